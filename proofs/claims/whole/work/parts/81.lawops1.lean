set_option maxHeartbeats 4000000 in
set_option maxRecDepth 100000 in
theorem lo_beds {p : Program} {l : Launch} {e : Env} {s : State} {m : MethodId} {below : List Frame} {meth : Method} {c : Code} {D : va_G} {cI cZ : ClassId} {b L kc ks : Nat} {xs : Nat → Int32} (C : gC p s m #[Value.ref b] c cL_law 4 RL D cI cZ) (hX : va_X b L xs s s.heap) (hbl : b < s.heap.size) (hL : L ≤ 2560) (hkR : kc ≤ room_1.cells ∧ ks ≤ room_1.slots) (k : Nat) (hk : 5 * k + 5 ≤ L) (aB aH aY aZ aD aP aQ aI aM : Nat → Nat) (aT : List (Nat → Nat)) (tB : WbS) (tH tY tZ : HouS) (tD : DayS) (tP : ParS) (tQ : GueS) (tI : InnS) (tT : List InnS) (tM : ModS) (hI : Inv tH tY tZ tD tT tM) (hlT : aT.length = 8)
    (next : ∀ (tB : WbS) (tH tY tZ : HouS) (tD : DayS) (tP : ParS) (tQ : GueS) (tI : InnS) (tT : List InnS) (tM : ModS), Inv tH tY tZ tD tT tM → G p l e room_1 s m #[Value.ref b] below meth c 4 D (fun q : Nat => s.heap.size ≤ q) s.heap kc ks (lw_Z below #[Value.ref b] s) [bC cI aB (aH 0) (aY 0) (aZ 0) (aD 0) (aP 0) (aQ 0) (aI 0) tB, hC cI aH tH, hC cI aY tY, hC cI aZ tZ, dC cI aD tD, pC cI aP tP, qC cI aQ tQ, iC cI aI (aH 0) (nx aT) tI, chW cI (aH 0) aT tT, mC cI cZ aM tM] 918 [(3, .int (nI (5 * k))), (2, .ref (aM 0)), (1, .ref (aB 0)), (0, .ref b)] []) : G p l e room_1 s m #[Value.ref b] below meth c 4 D (fun q : Nat => s.heap.size ≤ q) s.heap kc ks (lw_Z below #[Value.ref b] s) [bC cI aB (aH 0) (aY 0) (aZ 0) (aD 0) (aP 0) (aQ 0) (aI 0) tB, hC cI aH tH, hC cI aY tY, hC cI aZ tZ, dC cI aD tD, pC cI aP tP, qC cI aQ tQ, iC cI aI (aH 0) (nx aT) tI, chW cI (aH 0) aT tT, mC cI cZ aM tM] 156 [(3, .int (nI (5 * k))), (2, .ref (aM 0)), (1, .ref (aB 0)), (0, .ref b)] [] := by
  have hbA : ¬ (fun q : Nat => s.heap.size ≤ q) b := Nat.not_le.mpr hbl
  have hA : ∀ q : Nat, s.heap.size ≤ q → (fun q : Nat => s.heap.size ≤ q) q := fun _ h => h
  have hb1 : ¬ (nI (5 * k) + nI 1 < 0 ∨ L ≤ (nI (5 * k) + nI 1).toNatClampNeg) := by rw [nI_add]; exact vp_in_nI (by omega) (by omega)
  obtain ⟨r, wH, wM, h5, h6, hI2⟩ := op_beds tB tP tQ tI hI (xs (nI (5 * k) + nI 1).toNatClampNeg)
  obtain ⟨fsM, hM0⟩ := mC_get0 cI cZ aM tM
  refine gq_aload_n C 2 157 dL_law_156 rfl rfl ?_
  refine gq_aload_n C 3 158 dL_law_157 rfl rfl ?_
  refine gq_iload_n C 0 159 dL_law_158 rfl rfl ?_
  refine gq_iconst C (nI 1) 160 dL_law_159 (by decide) rfl ?_
  refine gq_iadd C 161 dL_law_160 rfl ?_
  refine gq_sld C hX hbl hbA 162 hb1 dL_law_161 rfl ?_
  refine gq_callV C hA gm_L_13 (c_X5_beds l D cI cZ aB (aY 0) (aZ 0) (aD 0) (aP 0) (aQ 0) (aI 0) aH (xs (nI (5 * k) + nI 1).toNatClampNeg) tB tH _ h5) rfl 0 0 rfl rfl rfl ⟨Nat.le_of_ble_eq_true rfl, Nat.le_of_ble_eq_true rfl⟩ hkR rfl (Nat.le_of_ble_eq_true rfl) dL_law_162 [0, 1] [bC cI aB (aH 0) (aY 0) (aZ 0) (aD 0) (aP 0) (aQ 0) (aI 0) tB, hC cI aH wH, hC cI aY tY, hC cI aZ tZ, dC cI aD tD, pC cI aP tP, qC cI aQ tQ, iC cI aI (aH 0) (nx aT) tI, chW cI (aH 0) aT tT, mC cI cZ aM tM] 165 rfl (by decide) (by simp only [List.map_cons, List.map_nil, bC_fst, hC_fst, dC_fst, pC_fst, qC_fst, iC_fst, mC_fst]) rfl rfl [.int r] rfl ?_
  refine gq_aload_n C 1 166 dL_law_165 rfl rfl ?_
  refine gq_aload_n C 3 167 dL_law_166 rfl rfl ?_
  refine gq_iload_n C 0 168 dL_law_167 rfl rfl ?_
  refine gq_iconst C (nI 1) 169 dL_law_168 (by decide) rfl ?_
  refine gq_iadd C 170 dL_law_169 rfl ?_
  refine gq_sld C hX hbl hbA 171 hb1 dL_law_170 rfl ?_
  refine gq_callV C hA gm_L_17 (c_X6_beds l D cI cZ aM (xs (nI (5 * k) + nI 1).toNatClampNeg) tM _ h6) rfl 9 0 rfl hM0 rfl ⟨Nat.le_of_ble_eq_true rfl, Nat.le_of_ble_eq_true rfl⟩ hkR rfl (Nat.le_of_ble_eq_true rfl) dL_law_171 [9] [bC cI aB (aH 0) (aY 0) (aZ 0) (aD 0) (aP 0) (aQ 0) (aI 0) tB, hC cI aH wH, hC cI aY tY, hC cI aZ tZ, dC cI aD tD, pC cI aP tP, qC cI aQ tQ, iC cI aI (aH 0) (nx aT) tI, chW cI (aH 0) aT tT, mC cI cZ aM wM] 174 rfl (by decide) (by simp only [List.map_cons, List.map_nil, bC_fst, hC_fst, dC_fst, pC_fst, qC_fst, iC_fst, mC_fst]) rfl rfl [.int r, .int r] rfl ?_
  refine gq_icmp_eq C 918 177 dL_law_174 (by decide) rfl (fun _ => ?_) (fun h => absurd rfl h)
  exact next tB wH tY tZ tD tP tQ tI tT wM hI2

set_option maxHeartbeats 4000000 in
set_option maxRecDepth 100000 in
theorem lo_worth {p : Program} {l : Launch} {e : Env} {s : State} {m : MethodId} {below : List Frame} {meth : Method} {c : Code} {D : va_G} {cI cZ : ClassId} {b L kc ks : Nat} {xs : Nat → Int32} (C : gC p s m #[Value.ref b] c cL_law 4 RL D cI cZ) (hX : va_X b L xs s s.heap) (hbl : b < s.heap.size) (hL : L ≤ 2560) (hkR : kc ≤ room_1.cells ∧ ks ≤ room_1.slots) (k : Nat) (hk : 5 * k + 5 ≤ L) (aB aH aY aZ aD aP aQ aI aM : Nat → Nat) (aT : List (Nat → Nat)) (tB : WbS) (tH tY tZ : HouS) (tD : DayS) (tP : ParS) (tQ : GueS) (tI : InnS) (tT : List InnS) (tM : ModS) (hI : Inv tH tY tZ tD tT tM) (hlT : aT.length = 8)
    (next : ∀ (tB : WbS) (tH tY tZ : HouS) (tD : DayS) (tP : ParS) (tQ : GueS) (tI : InnS) (tT : List InnS) (tM : ModS), Inv tH tY tZ tD tT tM → G p l e room_1 s m #[Value.ref b] below meth c 4 D (fun q : Nat => s.heap.size ≤ q) s.heap kc ks (lw_Z below #[Value.ref b] s) [bC cI aB (aH 0) (aY 0) (aZ 0) (aD 0) (aP 0) (aQ 0) (aI 0) tB, hC cI aH tH, hC cI aY tY, hC cI aZ tZ, dC cI aD tD, pC cI aP tP, qC cI aQ tQ, iC cI aI (aH 0) (nx aT) tI, chW cI (aH 0) aT tT, mC cI cZ aM tM] 918 [(3, .int (nI (5 * k))), (2, .ref (aM 0)), (1, .ref (aB 0)), (0, .ref b)] []) : G p l e room_1 s m #[Value.ref b] below meth c 4 D (fun q : Nat => s.heap.size ≤ q) s.heap kc ks (lw_Z below #[Value.ref b] s) [bC cI aB (aH 0) (aY 0) (aZ 0) (aD 0) (aP 0) (aQ 0) (aI 0) tB, hC cI aH tH, hC cI aY tY, hC cI aZ tZ, dC cI aD tD, pC cI aP tP, qC cI aQ tQ, iC cI aI (aH 0) (nx aT) tI, chW cI (aH 0) aT tT, mC cI cZ aM tM] 179 [(3, .int (nI (5 * k))), (2, .ref (aM 0)), (1, .ref (aB 0)), (0, .ref b)] [] := by
  have hbA : ¬ (fun q : Nat => s.heap.size ≤ q) b := Nat.not_le.mpr hbl
  have hA : ∀ q : Nat, s.heap.size ≤ q → (fun q : Nat => s.heap.size ≤ q) q := fun _ h => h
  have hb1 : ¬ (nI (5 * k) + nI 1 < 0 ∨ L ≤ (nI (5 * k) + nI 1).toNatClampNeg) := by rw [nI_add]; exact vp_in_nI (by omega) (by omega)
  have hb2 : ¬ (nI (5 * k) + nI 2 < 0 ∨ L ≤ (nI (5 * k) + nI 2).toNatClampNeg) := by rw [nI_add]; exact vp_in_nI (by omega) (by omega)
  have hb3 : ¬ (nI (5 * k) + nI 3 < 0 ∨ L ≤ (nI (5 * k) + nI 3).toNatClampNeg) := by rw [nI_add]; exact vp_in_nI (by omega) (by omega)
  obtain ⟨r, wH, wM, h5, h6, hI2⟩ := op_worth tB tP tQ tI hI (xs (nI (5 * k) + nI 1).toNatClampNeg) (xs (nI (5 * k) + nI 2).toNatClampNeg) (xs (nI (5 * k) + nI 3).toNatClampNeg)
  obtain ⟨fsM, hM0⟩ := mC_get0 cI cZ aM tM
  refine gq_aload_n C 2 180 dL_law_179 rfl rfl ?_
  refine gq_aload_n C 3 181 dL_law_180 rfl rfl ?_
  refine gq_iload_n C 0 182 dL_law_181 rfl rfl ?_
  refine gq_iconst C (nI 1) 183 dL_law_182 (by decide) rfl ?_
  refine gq_iadd C 184 dL_law_183 rfl ?_
  refine gq_sld C hX hbl hbA 185 hb1 dL_law_184 rfl ?_
  refine gq_aload_n C 3 186 dL_law_185 rfl rfl ?_
  refine gq_iload_n C 0 187 dL_law_186 rfl rfl ?_
  refine gq_iconst C (nI 2) 188 dL_law_187 (by decide) rfl ?_
  refine gq_iadd C 189 dL_law_188 rfl ?_
  refine gq_sld C hX hbl hbA 190 hb2 dL_law_189 rfl ?_
  refine gq_aload_n C 3 191 dL_law_190 rfl rfl ?_
  refine gq_iload_n C 0 192 dL_law_191 rfl rfl ?_
  refine gq_iconst C (nI 3) 193 dL_law_192 (by decide) rfl ?_
  refine gq_iadd C 194 dL_law_193 rfl ?_
  refine gq_sld C hX hbl hbA 195 hb3 dL_law_194 rfl ?_
  refine gq_callV C hA gm_L_18 (c_X5_worth l D cI cZ aB (aY 0) (aZ 0) (aD 0) (aP 0) (aQ 0) (aI 0) aH (xs (nI (5 * k) + nI 1).toNatClampNeg) (xs (nI (5 * k) + nI 2).toNatClampNeg) (xs (nI (5 * k) + nI 3).toNatClampNeg) tB tH _ h5) rfl 0 0 rfl rfl rfl ⟨Nat.le_of_ble_eq_true rfl, Nat.le_of_ble_eq_true rfl⟩ hkR rfl (Nat.le_of_ble_eq_true rfl) dL_law_195 [0, 1] [bC cI aB (aH 0) (aY 0) (aZ 0) (aD 0) (aP 0) (aQ 0) (aI 0) tB, hC cI aH wH, hC cI aY tY, hC cI aZ tZ, dC cI aD tD, pC cI aP tP, qC cI aQ tQ, iC cI aI (aH 0) (nx aT) tI, chW cI (aH 0) aT tT, mC cI cZ aM tM] 198 rfl (by decide) (by simp only [List.map_cons, List.map_nil, bC_fst, hC_fst, dC_fst, pC_fst, qC_fst, iC_fst, mC_fst]) rfl rfl [.int r] rfl ?_
  refine gq_aload_n C 1 199 dL_law_198 rfl rfl ?_
  refine gq_aload_n C 3 200 dL_law_199 rfl rfl ?_
  refine gq_iload_n C 0 201 dL_law_200 rfl rfl ?_
  refine gq_iconst C (nI 1) 202 dL_law_201 (by decide) rfl ?_
  refine gq_iadd C 203 dL_law_202 rfl ?_
  refine gq_sld C hX hbl hbA 204 hb1 dL_law_203 rfl ?_
  refine gq_aload_n C 3 205 dL_law_204 rfl rfl ?_
  refine gq_iload_n C 0 206 dL_law_205 rfl rfl ?_
  refine gq_iconst C (nI 2) 207 dL_law_206 (by decide) rfl ?_
  refine gq_iadd C 208 dL_law_207 rfl ?_
  refine gq_sld C hX hbl hbA 209 hb2 dL_law_208 rfl ?_
  refine gq_aload_n C 3 210 dL_law_209 rfl rfl ?_
  refine gq_iload_n C 0 211 dL_law_210 rfl rfl ?_
  refine gq_iconst C (nI 3) 212 dL_law_211 (by decide) rfl ?_
  refine gq_iadd C 213 dL_law_212 rfl ?_
  refine gq_sld C hX hbl hbA 214 hb3 dL_law_213 rfl ?_
  refine gq_callV C hA gm_L_22 (c_X6_worth l D cI cZ aM (xs (nI (5 * k) + nI 1).toNatClampNeg) (xs (nI (5 * k) + nI 2).toNatClampNeg) (xs (nI (5 * k) + nI 3).toNatClampNeg) tM _ h6) rfl 9 0 rfl hM0 rfl ⟨Nat.le_of_ble_eq_true rfl, Nat.le_of_ble_eq_true rfl⟩ hkR rfl (Nat.le_of_ble_eq_true rfl) dL_law_214 [9] [bC cI aB (aH 0) (aY 0) (aZ 0) (aD 0) (aP 0) (aQ 0) (aI 0) tB, hC cI aH wH, hC cI aY tY, hC cI aZ tZ, dC cI aD tD, pC cI aP tP, qC cI aQ tQ, iC cI aI (aH 0) (nx aT) tI, chW cI (aH 0) aT tT, mC cI cZ aM wM] 217 rfl (by decide) (by simp only [List.map_cons, List.map_nil, bC_fst, hC_fst, dC_fst, pC_fst, qC_fst, iC_fst, mC_fst]) rfl rfl [.int r, .int r] rfl ?_
  refine gq_icmp_eq C 918 220 dL_law_217 (by decide) rfl (fun _ => ?_) (fun h => absurd rfl h)
  exact next tB wH tY tZ tD tP tQ tI tT wM hI2

set_option maxHeartbeats 4000000 in
set_option maxRecDepth 100000 in
theorem lo_rule {p : Program} {l : Launch} {e : Env} {s : State} {m : MethodId} {below : List Frame} {meth : Method} {c : Code} {D : va_G} {cI cZ : ClassId} {b L kc ks : Nat} {xs : Nat → Int32} (C : gC p s m #[Value.ref b] c cL_law 4 RL D cI cZ) (hX : va_X b L xs s s.heap) (hbl : b < s.heap.size) (hL : L ≤ 2560) (hkR : kc ≤ room_1.cells ∧ ks ≤ room_1.slots) (k : Nat) (hk : 5 * k + 5 ≤ L) (aB aH aY aZ aD aP aQ aI aM : Nat → Nat) (aT : List (Nat → Nat)) (tB : WbS) (tH tY tZ : HouS) (tD : DayS) (tP : ParS) (tQ : GueS) (tI : InnS) (tT : List InnS) (tM : ModS) (hI : Inv tH tY tZ tD tT tM) (hlT : aT.length = 8)
    (next : ∀ (tB : WbS) (tH tY tZ : HouS) (tD : DayS) (tP : ParS) (tQ : GueS) (tI : InnS) (tT : List InnS) (tM : ModS), Inv tH tY tZ tD tT tM → G p l e room_1 s m #[Value.ref b] below meth c 4 D (fun q : Nat => s.heap.size ≤ q) s.heap kc ks (lw_Z below #[Value.ref b] s) [bC cI aB (aH 0) (aY 0) (aZ 0) (aD 0) (aP 0) (aQ 0) (aI 0) tB, hC cI aH tH, hC cI aY tY, hC cI aZ tZ, dC cI aD tD, pC cI aP tP, qC cI aQ tQ, iC cI aI (aH 0) (nx aT) tI, chW cI (aH 0) aT tT, mC cI cZ aM tM] 918 [(3, .int (nI (5 * k))), (2, .ref (aM 0)), (1, .ref (aB 0)), (0, .ref b)] []) : G p l e room_1 s m #[Value.ref b] below meth c 4 D (fun q : Nat => s.heap.size ≤ q) s.heap kc ks (lw_Z below #[Value.ref b] s) [bC cI aB (aH 0) (aY 0) (aZ 0) (aD 0) (aP 0) (aQ 0) (aI 0) tB, hC cI aH tH, hC cI aY tY, hC cI aZ tZ, dC cI aD tD, pC cI aP tP, qC cI aQ tQ, iC cI aI (aH 0) (nx aT) tI, chW cI (aH 0) aT tT, mC cI cZ aM tM] 222 [(3, .int (nI (5 * k))), (2, .ref (aM 0)), (1, .ref (aB 0)), (0, .ref b)] [] := by
  have hbA : ¬ (fun q : Nat => s.heap.size ≤ q) b := Nat.not_le.mpr hbl
  have hA : ∀ q : Nat, s.heap.size ≤ q → (fun q : Nat => s.heap.size ≤ q) q := fun _ h => h
  have hb1 : ¬ (nI (5 * k) + nI 1 < 0 ∨ L ≤ (nI (5 * k) + nI 1).toNatClampNeg) := by rw [nI_add]; exact vp_in_nI (by omega) (by omega)
  obtain ⟨r, wH, wM, h5, h6, hI2⟩ := op_rule tB tP tQ tI hI (xs (nI (5 * k) + nI 1).toNatClampNeg)
  obtain ⟨fsM, hM0⟩ := mC_get0 cI cZ aM tM
  refine gq_aload_n C 2 223 dL_law_222 rfl rfl ?_
  refine gq_aload_n C 3 224 dL_law_223 rfl rfl ?_
  refine gq_iload_n C 0 225 dL_law_224 rfl rfl ?_
  refine gq_iconst C (nI 1) 226 dL_law_225 (by decide) rfl ?_
  refine gq_iadd C 227 dL_law_226 rfl ?_
  refine gq_sld C hX hbl hbA 228 hb1 dL_law_227 rfl ?_
  refine gq_callV C hA gm_L_23 (c_X5_rule l D cI cZ aB (aY 0) (aZ 0) (aD 0) (aP 0) (aQ 0) (aI 0) aH (xs (nI (5 * k) + nI 1).toNatClampNeg) tB tH _ h5) rfl 0 0 rfl rfl rfl ⟨Nat.le_of_ble_eq_true rfl, Nat.le_of_ble_eq_true rfl⟩ hkR rfl (Nat.le_of_ble_eq_true rfl) dL_law_228 [0, 1] [bC cI aB (aH 0) (aY 0) (aZ 0) (aD 0) (aP 0) (aQ 0) (aI 0) tB, hC cI aH wH, hC cI aY tY, hC cI aZ tZ, dC cI aD tD, pC cI aP tP, qC cI aQ tQ, iC cI aI (aH 0) (nx aT) tI, chW cI (aH 0) aT tT, mC cI cZ aM tM] 231 rfl (by decide) (by simp only [List.map_cons, List.map_nil, bC_fst, hC_fst, dC_fst, pC_fst, qC_fst, iC_fst, mC_fst]) rfl rfl [.int r] rfl ?_
  refine gq_aload_n C 1 232 dL_law_231 rfl rfl ?_
  refine gq_aload_n C 3 233 dL_law_232 rfl rfl ?_
  refine gq_iload_n C 0 234 dL_law_233 rfl rfl ?_
  refine gq_iconst C (nI 1) 235 dL_law_234 (by decide) rfl ?_
  refine gq_iadd C 236 dL_law_235 rfl ?_
  refine gq_sld C hX hbl hbA 237 hb1 dL_law_236 rfl ?_
  refine gq_callV C hA gm_L_26 (c_X6_rule l D cI cZ aM (xs (nI (5 * k) + nI 1).toNatClampNeg) tM _ h6) rfl 9 0 rfl hM0 rfl ⟨Nat.le_of_ble_eq_true rfl, Nat.le_of_ble_eq_true rfl⟩ hkR rfl (Nat.le_of_ble_eq_true rfl) dL_law_237 [9] [bC cI aB (aH 0) (aY 0) (aZ 0) (aD 0) (aP 0) (aQ 0) (aI 0) tB, hC cI aH wH, hC cI aY tY, hC cI aZ tZ, dC cI aD tD, pC cI aP tP, qC cI aQ tQ, iC cI aI (aH 0) (nx aT) tI, chW cI (aH 0) aT tT, mC cI cZ aM wM] 240 rfl (by decide) (by simp only [List.map_cons, List.map_nil, bC_fst, hC_fst, dC_fst, pC_fst, qC_fst, iC_fst, mC_fst]) rfl rfl [.int r, .int r] rfl ?_
  refine gq_icmp_eq C 918 243 dL_law_240 (by decide) rfl (fun _ => ?_) (fun h => absurd rfl h)
  exact next tB wH tY tZ tD tP tQ tI tT wM hI2

set_option maxHeartbeats 4000000 in
set_option maxRecDepth 100000 in
theorem lo_say {p : Program} {l : Launch} {e : Env} {s : State} {m : MethodId} {below : List Frame} {meth : Method} {c : Code} {D : va_G} {cI cZ : ClassId} {b L kc ks : Nat} {xs : Nat → Int32} (C : gC p s m #[Value.ref b] c cL_law 4 RL D cI cZ) (hX : va_X b L xs s s.heap) (hbl : b < s.heap.size) (hL : L ≤ 2560) (hkR : kc ≤ room_1.cells ∧ ks ≤ room_1.slots) (k : Nat) (hk : 5 * k + 5 ≤ L) (aB aH aY aZ aD aP aQ aI aM : Nat → Nat) (aT : List (Nat → Nat)) (tB : WbS) (tH tY tZ : HouS) (tD : DayS) (tP : ParS) (tQ : GueS) (tI : InnS) (tT : List InnS) (tM : ModS) (hI : Inv tH tY tZ tD tT tM) (hlT : aT.length = 8)
    (next : ∀ (tB : WbS) (tH tY tZ : HouS) (tD : DayS) (tP : ParS) (tQ : GueS) (tI : InnS) (tT : List InnS) (tM : ModS), Inv tH tY tZ tD tT tM → G p l e room_1 s m #[Value.ref b] below meth c 4 D (fun q : Nat => s.heap.size ≤ q) s.heap kc ks (lw_Z below #[Value.ref b] s) [bC cI aB (aH 0) (aY 0) (aZ 0) (aD 0) (aP 0) (aQ 0) (aI 0) tB, hC cI aH tH, hC cI aY tY, hC cI aZ tZ, dC cI aD tD, pC cI aP tP, qC cI aQ tQ, iC cI aI (aH 0) (nx aT) tI, chW cI (aH 0) aT tT, mC cI cZ aM tM] 918 [(3, .int (nI (5 * k))), (2, .ref (aM 0)), (1, .ref (aB 0)), (0, .ref b)] []) : G p l e room_1 s m #[Value.ref b] below meth c 4 D (fun q : Nat => s.heap.size ≤ q) s.heap kc ks (lw_Z below #[Value.ref b] s) [bC cI aB (aH 0) (aY 0) (aZ 0) (aD 0) (aP 0) (aQ 0) (aI 0) tB, hC cI aH tH, hC cI aY tY, hC cI aZ tZ, dC cI aD tD, pC cI aP tP, qC cI aQ tQ, iC cI aI (aH 0) (nx aT) tI, chW cI (aH 0) aT tT, mC cI cZ aM tM] 245 [(3, .int (nI (5 * k))), (2, .ref (aM 0)), (1, .ref (aB 0)), (0, .ref b)] [] := by
  have hbA : ¬ (fun q : Nat => s.heap.size ≤ q) b := Nat.not_le.mpr hbl
  have hA : ∀ q : Nat, s.heap.size ≤ q → (fun q : Nat => s.heap.size ≤ q) q := fun _ h => h
  have hb1 : ¬ (nI (5 * k) + nI 1 < 0 ∨ L ≤ (nI (5 * k) + nI 1).toNatClampNeg) := by rw [nI_add]; exact vp_in_nI (by omega) (by omega)
  obtain ⟨r, wD, wM, h5, h6, hI2⟩ := op_say tB tP tQ tI hI (xs (nI (5 * k) + nI 1).toNatClampNeg)
  obtain ⟨fsM, hM0⟩ := mC_get0 cI cZ aM tM
  refine gq_aload_n C 2 246 dL_law_245 rfl rfl ?_
  refine gq_aload_n C 3 247 dL_law_246 rfl rfl ?_
  refine gq_iload_n C 0 248 dL_law_247 rfl rfl ?_
  refine gq_iconst C (nI 1) 249 dL_law_248 (by decide) rfl ?_
  refine gq_iadd C 250 dL_law_249 rfl ?_
  refine gq_sld C hX hbl hbA 251 hb1 dL_law_250 rfl ?_
  refine gq_callV C hA gm_L_27 (c_X5_say l D cI cZ aB (aH 0) (aY 0) (aZ 0) (aP 0) (aQ 0) (aI 0) aD (xs (nI (5 * k) + nI 1).toNatClampNeg) tB tD _ h5) rfl 0 0 rfl rfl rfl ⟨Nat.le_of_ble_eq_true rfl, Nat.le_of_ble_eq_true rfl⟩ hkR rfl (Nat.le_of_ble_eq_true rfl) dL_law_251 [0, 4] [bC cI aB (aH 0) (aY 0) (aZ 0) (aD 0) (aP 0) (aQ 0) (aI 0) tB, hC cI aH tH, hC cI aY tY, hC cI aZ tZ, dC cI aD wD, pC cI aP tP, qC cI aQ tQ, iC cI aI (aH 0) (nx aT) tI, chW cI (aH 0) aT tT, mC cI cZ aM tM] 254 rfl (by decide) (by simp only [List.map_cons, List.map_nil, bC_fst, hC_fst, dC_fst, pC_fst, qC_fst, iC_fst, mC_fst]) rfl rfl [.int r] rfl ?_
  refine gq_aload_n C 1 255 dL_law_254 rfl rfl ?_
  refine gq_aload_n C 3 256 dL_law_255 rfl rfl ?_
  refine gq_iload_n C 0 257 dL_law_256 rfl rfl ?_
  refine gq_iconst C (nI 1) 258 dL_law_257 (by decide) rfl ?_
  refine gq_iadd C 259 dL_law_258 rfl ?_
  refine gq_sld C hX hbl hbA 260 hb1 dL_law_259 rfl ?_
  refine gq_callV C hA gm_L_30 (c_X6_say l D cI cZ aM (xs (nI (5 * k) + nI 1).toNatClampNeg) tM _ h6) rfl 9 0 rfl hM0 rfl ⟨Nat.le_of_ble_eq_true rfl, Nat.le_of_ble_eq_true rfl⟩ hkR rfl (Nat.le_of_ble_eq_true rfl) dL_law_260 [9] [bC cI aB (aH 0) (aY 0) (aZ 0) (aD 0) (aP 0) (aQ 0) (aI 0) tB, hC cI aH tH, hC cI aY tY, hC cI aZ tZ, dC cI aD wD, pC cI aP tP, qC cI aQ tQ, iC cI aI (aH 0) (nx aT) tI, chW cI (aH 0) aT tT, mC cI cZ aM wM] 263 rfl (by decide) (by simp only [List.map_cons, List.map_nil, bC_fst, hC_fst, dC_fst, pC_fst, qC_fst, iC_fst, mC_fst]) rfl rfl [.int r, .int r] rfl ?_
  refine gq_icmp_eq C 918 266 dL_law_263 (by decide) rfl (fun _ => ?_) (fun h => absurd rfl h)
  exact next tB tH tY tZ wD tP tQ tI tT wM hI2

set_option maxHeartbeats 4000000 in
set_option maxRecDepth 100000 in
theorem lo_wipe {p : Program} {l : Launch} {e : Env} {s : State} {m : MethodId} {below : List Frame} {meth : Method} {c : Code} {D : va_G} {cI cZ : ClassId} {b L kc ks : Nat} {xs : Nat → Int32} (C : gC p s m #[Value.ref b] c cL_law 4 RL D cI cZ) (hX : va_X b L xs s s.heap) (hbl : b < s.heap.size) (hL : L ≤ 2560) (hkR : kc ≤ room_1.cells ∧ ks ≤ room_1.slots) (k : Nat) (hk : 5 * k + 5 ≤ L) (aB aH aY aZ aD aP aQ aI aM : Nat → Nat) (aT : List (Nat → Nat)) (tB : WbS) (tH tY tZ : HouS) (tD : DayS) (tP : ParS) (tQ : GueS) (tI : InnS) (tT : List InnS) (tM : ModS) (hI : Inv tH tY tZ tD tT tM) (hlT : aT.length = 8)
    (next : ∀ (tB : WbS) (tH tY tZ : HouS) (tD : DayS) (tP : ParS) (tQ : GueS) (tI : InnS) (tT : List InnS) (tM : ModS), Inv tH tY tZ tD tT tM → G p l e room_1 s m #[Value.ref b] below meth c 4 D (fun q : Nat => s.heap.size ≤ q) s.heap kc ks (lw_Z below #[Value.ref b] s) [bC cI aB (aH 0) (aY 0) (aZ 0) (aD 0) (aP 0) (aQ 0) (aI 0) tB, hC cI aH tH, hC cI aY tY, hC cI aZ tZ, dC cI aD tD, pC cI aP tP, qC cI aQ tQ, iC cI aI (aH 0) (nx aT) tI, chW cI (aH 0) aT tT, mC cI cZ aM tM] 918 [(3, .int (nI (5 * k))), (2, .ref (aM 0)), (1, .ref (aB 0)), (0, .ref b)] []) : G p l e room_1 s m #[Value.ref b] below meth c 4 D (fun q : Nat => s.heap.size ≤ q) s.heap kc ks (lw_Z below #[Value.ref b] s) [bC cI aB (aH 0) (aY 0) (aZ 0) (aD 0) (aP 0) (aQ 0) (aI 0) tB, hC cI aH tH, hC cI aY tY, hC cI aZ tZ, dC cI aD tD, pC cI aP tP, qC cI aQ tQ, iC cI aI (aH 0) (nx aT) tI, chW cI (aH 0) aT tT, mC cI cZ aM tM] 268 [(3, .int (nI (5 * k))), (2, .ref (aM 0)), (1, .ref (aB 0)), (0, .ref b)] [] := by
  have hbA : ¬ (fun q : Nat => s.heap.size ≤ q) b := Nat.not_le.mpr hbl
  have hA : ∀ q : Nat, s.heap.size ≤ q → (fun q : Nat => s.heap.size ≤ q) q := fun _ h => h
  obtain ⟨r, wD, wM, h5, h6, hI2⟩ := op_wipe tB tP tQ tI hI 
  obtain ⟨fsM, hM0⟩ := mC_get0 cI cZ aM tM
  refine gq_aload_n C 2 269 dL_law_268 rfl rfl ?_
  refine gq_callV C hA gm_L_31 (c_X5_wipe l D cI cZ aB (aH 0) (aY 0) (aZ 0) (aP 0) (aQ 0) (aI 0) aD tB tD _ h5) rfl 0 0 rfl rfl rfl ⟨Nat.le_of_ble_eq_true rfl, Nat.le_of_ble_eq_true rfl⟩ hkR rfl (Nat.le_of_ble_eq_true rfl) dL_law_269 [0, 4] [bC cI aB (aH 0) (aY 0) (aZ 0) (aD 0) (aP 0) (aQ 0) (aI 0) tB, hC cI aH tH, hC cI aY tY, hC cI aZ tZ, dC cI aD wD, pC cI aP tP, qC cI aQ tQ, iC cI aI (aH 0) (nx aT) tI, chW cI (aH 0) aT tT, mC cI cZ aM tM] 272 rfl (by decide) (by simp only [List.map_cons, List.map_nil, bC_fst, hC_fst, dC_fst, pC_fst, qC_fst, iC_fst, mC_fst]) rfl rfl [.int r] rfl ?_
  refine gq_aload_n C 1 273 dL_law_272 rfl rfl ?_
  refine gq_callV C hA gm_L_35 (c_X6_wipe l D cI cZ aM tM _ h6) rfl 9 0 rfl hM0 rfl ⟨Nat.le_of_ble_eq_true rfl, Nat.le_of_ble_eq_true rfl⟩ hkR rfl (Nat.le_of_ble_eq_true rfl) dL_law_273 [9] [bC cI aB (aH 0) (aY 0) (aZ 0) (aD 0) (aP 0) (aQ 0) (aI 0) tB, hC cI aH tH, hC cI aY tY, hC cI aZ tZ, dC cI aD wD, pC cI aP tP, qC cI aQ tQ, iC cI aI (aH 0) (nx aT) tI, chW cI (aH 0) aT tT, mC cI cZ aM wM] 276 rfl (by decide) (by simp only [List.map_cons, List.map_nil, bC_fst, hC_fst, dC_fst, pC_fst, qC_fst, iC_fst, mC_fst]) rfl rfl [.int r, .int r] rfl ?_
  refine gq_icmp_eq C 918 279 dL_law_276 (by decide) rfl (fun _ => ?_) (fun h => absurd rfl h)
  exact next tB tH tY tZ wD tP tQ tI tT wM hI2

set_option maxHeartbeats 4000000 in
set_option maxRecDepth 100000 in
theorem lo_fault {p : Program} {l : Launch} {e : Env} {s : State} {m : MethodId} {below : List Frame} {meth : Method} {c : Code} {D : va_G} {cI cZ : ClassId} {b L kc ks : Nat} {xs : Nat → Int32} (C : gC p s m #[Value.ref b] c cL_law 4 RL D cI cZ) (hX : va_X b L xs s s.heap) (hbl : b < s.heap.size) (hL : L ≤ 2560) (hkR : kc ≤ room_1.cells ∧ ks ≤ room_1.slots) (k : Nat) (hk : 5 * k + 5 ≤ L) (aB aH aY aZ aD aP aQ aI aM : Nat → Nat) (aT : List (Nat → Nat)) (tB : WbS) (tH tY tZ : HouS) (tD : DayS) (tP : ParS) (tQ : GueS) (tI : InnS) (tT : List InnS) (tM : ModS) (hI : Inv tH tY tZ tD tT tM) (hlT : aT.length = 8)
    (next : ∀ (tB : WbS) (tH tY tZ : HouS) (tD : DayS) (tP : ParS) (tQ : GueS) (tI : InnS) (tT : List InnS) (tM : ModS), Inv tH tY tZ tD tT tM → G p l e room_1 s m #[Value.ref b] below meth c 4 D (fun q : Nat => s.heap.size ≤ q) s.heap kc ks (lw_Z below #[Value.ref b] s) [bC cI aB (aH 0) (aY 0) (aZ 0) (aD 0) (aP 0) (aQ 0) (aI 0) tB, hC cI aH tH, hC cI aY tY, hC cI aZ tZ, dC cI aD tD, pC cI aP tP, qC cI aQ tQ, iC cI aI (aH 0) (nx aT) tI, chW cI (aH 0) aT tT, mC cI cZ aM tM] 918 [(3, .int (nI (5 * k))), (2, .ref (aM 0)), (1, .ref (aB 0)), (0, .ref b)] []) : G p l e room_1 s m #[Value.ref b] below meth c 4 D (fun q : Nat => s.heap.size ≤ q) s.heap kc ks (lw_Z below #[Value.ref b] s) [bC cI aB (aH 0) (aY 0) (aZ 0) (aD 0) (aP 0) (aQ 0) (aI 0) tB, hC cI aH tH, hC cI aY tY, hC cI aZ tZ, dC cI aD tD, pC cI aP tP, qC cI aQ tQ, iC cI aI (aH 0) (nx aT) tI, chW cI (aH 0) aT tT, mC cI cZ aM tM] 281 [(3, .int (nI (5 * k))), (2, .ref (aM 0)), (1, .ref (aB 0)), (0, .ref b)] [] := by
  have hbA : ¬ (fun q : Nat => s.heap.size ≤ q) b := Nat.not_le.mpr hbl
  have hA : ∀ q : Nat, s.heap.size ≤ q → (fun q : Nat => s.heap.size ≤ q) q := fun _ h => h
  obtain ⟨r, h5, h6, hI2⟩ := op_fault tB tP tQ tI hI 
  obtain ⟨fsM, hM0⟩ := mC_get0 cI cZ aM tM
  refine gq_aload_n C 2 282 dL_law_281 rfl rfl ?_
  refine gq_callV C hA gm_L_36 (c_X5_fault l D cI cZ aB (aH 0) (aY 0) (aZ 0) (aP 0) (aQ 0) (aI 0) aD tB tD _ h5) rfl 0 0 rfl rfl rfl ⟨Nat.le_of_ble_eq_true rfl, Nat.le_of_ble_eq_true rfl⟩ hkR rfl (Nat.le_of_ble_eq_true rfl) dL_law_282 [0, 4] [bC cI aB (aH 0) (aY 0) (aZ 0) (aD 0) (aP 0) (aQ 0) (aI 0) tB, hC cI aH tH, hC cI aY tY, hC cI aZ tZ, dC cI aD tD, pC cI aP tP, qC cI aQ tQ, iC cI aI (aH 0) (nx aT) tI, chW cI (aH 0) aT tT, mC cI cZ aM tM] 285 rfl (by decide) (by simp only [List.map_cons, List.map_nil, bC_fst, hC_fst, dC_fst, pC_fst, qC_fst, iC_fst, mC_fst]) rfl rfl [.int r] rfl ?_
  refine gq_aload_n C 1 286 dL_law_285 rfl rfl ?_
  refine gq_callV C hA gm_L_39 (c_X6_fault l D cI cZ aM tM _ h6) rfl 9 0 rfl hM0 rfl ⟨Nat.le_of_ble_eq_true rfl, Nat.le_of_ble_eq_true rfl⟩ hkR rfl (Nat.le_of_ble_eq_true rfl) dL_law_286 [9] [bC cI aB (aH 0) (aY 0) (aZ 0) (aD 0) (aP 0) (aQ 0) (aI 0) tB, hC cI aH tH, hC cI aY tY, hC cI aZ tZ, dC cI aD tD, pC cI aP tP, qC cI aQ tQ, iC cI aI (aH 0) (nx aT) tI, chW cI (aH 0) aT tT, mC cI cZ aM tM] 289 rfl (by decide) (by simp only [List.map_cons, List.map_nil, bC_fst, hC_fst, dC_fst, pC_fst, qC_fst, iC_fst, mC_fst]) rfl rfl [.int r, .int r] rfl ?_
  refine gq_icmp_eq C 918 292 dL_law_289 (by decide) rfl (fun _ => ?_) (fun h => absurd rfl h)
  exact next tB tH tY tZ tD tP tQ tI tT tM hI2

set_option maxHeartbeats 4000000 in
set_option maxRecDepth 100000 in
theorem lo_judge {p : Program} {l : Launch} {e : Env} {s : State} {m : MethodId} {below : List Frame} {meth : Method} {c : Code} {D : va_G} {cI cZ : ClassId} {b L kc ks : Nat} {xs : Nat → Int32} (C : gC p s m #[Value.ref b] c cL_law 4 RL D cI cZ) (hX : va_X b L xs s s.heap) (hbl : b < s.heap.size) (hL : L ≤ 2560) (hkR : kc ≤ room_1.cells ∧ ks ≤ room_1.slots) (k : Nat) (hk : 5 * k + 5 ≤ L) (aB aH aY aZ aD aP aQ aI aM : Nat → Nat) (aT : List (Nat → Nat)) (tB : WbS) (tH tY tZ : HouS) (tD : DayS) (tP : ParS) (tQ : GueS) (tI : InnS) (tT : List InnS) (tM : ModS) (hI : Inv tH tY tZ tD tT tM) (hlT : aT.length = 8)
    (next : ∀ (tB : WbS) (tH tY tZ : HouS) (tD : DayS) (tP : ParS) (tQ : GueS) (tI : InnS) (tT : List InnS) (tM : ModS), Inv tH tY tZ tD tT tM → G p l e room_1 s m #[Value.ref b] below meth c 4 D (fun q : Nat => s.heap.size ≤ q) s.heap kc ks (lw_Z below #[Value.ref b] s) [bC cI aB (aH 0) (aY 0) (aZ 0) (aD 0) (aP 0) (aQ 0) (aI 0) tB, hC cI aH tH, hC cI aY tY, hC cI aZ tZ, dC cI aD tD, pC cI aP tP, qC cI aQ tQ, iC cI aI (aH 0) (nx aT) tI, chW cI (aH 0) aT tT, mC cI cZ aM tM] 918 [(3, .int (nI (5 * k))), (2, .ref (aM 0)), (1, .ref (aB 0)), (0, .ref b)] []) : G p l e room_1 s m #[Value.ref b] below meth c 4 D (fun q : Nat => s.heap.size ≤ q) s.heap kc ks (lw_Z below #[Value.ref b] s) [bC cI aB (aH 0) (aY 0) (aZ 0) (aD 0) (aP 0) (aQ 0) (aI 0) tB, hC cI aH tH, hC cI aY tY, hC cI aZ tZ, dC cI aD tD, pC cI aP tP, qC cI aQ tQ, iC cI aI (aH 0) (nx aT) tI, chW cI (aH 0) aT tT, mC cI cZ aM tM] 294 [(3, .int (nI (5 * k))), (2, .ref (aM 0)), (1, .ref (aB 0)), (0, .ref b)] [] := by
  have hbA : ¬ (fun q : Nat => s.heap.size ≤ q) b := Nat.not_le.mpr hbl
  have hA : ∀ q : Nat, s.heap.size ≤ q → (fun q : Nat => s.heap.size ≤ q) q := fun _ h => h
  have hb1 : ¬ (nI (5 * k) + nI 1 < 0 ∨ L ≤ (nI (5 * k) + nI 1).toNatClampNeg) := by rw [nI_add]; exact vp_in_nI (by omega) (by omega)
  obtain ⟨r, wI, wM, h5, h6, hI2⟩ := op_judge tB tP tQ tI hI (xs (nI (5 * k) + nI 1).toNatClampNeg)
  obtain ⟨fsM, hM0⟩ := mC_get0 cI cZ aM tM
  refine gq_aload_n C 2 295 dL_law_294 rfl rfl ?_
  refine gq_aload_n C 3 296 dL_law_295 rfl rfl ?_
  refine gq_iload_n C 0 297 dL_law_296 rfl rfl ?_
  refine gq_iconst C (nI 1) 298 dL_law_297 (by decide) rfl ?_
  refine gq_iadd C 299 dL_law_298 rfl ?_
  refine gq_sld C hX hbl hbA 300 hb1 dL_law_299 rfl ?_
  refine gq_callV C hA gm_L_40 (c_X5_judge l D cI cZ aB (aY 0) (aZ 0) (aP 0) (aQ 0) aH aD aI (nx aT) (xs (nI (5 * k) + nI 1).toNatClampNeg) tB tH tD tI _ h5) rfl 0 0 rfl rfl rfl ⟨Nat.le_of_ble_eq_true rfl, Nat.le_of_ble_eq_true rfl⟩ hkR rfl (Nat.le_of_ble_eq_true rfl) dL_law_300 [0, 1, 4, 7] [bC cI aB (aH 0) (aY 0) (aZ 0) (aD 0) (aP 0) (aQ 0) (aI 0) tB, hC cI aH tH, hC cI aY tY, hC cI aZ tZ, dC cI aD tD, pC cI aP tP, qC cI aQ tQ, iC cI aI (aH 0) (nx aT) wI, chW cI (aH 0) aT tT, mC cI cZ aM tM] 303 rfl (by decide) (by simp only [List.map_cons, List.map_nil, bC_fst, hC_fst, dC_fst, pC_fst, qC_fst, iC_fst, mC_fst]) rfl rfl [.int r] rfl ?_
  refine gq_aload_n C 1 304 dL_law_303 rfl rfl ?_
  refine gq_aload_n C 3 305 dL_law_304 rfl rfl ?_
  refine gq_iload_n C 0 306 dL_law_305 rfl rfl ?_
  refine gq_iconst C (nI 1) 307 dL_law_306 (by decide) rfl ?_
  refine gq_iadd C 308 dL_law_307 rfl ?_
  refine gq_sld C hX hbl hbA 309 hb1 dL_law_308 rfl ?_
  refine gq_callV C hA gm_L_43 (c_X6_judge l D cI cZ aM (xs (nI (5 * k) + nI 1).toNatClampNeg) tM _ h6) rfl 9 0 rfl hM0 rfl ⟨Nat.le_of_ble_eq_true rfl, Nat.le_of_ble_eq_true rfl⟩ hkR rfl (Nat.le_of_ble_eq_true rfl) dL_law_309 [9] [bC cI aB (aH 0) (aY 0) (aZ 0) (aD 0) (aP 0) (aQ 0) (aI 0) tB, hC cI aH tH, hC cI aY tY, hC cI aZ tZ, dC cI aD tD, pC cI aP tP, qC cI aQ tQ, iC cI aI (aH 0) (nx aT) wI, chW cI (aH 0) aT tT, mC cI cZ aM wM] 312 rfl (by decide) (by simp only [List.map_cons, List.map_nil, bC_fst, hC_fst, dC_fst, pC_fst, qC_fst, iC_fst, mC_fst]) rfl rfl [.int r, .int r] rfl ?_
  refine gq_icmp_eq C 918 315 dL_law_312 (by decide) rfl (fun _ => ?_) (fun h => absurd rfl h)
  exact next tB tH tY tZ tD tP tQ wI tT wM hI2

set_option maxHeartbeats 4000000 in
set_option maxRecDepth 100000 in
theorem lo_bed {p : Program} {l : Launch} {e : Env} {s : State} {m : MethodId} {below : List Frame} {meth : Method} {c : Code} {D : va_G} {cI cZ : ClassId} {b L kc ks : Nat} {xs : Nat → Int32} (C : gC p s m #[Value.ref b] c cL_law 4 RL D cI cZ) (hX : va_X b L xs s s.heap) (hbl : b < s.heap.size) (hL : L ≤ 2560) (hkR : kc ≤ room_1.cells ∧ ks ≤ room_1.slots) (k : Nat) (hk : 5 * k + 5 ≤ L) (aB aH aY aZ aD aP aQ aI aM : Nat → Nat) (aT : List (Nat → Nat)) (tB : WbS) (tH tY tZ : HouS) (tD : DayS) (tP : ParS) (tQ : GueS) (tI : InnS) (tT : List InnS) (tM : ModS) (hI : Inv tH tY tZ tD tT tM) (hlT : aT.length = 8)
    (next : ∀ (tB : WbS) (tH tY tZ : HouS) (tD : DayS) (tP : ParS) (tQ : GueS) (tI : InnS) (tT : List InnS) (tM : ModS), Inv tH tY tZ tD tT tM → G p l e room_1 s m #[Value.ref b] below meth c 4 D (fun q : Nat => s.heap.size ≤ q) s.heap kc ks (lw_Z below #[Value.ref b] s) [bC cI aB (aH 0) (aY 0) (aZ 0) (aD 0) (aP 0) (aQ 0) (aI 0) tB, hC cI aH tH, hC cI aY tY, hC cI aZ tZ, dC cI aD tD, pC cI aP tP, qC cI aQ tQ, iC cI aI (aH 0) (nx aT) tI, chW cI (aH 0) aT tT, mC cI cZ aM tM] 918 [(3, .int (nI (5 * k))), (2, .ref (aM 0)), (1, .ref (aB 0)), (0, .ref b)] []) : G p l e room_1 s m #[Value.ref b] below meth c 4 D (fun q : Nat => s.heap.size ≤ q) s.heap kc ks (lw_Z below #[Value.ref b] s) [bC cI aB (aH 0) (aY 0) (aZ 0) (aD 0) (aP 0) (aQ 0) (aI 0) tB, hC cI aH tH, hC cI aY tY, hC cI aZ tZ, dC cI aD tD, pC cI aP tP, qC cI aQ tQ, iC cI aI (aH 0) (nx aT) tI, chW cI (aH 0) aT tT, mC cI cZ aM tM] 317 [(3, .int (nI (5 * k))), (2, .ref (aM 0)), (1, .ref (aB 0)), (0, .ref b)] [] := by
  have hbA : ¬ (fun q : Nat => s.heap.size ≤ q) b := Nat.not_le.mpr hbl
  have hA : ∀ q : Nat, s.heap.size ≤ q → (fun q : Nat => s.heap.size ≤ q) q := fun _ h => h
  have hb1 : ¬ (nI (5 * k) + nI 1 < 0 ∨ L ≤ (nI (5 * k) + nI 1).toNatClampNeg) := by rw [nI_add]; exact vp_in_nI (by omega) (by omega)
  have hb2 : ¬ (nI (5 * k) + nI 2 < 0 ∨ L ≤ (nI (5 * k) + nI 2).toNatClampNeg) := by rw [nI_add]; exact vp_in_nI (by omega) (by omega)
  obtain ⟨r, wI, wM, h5, h6, hI2⟩ := op_bed tB tP tQ tI hI (xs (nI (5 * k) + nI 1).toNatClampNeg) (xs (nI (5 * k) + nI 2).toNatClampNeg)
  obtain ⟨fsM, hM0⟩ := mC_get0 cI cZ aM tM
  refine gq_aload_n C 2 318 dL_law_317 rfl rfl ?_
  refine gq_aload_n C 3 319 dL_law_318 rfl rfl ?_
  refine gq_iload_n C 0 320 dL_law_319 rfl rfl ?_
  refine gq_iconst C (nI 1) 321 dL_law_320 (by decide) rfl ?_
  refine gq_iadd C 322 dL_law_321 rfl ?_
  refine gq_sld C hX hbl hbA 323 hb1 dL_law_322 rfl ?_
  refine gq_aload_n C 3 324 dL_law_323 rfl rfl ?_
  refine gq_iload_n C 0 325 dL_law_324 rfl rfl ?_
  refine gq_iconst C (nI 2) 326 dL_law_325 (by decide) rfl ?_
  refine gq_iadd C 327 dL_law_326 rfl ?_
  refine gq_sld C hX hbl hbA 328 hb2 dL_law_327 rfl ?_
  refine gq_callV C hA gm_L_44 (c_X5_bed l D cI cZ aB (aY 0) (aZ 0) (aP 0) (aQ 0) aH aD aI (nx aT) (xs (nI (5 * k) + nI 1).toNatClampNeg) (xs (nI (5 * k) + nI 2).toNatClampNeg) tB tH tD tI _ h5) rfl 0 0 rfl rfl rfl ⟨Nat.le_of_ble_eq_true rfl, Nat.le_of_ble_eq_true rfl⟩ hkR rfl (Nat.le_of_ble_eq_true rfl) dL_law_328 [0, 1, 4, 7] [bC cI aB (aH 0) (aY 0) (aZ 0) (aD 0) (aP 0) (aQ 0) (aI 0) tB, hC cI aH tH, hC cI aY tY, hC cI aZ tZ, dC cI aD tD, pC cI aP tP, qC cI aQ tQ, iC cI aI (aH 0) (nx aT) wI, chW cI (aH 0) aT tT, mC cI cZ aM tM] 331 rfl (by decide) (by simp only [List.map_cons, List.map_nil, bC_fst, hC_fst, dC_fst, pC_fst, qC_fst, iC_fst, mC_fst]) rfl rfl [.int r] rfl ?_
  refine gq_aload_n C 1 332 dL_law_331 rfl rfl ?_
  refine gq_aload_n C 3 333 dL_law_332 rfl rfl ?_
  refine gq_iload_n C 0 334 dL_law_333 rfl rfl ?_
  refine gq_iconst C (nI 1) 335 dL_law_334 (by decide) rfl ?_
  refine gq_iadd C 336 dL_law_335 rfl ?_
  refine gq_sld C hX hbl hbA 337 hb1 dL_law_336 rfl ?_
  refine gq_aload_n C 3 338 dL_law_337 rfl rfl ?_
  refine gq_iload_n C 0 339 dL_law_338 rfl rfl ?_
  refine gq_iconst C (nI 2) 340 dL_law_339 (by decide) rfl ?_
  refine gq_iadd C 341 dL_law_340 rfl ?_
  refine gq_sld C hX hbl hbA 342 hb2 dL_law_341 rfl ?_
  refine gq_callV C hA gm_L_48 (c_X6_bed l D cI cZ aM (xs (nI (5 * k) + nI 1).toNatClampNeg) (xs (nI (5 * k) + nI 2).toNatClampNeg) tM _ h6) rfl 9 0 rfl hM0 rfl ⟨Nat.le_of_ble_eq_true rfl, Nat.le_of_ble_eq_true rfl⟩ hkR rfl (Nat.le_of_ble_eq_true rfl) dL_law_342 [9] [bC cI aB (aH 0) (aY 0) (aZ 0) (aD 0) (aP 0) (aQ 0) (aI 0) tB, hC cI aH tH, hC cI aY tY, hC cI aZ tZ, dC cI aD tD, pC cI aP tP, qC cI aQ tQ, iC cI aI (aH 0) (nx aT) wI, chW cI (aH 0) aT tT, mC cI cZ aM wM] 345 rfl (by decide) (by simp only [List.map_cons, List.map_nil, bC_fst, hC_fst, dC_fst, pC_fst, qC_fst, iC_fst, mC_fst]) rfl rfl [.int r, .int r] rfl ?_
  refine gq_icmp_eq C 918 348 dL_law_345 (by decide) rfl (fun _ => ?_) (fun h => absurd rfl h)
  exact next tB tH tY tZ tD tP tQ wI tT wM hI2

set_option maxHeartbeats 4000000 in
set_option maxRecDepth 100000 in
theorem lo_who {p : Program} {l : Launch} {e : Env} {s : State} {m : MethodId} {below : List Frame} {meth : Method} {c : Code} {D : va_G} {cI cZ : ClassId} {b L kc ks : Nat} {xs : Nat → Int32} (C : gC p s m #[Value.ref b] c cL_law 4 RL D cI cZ) (hX : va_X b L xs s s.heap) (hbl : b < s.heap.size) (hL : L ≤ 2560) (hkR : kc ≤ room_1.cells ∧ ks ≤ room_1.slots) (k : Nat) (hk : 5 * k + 5 ≤ L) (aB aH aY aZ aD aP aQ aI aM : Nat → Nat) (aT : List (Nat → Nat)) (tB : WbS) (tH tY tZ : HouS) (tD : DayS) (tP : ParS) (tQ : GueS) (tI : InnS) (tT : List InnS) (tM : ModS) (hI : Inv tH tY tZ tD tT tM) (hlT : aT.length = 8)
    (next : ∀ (tB : WbS) (tH tY tZ : HouS) (tD : DayS) (tP : ParS) (tQ : GueS) (tI : InnS) (tT : List InnS) (tM : ModS), Inv tH tY tZ tD tT tM → G p l e room_1 s m #[Value.ref b] below meth c 4 D (fun q : Nat => s.heap.size ≤ q) s.heap kc ks (lw_Z below #[Value.ref b] s) [bC cI aB (aH 0) (aY 0) (aZ 0) (aD 0) (aP 0) (aQ 0) (aI 0) tB, hC cI aH tH, hC cI aY tY, hC cI aZ tZ, dC cI aD tD, pC cI aP tP, qC cI aQ tQ, iC cI aI (aH 0) (nx aT) tI, chW cI (aH 0) aT tT, mC cI cZ aM tM] 918 [(3, .int (nI (5 * k))), (2, .ref (aM 0)), (1, .ref (aB 0)), (0, .ref b)] []) : G p l e room_1 s m #[Value.ref b] below meth c 4 D (fun q : Nat => s.heap.size ≤ q) s.heap kc ks (lw_Z below #[Value.ref b] s) [bC cI aB (aH 0) (aY 0) (aZ 0) (aD 0) (aP 0) (aQ 0) (aI 0) tB, hC cI aH tH, hC cI aY tY, hC cI aZ tZ, dC cI aD tD, pC cI aP tP, qC cI aQ tQ, iC cI aI (aH 0) (nx aT) tI, chW cI (aH 0) aT tT, mC cI cZ aM tM] 350 [(3, .int (nI (5 * k))), (2, .ref (aM 0)), (1, .ref (aB 0)), (0, .ref b)] [] := by
  have hbA : ¬ (fun q : Nat => s.heap.size ≤ q) b := Nat.not_le.mpr hbl
  have hA : ∀ q : Nat, s.heap.size ≤ q → (fun q : Nat => s.heap.size ≤ q) q := fun _ h => h
  have hb1 : ¬ (nI (5 * k) + nI 1 < 0 ∨ L ≤ (nI (5 * k) + nI 1).toNatClampNeg) := by rw [nI_add]; exact vp_in_nI (by omega) (by omega)
  have hb2 : ¬ (nI (5 * k) + nI 2 < 0 ∨ L ≤ (nI (5 * k) + nI 2).toNatClampNeg) := by rw [nI_add]; exact vp_in_nI (by omega) (by omega)
  obtain ⟨r, wI, wM, h5, h6, hI2⟩ := op_who tB tP tQ tI hI (xs (nI (5 * k) + nI 1).toNatClampNeg) (xs (nI (5 * k) + nI 2).toNatClampNeg)
  obtain ⟨fsM, hM0⟩ := mC_get0 cI cZ aM tM
  refine gq_aload_n C 2 351 dL_law_350 rfl rfl ?_
  refine gq_aload_n C 3 352 dL_law_351 rfl rfl ?_
  refine gq_iload_n C 0 353 dL_law_352 rfl rfl ?_
  refine gq_iconst C (nI 1) 354 dL_law_353 (by decide) rfl ?_
  refine gq_iadd C 355 dL_law_354 rfl ?_
  refine gq_sld C hX hbl hbA 356 hb1 dL_law_355 rfl ?_
  refine gq_aload_n C 3 357 dL_law_356 rfl rfl ?_
  refine gq_iload_n C 0 358 dL_law_357 rfl rfl ?_
  refine gq_iconst C (nI 2) 359 dL_law_358 (by decide) rfl ?_
  refine gq_iadd C 360 dL_law_359 rfl ?_
  refine gq_sld C hX hbl hbA 361 hb2 dL_law_360 rfl ?_
  refine gq_callV C hA gm_L_49 (c_X5_who l D cI cZ aB (aY 0) (aZ 0) (aP 0) (aQ 0) aH aD aI (nx aT) (xs (nI (5 * k) + nI 1).toNatClampNeg) (xs (nI (5 * k) + nI 2).toNatClampNeg) tB tH tD tI _ h5) rfl 0 0 rfl rfl rfl ⟨Nat.le_of_ble_eq_true rfl, Nat.le_of_ble_eq_true rfl⟩ hkR rfl (Nat.le_of_ble_eq_true rfl) dL_law_361 [0, 1, 4, 7] [bC cI aB (aH 0) (aY 0) (aZ 0) (aD 0) (aP 0) (aQ 0) (aI 0) tB, hC cI aH tH, hC cI aY tY, hC cI aZ tZ, dC cI aD tD, pC cI aP tP, qC cI aQ tQ, iC cI aI (aH 0) (nx aT) wI, chW cI (aH 0) aT tT, mC cI cZ aM tM] 364 rfl (by decide) (by simp only [List.map_cons, List.map_nil, bC_fst, hC_fst, dC_fst, pC_fst, qC_fst, iC_fst, mC_fst]) rfl rfl [.int r] rfl ?_
  refine gq_aload_n C 1 365 dL_law_364 rfl rfl ?_
  refine gq_aload_n C 3 366 dL_law_365 rfl rfl ?_
  refine gq_iload_n C 0 367 dL_law_366 rfl rfl ?_
  refine gq_iconst C (nI 1) 368 dL_law_367 (by decide) rfl ?_
  refine gq_iadd C 369 dL_law_368 rfl ?_
  refine gq_sld C hX hbl hbA 370 hb1 dL_law_369 rfl ?_
  refine gq_aload_n C 3 371 dL_law_370 rfl rfl ?_
  refine gq_iload_n C 0 372 dL_law_371 rfl rfl ?_
  refine gq_iconst C (nI 2) 373 dL_law_372 (by decide) rfl ?_
  refine gq_iadd C 374 dL_law_373 rfl ?_
  refine gq_sld C hX hbl hbA 375 hb2 dL_law_374 rfl ?_
  refine gq_callV C hA gm_L_52 (c_X6_who l D cI cZ aM (xs (nI (5 * k) + nI 1).toNatClampNeg) (xs (nI (5 * k) + nI 2).toNatClampNeg) tM _ h6) rfl 9 0 rfl hM0 rfl ⟨Nat.le_of_ble_eq_true rfl, Nat.le_of_ble_eq_true rfl⟩ hkR rfl (Nat.le_of_ble_eq_true rfl) dL_law_375 [9] [bC cI aB (aH 0) (aY 0) (aZ 0) (aD 0) (aP 0) (aQ 0) (aI 0) tB, hC cI aH tH, hC cI aY tY, hC cI aZ tZ, dC cI aD tD, pC cI aP tP, qC cI aQ tQ, iC cI aI (aH 0) (nx aT) wI, chW cI (aH 0) aT tT, mC cI cZ aM wM] 378 rfl (by decide) (by simp only [List.map_cons, List.map_nil, bC_fst, hC_fst, dC_fst, pC_fst, qC_fst, iC_fst, mC_fst]) rfl rfl [.int r, .int r] rfl ?_
  refine gq_icmp_eq C 918 381 dL_law_378 (by decide) rfl (fun _ => ?_) (fun h => absurd rfl h)
  exact next tB tH tY tZ tD tP tQ wI tT wM hI2

set_option maxHeartbeats 4000000 in
set_option maxRecDepth 100000 in
theorem lo_left {p : Program} {l : Launch} {e : Env} {s : State} {m : MethodId} {below : List Frame} {meth : Method} {c : Code} {D : va_G} {cI cZ : ClassId} {b L kc ks : Nat} {xs : Nat → Int32} (C : gC p s m #[Value.ref b] c cL_law 4 RL D cI cZ) (hX : va_X b L xs s s.heap) (hbl : b < s.heap.size) (hL : L ≤ 2560) (hkR : kc ≤ room_1.cells ∧ ks ≤ room_1.slots) (k : Nat) (hk : 5 * k + 5 ≤ L) (aB aH aY aZ aD aP aQ aI aM : Nat → Nat) (aT : List (Nat → Nat)) (tB : WbS) (tH tY tZ : HouS) (tD : DayS) (tP : ParS) (tQ : GueS) (tI : InnS) (tT : List InnS) (tM : ModS) (hI : Inv tH tY tZ tD tT tM) (hlT : aT.length = 8)
    (next : ∀ (tB : WbS) (tH tY tZ : HouS) (tD : DayS) (tP : ParS) (tQ : GueS) (tI : InnS) (tT : List InnS) (tM : ModS), Inv tH tY tZ tD tT tM → G p l e room_1 s m #[Value.ref b] below meth c 4 D (fun q : Nat => s.heap.size ≤ q) s.heap kc ks (lw_Z below #[Value.ref b] s) [bC cI aB (aH 0) (aY 0) (aZ 0) (aD 0) (aP 0) (aQ 0) (aI 0) tB, hC cI aH tH, hC cI aY tY, hC cI aZ tZ, dC cI aD tD, pC cI aP tP, qC cI aQ tQ, iC cI aI (aH 0) (nx aT) tI, chW cI (aH 0) aT tT, mC cI cZ aM tM] 918 [(3, .int (nI (5 * k))), (2, .ref (aM 0)), (1, .ref (aB 0)), (0, .ref b)] []) : G p l e room_1 s m #[Value.ref b] below meth c 4 D (fun q : Nat => s.heap.size ≤ q) s.heap kc ks (lw_Z below #[Value.ref b] s) [bC cI aB (aH 0) (aY 0) (aZ 0) (aD 0) (aP 0) (aQ 0) (aI 0) tB, hC cI aH tH, hC cI aY tY, hC cI aZ tZ, dC cI aD tD, pC cI aP tP, qC cI aQ tQ, iC cI aI (aH 0) (nx aT) tI, chW cI (aH 0) aT tT, mC cI cZ aM tM] 383 [(3, .int (nI (5 * k))), (2, .ref (aM 0)), (1, .ref (aB 0)), (0, .ref b)] [] := by
  have hbA : ¬ (fun q : Nat => s.heap.size ≤ q) b := Nat.not_le.mpr hbl
  have hA : ∀ q : Nat, s.heap.size ≤ q → (fun q : Nat => s.heap.size ≤ q) q := fun _ h => h
  have hb1 : ¬ (nI (5 * k) + nI 1 < 0 ∨ L ≤ (nI (5 * k) + nI 1).toNatClampNeg) := by rw [nI_add]; exact vp_in_nI (by omega) (by omega)
  have hb2 : ¬ (nI (5 * k) + nI 2 < 0 ∨ L ≤ (nI (5 * k) + nI 2).toNatClampNeg) := by rw [nI_add]; exact vp_in_nI (by omega) (by omega)
  obtain ⟨r, wI, wM, h5, h6, hI2⟩ := op_left tB tP tQ tI hI (xs (nI (5 * k) + nI 1).toNatClampNeg) (xs (nI (5 * k) + nI 2).toNatClampNeg)
  obtain ⟨fsM, hM0⟩ := mC_get0 cI cZ aM tM
  refine gq_aload_n C 2 384 dL_law_383 rfl rfl ?_
  refine gq_aload_n C 3 385 dL_law_384 rfl rfl ?_
  refine gq_iload_n C 0 386 dL_law_385 rfl rfl ?_
  refine gq_iconst C (nI 1) 387 dL_law_386 (by decide) rfl ?_
  refine gq_iadd C 388 dL_law_387 rfl ?_
  refine gq_sld C hX hbl hbA 389 hb1 dL_law_388 rfl ?_
  refine gq_aload_n C 3 390 dL_law_389 rfl rfl ?_
  refine gq_iload_n C 0 391 dL_law_390 rfl rfl ?_
  refine gq_iconst C (nI 2) 392 dL_law_391 (by decide) rfl ?_
  refine gq_iadd C 393 dL_law_392 rfl ?_
  refine gq_sld C hX hbl hbA 394 hb2 dL_law_393 rfl ?_
  refine gq_callV C hA gm_L_53 (c_X5_left l D cI cZ aB (aY 0) (aZ 0) (aP 0) (aQ 0) aH aD aI (nx aT) (xs (nI (5 * k) + nI 1).toNatClampNeg) (xs (nI (5 * k) + nI 2).toNatClampNeg) tB tH tD tI _ h5) rfl 0 0 rfl rfl rfl ⟨Nat.le_of_ble_eq_true rfl, Nat.le_of_ble_eq_true rfl⟩ hkR rfl (Nat.le_of_ble_eq_true rfl) dL_law_394 [0, 1, 4, 7] [bC cI aB (aH 0) (aY 0) (aZ 0) (aD 0) (aP 0) (aQ 0) (aI 0) tB, hC cI aH tH, hC cI aY tY, hC cI aZ tZ, dC cI aD tD, pC cI aP tP, qC cI aQ tQ, iC cI aI (aH 0) (nx aT) wI, chW cI (aH 0) aT tT, mC cI cZ aM tM] 397 rfl (by decide) (by simp only [List.map_cons, List.map_nil, bC_fst, hC_fst, dC_fst, pC_fst, qC_fst, iC_fst, mC_fst]) rfl rfl [.int r] rfl ?_
  refine gq_aload_n C 1 398 dL_law_397 rfl rfl ?_
  refine gq_aload_n C 3 399 dL_law_398 rfl rfl ?_
  refine gq_iload_n C 0 400 dL_law_399 rfl rfl ?_
  refine gq_iconst C (nI 1) 401 dL_law_400 (by decide) rfl ?_
  refine gq_iadd C 402 dL_law_401 rfl ?_
  refine gq_sld C hX hbl hbA 403 hb1 dL_law_402 rfl ?_
  refine gq_aload_n C 3 404 dL_law_403 rfl rfl ?_
  refine gq_iload_n C 0 405 dL_law_404 rfl rfl ?_
  refine gq_iconst C (nI 2) 406 dL_law_405 (by decide) rfl ?_
  refine gq_iadd C 407 dL_law_406 rfl ?_
  refine gq_sld C hX hbl hbA 408 hb2 dL_law_407 rfl ?_
  refine gq_callV C hA gm_L_56 (c_X6_left l D cI cZ aM (xs (nI (5 * k) + nI 1).toNatClampNeg) (xs (nI (5 * k) + nI 2).toNatClampNeg) tM _ h6) rfl 9 0 rfl hM0 rfl ⟨Nat.le_of_ble_eq_true rfl, Nat.le_of_ble_eq_true rfl⟩ hkR rfl (Nat.le_of_ble_eq_true rfl) dL_law_408 [9] [bC cI aB (aH 0) (aY 0) (aZ 0) (aD 0) (aP 0) (aQ 0) (aI 0) tB, hC cI aH tH, hC cI aY tY, hC cI aZ tZ, dC cI aD tD, pC cI aP tP, qC cI aQ tQ, iC cI aI (aH 0) (nx aT) wI, chW cI (aH 0) aT tT, mC cI cZ aM wM] 411 rfl (by decide) (by simp only [List.map_cons, List.map_nil, bC_fst, hC_fst, dC_fst, pC_fst, qC_fst, iC_fst, mC_fst]) rfl rfl [.int r, .int r] rfl ?_
  refine gq_icmp_eq C 918 414 dL_law_411 (by decide) rfl (fun _ => ?_) (fun h => absurd rfl h)
  exact next tB tH tY tZ tD tP tQ wI tT wM hI2

set_option maxHeartbeats 4000000 in
set_option maxRecDepth 100000 in
theorem lo_slept {p : Program} {l : Launch} {e : Env} {s : State} {m : MethodId} {below : List Frame} {meth : Method} {c : Code} {D : va_G} {cI cZ : ClassId} {b L kc ks : Nat} {xs : Nat → Int32} (C : gC p s m #[Value.ref b] c cL_law 4 RL D cI cZ) (hX : va_X b L xs s s.heap) (hbl : b < s.heap.size) (hL : L ≤ 2560) (hkR : kc ≤ room_1.cells ∧ ks ≤ room_1.slots) (k : Nat) (hk : 5 * k + 5 ≤ L) (aB aH aY aZ aD aP aQ aI aM : Nat → Nat) (aT : List (Nat → Nat)) (tB : WbS) (tH tY tZ : HouS) (tD : DayS) (tP : ParS) (tQ : GueS) (tI : InnS) (tT : List InnS) (tM : ModS) (hI : Inv tH tY tZ tD tT tM) (hlT : aT.length = 8)
    (next : ∀ (tB : WbS) (tH tY tZ : HouS) (tD : DayS) (tP : ParS) (tQ : GueS) (tI : InnS) (tT : List InnS) (tM : ModS), Inv tH tY tZ tD tT tM → G p l e room_1 s m #[Value.ref b] below meth c 4 D (fun q : Nat => s.heap.size ≤ q) s.heap kc ks (lw_Z below #[Value.ref b] s) [bC cI aB (aH 0) (aY 0) (aZ 0) (aD 0) (aP 0) (aQ 0) (aI 0) tB, hC cI aH tH, hC cI aY tY, hC cI aZ tZ, dC cI aD tD, pC cI aP tP, qC cI aQ tQ, iC cI aI (aH 0) (nx aT) tI, chW cI (aH 0) aT tT, mC cI cZ aM tM] 918 [(3, .int (nI (5 * k))), (2, .ref (aM 0)), (1, .ref (aB 0)), (0, .ref b)] []) : G p l e room_1 s m #[Value.ref b] below meth c 4 D (fun q : Nat => s.heap.size ≤ q) s.heap kc ks (lw_Z below #[Value.ref b] s) [bC cI aB (aH 0) (aY 0) (aZ 0) (aD 0) (aP 0) (aQ 0) (aI 0) tB, hC cI aH tH, hC cI aY tY, hC cI aZ tZ, dC cI aD tD, pC cI aP tP, qC cI aQ tQ, iC cI aI (aH 0) (nx aT) tI, chW cI (aH 0) aT tT, mC cI cZ aM tM] 416 [(3, .int (nI (5 * k))), (2, .ref (aM 0)), (1, .ref (aB 0)), (0, .ref b)] [] := by
  have hbA : ¬ (fun q : Nat => s.heap.size ≤ q) b := Nat.not_le.mpr hbl
  have hA : ∀ q : Nat, s.heap.size ≤ q → (fun q : Nat => s.heap.size ≤ q) q := fun _ h => h
  have hb1 : ¬ (nI (5 * k) + nI 1 < 0 ∨ L ≤ (nI (5 * k) + nI 1).toNatClampNeg) := by rw [nI_add]; exact vp_in_nI (by omega) (by omega)
  have hb2 : ¬ (nI (5 * k) + nI 2 < 0 ∨ L ≤ (nI (5 * k) + nI 2).toNatClampNeg) := by rw [nI_add]; exact vp_in_nI (by omega) (by omega)
  obtain ⟨r, wI, wM, h5, h6, hI2⟩ := op_slept tB tP tQ tI hI (xs (nI (5 * k) + nI 1).toNatClampNeg) (xs (nI (5 * k) + nI 2).toNatClampNeg)
  obtain ⟨fsM, hM0⟩ := mC_get0 cI cZ aM tM
  refine gq_aload_n C 2 417 dL_law_416 rfl rfl ?_
  refine gq_aload_n C 3 418 dL_law_417 rfl rfl ?_
  refine gq_iload_n C 0 419 dL_law_418 rfl rfl ?_
  refine gq_iconst C (nI 1) 420 dL_law_419 (by decide) rfl ?_
  refine gq_iadd C 421 dL_law_420 rfl ?_
  refine gq_sld C hX hbl hbA 422 hb1 dL_law_421 rfl ?_
  refine gq_aload_n C 3 423 dL_law_422 rfl rfl ?_
  refine gq_iload_n C 0 424 dL_law_423 rfl rfl ?_
  refine gq_iconst C (nI 2) 425 dL_law_424 (by decide) rfl ?_
  refine gq_iadd C 426 dL_law_425 rfl ?_
  refine gq_sld C hX hbl hbA 427 hb2 dL_law_426 rfl ?_
  refine gq_callV C hA gm_L_57 (c_X5_slept l D cI cZ aB (aY 0) (aZ 0) (aP 0) (aQ 0) aH aD aI (nx aT) (xs (nI (5 * k) + nI 1).toNatClampNeg) (xs (nI (5 * k) + nI 2).toNatClampNeg) tB tH tD tI _ h5) rfl 0 0 rfl rfl rfl ⟨Nat.le_of_ble_eq_true rfl, Nat.le_of_ble_eq_true rfl⟩ hkR rfl (Nat.le_of_ble_eq_true rfl) dL_law_427 [0, 1, 4, 7] [bC cI aB (aH 0) (aY 0) (aZ 0) (aD 0) (aP 0) (aQ 0) (aI 0) tB, hC cI aH tH, hC cI aY tY, hC cI aZ tZ, dC cI aD tD, pC cI aP tP, qC cI aQ tQ, iC cI aI (aH 0) (nx aT) wI, chW cI (aH 0) aT tT, mC cI cZ aM tM] 430 rfl (by decide) (by simp only [List.map_cons, List.map_nil, bC_fst, hC_fst, dC_fst, pC_fst, qC_fst, iC_fst, mC_fst]) rfl rfl [.int r] rfl ?_
  refine gq_aload_n C 1 431 dL_law_430 rfl rfl ?_
  refine gq_aload_n C 3 432 dL_law_431 rfl rfl ?_
  refine gq_iload_n C 0 433 dL_law_432 rfl rfl ?_
  refine gq_iconst C (nI 1) 434 dL_law_433 (by decide) rfl ?_
  refine gq_iadd C 435 dL_law_434 rfl ?_
  refine gq_sld C hX hbl hbA 436 hb1 dL_law_435 rfl ?_
  refine gq_aload_n C 3 437 dL_law_436 rfl rfl ?_
  refine gq_iload_n C 0 438 dL_law_437 rfl rfl ?_
  refine gq_iconst C (nI 2) 439 dL_law_438 (by decide) rfl ?_
  refine gq_iadd C 440 dL_law_439 rfl ?_
  refine gq_sld C hX hbl hbA 441 hb2 dL_law_440 rfl ?_
  refine gq_callV C hA gm_L_60 (c_X6_slept l D cI cZ aM (xs (nI (5 * k) + nI 1).toNatClampNeg) (xs (nI (5 * k) + nI 2).toNatClampNeg) tM _ h6) rfl 9 0 rfl hM0 rfl ⟨Nat.le_of_ble_eq_true rfl, Nat.le_of_ble_eq_true rfl⟩ hkR rfl (Nat.le_of_ble_eq_true rfl) dL_law_441 [9] [bC cI aB (aH 0) (aY 0) (aZ 0) (aD 0) (aP 0) (aQ 0) (aI 0) tB, hC cI aH tH, hC cI aY tY, hC cI aZ tZ, dC cI aD tD, pC cI aP tP, qC cI aQ tQ, iC cI aI (aH 0) (nx aT) wI, chW cI (aH 0) aT tT, mC cI cZ aM wM] 444 rfl (by decide) (by simp only [List.map_cons, List.map_nil, bC_fst, hC_fst, dC_fst, pC_fst, qC_fst, iC_fst, mC_fst]) rfl rfl [.int r, .int r] rfl ?_
  refine gq_icmp_eq C 918 447 dL_law_444 (by decide) rfl (fun _ => ?_) (fun h => absurd rfl h)
  exact next tB tH tY tZ tD tP tQ wI tT wM hI2

set_option maxHeartbeats 4000000 in
set_option maxRecDepth 100000 in
theorem lo_fewest {p : Program} {l : Launch} {e : Env} {s : State} {m : MethodId} {below : List Frame} {meth : Method} {c : Code} {D : va_G} {cI cZ : ClassId} {b L kc ks : Nat} {xs : Nat → Int32} (C : gC p s m #[Value.ref b] c cL_law 4 RL D cI cZ) (hX : va_X b L xs s s.heap) (hbl : b < s.heap.size) (hL : L ≤ 2560) (hkR : kc ≤ room_1.cells ∧ ks ≤ room_1.slots) (k : Nat) (hk : 5 * k + 5 ≤ L) (aB aH aY aZ aD aP aQ aI aM : Nat → Nat) (aT : List (Nat → Nat)) (tB : WbS) (tH tY tZ : HouS) (tD : DayS) (tP : ParS) (tQ : GueS) (tI : InnS) (tT : List InnS) (tM : ModS) (hI : Inv tH tY tZ tD tT tM) (hlT : aT.length = 8)
    (next : ∀ (tB : WbS) (tH tY tZ : HouS) (tD : DayS) (tP : ParS) (tQ : GueS) (tI : InnS) (tT : List InnS) (tM : ModS), Inv tH tY tZ tD tT tM → G p l e room_1 s m #[Value.ref b] below meth c 4 D (fun q : Nat => s.heap.size ≤ q) s.heap kc ks (lw_Z below #[Value.ref b] s) [bC cI aB (aH 0) (aY 0) (aZ 0) (aD 0) (aP 0) (aQ 0) (aI 0) tB, hC cI aH tH, hC cI aY tY, hC cI aZ tZ, dC cI aD tD, pC cI aP tP, qC cI aQ tQ, iC cI aI (aH 0) (nx aT) tI, chW cI (aH 0) aT tT, mC cI cZ aM tM] 918 [(3, .int (nI (5 * k))), (2, .ref (aM 0)), (1, .ref (aB 0)), (0, .ref b)] []) : G p l e room_1 s m #[Value.ref b] below meth c 4 D (fun q : Nat => s.heap.size ≤ q) s.heap kc ks (lw_Z below #[Value.ref b] s) [bC cI aB (aH 0) (aY 0) (aZ 0) (aD 0) (aP 0) (aQ 0) (aI 0) tB, hC cI aH tH, hC cI aY tY, hC cI aZ tZ, dC cI aD tD, pC cI aP tP, qC cI aQ tQ, iC cI aI (aH 0) (nx aT) tI, chW cI (aH 0) aT tT, mC cI cZ aM tM] 449 [(3, .int (nI (5 * k))), (2, .ref (aM 0)), (1, .ref (aB 0)), (0, .ref b)] [] := by
  have hbA : ¬ (fun q : Nat => s.heap.size ≤ q) b := Nat.not_le.mpr hbl
  have hA : ∀ q : Nat, s.heap.size ≤ q → (fun q : Nat => s.heap.size ≤ q) q := fun _ h => h
  have hb1 : ¬ (nI (5 * k) + nI 1 < 0 ∨ L ≤ (nI (5 * k) + nI 1).toNatClampNeg) := by rw [nI_add]; exact vp_in_nI (by omega) (by omega)
  obtain ⟨r, wI, wM, h5, h6, hI2⟩ := op_fewest tB tP tQ tI hI (xs (nI (5 * k) + nI 1).toNatClampNeg)
  obtain ⟨fsM, hM0⟩ := mC_get0 cI cZ aM tM
  refine gq_aload_n C 2 450 dL_law_449 rfl rfl ?_
  refine gq_aload_n C 3 451 dL_law_450 rfl rfl ?_
  refine gq_iload_n C 0 452 dL_law_451 rfl rfl ?_
  refine gq_iconst C (nI 1) 453 dL_law_452 (by decide) rfl ?_
  refine gq_iadd C 454 dL_law_453 rfl ?_
  refine gq_sld C hX hbl hbA 455 hb1 dL_law_454 rfl ?_
  refine gq_callV C hA gm_L_61 (c_X5_fewest l D cI cZ aB (aY 0) (aZ 0) (aP 0) (aQ 0) aH aD aI (nx aT) (xs (nI (5 * k) + nI 1).toNatClampNeg) tB tH tD tI _ h5) rfl 0 0 rfl rfl rfl ⟨Nat.le_of_ble_eq_true rfl, Nat.le_of_ble_eq_true rfl⟩ hkR rfl (Nat.le_of_ble_eq_true rfl) dL_law_455 [0, 1, 4, 7] [bC cI aB (aH 0) (aY 0) (aZ 0) (aD 0) (aP 0) (aQ 0) (aI 0) tB, hC cI aH tH, hC cI aY tY, hC cI aZ tZ, dC cI aD tD, pC cI aP tP, qC cI aQ tQ, iC cI aI (aH 0) (nx aT) wI, chW cI (aH 0) aT tT, mC cI cZ aM tM] 458 rfl (by decide) (by simp only [List.map_cons, List.map_nil, bC_fst, hC_fst, dC_fst, pC_fst, qC_fst, iC_fst, mC_fst]) rfl rfl [.int r] rfl ?_
  refine gq_aload_n C 1 459 dL_law_458 rfl rfl ?_
  refine gq_aload_n C 3 460 dL_law_459 rfl rfl ?_
  refine gq_iload_n C 0 461 dL_law_460 rfl rfl ?_
  refine gq_iconst C (nI 1) 462 dL_law_461 (by decide) rfl ?_
  refine gq_iadd C 463 dL_law_462 rfl ?_
  refine gq_sld C hX hbl hbA 464 hb1 dL_law_463 rfl ?_
  refine gq_callV C hA gm_L_64 (c_X6_fewest l D cI cZ aM (xs (nI (5 * k) + nI 1).toNatClampNeg) tM _ h6) rfl 9 0 rfl hM0 rfl ⟨Nat.le_of_ble_eq_true rfl, Nat.le_of_ble_eq_true rfl⟩ hkR rfl (Nat.le_of_ble_eq_true rfl) dL_law_464 [9] [bC cI aB (aH 0) (aY 0) (aZ 0) (aD 0) (aP 0) (aQ 0) (aI 0) tB, hC cI aH tH, hC cI aY tY, hC cI aZ tZ, dC cI aD tD, pC cI aP tP, qC cI aQ tQ, iC cI aI (aH 0) (nx aT) wI, chW cI (aH 0) aT tT, mC cI cZ aM wM] 467 rfl (by decide) (by simp only [List.map_cons, List.map_nil, bC_fst, hC_fst, dC_fst, pC_fst, qC_fst, iC_fst, mC_fst]) rfl rfl [.int r, .int r] rfl ?_
  refine gq_icmp_eq C 918 470 dL_law_467 (by decide) rfl (fun _ => ?_) (fun h => absurd rfl h)
  exact next tB tH tY tZ tD tP tQ wI tT wM hI2

set_option maxHeartbeats 4000000 in
set_option maxRecDepth 100000 in
theorem lo_when {p : Program} {l : Launch} {e : Env} {s : State} {m : MethodId} {below : List Frame} {meth : Method} {c : Code} {D : va_G} {cI cZ : ClassId} {b L kc ks : Nat} {xs : Nat → Int32} (C : gC p s m #[Value.ref b] c cL_law 4 RL D cI cZ) (hX : va_X b L xs s s.heap) (hbl : b < s.heap.size) (hL : L ≤ 2560) (hkR : kc ≤ room_1.cells ∧ ks ≤ room_1.slots) (k : Nat) (hk : 5 * k + 5 ≤ L) (aB aH aY aZ aD aP aQ aI aM : Nat → Nat) (aT : List (Nat → Nat)) (tB : WbS) (tH tY tZ : HouS) (tD : DayS) (tP : ParS) (tQ : GueS) (tI : InnS) (tT : List InnS) (tM : ModS) (hI : Inv tH tY tZ tD tT tM) (hlT : aT.length = 8)
    (next : ∀ (tB : WbS) (tH tY tZ : HouS) (tD : DayS) (tP : ParS) (tQ : GueS) (tI : InnS) (tT : List InnS) (tM : ModS), Inv tH tY tZ tD tT tM → G p l e room_1 s m #[Value.ref b] below meth c 4 D (fun q : Nat => s.heap.size ≤ q) s.heap kc ks (lw_Z below #[Value.ref b] s) [bC cI aB (aH 0) (aY 0) (aZ 0) (aD 0) (aP 0) (aQ 0) (aI 0) tB, hC cI aH tH, hC cI aY tY, hC cI aZ tZ, dC cI aD tD, pC cI aP tP, qC cI aQ tQ, iC cI aI (aH 0) (nx aT) tI, chW cI (aH 0) aT tT, mC cI cZ aM tM] 918 [(3, .int (nI (5 * k))), (2, .ref (aM 0)), (1, .ref (aB 0)), (0, .ref b)] []) : G p l e room_1 s m #[Value.ref b] below meth c 4 D (fun q : Nat => s.heap.size ≤ q) s.heap kc ks (lw_Z below #[Value.ref b] s) [bC cI aB (aH 0) (aY 0) (aZ 0) (aD 0) (aP 0) (aQ 0) (aI 0) tB, hC cI aH tH, hC cI aY tY, hC cI aZ tZ, dC cI aD tD, pC cI aP tP, qC cI aQ tQ, iC cI aI (aH 0) (nx aT) tI, chW cI (aH 0) aT tT, mC cI cZ aM tM] 472 [(3, .int (nI (5 * k))), (2, .ref (aM 0)), (1, .ref (aB 0)), (0, .ref b)] [] := by
  have hbA : ¬ (fun q : Nat => s.heap.size ≤ q) b := Nat.not_le.mpr hbl
  have hA : ∀ q : Nat, s.heap.size ≤ q → (fun q : Nat => s.heap.size ≤ q) q := fun _ h => h
  have hb1 : ¬ (nI (5 * k) + nI 1 < 0 ∨ L ≤ (nI (5 * k) + nI 1).toNatClampNeg) := by rw [nI_add]; exact vp_in_nI (by omega) (by omega)
  have hb2 : ¬ (nI (5 * k) + nI 2 < 0 ∨ L ≤ (nI (5 * k) + nI 2).toNatClampNeg) := by rw [nI_add]; exact vp_in_nI (by omega) (by omega)
  have hb3 : ¬ (nI (5 * k) + nI 3 < 0 ∨ L ≤ (nI (5 * k) + nI 3).toNatClampNeg) := by rw [nI_add]; exact vp_in_nI (by omega) (by omega)
  obtain ⟨rfl, rfl⟩ | ⟨aJ, aU, tJ, tT, rfl, rfl, hln⟩ := gq_len (show aT.length = tT.length by rw [hlT, hI.1])
  · simp at hlT
  obtain ⟨r, wB, wI, wJ, wM, h5, h6, hI2⟩ := op_when tB tP tQ tI hI (xs (nI (5 * k) + nI 1).toNatClampNeg) (xs (nI (5 * k) + nI 2).toNatClampNeg) (xs (nI (5 * k) + nI 3).toNatClampNeg)
  refine gq_flat (ws' := [bC cI aB (aH 0) (aY 0) (aZ 0) (aD 0) (aP 0) (aQ 0) (aI 0) tB, hC cI aH tH, hC cI aY tY, hC cI aZ tZ, dC cI aD tD, pC cI aP tP, qC cI aQ tQ, iC cI aI (aH 0) (some (aJ 0)) tI, iC cI aJ (aH 0) (nx aU) tJ, chW cI (aH 0) aU tT, mC cI cZ aM tM]) (by simp only [chW, nx, List.flatten_cons, List.flatten_nil, List.append_assoc, List.append_nil, List.head?_cons, Option.map_some]) ?_
  obtain ⟨fsM, hM0⟩ := mC_get0 cI cZ aM tM
  refine gq_aload_n C 2 473 dL_law_472 rfl rfl ?_
  refine gq_aload_n C 3 474 dL_law_473 rfl rfl ?_
  refine gq_iload_n C 0 475 dL_law_474 rfl rfl ?_
  refine gq_iconst C (nI 1) 476 dL_law_475 (by decide) rfl ?_
  refine gq_iadd C 477 dL_law_476 rfl ?_
  refine gq_sld C hX hbl hbA 478 hb1 dL_law_477 rfl ?_
  refine gq_aload_n C 3 479 dL_law_478 rfl rfl ?_
  refine gq_iload_n C 0 480 dL_law_479 rfl rfl ?_
  refine gq_iconst C (nI 2) 481 dL_law_480 (by decide) rfl ?_
  refine gq_iadd C 482 dL_law_481 rfl ?_
  refine gq_sld C hX hbl hbA 483 hb2 dL_law_482 rfl ?_
  refine gq_aload_n C 3 484 dL_law_483 rfl rfl ?_
  refine gq_iload_n C 0 485 dL_law_484 rfl rfl ?_
  refine gq_iconst C (nI 3) 486 dL_law_485 (by decide) rfl ?_
  refine gq_iadd C 487 dL_law_486 rfl ?_
  refine gq_sld C hX hbl hbA 488 hb3 dL_law_487 rfl ?_
  refine gq_callV C hA gm_L_65 (c_X5_when l D cI cZ aB (aY 0) (aZ 0) (aP 0) (aQ 0) aH aD aI aJ (nx aU) (xs (nI (5 * k) + nI 1).toNatClampNeg) (xs (nI (5 * k) + nI 2).toNatClampNeg) (xs (nI (5 * k) + nI 3).toNatClampNeg) tB tH tD tI tJ _ h5) rfl 0 0 rfl rfl rfl ⟨Nat.le_of_ble_eq_true rfl, Nat.le_of_ble_eq_true rfl⟩ hkR rfl (Nat.le_of_ble_eq_true rfl) dL_law_488 [0, 1, 4, 7, 8] [bC cI aB (aH 0) (aY 0) (aZ 0) (aD 0) (aP 0) (aQ 0) (aI 0) wB, hC cI aH tH, hC cI aY tY, hC cI aZ tZ, dC cI aD tD, pC cI aP tP, qC cI aQ tQ, iC cI aI (aH 0) (some (aJ 0)) wI, iC cI aJ (aH 0) (nx aU) wJ, chW cI (aH 0) aU tT, mC cI cZ aM tM] 491 rfl (by decide) (by simp only [List.map_cons, List.map_nil, bC_fst, hC_fst, dC_fst, pC_fst, qC_fst, iC_fst, mC_fst]) rfl rfl [.int r] rfl ?_
  refine gq_aload_n C 1 492 dL_law_491 rfl rfl ?_
  refine gq_aload_n C 3 493 dL_law_492 rfl rfl ?_
  refine gq_iload_n C 0 494 dL_law_493 rfl rfl ?_
  refine gq_iconst C (nI 1) 495 dL_law_494 (by decide) rfl ?_
  refine gq_iadd C 496 dL_law_495 rfl ?_
  refine gq_sld C hX hbl hbA 497 hb1 dL_law_496 rfl ?_
  refine gq_aload_n C 3 498 dL_law_497 rfl rfl ?_
  refine gq_iload_n C 0 499 dL_law_498 rfl rfl ?_
  refine gq_iconst C (nI 2) 500 dL_law_499 (by decide) rfl ?_
  refine gq_iadd C 501 dL_law_500 rfl ?_
  refine gq_sld C hX hbl hbA 502 hb2 dL_law_501 rfl ?_
  refine gq_aload_n C 3 503 dL_law_502 rfl rfl ?_
  refine gq_iload_n C 0 504 dL_law_503 rfl rfl ?_
  refine gq_iconst C (nI 3) 505 dL_law_504 (by decide) rfl ?_
  refine gq_iadd C 506 dL_law_505 rfl ?_
  refine gq_sld C hX hbl hbA 507 hb3 dL_law_506 rfl ?_
  refine gq_callV C hA gm_L_68 (c_X6_when l D cI cZ aM (xs (nI (5 * k) + nI 1).toNatClampNeg) (xs (nI (5 * k) + nI 2).toNatClampNeg) (xs (nI (5 * k) + nI 3).toNatClampNeg) tM _ h6) rfl 10 0 rfl hM0 rfl ⟨Nat.le_of_ble_eq_true rfl, Nat.le_of_ble_eq_true rfl⟩ hkR rfl (Nat.le_of_ble_eq_true rfl) dL_law_507 [10] [bC cI aB (aH 0) (aY 0) (aZ 0) (aD 0) (aP 0) (aQ 0) (aI 0) wB, hC cI aH tH, hC cI aY tY, hC cI aZ tZ, dC cI aD tD, pC cI aP tP, qC cI aQ tQ, iC cI aI (aH 0) (some (aJ 0)) wI, iC cI aJ (aH 0) (nx aU) wJ, chW cI (aH 0) aU tT, mC cI cZ aM wM] 510 rfl (by decide) (by simp only [List.map_cons, List.map_nil, bC_fst, hC_fst, dC_fst, pC_fst, qC_fst, iC_fst, mC_fst]) rfl rfl [.int r, .int r] rfl ?_
  refine gq_icmp_eq C 918 513 dL_law_510 (by decide) rfl (fun _ => ?_) (fun h => absurd rfl h)
  refine gq_flat (ws' := [bC cI aB (aH 0) (aY 0) (aZ 0) (aD 0) (aP 0) (aQ 0) (aI 0) wB, hC cI aH tH, hC cI aY tY, hC cI aZ tZ, dC cI aD tD, pC cI aP tP, qC cI aQ tQ, iC cI aI (aH 0) (nx (aJ :: aU)) wI, chW cI (aH 0) (aJ :: aU) (wJ :: tT), mC cI cZ aM wM]) (by simp only [chW, nx, List.flatten_cons, List.flatten_nil, List.append_assoc, List.append_nil, List.head?_cons, Option.map_some]) ?_
  exact next wB tH tY tZ tD tP tQ wI (wJ :: tT) wM hI2

set_option maxHeartbeats 4000000 in
set_option maxRecDepth 100000 in
theorem lo_best {p : Program} {l : Launch} {e : Env} {s : State} {m : MethodId} {below : List Frame} {meth : Method} {c : Code} {D : va_G} {cI cZ : ClassId} {b L kc ks : Nat} {xs : Nat → Int32} (C : gC p s m #[Value.ref b] c cL_law 4 RL D cI cZ) (hX : va_X b L xs s s.heap) (hbl : b < s.heap.size) (hL : L ≤ 2560) (hkR : kc ≤ room_1.cells ∧ ks ≤ room_1.slots) (k : Nat) (hk : 5 * k + 5 ≤ L) (aB aH aY aZ aD aP aQ aI aM : Nat → Nat) (aT : List (Nat → Nat)) (tB : WbS) (tH tY tZ : HouS) (tD : DayS) (tP : ParS) (tQ : GueS) (tI : InnS) (tT : List InnS) (tM : ModS) (hI : Inv tH tY tZ tD tT tM) (hlT : aT.length = 8)
    (next : ∀ (tB : WbS) (tH tY tZ : HouS) (tD : DayS) (tP : ParS) (tQ : GueS) (tI : InnS) (tT : List InnS) (tM : ModS), Inv tH tY tZ tD tT tM → G p l e room_1 s m #[Value.ref b] below meth c 4 D (fun q : Nat => s.heap.size ≤ q) s.heap kc ks (lw_Z below #[Value.ref b] s) [bC cI aB (aH 0) (aY 0) (aZ 0) (aD 0) (aP 0) (aQ 0) (aI 0) tB, hC cI aH tH, hC cI aY tY, hC cI aZ tZ, dC cI aD tD, pC cI aP tP, qC cI aQ tQ, iC cI aI (aH 0) (nx aT) tI, chW cI (aH 0) aT tT, mC cI cZ aM tM] 918 [(3, .int (nI (5 * k))), (2, .ref (aM 0)), (1, .ref (aB 0)), (0, .ref b)] []) : G p l e room_1 s m #[Value.ref b] below meth c 4 D (fun q : Nat => s.heap.size ≤ q) s.heap kc ks (lw_Z below #[Value.ref b] s) [bC cI aB (aH 0) (aY 0) (aZ 0) (aD 0) (aP 0) (aQ 0) (aI 0) tB, hC cI aH tH, hC cI aY tY, hC cI aZ tZ, dC cI aD tD, pC cI aP tP, qC cI aQ tQ, iC cI aI (aH 0) (nx aT) tI, chW cI (aH 0) aT tT, mC cI cZ aM tM] 515 [(3, .int (nI (5 * k))), (2, .ref (aM 0)), (1, .ref (aB 0)), (0, .ref b)] [] := by
  have hbA : ¬ (fun q : Nat => s.heap.size ≤ q) b := Nat.not_le.mpr hbl
  have hA : ∀ q : Nat, s.heap.size ≤ q → (fun q : Nat => s.heap.size ≤ q) q := fun _ h => h
  have hb1 : ¬ (nI (5 * k) + nI 1 < 0 ∨ L ≤ (nI (5 * k) + nI 1).toNatClampNeg) := by rw [nI_add]; exact vp_in_nI (by omega) (by omega)
  have hb2 : ¬ (nI (5 * k) + nI 2 < 0 ∨ L ≤ (nI (5 * k) + nI 2).toNatClampNeg) := by rw [nI_add]; exact vp_in_nI (by omega) (by omega)
  obtain ⟨rfl, rfl⟩ | ⟨aJ, aU, tJ, tT, rfl, rfl, hln⟩ := gq_len (show aT.length = tT.length by rw [hlT, hI.1])
  · simp at hlT
  obtain ⟨r, wB, wI, wJ, wM, h5, h6, hI2⟩ := op_best tB tP tQ tI hI (xs (nI (5 * k) + nI 1).toNatClampNeg) (xs (nI (5 * k) + nI 2).toNatClampNeg)
  refine gq_flat (ws' := [bC cI aB (aH 0) (aY 0) (aZ 0) (aD 0) (aP 0) (aQ 0) (aI 0) tB, hC cI aH tH, hC cI aY tY, hC cI aZ tZ, dC cI aD tD, pC cI aP tP, qC cI aQ tQ, iC cI aI (aH 0) (some (aJ 0)) tI, iC cI aJ (aH 0) (nx aU) tJ, chW cI (aH 0) aU tT, mC cI cZ aM tM]) (by simp only [chW, nx, List.flatten_cons, List.flatten_nil, List.append_assoc, List.append_nil, List.head?_cons, Option.map_some]) ?_
  obtain ⟨fsM, hM0⟩ := mC_get0 cI cZ aM tM
  refine gq_aload_n C 2 516 dL_law_515 rfl rfl ?_
  refine gq_aload_n C 3 517 dL_law_516 rfl rfl ?_
  refine gq_iload_n C 0 518 dL_law_517 rfl rfl ?_
  refine gq_iconst C (nI 1) 519 dL_law_518 (by decide) rfl ?_
  refine gq_iadd C 520 dL_law_519 rfl ?_
  refine gq_sld C hX hbl hbA 521 hb1 dL_law_520 rfl ?_
  refine gq_aload_n C 3 522 dL_law_521 rfl rfl ?_
  refine gq_iload_n C 0 523 dL_law_522 rfl rfl ?_
  refine gq_iconst C (nI 2) 524 dL_law_523 (by decide) rfl ?_
  refine gq_iadd C 525 dL_law_524 rfl ?_
  refine gq_sld C hX hbl hbA 526 hb2 dL_law_525 rfl ?_
  refine gq_callV C hA gm_L_69 (c_X5_best l D cI cZ aB (aY 0) (aZ 0) (aP 0) (aQ 0) aH aD aI aJ (nx aU) (xs (nI (5 * k) + nI 1).toNatClampNeg) (xs (nI (5 * k) + nI 2).toNatClampNeg) tB tH tD tI tJ _ h5) rfl 0 0 rfl rfl rfl ⟨Nat.le_of_ble_eq_true rfl, Nat.le_of_ble_eq_true rfl⟩ hkR rfl (Nat.le_of_ble_eq_true rfl) dL_law_526 [0, 1, 4, 7, 8] [bC cI aB (aH 0) (aY 0) (aZ 0) (aD 0) (aP 0) (aQ 0) (aI 0) wB, hC cI aH tH, hC cI aY tY, hC cI aZ tZ, dC cI aD tD, pC cI aP tP, qC cI aQ tQ, iC cI aI (aH 0) (some (aJ 0)) wI, iC cI aJ (aH 0) (nx aU) wJ, chW cI (aH 0) aU tT, mC cI cZ aM tM] 529 rfl (by decide) (by simp only [List.map_cons, List.map_nil, bC_fst, hC_fst, dC_fst, pC_fst, qC_fst, iC_fst, mC_fst]) rfl rfl [.int r] rfl ?_
  refine gq_aload_n C 1 530 dL_law_529 rfl rfl ?_
  refine gq_aload_n C 3 531 dL_law_530 rfl rfl ?_
  refine gq_iload_n C 0 532 dL_law_531 rfl rfl ?_
  refine gq_iconst C (nI 1) 533 dL_law_532 (by decide) rfl ?_
  refine gq_iadd C 534 dL_law_533 rfl ?_
  refine gq_sld C hX hbl hbA 535 hb1 dL_law_534 rfl ?_
  refine gq_aload_n C 3 536 dL_law_535 rfl rfl ?_
  refine gq_iload_n C 0 537 dL_law_536 rfl rfl ?_
  refine gq_iconst C (nI 2) 538 dL_law_537 (by decide) rfl ?_
  refine gq_iadd C 539 dL_law_538 rfl ?_
  refine gq_sld C hX hbl hbA 540 hb2 dL_law_539 rfl ?_
  refine gq_callV C hA gm_L_72 (c_X6_best l D cI cZ aM (xs (nI (5 * k) + nI 1).toNatClampNeg) (xs (nI (5 * k) + nI 2).toNatClampNeg) tM _ h6) rfl 10 0 rfl hM0 rfl ⟨Nat.le_of_ble_eq_true rfl, Nat.le_of_ble_eq_true rfl⟩ hkR rfl (Nat.le_of_ble_eq_true rfl) dL_law_540 [10] [bC cI aB (aH 0) (aY 0) (aZ 0) (aD 0) (aP 0) (aQ 0) (aI 0) wB, hC cI aH tH, hC cI aY tY, hC cI aZ tZ, dC cI aD tD, pC cI aP tP, qC cI aQ tQ, iC cI aI (aH 0) (some (aJ 0)) wI, iC cI aJ (aH 0) (nx aU) wJ, chW cI (aH 0) aU tT, mC cI cZ aM wM] 543 rfl (by decide) (by simp only [List.map_cons, List.map_nil, bC_fst, hC_fst, dC_fst, pC_fst, qC_fst, iC_fst, mC_fst]) rfl rfl [.int r, .int r] rfl ?_
  refine gq_icmp_eq C 918 546 dL_law_543 (by decide) rfl (fun _ => ?_) (fun h => absurd rfl h)
  refine gq_flat (ws' := [bC cI aB (aH 0) (aY 0) (aZ 0) (aD 0) (aP 0) (aQ 0) (aI 0) wB, hC cI aH tH, hC cI aY tY, hC cI aZ tZ, dC cI aD tD, pC cI aP tP, qC cI aQ tQ, iC cI aI (aH 0) (nx (aJ :: aU)) wI, chW cI (aH 0) (aJ :: aU) (wJ :: tT), mC cI cZ aM wM]) (by simp only [chW, nx, List.flatten_cons, List.flatten_nil, List.append_assoc, List.append_nil, List.head?_cons, Option.map_some]) ?_
  exact next wB tH tY tZ tD tP tQ wI (wJ :: tT) wM hI2
