/-! fleas, brought -/
def gf0 (who : Nat) : Nat := if who < 8 then 2 ^ who else 0
def bf0 (who : Nat) : Nat := if who < 8 then 0 else 2 ^ (who - 8)
theorem p2_lt : ∀ j, j < 8 → 2 ^ j < 256 := by decide
theorem gf0_lt (who : Nat) : gf0 who < 256 := by
  unfold gf0
  split
  · rename_i h
    exact p2_lt _ h
  · omega
theorem bf0_lt {who : Nat} (h : who < 16) : bf0 who < 256 := by
  unfold bf0
  split
  · omega
  · exact p2_lt _ (by omega)
theorem z_or : ∀ j, j < 8 → nI 0 ||| nI (2 ^ j) = nI (2 ^ j) := by decide +kernel
theorem f_infest {k : Nat} {C : AIn} {t : InnS} (h : InR k C t) (hK : KnR K0 t) {who : Nat} (hw : who < 16) : ∃ t', f_X3_infest (nI who) t = some t' ∧ InR k C t' ∧ KnR (K0f (gf0 who) (bf0 who)) t' := by
  obtain ⟨I_law, I_there, I_sleepers, I_empty, I_empties, I_yard, I_waiting, I_nights, I_used, I_sheets, I_lastOnes, I_guestsWithFleas, I_bedsWithFleas, I_isCounting⟩ := t
  obtain ⟨sl, em, ya⟩ := C
  obtain ⟨p1, p2, p3, p4, p5, p6, p7⟩ := h
  obtain ⟨k1, k2, k3, k4, k5, k6, k7, k8, k9, k10⟩ := hK
  subst k5 k6
  rw [f_X3_infest]
  by_cases h8 : who < 8
  · rw [if_neg (by rw [n_le (by omega) (by omega)]; omega), f_bitOf (by omega)]
    have e1 : bitN who = 2 ^ who := if_pos h8
    have e2 : gf0 who = 2 ^ who := if_pos h8
    have e3 : bf0 who = 0 := if_pos h8
    simp only [Option.bind_some, e1, z_or who h8]
    exact ⟨_, rfl, ⟨p1, p2, p3, p4, p5, p6, p7⟩, ⟨k1, k2, k3, k4, by rw [e2], by rw [e3], k7, k8, gf0_lt who, bf0_lt hw⟩⟩
  · rw [if_pos (by rw [n_le (by omega) (by omega)]; omega), n_sub (by omega), b_sh _ (by omega), z_or _ (by omega)]
    have e2 : gf0 who = 0 := if_neg h8
    have e3 : bf0 who = 2 ^ (who - 8) := if_neg h8
    exact ⟨_, rfl, ⟨p1, p2, p3, p4, p5, p6, p7⟩, ⟨k1, k2, k3, k4, by rw [e2], by rw [e3], k7, k8, gf0_lt who, bf0_lt hw⟩⟩
theorem f_spread {n k q : Nat} {w sg sb : Nat → Nat} {tH : HouS} (hH : HouR tH (n, k, q, w, sg, sb)) (hw : ∀ j, w j ≤ 99) (hn : n ≤ 8) (hk : k < 4) {tD : DayS} {m : Nat} {d : Nat → Nat} (hD : DayR tD m d) (tB : WbS) (t : InnS) {who : Nat} (h16 : who < 16) : ∃ t', f_X5_spreadFrom (nI who) tB tH tD t = some t' ∧ KnR (runK k w d m 0 (openA n) (K0f (gf0 who) (bf0 who))) t' := by
  obtain ⟨t1, o1, o2, o3⟩ := f_open hH hn k t
  obtain ⟨t2, i1, i2, i3⟩ := f_infest o2 o3 h16
  obtain ⟨t3, l1, l2, l3⟩ := f_live hH hw hn hk hD (fr := 0) (to := m) (by omega) (Nat.le_refl m) (openA_ok n) i2
  have l4 := l3 _ (openA_go n) i3
  simp only [Nat.sub_zero] at l1 l4
  obtain ⟨H_beds, H_law, H_sights, H_isKept, H_worths, H_sightGuests, H_sightBeds⟩ := tH
  obtain ⟨len, S⟩ := tD
  obtain ⟨I_law, I_there, I_sleepers, I_empty, I_empties, I_yard, I_waiting, I_nights, I_used, I_sheets, I_lastOnes, I_guestsWithFleas, I_bedsWithFleas, I_isCounting⟩ := t
  obtain ⟨J_law, J_there, J_sleepers, J_empty, J_empties, J_yard, J_waiting, J_nights, J_used, J_sheets, J_lastOnes, J_guestsWithFleas, J_bedsWithFleas, J_isCounting⟩ := t1
  obtain ⟨a1, a2, a3, a4, a5, a6, a7, a8, a9, a10, a11, a12, a13, a14⟩ := t2
  obtain ⟨b1, b2, b3, b4, b5, b6, b7, b8, b9, b10, b11, b12, b13, b14⟩ := t3
  obtain rfl : H_law = nI k := hH.2.1
  obtain rfl : len = nI m := hD.1
  rw [f_X5_spreadFrom, o1]
  simp only [Option.bind_some, i1, l1]
  exact ⟨_, rfl, l4⟩
def mSetF (x y : Int32) : ModS → ModS
  | (M_beds, M_law, M_worths, M_sights, M_sight, M_signs, M_pad, M_lies, M_empty, M_list, M_waits, M_yard, M_last, M_used, M_sheets, M_nights, M_fleasOfGuests, M_fleasOfBeds, M_reason, M_row, M_bestRow, M_image, M_isKept) => (M_beds, M_law, M_worths, M_sights, M_sight, M_signs, M_pad, M_lies, M_empty, M_list, M_waits, M_yard, M_last, M_used, M_sheets, M_nights, x, y, M_reason, M_row, M_bestRow, M_image, M_isKept)
theorem mSetF_P (x y : Int32) (t : ModS) : mP (mSetF x y t) = mP t := by
  obtain ⟨M_beds, M_law, M_worths, M_sights, M_sight, M_signs, M_pad, M_lies, M_empty, M_list, M_waits, M_yard, M_last, M_used, M_sheets, M_nights, M_fleasOfGuests, M_fleasOfBeds, M_reason, M_row, M_bestRow, M_image, M_isKept⟩ := t
  simp only [mSetF, mP]
theorem mSetF_f {gf bf : Nat} (h1 : gf < 256) (h2 : bf < 256) (t : ModS) : MfR (K0f gf bf) (mSetF (nI gf) (nI bf) t) := by
  obtain ⟨M_beds, M_law, M_worths, M_sights, M_sight, M_signs, M_pad, M_lies, M_empty, M_list, M_waits, M_yard, M_last, M_used, M_sheets, M_nights, M_fleasOfGuests, M_fleasOfBeds, M_reason, M_row, M_bestRow, M_image, M_isKept⟩ := t
  exact ⟨rfl, rfl, h1, h2⟩
/-- the whole day of the reference, when there is no ? -/
theorem m_goD {n k q : Nat} {w sg sb : Nat → Nat} (hw : ∀ j, w j ≤ 99) (hk : k < 4) (hn : n ≤ 8) {m : Nat} {d : Nat → Nat} (hd : ∀ j, j < 48 → d j < 127) (hm : m ≤ 48) (hf : fA d m 0 0 = none) (hc : cntQ d m = 0) {x4 : Int32} {t : ModS} (hM : ModHR t (n, k, q, w, sg, sb)) (hD : ModDR t m d) :
    ∃ t', f_X6_go (nI m) (nI 0) (-6) x4 t = some (cdP (runA k w d m 0 (openA n)).1, t') ∧ mP t' = mP t ∧ MoR (runA k w d m 0 (openA n)).2 t' ∧ ∀ gf bf, MnR (runK k w d m 0 (openA n) (K0f gf bf)) t' ∧ (MfR (K0f gf bf) t → MfR (runK k w d m 0 (openA n) (K0f gf bf)) t') := by
  obtain ⟨hok, hu⟩ := fA_none (d := d) m 0 hf (by simp only [cntQ]; omega)
  rw [Nat.zero_add] at hu
  obtain ⟨t', g1, g2, g3, g4, g5⟩ := m_go hw hk hn hd (ev := m) (code := 0) (Nat.le_refl m) hm hu (by omega) (fun i hi => hok i (by omega) (by omega)) (x4 := x4) hM hD
  have hcg : ∀ i, 0 ≤ i → i < 0 + m → effE d (cntQ d m) 0 i = d i := fun i _ hi => effE_eq hc (by omega)
  rw [runA_congr m 0 _ hcg] at g1 g4
  simp only [runK_congr m 0 _ _ hcg] at g5
  exact ⟨t', g1, g2, g4, g5⟩
theorem m_layFleas {n k q : Nat} {w sg sb : Nat → Nat} (hw : ∀ j, w j ≤ 99) (hk : k < 4) (hn : n ≤ 8) {m : Nat} {d : Nat → Nat} (hd : ∀ j, j < 48 → d j < 127) (hm : m ≤ 48) {t : ModS} (hM : ModHR t (n, k, q, w, sg, sb)) (hD : ModDR t m d) (hb : barA n k w d m m = nI 0) {gf bf : Nat} (h1 : gf < 256) (h2 : bf < 256) : ∃ t', f_X6_layFleas (nI gf) (nI bf) t = some (-6, t') ∧ mP t' = mP t ∧ MfR (runK k w d m 0 (openA n) (K0f gf bf)) t' := by
  obtain ⟨b1, b2, b3⟩ := barA_0 hb
  have hP := mSetF_P (nI gf) (nI bf) t
  obtain ⟨t', g1, g2, g3, g4⟩ := m_goD hw hk hn hd hm b1 b2 (x4 := nI 0) (mP_H hP hM) (mP_D hP hD)
  have hf := (g4 gf bf).2 (mSetF_f h1 h2 t)
  refine ⟨t', ?_, g2.trans hP, hf⟩
  obtain ⟨M_beds, M_law, M_worths, M_sights, M_sight, M_signs, M_pad, M_lies, M_empty, M_list, M_waits, M_yard, M_last, M_used, M_sheets, M_nights, M_fleasOfGuests, M_fleasOfBeds, M_reason, M_row, M_bestRow, M_image, M_isKept⟩ := t
  obtain ⟨L_beds, L_law, L_worths, L_sights, L_sight, L_signs, L_pad, L_lies, L_empty, L_list, L_waits, L_yard, L_last, L_used, L_sheets, L_nights, L_fleasOfGuests, L_fleasOfBeds, L_reason, L_row, L_bestRow, L_image, L_isKept⟩ := t'
  obtain rfl : M_signs = nI m := hD.1
  simp only [mSetF] at g1
  rw [f_X6_layFleas, g1, b3]
  rfl
theorem op_fleas (tB : WbS) (tP : ParS) (tQ : GueS) (tI : InnS) {tH tY tZ : HouS} {tD : DayS} {tT : List InnS} {tM : ModS} (hI : Inv tH tY tZ tD tT tM) (x1 x2 : Int32) : ∃ (r : Int32) (wI : InnS) (wM : ModS), f_X5_fleas x1 x2 tB tH tD tI = some (r, wI) ∧ f_X6_fleas x1 x2 tM = some (r, wM) ∧ Inv tH tY tZ tD tT wM := by
  obtain ⟨hl, n, k, q, w, sg, sb, m, d, ⟨hn2, hn, hk, hq, hw, hsg, hsb⟩, hH, hM, hD, hDM, hm, hd⟩ := inv_use hI
  obtain ⟨t1, l1, l2⟩ := f_liveThrough hH hw hn hk hD tB tI (x1 := -1) (ev := m) (by omega) (Or.inr ⟨rfl, rfl⟩)
  obtain ⟨t2, c1, c2, c3⟩ := m_barOf hw hk hn hd (ev := m) (by omega) hm hM hDM
  have hI2 := inv_keep hI c2
  have hM2 := mP_H c2 hM
  have hD2 := mP_D c2 hDM
  have hsp := fun who (h16 : who < 16) => f_spread hH hw hn hk hD tB t1 (who := who) h16
  have hla := fun hb (who : Nat) (h16 : who < 16) => m_layFleas hw hk hn hd hm hM2 hD2 hb (gf0_lt who) (bf0_lt h16)
  obtain ⟨H_beds, H_law, H_sights, H_isKept, H_worths, H_sightGuests, H_sightBeds⟩ := tH
  obtain ⟨len, S⟩ := tD
  obtain ⟨M_beds, M_law, M_worths, M_sights, M_sight, M_signs, M_pad, M_lies, M_empty, M_list, M_waits, M_yard, M_last, M_used, M_sheets, M_nights, M_fleasOfGuests, M_fleasOfBeds, M_reason, M_row, M_bestRow, M_image, M_isKept⟩ := tM
  obtain ⟨I_law, I_there, I_sleepers, I_empty, I_empties, I_yard, I_waiting, I_nights, I_used, I_sheets, I_lastOnes, I_guestsWithFleas, I_bedsWithFleas, I_isCounting⟩ := tI
  obtain rfl : M_signs = nI m := hDM.1
  obtain rfl : M_beds = nI n := hM.1
  obtain rfl : H_beds = nI n := hH.1
  rw [f_X5_fleas, f_X6_fleas, n_add, n_add]
  rcases in_c x1 (a := 0) (b := 7 + n) (by omega) (by omega) with ⟨h1, h2⟩ | ⟨who, h1, h2, rfl, h3⟩
  · rw [h1]
    refine ⟨-1, ?_⟩
    apply Exists.intro
    apply Exists.intro
    apply And.intro
    · rcases h2 with h2 | h2
      · rw [if_pos (show x1 < 0 from h2)]
      · have h4 := gt_ge (by omega) h2
        rw [show 7 + n + 1 = 8 + n by omega] at h4
        rw [if_neg h4]
        split <;> rfl
    · exact ⟨rfl, hI⟩
  rw [h3, if_neg (by rw [n_lt0 (by omega)]; exact id), if_pos (by rw [n_lt (by omega) (by omega)]; omega)]
  simp only [Option.bind_some, one0, if_false]
  rcases either_c x2 with ⟨h4, h5⟩ | ⟨j, hj, rfl, h4, h5⟩
  · rw [h4, h5]
    exact ⟨_, _, _, rfl, rfl, hI⟩
  simp only [h4, h5, Option.bind_some, one0, if_false, l1, c1]
  rcases barA_c n k w d m m with hb | ⟨hb, hb1, hb2⟩
  · obtain ⟨hz1, hz2⟩ := barA_z hb
    have h16 : who < 16 := by omega
    obtain ⟨t3, s1, s2⟩ := hsp who h16
    obtain ⟨t4, f1, f2, f3⟩ := hla hb who h16
    have hI3 := inv_keep hI2 f2
    obtain ⟨J_law, J_there, J_sleepers, J_empty, J_empties, J_yard, J_waiting, J_nights, J_used, J_sheets, J_lastOnes, J_guestsWithFleas, J_bedsWithFleas, J_isCounting⟩ := t1
    obtain ⟨L_beds, L_law, L_worths, L_sights, L_sight, L_signs, L_pad, L_lies, L_empty, L_list, L_waits, L_yard, L_last, L_used, L_sheets, L_nights, L_fleasOfGuests, L_fleasOfBeds, L_reason, L_row, L_bestRow, L_image, L_isKept⟩ := t2
    obtain ⟨a1, a2, a3, a4, a5, a6, a7, a8, a9, a10, a11, a12, a13, a14⟩ := t3
    obtain ⟨Q_beds, Q_law, Q_worths, Q_sights, Q_sight, Q_signs, Q_pad, Q_lies, Q_empty, Q_list, Q_waits, Q_yard, Q_last, Q_used, Q_sheets, Q_nights, Q_fleasOfGuests, Q_fleasOfBeds, Q_reason, Q_row, Q_bestRow, Q_image, Q_isKept⟩ := t4
    simp only [hz1, hz2, if_true, s1, Option.bind_some]
    have hg : (if (nI 8) ≤ nI who then nI 0 else (nI 1) <<< (nI who &&& 31)) = nI (gf0 who) := by
      unfold gf0
      by_cases h8 : who < 8
      · rw [if_neg (by rw [n_le (by omega) (by omega)]; omega), if_pos h8, b_sh _ h8]
      · rw [if_pos (by rw [n_le (by omega) (by omega)]; omega), if_neg h8]
    have hbb : (if (nI 8) ≤ nI who then ((nI 1) <<< ((nI who - (nI 8)) &&& 31)) else nI 0) = nI (bf0 who) := by
      unfold bf0
      by_cases h8 : who < 8
      · rw [if_neg (by rw [n_le (by omega) (by omega)]; omega), if_pos h8]
      · rw [if_pos (by rw [n_le (by omega) (by omega)]; omega), if_neg h8, n_sub (by omega), b_sh _ (by omega)]
    have hj1 : ∀ {β : Type} (r : Int32 → β), gJn r (fun kJ58 => (if (nI 8) ≤ nI who then kJ58 (nI 0) else kJ58 ((nI 1) <<< (nI who &&& 31)))) = r (nI (gf0 who)) := by
      intro β r
      rw [← hg]
      unfold gJn
      dsimp only
      split <;> rfl
    have hj2 : ∀ {β : Type} (r : Int32 → β), gJn r (fun kJ74 => (if (nI 8) ≤ nI who then kJ74 ((nI 1) <<< ((nI who - (nI 8)) &&& 31)) else kJ74 (nI 0))) = r (nI (bf0 who)) := by
      intro β r
      rw [← hbb]
      unfold gJn
      dsimp only
      split <;> rfl
    simp only [hj1, hj2, f1, Option.bind_some, m6_lt, if_true]
    generalize runK k w d m 0 (openA n) (K0f (gf0 who) (bf0 who)) = K at *
    obtain ⟨ni, us, sh, la, gf, bf⟩ := K
    obtain ⟨k1, k2, k3, k4, rfl, rfl, k7⟩ := s2
    obtain ⟨rfl, rfl, q3, q4⟩ := f3
    rcases (show j = 0 ∨ j = 1 by omega) with rfl | rfl
    · simp only [zer0, if_true]
      exact ⟨_, _, _, rfl, rfl, hI3⟩
    · simp only [one0, if_false]
      exact ⟨_, _, _, rfl, rfl, hI3⟩
  · obtain ⟨J_law, J_there, J_sleepers, J_empty, J_empties, J_yard, J_waiting, J_nights, J_used, J_sheets, J_lastOnes, J_guestsWithFleas, J_bedsWithFleas, J_isCounting⟩ := t1
    obtain ⟨L_beds, L_law, L_worths, L_sights, L_sight, L_signs, L_pad, L_lies, L_empty, L_list, L_waits, L_yard, L_last, L_used, L_sheets, L_nights, L_fleasOfGuests, L_fleasOfBeds, L_reason, L_row, L_bestRow, L_image, L_isKept⟩ := t2
    simp only [hb1, hb2, if_false]
    exact ⟨_, _, _, rfl, rfl, hI2⟩
def brA (G : Nat → Nat) (x : Int32) : Nat → Nat → Int32 → Int32
  | 0, _, a => a
  | c + 1, j, a => brA G x c (j + 1) (if nI (G j) = x then a ||| (nI 1 <<< (nI j &&& 31)) else a)
theorem lp_fbrought {n k q : Nat} {w sg sb : Nat → Nat} {H_beds H_law H_sights H_isKept : Int32} {H_worths H_sightGuests H_sightBeds : Nat → Int32} (hH : HouR (H_beds, H_law, H_sights, H_isKept, H_worths, H_sightGuests, H_sightBeds) (n, k, q, w, sg, sb)) (hw : ∀ j, w j ≤ 99) (hn : n ≤ 8) (hk : k < 4) {len : Int32} {S : Nat → Int32} {m : Nat} {d : Nat → Nat} (hD : DayR (len, S) m d) (tB : WbS) (x : Int32) : ∀ (c j fuel : Nat) (a : Int32) {I_law I_there I_empties I_waiting I_guestsWithFleas I_bedsWithFleas I_isCounting : Int32} {I_sleepers I_empty I_yard I_nights I_used I_sheets I_lastOnes : Nat → Int32}, 8 = j + c → c < fuel → ∃ t', f_X5_brought_L31 x tB H_beds H_law H_sights H_isKept H_worths H_sightGuests H_sightBeds len S fuel a (nI j) I_law I_there I_sleepers I_empty I_empties I_yard I_waiting I_nights I_used I_sheets I_lastOnes I_guestsWithFleas I_bedsWithFleas I_isCounting (fun x3_L31 x4_L31 I_law I_there I_sleepers I_empty I_empties I_yard I_waiting I_nights I_used I_sheets I_lastOnes I_guestsWithFleas I_bedsWithFleas I_isCounting => some (x3_L31, (I_law, I_there, I_sleepers, I_empty, I_empties, I_yard, I_waiting, I_nights, I_used, I_sheets, I_lastOnes, I_guestsWithFleas, I_bedsWithFleas, I_isCounting))) = some (brA (fun g => (runK k w d m 0 (openA n) (K0f (gf0 g) (bf0 g))).2.2.2.2.1) x c j a, t') := by
  intro c
  induction c with
  | zero =>
    intro j fuel a I_law I_there I_empties I_waiting I_guestsWithFleas I_bedsWithFleas I_isCounting I_sleepers I_empty I_yard I_nights I_used I_sheets I_lastOnes h1 h3
    obtain ⟨fuel, rfl⟩ : ∃ n, fuel = n + 1 := ⟨fuel - 1, by omega⟩
    have hj : j = 8 := by omega
    subst hj
    rw [f_X5_brought_L31]
    simp (disch := omega) only [n_lt, n_le, n_eq, n_lt0, n_ge0, n_eq0, n_gt0, n_le0, n_cl, n_add, n_sub, n_mul, n_m1, n_m6, m1_lt, m6_lt, m1_ge, m6_ge, m1_eq, m6_eq0, m1_eq0, c_leT, c_leF, c_ltT, c_ltF, c_eqF, false_or, or_false, or_self, if_true, if_false, ite_true, ite_false, Option.bind_some, not_true_eq_false, not_false_eq_true, reduceIte]
    exact ⟨_, rfl⟩
  | succ c ih =>
    intro j fuel a I_law I_there I_empties I_waiting I_guestsWithFleas I_bedsWithFleas I_isCounting I_sleepers I_empty I_yard I_nights I_used I_sheets I_lastOnes h1 h3
    obtain ⟨fuel, rfl⟩ : ∃ n, fuel = n + 1 := ⟨fuel - 1, by omega⟩
    rw [f_X5_brought_L31]
    obtain ⟨t', s1, s2⟩ := f_spread hH hw hn hk hD tB (I_law, I_there, I_sleepers, I_empty, I_empties, I_yard, I_waiting, I_nights, I_used, I_sheets, I_lastOnes, I_guestsWithFleas, I_bedsWithFleas, I_isCounting) (who := j) (by omega)
    obtain ⟨J_law, J_there, J_sleepers, J_empty, J_empties, J_yard, J_waiting, J_nights, J_used, J_sheets, J_lastOnes, J_guestsWithFleas, J_bedsWithFleas, J_isCounting⟩ := t'
    simp (disch := omega) only [n_le, c_leF, if_false, s1, Option.bind_some, n_add, brA]
    have hgf : J_guestsWithFleas = nI (runK k w d m 0 (openA n) (K0f (gf0 j) (bf0 j))).2.2.2.2.1 := by
      generalize runK k w d m 0 (openA n) (K0f (gf0 j) (bf0 j)) = K at s2
      obtain ⟨ni, us, sh, la, gf, bf⟩ := K
      exact s2.2.2.2.2.1
    by_cases e : J_guestsWithFleas = x
    · rw [if_pos e, if_pos (show nI (runK k w d m 0 (openA n) (K0f (gf0 j) (bf0 j))).2.2.2.2.1 = x from hgf ▸ e)]
      exact ih (j + 1) fuel _ (by omega) (by omega)
    · rw [if_neg e, if_neg (show ¬ nI (runK k w d m 0 (openA n) (K0f (gf0 j) (bf0 j))).2.2.2.2.1 = x from hgf ▸ e)]
      exact ih (j + 1) fuel _ (by omega) (by omega)
theorem lp_mbrought {n k q : Nat} {w sg sb : Nat → Nat} (hw : ∀ j, w j ≤ 99) (hk : k < 4) (hn : n ≤ 8) {m : Nat} {d : Nat → Nat} (hd : ∀ j, j < 48 → d j < 127) (hm : m ≤ 48) (hb : barA n k w d m m = nI 0) (x : Int32) : ∀ (c j fuel : Nat) (a : Int32) {M_beds M_law M_sights M_signs M_empty M_waits M_fleasOfGuests M_fleasOfBeds M_reason : Int32} {M_worths M_sight M_pad M_lies M_list M_yard M_last M_used M_sheets M_nights M_row M_bestRow M_image M_isKept : Nat → Int32}, ModHR (M_beds, M_law, M_worths, M_sights, M_sight, M_signs, M_pad, M_lies, M_empty, M_list, M_waits, M_yard, M_last, M_used, M_sheets, M_nights, M_fleasOfGuests, M_fleasOfBeds, M_reason, M_row, M_bestRow, M_image, M_isKept) (n, k, q, w, sg, sb) → ModDR (M_beds, M_law, M_worths, M_sights, M_sight, M_signs, M_pad, M_lies, M_empty, M_list, M_waits, M_yard, M_last, M_used, M_sheets, M_nights, M_fleasOfGuests, M_fleasOfBeds, M_reason, M_row, M_bestRow, M_image, M_isKept) m d → 8 = j + c → c < fuel → ∃ t', f_X6_brought_L34 x fuel a (nI j) M_beds M_law M_worths M_sights M_sight M_signs M_pad M_lies M_empty M_list M_waits M_yard M_last M_used M_sheets M_nights M_fleasOfGuests M_fleasOfBeds M_reason M_row M_bestRow M_image M_isKept (fun x3_L34 x4_L34 M_beds M_law M_worths M_sights M_sight M_signs M_pad M_lies M_empty M_list M_waits M_yard M_last M_used M_sheets M_nights M_fleasOfGuests M_fleasOfBeds M_reason M_row M_bestRow M_image M_isKept => some (x3_L34, (M_beds, M_law, M_worths, M_sights, M_sight, M_signs, M_pad, M_lies, M_empty, M_list, M_waits, M_yard, M_last, M_used, M_sheets, M_nights, M_fleasOfGuests, M_fleasOfBeds, M_reason, M_row, M_bestRow, M_image, M_isKept))) = some (brA (fun g => (runK k w d m 0 (openA n) (K0f (gf0 g) (bf0 g))).2.2.2.2.1) x c j a, t') ∧ mP t' = mP (M_beds, M_law, M_worths, M_sights, M_sight, M_signs, M_pad, M_lies, M_empty, M_list, M_waits, M_yard, M_last, M_used, M_sheets, M_nights, M_fleasOfGuests, M_fleasOfBeds, M_reason, M_row, M_bestRow, M_image, M_isKept) := by
  intro c
  induction c with
  | zero =>
    intro j fuel a M_beds M_law M_sights M_signs M_empty M_waits M_fleasOfGuests M_fleasOfBeds M_reason M_worths M_sight M_pad M_lies M_list M_yard M_last M_used M_sheets M_nights M_row M_bestRow M_image M_isKept hM hD h1 h3
    obtain ⟨fuel, rfl⟩ : ∃ n, fuel = n + 1 := ⟨fuel - 1, by omega⟩
    have hj : j = 8 := by omega
    subst hj
    rw [f_X6_brought_L34]
    simp (disch := omega) only [n_lt, n_le, n_eq, n_lt0, n_ge0, n_eq0, n_gt0, n_le0, n_cl, n_add, n_sub, n_mul, n_m1, n_m6, m1_lt, m6_lt, m1_ge, m6_ge, m1_eq, m6_eq0, m1_eq0, c_leT, c_leF, c_ltT, c_ltF, c_eqF, false_or, or_false, or_self, if_true, if_false, ite_true, ite_false, Option.bind_some, not_true_eq_false, not_false_eq_true, reduceIte]
    exact ⟨_, rfl, by simp only [mP]⟩
  | succ c ih =>
    intro j fuel a M_beds M_law M_sights M_signs M_empty M_waits M_fleasOfGuests M_fleasOfBeds M_reason M_worths M_sight M_pad M_lies M_list M_yard M_last M_used M_sheets M_nights M_row M_bestRow M_image M_isKept hM hD h1 h3
    obtain ⟨fuel, rfl⟩ : ∃ n, fuel = n + 1 := ⟨fuel - 1, by omega⟩
    rw [f_X6_brought_L34]
    have hs : gf0 j = 2 ^ j := if_pos (by omega)
    have hs2 : bf0 j = 0 := if_pos (by omega)
    have s0 := m_layFleas hw hk hn hd hm hM hD hb (gf0_lt j) (bf0_lt (who := j) (by omega))
    rw [hs2] at s0
    obtain ⟨t', s1, s2, s3⟩ := s0
    rw [hs, ← b_sh j (by omega)] at s1
    have hM' := mP_H s2 hM
    have hD' := mP_D s2 hD
    obtain ⟨L_beds, L_law, L_worths, L_sights, L_sight, L_signs, L_pad, L_lies, L_empty, L_list, L_waits, L_yard, L_last, L_used, L_sheets, L_nights, L_fleasOfGuests, L_fleasOfBeds, L_reason, L_row, L_bestRow, L_image, L_isKept⟩ := t'
    simp (disch := omega) only [n_le, c_leF, if_false, s1, Option.bind_some, n_add, brA, m6_ge, i_or0]
    have hgf : L_fleasOfGuests = nI (runK k w d m 0 (openA n) (K0f (gf0 j) (bf0 j))).2.2.2.2.1 := by
      rw [hs2]
      generalize runK k w d m 0 (openA n) (K0f (gf0 j) 0) = K at s3
      obtain ⟨ni, us, sh, la, gf, bf⟩ := K
      exact s3.1
    by_cases e : L_fleasOfGuests = x
    · rw [if_pos e, if_pos (show nI (runK k w d m 0 (openA n) (K0f (gf0 j) (bf0 j))).2.2.2.2.1 = x from hgf ▸ e)]
      obtain ⟨t2, e1, e2⟩ := ih (j + 1) fuel _ hM' hD' (by omega) (by omega)
      exact ⟨t2, e1, e2.trans s2⟩
    · rw [if_neg e, if_neg (show ¬ nI (runK k w d m 0 (openA n) (K0f (gf0 j) (bf0 j))).2.2.2.2.1 = x from hgf ▸ e)]
      obtain ⟨t2, e1, e2⟩ := ih (j + 1) fuel _ hM' hD' (by omega) (by omega)
      exact ⟨t2, e1, e2.trans s2⟩
theorem op_brought (tB : WbS) (tP : ParS) (tQ : GueS) (tI : InnS) {tH tY tZ : HouS} {tD : DayS} {tT : List InnS} {tM : ModS} (hI : Inv tH tY tZ tD tT tM) (x1 : Int32) : ∃ (r : Int32) (wI : InnS) (wM : ModS), f_X5_brought x1 tB tH tD tI = some (r, wI) ∧ f_X6_brought x1 tM = some (r, wM) ∧ Inv tH tY tZ tD tT wM := by
  obtain ⟨hl, n, k, q, w, sg, sb, m, d, ⟨hn2, hn, hk, hq, hw, hsg, hsb⟩, hH, hM, hD, hDM, hm, hd⟩ := inv_use hI
  obtain ⟨t1, l1, l2⟩ := f_liveThrough hH hw hn hk hD tB tI (x1 := -1) (ev := m) (by omega) (Or.inr ⟨rfl, rfl⟩)
  obtain ⟨t2, c1, c2, c3⟩ := m_barOf hw hk hn hd (ev := m) (by omega) hm hM hDM
  have hI2 := inv_keep hI c2
  have hM2 := mP_H c2 hM
  have hD2 := mP_D c2 hDM
  obtain ⟨H_beds, H_law, H_sights, H_isKept, H_worths, H_sightGuests, H_sightBeds⟩ := tH
  obtain ⟨len, S⟩ := tD
  obtain ⟨M_beds, M_law, M_worths, M_sights, M_sight, M_signs, M_pad, M_lies, M_empty, M_list, M_waits, M_yard, M_last, M_used, M_sheets, M_nights, M_fleasOfGuests, M_fleasOfBeds, M_reason, M_row, M_bestRow, M_image, M_isKept⟩ := tM
  obtain ⟨I_law, I_there, I_sleepers, I_empty, I_empties, I_yard, I_waiting, I_nights, I_used, I_sheets, I_lastOnes, I_guestsWithFleas, I_bedsWithFleas, I_isCounting⟩ := tI
  obtain rfl : M_signs = nI m := hDM.1
  rw [f_X5_brought, f_X6_brought]
  rcases in_c x1 (a := 0) (b := 255) (by omega) (by omega) with ⟨h1, h2⟩ | ⟨set, h1, h2, rfl, h3⟩
  · rw [h1]
    refine ⟨-2, ?_⟩
    apply Exists.intro
    apply Exists.intro
    apply And.intro
    · rcases h2 with h2 | h2
      · rw [if_pos (show x1 < 0 from h2)]
      · rw [if_neg (gt_nle h2)]
        split <;> rfl
    · exact ⟨rfl, hI⟩
  rw [h3, if_neg (by rw [n_lt0 (by omega)]; exact id), if_pos (by rw [n_le (by omega) (by omega)]; omega)]
  simp only [Option.bind_some, one0, if_false, l1, c1]
  rcases barA_c n k w d m m with hb | ⟨hb, hb1, hb2⟩
  · obtain ⟨hz1, hz2⟩ := barA_z hb
    obtain ⟨J_law, J_there, J_sleepers, J_empty, J_empties, J_yard, J_waiting, J_nights, J_used, J_sheets, J_lastOnes, J_guestsWithFleas, J_bedsWithFleas, J_isCounting⟩ := t1
    obtain ⟨L_beds, L_law, L_worths, L_sights, L_sight, L_signs, L_pad, L_lies, L_empty, L_list, L_waits, L_yard, L_last, L_used, L_sheets, L_nights, L_fleasOfGuests, L_fleasOfBeds, L_reason, L_row, L_bestRow, L_image, L_isKept⟩ := t2
    simp only [hz1, hz2, if_true]
    obtain ⟨t3, s1⟩ := lp_fbrought hH hw hn hk hD tB (nI set) 8 0 FU (nI 0) (I_law := J_law) (I_there := J_there) (I_sleepers := J_sleepers) (I_empty := J_empty) (I_empties := J_empties) (I_yard := J_yard) (I_waiting := J_waiting) (I_nights := J_nights) (I_used := J_used) (I_sheets := J_sheets) (I_lastOnes := J_lastOnes) (I_guestsWithFleas := J_guestsWithFleas) (I_bedsWithFleas := J_bedsWithFleas) (I_isCounting := J_isCounting) (by omega) (by rw [FU_eq]; omega)
    obtain ⟨t4, f1, f2⟩ := lp_mbrought hw hk hn hd hm hb (nI set) 8 0 FU (nI 0) hM2 hD2 (by omega) (by rw [FU_eq]; omega)
    rw [s1, f1]
    exact ⟨_, _, _, rfl, rfl, inv_keep hI2 f2⟩
  · obtain ⟨J_law, J_there, J_sleepers, J_empty, J_empties, J_yard, J_waiting, J_nights, J_used, J_sheets, J_lastOnes, J_guestsWithFleas, J_bedsWithFleas, J_isCounting⟩ := t1
    obtain ⟨L_beds, L_law, L_worths, L_sights, L_sight, L_signs, L_pad, L_lies, L_empty, L_list, L_waits, L_yard, L_last, L_used, L_sheets, L_nights, L_fleasOfGuests, L_fleasOfBeds, L_reason, L_row, L_bestRow, L_image, L_isKept⟩ := t2
    simp only [hb1, hb2, if_false]
    exact ⟨_, _, _, rfl, rfl, hI2⟩
