section GA
variable {p : Program} {l : Launch} {e : Env} {R : Room} {s : State} {m : MethodId} {args : Array Value} {below : List Frame} {meth : Method} {c : Code} {cc : ByteArray} {nL : Nat} {own : String} {D : va_G} {cI cZ : ClassId} {A : Nat → Prop} {H0 : Heap} {kc ks : Nat} {Q : State → Prop} {ws : List va_W} {pc : Nat} {lv : List (Nat × Value)} {st : List Value}
theorem gq_flat {ws' : List va_W} (h : ws.flatten = ws'.flatten) (k : G p l e R s m args below meth c nL D A H0 kc ks Q ws' pc lv st) : G p l e R s m args below meth c nL D A H0 kc ks Q ws pc lv st :=
  fun H locs ls hP hD hS hl => k H locs ls (by rw [← h]; exact hP) (by rw [← h]; exact hD) hS hl
/-- components put in another order, or some forgotten -/
theorem gq_perm {ws' : List va_W} (pl : List Nat) (hs : pl.map (fun i => ws[i]?) = ws'.map some) (hnd : va_nd pl = true) (k : G p l e R s m args below meth c nL D A H0 kc ks Q ws' pc lv st) : G p l e R s m args below meth c nL D A H0 kc ks Q ws pc lv st :=
  fun H locs ls hP hD hS hl => k H locs ls (sub_P hP hs) (sub_D hD hnd hs) hS hl
theorem gq_widen (kc' ks' : Nat) (h1 : kc ≤ kc') (h2 : ks ≤ ks') (k : G p l e R s m args below meth c nL D A H0 kc' ks' Q ws pc lv st) : G p l e R s m args below meth c nL D A H0 kc ks Q ws pc lv st :=
  fun H locs ls hP hD hS hl => W.widen h1 h2 (k H locs ls hP hD hS hl)
theorem fl_snoc {α : Type} (ws : List (List α)) (x : α) : (ws ++ [[x]]).flatten = ws.flatten ++ [x] := by simp
theorem gq_new (C : gC p s m args c cc nL own D cI cZ) (hA : ∀ q, H0.size ≤ q → A q) {ix ci N : Nat} {Cn : String} {T : u_T} {ty : Nat → FieldType} (fs : List Value) (n : Nat) (hc : vwCl[ci]? = some (Cn, T, N)) (hin : ∀ w ∈ u_ws Cn T N, w ∈ wsL_law) (hty : ∀ k, k < N → parseFieldDescriptor (T k).2.2.1 = some (ty k)) (hfs : ∀ j, j < N → defaultValue (ty j) = vp_V fs j) (w1 : Cond.classLink own ix Cn ∈ wsL_law) (w2 : Cond.instantiable Cn N ∈ wsL_law) (w3 : Cond.initialized Cn ∈ wsL_law) (hcR : kc + 1 ≤ R.cells) (hsR : ks + N ≤ R.slots) (hdg : decode cc pc = .ok (.new ix, 3)) (hn : pc + 3 = n)
    (kk : ∀ q : Nat, G p l e R s m args below meth c nL D A H0 (kc + 1) (ks + N) Q (ws ++ [[(q, .inr (ci, fs))]]) n lv (.ref q :: st)) : G p l e R s m args below meth c nL D A H0 kc ks Q ws pc lv st := by
  subst hn
  exact fun H locs ls hP hD hS hl => va_new C.1 C.2.1 C.2.2.2.2.1 hin ty hty C.2.2.2.1 (C.2.2.2.2.1 _ w1) (C.2.2.2.2.1 _ w2) (C.2.2.2.2.1 _ w3) C.2.2.2.2.2.2 hP hD hS hA hc hfs hcR hsR hdg (fun q H1 hP1 hD1 hS1 => kk q H1 locs ls (by rw [fl_snoc]; exact hP1) (by rw [fl_snoc]; exact hD1) hS1 hl)
theorem gq_newa (C : gC p s m args c cc nL own D cI cZ) (hA : ∀ q, H0.size ≤ q → A q) {z : Int32} (N n : Nat) (hw : Cond.arrayClass .int ∈ wsL_law) (hz : ¬ z < 0) (hN : z.toNatClampNeg = N) (hb : N * componentBytes .int ≤ 536870912) (hcR : kc + 1 ≤ R.cells) (hsR : ks + N ≤ R.slots) (hdg : decode cc pc = .ok (.newarray .int, 2)) (hn : pc + 2 = n)
    (kk : ∀ q : Nat, G p l e R s m args below meth c nL D A H0 (kc + 1) (ks + N) Q (ws ++ [[(q, .inl (cI, N, .inl (fun _ => 0)))]]) n lv (.ref q :: st)) : G p l e R s m args below meth c nL D A H0 kc ks Q ws pc lv (.int z :: st) := by
  subst hn
  exact fun H locs ls hP hD hS hl => va_newa (atype := .int) (a0 := (N, .inl (fun _ => 0))) C.1 C.2.1 (C.2.2.2.2.1 _ hw) rfl C.2.2.2.2.2.2 hP hD hS hA (fun _ => rfl) hz hN hb hcR hsR hdg (fun q cA H1 hK1 hP1 hD1 hS1 => by
    have h1 : s.vm.findClass ("[" ++ FieldType.int.toString) = some cA := (hK1.2 2 (cA, .int) rfl).2
    have h2 : s.vm.findClass ("[" ++ FieldType.int.toString) = some cI := (C.2.2.2.2.2.2.2 0 (cI, .int) rfl).2
    have h3 : cA = cI := Option.some.inj (h1.symm.trans h2)
    subst h3
    exact kk q H1 locs ls (by rw [fl_snoc]; exact hP1) (by rw [fl_snoc]; exact hD1) hS1 hl)
theorem gq_newz (C : gC p s m args c cc nL own D cI cZ) (hA : ∀ q, H0.size ≤ q → A q) {z : Int32} (N n : Nat) (hw : Cond.arrayClass .boolean ∈ wsL_law) (hz : ¬ z < 0) (hN : z.toNatClampNeg = N) (hb : N * componentBytes .boolean ≤ 536870912) (hcR : kc + 1 ≤ R.cells) (hsR : ks + N ≤ R.slots) (hdg : decode cc pc = .ok (.newarray .boolean, 2)) (hn : pc + 2 = n)
    (kk : ∀ q : Nat, G p l e R s m args below meth c nL D A H0 (kc + 1) (ks + N) Q (ws ++ [[(q, .inl (cZ, N, .inl (fun _ => 0)))]]) n lv (.ref q :: st)) : G p l e R s m args below meth c nL D A H0 kc ks Q ws pc lv (.int z :: st) := by
  subst hn
  exact fun H locs ls hP hD hS hl => va_newa (atype := .boolean) (a0 := (N, .inl (fun _ => 0))) C.1 C.2.1 (C.2.2.2.2.1 _ hw) rfl C.2.2.2.2.2.2 hP hD hS hA (fun _ => rfl) hz hN hb hcR hsR hdg (fun q cA H1 hK1 hP1 hD1 hS1 => by
    have h1 : s.vm.findClass ("[" ++ FieldType.boolean.toString) = some cA := (hK1.2 2 (cA, .boolean) rfl).2
    have h2 : s.vm.findClass ("[" ++ FieldType.boolean.toString) = some cZ := (C.2.2.2.2.2.2.2 1 (cZ, .boolean) rfl).2
    have h3 : cA = cZ := Option.some.inj (h1.symm.trans h2)
    subst h3
    exact kk q H1 locs ls (by rw [fl_snoc]; exact hP1) (by rw [fl_snoc]; exact hD1) hS1 hl)
theorem gq_objInit (C : gC p s m args c cc nL own D cI cZ) {ix a : Nat} (n : Nat) (w1 : Cond.methodLink own ix objectInit ∈ wsL_law) (w2 : Cond.instanceMethod objectInit ∈ wsL_law) (w3 : Cond.code objectInit ⟨#[0xb1]⟩ 1 none ∈ wsL_law) (hfr : 1 ≤ R.frames) (hlo : (st.map fun v => v.category).sum + 12 ≤ R.locals) (hdg : decode cc pc = .ok (.invokespecial ix, 3)) (hn : pc + 3 = n)
    (kk : G p l e R s m args below meth c nL D A H0 kc ks Q ws n lv st) : G p l e R s m args below meth c nL D A H0 kc ks Q ws pc lv (.ref a :: st) := by
  subst hn
  exact fun H locs ls hP hD hS hl => W.objInit C.1 C.2.1 C.2.2.2.1 (C.2.2.2.2.1 _ w1) (C.2.2.2.2.1 _ w2) (C.2.2.2.2.1 _ w3) rfl (by rw [C.2.2.1]; exact hl.1) rfl hdg hfr (by show 2 * 0 + _ + _ ≤ _; omega) (kk H locs ls hP hD hS hl)
/-- a callee that makes cells: the rest stays, its components come behind -/
theorem gq_grow {mc ms : Nat} {Wc : List va_W} {post : Option Value → List va_W → Prop} {st0 : List Value} {a0 : Array Value} (pl rl : List Nat) (Wr : List va_W) (n : Nat)
    (hrun : ∀ (H : Heap) (locs : List Loc) (ls : Array Slot), va_P D vwCl ws.flatten H → va_P D vwCl Wc.flatten H → va_D A ws.flatten → va_D (fun _ => True) Wc.flatten → va_S A H0 H locs → lv_has ls nL lv → va_Run p l e R s m args below meth c H locs kc ks mc ms (F0 m pc ls st0) st (gQc D Wc H.size post a0) (va_A Wc.flatten H.size))
    (hA : ∀ q, H0.size ≤ q → A q) (hs : pl.map (fun i => ws[i]?) = Wc.map some) (hnd : va_nd pl = true) (hr : rl.map (fun i => ws[i]?) = Wr.map some) (hnr : va_nd rl = true) (hdis : ∀ i ∈ rl, i ∉ pl) (hn : pc + 3 = n)
    (kk : ∀ (v : Option Value) (W1 : List va_W), post v W1 → G p l e R s m args below meth c nL D A H0 (kc + mc) (ks + ms) Q (Wr ++ W1) n lv (v.toList ++ st)) : G p l e R s m args below meth c nL D A H0 kc ks Q ws pc lv st0 := by
  subst hn
  intro H locs ls hP hD hS hl
  have hDc : va_D A Wc.flatten := sub_D hD hnd hs
  have hPc : va_P D vwCl Wc.flatten H := sub_P hP hs
  intro T hT X
  obtain ⟨v', st₀, t, T', L, h0, X', hL, e1, e2, ⟨⟨v2, W2, hv2, hpost, hP1, hD1⟩, hz, hk⟩, stp⟩ := hrun H locs ls hP hPc hD (hDc.weaken (fun _ _ _ _ => trivial)) hS hl T hT X
  cases hv2
  rw [h0] at hz hk
  have hF : ∀ q, va_A Wc.flatten H.size q → A q := fun q h => by
    rcases h with ⟨k, e, h⟩ | h
    · exact hDc.2 k (q, e) h
    · exact hA q (Nat.le_trans hS.1 h)
  have hPr : va_P D vwCl Wr.flatten H := sub_P hP hr
  have hDr : va_D A Wr.flatten := sub_D hD hnr hr
  have apart : ∀ (k : Nat) (q : Nat × va_E), Wr.flatten[k]? = some q → q.1 < H.size ∧ ¬ va_A Wc.flatten H.size q.1 := by
    intro k q hq
    have hl0 := (hPr k q hq).lt
    refine ⟨hl0, fun h => ?_⟩
    obtain ⟨i1, j1, w1, g1, g2, -⟩ := fl_mem Wr k q hq
    obtain ⟨i, g3, g4⟩ := sub_at hr g1
    rcases h with ⟨k2, e, h⟩ | h
    · obtain ⟨i2, j2, w2, g5, g6, -⟩ := fl_mem Wc k2 _ h
      obtain ⟨i', g7, g8⟩ := sub_at hs g5
      exact fl_apart hD (fun e => hdis i (List.mem_of_getElem? g3) (by rw [e]; exact List.mem_of_getElem? g7)) g4 g2 g8 g6 rfl
    · omega
  have r1 : va_P D vwCl (Wr ++ W2).flatten t.heap := by
    rw [List.flatten_append]
    exact va_P.app (fun k q hq => (hPr k q hq).kept (hk q.1 (apart k q hq).1 (apart k q hq).2)) hP1
  have r2 : va_D A (Wr ++ W2).flatten := by
    rw [List.flatten_append]
    exact va_D.app hDr (hD1.weaken (fun k q _ h => hF q.1 h)) (fun i j x y hx hy hxy => (apart i x hx).2 (by rw [hxy]; exact hD1.2 j y hy))
  obtain ⟨t2, a1, b1⟩ := kk _ W2 hpost t.heap (locs ++ L) ls r1 r2
    ⟨Nat.le_trans hS.1 hz, fun q h1 h2 => by rw [hk q (Nat.lt_of_lt_of_le h1 hS.1) (fun z => h2 (hF q z))]; exact hS.2.1 q h1 h2, fun q hq => by
      rcases List.mem_append.mp hq with h | h
      · exact hS.2.2 q h
      · exact hF _ (hL q h)⟩ hl T' e1 X'
  exact ⟨t2, stp t2 a1, b1⟩
theorem gq_callI (C : gC p s m args c cc nL own D cI cZ) {ix k mL fr lo mc ms b : Nat} {y : MethodName} {cc' : ByteArray} {As : List Value} {Wc : List va_W} {post : Option Value → List va_W → Prop} {st0 : List Value} (hA : ∀ q, H0.size ≤ q → A q) (M : Cond.methodLink own ix y ∈ wsL_law ∧ Cond.instanceMethod y ∈ wsL_law ∧ Cond.initialized y.cls ∈ wsL_law ∧ Cond.code y cc' mL none ∈ wsL_law) (hy : y.name = "<init>" ∧ y.cls ≠ "java/lang/invoke/MethodHandle" ∧ y.cls ≠ "java/lang/invoke/VarHandle" ∧ (parseMethodDescriptor y.desc).map (fun d => d.parameters.length) = some k) (hM : CT l D cI cZ y cc' mL none fr lo mc ms (.ref b :: As) Wc post) (hlen : As.length = k) (hR : fr + 1 ≤ R.frames ∧ 8 + (mL + 11) + lo ≤ R.locals) (hkR : kc + mc ≤ R.cells ∧ ks + ms ≤ R.slots) (hst : st0 = As.reverse ++ .ref b :: st) (hcat : (st.map fun v => v.category).sum ≤ 8) (hdg : decode cc pc = .ok (.invokespecial ix, 3)) (pl rl : List Nat) (Wr : List va_W) (n : Nat) (hs : pl.map (fun i => ws[i]?) = Wc.map some) (hnd : va_nd pl = true) (hr : rl.map (fun i => ws[i]?) = Wr.map some) (hnr : va_nd rl = true) (hdis : ∀ i ∈ rl, i ∉ pl) (hn : pc + 3 = n)
    (kk : ∀ (v : Option Value) (W1 : List va_W), post v W1 → G p l e R s m args below meth c nL D A H0 (kc + mc) (ks + ms) Q (Wr ++ W1) n lv (v.toList ++ st)) : G p l e R s m args below meth c nL D A H0 kc ks Q ws pc lv st0 := by
  subst hst
  refine gq_grow pl rl Wr n (a0 := (Value.ref b :: As).toArray) (fun H locs ls hP hPc hD hDc hS hl => ?_) hA hs hnd hr hnr hdis hn kk
  obtain ⟨m1, m2, m3, m4⟩ := M
  exact va_runI ⟨C.1, C.2.1, C.2.2.1, C.2.2.2.1, C.2.2.2.2.1⟩ (hM H.size) ⟨callB_of k C.2.2.2.2.1 (gGoodC m4) rfl rfl rfl (C.2.2.2.2.1 _ m3) (C.2.2.2.2.1 _ m1) hy.2 hR, hy.1, C.2.2.2.2.1 _ m2⟩ ⟨gPc_blind _ _ _ _ _ _, fun U hU hW => ⟨rfl, by rw [hU], by rw [hU]; exact hPc, va_K.moved hW.alike C.2.2.2.2.2.2, gNW.warm hW C.2.2.2.2.2.1, hDc⟩⟩ rfl hlen hl.1 rfl (lv_room hcat) hdg hkR
theorem gq_callIN (C : gC p s m args c cc nL own D cI cZ) {ix k mL fr lo mc ms b : Nat} {y : MethodName} {host : String} {cc' : ByteArray} {As : List Value} {Wc : List va_W} {post : Option Value → List va_W → Prop} {st0 : List Value} (hA : ∀ q, H0.size ≤ q → A q) (M : (own, ix, y, host) ∈ gNM ∧ Cond.instanceMethod y ∈ wsL_law ∧ Cond.initialized y.cls ∈ wsL_law ∧ Cond.code y cc' mL none ∈ wsL_law) (hy : y.name = "<init>" ∧ y.cls ≠ "java/lang/invoke/MethodHandle" ∧ y.cls ≠ "java/lang/invoke/VarHandle" ∧ (parseMethodDescriptor y.desc).map (fun d => d.parameters.length) = some k) (hM : CT l D cI cZ y cc' mL none fr lo mc ms (.ref b :: As) Wc post) (hlen : As.length = k) (hR : fr + 1 ≤ R.frames ∧ 8 + (mL + 11) + lo ≤ R.locals) (hkR : kc + mc ≤ R.cells ∧ ks + ms ≤ R.slots) (hst : st0 = As.reverse ++ .ref b :: st) (hcat : (st.map fun v => v.category).sum ≤ 8) (hdg : decode cc pc = .ok (.invokespecial ix, 3)) (pl rl : List Nat) (Wr : List va_W) (n : Nat) (hs : pl.map (fun i => ws[i]?) = Wc.map some) (hnd : va_nd pl = true) (hr : rl.map (fun i => ws[i]?) = Wr.map some) (hnr : va_nd rl = true) (hdis : ∀ i ∈ rl, i ∉ pl) (hn : pc + 3 = n)
    (kk : ∀ (v : Option Value) (W1 : List va_W), post v W1 → G p l e R s m args below meth c nL D A H0 (kc + mc) (ks + ms) Q (Wr ++ W1) n lv (v.toList ++ st)) : G p l e R s m args below meth c nL D A H0 kc ks Q ws pc lv st0 := by
  subst hst
  refine gq_grow pl rl Wr n (a0 := (Value.ref b :: As).toArray) (fun H locs ls hP hPc hD hDc hS hl => ?_) hA hs hnd hr hnr hdis hn kk
  obtain ⟨m1, m2, m3, m4⟩ := M
  exact va_runIN ⟨C.1, C.2.1, C.2.2.1, C.2.2.2.1, C.2.2.2.2.1⟩ (hM H.size) ⟨va_cnB k C.2.2.2.2.1 (gGoodC m4) rfl rfl rfl (C.2.2.2.2.2.1.2 _ m1) (C.2.2.2.2.1 _ m3) hy.2 hR, hy.1, C.2.2.2.2.1 _ m2⟩ ⟨gPc_blind _ _ _ _ _ _, fun U hU hW => ⟨rfl, by rw [hU], by rw [hU]; exact hPc, va_K.moved hW.alike C.2.2.2.2.2.2, gNW.warm hW C.2.2.2.2.2.1, hDc⟩⟩ rfl hlen hl.1 rfl (lv_room hcat) hdg hkR
theorem gq_aload_nN (C : gC p s m args c cc nL own D cI cZ) {k : Fin 4} (j n : Nat) (hdg : decode cc pc = .ok (.aload_n k, 1)) (hk : lv[j]? = some ((k : Nat), .null)) (hn : pc + 1 = n) (kk : G p l e R s m args below meth c nL D A H0 kc ks Q ws n lv (.null :: st)) : G p l e R s m args below meth c nL D A H0 kc ks Q ws pc lv st := by
  subst hn
  exact fun H locs ls hP hD hS hl => lv_aload_nN C.1 C.2.1 hdg rfl (lv_at hl j hk) (kk H locs ls hP hD hS hl)
def gA (l : List Nat) : Nat → Nat := fun k => l.getD k 0
/-- a chain of inns -/
def chW (cI : ClassId) (hh : Nat) : List (Nat → Nat) → List InnS → va_W
  | a :: as, t :: ts => iC cI a hh (as.head?.map (fun b => b 0)) t ++ chW cI hh as ts
  | _, _ => []
def nx (as : List (Nat → Nat)) : Option Nat := as.head?.map (fun b => b 0)
theorem iC_fst (cI : ClassId) (a : Nat → Nat) (hh : Nat) (dp : Option Nat) (t : InnS) : (iC cI a hh dp t).map (fun q => q.1) = [a 0, a 1, a 2, a 3, a 4, a 5, a 6, a 7] := by
  obtain ⟨x1, x2, x3, x4, x5, x6, x7, x8, x9, x10, x11, x12, x13, x14⟩ := t
  rfl
theorem chW_fst {cI : ClassId} {hh : Nat} : ∀ {as : List (Nat → Nat)} {T1 T2 : List InnS}, T1.length = T2.length → (chW cI hh as T1).map (fun q => q.1) = (chW cI hh as T2).map (fun q => q.1)
  | [], _, _, _ => by simp [chW]
  | a :: as, [], [], _ => rfl
  | a :: as, [], t :: T2, h => by simp at h
  | a :: as, t :: T1, [], h => by simp at h
  | a :: as, t :: T1, u :: T2, h => by
    simp only [chW, List.map_append, iC_fst]
    rw [chW_fst (T1 := T1) (T2 := T2) (by simpa using h)]
end GA
