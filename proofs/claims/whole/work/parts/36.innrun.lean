/-! the class's inn: beds given up, nights, days -/
theorem f_clear {n k b g0 : Nat} {C : AIn} {t : InnS} (hC : AOk n C) (hn : n ≤ 8) (h : InR k C t) (hb : C.1 b = some g0) : ∃ t', f_X3_clear (nI b) t = some t' ∧ InR k (freeA b C) t' ∧ ∀ K, (∀ x, presA C x → x < 8) → KnR K t → KnR (freeK b C K) t' := by
  obtain ⟨I_law, I_there, I_sleepers, I_empty, I_empties, I_yard, I_waiting, I_nights, I_used, I_sheets, I_lastOnes, I_guestsWithFleas, I_bedsWithFleas, I_isCounting⟩ := t
  have hpres := freeA_pres hC hb
  have hyle := ya_le hC
  have hel := em_le hC
  have hok := freeA_ok hC hb
  have hC0 := hC
  obtain ⟨sl, em, ya⟩ := C
  obtain ⟨a1, a2, a3, a4, a5, a6, a7, a8, a9⟩ := hC
  obtain ⟨rfl, ⟨tm, htm, rfl, hth⟩, hsl, rfl, hem, rfl, hya⟩ := h
  simp only at hb hsl hem hya hpres hyle hel ⊢
  have hbn : b < n := by
    rcases Nat.lt_or_ge b n with h | h
    · exact h
    · have := a3 b h; rw [this] at hb; cases hb
  obtain ⟨tm', htm', etm, hth'⟩ := th_go (C' := freeA b (sl, em, ya)) htm hth hpres
  rw [f_X3_clear]
  have hmin : min g0 8 < 2147483648 := by omega
  have es : I_sleepers b = nI (min g0 8) := by rw [hsl b (by omega), hb]; rfl
  rw [f_sleeperOf (by omega)]
  simp only [Option.bind_some, es, f_bitOf hmin, etm]
  cases ya with
  | nil =>
    simp (disch := omega) only [n_lt, n_le, n_eq, n_lt0, n_ge0, n_eq0, n_gt0, n_le0, n_cl, n_add, n_sub, n_mul, n_m1, n_m6, m1_lt, m6_lt, m1_ge, m6_ge, m1_eq, m6_eq0, m1_eq0, c_leT, c_leF, c_ltT, c_ltF, c_eqF, false_or, or_false, or_self, if_true, if_false, ite_true, ite_false, Option.bind_some, not_true_eq_false, not_false_eq_true, reduceIte, List.length_nil]
    have hnb : b ∉ em := fun e => by have := ((a2 b).mp e).2; rw [this] at hb; cases hb
    have hlt : em.length < 8 := by
      have h1 := nodup_le n (b :: em) (List.nodup_cons.mpr ⟨hnb, a1⟩) (fun x hx => by
        rcases List.mem_cons.mp hx with e | e
        · omega
        · exact ((a2 x).mp e).1)
      have h2 : (b :: em).length = em.length + 1 := rfl
      omega
    rw [f_leaveEmpty (by omega) hlt rfl]
    refine ⟨_, rfl, ⟨rfl, ⟨tm', htm', rfl, hth'⟩, upd_cdO hsl _ rfl, ?_, ?_, rfl, fun i hi => by simp [freeA] at hi⟩, fun K _ hK => hK⟩
    · simp [freeA]
    · intro i hi
      simp only [freeA, List.length_append, List.length_singleton] at hi ⊢
      simp only [upd]
      by_cases hie : i = em.length
      · rw [if_pos hie, hie, List.getD_eq_getElem?_getD, List.getElem?_append_right (by omega)]
        simp
      · rw [if_neg hie, hem i (by omega), List.getD_eq_getElem?_getD, List.getD_eq_getElem?_getD, List.getElem?_append_left (by omega)]
  | cons y ys =>
    simp only [List.length_cons] at hyle hya ⊢
    have e0 : (nI (ys.length + 1) ≤ 0) = False := by rw [n_le0 (by omega)]; exact eq_false (by omega)
    simp only [e0, if_false]
    have e1 : I_yard (nI 0).toNatClampNeg = nI (min y 8) := by
      rw [n_cl (by omega)]
      exact hya 0 (by omega)
    rw [e1, f_leaveYard (p := 0) (len := ys.length + 1) (by omega) (by omega) (nI (min y 8)) rfl (hya 0 (by omega)) (fun i hi => absurd hi (by omega))]
    simp only [Option.bind_some]
    rw [f_occupy (by omega)]
    have e9 : (sl, em, y :: ys).2.2.eraseIdx 0 = ys := rfl
    refine ⟨_, rfl, ⟨rfl, ⟨tm', htm', rfl, hth'⟩, upd_cdO hsl _ rfl, rfl, hem, ?_, ?_⟩, ?_⟩
    · simp [freeA]
    · intro i hi
      have h1 := shY_hold (f := fun z => nI (min z 8)) (l := y :: ys) (Y := I_yard) (fun i hi => hya i (by simpa using hi)) (p := 0) (by simp) i (by simpa [freeA] using hi)
      simpa [freeA] using h1
    · intro K hgo hK
      have hy8 : y < 8 := hgo y (Or.inr (by simp))
      have e2 : min y 8 = y := by omega
      simp only [freeK, e2]
      exact kn_take (by omega) hy8 hK
def bedA (sl : Nat → Option Nat) (g : Nat) : Option Nat := (List.range 8).find? (fun b => decide (sl b = some g))
theorem bedA_some {sl : Nat → Option Nat} {g b : Nat} (h : bedA sl g = some b) : sl b = some g ∧ b < 8 := by
  have h1 := List.find?_some h
  have h2 := List.mem_of_find?_eq_some h
  exact ⟨by simpa using h1, by simpa using h2⟩
theorem bedA_none {sl : Nat → Option Nat} {g : Nat} (h : bedA sl g = none) : ∀ b, b < 8 → sl b ≠ some g := by
  intro b hb
  have h1 := List.find?_eq_none.mp h b (by simpa using hb)
  simpa using h1
def goA (g : Nat) (C : AIn) : AIn := match bedA C.1 g with
  | some b => freeA b C
  | none => leaveA g C
def goK (g : Nat) (C : AIn) (K : AKn) : AKn := match bedA C.1 g with
  | some b => freeK b C K
  | none => K
theorem pres_none {n g : Nat} {C : AIn} (hC : AOk n C) (hn : n ≤ 8) (hp : presA C g) (h : bedA C.1 g = none) : g ∈ C.2.2 ∧ ∀ b, C.1 b ≠ some g := by
  obtain ⟨sl, em, ya⟩ := C
  have hb := bedA_none h
  have hall : ∀ b, sl b ≠ some g := fun b e => by
    rcases Nat.lt_or_ge b 8 with h8 | h8
    · exact hb b h8 e
    · have := hC.2.2.1 b (by omega); rw [this] at e; cases e
  rcases hp with ⟨b, hb2⟩ | h2
  · exact absurd hb2 (hall b)
  · exact ⟨h2, hall⟩
theorem goA_ok {n g : Nat} {C : AIn} (hC : AOk n C) (hn : n ≤ 8) (hp : presA C g) : AOk n (goA g C) := by
  unfold goA
  split
  · rename_i b hb
    exact freeA_ok hC (bedA_some hb).1
  · rename_i hb
    exact leaveA_ok hC (pres_none hC hn hp hb).1
theorem goA_pres {n g : Nat} {C : AIn} (hC : AOk n C) (hn : n ≤ 8) (hp : presA C g) (x : Nat) : presA (goA g C) x ↔ (x ≠ g ∧ presA C x) := by
  unfold goA
  split
  · rename_i b hb
    exact freeA_pres hC (bedA_some hb).1 x
  · rename_i hb
    exact leaveA_pres hC (pres_none hC hn hp hb).1 x
/-- the place of a guest in the yard -/
theorem yard_place {ya : List Nat} {g : Nat} (h : g ∈ ya) : ∃ p, p < ya.length ∧ ya.getD p 0 = g ∧ (∀ i, i < p → ya.getD i 0 ≠ g) ∧ ya.erase g = ya.eraseIdx p := by
  refine ⟨ya.idxOf g, List.idxOf_lt_length_of_mem h, ?_, fun i hi e => ?_, (List.erase_eq_eraseIdx_of_idxOf rfl)⟩
  · have hlt := List.idxOf_lt_length_of_mem h
    rw [List.getD_eq_getElem?_getD, List.getElem?_eq_getElem hlt]
    exact List.getElem_idxOf hlt
  · have hlt := List.idxOf_lt_length_of_mem h
    rw [List.getD_eq_getElem?_getD, List.getElem?_eq_getElem (by omega)] at e
    have h2 := List.not_of_lt_findIdx (p := (· == g)) (xs := ya) (i := i) hi
    simp at h2
    exact h2 e
theorem f_letGo {n k g : Nat} {C : AIn} {t : InnS} (hC : AOk n C) (hn : n ≤ 8) (h : InR k C t) (hg : g < 8) (hp : presA C g) : ∃ t', f_X3_letGo (nI g) t = some t' ∧ InR k (goA g C) t' ∧ ∀ K, (∀ x, presA C x → x < 8) → KnR K t → KnR (goK g C K) t' := by
  have hpres := goA_pres hC hn hp
  unfold goA goK
  cases hb : bedA C.1 g with
  | some b =>
    obtain ⟨h1, h2⟩ := bedA_some hb
    obtain ⟨t', e1, e2, e3⟩ := f_clear hC hn h h1
    refine ⟨t', ?_, e2, e3⟩
    have e4 := f_bedOf_some hC hn h hg h1
    obtain ⟨I_law, I_there, I_sleepers, I_empty, I_empties, I_yard, I_waiting, I_nights, I_used, I_sheets, I_lastOnes, I_guestsWithFleas, I_bedsWithFleas, I_isCounting⟩ := t
    obtain ⟨J_law, J_there, J_sleepers, J_empty, J_empties, J_yard, J_waiting, J_nights, J_used, J_sheets, J_lastOnes, J_guestsWithFleas, J_bedsWithFleas, J_isCounting⟩ := t'
    rw [f_X3_letGo, e4]
    have e5 : (nI b = -1) = False := n_m1 (by omega)
    simp only [Option.bind_some, e5, if_false, e1]
  | none =>
    obtain ⟨h1, h2⟩ := pres_none hC hn hp hb
    have e4 := f_bedOf_none h hg h2
    have hyle := ya_le hC
    obtain ⟨I_law, I_there, I_sleepers, I_empty, I_empties, I_yard, I_waiting, I_nights, I_used, I_sheets, I_lastOnes, I_guestsWithFleas, I_bedsWithFleas, I_isCounting⟩ := t
    obtain ⟨sl, em, ya⟩ := C
    simp only [goA, hb] at hpres
    obtain ⟨rfl, ⟨tm, htm, rfl, hth⟩, hsl, rfl, hem, rfl, hya⟩ := h
    obtain ⟨tm', htm', etm, hth'⟩ := th_go (g := g) (C' := leaveA g (sl, em, ya)) htm hth hpres
    rw [show min g 8 = g by omega] at etm
    obtain ⟨p, p1, p2, p3, p4⟩ := yard_place h1
    simp only at p1 p2 p3 p4 hyle hya
    rw [f_X3_letGo, e4]
    simp only [Option.bind_some, if_true, f_bitOf (show g < 2147483648 by omega), etm]
    rw [f_leaveYard (p := p) p1 (by omega) _ rfl (by rw [hya p p1, p2, show min g 8 = g by omega]) (fun i hi e => by
      rw [hya i (by omega)] at e
      have e6 := (nI_eq (by omega) (by omega)).mp e
      exact p3 i hi (by omega))]
    refine ⟨_, rfl, ⟨rfl, ⟨tm', htm', rfl, hth'⟩, hsl, rfl, hem, ?_, ?_⟩, fun K _ hK => hK⟩
    · simp only [leaveA, p4, List.length_eraseIdx_of_lt p1]
    · simp only [leaveA, p4]
      exact shY_hold (f := fun z => nI (min z 8)) hya p1
/-- the one in the least bed goes -/
def dropA (C : AIn) : AIn := match (List.range 8).find? (fun b => (C.1 b).isSome) with
  | some b => freeA b C
  | none => C
theorem cdO_m1 {o : Option Nat} : cdO o = -1 ↔ o = none := by
  cases o with
  | none => simp [cdO]
  | some g =>
    simp only [cdO]
    rw [n_m1 (by omega)]
    simp
theorem lp_emptyLeast {n k : Nat} {C : AIn} (hC : AOk n C) (hn : n ≤ 8) {I_law I_there I_empties I_waiting I_guestsWithFleas I_bedsWithFleas I_isCounting : Int32} {I_sleepers I_empty I_yard I_nights I_used I_sheets I_lastOnes : Nat → Int32} (h : InR k C (I_law, I_there, I_sleepers, I_empty, I_empties, I_yard, I_waiting, I_nights, I_used, I_sheets, I_lastOnes, I_guestsWithFleas, I_bedsWithFleas, I_isCounting)) (kL : Int32 → Option InnS) (hk : ∃ t', kL (nI 8) = some t' ∧ InR k C t') : ∀ (d j fuel : Nat), 8 = j + d → d < fuel → (∀ i, i < j → C.1 i = none) → ∃ t', f_X3_emptyLeastBed_L2 I_law I_there I_sleepers I_empty I_empties I_yard I_waiting I_nights I_used I_sheets I_lastOnes I_guestsWithFleas I_bedsWithFleas I_isCounting fuel (nI j) kL = some t' ∧ InR k (dropA C) t' := by
  intro d
  induction d with
  | zero =>
    intro j fuel h1 h3 hno
    obtain ⟨fuel, rfl⟩ : ∃ n, fuel = n + 1 := ⟨fuel - 1, by omega⟩
    have hj : j = 8 := by omega
    subst hj
    rw [f_X3_emptyLeastBed_L2]
    simp (disch := omega) only [n_lt, n_le, n_eq, n_lt0, n_ge0, n_eq0, n_gt0, n_le0, n_cl, n_add, n_sub, n_mul, n_m1, n_m6, m1_lt, m6_lt, m1_ge, m6_ge, m1_eq, m6_eq0, m1_eq0, c_leT, c_leF, c_ltT, c_ltF, c_eqF, false_or, or_false, or_self, if_true, if_false, ite_true, ite_false, Option.bind_some, not_true_eq_false, not_false_eq_true, reduceIte]
    have e : (List.range 8).find? (fun b => (C.1 b).isSome) = none := by
      rw [List.find?_eq_none]
      intro x hx
      rw [hno x (by simpa using hx)]
      simp
    unfold dropA
    rw [e]
    exact hk
  | succ d ih =>
    intro j fuel h1 h3 hno
    obtain ⟨fuel, rfl⟩ : ∃ n, fuel = n + 1 := ⟨fuel - 1, by omega⟩
    rw [f_X3_emptyLeastBed_L2]
    have hslj : I_sleepers j = cdO (C.1 j) := h.2.2.1 j (by omega)
    simp (disch := omega) only [n_lt, n_le, n_eq, n_lt0, n_ge0, n_eq0, n_gt0, n_le0, n_cl, n_add, n_sub, n_mul, n_m1, n_m6, m1_lt, m6_lt, m1_ge, m6_ge, m1_eq, m6_eq0, m1_eq0, c_leT, c_leF, c_ltT, c_ltF, c_eqF, false_or, or_false, or_self, if_true, if_false, ite_true, ite_false, Option.bind_some, not_true_eq_false, not_false_eq_true, reduceIte, hslj]
    cases ho : C.1 j with
    | none =>
      simp only [cdO, if_true]
      exact ih (j + 1) fuel (by omega) (by omega) (fun i hi => by
        by_cases e : i = j
        · rw [e]; exact ho
        · exact hno i (by omega))
    | some g0 =>
      have e1 : (cdO (some g0) = -1) = False := eq_false (fun e => by have := cdO_m1.mp e; cases this)
      simp only [e1, if_false]
      obtain ⟨t', e2, e3, -⟩ := f_clear hC hn h ho
      obtain ⟨J_law, J_there, J_sleepers, J_empty, J_empties, J_yard, J_waiting, J_nights, J_used, J_sheets, J_lastOnes, J_guestsWithFleas, J_bedsWithFleas, J_isCounting⟩ := t'
      simp only [e2, Option.bind_some]
      have e : (List.range 8).find? (fun b => (C.1 b).isSome) = some j := by
        rw [List.find?_range_eq_some]
        exact ⟨by rw [ho]; rfl, by simpa using (show j < 8 by omega), fun i hi => by rw [hno i hi]; rfl⟩
      unfold dropA
      rw [e]
      exact ⟨_, rfl, e3⟩
theorem f_emptyLeast {n k : Nat} {C : AIn} {t : InnS} (hC : AOk n C) (hn : n ≤ 8) (h : InR k C t) : ∃ t', f_X3_emptyLeastBed t = some t' ∧ InR k (dropA C) t' := by
  obtain ⟨I_law, I_there, I_sleepers, I_empty, I_empties, I_yard, I_waiting, I_nights, I_used, I_sheets, I_lastOnes, I_guestsWithFleas, I_bedsWithFleas, I_isCounting⟩ := t
  rw [f_X3_emptyLeastBed]
  exact lp_emptyLeast hC hn h _ ⟨_, rfl, h⟩ 8 0 FU (by omega) (by rw [FU_eq]; omega) (fun i hi => absurd hi (by omega))
theorem dropA_ok {n : Nat} {C : AIn} (hC : AOk n C) : AOk n (dropA C) := by
  unfold dropA
  split
  · rename_i b hb
    have h1 := List.find?_some hb
    obtain ⟨g, hg⟩ := Option.isSome_iff_exists.mp h1
    exact freeA_ok hC hg
  · exact hC
