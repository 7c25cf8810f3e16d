/-! the reference's day: faults, the untold, its run -/
def cntQ (d : Nat → Nat) : Nat → Nat
  | 0 => 0
  | k + 1 => cntQ d k + (if d k = 63 then 1 else 0)
theorem cntQ_le (d : Nat → Nat) : ∀ k, cntQ d k ≤ k
  | 0 => Nat.le_refl 0
  | k + 1 => by
    have := cntQ_le d k
    simp only [cntQ]
    split <;> omega
theorem cntQ_mono (d : Nat → Nat) (a : Nat) : ∀ c, cntQ d a ≤ cntQ d (a + c)
  | 0 => Nat.le_refl _
  | c + 1 => by
    have := cntQ_mono d a c
    show cntQ d a ≤ cntQ d (a + c + 1)
    simp only [cntQ]
    omega
theorem lp_opens {d : Nat → Nat} {Y : Nat → Int32} (hY : ∀ j, j < 48 → Y j = nI (d j)) (hd : ∀ j, j < 48 → d j < 127) {ev : Nat} (hev : ev ≤ 48) (kL : Int32 → Int32 → Option Int32) : ∀ (c j fuel : Nat), ev = j + c → c < fuel → f_X6_opens_L4 (nI ev) Y fuel (nI (cntQ d j)) (nI j) kL = kL (nI (cntQ d ev)) (nI ev) := by
  intro c
  induction c with
  | zero =>
    intro j fuel h1 h3
    obtain ⟨fuel, rfl⟩ : ∃ n, fuel = n + 1 := ⟨fuel - 1, by omega⟩
    have hj : j = ev := by omega
    subst hj
    rw [f_X6_opens_L4]
    simp (disch := omega) only [n_lt, n_le, n_eq, n_lt0, n_ge0, n_eq0, n_gt0, n_le0, n_cl, n_add, n_sub, n_mul, n_m1, n_m6, m1_lt, m6_lt, m1_ge, m6_ge, m1_eq, m6_eq0, m1_eq0, c_leT, c_leF, c_ltT, c_ltF, c_eqF, false_or, or_false, or_self, if_true, if_false, ite_true, ite_false, Option.bind_some, not_true_eq_false, not_false_eq_true, reduceIte]
  | succ c ih =>
    intro j fuel h1 h3
    obtain ⟨fuel, rfl⟩ : ∃ n, fuel = n + 1 := ⟨fuel - 1, by omega⟩
    have hdj := hd j (by omega)
    have ih' := ih (j + 1) fuel (by omega) (by omega)
    simp only [cntQ] at ih'
    rw [f_X6_opens_L4]
    by_cases e : d j = 63
    · rw [if_pos e] at ih'
      simp (disch := omega) only [n_lt, n_le, n_eq, n_lt0, n_ge0, n_eq0, n_gt0, n_le0, n_cl, n_add, n_sub, n_mul, n_m1, n_m6, m1_lt, m6_lt, m1_ge, m6_ge, m1_eq, m6_eq0, m1_eq0, c_leT, c_leF, c_ltT, c_ltF, c_eqF, false_or, or_false, or_self, if_true, if_false, ite_true, ite_false, Option.bind_some, not_true_eq_false, not_false_eq_true, reduceIte, hY j (show j < 48 by omega), e]
      exact ih'
    · rw [if_neg e] at ih'
      simp (disch := omega) only [n_lt, n_le, n_eq, n_lt0, n_ge0, n_eq0, n_gt0, n_le0, n_cl, n_add, n_sub, n_mul, n_m1, n_m6, m1_lt, m6_lt, m1_ge, m6_ge, m1_eq, m6_eq0, m1_eq0, c_leT, c_leF, c_ltT, c_ltF, c_eqF, false_or, or_false, or_self, if_true, if_false, ite_true, ite_false, Option.bind_some, not_true_eq_false, not_false_eq_true, reduceIte, hY j (show j < 48 by omega), e]
      exact ih'
theorem m_opens {t : ModS} {m : Nat} {d : Nat → Nat} (hD : ModDR t m d) (hd : ∀ j, j < 48 → d j < 127) {ev : Nat} (hev : ev ≤ 48) : f_X6_opens (nI ev) t = some (nI (cntQ d ev)) := by
  obtain ⟨M_beds, M_law, M_worths, M_sights, M_sight, M_signs, M_pad, M_lies, M_empty, M_list, M_waits, M_yard, M_last, M_used, M_sheets, M_nights, M_fleasOfGuests, M_fleasOfBeds, M_reason, M_row, M_bestRow, M_image, M_isKept⟩ := t
  rw [f_X6_opens]
  exact lp_opens hD.2 hd hev _ ev 0 FU (by omega) (by rw [FU_eq]; omega)
def fA (d : Nat → Nat) : Nat → Nat → Nat → Option Nat
  | 0, _, _ => none
  | m + 1, p, c => if d p = 63 then (if c + 1 ≤ 3 then fA d m (p + 1) (c + 1) else some p) else if d p = 46 ∨ (65 ≤ d p ∧ d p ≤ 72) ∨ (97 ≤ d p ∧ d p ≤ 104) then fA d m (p + 1) c else some p
theorem fA_none {d : Nat → Nat} : ∀ (m p : Nat), fA d m p (cntQ d p) = none → cntQ d p ≤ 3 → (∀ i, p ≤ i → i < p + m → d i = 63 ∨ okS (d i)) ∧ cntQ d (p + m) ≤ 3
  | 0, p, _, hc => ⟨fun i h1 h2 => absurd h2 (by omega), hc⟩
  | m + 1, p, h, hc => by
    simp only [fA] at h
    have hcq : cntQ d (p + 1) = cntQ d p + (if d p = 63 then 1 else 0) := rfl
    by_cases e : d p = 63
    · rw [if_pos e] at h hcq
      by_cases e2 : cntQ d p + 1 ≤ 3
      · rw [if_pos e2, ← hcq] at h
        obtain ⟨h1, h2⟩ := fA_none m (p + 1) h (by omega)
        refine ⟨fun i h3 h4 => ?_, by rw [show p + (m + 1) = p + 1 + m by omega]; exact h2⟩
        by_cases e3 : i = p
        · rw [e3]; exact Or.inl e
        · exact h1 i (by omega) (by omega)
      · rw [if_neg e2] at h; cases h
    · rw [if_neg e] at h hcq
      by_cases e2 : d p = 46 ∨ (65 ≤ d p ∧ d p ≤ 72) ∨ (97 ≤ d p ∧ d p ≤ 104)
      · rw [if_pos e2] at h
        rw [show cntQ d p = cntQ d (p + 1) by omega] at h
        obtain ⟨h1, h2⟩ := fA_none m (p + 1) h (by omega)
        refine ⟨fun i h3 h4 => ?_, by rw [show p + (m + 1) = p + 1 + m by omega]; exact h2⟩
        by_cases e3 : i = p
        · rw [e3]; exact Or.inr e2
        · exact h1 i (by omega) (by omega)
      · rw [if_neg e2] at h; cases h
theorem lp_firstFault {m : Nat} {d : Nat → Nat} {len : Int32} {S : Nat → Int32} (hD : DayR (len, S) m d) : ∀ (c j q fuel : Nat), m = j + c → c < fuel → q ≤ 3 → f_X0_firstFault_L4 len S fuel (nI q) (nI j) (fun x1_L4 x2_L4 => some (-6 : Int32)) = some (cdP (fA d c j q)) := by
  have hm := hD.2.1
  obtain rfl : len = nI m := hD.1
  have hone : (nI 1 = 0) = False := eq_false (by decide)
  have hzer : (nI 0 = 0) = True := eq_true rfl
  intro c
  induction c with
  | zero =>
    intro j q fuel h1 h3 hq
    obtain ⟨fuel, rfl⟩ : ∃ n, fuel = n + 1 := ⟨fuel - 1, by omega⟩
    rw [f_X0_firstFault_L4]
    simp (disch := omega) only [n_lt, n_le, n_eq, n_lt0, n_ge0, n_eq0, n_gt0, n_le0, n_cl, n_add, n_sub, n_mul, n_m1, n_m6, m1_lt, m6_lt, m1_ge, m6_ge, m1_eq, m6_eq0, m1_eq0, c_leT, c_leF, c_ltT, c_ltF, c_eqF, false_or, or_false, or_self, if_true, if_false, ite_true, ite_false, Option.bind_some, not_true_eq_false, not_false_eq_true, reduceIte, fA, cdP]
  | succ c ih =>
    intro j q fuel h1 h3 hq
    obtain ⟨fuel, rfl⟩ : ∃ n, fuel = n + 1 := ⟨fuel - 1, by omega⟩
    have hdj := (hD.2.2 j (by omega)).2
    rw [f_X0_firstFault_L4]
    simp (disch := omega) only [n_le, c_leF, if_false, f_signAt hD (show j < m by omega), Option.bind_some, n_eq, n_add, f_isComing (show d j < 2147483648 by omega), f_isGoing (show d j < 2147483648 by omega), fA]
    by_cases e1 : d j = 63
    · simp only [if_pos e1]
      by_cases e2 : q + 1 ≤ 3
      · rw [if_pos e2, if_pos e2]
        exact ih (j + 1) (q + 1) fuel (by omega) (by omega) e2
      · rw [if_neg e2, if_neg e2]
        rfl
    · have ih' := ih (j + 1) q fuel (by omega) (by omega) hq
      simp only [if_neg e1, if_pos hq]
      by_cases e2 : d j = 46
      · rw [if_pos e2, if_pos (Or.inl e2)]
        exact ih'
      · rw [if_neg e2]
        by_cases e3 : 65 ≤ d j ∧ d j ≤ 72
        · rw [if_pos (Or.inr (Or.inl e3))]
          simp only [if_pos e3, hone, if_false]
          exact ih'
        · by_cases e4 : 97 ≤ d j ∧ d j ≤ 104
          · rw [if_pos (Or.inr (Or.inr e4))]
            simp only [if_neg e3, if_pos e4, hone, hzer, if_false, if_true]
            exact ih'
          · rw [if_neg (show ¬ (d j = 46 ∨ (65 ≤ d j ∧ d j ≤ 72) ∨ (97 ≤ d j ∧ d j ≤ 104)) by omega)]
            simp only [if_neg e3, if_neg e4, hzer, if_true]
            rfl
theorem f_firstFault {tD : DayS} {m : Nat} {d : Nat → Nat} (hD : DayR tD m d) : f_X0_firstFault tD = some (cdP (fA d m 0 0)) := by
  obtain ⟨len, S⟩ := tD
  have hm := hD.2.1
  rw [f_X0_firstFault]
  exact lp_firstFault hD m 0 0 FU (by omega) (by rw [FU_eq]; omega) (by omega)
theorem m_in {s a b : Nat} (hs : s < 2147483648) (ha : a < 2147483648) (hb : b < 2147483648) : f_X6_in (nI s) (nI a) (nI b) = some (nI (if a ≤ s ∧ s ≤ b then 1 else 0)) := by
  rw [f_X6_in]
  by_cases h1 : s < a
  · rw [if_neg (show ¬ (a ≤ s ∧ s ≤ b) by omega), if_pos (by rw [n_lt hs ha]; exact h1)]
  · rw [if_neg (by rw [n_lt hs ha]; exact h1)]
    by_cases h2 : b < s
    · rw [if_neg (show ¬ (a ≤ s ∧ s ≤ b) by omega), if_pos (by rw [n_lt hb hs]; exact h2)]
    · rw [if_pos (show (a ≤ s ∧ s ≤ b) by omega), if_neg (by rw [n_lt hb hs]; exact h2)]
theorem lp_faultOf {m : Nat} {d : Nat → Nat} {Y : Nat → Int32} (hm : m ≤ 48) (hY : ∀ j, j < 48 → Y j = nI (d j)) (hd : ∀ j, j < 48 → d j < 127) : ∀ (c j q fuel : Nat), m = j + c → c < fuel → q ≤ 3 → f_X6_faultOf_L4 (nI m) Y fuel (nI q) (nI j) (fun x1_L4 x2_L4 => some (-6 : Int32)) = some (cdP (fA d c j q)) := by
  have hone : (nI 1 = 0) = False := eq_false (by decide)
  have hzer : (nI 0 = 0) = True := eq_true rfl
  intro c
  induction c with
  | zero =>
    intro j q fuel h1 h3 hq
    obtain ⟨fuel, rfl⟩ : ∃ n, fuel = n + 1 := ⟨fuel - 1, by omega⟩
    rw [f_X6_faultOf_L4]
    simp (disch := omega) only [n_lt, n_le, n_eq, n_lt0, n_ge0, n_eq0, n_gt0, n_le0, n_cl, n_add, n_sub, n_mul, n_m1, n_m6, m1_lt, m6_lt, m1_ge, m6_ge, m1_eq, m6_eq0, m1_eq0, c_leT, c_leF, c_ltT, c_ltF, c_eqF, false_or, or_false, or_self, if_true, if_false, ite_true, ite_false, Option.bind_some, not_true_eq_false, not_false_eq_true, reduceIte, fA, cdP]
  | succ c ih =>
    intro j q fuel h1 h3 hq
    obtain ⟨fuel, rfl⟩ : ∃ n, fuel = n + 1 := ⟨fuel - 1, by omega⟩
    have hdj := hd j (by omega)
    rw [f_X6_faultOf_L4]
    unfold gJn
    simp (disch := omega) only [n_le, c_leF, if_false, n_lt0, n_cl, false_or, hY j (show j < 48 by omega), m_in, Option.bind_some, n_eq, n_add, fA]
    by_cases e1 : d j = 63
    · have e3 : ¬ (65 ≤ d j ∧ d j ≤ 72) := by omega
      have e4 : ¬ (97 ≤ d j ∧ d j ≤ 104) := by omega
      have e5 : ¬ (d j = 46) := by omega
      simp only [if_pos e1, if_neg e3, if_neg e4, if_neg e5, hone, hzer, if_true, if_false]
      by_cases e2 : q + 1 ≤ 3
      · have e2' : ¬ (4 ≤ q + 1) := by omega
        simp only [if_pos e2, if_neg e2', hone, if_false]
        exact ih (j + 1) (q + 1) fuel (by omega) (by omega) e2
      · have e2' : 4 ≤ q + 1 := by omega
        simp only [if_neg e2, if_pos e2', hzer, if_true]
        rfl
    · have ih' := ih (j + 1) q fuel (by omega) (by omega) hq
      simp only [if_neg e1, Nat.add_zero]
      by_cases e2 : d j = 46
      · have e3 : ¬ (65 ≤ d j ∧ d j ≤ 72) := by omega
        have e4 : ¬ (97 ≤ d j ∧ d j ≤ 104) := by omega
        rw [if_pos (show d j = 46 ∨ (65 ≤ d j ∧ d j ≤ 72) ∨ (97 ≤ d j ∧ d j ≤ 104) from Or.inl e2)]
        simp only [if_neg e3, if_neg e4, if_pos e2, hone, hzer, if_true, if_false]
        exact ih'
      · by_cases e3 : 65 ≤ d j ∧ d j ≤ 72
        · rw [if_pos (show d j = 46 ∨ (65 ≤ d j ∧ d j ≤ 72) ∨ (97 ≤ d j ∧ d j ≤ 104) from Or.inr (Or.inl e3))]
          simp only [if_pos e3, hone, if_false]
          exact ih'
        · by_cases e4 : 97 ≤ d j ∧ d j ≤ 104
          · rw [if_pos (show d j = 46 ∨ (65 ≤ d j ∧ d j ≤ 72) ∨ (97 ≤ d j ∧ d j ≤ 104) from Or.inr (Or.inr e4))]
            simp only [if_neg e3, if_pos e4, hone, hzer, if_false, if_true]
            exact ih'
          · rw [if_neg (show ¬ (d j = 46 ∨ (65 ≤ d j ∧ d j ≤ 72) ∨ (97 ≤ d j ∧ d j ≤ 104)) by omega)]
            simp only [if_neg e3, if_neg e4, if_neg e2, hzer, if_true]
            rfl
theorem m_faultOf {t : ModS} {m : Nat} {d : Nat → Nat} (hD : ModDR t m d) (hm : m ≤ 48) (hd : ∀ j, j < 48 → d j < 127) : f_X6_faultOf t = some (cdP (fA d m 0 0)) := by
  obtain ⟨M_beds, M_law, M_worths, M_sights, M_sight, M_signs, M_pad, M_lies, M_empty, M_list, M_waits, M_yard, M_last, M_used, M_sheets, M_nights, M_fleasOfGuests, M_fleasOfBeds, M_reason, M_row, M_bestRow, M_image, M_isKept⟩ := t
  obtain ⟨rfl, hY⟩ := hD
  rw [f_X6_faultOf]
  exact lp_faultOf hm hY hd m 0 0 FU (by omega) (by rw [FU_eq]; omega) (by omega)
def nuA (d : Nat → Nat) : Nat → Nat → Nat
  | 0, p => p
  | c + 1, p => if d p = 63 then p else nuA d c (p + 1)
theorem nuA_spec (d : Nat → Nat) : ∀ c p, p ≤ nuA d c p ∧ nuA d c p ≤ p + c ∧ (∀ i, p ≤ i → i < nuA d c p → d i ≠ 63) ∧ (nuA d c p < p + c → d (nuA d c p) = 63)
  | 0, p => ⟨Nat.le_refl _, Nat.le_refl _, fun i h1 h2 => absurd h2 (by simp only [nuA]; omega), fun h => absurd h (by simp only [nuA]; omega)⟩
  | c + 1, p => by
    simp only [nuA]
    by_cases e : d p = 63
    · simp only [if_pos e]
      exact ⟨Nat.le_refl _, by omega, fun i h1 h2 => absurd h2 (by omega), fun _ => e⟩
    · simp only [if_neg e]
      obtain ⟨h1, h2, h3, h4⟩ := nuA_spec d c (p + 1)
      refine ⟨by omega, by omega, fun i h5 h6 => ?_, fun h => h4 (by omega)⟩
      by_cases e2 : i = p
      · rw [e2]; exact e
      · exact h3 i (by omega) h6
theorem f_nextUntold {tD : DayS} {m : Nat} {d : Nat → Nat} (hD : DayR tD m d) {p : Nat} (hp : p ≤ m) : f_X0_nextUntold (nI p) tD = some (nI (nuA d (m - p) p)) := by
  obtain ⟨len, S⟩ := tD
  have hm := hD.2.1
  rw [f_X0_nextUntold]
  have key : ∀ (c j fuel : Nat), m = j + c → c < fuel → f_X0_nextUntold_L2 len S fuel (nI j) (fun x2_L2 => some len) = some (nI (nuA d c j)) := by
    obtain rfl : len = nI m := hD.1
    intro c
    induction c with
    | zero =>
      intro j fuel h1 h3
      obtain ⟨fuel, rfl⟩ : ∃ n, fuel = n + 1 := ⟨fuel - 1, by omega⟩
      have hj : j = m := by omega
      subst hj
      rw [f_X0_nextUntold_L2]
      simp (disch := omega) only [n_lt, n_le, n_eq, n_lt0, n_ge0, n_eq0, n_gt0, n_le0, n_cl, n_add, n_sub, n_mul, n_m1, n_m6, m1_lt, m6_lt, m1_ge, m6_ge, m1_eq, m6_eq0, m1_eq0, c_leT, c_leF, c_ltT, c_ltF, c_eqF, false_or, or_false, or_self, if_true, if_false, ite_true, ite_false, Option.bind_some, not_true_eq_false, not_false_eq_true, reduceIte, nuA]
    | succ c ih =>
      intro j fuel h1 h3
      obtain ⟨fuel, rfl⟩ : ∃ n, fuel = n + 1 := ⟨fuel - 1, by omega⟩
      have hdj := (hD.2.2 j (by omega)).2
      rw [f_X0_nextUntold_L2]
      simp (disch := omega) only [n_le, c_leF, if_false, f_signAt hD (show j < m by omega), Option.bind_some, n_eq, n_add, nuA]
      by_cases e : d j = 63
      · rw [if_pos e, if_pos e]
      · rw [if_neg e, if_neg e]
        exact ih (j + 1) fuel (by omega) (by omega)
  exact key (m - p) p FU (by omega) (by rw [FU_eq]; omega)
theorem cnt0 {d : Nat → Nat} : ∀ ev, cntQ d ev = 0 ↔ ∀ i, i < ev → d i ≠ 63
  | 0 => ⟨fun _ i h => absurd h (by omega), fun _ => rfl⟩
  | ev + 1 => by
    simp only [cntQ]
    have ih := cnt0 (d := d) ev
    by_cases e : d ev = 63
    · rw [if_pos e]
      exact ⟨fun h => absurd h (by omega), fun h => absurd e (h ev (by omega))⟩
    · rw [if_neg e]
      constructor
      · intro h i hi
        by_cases e2 : i = ev
        · rw [e2]; exact e
        · exact ih.mp (by omega) i (by omega)
      · intro h
        exact ih.mpr (fun i hi => h i (by omega))
theorem nu_cnt {d : Nat → Nat} {m ev : Nat} (h : ev ≤ m) : ev ≤ nuA d m 0 ↔ cntQ d ev = 0 := by
  obtain ⟨h1, h2, h3, h4⟩ := nuA_spec d m 0
  rw [cnt0]
  constructor
  · intro h5 i hi
    exact h3 i (by omega) (by omega)
  · intro h5
    rcases Nat.lt_or_ge (nuA d m 0) ev with h6 | h6
    · exact absurd (h4 (by omega)) (h5 _ h6)
    · exact h6
theorem f_isUntold {tD : DayS} {m : Nat} {d : Nat → Nat} (hD : DayR tD m d) {ev : Nat} (hev : ev ≤ m) : f_X0_isUntold (nI ev) tD = some (nI (if cntQ d ev = 0 then 0 else 1)) := by
  have h := f_nextUntold hD (show 0 ≤ m by omega)
  have hm := hD.2.1
  obtain ⟨h1, h2, h3, h4⟩ := nuA_spec d m 0
  obtain ⟨len, S⟩ := tD
  rw [f_X0_isUntold, h]
  simp only [Option.bind_some, Nat.sub_zero]
  by_cases e : ev ≤ nuA d m 0
  · rw [if_pos (by rw [n_le (by omega) (by omega)]; exact e), if_pos ((nu_cnt hev).mp e)]
  · rw [if_neg (by rw [n_le (by omega) (by omega)]; exact e), if_neg (fun z => e ((nu_cnt hev).mpr z))]
