/-! the calls that live through no day -/
def mDp : ModS → Int32 × (Nat → Int32)
  | (M_beds, M_law, M_worths, M_sights, M_sight, M_signs, M_pad, M_lies, M_empty, M_list, M_waits, M_yard, M_last, M_used, M_sheets, M_nights, M_fleasOfGuests, M_fleasOfBeds, M_reason, M_row, M_bestRow, M_image, M_isKept) => (M_signs, M_pad)
def mIp : ModS → (Nat → Int32) × (Nat → Int32)
  | (M_beds, M_law, M_worths, M_sights, M_sight, M_signs, M_pad, M_lies, M_empty, M_list, M_waits, M_yard, M_last, M_used, M_sheets, M_nights, M_fleasOfGuests, M_fleasOfBeds, M_reason, M_row, M_bestRow, M_image, M_isKept) => (M_image, M_isKept)
theorem mDp_D {t t' : ModS} (e : mDp t' = mDp t) {m : Nat} {d : Nat → Nat} (hh : ModDR t m d) : ModDR t' m d := by
  obtain ⟨M_beds, M_law, M_worths, M_sights, M_sight, M_signs, M_pad, M_lies, M_empty, M_list, M_waits, M_yard, M_last, M_used, M_sheets, M_nights, M_fleasOfGuests, M_fleasOfBeds, M_reason, M_row, M_bestRow, M_image, M_isKept⟩ := t
  obtain ⟨L_beds, L_law, L_worths, L_sights, L_sight, L_signs, L_pad, L_lies, L_empty, L_list, L_waits, L_yard, L_last, L_used, L_sheets, L_nights, L_fleasOfGuests, L_fleasOfBeds, L_reason, L_row, L_bestRow, L_image, L_isKept⟩ := t'
  simp only [mDp, Prod.mk.injEq] at e
  obtain ⟨rfl, rfl⟩ := e
  obtain ⟨h1, h2⟩ := hh
  exact ⟨h1, h2⟩
theorem mIp_I {t t' : ModS} (e : mIp t' = mIp t) {tY : HouS} {i : Nat} (hh : ImgR tY t i) : ImgR tY t' i := by
  obtain ⟨M_beds, M_law, M_worths, M_sights, M_sight, M_signs, M_pad, M_lies, M_empty, M_list, M_waits, M_yard, M_last, M_used, M_sheets, M_nights, M_fleasOfGuests, M_fleasOfBeds, M_reason, M_row, M_bestRow, M_image, M_isKept⟩ := t
  obtain ⟨L_beds, L_law, L_worths, L_sights, L_sight, L_signs, L_pad, L_lies, L_empty, L_list, L_waits, L_yard, L_last, L_used, L_sheets, L_nights, L_fleasOfGuests, L_fleasOfBeds, L_reason, L_row, L_bestRow, L_image, L_isKept⟩ := t'
  simp only [mIp, Prod.mk.injEq] at e
  obtain ⟨rfl, rfl⟩ := e
  rcases hh with ⟨h1, h2⟩ | ⟨h1, h2, ⟨n, k, q, w, sg, sb⟩, h3, h4, h5⟩
  · exact Or.inl ⟨h1, h2⟩
  · obtain ⟨g1, g2, g3, g4, g5⟩ := h5
    exact Or.inr ⟨h1, h2, (n, k, q, w, sg, sb), h3, h4, ⟨g1, g2, g3, g4, g5⟩⟩
theorem inv_H {tH tH' tY tZ : HouS} {tD : DayS} {tT : List InnS} {tM t' : ModS} (hI : Inv tH tY tZ tD tT tM) (eD : mDp t' = mDp tM) (eI : mIp t' = mIp tM) {h : AHs} (h1 : AHok h) (h2 : HouR tH' h) (h3 : ModHR t' h) : Inv tH' tY tZ tD tT t' := by
  obtain ⟨i1, -, ⟨m, d, h5, h6⟩, h7, h8⟩ := hI
  exact ⟨i1, ⟨h, h1, h2, h3⟩, ⟨m, d, h5, mDp_D eD h6⟩, mIp_I eI h7, mIp_I eI h8⟩
theorem gt_ge {x : Int32} {b : Nat} (hb : b < 2147483647) (h : nI b < x) : ¬ x < nI (b + 1) := by
  rcases pk_ix x (n := b + 1) (by omega) with h1 | h1 | ⟨j, hj, rfl⟩
  · exact absurd (Int32.lt_trans h h1) (nI_pos (by omega))
  · exact Int32.not_lt.mpr h1
  · rw [n_lt (by omega) (by omega)] at h
    omega
theorem gt_nle {x : Int32} {b : Nat} (h : nI b < x) : ¬ x ≤ nI b := Int32.not_le.mpr h
theorem op_rule (tB : WbS) (tP : ParS) (tQ : GueS) (tI : InnS) {tH tY tZ : HouS} {tD : DayS} {tT : List InnS} {tM : ModS} (hI : Inv tH tY tZ tD tT tM) (x1 : Int32) : ∃ (r : Int32) (wH : HouS) (wM : ModS), f_X5_rule x1 tB tH = some (r, wH) ∧ f_X6_rule x1 tM = some (r, wM) ∧ Inv wH tY tZ tD tT wM := by
  obtain ⟨hl, n, k, q, w, sg, sb, m, d, ⟨hn2, hn, hk, hq, hw, hsg, hsb⟩, hH, hM, hD, hDM, hm, hd⟩ := inv_use hI
  obtain ⟨H_beds, H_law, H_sights, H_isKept, H_worths, H_sightGuests, H_sightBeds⟩ := tH
  obtain ⟨M_beds, M_law, M_worths, M_sights, M_sight, M_signs, M_pad, M_lies, M_empty, M_list, M_waits, M_yard, M_last, M_used, M_sheets, M_nights, M_fleasOfGuests, M_fleasOfBeds, M_reason, M_row, M_bestRow, M_image, M_isKept⟩ := tM
  obtain ⟨a1, rfl, a3, a4, a5, a6⟩ := hH
  obtain ⟨b1, rfl, b3, b4, b5⟩ := hM
  rw [f_X5_rule, f_X6_rule]
  rcases in_c x1 (a := 0) (b := 3) (by omega) (by omega) with ⟨h1, h2⟩ | ⟨j, h1, h2, rfl, h3⟩
  · refine ⟨-2, _, _, ?_, ?_, hI⟩
    · rcases h2 with h2 | h2
      · rw [if_pos (show x1 < 0 from h2)]
      · have := gt_ge (by omega) h2
        rw [if_neg this]
        split <;> rfl
    · rw [h1]
      rfl
  · refine ⟨nI k, ?_⟩
    apply Exists.intro
    apply Exists.intro
    apply And.intro
    · simp (disch := omega) only [n_lt, n_le, n_eq, n_lt0, n_ge0, n_eq0, n_gt0, n_le0, n_cl, n_add, n_sub, n_mul, n_m1, n_m6, m1_lt, m6_lt, m1_ge, m6_ge, m1_eq, m6_eq0, m1_eq0, c_leT, c_leF, c_ltT, c_ltF, c_eqF, false_or, or_false, or_self, if_true, if_false, ite_true, ite_false, Option.bind_some, not_true_eq_false, not_false_eq_true, reduceIte]
      rfl
    apply And.intro
    · rw [h3]
      simp only [Option.bind_some, one0, if_false]
      rfl
    · exact inv_H (h := (n, j, q, w, sg, sb)) hI (by simp only [mDp]) (by simp only [mIp]) ⟨hn2, hn, by omega, hq, hw, hsg, hsb⟩ ⟨a1, rfl, a3, a4, a5, a6⟩ ⟨b1, rfl, b3, b4, b5⟩
theorem op_forget (tB : WbS) (tP : ParS) (tQ : GueS) (tI : InnS) {tH tY tZ : HouS} {tD : DayS} {tT : List InnS} {tM : ModS} (hI : Inv tH tY tZ tD tT tM) : ∃ (r : Int32) (wH : HouS) (wM : ModS), f_X5_forget tB tH = some (r, wH) ∧ f_X6_forget tM = some (r, wM) ∧ Inv wH tY tZ tD tT wM := by
  obtain ⟨hl, n, k, q, w, sg, sb, m, d, ⟨hn2, hn, hk, hq, hw, hsg, hsb⟩, hH, hM, hD, hDM, hm, hd⟩ := inv_use hI
  obtain ⟨H_beds, H_law, H_sights, H_isKept, H_worths, H_sightGuests, H_sightBeds⟩ := tH
  obtain ⟨M_beds, M_law, M_worths, M_sights, M_sight, M_signs, M_pad, M_lies, M_empty, M_list, M_waits, M_yard, M_last, M_used, M_sheets, M_nights, M_fleasOfGuests, M_fleasOfBeds, M_reason, M_row, M_bestRow, M_image, M_isKept⟩ := tM
  obtain ⟨a1, a2, rfl, a4, a5, a6⟩ := hH
  obtain ⟨b1, b2, rfl, b4, b5⟩ := hM
  rw [f_X5_forget, f_X6_forget]
  exact ⟨nI q, _, _, rfl, rfl, inv_H (h := (n, k, 0, w, sg, sb)) hI (by simp only [mDp]) (by simp only [mIp]) ⟨hn2, hn, hk, by omega, hw, hsg, hsb⟩ ⟨a1, a2, rfl, a4, a5, a6⟩ ⟨b1, b2, rfl, b4, b5⟩⟩
theorem inv_D {tH tY tZ : HouS} {tD tD' : DayS} {tT : List InnS} {tM t' : ModS} (hI : Inv tH tY tZ tD tT tM) (eH : ∀ h, ModHR tM h → ModHR t' h) (eI : mIp t' = mIp tM) {m : Nat} {d : Nat → Nat} (h2 : DayR tD' m d) (h3 : ModDR t' m d) : Inv tH tY tZ tD' tT t' := by
  obtain ⟨i1, ⟨h, h4, h5, h6⟩, -, h7, h8⟩ := hI
  exact ⟨i1, ⟨h, h4, h5, eH h h6⟩, ⟨m, d, h2, h3⟩, mIp_I eI h7, mIp_I eI h8⟩
theorem op_wipe (tB : WbS) (tP : ParS) (tQ : GueS) (tI : InnS) {tH tY tZ : HouS} {tD : DayS} {tT : List InnS} {tM : ModS} (hI : Inv tH tY tZ tD tT tM) : ∃ (r : Int32) (wD : DayS) (wM : ModS), f_X5_wipe tB tD = some (r, wD) ∧ f_X6_wipe tM = some (r, wM) ∧ Inv tH tY tZ wD tT wM := by
  obtain ⟨hl, n, k, q, w, sg, sb, m, d, ⟨hn2, hn, hk, hq, hw, hsg, hsb⟩, hH, hM, hD, hDM, hm, hd⟩ := inv_use hI
  obtain ⟨len, S⟩ := tD
  obtain ⟨M_beds, M_law, M_worths, M_sights, M_sight, M_signs, M_pad, M_lies, M_empty, M_list, M_waits, M_yard, M_last, M_used, M_sheets, M_nights, M_fleasOfGuests, M_fleasOfBeds, M_reason, M_row, M_bestRow, M_image, M_isKept⟩ := tM
  obtain ⟨rfl, a2, a3⟩ := hD
  obtain ⟨rfl, b2⟩ := hDM
  rw [f_X5_wipe, f_X6_wipe]
  refine ⟨nI m, _, _, rfl, rfl, inv_D (m := 0) (d := d) hI (fun h hh => ?_) (by simp only [mIp]) ⟨rfl, by omega, a3⟩ ⟨rfl, b2⟩⟩
  obtain ⟨n, k, q, w, sg, sb⟩ := h
  obtain ⟨h1, h2, h3, h4, h5⟩ := hh
  exact ⟨h1, h2, h3, h4, h5⟩
theorem op_fault (tB : WbS) (tP : ParS) (tQ : GueS) (tI : InnS) {tH tY tZ : HouS} {tD : DayS} {tT : List InnS} {tM : ModS} (hI : Inv tH tY tZ tD tT tM) : ∃ (r : Int32), f_X5_fault tB tD = some r ∧ f_X6_fault tM = some r ∧ Inv tH tY tZ tD tT tM := by
  obtain ⟨hl, n, k, q, w, sg, sb, m, d, ⟨hn2, hn, hk, hq, hw, hsg, hsb⟩, hH, hM, hD, hDM, hm, hd⟩ := inv_use hI
  have e1 := f_firstFault hD
  have e2 := m_faultOf hDM hm hd
  obtain ⟨len, S⟩ := tD
  obtain ⟨M_beds, M_law, M_worths, M_sights, M_sight, M_signs, M_pad, M_lies, M_empty, M_list, M_waits, M_yard, M_last, M_used, M_sheets, M_nights, M_fleasOfGuests, M_fleasOfBeds, M_reason, M_row, M_bestRow, M_image, M_isKept⟩ := tM
  rw [f_X5_fault, f_X6_fault, e1, e2]
  exact ⟨_, rfl, rfl, hI⟩
theorem op_say (tB : WbS) (tP : ParS) (tQ : GueS) (tI : InnS) {tH tY tZ : HouS} {tD : DayS} {tT : List InnS} {tM : ModS} (hI : Inv tH tY tZ tD tT tM) (x1 : Int32) : ∃ (r : Int32) (wD : DayS) (wM : ModS), f_X5_say x1 tB tD = some (r, wD) ∧ f_X6_say x1 tM = some (r, wM) ∧ Inv tH tY tZ wD tT wM := by
  obtain ⟨hl, n, k, q, w, sg, sb, m, d, ⟨hn2, hn, hk, hq, hw, hsg, hsb⟩, hH, hM, hD, hDM, hm, hd⟩ := inv_use hI
  obtain ⟨len, S⟩ := tD
  obtain ⟨M_beds, M_law, M_worths, M_sights, M_sight, M_signs, M_pad, M_lies, M_empty, M_list, M_waits, M_yard, M_last, M_used, M_sheets, M_nights, M_fleasOfGuests, M_fleasOfBeds, M_reason, M_row, M_bestRow, M_image, M_isKept⟩ := tM
  obtain ⟨rfl, a2, a3⟩ := hD
  obtain ⟨rfl, b2⟩ := hDM
  rw [f_X5_say, f_X6_say]
  rcases in_c x1 (a := 33) (b := 126) (by omega) (by omega) with ⟨h1, h2⟩ | ⟨j, h1, h2, rfl, h3⟩
  · refine ⟨-2, _, _, ?_, ?_, hI⟩
    · rcases h2 with h2 | h2
      · rw [if_pos h2]
      · rw [if_neg (gt_nle h2)]
        split <;> rfl
    · rw [h1]
      rfl
  · rw [h3]
    simp (disch := omega) only [n_lt, c_ltF, n_le, c_leT, if_false, if_true, Option.bind_some, one0, f_X0_isFull, f_X0_write, n_eq]
    by_cases e : m = 48
    · subst e
      refine ⟨-4, _, _, ?_, ?_, hI⟩
      · simp (disch := omega) only [n_lt, n_le, n_eq, n_lt0, n_ge0, n_eq0, n_gt0, n_le0, n_cl, n_add, n_sub, n_mul, n_m1, n_m6, m1_lt, m6_lt, m1_ge, m6_ge, m1_eq, m6_eq0, m1_eq0, c_leT, c_leF, c_ltT, c_ltF, c_eqF, false_or, or_false, or_self, if_true, if_false, ite_true, ite_false, Option.bind_some, not_true_eq_false, not_false_eq_true, reduceIte, one0]
      · simp (disch := omega) only [n_lt, n_le, n_eq, n_lt0, n_ge0, n_eq0, n_gt0, n_le0, n_cl, n_add, n_sub, n_mul, n_m1, n_m6, m1_lt, m6_lt, m1_ge, m6_ge, m1_eq, m6_eq0, m1_eq0, c_leT, c_leF, c_ltT, c_ltF, c_eqF, false_or, or_false, or_self, if_true, if_false, ite_true, ite_false, Option.bind_some, not_true_eq_false, not_false_eq_true, reduceIte]
    · refine ⟨nI (m + 1), ?_⟩
      apply Exists.intro
      apply Exists.intro
      apply And.intro
      · simp (disch := omega) only [n_lt, n_le, n_eq, n_lt0, n_ge0, n_eq0, n_gt0, n_le0, n_cl, n_add, n_sub, n_mul, n_m1, n_m6, m1_lt, m6_lt, m1_ge, m6_ge, m1_eq, m6_eq0, m1_eq0, c_leT, c_leF, c_ltT, c_ltF, c_eqF, false_or, or_false, or_self, if_true, if_false, ite_true, ite_false, Option.bind_some, not_true_eq_false, not_false_eq_true, reduceIte, zer0]
        rfl
      apply And.intro
      · simp (disch := omega) only [n_lt, n_le, n_eq, n_lt0, n_ge0, n_eq0, n_gt0, n_le0, n_cl, n_add, n_sub, n_mul, n_m1, n_m6, m1_lt, m6_lt, m1_ge, m6_ge, m1_eq, m6_eq0, m1_eq0, c_leT, c_leF, c_ltT, c_ltF, c_eqF, false_or, or_false, or_self, if_true, if_false, ite_true, ite_false, Option.bind_some, not_true_eq_false, not_false_eq_true, reduceIte, if_neg e]
        rfl
      · refine inv_D (m := m + 1) (d := upO d m j) hI (fun h hh => ?_) (by simp only [mIp]) ⟨rfl, by omega, fun i hi => ?_⟩ ⟨rfl, fun i hi => ?_⟩
        · obtain ⟨n, k, q, w, sg, sb⟩ := h
          obtain ⟨h1, h2, h3, h4, h5⟩ := hh
          exact ⟨h1, h2, h3, h4, h5⟩
        · simp only [upd, upO]
          by_cases e2 : i = m
          · rw [if_pos e2, if_pos e2]
            exact ⟨rfl, by omega⟩
          · rw [if_neg e2, if_neg e2]
            exact a3 i hi
        · simp only [upd, upO]
          by_cases e2 : i = m
          · rw [if_pos e2, if_pos e2]
          · rw [if_neg e2, if_neg e2]
            exact b2 i hi
theorem lp_furnish (kL : Int32 → (Nat → Int32) → Option HouS) : ∀ (c j fuel : Nat) (W : Nat → Int32), 64 = j + c → c < fuel → (∀ i, i < j → W i = nI 0) → ∃ W', f_X2_furnish_L12 fuel (nI j) W kL = kL (nI 64) W' ∧ ∀ i, i < 64 → W' i = nI 0 := by
  intro c
  induction c with
  | zero =>
    intro j fuel W h1 h3 h
    obtain ⟨fuel, rfl⟩ : ∃ n, fuel = n + 1 := ⟨fuel - 1, by omega⟩
    have hj : j = 64 := by omega
    subst hj
    rw [f_X2_furnish_L12]
    simp (disch := omega) only [n_lt, n_le, n_eq, n_lt0, n_ge0, n_eq0, n_gt0, n_le0, n_cl, n_add, n_sub, n_mul, n_m1, n_m6, m1_lt, m6_lt, m1_ge, m6_ge, m1_eq, m6_eq0, m1_eq0, c_leT, c_leF, c_ltT, c_ltF, c_eqF, false_or, or_false, or_self, if_true, if_false, ite_true, ite_false, Option.bind_some, not_true_eq_false, not_false_eq_true, reduceIte]
    exact ⟨W, rfl, h⟩
  | succ c ih =>
    intro j fuel W h1 h3 h
    obtain ⟨fuel, rfl⟩ : ∃ n, fuel = n + 1 := ⟨fuel - 1, by omega⟩
    rw [f_X2_furnish_L12]
    simp (disch := omega) only [n_lt, n_le, n_eq, n_lt0, n_ge0, n_eq0, n_gt0, n_le0, n_cl, n_add, n_sub, n_mul, n_m1, n_m6, m1_lt, m6_lt, m1_ge, m6_ge, m1_eq, m6_eq0, m1_eq0, c_leT, c_leF, c_ltT, c_ltF, c_eqF, false_or, or_false, or_self, if_true, if_false, ite_true, ite_false, Option.bind_some, not_true_eq_false, not_false_eq_true, reduceIte]
    refine ih (j + 1) fuel _ (by omega) (by omega) (fun i hi => ?_)
    simp only [upd]
    split
    · rfl
    · exact h i (by omega)
theorem lp_mbeds (kL : Int32 → (Nat → Int32) → Option (Int32 × ModS)) : ∀ (c j fuel : Nat) (W : Nat → Int32), 64 = j + c → c < fuel → (∀ i, i < j → W i = nI 0) → ∃ W', f_X6_beds_L30 fuel (nI j) W kL = kL (nI 64) W' ∧ ∀ i, i < 64 → W' i = nI 0 := by
  intro c
  induction c with
  | zero =>
    intro j fuel W h1 h3 h
    obtain ⟨fuel, rfl⟩ : ∃ n, fuel = n + 1 := ⟨fuel - 1, by omega⟩
    have hj : j = 64 := by omega
    subst hj
    rw [f_X6_beds_L30]
    simp (disch := omega) only [n_lt, n_le, n_eq, n_lt0, n_ge0, n_eq0, n_gt0, n_le0, n_cl, n_add, n_sub, n_mul, n_m1, n_m6, m1_lt, m6_lt, m1_ge, m6_ge, m1_eq, m6_eq0, m1_eq0, c_leT, c_leF, c_ltT, c_ltF, c_eqF, false_or, or_false, or_self, if_true, if_false, ite_true, ite_false, Option.bind_some, not_true_eq_false, not_false_eq_true, reduceIte]
    exact ⟨W, rfl, h⟩
  | succ c ih =>
    intro j fuel W h1 h3 h
    obtain ⟨fuel, rfl⟩ : ∃ n, fuel = n + 1 := ⟨fuel - 1, by omega⟩
    rw [f_X6_beds_L30]
    simp (disch := omega) only [n_lt, n_le, n_eq, n_lt0, n_ge0, n_eq0, n_gt0, n_le0, n_cl, n_add, n_sub, n_mul, n_m1, n_m6, m1_lt, m6_lt, m1_ge, m6_ge, m1_eq, m6_eq0, m1_eq0, c_leT, c_leF, c_ltT, c_ltF, c_eqF, false_or, or_false, or_self, if_true, if_false, ite_true, ite_false, Option.bind_some, not_true_eq_false, not_false_eq_true, reduceIte]
    refine ih (j + 1) fuel _ (by omega) (by omega) (fun i hi => ?_)
    simp only [upd]
    split
    · rfl
    · exact h i (by omega)
theorem op_beds (tB : WbS) (tP : ParS) (tQ : GueS) (tI : InnS) {tH tY tZ : HouS} {tD : DayS} {tT : List InnS} {tM : ModS} (hI : Inv tH tY tZ tD tT tM) (x1 : Int32) : ∃ (r : Int32) (wH : HouS) (wM : ModS), f_X5_beds x1 tB tH = some (r, wH) ∧ f_X6_beds x1 tM = some (r, wM) ∧ Inv wH tY tZ tD tT wM := by
  obtain ⟨hl, n, k, q, w, sg, sb, m, d, ⟨hn2, hn, hk, hq, hw, hsg, hsb⟩, hH, hM, hD, hDM, hm, hd⟩ := inv_use hI
  obtain ⟨H_beds, H_law, H_sights, H_isKept, H_worths, H_sightGuests, H_sightBeds⟩ := tH
  obtain ⟨M_beds, M_law, M_worths, M_sights, M_sight, M_signs, M_pad, M_lies, M_empty, M_list, M_waits, M_yard, M_last, M_used, M_sheets, M_nights, M_fleasOfGuests, M_fleasOfBeds, M_reason, M_row, M_bestRow, M_image, M_isKept⟩ := tM
  obtain ⟨rfl, a2, a3, a4, a5, a6⟩ := hH
  obtain ⟨rfl, b2, b3, b4, b5⟩ := hM
  rw [f_X5_beds, f_X6_beds]
  rcases in_c x1 (a := 2) (b := 8) (by omega) (by omega) with ⟨h1, h2⟩ | ⟨j, h1, h2, rfl, h3⟩
  · refine ⟨-2, _, _, ?_, ?_, hI⟩
    · rcases h2 with h2 | h2
      · rw [if_pos h2]
      · rw [if_neg (gt_nle h2)]
        split <;> rfl
    · rw [h1]
      rfl
  · obtain ⟨W1, c1, c2⟩ := lp_furnish (fun x2_L12 H_worths_L12 => some (nI j, H_law, nI 0, H_isKept, H_worths_L12, H_sightGuests, H_sightBeds)) 64 0 FU H_worths (by omega) (by rw [FU_eq]; omega) (fun i hi => absurd hi (by omega))
    obtain ⟨W2, c3, c4⟩ := lp_mbeds (fun x3_L30 M_worths_L30 => some (nI n, (nI j, M_law, M_worths_L30, nI 0, M_sight, M_signs, M_pad, M_lies, M_empty, M_list, M_waits, M_yard, M_last, M_used, M_sheets, M_nights, M_fleasOfGuests, M_fleasOfBeds, M_reason, M_row, M_bestRow, M_image, M_isKept))) 64 0 FU M_worths (by omega) (by rw [FU_eq]; omega) (fun i hi => absurd hi (by omega))
    refine ⟨nI n, ?_⟩
    apply Exists.intro
    apply Exists.intro
    apply And.intro
    · simp (disch := omega) only [n_lt, c_ltF, n_le, c_leT, if_false, if_true, f_X2_furnish, c1, Option.bind_some]
      rfl
    apply And.intro
    · rw [h3]
      simp only [Option.bind_some, one0, if_false]
      exact c3
    · exact inv_H (h := (j, k, 0, fun _ => 0, sg, sb)) hI (by simp only [mDp]) (by simp only [mIp]) ⟨h1, h2, hk, by omega, fun _ => Nat.zero_le 99, hsg, hsb⟩ ⟨rfl, a2, rfl, fun i hi => c2 i hi, a5, a6⟩ ⟨rfl, b2, rfl, fun i hi => c4 i hi, b5⟩
theorem upd_w {w : Nat → Nat} {W : Nat → Int32} {N : Nat} (h : ∀ j, j < N → W j = nI (w j)) (p v : Nat) : ∀ j, j < N → upd W p (nI v) j = nI (upO w p v j) := by
  intro j hj
  simp only [upd, upO]
  by_cases e : j = p
  · rw [if_pos e, if_pos e]
  · rw [if_neg e, if_neg e]
    exact h j hj
theorem op_worth (tB : WbS) (tP : ParS) (tQ : GueS) (tI : InnS) {tH tY tZ : HouS} {tD : DayS} {tT : List InnS} {tM : ModS} (hI : Inv tH tY tZ tD tT tM) (x1 x2 x3 : Int32) : ∃ (r : Int32) (wH : HouS) (wM : ModS), f_X5_worth x1 x2 x3 tB tH = some (r, wH) ∧ f_X6_worth x1 x2 x3 tM = some (r, wM) ∧ Inv wH tY tZ tD tT wM := by
  obtain ⟨hl, n, k, q, w, sg, sb, m, d, ⟨hn2, hn, hk, hq, hw, hsg, hsb⟩, hH, hM, hD, hDM, hm, hd⟩ := inv_use hI
  have hbc := bed_c hH hM hn hn2 x2 tB
  have hwo := fun g b (hb : b < 8) => f_worthOf hH (g := g) (b := b) hb
  obtain ⟨H_beds, H_law, H_sights, H_isKept, H_worths, H_sightGuests, H_sightBeds⟩ := tH
  obtain ⟨M_beds, M_law, M_worths, M_sights, M_sight, M_signs, M_pad, M_lies, M_empty, M_list, M_waits, M_yard, M_last, M_used, M_sheets, M_nights, M_fleasOfGuests, M_fleasOfBeds, M_reason, M_row, M_bestRow, M_image, M_isKept⟩ := tM
  obtain ⟨a1, a2, a3, a4, a5, a6⟩ := hH
  obtain ⟨b1, b2, b3, b4, b5⟩ := hM
  rw [f_X5_worth, f_X6_worth]
  rcases guest_c x1 with ⟨g1, g2⟩ | ⟨g, hg, rfl, g1, g2⟩
  · rw [g1, g2]
    exact ⟨_, _, _, rfl, rfl, hI⟩
  rcases hbc with ⟨g3, g4⟩ | ⟨b, hb, rfl, g3, g4⟩
  · simp only [g1, g2, g3, g4, Option.bind_some, one0, zer0, if_true, if_false]
    exact ⟨_, _, _, rfl, rfl, hI⟩
  rcases in_c x3 (a := 0) (b := 99) (by omega) (by omega) with ⟨h1, h2⟩ | ⟨v, h1, h2, rfl, h3⟩
  · simp only [g1, g2, g3, g4, h1, Option.bind_some, one0, zer0, if_true, if_false]
    refine ⟨-2, _, _, ?_, rfl, hI⟩
    rcases h2 with h2 | h2
    · rw [if_pos (show x3 < 0 from h2)]
    · rw [if_neg (gt_nle h2)]
      split <;> rfl
  · have e1 := hwo g b (by omega)
    rw [Nat.min_eq_left (by omega)] at e1
    have e2 : wA w g b = w (8 * g + b) := if_pos hg
    rw [e2] at e1
    simp only [g1, g2, g3, g4, h3, e1, f_X2_setWorth, Option.bind_some, one0, zer0, if_true, if_false]
    refine ⟨nI (w (8 * g + b)), ?_⟩
    apply Exists.intro
    apply Exists.intro
    apply And.intro
    · simp (disch := omega) only [n_lt, n_le, n_eq, n_lt0, n_ge0, n_eq0, n_gt0, n_le0, n_cl, n_add, n_sub, n_mul, n_m1, n_m6, m1_lt, m6_lt, m1_ge, m6_ge, m1_eq, m6_eq0, m1_eq0, c_leT, c_leF, c_ltT, c_ltF, c_eqF, false_or, or_false, or_self, if_true, if_false, ite_true, ite_false, Option.bind_some, not_true_eq_false, not_false_eq_true, reduceIte]
      rfl
    apply And.intro
    · simp (disch := omega) only [n_lt, n_le, n_eq, n_lt0, n_ge0, n_eq0, n_gt0, n_le0, n_cl, n_add, n_sub, n_mul, n_m1, n_m6, m1_lt, m6_lt, m1_ge, m6_ge, m1_eq, m6_eq0, m1_eq0, c_leT, c_leF, c_ltT, c_ltF, c_eqF, false_or, or_false, or_self, if_true, if_false, ite_true, ite_false, Option.bind_some, not_true_eq_false, not_false_eq_true, reduceIte, b4 (8 * g + b) (by omega)]
      rfl
    · refine inv_H (h := (n, k, q, upO w (8 * g + b) v, sg, sb)) hI (by simp only [mDp]) (by simp only [mIp]) ⟨hn2, hn, hk, hq, fun i => ?_, hsg, hsb⟩ ⟨a1, a2, a3, ?_, a5, a6⟩ ⟨b1, b2, b3, upd_w b4 _ _, b5⟩
      · simp only [upO]
        split
        · exact h2
        · exact hw i
      · rw [show g * 8 + b = 8 * g + b by omega]
        exact upd_w a4 _ _
theorem op_seen (tB : WbS) (tP : ParS) (tQ : GueS) (tI : InnS) {tH tY tZ : HouS} {tD : DayS} {tT : List InnS} {tM : ModS} (hI : Inv tH tY tZ tD tT tM) (x1 x2 : Int32) : ∃ (r : Int32) (wH : HouS) (wM : ModS), f_X5_seen x1 x2 tB tH = some (r, wH) ∧ f_X6_seen x1 x2 tM = some (r, wM) ∧ Inv wH tY tZ tD tT wM := by
  obtain ⟨hl, n, k, q, w, sg, sb, m, d, ⟨hn2, hn, hk, hq, hw, hsg, hsb⟩, hH, hM, hD, hDM, hm, hd⟩ := inv_use hI
  have hbc := bed_c hH hM hn hn2 x2 tB
  obtain ⟨H_beds, H_law, H_sights, H_isKept, H_worths, H_sightGuests, H_sightBeds⟩ := tH
  obtain ⟨M_beds, M_law, M_worths, M_sights, M_sight, M_signs, M_pad, M_lies, M_empty, M_list, M_waits, M_yard, M_last, M_used, M_sheets, M_nights, M_fleasOfGuests, M_fleasOfBeds, M_reason, M_row, M_bestRow, M_image, M_isKept⟩ := tM
  obtain ⟨a1, a2, rfl, a4, a5, a6⟩ := hH
  obtain ⟨b1, b2, rfl, b4, b5⟩ := hM
  rw [f_X5_seen, f_X6_seen]
  rcases guest_c x1 with ⟨g1, g2⟩ | ⟨g, hg, rfl, g1, g2⟩
  · rw [g1, g2]
    exact ⟨_, _, _, rfl, rfl, hI⟩
  rcases hbc with ⟨g3, g4⟩ | ⟨b, hb, rfl, g3, g4⟩
  · simp only [g1, g2, g3, g4, Option.bind_some, one0, zer0, if_true, if_false]
    exact ⟨_, _, _, rfl, rfl, hI⟩
  simp only [g1, g2, g3, g4, Option.bind_some, one0, zer0, if_true, if_false]
  by_cases e : q = 6
  · subst e
    refine ⟨-4, _, _, ?_, ?_, hI⟩
    · simp (disch := omega) only [n_lt, n_le, n_eq, n_lt0, n_ge0, n_eq0, n_gt0, n_le0, n_cl, n_add, n_sub, n_mul, n_m1, n_m6, m1_lt, m6_lt, m1_ge, m6_ge, m1_eq, m6_eq0, m1_eq0, c_leT, c_leF, c_ltT, c_ltF, c_eqF, false_or, or_false, or_self, if_true, if_false, ite_true, ite_false, Option.bind_some, not_true_eq_false, not_false_eq_true, reduceIte]
    · simp (disch := omega) only [n_lt, n_le, n_eq, n_lt0, n_ge0, n_eq0, n_gt0, n_le0, n_cl, n_add, n_sub, n_mul, n_m1, n_m6, m1_lt, m6_lt, m1_ge, m6_ge, m1_eq, m6_eq0, m1_eq0, c_leT, c_leF, c_ltT, c_ltF, c_eqF, false_or, or_false, or_self, if_true, if_false, ite_true, ite_false, Option.bind_some, not_true_eq_false, not_false_eq_true, reduceIte]
  · refine ⟨nI (q + 1), ?_⟩
    apply Exists.intro
    apply Exists.intro
    apply And.intro
    · simp (disch := omega) only [n_lt, n_le, n_eq, n_lt0, n_ge0, n_eq0, n_gt0, n_le0, n_cl, n_add, n_sub, n_mul, n_m1, n_m6, m1_lt, m6_lt, m1_ge, m6_ge, m1_eq, m6_eq0, m1_eq0, c_leT, c_leF, c_ltT, c_ltF, c_eqF, false_or, or_false, or_self, if_true, if_false, ite_true, ite_false, Option.bind_some, not_true_eq_false, not_false_eq_true, reduceIte, f_X2_addSight]
      rfl
    apply And.intro
    · simp (disch := omega) only [n_lt, n_le, n_eq, n_lt0, n_ge0, n_eq0, n_gt0, n_le0, n_cl, n_add, n_sub, n_mul, n_m1, n_m6, m1_lt, m6_lt, m1_ge, m6_ge, m1_eq, m6_eq0, m1_eq0, c_leT, c_leF, c_ltT, c_ltF, c_eqF, false_or, or_false, or_self, if_true, if_false, ite_true, ite_false, Option.bind_some, not_true_eq_false, not_false_eq_true, reduceIte, c_eqF e]
      rfl
    · refine inv_H (h := (n, k, q + 1, w, upO sg q g, upO sb q b)) hI (by simp only [mDp]) (by simp only [mIp]) ⟨hn2, hn, hk, by omega, hw, fun i => ?_, fun i => ?_⟩ ⟨a1, a2, rfl, a4, upd_w a5 _ _, upd_w a6 _ _⟩ ⟨b1, b2, rfl, b4, fun i hi => ?_⟩
      · simp only [upO]
        split
        · exact hg
        · exact hsg i
      · simp only [upO]
        split
        · omega
        · exact hsb i
      · obtain ⟨p1, p2⟩ := b5 i hi
        simp only [upd, upO]
        by_cases e2 : i = q
        · subst e2
          rw [if_neg (by omega), if_pos rfl, if_pos rfl, if_pos rfl, if_pos rfl]
          exact ⟨rfl, rfl⟩
        · rw [if_neg (by omega), if_neg (by omega), if_neg e2, if_neg (by omega), if_neg (by omega), if_neg e2]
          exact ⟨p1, p2⟩
theorem op_told (tB : WbS) (tP : ParS) (tQ : GueS) (tI : InnS) {tH tY tZ : HouS} {tD : DayS} {tT : List InnS} {tM : ModS} (hI : Inv tH tY tZ tD tT tM) (x1 : Int32) : ∃ (r : Int32), f_X5_told x1 tB tH tD = some r ∧ f_X6_told x1 tM = some r ∧ Inv tH tY tZ tD tT tM := by
  obtain ⟨hl, n, k, q, w, sg, sb, m, d, ⟨hn2, hn, hk, hq, hw, hsg, hsb⟩, hH, hM, hD, hDM, hm, hd⟩ := inv_use hI
  have hbc := fun x => bed_c hH hM hn hn2 x tB
  have hwo := fun g b (hb : b < 8) => f_worthOf hH (g := g) (b := b) hb
  obtain ⟨len, S⟩ := tD
  obtain ⟨H_beds, H_law, H_sights, H_isKept, H_worths, H_sightGuests, H_sightBeds⟩ := tH
  obtain ⟨M_beds, M_law, M_worths, M_sights, M_sight, M_signs, M_pad, M_lies, M_empty, M_list, M_waits, M_yard, M_last, M_used, M_sheets, M_nights, M_fleasOfGuests, M_fleasOfBeds, M_reason, M_row, M_bestRow, M_image, M_isKept⟩ := tM
  obtain ⟨a1, a2, a3, a4, a5, a6⟩ := hH
  obtain ⟨b1, b2, b3, b4, b5⟩ := hM
  obtain rfl := hD.1
  obtain rfl := hDM.1
  subst a1 a2 a3 b1 b2 b3
  rw [f_X5_told, f_X6_told]
  by_cases e0 : x1 = nI 0
  · rw [if_pos e0, if_pos e0]
    exact ⟨_, rfl, rfl, hI⟩
  rw [if_neg e0, if_neg e0]
  by_cases e1 : x1 = nI 1
  · rw [if_pos e1, if_pos e1]
    exact ⟨_, rfl, rfl, hI⟩
  rw [if_neg e1, if_neg e1]
  by_cases e2 : x1 = nI 2
  · rw [if_pos e2, if_pos e2]
    exact ⟨_, rfl, rfl, hI⟩
  rw [if_neg e2, if_neg e2]
  by_cases e3 : x1 = nI 3
  · rw [if_pos e3, if_pos e3]
    exact ⟨_, rfl, rfl, hI⟩
  rw [if_neg e3, if_neg e3, f_X5_worthTold]
  rcases in_c x1 (a := 10) (b := 89) (by omega) (by omega) with ⟨h1, h2⟩ | ⟨j, h1, h2, rfl, h3⟩
  · refine ⟨-2, ?_, ?_, hI⟩
    · rcases h2 with h2 | h2
      · rw [if_pos h2]
        rfl
      · have h4 : ¬ x1 ≤ nI 87 := fun e => gt_nle h2 (Int32.le_trans e (by decide))
        rw [if_neg h4]
        split <;> rfl
    · rw [h1]
      rfl
  · rw [h3]
    have hr : nI j - nI j / nI 10 * nI 10 = nI (j % 10) := pk_rem (by omega) (by omega) (by omega)
    have hdv : nI j / nI 10 = nI (j / 10) := pk_div (by omega) (by omega) (by omega)
    rcases hbc (nI (j % 10)) with ⟨g3, g4⟩ | ⟨b, hb, eb, g3, g4⟩
    · refine ⟨-2, ?_, ?_, hI⟩
      · simp only [hr, g3, Option.bind_some, zer0, if_true]
        rw [if_neg (by rw [n_lt (by omega) (by omega)]; omega)]
        split <;> rfl
      · simp only [hr, g4, Option.bind_some, zer0, one0, if_true, if_false]
    · have e4 := (nI_eq (by omega) (by omega)).mp eb
      have hj87 : j ≤ 87 := by omega
      have hw1 := hwo (j / 10 - 1) (j % 10) (by omega)
      rw [Nat.min_eq_left (by omega)] at hw1
      have e5 : wA w (j / 10 - 1) (j % 10) = w (8 * (j / 10 - 1) + j % 10) := if_pos (by omega)
      rw [e5] at hw1
      refine ⟨nI (w (8 * (j / 10 - 1) + j % 10)), ?_, ?_, hI⟩
      · rw [if_neg (by rw [n_lt (by omega) (by omega)]; omega), if_pos (by rw [n_le (by omega) (by omega)]; exact hj87), hr, hdv, n_sub (by omega), g3, hw1]
        simp only [Option.bind_some, one0, if_false]
      · rw [hr, hdv, n_sub (by omega), g4]
        simp (disch := omega) only [n_lt, n_le, n_eq, n_lt0, n_ge0, n_eq0, n_gt0, n_le0, n_cl, n_add, n_sub, n_mul, n_m1, n_m6, m1_lt, m6_lt, m1_ge, m6_ge, m1_eq, m6_eq0, m1_eq0, c_leT, c_leF, c_ltT, c_ltF, c_eqF, false_or, or_false, or_self, if_true, if_false, ite_true, ite_false, Option.bind_some, not_true_eq_false, not_false_eq_true, reduceIte, one0, b4 (8 * (j / 10 - 1) + j % 10) (by omega)]
