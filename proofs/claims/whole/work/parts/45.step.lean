/-! a step of the reference's day -/
def gGo (x1 x2 x3 x4 : Int32) (fuel : Nat) (y k : Int32) : ModS → Option (Int32 × ModS)
  | (M_beds, M_law, M_worths, M_sights, M_sight, M_signs, M_pad, M_lies, M_empty, M_list, M_waits, M_yard, M_last, M_used, M_sheets, M_nights, M_fleasOfGuests, M_fleasOfBeds, M_reason, M_row, M_bestRow, M_image, M_isKept) => f_X6_go_L44 x1 x2 x3 x4 fuel y k M_beds M_law M_worths M_sights M_sight M_signs M_pad M_lies M_empty M_list M_waits M_yard M_last M_used M_sheets M_nights M_fleasOfGuests M_fleasOfBeds M_reason M_row M_bestRow M_image M_isKept (fun _ _ M_beds M_law M_worths M_sights M_sight M_signs M_pad M_lies M_empty M_list M_waits M_yard M_last M_used M_sheets M_nights M_fleasOfGuests M_fleasOfBeds M_reason M_row M_bestRow M_image M_isKept => some ((-6 : Int32), (M_beds, M_law, M_worths, M_sights, M_sight, M_signs, M_pad, M_lies, M_empty, M_list, M_waits, M_yard, M_last, M_used, M_sheets, M_nights, M_fleasOfGuests, M_fleasOfBeds, M_reason, M_row, M_bestRow, M_image, M_isKept)))
/-- the guest that comes besides, at his place -/
def gPre (x3 x4 : Int32) (k : Nat) (t t0 : ModS) : Prop := (nI k ≠ x3 ∧ t0 = t) ∨ (nI k = x3 ∧ ∃ t1, f_X6_happen x4 t = some (nI 0, t1) ∧ t0 = mSet (nI 0) t1)
theorem gGo_end {ev k fuel : Nat} {x2 x3 x4 y : Int32} {t : ModS} (h : ev < k) (hk : k < 2147483648) : gGo (nI ev) x2 x3 x4 (fuel + 1) y (nI k) t = some (-6, t) := by
  obtain ⟨M_beds, M_law, M_worths, M_sights, M_sight, M_signs, M_pad, M_lies, M_empty, M_list, M_waits, M_yard, M_last, M_used, M_sheets, M_nights, M_fleasOfGuests, M_fleasOfBeds, M_reason, M_row, M_bestRow, M_image, M_isKept⟩ := t
  show f_X6_go_L44 (nI ev) x2 x3 x4 (fuel + 1) y (nI k) M_beds M_law M_worths M_sights M_sight M_signs M_pad M_lies M_empty M_list M_waits M_yard M_last M_used M_sheets M_nights M_fleasOfGuests M_fleasOfBeds M_reason M_row M_bestRow M_image M_isKept (fun _ _ M_beds M_law M_worths M_sights M_sight M_signs M_pad M_lies M_empty M_list M_waits M_yard M_last M_used M_sheets M_nights M_fleasOfGuests M_fleasOfBeds M_reason M_row M_bestRow M_image M_isKept => some ((-6 : Int32), (M_beds, M_law, M_worths, M_sights, M_sight, M_signs, M_pad, M_lies, M_empty, M_list, M_waits, M_yard, M_last, M_used, M_sheets, M_nights, M_fleasOfGuests, M_fleasOfBeds, M_reason, M_row, M_bestRow, M_image, M_isKept))) = _
  rw [f_X6_go_L44, if_pos (by rw [n_lt (by omega) (by omega)]; exact h)]
set_option maxHeartbeats 1000000 in
theorem gGo_last {k fuel : Nat} {x2 x3 x4 y : Int32} {t t0 : ModS} (hk : k < 2147483648) (hp : gPre x3 x4 k t t0) (hr : (mF t0).2.2 = nI 0) : gGo (nI k) x2 x3 x4 (fuel + 1) y (nI k) t = gGo (nI k) x2 x3 x4 fuel y (nI (k + 1)) t0 := by
  rcases hp with ⟨h1, rfl⟩ | ⟨h1, t1, h2, rfl⟩
  · obtain ⟨M_beds, M_law, M_worths, M_sights, M_sight, M_signs, M_pad, M_lies, M_empty, M_list, M_waits, M_yard, M_last, M_used, M_sheets, M_nights, M_fleasOfGuests, M_fleasOfBeds, M_reason, M_row, M_bestRow, M_image, M_isKept⟩ := t0
    obtain rfl : M_reason = nI 0 := hr
    show f_X6_go_L44 (nI k) x2 x3 x4 (fuel + 1) y (nI k) M_beds M_law M_worths M_sights M_sight M_signs M_pad M_lies M_empty M_list M_waits M_yard M_last M_used M_sheets M_nights M_fleasOfGuests M_fleasOfBeds (nI 0) M_row M_bestRow M_image M_isKept (fun _ _ M_beds M_law M_worths M_sights M_sight M_signs M_pad M_lies M_empty M_list M_waits M_yard M_last M_used M_sheets M_nights M_fleasOfGuests M_fleasOfBeds M_reason M_row M_bestRow M_image M_isKept => some ((-6 : Int32), (M_beds, M_law, M_worths, M_sights, M_sight, M_signs, M_pad, M_lies, M_empty, M_list, M_waits, M_yard, M_last, M_used, M_sheets, M_nights, M_fleasOfGuests, M_fleasOfBeds, M_reason, M_row, M_bestRow, M_image, M_isKept))) = _
    rw [f_X6_go_L44]
    unfold gJn
    simp (disch := omega) only [n_lt, n_le, n_eq, n_lt0, n_ge0, n_eq0, n_gt0, n_le0, n_cl, n_add, n_sub, n_mul, n_m1, n_m6, m1_lt, m6_lt, m1_ge, m6_ge, m1_eq, m6_eq0, m1_eq0, c_leT, c_leF, c_ltT, c_ltF, c_eqF, false_or, or_false, or_self, if_true, if_false, ite_true, ite_false, Option.bind_some, not_true_eq_false, not_false_eq_true, reduceIte, eq_false h1]
    rfl
  · obtain ⟨M_beds, M_law, M_worths, M_sights, M_sight, M_signs, M_pad, M_lies, M_empty, M_list, M_waits, M_yard, M_last, M_used, M_sheets, M_nights, M_fleasOfGuests, M_fleasOfBeds, M_reason, M_row, M_bestRow, M_image, M_isKept⟩ := t
    obtain ⟨L_beds, L_law, L_worths, L_sights, L_sight, L_signs, L_pad, L_lies, L_empty, L_list, L_waits, L_yard, L_last, L_used, L_sheets, L_nights, L_fleasOfGuests, L_fleasOfBeds, L_reason, L_row, L_bestRow, L_image, L_isKept⟩ := t1
    show f_X6_go_L44 (nI k) x2 x3 x4 (fuel + 1) y (nI k) M_beds M_law M_worths M_sights M_sight M_signs M_pad M_lies M_empty M_list M_waits M_yard M_last M_used M_sheets M_nights M_fleasOfGuests M_fleasOfBeds M_reason M_row M_bestRow M_image M_isKept (fun _ _ M_beds M_law M_worths M_sights M_sight M_signs M_pad M_lies M_empty M_list M_waits M_yard M_last M_used M_sheets M_nights M_fleasOfGuests M_fleasOfBeds M_reason M_row M_bestRow M_image M_isKept => some ((-6 : Int32), (M_beds, M_law, M_worths, M_sights, M_sight, M_signs, M_pad, M_lies, M_empty, M_list, M_waits, M_yard, M_last, M_used, M_sheets, M_nights, M_fleasOfGuests, M_fleasOfBeds, M_reason, M_row, M_bestRow, M_image, M_isKept))) = _
    rw [f_X6_go_L44]
    unfold gJn
    dsimp only
    rw [if_neg (by rw [n_lt (by omega) (by omega)]; omega), if_pos h1, h2]
    simp only [Option.bind_some]
    simp (disch := omega) only [n_lt, n_le, n_eq, n_lt0, n_ge0, n_eq0, n_gt0, n_le0, n_cl, n_add, n_sub, n_mul, n_m1, n_m6, m1_lt, m6_lt, m1_ge, m6_ge, m1_eq, m6_eq0, m1_eq0, c_leT, c_leF, c_ltT, c_ltF, c_eqF, false_or, or_false, or_self, if_true, if_false, ite_true, ite_false, Option.bind_some, not_true_eq_false, not_false_eq_true, reduceIte]
    rfl
set_option maxHeartbeats 1000000 in
theorem gGo_plain {ev k fuel m s : Nat} {d : Nat → Nat} {x2 x3 x4 y r : Int32} {t t0 t2 : ModS} (hk : k < ev) (hev : ev ≤ 48) (hp : gPre x3 x4 k t t0) (hr : (mF t0).2.2 = nI 0) (hD : ModDR t0 m d) (hds : d k = s) (hs : okS s) (hh : f_X6_happen (nI (evN s)) t0 = some (r, t2)) : gGo (nI ev) x2 x3 x4 (fuel + 1) y (nI k) t = if r ≤ 0 then gGo (nI ev) x2 x3 x4 fuel y (nI (k + 1)) (mSet r t2) else some (nI k, mSet r t2) := by
  have hs63 : (nI s = nI 63) = False := by
    rw [n_eq (by rcases hs with h | h | h <;> omega) (by omega)]
    exact eq_false (by rcases hs with h | h | h <;> omega)
  have hev2 := m_eventOf hs
  rcases hp with ⟨h1, rfl⟩ | ⟨h1, t1, h2, rfl⟩
  · obtain ⟨M_beds, M_law, M_worths, M_sights, M_sight, M_signs, M_pad, M_lies, M_empty, M_list, M_waits, M_yard, M_last, M_used, M_sheets, M_nights, M_fleasOfGuests, M_fleasOfBeds, M_reason, M_row, M_bestRow, M_image, M_isKept⟩ := t0
    obtain ⟨Q_beds, Q_law, Q_worths, Q_sights, Q_sight, Q_signs, Q_pad, Q_lies, Q_empty, Q_list, Q_waits, Q_yard, Q_last, Q_used, Q_sheets, Q_nights, Q_fleasOfGuests, Q_fleasOfBeds, Q_reason, Q_row, Q_bestRow, Q_image, Q_isKept⟩ := t2
    obtain rfl : M_reason = nI 0 := hr
    have hpad : M_pad k = nI s := by rw [← hds]; exact hD.2 k (by omega)
    show f_X6_go_L44 (nI ev) x2 x3 x4 (fuel + 1) y (nI k) M_beds M_law M_worths M_sights M_sight M_signs M_pad M_lies M_empty M_list M_waits M_yard M_last M_used M_sheets M_nights M_fleasOfGuests M_fleasOfBeds (nI 0) M_row M_bestRow M_image M_isKept (fun _ _ M_beds M_law M_worths M_sights M_sight M_signs M_pad M_lies M_empty M_list M_waits M_yard M_last M_used M_sheets M_nights M_fleasOfGuests M_fleasOfBeds M_reason M_row M_bestRow M_image M_isKept => some ((-6 : Int32), (M_beds, M_law, M_worths, M_sights, M_sight, M_signs, M_pad, M_lies, M_empty, M_list, M_waits, M_yard, M_last, M_used, M_sheets, M_nights, M_fleasOfGuests, M_fleasOfBeds, M_reason, M_row, M_bestRow, M_image, M_isKept))) = _
    rw [f_X6_go_L44]
    unfold gJn
    simp (disch := omega) only [n_lt, n_le, n_eq, n_lt0, n_ge0, n_eq0, n_gt0, n_le0, n_cl, n_add, n_sub, n_mul, n_m1, n_m6, m1_lt, m6_lt, m1_ge, m6_ge, m1_eq, m6_eq0, m1_eq0, c_leT, c_leF, c_ltT, c_ltF, c_eqF, false_or, or_false, or_self, if_true, if_false, ite_true, ite_false, Option.bind_some, not_true_eq_false, not_false_eq_true, reduceIte, eq_false h1, hpad, hs63, hev2, hh, show (nI 0 = 0) = True from eq_true rfl]
    rfl
  · obtain ⟨M_beds, M_law, M_worths, M_sights, M_sight, M_signs, M_pad, M_lies, M_empty, M_list, M_waits, M_yard, M_last, M_used, M_sheets, M_nights, M_fleasOfGuests, M_fleasOfBeds, M_reason, M_row, M_bestRow, M_image, M_isKept⟩ := t
    obtain ⟨L_beds, L_law, L_worths, L_sights, L_sight, L_signs, L_pad, L_lies, L_empty, L_list, L_waits, L_yard, L_last, L_used, L_sheets, L_nights, L_fleasOfGuests, L_fleasOfBeds, L_reason, L_row, L_bestRow, L_image, L_isKept⟩ := t1
    obtain ⟨Q_beds, Q_law, Q_worths, Q_sights, Q_sight, Q_signs, Q_pad, Q_lies, Q_empty, Q_list, Q_waits, Q_yard, Q_last, Q_used, Q_sheets, Q_nights, Q_fleasOfGuests, Q_fleasOfBeds, Q_reason, Q_row, Q_bestRow, Q_image, Q_isKept⟩ := t2
    simp only [mSet] at hh
    have hpad : L_pad k = nI s := by rw [← hds]; exact hD.2 k (by omega)
    show f_X6_go_L44 (nI ev) x2 x3 x4 (fuel + 1) y (nI k) M_beds M_law M_worths M_sights M_sight M_signs M_pad M_lies M_empty M_list M_waits M_yard M_last M_used M_sheets M_nights M_fleasOfGuests M_fleasOfBeds M_reason M_row M_bestRow M_image M_isKept (fun _ _ M_beds M_law M_worths M_sights M_sight M_signs M_pad M_lies M_empty M_list M_waits M_yard M_last M_used M_sheets M_nights M_fleasOfGuests M_fleasOfBeds M_reason M_row M_bestRow M_image M_isKept => some ((-6 : Int32), (M_beds, M_law, M_worths, M_sights, M_sight, M_signs, M_pad, M_lies, M_empty, M_list, M_waits, M_yard, M_last, M_used, M_sheets, M_nights, M_fleasOfGuests, M_fleasOfBeds, M_reason, M_row, M_bestRow, M_image, M_isKept))) = _
    rw [f_X6_go_L44]
    unfold gJn
    dsimp only
    rw [if_neg (by rw [n_lt (by omega) (by omega)]; omega), if_pos h1, h2]
    simp only [Option.bind_some]
    simp (disch := omega) only [n_lt, n_le, n_eq, n_lt0, n_ge0, n_eq0, n_gt0, n_le0, n_cl, n_add, n_sub, n_mul, n_m1, n_m6, m1_lt, m6_lt, m1_ge, m6_ge, m1_eq, m6_eq0, m1_eq0, c_leT, c_leF, c_ltT, c_ltF, c_eqF, false_or, or_false, or_self, if_true, if_false, ite_true, ite_false, Option.bind_some, not_true_eq_false, not_false_eq_true, reduceIte, hpad, hs63, hev2, hh, show (nI 0 = 0) = True from eq_true rfl]
    rfl
set_option maxHeartbeats 1000000 in
theorem gGo_quest {ev k fuel m code yv : Nat} {d : Nat → Nat} {x3 x4 r : Int32} {t t0 t2 : ModS} (hk : k < ev) (hev : ev ≤ 48) (hp : gPre x3 x4 k t t0) (hr : (mF t0).2.2 = nI 0) (hD : ModDR t0 m d) (hds : d k = 63) (hc : code < 2147483648) (hy0 : 0 < yv) (hy : yv < 2147483648) (hh : f_X6_happen (nI (code / yv % 8)) t0 = some (r, t2)) : gGo (nI ev) (nI code) x3 x4 (fuel + 1) (nI yv) (nI k) t = if r ≤ 0 then gGo (nI ev) (nI code) x3 x4 fuel (nI (if yv ≤ 1 then yv else yv / 8)) (nI (k + 1)) (mSet r t2) else some (nI k, mSet r t2) := by
  have hdv : nI code / nI yv = nI (code / yv) := pk_div (by omega) hy0 (by omega)
  have hle : code / yv ≤ code := Nat.div_le_self _ _
  have hrm : nI (code / yv) - nI (code / yv) / nI 8 * nI 8 = nI (code / yv % 8) := pk_rem (by omega) (by omega) (by omega)
  have hy8 : nI yv / nI 8 = nI (yv / 8) := pk_div (by omega) (by omega) (by omega)
  have hyz : (nI yv = 0) = False := by rw [n_eq0 hy]; exact eq_false (by omega)
  rcases hp with ⟨h1, rfl⟩ | ⟨h1, t1, h2, rfl⟩
  · obtain ⟨M_beds, M_law, M_worths, M_sights, M_sight, M_signs, M_pad, M_lies, M_empty, M_list, M_waits, M_yard, M_last, M_used, M_sheets, M_nights, M_fleasOfGuests, M_fleasOfBeds, M_reason, M_row, M_bestRow, M_image, M_isKept⟩ := t0
    obtain ⟨Q_beds, Q_law, Q_worths, Q_sights, Q_sight, Q_signs, Q_pad, Q_lies, Q_empty, Q_list, Q_waits, Q_yard, Q_last, Q_used, Q_sheets, Q_nights, Q_fleasOfGuests, Q_fleasOfBeds, Q_reason, Q_row, Q_bestRow, Q_image, Q_isKept⟩ := t2
    obtain rfl : M_reason = nI 0 := hr
    have hpad : M_pad k = nI 63 := by rw [← hds]; exact hD.2 k (by omega)
    show f_X6_go_L44 (nI ev) (nI code) x3 x4 (fuel + 1) (nI yv) (nI k) M_beds M_law M_worths M_sights M_sight M_signs M_pad M_lies M_empty M_list M_waits M_yard M_last M_used M_sheets M_nights M_fleasOfGuests M_fleasOfBeds (nI 0) M_row M_bestRow M_image M_isKept (fun _ _ M_beds M_law M_worths M_sights M_sight M_signs M_pad M_lies M_empty M_list M_waits M_yard M_last M_used M_sheets M_nights M_fleasOfGuests M_fleasOfBeds M_reason M_row M_bestRow M_image M_isKept => some ((-6 : Int32), (M_beds, M_law, M_worths, M_sights, M_sight, M_signs, M_pad, M_lies, M_empty, M_list, M_waits, M_yard, M_last, M_used, M_sheets, M_nights, M_fleasOfGuests, M_fleasOfBeds, M_reason, M_row, M_bestRow, M_image, M_isKept))) = _
    rw [f_X6_go_L44]
    unfold gJn
    by_cases hy1 : yv ≤ 1
    · simp (disch := omega) only [n_lt, c_ltF, n_le, c_leF, eq_false h1, hpad, hyz, hdv, hrm, hh, n_cl, n_lt0, Option.bind_some, if_true, if_false, false_or, n_add, if_pos hy1, show (nI 0 = 0) = True from eq_true rfl]
      rfl
    · simp (disch := omega) only [n_lt, c_ltF, n_le, c_leF, eq_false h1, hpad, hyz, hdv, hrm, hy8, hh, n_cl, n_lt0, Option.bind_some, if_true, if_false, false_or, n_add, if_neg hy1, show (nI 0 = 0) = True from eq_true rfl]
      rfl
  · obtain ⟨M_beds, M_law, M_worths, M_sights, M_sight, M_signs, M_pad, M_lies, M_empty, M_list, M_waits, M_yard, M_last, M_used, M_sheets, M_nights, M_fleasOfGuests, M_fleasOfBeds, M_reason, M_row, M_bestRow, M_image, M_isKept⟩ := t
    obtain ⟨L_beds, L_law, L_worths, L_sights, L_sight, L_signs, L_pad, L_lies, L_empty, L_list, L_waits, L_yard, L_last, L_used, L_sheets, L_nights, L_fleasOfGuests, L_fleasOfBeds, L_reason, L_row, L_bestRow, L_image, L_isKept⟩ := t1
    obtain ⟨Q_beds, Q_law, Q_worths, Q_sights, Q_sight, Q_signs, Q_pad, Q_lies, Q_empty, Q_list, Q_waits, Q_yard, Q_last, Q_used, Q_sheets, Q_nights, Q_fleasOfGuests, Q_fleasOfBeds, Q_reason, Q_row, Q_bestRow, Q_image, Q_isKept⟩ := t2
    simp only [mSet] at hh
    have hpad : L_pad k = nI 63 := by rw [← hds]; exact hD.2 k (by omega)
    show f_X6_go_L44 (nI ev) (nI code) x3 x4 (fuel + 1) (nI yv) (nI k) M_beds M_law M_worths M_sights M_sight M_signs M_pad M_lies M_empty M_list M_waits M_yard M_last M_used M_sheets M_nights M_fleasOfGuests M_fleasOfBeds M_reason M_row M_bestRow M_image M_isKept (fun _ _ M_beds M_law M_worths M_sights M_sight M_signs M_pad M_lies M_empty M_list M_waits M_yard M_last M_used M_sheets M_nights M_fleasOfGuests M_fleasOfBeds M_reason M_row M_bestRow M_image M_isKept => some ((-6 : Int32), (M_beds, M_law, M_worths, M_sights, M_sight, M_signs, M_pad, M_lies, M_empty, M_list, M_waits, M_yard, M_last, M_used, M_sheets, M_nights, M_fleasOfGuests, M_fleasOfBeds, M_reason, M_row, M_bestRow, M_image, M_isKept))) = _
    rw [f_X6_go_L44]
    unfold gJn
    dsimp only
    rw [if_neg (by rw [n_lt (by omega) (by omega)]; omega), if_pos h1, h2]
    simp only [Option.bind_some]
    by_cases hy1 : yv ≤ 1
    · simp (disch := omega) only [n_lt, c_ltF, n_le, c_leF, hpad, hyz, hdv, hrm, hh, n_cl, n_lt0, Option.bind_some, if_true, if_false, false_or, n_add, if_pos hy1, show (nI 0 = 0) = True from eq_true rfl]
      rfl
    · simp (disch := omega) only [n_lt, c_ltF, n_le, c_leF, hpad, hyz, hdv, hrm, hy8, hh, n_cl, n_lt0, Option.bind_some, if_true, if_false, false_or, n_add, if_neg hy1, show (nI 0 = 0) = True from eq_true rfl]
      rfl
