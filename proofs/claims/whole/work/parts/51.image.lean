/-! images -/
theorem lp_image19 {i : Nat} (hi : i < 2) (W : Nat → Int32) (kL : Int32 → (Nat → Int32) → Option (Int32 × ModS)) : ∀ (c j fuel : Nat) (X : Nat → Int32), 64 = j + c → c < fuel → ∃ X', f_X6_image_L19 (nI (80 * i)) W fuel (nI j) X kL = kL (nI 64) X' ∧ (∀ a, j ≤ a → a < 64 → X' (80 * i + a) = W a) ∧ ∀ a, (a < 80 * i + j ∨ 80 * i + 64 ≤ a) → X' a = X a := by
  intro c
  induction c with
  | zero =>
    intro j fuel X h1 h3
    obtain ⟨fuel, rfl⟩ : ∃ n, fuel = n + 1 := ⟨fuel - 1, by omega⟩
    have hj : j = 64 := by omega
    subst hj
    rw [f_X6_image_L19]
    simp (disch := omega) only [n_lt, n_le, n_eq, n_lt0, n_ge0, n_eq0, n_gt0, n_le0, n_cl, n_add, n_sub, n_mul, n_m1, n_m6, m1_lt, m6_lt, m1_ge, m6_ge, m1_eq, m6_eq0, m1_eq0, c_leT, c_leF, c_ltT, c_ltF, c_eqF, false_or, or_false, or_self, if_true, if_false, ite_true, ite_false, Option.bind_some, not_true_eq_false, not_false_eq_true, reduceIte]
    exact ⟨X, rfl, fun a h1 h2 => absurd h1 (by omega), fun a _ => rfl⟩
  | succ c ih =>
    intro j fuel X h1 h3
    obtain ⟨fuel, rfl⟩ : ∃ n, fuel = n + 1 := ⟨fuel - 1, by omega⟩
    rw [f_X6_image_L19]
    simp (disch := omega) only [n_lt, n_le, n_eq, n_lt0, n_ge0, n_eq0, n_gt0, n_le0, n_cl, n_add, n_sub, n_mul, n_m1, n_m6, m1_lt, m6_lt, m1_ge, m6_ge, m1_eq, m6_eq0, m1_eq0, c_leT, c_leF, c_ltT, c_ltF, c_eqF, false_or, or_false, or_self, if_true, if_false, ite_true, ite_false, Option.bind_some, not_true_eq_false, not_false_eq_true, reduceIte]
    obtain ⟨X', e1, e2, e3⟩ := ih (j + 1) fuel (upd X (80 * i + j) (W j)) (by omega) (by omega)
    refine ⟨X', e1, fun a h4 h5 => ?_, fun a h4 => ?_⟩
    · by_cases e : a = j
      · subst e
        rw [e3 _ (by omega)]
        simp only [upd, if_true]
      · exact e2 a (by omega) h5
    · rw [e3 a (by omega)]
      simp only [upd]
      rw [if_neg (by omega)]
theorem lp_image47 {i : Nat} (hi : i < 2) (W : Nat → Int32) (kL : Int32 → (Nat → Int32) → Option (Int32 × ModS)) : ∀ (c j fuel : Nat) (X : Nat → Int32), 12 = j + c → c < fuel → ∃ X', f_X6_image_L47 (nI (80 * i)) W fuel (nI j) X kL = kL (nI 12) X' ∧ (∀ a, j ≤ a → a < 12 → X' (80 * i + 64 + a) = W a) ∧ ∀ a, (a < 80 * i + 64 + j ∨ 80 * i + 76 ≤ a) → X' a = X a := by
  intro c
  induction c with
  | zero =>
    intro j fuel X h1 h3
    obtain ⟨fuel, rfl⟩ : ∃ n, fuel = n + 1 := ⟨fuel - 1, by omega⟩
    have hj : j = 12 := by omega
    subst hj
    rw [f_X6_image_L47]
    simp (disch := omega) only [n_lt, n_le, n_eq, n_lt0, n_ge0, n_eq0, n_gt0, n_le0, n_cl, n_add, n_sub, n_mul, n_m1, n_m6, m1_lt, m6_lt, m1_ge, m6_ge, m1_eq, m6_eq0, m1_eq0, c_leT, c_leF, c_ltT, c_ltF, c_eqF, false_or, or_false, or_self, if_true, if_false, ite_true, ite_false, Option.bind_some, not_true_eq_false, not_false_eq_true, reduceIte]
    exact ⟨X, rfl, fun a h1 h2 => absurd h1 (by omega), fun a _ => rfl⟩
  | succ c ih =>
    intro j fuel X h1 h3
    obtain ⟨fuel, rfl⟩ : ∃ n, fuel = n + 1 := ⟨fuel - 1, by omega⟩
    rw [f_X6_image_L47]
    simp (disch := omega) only [n_lt, n_le, n_eq, n_lt0, n_ge0, n_eq0, n_gt0, n_le0, n_cl, n_add, n_sub, n_mul, n_m1, n_m6, m1_lt, m6_lt, m1_ge, m6_ge, m1_eq, m6_eq0, m1_eq0, c_leT, c_leF, c_ltT, c_ltF, c_eqF, false_or, or_false, or_self, if_true, if_false, ite_true, ite_false, Option.bind_some, not_true_eq_false, not_false_eq_true, reduceIte]
    obtain ⟨X', e1, e2, e3⟩ := ih (j + 1) fuel (upd X (80 * i + 64 + j) (W j)) (by omega) (by omega)
    refine ⟨X', e1, fun a h4 h5 => ?_, fun a h4 => ?_⟩
    · by_cases e : a = j
      · subst e
        rw [e3 _ (by omega)]
        simp only [upd, if_true]
      · exact e2 a (by omega) h5
    · rw [e3 a (by omega)]
      simp only [upd]
      rw [if_neg (by omega)]
theorem lp_restore31 {i : Nat} (hi : i < 2) (X : Nat → Int32) (kL : Int32 → (Nat → Int32) → Option (Int32 × ModS)) : ∀ (c j fuel : Nat) (W : Nat → Int32), 64 = j + c → c < fuel → (∀ a, a < j → W a = X (80 * i + a)) → ∃ W', f_X6_restore_L31 (nI (80 * i)) X fuel (nI j) W kL = kL (nI 64) W' ∧ ∀ a, a < 64 → W' a = X (80 * i + a) := by
  intro c
  induction c with
  | zero =>
    intro j fuel W h1 h3 h
    obtain ⟨fuel, rfl⟩ : ∃ n, fuel = n + 1 := ⟨fuel - 1, by omega⟩
    have hj : j = 64 := by omega
    subst hj
    rw [f_X6_restore_L31]
    simp (disch := omega) only [n_lt, n_le, n_eq, n_lt0, n_ge0, n_eq0, n_gt0, n_le0, n_cl, n_add, n_sub, n_mul, n_m1, n_m6, m1_lt, m6_lt, m1_ge, m6_ge, m1_eq, m6_eq0, m1_eq0, c_leT, c_leF, c_ltT, c_ltF, c_eqF, false_or, or_false, or_self, if_true, if_false, ite_true, ite_false, Option.bind_some, not_true_eq_false, not_false_eq_true, reduceIte]
    exact ⟨W, rfl, h⟩
  | succ c ih =>
    intro j fuel W h1 h3 h
    obtain ⟨fuel, rfl⟩ : ∃ n, fuel = n + 1 := ⟨fuel - 1, by omega⟩
    rw [f_X6_restore_L31]
    simp (disch := omega) only [n_lt, n_le, n_eq, n_lt0, n_ge0, n_eq0, n_gt0, n_le0, n_cl, n_add, n_sub, n_mul, n_m1, n_m6, m1_lt, m6_lt, m1_ge, m6_ge, m1_eq, m6_eq0, m1_eq0, c_leT, c_leF, c_ltT, c_ltF, c_eqF, false_or, or_false, or_self, if_true, if_false, ite_true, ite_false, Option.bind_some, not_true_eq_false, not_false_eq_true, reduceIte]
    refine ih (j + 1) fuel _ (by omega) (by omega) (fun a ha => ?_)
    simp only [upd]
    by_cases e : a = j
    · rw [if_pos e, e]
    · rw [if_neg e]
      exact h a (by omega)
theorem lp_restore59 {i : Nat} (hi : i < 2) (X : Nat → Int32) (kL : Int32 → (Nat → Int32) → Option (Int32 × ModS)) : ∀ (c j fuel : Nat) (W : Nat → Int32), 12 = j + c → c < fuel → (∀ a, a < j → W a = X (80 * i + 64 + a)) → ∃ W', f_X6_restore_L59 (nI (80 * i)) X fuel (nI j) W kL = kL (nI 12) W' ∧ ∀ a, a < 12 → W' a = X (80 * i + 64 + a) := by
  intro c
  induction c with
  | zero =>
    intro j fuel W h1 h3 h
    obtain ⟨fuel, rfl⟩ : ∃ n, fuel = n + 1 := ⟨fuel - 1, by omega⟩
    have hj : j = 12 := by omega
    subst hj
    rw [f_X6_restore_L59]
    simp (disch := omega) only [n_lt, n_le, n_eq, n_lt0, n_ge0, n_eq0, n_gt0, n_le0, n_cl, n_add, n_sub, n_mul, n_m1, n_m6, m1_lt, m6_lt, m1_ge, m6_ge, m1_eq, m6_eq0, m1_eq0, c_leT, c_leF, c_ltT, c_ltF, c_eqF, false_or, or_false, or_self, if_true, if_false, ite_true, ite_false, Option.bind_some, not_true_eq_false, not_false_eq_true, reduceIte]
    exact ⟨W, rfl, h⟩
  | succ c ih =>
    intro j fuel W h1 h3 h
    obtain ⟨fuel, rfl⟩ : ∃ n, fuel = n + 1 := ⟨fuel - 1, by omega⟩
    rw [f_X6_restore_L59]
    simp (disch := omega) only [n_lt, n_le, n_eq, n_lt0, n_ge0, n_eq0, n_gt0, n_le0, n_cl, n_add, n_sub, n_mul, n_m1, n_m6, m1_lt, m6_lt, m1_ge, m6_ge, m1_eq, m6_eq0, m1_eq0, c_leT, c_leF, c_ltT, c_ltF, c_eqF, false_or, or_false, or_self, if_true, if_false, ite_true, ite_false, Option.bind_some, not_true_eq_false, not_false_eq_true, reduceIte]
    refine ih (j + 1) fuel _ (by omega) (by omega) (fun a ha => ?_)
    simp only [upd]
    by_cases e : a = j
    · rw [if_pos e, e]
    · rw [if_neg e]
      exact h a (by omega)
theorem f_copy {h : AHs} {t u : HouS} (hu : HouR u h) : ∃ t', f_X2_copy t u = some t' ∧ HouR t' h ∧ HouK t' = HouK t := by
  obtain ⟨H_beds, H_law, H_sights, H_isKept, H_worths, H_sightGuests, H_sightBeds⟩ := t
  obtain ⟨Y_beds, Y_law, Y_sights, Y_isKept, Y_worths, Y_sightGuests, Y_sightBeds⟩ := u
  obtain ⟨n, k, q, w, sg, sb⟩ := h
  obtain ⟨h1, h2, h3, h4, h5, h6⟩ := hu
  rw [f_X2_copy]
  refine ⟨_, rfl, ⟨h1, h2, h3, fun j hj => ?_, fun j hj => ?_, fun j hj => ?_⟩, rfl⟩
  · rw [cpy_at (n_cl (by omega)) hj]; exact h4 j hj
  · rw [cpy_at (n_cl (by omega)) hj]; exact h5 j hj
  · rw [cpy_at (n_cl (by omega)) hj]; exact h6 j hj
def hKep (v : Int32) : HouS → HouS
  | (H_beds, H_law, H_sights, H_isKept, H_worths, H_sightGuests, H_sightBeds) => (H_beds, H_law, H_sights, v, H_worths, H_sightGuests, H_sightBeds)
theorem hKep_K (v : Int32) (t : HouS) : HouK (hKep v t) = v := by
  obtain ⟨H_beds, H_law, H_sights, H_isKept, H_worths, H_sightGuests, H_sightBeds⟩ := t
  rfl
theorem hKep_R {v : Int32} {t : HouS} {h : AHs} (hh : HouR t h) : HouR (hKep v t) h := by
  obtain ⟨H_beds, H_law, H_sights, H_isKept, H_worths, H_sightGuests, H_sightBeds⟩ := t
  obtain ⟨n, k, q, w, sg, sb⟩ := h
  obtain ⟨h1, h2, h3, h4, h5, h6⟩ := hh
  exact ⟨h1, h2, h3, h4, h5, h6⟩
theorem m_image {n k q : Nat} {w sg sb : Nat → Nat} {t : ModS} (hM : ModHR t (n, k, q, w, sg, sb)) {i : Nat} (hi : i < 2) : ∃ t', f_X6_image (nI i) t = some (nI 1, t') ∧ mDp t' = mDp t ∧ ModHR t' (n, k, q, w, sg, sb) ∧ ModIR t' i (n, k, q, w, sg, sb) ∧ ModKR t' i (nI 1) ∧ ∀ t'' : HouS, ∀ i', i' < 2 → i' ≠ i → ImgR t'' t i' → ImgR t'' t' i' := by
  obtain ⟨M_beds, M_law, M_worths, M_sights, M_sight, M_signs, M_pad, M_lies, M_empty, M_list, M_waits, M_yard, M_last, M_used, M_sheets, M_nights, M_fleasOfGuests, M_fleasOfBeds, M_reason, M_row, M_bestRow, M_image, M_isKept⟩ := t
  obtain ⟨b1, b2, b3, b4, b5⟩ := hM
  obtain ⟨X1, c1, c2, c3⟩ := lp_image19 hi M_worths (fun x3_L19 M_image_L19 => f_X6_image_L47 (nI (80 * i)) M_sight FU (nI 0) M_image_L19 (fun x3_L47 M_image_L47 => (if (nI (80 * i) + (nI 76)) < 0 ∨ 160 ≤ (nI (80 * i) + (nI 76)).toNatClampNeg then none else (if (nI (80 * i) + (nI 77)) < 0 ∨ 160 ≤ (nI (80 * i) + (nI 77)).toNatClampNeg then none else (if (nI (80 * i) + (nI 78)) < 0 ∨ 160 ≤ (nI (80 * i) + (nI 78)).toNatClampNeg then none else (if nI i < 0 ∨ 2 ≤ (nI i).toNatClampNeg then none else some ((nI 1), (M_beds, M_law, M_worths, M_sights, M_sight, M_signs, M_pad, M_lies, M_empty, M_list, M_waits, M_yard, M_last, M_used, M_sheets, M_nights, M_fleasOfGuests, M_fleasOfBeds, M_reason, M_row, M_bestRow, (upd (upd (upd M_image_L47 (nI (80 * i) + (nI 76)).toNatClampNeg M_beds) (nI (80 * i) + (nI 77)).toNatClampNeg M_law) (nI (80 * i) + (nI 78)).toNatClampNeg M_sights), (upd M_isKept (nI i).toNatClampNeg (nI 1)))))))))) 64 0 FU M_image (by omega) (by rw [FU_eq]; omega)
  obtain ⟨X2, d1, d2, d3⟩ := lp_image47 hi M_sight (fun x3_L47 M_image_L47 => (if (nI (80 * i) + (nI 76)) < 0 ∨ 160 ≤ (nI (80 * i) + (nI 76)).toNatClampNeg then none else (if (nI (80 * i) + (nI 77)) < 0 ∨ 160 ≤ (nI (80 * i) + (nI 77)).toNatClampNeg then none else (if (nI (80 * i) + (nI 78)) < 0 ∨ 160 ≤ (nI (80 * i) + (nI 78)).toNatClampNeg then none else (if nI i < 0 ∨ 2 ≤ (nI i).toNatClampNeg then none else some ((nI 1), (M_beds, M_law, M_worths, M_sights, M_sight, M_signs, M_pad, M_lies, M_empty, M_list, M_waits, M_yard, M_last, M_used, M_sheets, M_nights, M_fleasOfGuests, M_fleasOfBeds, M_reason, M_row, M_bestRow, (upd (upd (upd M_image_L47 (nI (80 * i) + (nI 76)).toNatClampNeg M_beds) (nI (80 * i) + (nI 77)).toNatClampNeg M_law) (nI (80 * i) + (nI 78)).toNatClampNeg M_sights), (upd M_isKept (nI i).toNatClampNeg (nI 1))))))))) 12 0 FU X1 (by omega) (by rw [FU_eq]; omega)
  rw [d1] at c1
  rw [f_X6_image, m_in (by omega) (by omega) (by omega), if_pos (by omega), n_mul]
  simp only [Option.bind_some, one0, if_false]
  rw [c1]
  simp (disch := omega) only [n_add, n_lt0, n_cl, false_or, c_leF, if_false]
  refine ⟨_, rfl, by simp only [mDp], ⟨b1, b2, b3, b4, b5⟩, ⟨fun j hj => ?_, fun j hj => ⟨?_, ?_⟩, ?_, ?_, ?_⟩, ?_, fun t'' i' hi' hne hh => ?_⟩
  · simp only [upd]
    rw [if_neg (by omega), if_neg (by omega), if_neg (by omega), d3 _ (by omega), c2 j (by omega) hj]
    exact b4 j hj
  · simp only [upd]
    rw [if_neg (by omega), if_neg (by omega), if_neg (by omega), d2 _ (by omega) (by omega)]
    exact (b5 j hj).1
  · simp only [upd]
    rw [if_neg (by omega), if_neg (by omega), if_neg (by omega), d2 _ (by omega) (by omega)]
    exact (b5 j hj).2
  · simp only [upd]
    rw [if_neg (by omega), if_neg (by omega), if_pos trivial]
    exact b1
  · simp only [upd]
    rw [if_neg (by omega), if_pos trivial]
    exact b2
  · simp only [upd, if_true]
    exact b3
  · simp only [ModKR, upd, if_true]
  · rcases hh with ⟨h1, h2⟩ | ⟨h1, h2, ⟨n', k', q', w', sg', sb'⟩, h3, h4, h5⟩
    · refine Or.inl ⟨h1, ?_⟩
      simp only [ModKR, upd] at h2 ⊢
      rw [if_neg hne]
      exact h2
    · refine Or.inr ⟨h1, ?_, (n', k', q', w', sg', sb'), h3, h4, ?_⟩
      · simp only [ModKR, upd] at h2 ⊢
        rw [if_neg hne]
        exact h2
      · obtain ⟨g1, g2, g3, g4, g5⟩ := h5
        have key : ∀ a, 80 * i' ≤ a → a < 80 * i' + 80 → upd (upd (upd X2 (80 * i + 76) M_beds) (80 * i + 77) M_law) (80 * i + 78) M_sights a = M_image a := by
          intro a h6 h7
          simp only [upd]
          rw [if_neg (by omega), if_neg (by omega), if_neg (by omega), d3 _ (by omega), c3 _ (by omega)]
        refine ⟨fun j hj => ?_, fun j hj => ⟨?_, ?_⟩, ?_, ?_, ?_⟩
        · rw [key _ (by omega) (by omega)]; exact g1 j hj
        · rw [key _ (by omega) (by omega)]; exact (g2 j hj).1
        · rw [key _ (by omega) (by omega)]; exact (g2 j hj).2
        · rw [key _ (by omega) (by omega)]; exact g3
        · rw [key _ (by omega) (by omega)]; exact g4
        · rw [key _ (by omega) (by omega)]; exact g5
theorem op_image (tB : WbS) (tP : ParS) (tQ : GueS) (tI : InnS) {tH tY tZ : HouS} {tD : DayS} {tT : List InnS} {tM : ModS} (hI : Inv tH tY tZ tD tT tM) (x1 : Int32) : ∃ (r : Int32) (wY : HouS) (wZ : HouS) (wM : ModS), f_X5_image x1 tB tH tY tZ = some (r, wY, wZ) ∧ f_X6_image x1 tM = some (r, wM) ∧ Inv tH wY wZ tD tT wM := by
  obtain ⟨hl, n, k, q, w, sg, sb, m, d, hok, hH, hM, hD, hDM, hm, hd⟩ := inv_use hI
  obtain ⟨i1, i2, i3, i4, i5⟩ := hI
  rcases either_c x1 with ⟨h1, h2⟩ | ⟨j, hj, rfl, h1, h2⟩
  · refine ⟨-2, tY, tZ, tM, ?_, ?_, ⟨i1, i2, i3, i4, i5⟩⟩
    · obtain ⟨H_beds, H_law, H_sights, H_isKept, H_worths, H_sightGuests, H_sightBeds⟩ := tH
      obtain ⟨Y_beds, Y_law, Y_sights, Y_isKept, Y_worths, Y_sightGuests, Y_sightBeds⟩ := tY
      obtain ⟨Z_beds, Z_law, Z_sights, Z_isKept, Z_worths, Z_sightGuests, Z_sightBeds⟩ := tZ
      rw [f_X5_image, h1]
      rfl
    · obtain ⟨M_beds, M_law, M_worths, M_sights, M_sight, M_signs, M_pad, M_lies, M_empty, M_list, M_waits, M_yard, M_last, M_used, M_sheets, M_nights, M_fleasOfGuests, M_fleasOfBeds, M_reason, M_row, M_bestRow, M_image, M_isKept⟩ := tM
      rw [f_X6_image, h2]
      rfl
  · obtain ⟨t', e1, e2, e3, e4, e5, e6⟩ := m_image hM hj
    rcases (show j = 0 ∨ j = 1 by omega) with rfl | rfl
    · obtain ⟨y', c1, c2, c3⟩ := f_copy (t := tY) hH
      refine ⟨nI 1, hKep (nI 1) y', tZ, t', ?_, e1, ⟨i1, ⟨(n, k, q, w, sg, sb), hok, hH, e3⟩, ⟨m, d, hD, mDp_D e2 hDM⟩, Or.inr ⟨hKep_K _ _, e5, (n, k, q, w, sg, sb), hok, hKep_R c2, e4⟩, e6 _ 1 (by omega) (by omega) i5⟩⟩
      obtain ⟨H_beds, H_law, H_sights, H_isKept, H_worths, H_sightGuests, H_sightBeds⟩ := tH
      obtain ⟨Y_beds, Y_law, Y_sights, Y_isKept, Y_worths, Y_sightGuests, Y_sightBeds⟩ := tY
      obtain ⟨Z_beds, Z_law, Z_sights, Z_isKept, Z_worths, Z_sightGuests, Z_sightBeds⟩ := tZ
      obtain ⟨a1, a2, a3, a4, a5, a6, a7⟩ := y'
      rw [f_X5_image, h1]
      simp only [Option.bind_some, one0, if_false, zer0, if_true, c1]
      rfl
    · obtain ⟨y', c1, c2, c3⟩ := f_copy (t := tZ) hH
      refine ⟨nI 1, tY, hKep (nI 1) y', t', ?_, e1, ⟨i1, ⟨(n, k, q, w, sg, sb), hok, hH, e3⟩, ⟨m, d, hD, mDp_D e2 hDM⟩, e6 _ 0 (by omega) (by omega) i4, Or.inr ⟨hKep_K _ _, e5, (n, k, q, w, sg, sb), hok, hKep_R c2, e4⟩⟩⟩
      obtain ⟨H_beds, H_law, H_sights, H_isKept, H_worths, H_sightGuests, H_sightBeds⟩ := tH
      obtain ⟨Y_beds, Y_law, Y_sights, Y_isKept, Y_worths, Y_sightGuests, Y_sightBeds⟩ := tY
      obtain ⟨Z_beds, Z_law, Z_sights, Z_isKept, Z_worths, Z_sightGuests, Z_sightBeds⟩ := tZ
      obtain ⟨a1, a2, a3, a4, a5, a6, a7⟩ := y'
      rw [f_X5_image, h1]
      simp only [Option.bind_some, one0, if_false, zer0, if_true, c1]
      rfl
theorem m_restore0 {t : ModS} {i : Nat} (hi : i < 2) (hk : ModKR t i (nI 0)) : f_X6_restore (nI i) t = some (-3, t) := by
  obtain ⟨M_beds, M_law, M_worths, M_sights, M_sight, M_signs, M_pad, M_lies, M_empty, M_list, M_waits, M_yard, M_last, M_used, M_sheets, M_nights, M_fleasOfGuests, M_fleasOfBeds, M_reason, M_row, M_bestRow, M_image, M_isKept⟩ := t
  have hk2 : M_isKept i = nI 0 := hk
  rw [f_X6_restore, m_in (by omega) (by omega) (by omega), if_pos (by omega)]
  simp (disch := omega) only [Option.bind_some, one0, if_false, n_lt0, n_cl, false_or, c_leF, hk2, zer0, if_true]
theorem m_restore1 {t : ModS} {i : Nat} (hi : i < 2) (hk : ModKR t i (nI 1)) {n k q : Nat} {w sg sb : Nat → Nat} (hh : ModIR t i (n, k, q, w, sg, sb)) : ∃ t', f_X6_restore (nI i) t = some (nI 1, t') ∧ mDp t' = mDp t ∧ mIp t' = mIp t ∧ ModHR t' (n, k, q, w, sg, sb) := by
  obtain ⟨M_beds, M_law, M_worths, M_sights, M_sight, M_signs, M_pad, M_lies, M_empty, M_list, M_waits, M_yard, M_last, M_used, M_sheets, M_nights, M_fleasOfGuests, M_fleasOfBeds, M_reason, M_row, M_bestRow, M_image, M_isKept⟩ := t
  have hk2 : M_isKept i = nI 1 := hk
  obtain ⟨g1, g2, g3, g4, g5⟩ := hh
  have hs : ∀ W S : Nat → Int32, (∀ a, a < 64 → W a = M_image (80 * i + a)) → (∀ a, a < 12 → S a = M_image (80 * i + 64 + a)) → ModHR (M_image (80 * i + 76), M_image (80 * i + 77), W, M_image (80 * i + 78), S, M_signs, M_pad, M_lies, M_empty, M_list, M_waits, M_yard, M_last, M_used, M_sheets, M_nights, M_fleasOfGuests, M_fleasOfBeds, M_reason, M_row, M_bestRow, M_image, M_isKept) (n, k, q, w, sg, sb) := by
    intro W S hW hS
    refine ⟨g3, g4, g5, fun j hj => ?_, fun j hj => ⟨?_, ?_⟩⟩
    · rw [hW j hj]; exact g1 j hj
    · rw [hS _ (by omega)]; exact (g2 j hj).1
    · rw [hS _ (by omega)]; exact (g2 j hj).2
  rw [f_X6_restore, m_in (by omega) (by omega) (by omega), if_pos (by omega), n_mul]
  simp (disch := omega) only [Option.bind_some, one0, if_false, n_lt0, n_cl, false_or, c_leF, hk2, n_add]
  obtain ⟨W, c1, c2⟩ := lp_restore31 hi M_image (fun x3_L31 M_worths_L31 => f_X6_restore_L59 (nI (80 * i)) M_image FU (nI 0) M_sight (fun x3_L59 M_sight_L59 => some (nI 1, (M_image (80 * i + 76), M_image (80 * i + 77), M_worths_L31, M_image (80 * i + 78), M_sight_L59, M_signs, M_pad, M_lies, M_empty, M_list, M_waits, M_yard, M_last, M_used, M_sheets, M_nights, M_fleasOfGuests, M_fleasOfBeds, M_reason, M_row, M_bestRow, M_image, M_isKept)))) 64 0 FU M_worths (by omega) (by rw [FU_eq]; omega) (fun a ha => absurd ha (by omega))
  obtain ⟨S, d1, d2⟩ := lp_restore59 hi M_image (fun x3_L59 M_sight_L59 => some (nI 1, (M_image (80 * i + 76), M_image (80 * i + 77), W, M_image (80 * i + 78), M_sight_L59, M_signs, M_pad, M_lies, M_empty, M_list, M_waits, M_yard, M_last, M_used, M_sheets, M_nights, M_fleasOfGuests, M_fleasOfBeds, M_reason, M_row, M_bestRow, M_image, M_isKept))) 12 0 FU M_sight (by omega) (by rw [FU_eq]; omega) (fun a ha => absurd ha (by omega))
  rw [d1] at c1
  rw [c1]
  exact ⟨_, rfl, by simp only [mDp], by simp only [mIp], hs W S c2 d2⟩
theorem op_restore (tB : WbS) (tP : ParS) (tQ : GueS) (tI : InnS) {tH tY tZ : HouS} {tD : DayS} {tT : List InnS} {tM : ModS} (hI : Inv tH tY tZ tD tT tM) (x1 : Int32) : ∃ (r : Int32) (wH : HouS) (wM : ModS), f_X5_restore x1 tB tH tY tZ = some (r, wH) ∧ f_X6_restore x1 tM = some (r, wM) ∧ Inv wH tY tZ tD tT wM := by
  have hI0 := hI
  obtain ⟨i1, i2, i3, i4, i5⟩ := hI
  have body : ∀ (tU : HouS) (i : Nat), i < 2 → ImgR tU tM i → (HouK tU = nI 0 ∧ f_X6_restore (nI i) tM = some (-3, tM)) ∨ (HouK tU = nI 1 ∧ ∃ h' t', f_X2_copy tH tU = some h' ∧ f_X6_restore (nI i) tM = some (nI 1, t') ∧ Inv h' tY tZ tD tT t') := by
    intro tU i hi hh
    rcases hh with ⟨h1, h2⟩ | ⟨h1, h2, ⟨n, k, q, w, sg, sb⟩, h3, h4, h5⟩
    · exact Or.inl ⟨h1, m_restore0 hi h2⟩
    · obtain ⟨t', e1, e2, e3, e4⟩ := m_restore1 hi h2 h5
      obtain ⟨h', c1, c2, c3⟩ := f_copy (t := tH) h4
      exact Or.inr ⟨h1, h', t', c1, e1, inv_H hI0 e2 e3 h3 c2 e4⟩
  rcases either_c x1 with ⟨h1, h2⟩ | ⟨j, hj, rfl, h1, h2⟩
  · refine ⟨-2, tH, tM, ?_, ?_, hI0⟩
    · obtain ⟨H_beds, H_law, H_sights, H_isKept, H_worths, H_sightGuests, H_sightBeds⟩ := tH
      obtain ⟨Y_beds, Y_law, Y_sights, Y_isKept, Y_worths, Y_sightGuests, Y_sightBeds⟩ := tY
      obtain ⟨Z_beds, Z_law, Z_sights, Z_isKept, Z_worths, Z_sightGuests, Z_sightBeds⟩ := tZ
      rw [f_X5_restore, h1]
      rfl
    · obtain ⟨M_beds, M_law, M_worths, M_sights, M_sight, M_signs, M_pad, M_lies, M_empty, M_list, M_waits, M_yard, M_last, M_used, M_sheets, M_nights, M_fleasOfGuests, M_fleasOfBeds, M_reason, M_row, M_bestRow, M_image, M_isKept⟩ := tM
      rw [f_X6_restore, h2]
      rfl
  · rcases (show j = 0 ∨ j = 1 by omega) with rfl | rfl
    · rcases body tY 0 (by omega) i4 with ⟨b1, b2⟩ | ⟨b1, h', t', b2, b3, b4⟩
      · refine ⟨-3, tH, tM, ?_, b2, hI0⟩
        obtain ⟨H_beds, H_law, H_sights, H_isKept, H_worths, H_sightGuests, H_sightBeds⟩ := tH
        obtain ⟨Y_beds, Y_law, Y_sights, Y_isKept, Y_worths, Y_sightGuests, Y_sightBeds⟩ := tY
        obtain ⟨Z_beds, Z_law, Z_sights, Z_isKept, Z_worths, Z_sightGuests, Z_sightBeds⟩ := tZ
        obtain rfl : Y_isKept = nI 0 := b1
        rw [f_X5_restore, h1]
        simp only [Option.bind_some, one0, if_false, zer0, if_true]
      · refine ⟨nI 1, h', t', ?_, b3, b4⟩
        obtain ⟨H_beds, H_law, H_sights, H_isKept, H_worths, H_sightGuests, H_sightBeds⟩ := tH
        obtain ⟨Y_beds, Y_law, Y_sights, Y_isKept, Y_worths, Y_sightGuests, Y_sightBeds⟩ := tY
        obtain ⟨Z_beds, Z_law, Z_sights, Z_isKept, Z_worths, Z_sightGuests, Z_sightBeds⟩ := tZ
        obtain ⟨a1, a2, a3, a4, a5, a6, a7⟩ := h'
        obtain rfl : Y_isKept = nI 1 := b1
        rw [f_X5_restore, h1]
        simp only [Option.bind_some, one0, if_false, zer0, if_true, b2]
    · rcases body tZ 1 (by omega) i5 with ⟨b1, b2⟩ | ⟨b1, h', t', b2, b3, b4⟩
      · refine ⟨-3, tH, tM, ?_, b2, hI0⟩
        obtain ⟨H_beds, H_law, H_sights, H_isKept, H_worths, H_sightGuests, H_sightBeds⟩ := tH
        obtain ⟨Y_beds, Y_law, Y_sights, Y_isKept, Y_worths, Y_sightGuests, Y_sightBeds⟩ := tY
        obtain ⟨Z_beds, Z_law, Z_sights, Z_isKept, Z_worths, Z_sightGuests, Z_sightBeds⟩ := tZ
        obtain rfl : Z_isKept = nI 0 := b1
        rw [f_X5_restore, h1]
        simp only [Option.bind_some, one0, if_false, zer0, if_true]
      · refine ⟨nI 1, h', t', ?_, b3, b4⟩
        obtain ⟨H_beds, H_law, H_sights, H_isKept, H_worths, H_sightGuests, H_sightBeds⟩ := tH
        obtain ⟨Y_beds, Y_law, Y_sights, Y_isKept, Y_worths, Y_sightGuests, Y_sightBeds⟩ := tY
        obtain ⟨Z_beds, Z_law, Z_sights, Z_isKept, Z_worths, Z_sightGuests, Z_sightBeds⟩ := tZ
        obtain ⟨a1, a2, a3, a4, a5, a6, a7⟩ := h'
        obtain rfl : Z_isKept = nI 1 := b1
        rw [f_X5_restore, h1]
        simp only [Option.bind_some, one0, if_false, zer0, if_true, b2]
theorem inv_init : Inv (4, 0, 0, 0, fun _ => 0, fun _ => 0, fun _ => 0) (4, 0, 0, 0, fun _ => 0, fun _ => 0, fun _ => 0) (4, 0, 0, 0, fun _ => 0, fun _ => 0, fun _ => 0) (0, fun _ => 0) (List.replicate 8 innS0) (4, 0, fun _ => 0, 0, fun _ => 0, 0, fun _ => 0, fun _ => 0, 0, fun _ => 0, 0, fun _ => 0, fun _ => 0, fun _ => 0, fun _ => 0, fun _ => 0, 0, 0, 0, fun _ => 0, fun _ => 0, fun _ => 0, fun _ => 0) := by
  refine ⟨List.length_replicate, ⟨(4, 0, 0, fun _ => 0, fun _ => 0, fun _ => 0), ⟨by omega, by omega, by omega, by omega, fun _ => Nat.zero_le _, fun _ => Nat.zero_lt_succ 7, fun _ => Nat.zero_lt_succ 7⟩, ⟨rfl, rfl, rfl, fun _ _ => rfl, fun _ _ => rfl, fun _ _ => rfl⟩, ⟨rfl, rfl, rfl, fun _ _ => rfl, fun _ _ => ⟨rfl, rfl⟩⟩⟩, ⟨0, fun _ => 0, ⟨rfl, by omega, fun _ _ => ⟨rfl, Nat.zero_lt_succ 126⟩⟩, ⟨rfl, fun _ _ => rfl⟩⟩, Or.inl ⟨rfl, rfl⟩, Or.inl ⟨rfl, rfl⟩⟩
