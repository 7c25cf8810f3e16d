/-! the reference's next order -/
def mQ : ModS → Int32 × Int32 × (Nat → Int32) × Int32 × (Nat → Int32) × Int32 × (Nat → Int32) × (Nat → Int32) × (Nat → Int32)
  | (M_beds, M_law, M_worths, M_sights, M_sight, M_signs, M_pad, M_lies, M_empty, M_list, M_waits, M_yard, M_last, M_used, M_sheets, M_nights, M_fleasOfGuests, M_fleasOfBeds, M_reason, M_row, M_bestRow, M_image, M_isKept) => (M_beds, M_law, M_worths, M_sights, M_sight, M_signs, M_pad, M_image, M_isKept)
def mBst : ModS → (Nat → Int32)
  | (M_beds, M_law, M_worths, M_sights, M_sight, M_signs, M_pad, M_lies, M_empty, M_list, M_waits, M_yard, M_last, M_used, M_sheets, M_nights, M_fleasOfGuests, M_fleasOfBeds, M_reason, M_row, M_bestRow, M_image, M_isKept) => M_bestRow
def mRow : ModS → (Nat → Int32)
  | (M_beds, M_law, M_worths, M_sights, M_sight, M_signs, M_pad, M_lies, M_empty, M_list, M_waits, M_yard, M_last, M_used, M_sheets, M_nights, M_fleasOfGuests, M_fleasOfBeds, M_reason, M_row, M_bestRow, M_image, M_isKept) => M_row
theorem mQ_of {t t' : ModS} (e : mP t' = mP t) : mQ t' = mQ t ∧ mBst t' = mBst t ∧ mRow t' = mRow t := by
  obtain ⟨M_beds, M_law, M_worths, M_sights, M_sight, M_signs, M_pad, M_lies, M_empty, M_list, M_waits, M_yard, M_last, M_used, M_sheets, M_nights, M_fleasOfGuests, M_fleasOfBeds, M_reason, M_row, M_bestRow, M_image, M_isKept⟩ := t
  obtain ⟨L_beds, L_law, L_worths, L_sights, L_sight, L_signs, L_pad, L_lies, L_empty, L_list, L_waits, L_yard, L_last, L_used, L_sheets, L_nights, L_fleasOfGuests, L_fleasOfBeds, L_reason, L_row, L_bestRow, L_image, L_isKept⟩ := t'
  simp only [mP, Prod.mk.injEq] at e
  obtain ⟨rfl, rfl, rfl, rfl, rfl, rfl, rfl, rfl, rfl, rfl, rfl⟩ := e
  exact ⟨by simp only [mQ], by simp only [mBst], by simp only [mRow]⟩
theorem mQ_H {t t' : ModS} (e : mQ t' = mQ t) {h : AHs} (hh : ModHR t h) : ModHR t' h := by
  obtain ⟨M_beds, M_law, M_worths, M_sights, M_sight, M_signs, M_pad, M_lies, M_empty, M_list, M_waits, M_yard, M_last, M_used, M_sheets, M_nights, M_fleasOfGuests, M_fleasOfBeds, M_reason, M_row, M_bestRow, M_image, M_isKept⟩ := t
  obtain ⟨L_beds, L_law, L_worths, L_sights, L_sight, L_signs, L_pad, L_lies, L_empty, L_list, L_waits, L_yard, L_last, L_used, L_sheets, L_nights, L_fleasOfGuests, L_fleasOfBeds, L_reason, L_row, L_bestRow, L_image, L_isKept⟩ := t'
  obtain ⟨n, k, q, w, sg, sb⟩ := h
  simp only [mQ, Prod.mk.injEq] at e
  obtain ⟨rfl, rfl, rfl, rfl, rfl, rfl, rfl, rfl, rfl⟩ := e
  obtain ⟨h1, h2, h3, h4, h5⟩ := hh
  exact ⟨h1, h2, h3, h4, h5⟩
theorem mQ_D {t t' : ModS} (e : mQ t' = mQ t) : mDp t' = mDp t := by
  obtain ⟨M_beds, M_law, M_worths, M_sights, M_sight, M_signs, M_pad, M_lies, M_empty, M_list, M_waits, M_yard, M_last, M_used, M_sheets, M_nights, M_fleasOfGuests, M_fleasOfBeds, M_reason, M_row, M_bestRow, M_image, M_isKept⟩ := t
  obtain ⟨L_beds, L_law, L_worths, L_sights, L_sight, L_signs, L_pad, L_lies, L_empty, L_list, L_waits, L_yard, L_last, L_used, L_sheets, L_nights, L_fleasOfGuests, L_fleasOfBeds, L_reason, L_row, L_bestRow, L_image, L_isKept⟩ := t'
  simp only [mQ, Prod.mk.injEq] at e
  obtain ⟨rfl, rfl, rfl, rfl, rfl, rfl, rfl, rfl, rfl⟩ := e
  simp only [mDp]
theorem mQ_I {t t' : ModS} (e : mQ t' = mQ t) : mIp t' = mIp t := by
  obtain ⟨M_beds, M_law, M_worths, M_sights, M_sight, M_signs, M_pad, M_lies, M_empty, M_list, M_waits, M_yard, M_last, M_used, M_sheets, M_nights, M_fleasOfGuests, M_fleasOfBeds, M_reason, M_row, M_bestRow, M_image, M_isKept⟩ := t
  obtain ⟨L_beds, L_law, L_worths, L_sights, L_sight, L_signs, L_pad, L_lies, L_empty, L_list, L_waits, L_yard, L_last, L_used, L_sheets, L_nights, L_fleasOfGuests, L_fleasOfBeds, L_reason, L_row, L_bestRow, L_image, L_isKept⟩ := t'
  simp only [mQ, Prod.mk.injEq] at e
  obtain ⟨rfl, rfl, rfl, rfl, rfl, rfl, rfl, rfl, rfl⟩ := e
  simp only [mIp]
theorem inv_keepQ {tH tY tZ : HouS} {tD : DayS} {tT tT' : List InnS} {tM t' : ModS} (hI : Inv tH tY tZ tD tT tM) (e : mQ t' = mQ tM) (hl : tT'.length = tT.length) : Inv tH tY tZ tD tT' t' := by
  obtain ⟨h1, ⟨h, h2, h3, h4⟩, ⟨m, d, h5, h6⟩, h7, h8⟩ := hI
  exact ⟨hl.trans h1, ⟨h, h2, h3, mQ_H e h4⟩, ⟨m, d, h5, mDp_D (mQ_D e) h6⟩, mIp_I (mQ_I e) h7, mIp_I (mQ_I e) h8⟩
def cdJ : Nat → Int32
  | 0 => -1
  | j + 1 => nI j
theorem cdJ_m1 (j : Nat) : nI j + (-1) = cdJ j := by
  cases j with
  | zero => decide
  | succ j => exact pk_m1 j
def Mono (n : Nat) (f : Nat → Nat) : Prop := (∀ a b, a < n → b < n → (f a ≤ f b ↔ a ≤ b)) ∧ ∀ a, a < n → f a < 8
def RowR (n : Nat) (f R : Nat → Nat) (Y : Nat → Int32) : Prop := (∀ i, i < n → Y i = nI (f (R i))) ∧ ∀ i, i < n → R i < n
theorem row_le {n : Nat} {f R : Nat → Nat} {Y : Nat → Int32} (hf : Mono n f) (hR : RowR n f R Y) {a b : Nat} (ha : a < n) (hb : b < n) : (Y a ≤ Y b) = (R a ≤ R b) := by
  have h1 := hf.2 _ (hR.2 a ha)
  have h2 := hf.2 _ (hR.2 b hb)
  rw [hR.1 a ha, hR.1 b hb, n_le (by omega) (by omega)]
  exact propext (hf.1 _ _ (hR.2 a ha) (hR.2 b hb))
theorem lp_nr4 {n : Nat} {f R : Nat → Nat} {Y : Nat → Int32} (hn : n ≤ 6) (hf : Mono n f) (hR : RowR n f R Y) (kL : Int32 → Option (Int32 × ModS)) : ∀ (j fuel : Nat), j < n → j < fuel → f_X6_nextRow_L4 Y fuel (cdJ j) kL = kL (cdL (kF R j)) := by
  intro j
  induction j with
  | zero =>
    intro fuel h1 h3
    obtain ⟨fuel, rfl⟩ : ∃ n, fuel = n + 1 := ⟨fuel - 1, by omega⟩
    rw [f_X6_nextRow_L4, if_pos (show cdJ 0 < 0 by decide)]
    rfl
  | succ j ih =>
    intro fuel h1 h3
    obtain ⟨fuel, rfl⟩ : ∃ n, fuel = n + 1 := ⟨fuel - 1, by omega⟩
    rw [f_X6_nextRow_L4]
    have hc : cdJ (j + 1) = nI j := rfl
    rw [hc]
    simp (disch := omega) only [n_lt0, n_cl, n_add, false_or, c_leF, if_false, row_le hf hR (show j < n by omega) (show j + 1 < n by omega)]
    have hk : kF R (j + 1) = bif Nat.ble (R j) (R (j + 1)) then some j else kF R j := rfl
    rw [hk]
    by_cases e : R j ≤ R (j + 1)
    · rw [if_pos e, Nat.ble_eq_true_of_le e]
      rfl
    · have e2 : Nat.ble (R j) (R (j + 1)) = false := by
        cases h : Nat.ble (R j) (R (j + 1)) with
        | true => exact absurd (Nat.le_of_ble_eq_true h) e
        | false => rfl
      rw [if_neg e, e2, cdJ_m1]
      exact ih fuel (by omega) (by omega)
theorem kF_spec {R : Nat → Nat} : ∀ (j k : Nat), kF R j = some k → k + 1 ≤ j ∧ R k ≤ R (k + 1)
  | 0, k, h => by cases h
  | j + 1, k, h => by
    have hk : kF R (j + 1) = bif Nat.ble (R j) (R (j + 1)) then some j else kF R j := rfl
    rw [hk] at h
    cases hb : Nat.ble (R j) (R (j + 1)) with
    | true =>
      rw [hb] at h
      cases h
      exact ⟨Nat.le_refl _, Nat.le_of_ble_eq_true hb⟩
    | false =>
      rw [hb] at h
      have := kF_spec j k h
      exact ⟨by omega, this.2⟩
theorem lp_nr41 {n : Nat} {f R : Nat → Nat} {Y : Nat → Int32} (hn : n ≤ 6) (hf : Mono n f) (hR : RowR n f R Y) {k : Nat} (hk : R k ≤ R (k + 1)) (kL : Int32 → Option (Int32 × ModS)) : ∀ (j fuel : Nat), k + 1 ≤ j → j < n → j < fuel → f_X6_nextRow_L41 (nI k) Y fuel (nI j) kL = kL (nI (jF R k j)) ∧ k + 1 ≤ jF R k j ∧ jF R k j ≤ j := by
  intro j
  induction j with
  | zero => intro fuel h0 h1 h3; omega
  | succ j ih =>
    intro fuel h0 h1 h3
    obtain ⟨fuel, rfl⟩ : ∃ n, fuel = n + 1 := ⟨fuel - 1, by omega⟩
    rw [f_X6_nextRow_L41]
    simp (disch := omega) only [n_lt0, n_cl, false_or, c_leF, if_false, row_le hf hR (show k < n by omega) (show j + 1 < n by omega)]
    have hjj : jF R k (j + 1) = bif Nat.ble (R k) (R (j + 1)) then j + 1 else jF R k j := rfl
    rw [hjj]
    by_cases e : R k ≤ R (j + 1)
    · rw [if_pos e, Nat.ble_eq_true_of_le e]
      exact ⟨rfl, h0, Nat.le_refl _⟩
    · have e2 : Nat.ble (R k) (R (j + 1)) = false := by
        cases h : Nat.ble (R k) (R (j + 1)) with
        | true => exact absurd (Nat.le_of_ble_eq_true h) e
        | false => rfl
      have hne : k ≠ j := fun z => e (by rw [← z]; exact hk)
      rw [if_neg e, e2, pk_m1]
      obtain ⟨g1, g2, g3⟩ := ih fuel (by omega) (by omega) (by omega)
      exact ⟨g1, g2, by simp only [cond_false]; omega⟩
theorem row_sw {n : Nat} {f R : Nat → Nat} {Y : Nat → Int32} (hR : RowR n f R Y) {i j : Nat} (hi : i < n) (hj : j < n) : RowR n f (swF R i j) (upd (upd Y i (Y j)) j (Y i)) := by
  have h1 := hR.1
  have h2 := hR.2
  constructor
  · intro x hx
    simp only [upd, swF]
    by_cases e : x = j
    · have e2 : Nat.beq x j = true := (by rw [e]; exact Nat.beq_refl j)
      rw [if_pos e, e2]
      exact h1 i hi
    · have e2 : Nat.beq x j = false := by
        cases h : Nat.beq x j with
        | true => exact absurd (Nat.eq_of_beq_eq_true h) e
        | false => rfl
      rw [if_neg e, e2]
      by_cases e3 : x = i
      · have e4 : Nat.beq x i = true := (by rw [e3]; exact Nat.beq_refl i)
        rw [if_pos e3, e4]
        exact h1 j hj
      · have e4 : Nat.beq x i = false := by
          cases h : Nat.beq x i with
          | true => exact absurd (Nat.eq_of_beq_eq_true h) e3
          | false => rfl
        rw [if_neg e3, e4]
        exact h1 x hx
  · intro x hx
    simp only [swF]
    cases Nat.beq x j with
    | true => exact h2 i hi
    | false =>
      cases Nat.beq x i with
      | true => exact h2 j hj
      | false => exact h2 x hx
theorem lp_nr78 {n : Nat} {f : Nat → Nat} (hn : n ≤ 6) : ∀ (fu lo hi fuel : Nat) (R : Nat → Nat) {M_beds M_law M_sights M_signs M_empty M_waits M_fleasOfGuests M_fleasOfBeds M_reason : Int32} {M_worths M_sight M_pad M_lies M_list M_yard M_last M_used M_sheets M_nights M_row M_bestRow M_image M_isKept : Nat → Int32}, hi ≤ lo + 2 * fu → hi < n → lo ≤ 8 → fu < fuel → RowR n f R M_row → ∃ t', f_X6_nextRow_L78 fuel (nI lo) (nI hi) M_beds M_law M_worths M_sights M_sight M_signs M_pad M_lies M_empty M_list M_waits M_yard M_last M_used M_sheets M_nights M_fleasOfGuests M_fleasOfBeds M_reason M_row M_bestRow M_image M_isKept (fun x4_L78 x5_L78 M_beds M_law M_worths M_sights M_sight M_signs M_pad M_lies M_empty M_list M_waits M_yard M_last M_used M_sheets M_nights M_fleasOfGuests M_fleasOfBeds M_reason M_row M_bestRow M_image M_isKept => some ((nI 1), (M_beds, M_law, M_worths, M_sights, M_sight, M_signs, M_pad, M_lies, M_empty, M_list, M_waits, M_yard, M_last, M_used, M_sheets, M_nights, M_fleasOfGuests, M_fleasOfBeds, M_reason, M_row, M_bestRow, M_image, M_isKept))) = some (nI 1, t') ∧ mQ t' = mQ (M_beds, M_law, M_worths, M_sights, M_sight, M_signs, M_pad, M_lies, M_empty, M_list, M_waits, M_yard, M_last, M_used, M_sheets, M_nights, M_fleasOfGuests, M_fleasOfBeds, M_reason, M_row, M_bestRow, M_image, M_isKept) ∧ mBst t' = M_bestRow ∧ RowR n f (rvF fu lo hi R) (mRow t') := by
  intro fu
  induction fu with
  | zero =>
    intro lo hi fuel R M_beds M_law M_sights M_signs M_empty M_waits M_fleasOfGuests M_fleasOfBeds M_reason M_worths M_sight M_pad M_lies M_list M_yard M_last M_used M_sheets M_nights M_row M_bestRow M_image M_isKept h1 h2 h4 h3 hR
    obtain ⟨fuel, rfl⟩ : ∃ n, fuel = n + 1 := ⟨fuel - 1, by omega⟩
    rw [f_X6_nextRow_L78, if_pos (by rw [n_le (by omega) (by omega)]; omega)]
    exact ⟨_, rfl, by simp only [mQ], by simp only [mBst], hR⟩
  | succ fu ih =>
    intro lo hi fuel R M_beds M_law M_sights M_signs M_empty M_waits M_fleasOfGuests M_fleasOfBeds M_reason M_worths M_sight M_pad M_lies M_list M_yard M_last M_used M_sheets M_nights M_row M_bestRow M_image M_isKept h1 h2 h4 h3 hR
    obtain ⟨fuel, rfl⟩ : ∃ n, fuel = n + 1 := ⟨fuel - 1, by omega⟩
    have hr : rvF (fu + 1) lo hi R = bif Nat.ble hi lo then R else rvF fu (lo + 1) (hi - 1) (swF R lo hi) := rfl
    rw [f_X6_nextRow_L78, hr]
    by_cases e : hi ≤ lo
    · rw [if_pos (by rw [n_le (by omega) (by omega)]; exact e), Nat.ble_eq_true_of_le e]
      exact ⟨_, rfl, by simp only [mQ], by simp only [mBst], hR⟩
    · have e2 : Nat.ble hi lo = false := by
        cases h : Nat.ble hi lo with
        | true => exact absurd (Nat.le_of_ble_eq_true h) e
        | false => rfl
      rw [if_neg (by rw [n_le (by omega) (by omega)]; exact e), e2, f_X6_change]
      obtain ⟨hi, rfl⟩ : ∃ z, hi = z + 1 := ⟨hi - 1, by omega⟩
      simp (disch := omega) only [n_lt0, n_cl, false_or, c_leF, if_false, Option.bind_some, n_add, pk_m1, cond_false, Nat.add_sub_cancel]
      obtain ⟨t', g1, g2, g3, g4⟩ := ih (lo + 1) hi fuel (swF R lo (hi + 1)) (by omega) (by omega) (by omega) (by omega) (row_sw hR (by omega) h2)
      exact ⟨t', g1, g2.trans (by simp only [mQ]), g3, g4⟩
theorem m_nextRow {n : Nat} {f R : Nat → Nat} (hn : n ≤ 6) (hn1 : 1 ≤ n) (hf : Mono n f) {t : ModS} (hR : RowR n f R (mRow t)) : (nextF n R = none ∧ f_X6_nextRow (nI n) t = some (nI 0, t)) ∨ ∃ R' t', nextF n R = some R' ∧ f_X6_nextRow (nI n) t = some (nI 1, t') ∧ mQ t' = mQ t ∧ mBst t' = mBst t ∧ RowR n f R' (mRow t') := by
  obtain ⟨M_beds, M_law, M_worths, M_sights, M_sight, M_signs, M_pad, M_lies, M_empty, M_list, M_waits, M_yard, M_last, M_used, M_sheets, M_nights, M_fleasOfGuests, M_fleasOfBeds, M_reason, M_row, M_bestRow, M_image, M_isKept⟩ := t
  have hR' : RowR n f R M_row := hR
  rw [f_X6_nextRow]
  obtain ⟨F, hF⟩ : ∃ F, FU = F := ⟨_, rfl⟩
  have hF2 : 20 < F := by rw [← hF, FU_eq]; omega
  rw [hF]
  have hx : nI n - nI 2 = cdJ (n - 1) := by
    rcases (show n = 1 ∨ 2 ≤ n by omega) with rfl | h
    · decide
    · obtain ⟨z, rfl⟩ : ∃ z, n = z + 2 := ⟨n - 2, by omega⟩
      rw [n_sub (by omega)]
      rfl
  rw [hx, lp_nr4 hn hf hR' _ (n - 1) F (by omega) (by omega)]
  unfold nextF
  cases hk : kF R (n - 1) with
  | none =>
    left
    refine ⟨rfl, ?_⟩
    rw [if_neg (show ¬ 0 ≤ cdL none by decide)]
  | some k =>
    right
    obtain ⟨h1, h2⟩ := kF_spec (n - 1) k hk
    have e1 := fun kL => lp_nr41 hn hf hR' h2 kL (n - 1) F (by omega) (by omega) (by omega)
    rw [if_pos (show 0 ≤ cdL (some k) by show 0 ≤ nI k; rw [n_ge0 (by omega)]; trivial), n_sub (by omega)]
    simp only [cdL]
    obtain ⟨-, e2, e3⟩ := e1 (fun _ => none)
    rw [(e1 _).1]
    generalize jF R k (n - 1) = j at e2 e3 ⊢
    rw [f_X6_change]
    simp (disch := omega) only [n_lt0, n_cl, false_or, c_leF, if_false, Option.bind_some, n_add]
    obtain ⟨t', g1, g2, g3, g4⟩ := lp_nr78 hn (f := f) 8 (k + 1) (n - 1) F (swF R k j) (M_beds := M_beds) (M_law := M_law) (M_sights := M_sights) (M_signs := M_signs) (M_empty := M_empty) (M_waits := M_waits) (M_fleasOfGuests := M_fleasOfGuests) (M_fleasOfBeds := M_fleasOfBeds) (M_reason := M_reason) (M_worths := M_worths) (M_sight := M_sight) (M_pad := M_pad) (M_lies := M_lies) (M_list := M_list) (M_yard := M_yard) (M_last := M_last) (M_used := M_used) (M_sheets := M_sheets) (M_nights := M_nights) (M_row := upd (upd M_row k (M_row j)) j (M_row k)) (M_bestRow := M_bestRow) (M_image := M_image) (M_isKept := M_isKept) (by omega) (by omega) (by omega) (by omega) (row_sw hR' (by omega) (by omega))
    refine ⟨_, t', rfl, g1, g2.trans ?_, g3, g4⟩
    simp only [mQ]
