/-! filled, could: the calls -/
theorem in_neg (x : Int32) : f_X6_in x (nI 0) (-1) = some (nI 0) := by
  rw [f_X6_in]
  by_cases h : x < nI 0
  · rw [if_pos h]
  · rw [if_neg h]
    have h1 : nI 0 ≤ x := Int32.not_lt.mp h
    rw [if_pos (Int32.lt_of_lt_of_le (show (-1 : Int32) < nI 0 by decide) h1)]
theorem idx_c {u : Nat} (hu : u ≤ 3) (x : Int32) : (f_X6_in x (nI 0) (nI u - nI 1) = some (nI 0) ∧ ∀ q1 q3 q4 q5, f_X1_isUntold x (q1, nI u, q3, q4, q5) = some (nI 0)) ∨ ∃ i, i < u ∧ x = nI i ∧ f_X6_in x (nI 0) (nI u - nI 1) = some (nI 1) ∧ ∀ q1 q3 q4 q5, f_X1_isUntold x (q1, nI u, q3, q4, q5) = some (nI 1) := by
  rcases Nat.eq_zero_or_pos u with h0 | h0
  · subst h0
    left
    refine ⟨in_neg x, fun q1 q3 q4 q5 => ?_⟩
    rw [f_X1_isUntold]
    by_cases h : x < 0
    · rw [if_pos h]
    · rw [if_neg h, if_pos (show nI 0 ≤ x from Int32.not_lt.mp h)]
  · rw [n_sub (by omega)]
    rcases in_c x (a := 0) (b := u - 1) (by omega) (by omega) with ⟨h1, h2⟩ | ⟨i, h1, h2, rfl, h3⟩
    · left
      refine ⟨h1, fun q1 q3 q4 q5 => ?_⟩
      rw [f_X1_isUntold]
      rcases h2 with h2 | h2
      · rw [if_pos (show x < 0 from h2)]
      · by_cases h : x < 0
        · rw [if_pos h]
        · have h4 := gt_ge (by omega) h2
          rw [show u - 1 + 1 = u by omega] at h4
          rw [if_neg h, if_pos (Int32.not_lt.mp h4)]
    · right
      refine ⟨i, by omega, rfl, h3, fun q1 q3 q4 q5 => ?_⟩
      rw [f_X1_isUntold]
      simp (disch := omega) only [n_lt, n_le, n_eq, n_lt0, n_ge0, n_eq0, n_gt0, n_le0, n_cl, n_add, n_sub, n_mul, n_m1, n_m6, m1_lt, m6_lt, m1_ge, m6_ge, m1_eq, m6_eq0, m1_eq0, c_leT, c_leF, c_ltT, c_ltF, c_eqF, false_or, or_false, or_self, if_true, if_false, ite_true, ite_false, Option.bind_some, not_true_eq_false, not_false_eq_true, reduceIte]
theorem op_filled (tB : WbS) (tP : ParS) (tQ : GueS) (tI : InnS) {tH tY tZ : HouS} {tD : DayS} {tT : List InnS} {tM : ModS} (hI : Inv tH tY tZ tD tT tM) (x1 : Int32) : ∃ (r : Int32) (wQ : GueS) (wI : InnS) (wT : (List InnS)) (wM : ModS), f_X5_filled x1 tB tH tD tQ tI tT = some (r, wQ, wI, wT) ∧ f_X6_filled x1 tM = some (r, wM) ∧ Inv tH tY tZ tD wT wM := by
  obtain ⟨hl, n, k, q, w, sg, sb, m, d, ⟨hn2, hn, hk, hq, hw, hsg, hsb⟩, hH, hM, hD, hDM, hm, hd⟩ := inv_use hI
  have e1 := f_firstFault hD
  have e2 := m_faultOf hDM hm hd
  have hfk := fun (h1 : fA d m 0 0 = none) => fA_none (d := d) m 0 h1 (by simp only [cntQ]; omega)
  have hse := fun hu => f_search hw hn hk hq hsg hsb (d := d) (m := m) hu hH hD tQ tI hl
  have h19 : 1999 < FU := by rw [FU_eq]; omega
  have hlo := fun (hf : fA d m 0 0 = none) (hu : cntQ d m ≤ 3) => gFl_loop hw hk hn hq hsg hsb hd hm hf hu x1 (8 ^ cntQ d m) 0 FU (0, none, fun _ => 0) tM (by omega) (by
    have h8 : 8 ^ cntQ d m ≤ 8 ^ 3 := Nat.pow_le_pow_right (by omega) hu
    omega) ⟨⟨fun _ => rfl, fun _ => rfl⟩, fun c hc => by cases hc⟩ (Nat.le_refl 0) hM hDM
  by_cases hf : fA d m 0 0 = none
  · have hu := (hfk hf).2
    rw [Nat.zero_add] at hu
    have h8 : 8 ^ cntQ d m ≤ 8 ^ 3 := Nat.pow_le_pow_right (by omega) hu
    obtain ⟨Q', I', T', s1, s2, s3⟩ := hse hu
    obtain ⟨t', g1, g2⟩ := hlo hf hu
    have hI2 := inv_keepT (tT' := T') hI g2 s2
    have hop := m_opens (mP_D g2 hDM) hd (ev := m) hm
    have hga := fun c i hc hi => m_guestAt (mP_D g2 hDM) hm hd hu (c := c) (i := i) hc hi
    have hD2 := mP_D g2 hDM
    have hK : ∀ (l : List Nat) (st : KpS), KIv st → (∀ c, c ∈ l → c < 1000) → KIv (l.foldl (kpA (fitB n k q w sg sb d m (cntQ d m)) (cntQ d m)) st) := by
      intro l
      induction l with
      | nil => intro st h _; exact h
      | cons c l ih =>
        intro st h hc
        simp only [List.foldl_cons]
        exact ih _ (kiv_step h (hc c (by simp))) (fun x hx => hc x (by simp [hx]))
    have hK2 := hK (List.range' 0 (8 ^ cntQ d m)) (0, none, fun _ => 0) ⟨⟨fun _ => rfl, fun _ => rfl⟩, fun c hc => by cases hc⟩ (fun c hc => by
      have := List.mem_range'_1.mp hc
      omega)
    have hle := kp_le (fit := fitB n k q w sg sb d m (cntQ d m)) (u := cntQ d m) (List.range' 0 (8 ^ cntQ d m)) (0, none, fun _ => 0)
    rw [List.length_range'] at hle
    simp only [] at g1
    generalize (List.range' 0 (8 ^ cntQ d m)).foldl (kpA (fitB n k q w sg sb d m (cntQ d m)) (cntQ d m)) (0, none, fun _ => 0) = st at *
    obtain ⟨H_beds, H_law, H_sights, H_isKept, H_worths, H_sightGuests, H_sightBeds⟩ := tH
    obtain ⟨len, S⟩ := tD
    obtain ⟨M_beds, M_law, M_worths, M_sights, M_sight, M_signs, M_pad, M_lies, M_empty, M_list, M_waits, M_yard, M_last, M_used, M_sheets, M_nights, M_fleasOfGuests, M_fleasOfBeds, M_reason, M_row, M_bestRow, M_image, M_isKept⟩ := tM
    obtain ⟨I_law, I_there, I_sleepers, I_empty, I_empties, I_yard, I_waiting, I_nights, I_used, I_sheets, I_lastOnes, I_guestsWithFleas, I_bedsWithFleas, I_isCounting⟩ := tI
    obtain ⟨q1, q2, q3, q4, q5⟩ := tQ
    obtain ⟨z1, z2, z3, z4, z5⟩ := Q'
    obtain ⟨u1, u2, u3, u4, u5, u6, u7, u8, u9, u10, u11, u12, u13, u14⟩ := I'
    obtain ⟨L_beds, L_law, L_worths, L_sights, L_sight, L_signs, L_pad, L_lies, L_empty, L_list, L_waits, L_yard, L_last, L_used, L_sheets, L_nights, L_fleasOfGuests, L_fleasOfBeds, L_reason, L_row, L_bestRow, L_image, L_isKept⟩ := t'
    obtain rfl : L_signs = nI m := hD2.1
    obtain ⟨a1, rfl, a3, a4, a5⟩ := s3
    rw [gFl_def] at g1
    rw [f_X5_filled, f_X6_filled, e1, e2, Option.bind_some, Option.bind_some, if_pos (by rw [fa_m6 hm]; exact hf), if_pos (by rw [fa_lt0 hm]; exact hf), s1, Option.bind_some]
    have g1' : f_X6_filled_L18 FU (nI 0) (-6) (nI 0) M_beds M_law M_worths M_sights M_sight M_signs M_pad M_lies M_empty M_list M_waits M_yard M_last M_used M_sheets M_nights M_fleasOfGuests M_fleasOfBeds M_reason M_row M_bestRow M_image M_isKept (fun x2_L18 x3_L18 x4_L18 M_beds M_law M_worths M_sights M_sight M_signs M_pad M_lies M_empty M_list M_waits M_yard M_last M_used M_sheets M_nights M_fleasOfGuests M_fleasOfBeds M_reason M_row M_bestRow M_image M_isKept => (if x1 = (-1 : Int32) then some (x2_L18, (M_beds, M_law, M_worths, M_sights, M_sight, M_signs, M_pad, M_lies, M_empty, M_list, M_waits, M_yard, M_last, M_used, M_sheets, M_nights, M_fleasOfGuests, M_fleasOfBeds, M_reason, M_row, M_bestRow, M_image, M_isKept)) else (if x3_L18 < 0 then some ((-6 : Int32), (M_beds, M_law, M_worths, M_sights, M_sight, M_signs, M_pad, M_lies, M_empty, M_list, M_waits, M_yard, M_last, M_used, M_sheets, M_nights, M_fleasOfGuests, M_fleasOfBeds, M_reason, M_row, M_bestRow, M_image, M_isKept)) else (Option.bind (f_X6_opens M_signs (M_beds, M_law, M_worths, M_sights, M_sight, M_signs, M_pad, M_lies, M_empty, M_list, M_waits, M_yard, M_last, M_used, M_sheets, M_nights, M_fleasOfGuests, M_fleasOfBeds, M_reason, M_row, M_bestRow, M_image, M_isKept)) (fun r_74 => (Option.bind (f_X6_in x1 (nI 0) (r_74 - (nI 1))) (fun r_79 => (if r_79 = 0 then some ((-6 : Int32), (M_beds, M_law, M_worths, M_sights, M_sight, M_signs, M_pad, M_lies, M_empty, M_list, M_waits, M_yard, M_last, M_used, M_sheets, M_nights, M_fleasOfGuests, M_fleasOfBeds, M_reason, M_row, M_bestRow, M_image, M_isKept)) else (Option.bind (f_X6_guestAt x3_L18 x1 (M_beds, M_law, M_worths, M_sights, M_sight, M_signs, M_pad, M_lies, M_empty, M_list, M_waits, M_yard, M_last, M_used, M_sheets, M_nights, M_fleasOfGuests, M_fleasOfBeds, M_reason, M_row, M_bestRow, M_image, M_isKept)) (fun r_88 => some (r_88, (M_beds, M_law, M_worths, M_sights, M_sight, M_signs, M_pad, M_lies, M_empty, M_list, M_waits, M_yard, M_last, M_used, M_sheets, M_nights, M_fleasOfGuests, M_fleasOfBeds, M_reason, M_row, M_bestRow, M_image, M_isKept)))))))))))) = _ := g1
    rw [g1']
    dsimp only
    rw [if_pos s2]
    simp only [gFin]
    by_cases hx : x1 = -1
    · rw [if_pos hx, if_pos hx, a1]
      exact ⟨_, _, _, _, _, rfl, rfl, hI2⟩
    · rw [if_neg hx, if_neg hx, f_X1_firstAt, hop, Option.bind_some]
      rcases idx_c hu x1 with ⟨b1, b2⟩ | ⟨i, hi, rfl, b1, b2⟩
      · rw [b1, b2, Option.bind_some, Option.bind_some, if_pos (show nI 0 = 0 from rfl), if_pos (show nI 0 = 0 from rfl)]
        by_cases hneg : cdP st.2.1 < 0
        · rw [if_pos hneg]
          exact ⟨_, _, _, _, _, rfl, rfl, hI2⟩
        · rw [if_neg hneg]
          exact ⟨_, _, _, _, _, rfl, rfl, hI2⟩
      · rw [b1, b2, Option.bind_some, Option.bind_some, if_neg (show ¬ nI 1 = 0 by decide), if_neg (show ¬ nI 1 = 0 by decide)]
        by_cases h0 : st.1 = 0
        · have h01 := hK2.1.mp h0
          rw [if_pos (show z1 ≤ 0 by rw [a1, h0]; decide), if_pos (show cdP st.2.1 < 0 by rw [h01]; decide)]
          exact ⟨_, _, _, _, _, rfl, rfl, hI2⟩
        · obtain ⟨c, hc1, hc2⟩ := a3 h0
          have hc3 := hK2.2 c hc1
          have hcd : cdP st.2.1 = nI c := by rw [hc1]; rfl
          have hnb : ¬ (nI i < 0 ∨ 3 ≤ (nI i).toNatClampNeg) := by
            rw [n_lt0 (by omega), n_cl (by omega)]
            rintro (h | h)
            · exact h
            · omega
          rw [hcd, if_neg (show ¬ z1 ≤ 0 by rw [a1, n_le0 (by omega)]; exact h0), if_neg (show ¬ nI c < 0 by rw [n_lt0 (by omega)]; exact id), if_neg hnb, n_cl (by omega), hc2 i hi, hga c i (by omega) hi]
          exact ⟨_, _, _, _, _, rfl, rfl, hI2⟩
  · obtain ⟨H_beds, H_law, H_sights, H_isKept, H_worths, H_sightGuests, H_sightBeds⟩ := tH
    obtain ⟨len, S⟩ := tD
    obtain ⟨M_beds, M_law, M_worths, M_sights, M_sight, M_signs, M_pad, M_lies, M_empty, M_list, M_waits, M_yard, M_last, M_used, M_sheets, M_nights, M_fleasOfGuests, M_fleasOfBeds, M_reason, M_row, M_bestRow, M_image, M_isKept⟩ := tM
    obtain ⟨I_law, I_there, I_sleepers, I_empty, I_empties, I_yard, I_waiting, I_nights, I_used, I_sheets, I_lastOnes, I_guestsWithFleas, I_bedsWithFleas, I_isCounting⟩ := tI
    obtain ⟨q1, q2, q3, q4, q5⟩ := tQ
    rw [f_X5_filled, f_X6_filled, e1, e2, Option.bind_some, Option.bind_some, if_neg (by rw [fa_m6 hm]; exact hf), if_neg (by rw [fa_lt0 hm]; exact hf)]
    exact ⟨_, _, _, _, _, rfl, rfl, hI⟩
def gCo (x1 : Int32) (fuel : Nat) (x2 x3 : Int32) : ModS → Option (Int32 × ModS)
  | (M_beds, M_law, M_worths, M_sights, M_sight, M_signs, M_pad, M_lies, M_empty, M_list, M_waits, M_yard, M_last, M_used, M_sheets, M_nights, M_fleasOfGuests, M_fleasOfBeds, M_reason, M_row, M_bestRow, M_image, M_isKept) => f_X6_could_L35 x1 fuel x2 x3 M_beds M_law M_worths M_sights M_sight M_signs M_pad M_lies M_empty M_list M_waits M_yard M_last M_used M_sheets M_nights M_fleasOfGuests M_fleasOfBeds M_reason M_row M_bestRow M_image M_isKept (fun x2_L35 x3_L35 M_beds M_law M_worths M_sights M_sight M_signs M_pad M_lies M_empty M_list M_waits M_yard M_last M_used M_sheets M_nights M_fleasOfGuests M_fleasOfBeds M_reason M_row M_bestRow M_image M_isKept => some (x2_L35, (M_beds, M_law, M_worths, M_sights, M_sight, M_signs, M_pad, M_lies, M_empty, M_list, M_waits, M_yard, M_last, M_used, M_sheets, M_nights, M_fleasOfGuests, M_fleasOfBeds, M_reason, M_row, M_bestRow, M_image, M_isKept)))
theorem gCo_def (x1 : Int32) (fuel : Nat) (x2 x3 : Int32) {M_beds M_law M_sights M_signs M_empty M_waits M_fleasOfGuests M_fleasOfBeds M_reason : Int32} {M_worths M_sight M_pad M_lies M_list M_yard M_last M_used M_sheets M_nights M_row M_bestRow M_image M_isKept : Nat → Int32} : gCo x1 fuel x2 x3 (M_beds, M_law, M_worths, M_sights, M_sight, M_signs, M_pad, M_lies, M_empty, M_list, M_waits, M_yard, M_last, M_used, M_sheets, M_nights, M_fleasOfGuests, M_fleasOfBeds, M_reason, M_row, M_bestRow, M_image, M_isKept) = f_X6_could_L35 x1 fuel x2 x3 M_beds M_law M_worths M_sights M_sight M_signs M_pad M_lies M_empty M_list M_waits M_yard M_last M_used M_sheets M_nights M_fleasOfGuests M_fleasOfBeds M_reason M_row M_bestRow M_image M_isKept (fun x2_L35 x3_L35 M_beds M_law M_worths M_sights M_sight M_signs M_pad M_lies M_empty M_list M_waits M_yard M_last M_used M_sheets M_nights M_fleasOfGuests M_fleasOfBeds M_reason M_row M_bestRow M_image M_isKept => some (x2_L35, (M_beds, M_law, M_worths, M_sights, M_sight, M_signs, M_pad, M_lies, M_empty, M_list, M_waits, M_yard, M_last, M_used, M_sheets, M_nights, M_fleasOfGuests, M_fleasOfBeds, M_reason, M_row, M_bestRow, M_image, M_isKept))) := rfl
theorem gCo_loop {n k q : Nat} {w sg sb : Nat → Nat} (hw : ∀ j, w j ≤ 99) (hk : k < 4) (hn : n ≤ 8) (hq : q ≤ 6) (hsg : ∀ j, sg j < 8) (hsb : ∀ j, sb j < 8) {m : Nat} {d : Nat → Nat} (hd : ∀ j, j < 48 → d j < 127) (hm : m ≤ 48) (hf : fA d m 0 0 = none) (hu : cntQ d m ≤ 3) {i : Nat} (hi : i < cntQ d m) : ∀ (len j fuel : Nat) (st : KpS) (t : ModS), j + len = 8 ^ cntQ d m → len < fuel → st.2.2 i < 256 → ModHR t (n, k, q, w, sg, sb) → ModDR t m d → ∃ t', gCo (nI i) fuel (nI (st.2.2 i)) (nI j) t = some (nI (((List.range' j len).foldl (kpA (fitB n k q w sg sb d m (cntQ d m)) (cntQ d m)) st).2.2 i), t') ∧ mP t' = mP t := by
  have h8 : 8 ^ cntQ d m ≤ 8 ^ 3 := Nat.pow_le_pow_right (by omega) hu
  intro len
  induction len with
  | zero =>
    intro j fuel st t h1 h3 hst hM hD
    obtain ⟨fuel, rfl⟩ : ∃ n, fuel = n + 1 := ⟨fuel - 1, by omega⟩
    have hco := m_codes hD hm hd hu
    refine ⟨t, ?_, rfl⟩
    obtain ⟨M_beds, M_law, M_worths, M_sights, M_sight, M_signs, M_pad, M_lies, M_empty, M_list, M_waits, M_yard, M_last, M_used, M_sheets, M_nights, M_fleasOfGuests, M_fleasOfBeds, M_reason, M_row, M_bestRow, M_image, M_isKept⟩ := t
    rw [gCo_def, f_X6_could_L35, hco, Option.bind_some, if_pos (by rw [n_le (by omega) (by omega)]; omega)]
    rfl
  | succ len ih =>
    intro j fuel st t h1 h3 hst hM hD
    obtain ⟨fuel, rfl⟩ : ∃ n, fuel = n + 1 := ⟨fuel - 1, by omega⟩
    have hco := m_codes hD hm hd hu
    obtain ⟨t1, e1, e2⟩ := m_isFit hw hk hn hq hsg hsb hd hm hf (c := j) (by omega) hM hD
    have hga := m_guestAt (mP_D e2 hD) hm hd hu (c := j) (i := i) (by omega) hi
    have hdl := dig_lt (cntQ d m) j i
    have hor := b_or _ hst _ hdl
    have hst1 : (kpA (fitB n k q w sg sb d m (cntQ d m)) (cntQ d m) st j).2.2 i < 256 := by
      unfold kpA
      split
      · exact hor.2
      · exact hst
    obtain ⟨t', g1, g2⟩ := ih (j + 1) fuel _ t1 (by omega) (by omega) hst1 (mP_H e2 hM) (mP_D e2 hD)
    refine ⟨t', ?_, g2.trans e2⟩
    rw [show List.range' j (len + 1) = j :: List.range' (j + 1) len from rfl, List.foldl_cons, ← g1]
    obtain ⟨M_beds, M_law, M_worths, M_sights, M_sight, M_signs, M_pad, M_lies, M_empty, M_list, M_waits, M_yard, M_last, M_used, M_sheets, M_nights, M_fleasOfGuests, M_fleasOfBeds, M_reason, M_row, M_bestRow, M_image, M_isKept⟩ := t
    obtain ⟨L_beds, L_law, L_worths, L_sights, L_sight, L_signs, L_pad, L_lies, L_empty, L_list, L_waits, L_yard, L_last, L_used, L_sheets, L_nights, L_fleasOfGuests, L_fleasOfBeds, L_reason, L_row, L_bestRow, L_image, L_isKept⟩ := t1
    rw [gCo_def, gCo_def, f_X6_could_L35, hco, Option.bind_some, if_neg (by rw [n_le (by omega) (by omega)]; omega), e1, Option.bind_some]
    dsimp only
    unfold kpA
    by_cases hfit : fitB n k q w sg sb d m (cntQ d m) j = true
    · rw [if_pos hfit, if_neg (show ¬ nI 1 = 0 by decide), if_pos hfit, hga, Option.bind_some, b_sh _ hdl, hor.1, n_add]
    · rw [if_neg hfit, if_pos (show nI 0 = 0 from rfl), if_neg hfit, i_or0, n_add]
theorem op_could (tB : WbS) (tP : ParS) (tQ : GueS) (tI : InnS) {tH tY tZ : HouS} {tD : DayS} {tT : List InnS} {tM : ModS} (hI : Inv tH tY tZ tD tT tM) (x1 : Int32) : ∃ (r : Int32) (wQ : GueS) (wI : InnS) (wT : (List InnS)) (wM : ModS), f_X5_could x1 tB tH tD tQ tI tT = some (r, wQ, wI, wT) ∧ f_X6_could x1 tM = some (r, wM) ∧ Inv tH tY tZ tD wT wM := by
  obtain ⟨hl, n, k, q, w, sg, sb, m, d, ⟨hn2, hn, hk, hq, hw, hsg, hsb⟩, hH, hM, hD, hDM, hm, hd⟩ := inv_use hI
  have e1 := f_firstFault hD
  have e2 := m_faultOf hDM hm hd
  have hfk := fun (h1 : fA d m 0 0 = none) => fA_none (d := d) m 0 h1 (by simp only [cntQ]; omega)
  have hse := fun hu => f_search hw hn hk hq hsg hsb (d := d) (m := m) hu hH hD tQ tI hl
  have h19 : 1999 < FU := by rw [FU_eq]; omega
  have hlo := fun (hf : fA d m 0 0 = none) (hu : cntQ d m ≤ 3) i hi => gCo_loop hw hk hn hq hsg hsb hd hm hf hu (i := i) hi (8 ^ cntQ d m) 0 FU (0, none, fun _ => 0) tM (by omega) (by
    have h8 : 8 ^ cntQ d m ≤ 8 ^ 3 := Nat.pow_le_pow_right (by omega) hu
    omega) (show (0 : Nat) < 256 by omega) hM hDM
  by_cases hf : fA d m 0 0 = none
  · have hu := (hfk hf).2
    rw [Nat.zero_add] at hu
    obtain ⟨Q', I', T', s1, s2, s3⟩ := hse hu
    have hlo' := hlo hf hu
    have hop := m_opens hDM hd (ev := m) hm
    have hI0 : Inv tH tY tZ tD T' tM := inv_keepT hI rfl s2
    have hI2 : ∀ t', mP t' = mP tM → Inv tH tY tZ tD T' t' := fun t' g2 => inv_keepT hI g2 s2
    generalize (List.range' 0 (8 ^ cntQ d m)).foldl (kpA (fitB n k q w sg sb d m (cntQ d m)) (cntQ d m)) (0, none, fun _ => 0) = st at *
    obtain ⟨H_beds, H_law, H_sights, H_isKept, H_worths, H_sightGuests, H_sightBeds⟩ := tH
    obtain ⟨len, S⟩ := tD
    obtain ⟨M_beds, M_law, M_worths, M_sights, M_sight, M_signs, M_pad, M_lies, M_empty, M_list, M_waits, M_yard, M_last, M_used, M_sheets, M_nights, M_fleasOfGuests, M_fleasOfBeds, M_reason, M_row, M_bestRow, M_image, M_isKept⟩ := tM
    obtain ⟨I_law, I_there, I_sleepers, I_empty, I_empties, I_yard, I_waiting, I_nights, I_used, I_sheets, I_lastOnes, I_guestsWithFleas, I_bedsWithFleas, I_isCounting⟩ := tI
    obtain ⟨q1, q2, q3, q4, q5⟩ := tQ
    obtain ⟨z1, z2, z3, z4, z5⟩ := Q'
    obtain ⟨u1, u2, u3, u4, u5, u6, u7, u8, u9, u10, u11, u12, u13, u14⟩ := I'
    obtain rfl : M_signs = nI m := hDM.1
    obtain ⟨a1, rfl, a3, a4, a5⟩ := s3
    rw [f_X5_could, f_X6_could, e1, e2, Option.bind_some, Option.bind_some, if_pos (by rw [fa_m6 hm]; exact hf), if_pos (by rw [fa_lt0 hm]; exact hf), s1, Option.bind_some, hop, Option.bind_some]
    dsimp only
    rw [if_pos s2, f_X1_suspectsAt]
    rcases idx_c hu x1 with ⟨b1, b2⟩ | ⟨i, hi, rfl, b1, b2⟩
    · rw [b1, b2, Option.bind_some, Option.bind_some, if_pos (show nI 0 = 0 from rfl), if_pos (show nI 0 = 0 from rfl)]
      exact ⟨_, _, _, _, _, rfl, rfl, hI0⟩
    · obtain ⟨t', g1, g2⟩ := hlo' i hi
      rw [gCo_def] at g1
      have hnb : ¬ (nI i < 0 ∨ 3 ≤ (nI i).toNatClampNeg) := by
        rw [n_lt0 (by omega), n_cl (by omega)]
        rintro (h | h)
        · exact h
        · omega
      rw [b1, b2, Option.bind_some, Option.bind_some, if_neg (show ¬ nI 1 = 0 by decide), if_neg (show ¬ nI 1 = 0 by decide), if_neg hnb, n_cl (by omega), (a5 i hi).1]
      have g1' : f_X6_could_L35 (nI i) FU (nI 0) (nI 0) M_beds M_law M_worths M_sights M_sight (nI m) M_pad M_lies M_empty M_list M_waits M_yard M_last M_used M_sheets M_nights M_fleasOfGuests M_fleasOfBeds M_reason M_row M_bestRow M_image M_isKept (fun x2_L35 x3_L35 M_beds M_law M_worths M_sights M_sight M_signs M_pad M_lies M_empty M_list M_waits M_yard M_last M_used M_sheets M_nights M_fleasOfGuests M_fleasOfBeds M_reason M_row M_bestRow M_image M_isKept => some (x2_L35, (M_beds, M_law, M_worths, M_sights, M_sight, M_signs, M_pad, M_lies, M_empty, M_list, M_waits, M_yard, M_last, M_used, M_sheets, M_nights, M_fleasOfGuests, M_fleasOfBeds, M_reason, M_row, M_bestRow, M_image, M_isKept))) = _ := g1
      rw [g1']
      exact ⟨_, _, _, _, _, rfl, rfl, hI2 _ g2⟩
  · obtain ⟨H_beds, H_law, H_sights, H_isKept, H_worths, H_sightGuests, H_sightBeds⟩ := tH
    obtain ⟨len, S⟩ := tD
    obtain ⟨M_beds, M_law, M_worths, M_sights, M_sight, M_signs, M_pad, M_lies, M_empty, M_list, M_waits, M_yard, M_last, M_used, M_sheets, M_nights, M_fleasOfGuests, M_fleasOfBeds, M_reason, M_row, M_bestRow, M_image, M_isKept⟩ := tM
    obtain ⟨I_law, I_there, I_sleepers, I_empty, I_empties, I_yard, I_waiting, I_nights, I_used, I_sheets, I_lastOnes, I_guestsWithFleas, I_bedsWithFleas, I_isCounting⟩ := tI
    obtain ⟨q1, q2, q3, q4, q5⟩ := tQ
    rw [f_X5_could, f_X6_could, e1, e2, Option.bind_some, Option.bind_some, if_neg (by rw [fa_m6 hm]; exact hf), if_neg (by rw [fa_lt0 hm]; exact hf)]
    exact ⟨_, _, _, _, _, rfl, rfl, hI⟩
