/-! chance: the call -/
theorem m_power {m : Nat} (hm : m ≤ 8) : f_X6_power (lN 10) (nI m) = some (lN (10 ^ m)) := by
  rw [f_X6_power]
  have key : ∀ (c j fuel : Nat), m = j + c → c < fuel → f_X6_power_L5 (lN 10) (nI m) fuel (lN (10 ^ j)) (nI j) (fun x3_L5 x5_L5 => some x3_L5) = some (lN (10 ^ m)) := by
    intro c
    induction c with
    | zero =>
      intro j fuel h1 h3
      obtain ⟨fuel, rfl⟩ : ∃ n, fuel = n + 1 := ⟨fuel - 1, by omega⟩
      rw [f_X6_power_L5, if_pos (by rw [n_le (by omega) (by omega)]; omega), show j = m by omega]
    | succ c ih =>
      intro j fuel h1 h3
      obtain ⟨fuel, rfl⟩ : ∃ n, fuel = n + 1 := ⟨fuel - 1, by omega⟩
      rw [f_X6_power_L5, if_neg (by rw [n_le (by omega) (by omega)]; omega), lN_mul, n_add, ← Nat.pow_succ]
      exact ih (j + 1) fuel (by omega) (by omega)
  exact key m 0 FU (by omega) (by rw [FU_eq]; omega)
theorem op_chance (tB : WbS) (tP : ParS) (tQ : GueS) (tI : InnS) {tH tY tZ : HouS} {tD : DayS} {tT : List InnS} {tM : ModS} (hI : Inv tH tY tZ tD tT tM) (x1 x2 x3 x4 : Int32) : ∃ (r : Int64) (wI : InnS) (wT : (List InnS)) (wM : ModS), f_X5_chance x1 x2 x3 x4 tB tH tD tI tT = some (r, wI, wT) ∧ f_X6_chance x1 x2 x3 x4 tM = some (r, wM) ∧ Inv tH tY tZ tD wT wM := by
  obtain ⟨hl, n, k, q, w, sg, sb, m, d, ⟨hn2, hn, hk, hq, hw, hsg, hsb⟩, hH, hM, hD, hDM, hm, hd⟩ := inv_use hI
  have hbc := bed_c hH hM hn hn2 x1 tB
  obtain ⟨t1, l1, l2⟩ := f_liveThrough hH hw hn hk hD tB tI (x1 := -1) (ev := m) (by omega) (Or.inr ⟨rfl, rfl⟩)
  obtain ⟨t2, c1, c2, c3⟩ := m_barOf hw hk hn hd (ev := m) (by omega) hm hM hDM
  have hI2 := inv_keep hI c2
  have hM2 := mP_H c2 hM
  have hD2 := mP_D c2 hDM
  have hwt := fun b (hb : b < 8) t (ht : t ≤ 10) mm (hmm : mm ≤ 8) C hC hp hIn => f_weightOf hH hw hn hk (t := t) (b := b) ht hb mm 0 10 C t1 tT (by omega) (by omega) (by omega) hC hp hIn
  obtain ⟨H_beds, H_law, H_sights, H_isKept, H_worths, H_sightGuests, H_sightBeds⟩ := tH
  obtain ⟨len, S⟩ := tD
  obtain ⟨M_beds, M_law, M_worths, M_sights, M_sight, M_signs, M_pad, M_lies, M_empty, M_list, M_waits, M_yard, M_last, M_used, M_sheets, M_nights, M_fleasOfGuests, M_fleasOfBeds, M_reason, M_row, M_bestRow, M_image, M_isKept⟩ := tM
  obtain ⟨I_law, I_there, I_sleepers, I_empty, I_empties, I_yard, I_waiting, I_nights, I_used, I_sheets, I_lastOnes, I_guestsWithFleas, I_bedsWithFleas, I_isCounting⟩ := tI
  obtain rfl : M_signs = nI m := hDM.1
  rw [f_X5_chance, f_X6_chance]
  obtain ⟨F, hF⟩ : ∃ F, FU = F := ⟨_, rfl⟩
  have hF2 : 1990 < F := by rw [← hF, FU_eq]; omega
  rw [hF]
  rcases hbc with ⟨g1, g2⟩ | ⟨b, hb8, rfl, g1, g2⟩
  · rw [g1, g2]
    exact ⟨_, _, _, _, rfl, rfl, hI⟩
  rw [g1, g2, Option.bind_some, Option.bind_some, if_neg (show ¬ nI 1 = 0 by decide), if_neg (show ¬ nI 1 = 0 by decide)]
  rcases in_c x2 (a := 0) (b := 8) (by omega) (by omega) with ⟨h1, h2⟩ | ⟨mm, h1, h2, rfl, h3⟩
  · rw [h1]
    refine ⟨-1000000000000000002, ?_⟩
    apply Exists.intro
    apply Exists.intro
    apply Exists.intro
    apply And.intro
    · rcases h2 with h2 | h2
      · rw [if_pos (show x2 < 0 from h2)]
      · rw [if_pos h2]
        split <;> rfl
    · exact ⟨rfl, hI⟩
  rw [h3, Option.bind_some, if_neg (show ¬ nI 1 = 0 by decide), if_neg (show ¬ nI mm < 0 by rw [n_lt0 (by omega)]; exact id), if_neg (by rw [n_lt (by omega) (by omega)]; omega)]
  rcases in_c x3 (a := 0) (b := 10) (by omega) (by omega) with ⟨h4, h5⟩ | ⟨t, h4, h5, rfl, h6⟩
  · rw [h4]
    refine ⟨-1000000000000000002, ?_⟩
    apply Exists.intro
    apply Exists.intro
    apply Exists.intro
    apply And.intro
    · rcases h5 with h5 | h5
      · rw [if_pos (show x3 < 0 from h5)]
      · rw [if_pos h5]
        split <;> rfl
    · exact ⟨rfl, hI⟩
  rw [h6, Option.bind_some, if_neg (show ¬ nI 1 = 0 by decide), if_neg (show ¬ nI t < 0 by rw [n_lt0 (by omega)]; exact id), if_neg (by rw [n_lt (by omega) (by omega)]; omega)]
  rcases either_c x4 with ⟨h7, h8⟩ | ⟨j, hj, hx4, h7, h8⟩
  · rw [h7, h8]
    exact ⟨_, _, _, _, rfl, rfl, hI⟩
  rw [h7, h8, Option.bind_some, Option.bind_some, if_neg (show ¬ nI 1 = 0 by decide), if_neg (show ¬ nI 1 = 0 by decide), l1, c1, Option.bind_some, Option.bind_some]
  dsimp only
  rcases barA_c n k w d m m with hb | ⟨hb, hb1, hb2⟩
  · obtain ⟨hz1, hz2⟩ := barA_z hb
    obtain ⟨l3, l4⟩ := l2 hb
    obtain ⟨b1, b2, b3⟩ := barA_0 hb
    obtain ⟨r1, r2⟩ := GO_run (kk := k) (w := w) (d := d) hn m 0
    obtain ⟨T', w1, w2⟩ := hwt b (by omega) t h5 mm h2 (runA k w d m 0 (openA n)).2 r1 (fun x hx => by have := r2 x hx; omega) l3
    have hwl := wtA_le (k := k) (w := w) (b := b) h5 mm 0 (runA k w d m 0 (openA n)).2
    have h10 : 10 ^ mm ≤ 10 ^ 8 := Nat.pow_le_pow_right (by omega) h2
    have h28 : 2 ^ mm ≤ 2 ^ 8 := Nat.pow_le_pow_right (by omega) h2
    have hpos : 0 < 10 ^ mm := Nat.pow_pos (by omega)
    have hpv := pv_sum (k := k) (w := w) (t := t) (b := b) mm 0 1 (runA k w d m 0 (openA n)).2
    rw [Nat.one_mul] at hpv
    have hpt := f_partIn (m := mm) (w := wtA k w t b mm 0 (runA k w d m 0 (openA n)).2) h2 (by omega) x4
    have hpw := m_power h2
    obtain ⟨J_law, J_there, J_sleepers, J_empty, J_empties, J_yard, J_waiting, J_nights, J_used, J_sheets, J_lastOnes, J_guestsWithFleas, J_bedsWithFleas, J_isCounting⟩ := t1
    obtain ⟨L_beds, L_law, L_worths, L_sights, L_sight, L_signs, L_pad, L_lies, L_empty, L_list, L_waits, L_yard, L_last, L_used, L_sheets, L_nights, L_fleasOfGuests, L_fleasOfBeds, L_reason, L_row, L_bestRow, L_image, L_isKept⟩ := t2
    obtain ⟨x8, N_beds, N_law, N_worths, N_sights, N_sight, N_signs, N_pad, N_lies, N_empty, N_list, N_waits, N_yard, N_last, N_used, N_sheets, N_nights, N_fleasOfGuests, N_fleasOfBeds, N_reason, N_row, N_bestRow, N_image, N_isKept, f1, f2⟩ := lp75 hw hk hn hd hm b1 b2 b3 (mm := mm) (t := t) (b := b) h2 h5 (by omega) (2 ^ mm) 0 F (by omega) (by omega) hM2 hD2
    rw [hpv] at f1
    have hs0 : sumN (fun h => pvA k w t b mm 0 1 h (runA k w d m 0 (openA n)).2) 0 = 0 := rfl
    rw [hs0] at f1
    generalize wtA k w t b mm 0 (runA k w d m 0 (openA n)).2 = W at *
    have hgp : 0 < Nat.gcd W (10 ^ mm) := Nat.gcd_pos_of_pos_right _ hpos
    have hgl : Nat.gcd W (10 ^ mm) ≤ 10 ^ mm := Nat.gcd_le_right _ hpos
    have hI3 := inv_keep (inv_keepT (tT' := T') hI2 rfl w2) f2
    rw [hb, if_pos (show nI 0 = 0 from rfl), if_pos (show 0 ≤ nI 0 by decide), w1, Option.bind_some, f1, hpw, Option.bind_some]
    dsimp only
    rw [if_pos w2, hpt, Option.bind_some]
    have e254 := fun kL => lp_254 kL 27 W (10 ^ mm) F (by omega) (by omega) (by omega) (by omega)
    by_cases hx : x4 = 0
    · simp only [if_pos hx]
      obtain ⟨z, e2⟩ := e254 (fun x10_L254 x12_L254 => (if x10_L254 = 0 then none else some ((lN W / x10_L254), (N_beds, N_law, N_worths, N_sights, N_sight, N_signs, N_pad, N_lies, N_empty, N_list, N_waits, N_yard, N_last, N_used, N_sheets, N_nights, N_fleasOfGuests, N_fleasOfBeds, N_reason, N_row, N_bestRow, N_image, N_isKept))))
      rw [e2, if_neg (l_ne0 (by omega) (by omega)), pk_lDiv (by omega) hgp (by omega)]
      exact ⟨_, _, _, _, rfl, rfl, hI3⟩
    · simp only [if_neg hx]
      obtain ⟨z, e2⟩ := e254 (fun x10_L254 x12_L254 => (if x10_L254 = 0 then none else some ((lN (10 ^ mm) / x10_L254), (N_beds, N_law, N_worths, N_sights, N_sight, N_signs, N_pad, N_lies, N_empty, N_list, N_waits, N_yard, N_last, N_used, N_sheets, N_nights, N_fleasOfGuests, N_fleasOfBeds, N_reason, N_row, N_bestRow, N_image, N_isKept))))
      rw [e2, if_neg (l_ne0 (by omega) (by omega)), pk_lDiv (by omega) hgp (by omega)]
      exact ⟨_, _, _, _, rfl, rfl, hI3⟩
  · obtain ⟨J_law, J_there, J_sleepers, J_empty, J_empties, J_yard, J_waiting, J_nights, J_used, J_sheets, J_lastOnes, J_guestsWithFleas, J_bedsWithFleas, J_isCounting⟩ := t1
    obtain ⟨L_beds, L_law, L_worths, L_sights, L_sight, L_signs, L_pad, L_lies, L_empty, L_list, L_waits, L_yard, L_last, L_used, L_sheets, L_nights, L_fleasOfGuests, L_fleasOfBeds, L_reason, L_row, L_bestRow, L_image, L_isKept⟩ := t2
    simp only [hb1, hb2, if_false]
    exact ⟨_, _, _, _, rfl, rfl, hI2⟩
