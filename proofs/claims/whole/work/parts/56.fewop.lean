/-! fewest: the call -/
theorem gFw_def (x1 z : Int32) (fuel : Nat) (x4 x5 x6 : Int32) {M_beds M_law M_sights M_signs M_empty M_waits M_fleasOfGuests M_fleasOfBeds M_reason : Int32} {M_worths M_sight M_pad M_lies M_list M_yard M_last M_used M_sheets M_nights M_row M_bestRow M_image M_isKept : Nat → Int32} : gFw x1 z fuel x4 x5 x6 (M_beds, M_law, M_worths, M_sights, M_sight, M_signs, M_pad, M_lies, M_empty, M_list, M_waits, M_yard, M_last, M_used, M_sheets, M_nights, M_fleasOfGuests, M_fleasOfBeds, M_reason, M_row, M_bestRow, M_image, M_isKept) = f_X6_fewest_L43 fuel x4 x5 x6 M_beds M_law M_worths M_sights M_sight M_signs M_pad M_lies M_empty M_list M_waits M_yard M_last M_used M_sheets M_nights M_fleasOfGuests M_fleasOfBeds M_reason M_row M_bestRow M_image M_isKept (fun x4_L43 x5_L43 x6_L43 M_beds M_law M_worths M_sights M_sight M_signs M_pad M_lies M_empty M_list M_waits M_yard M_last M_used M_sheets M_nights M_fleasOfGuests M_fleasOfBeds M_reason M_row M_bestRow M_image M_isKept => (if x1 = 0 then some (x4_L43, (M_beds, z, M_worths, M_sights, M_sight, M_signs, M_pad, M_lies, M_empty, M_list, M_waits, M_yard, M_last, M_used, M_sheets, M_nights, M_fleasOfGuests, M_fleasOfBeds, M_reason, M_row, M_bestRow, M_image, M_isKept)) else some (x5_L43, (M_beds, z, M_worths, M_sights, M_sight, M_signs, M_pad, M_lies, M_empty, M_list, M_waits, M_yard, M_last, M_used, M_sheets, M_nights, M_fleasOfGuests, M_fleasOfBeds, M_reason, M_row, M_bestRow, M_image, M_isKept)))) := rfl
theorem op_fewest (tB : WbS) (tP : ParS) (tQ : GueS) (tI : InnS) {tH tY tZ : HouS} {tD : DayS} {tT : List InnS} {tM : ModS} (hI : Inv tH tY tZ tD tT tM) (x1 : Int32) : ∃ (r : Int32) (wI : InnS) (wM : ModS), f_X5_fewest x1 tB tH tD tI = some (r, wI) ∧ f_X6_fewest x1 tM = some (r, wM) ∧ Inv tH tY tZ tD tT wM := by
  obtain ⟨hl, n, k, q, w, sg, sb, m, d, ⟨hn2, hn, hk, hq, hw, hsg, hsb⟩, hH, hM, hD, hDM, hm, hd⟩ := inv_use hI
  obtain ⟨t1, l1, l2⟩ := f_liveThrough hH hw hn hk hD tB tI (x1 := -1) (ev := m) (by omega) (Or.inr ⟨rfl, rfl⟩)
  obtain ⟨t2, c1, c2, c3⟩ := m_barOf hw hk hn hd (ev := m) (by omega) hm hM hDM
  have hI2 := inv_keep hI c2
  have hM2 := mP_H c2 hM
  have hD2 := mP_D c2 hDM
  obtain ⟨t3, s1⟩ := f_sheetsBy hH hw hn hD tB t1 (v := 0) (by omega)
  obtain ⟨H_beds, H_law, H_sights, H_isKept, H_worths, H_sightGuests, H_sightBeds⟩ := tH
  obtain ⟨len, S⟩ := tD
  obtain ⟨M_beds, M_law, M_worths, M_sights, M_sight, M_signs, M_pad, M_lies, M_empty, M_list, M_waits, M_yard, M_last, M_used, M_sheets, M_nights, M_fleasOfGuests, M_fleasOfBeds, M_reason, M_row, M_bestRow, M_image, M_isKept⟩ := tM
  obtain ⟨I_law, I_there, I_sleepers, I_empty, I_empties, I_yard, I_waiting, I_nights, I_used, I_sheets, I_lastOnes, I_guestsWithFleas, I_bedsWithFleas, I_isCounting⟩ := tI
  obtain rfl : M_signs = nI m := hDM.1
  rw [f_X5_fewest, f_X6_fewest]
  obtain ⟨F, hF⟩ : ∃ F, FU = F := ⟨_, rfl⟩
  rw [hF]
  rcases either_c x1 with ⟨h4, h5⟩ | ⟨j, hj, hx1, h4, h5⟩
  · rw [h4, h5]
    exact ⟨_, _, _, rfl, rfl, hI⟩
  simp only [h4, h5, Option.bind_some, one0, if_false, l1, c1]
  rcases barA_c n k w d m m with hb | ⟨hb, hb1, hb2⟩
  · obtain ⟨hz1, hz2⟩ := barA_z hb
    obtain ⟨b1, b2, b3⟩ := barA_0 hb
    obtain ⟨fu, hfu, hfu3⟩ : ∃ fu, F = fu + 1 ∧ 10 < fu := ⟨1999, by rw [← hF, FU_eq], by omega⟩
    have hlaw : (mSetL (nI k) t2) = t2 := by
      obtain ⟨L_beds, L_law, L_worths, L_sights, L_sight, L_signs, L_pad, L_lies, L_empty, L_list, L_waits, L_yard, L_last, L_used, L_sheets, L_nights, L_fleasOfGuests, L_fleasOfBeds, L_reason, L_row, L_bestRow, L_image, L_isKept⟩ := t2
      obtain rfl : L_law = nI k := hM2.2.1
      rfl
    obtain ⟨t4, e1, e2, e3, e4⟩ := gFw_step hw hn hd hm b1 b2 b3 x1 (nI k) (-6) (-6) (v := 0) (fuel := fu) (by omega) hM2 hD2
    rw [← hfu, if_pos (show (-6 : Int32) < 0 by decide), if_pos (show (-6 : Int32) < 0 by decide)] at e1
    obtain ⟨t5, e5, e6⟩ := lp_mfew hw hn hd hm b1 b2 b3 x1 (nI k) 3 1 fu 0 (shS n 0 w d m) 0 t4 (by omega) (by omega) (by omega) (shS_lt hn hm) e3 e4
    have e7 : mP t5 = mP t2 := by rw [e6, e2, hlaw]
    have e8 := e1.trans e5
    obtain ⟨J_law, J_there, J_sleepers, J_empty, J_empties, J_yard, J_waiting, J_nights, J_used, J_sheets, J_lastOnes, J_guestsWithFleas, J_bedsWithFleas, J_isCounting⟩ := t1
    obtain ⟨L_beds, L_law, L_worths, L_sights, L_sight, L_signs, L_pad, L_lies, L_empty, L_list, L_waits, L_yard, L_last, L_used, L_sheets, L_nights, L_fleasOfGuests, L_fleasOfBeds, L_reason, L_row, L_bestRow, L_image, L_isKept⟩ := t2
    obtain ⟨a1, a2, a3, a4, a5, a6, a7, a8, a9, a10, a11, a12, a13, a14⟩ := t3
    obtain rfl : L_law = nI k := hM2.2.1
    rw [gFw_def] at e8
    simp only [hz1, hz2, if_true, s1, Option.bind_some]
    obtain ⟨t6, f1⟩ := lp_ffew hH hw hn hD hm tB x1 3 1 F 0 (shS n 0 w d m) (I_law := a1) (I_there := a2) (I_sleepers := a3) (I_empty := a4) (I_empties := a5) (I_yard := a6) (I_waiting := a7) (I_nights := a8) (I_used := a9) (I_sheets := a10) (I_lastOnes := a11) (I_guestsWithFleas := a12) (I_bedsWithFleas := a13) (I_isCounting := a14) (by omega) (by omega) (shS_lt hn hm)
    rw [f1, e8]
    exact ⟨_, _, _, rfl, rfl, inv_keep hI2 e7⟩
  · obtain ⟨J_law, J_there, J_sleepers, J_empty, J_empties, J_yard, J_waiting, J_nights, J_used, J_sheets, J_lastOnes, J_guestsWithFleas, J_bedsWithFleas, J_isCounting⟩ := t1
    obtain ⟨L_beds, L_law, L_worths, L_sights, L_sight, L_signs, L_pad, L_lies, L_empty, L_list, L_waits, L_yard, L_last, L_used, L_sheets, L_nights, L_fleasOfGuests, L_fleasOfBeds, L_reason, L_row, L_bestRow, L_image, L_isKept⟩ := t2
    simp only [hb1, hb2, if_false]
    exact ⟨_, _, _, rfl, rfl, hI2⟩
