def f_X6_judge : Int32 → ModS → Option (Int32 × ModS)
  | x1, (M_beds, M_law, M_worths, M_sights, M_sight, M_signs, M_pad, M_lies, M_empty, M_list, M_waits, M_yard, M_last, M_used, M_sheets, M_nights, M_fleasOfGuests, M_fleasOfBeds, M_reason, M_row, M_bestRow, M_image, M_isKept) => (Option.bind (f_X6_in x1 (nI 0) (nI 1)) (fun r_3 => (if r_3 = 0 then some ((-2 : Int32), (M_beds, M_law, M_worths, M_sights, M_sight, M_signs, M_pad, M_lies, M_empty, M_list, M_waits, M_yard, M_last, M_used, M_sheets, M_nights, M_fleasOfGuests, M_fleasOfBeds, M_reason, M_row, M_bestRow, M_image, M_isKept)) else (Option.bind (f_X6_faultOf (M_beds, M_law, M_worths, M_sights, M_sight, M_signs, M_pad, M_lies, M_empty, M_list, M_waits, M_yard, M_last, M_used, M_sheets, M_nights, M_fleasOfGuests, M_fleasOfBeds, M_reason, M_row, M_bestRow, M_image, M_isKept)) (fun r_13 => (if r_13 < 0 then (Option.bind (f_X6_opens M_signs (M_beds, M_law, M_worths, M_sights, M_sight, M_signs, M_pad, M_lies, M_empty, M_list, M_waits, M_yard, M_last, M_used, M_sheets, M_nights, M_fleasOfGuests, M_fleasOfBeds, M_reason, M_row, M_bestRow, M_image, M_isKept)) (fun r_27 => (if r_27 ≤ 0 then (Option.bind (f_X6_go M_signs (nI 0) (-6 : Int32) (nI 0) (M_beds, M_law, M_worths, M_sights, M_sight, M_signs, M_pad, M_lies, M_empty, M_list, M_waits, M_yard, M_last, M_used, M_sheets, M_nights, M_fleasOfGuests, M_fleasOfBeds, M_reason, M_row, M_bestRow, M_image, M_isKept)) (fun (r_45, (M_beds_45, M_law_45, M_worths_45, M_sights_45, M_sight_45, M_signs_45, M_pad_45, M_lies_45, M_empty_45, M_list_45, M_waits_45, M_yard_45, M_last_45, M_used_45, M_sheets_45, M_nights_45, M_fleasOfGuests_45, M_fleasOfBeds_45, M_reason_45, M_row_45, M_bestRow_45, M_image_45, M_isKept_45)) => (if r_45 < 0 then some (r_45, (M_beds_45, M_law_45, M_worths_45, M_sights_45, M_sight_45, M_signs_45, M_pad_45, M_lies_45, M_empty_45, M_list_45, M_waits_45, M_yard_45, M_last_45, M_used_45, M_sheets_45, M_nights_45, M_fleasOfGuests_45, M_fleasOfBeds_45, M_reason_45, M_row_45, M_bestRow_45, M_image_45, M_isKept_45)) else (if x1 = 0 then some (r_45, (M_beds_45, M_law_45, M_worths_45, M_sights_45, M_sight_45, M_signs_45, M_pad_45, M_lies_45, M_empty_45, M_list_45, M_waits_45, M_yard_45, M_last_45, M_used_45, M_sheets_45, M_nights_45, M_fleasOfGuests_45, M_fleasOfBeds_45, M_reason_45, M_row_45, M_bestRow_45, M_image_45, M_isKept_45)) else some (M_reason_45, (M_beds_45, M_law_45, M_worths_45, M_sights_45, M_sight_45, M_signs_45, M_pad_45, M_lies_45, M_empty_45, M_list_45, M_waits_45, M_yard_45, M_last_45, M_used_45, M_sheets_45, M_nights_45, M_fleasOfGuests_45, M_fleasOfBeds_45, M_reason_45, M_row_45, M_bestRow_45, M_image_45, M_isKept_45)))))) else some ((-3 : Int32), (M_beds, M_law, M_worths, M_sights, M_sight, M_signs, M_pad, M_lies, M_empty, M_list, M_waits, M_yard, M_last, M_used, M_sheets, M_nights, M_fleasOfGuests, M_fleasOfBeds, M_reason, M_row, M_bestRow, M_image, M_isKept))))) else some ((-5 : Int32), (M_beds, M_law, M_worths, M_sights, M_sight, M_signs, M_pad, M_lies, M_empty, M_list, M_waits, M_yard, M_last, M_used, M_sheets, M_nights, M_fleasOfGuests, M_fleasOfBeds, M_reason, M_row, M_bestRow, M_image, M_isKept))))))))
set_option maxHeartbeats 4000000 in
set_option maxRecDepth 100000 in
theorem c_X6_judge (l : Launch) (D : va_G) (cI cZ : ClassId) (aM : Nat → Nat) (x1 : Int32) (tM : ModS) (rr : Int32 × ModS) (hf : f_X6_judge x1 tM = some rr) : CT l D cI cZ yX6_judge cX6_judge 3 (some .int) 5 118 0 0 [.ref (aM 0), .int x1] ([mC cI cZ aM tM]) (gPost (some (.int rr.1)) ([mC cI cZ aM rr.2])) := by
  obtain ⟨M_beds, M_law, M_worths, M_sights, M_sight, M_signs, M_pad, M_lies, M_empty, M_list, M_waits, M_yard, M_last, M_used, M_sheets, M_nights, M_fleasOfGuests, M_fleasOfBeds, M_reason, M_row, M_bestRow, M_image, M_isKept⟩ := tM
  rw [f_X6_judge] at hf
  refine CT.mkI (by decide) (Nat.le_of_ble_eq_true rfl) fun {p} {e} {R} {s} {m} {args} {below} {meth} {c} {A} {H0} {Q} C hA hR hret => ?_
  show G p l e R s m args below meth c 3 D A H0 0 0 Q [mC cI cZ aM (M_beds, M_law, M_worths, M_sights, M_sight, M_signs, M_pad, M_lies, M_empty, M_list, M_waits, M_yard, M_last, M_used, M_sheets, M_nights, M_fleasOfGuests, M_fleasOfBeds, M_reason, M_row, M_bestRow, M_image, M_isKept)] 0 [(0, .ref (aM 0)), (1, .int x1)] []
  refine gq_iload_n C 1 1 dX6_judge_0 rfl rfl ?_
  refine gq_iconst C (nI 0) 2 dX6_judge_1 (by decide) rfl ?_
  refine gq_iconst C (nI 1) 3 dX6_judge_2 (by decide) rfl ?_
  obtain ⟨r_3, hc, hf⟩ := gq_bd hf
  refine gq_callS C hA gm_X6_60 (c_X6_in l D cI cZ  x1 (nI 0) (nI 1) _ hc) rfl ⟨Nat.le_trans (Nat.le_of_ble_eq_true rfl) hR.1, Nat.le_trans (Nat.le_of_ble_eq_true rfl) hR.2.1⟩ ⟨Nat.zero_le _, Nat.zero_le _⟩ rfl (Nat.le_of_ble_eq_true rfl) dX6_judge_3 [] [mC cI cZ aM (M_beds, M_law, M_worths, M_sights, M_sight, M_signs, M_pad, M_lies, M_empty, M_list, M_waits, M_yard, M_last, M_used, M_sheets, M_nights, M_fleasOfGuests, M_fleasOfBeds, M_reason, M_row, M_bestRow, M_image, M_isKept)] 6 rfl (by decide) rfl rfl rfl [.int r_3] rfl ?_
  refine gq_if_ne C 12 9 dX6_judge_6 (by decide) rfl (fun h6 => ?_) (fun h6 => ?_)
  · replace hf := gq_ifn h6 hf
    refine gq_aload_n C 0 13 dX6_judge_12 rfl rfl ?_
    obtain ⟨r_13, hc, hf⟩ := gq_bd hf
    refine gq_callV C hA gm_X6_77 (c_X6_faultOf l D cI cZ aM (M_beds, M_law, M_worths, M_sights, M_sight, M_signs, M_pad, M_lies, M_empty, M_list, M_waits, M_yard, M_last, M_used, M_sheets, M_nights, M_fleasOfGuests, M_fleasOfBeds, M_reason, M_row, M_bestRow, M_image, M_isKept) _ hc) rfl 0 0 rfl rfl rfl ⟨Nat.le_trans (Nat.le_of_ble_eq_true rfl) hR.1, Nat.le_trans (Nat.le_of_ble_eq_true rfl) hR.2.1⟩ ⟨Nat.zero_le _, Nat.zero_le _⟩ rfl (Nat.le_of_ble_eq_true rfl) dX6_judge_13 [0] [mC cI cZ aM (M_beds, M_law, M_worths, M_sights, M_sight, M_signs, M_pad, M_lies, M_empty, M_list, M_waits, M_yard, M_last, M_used, M_sheets, M_nights, M_fleasOfGuests, M_fleasOfBeds, M_reason, M_row, M_bestRow, M_image, M_isKept)] 16 rfl (by decide) rfl rfl rfl [.int r_13] rfl ?_
    refine gq_if_lt C 22 19 dX6_judge_16 (by decide) rfl (fun h16 => ?_) (fun h16 => ?_)
    · replace hf := gq_ifp h16 hf
      refine gq_aload_n C 0 23 dX6_judge_22 rfl rfl ?_
      refine gq_aload_n C 0 24 dX6_judge_23 rfl rfl ?_
      refine gq_get C fo_X6_5 fw_X6_74 0 0 27 rfl rfl rfl dX6_judge_24 rfl ?_
      obtain ⟨r_27, hc, hf⟩ := gq_bd hf
      refine gq_callV C hA gm_X6_137 (c_X6_opens l D cI cZ aM M_signs (M_beds, M_law, M_worths, M_sights, M_sight, M_signs, M_pad, M_lies, M_empty, M_list, M_waits, M_yard, M_last, M_used, M_sheets, M_nights, M_fleasOfGuests, M_fleasOfBeds, M_reason, M_row, M_bestRow, M_image, M_isKept) _ hc) rfl 0 0 rfl rfl rfl ⟨Nat.le_trans (Nat.le_of_ble_eq_true rfl) hR.1, Nat.le_trans (Nat.le_of_ble_eq_true rfl) hR.2.1⟩ ⟨Nat.zero_le _, Nat.zero_le _⟩ rfl (Nat.le_of_ble_eq_true rfl) dX6_judge_27 [0] [mC cI cZ aM (M_beds, M_law, M_worths, M_sights, M_sight, M_signs, M_pad, M_lies, M_empty, M_list, M_waits, M_yard, M_last, M_used, M_sheets, M_nights, M_fleasOfGuests, M_fleasOfBeds, M_reason, M_row, M_bestRow, M_image, M_isKept)] 30 rfl (by decide) rfl rfl rfl [.int r_27] rfl ?_
      refine gq_if_le C 36 33 dX6_judge_30 (by decide) rfl (fun h30 => ?_) (fun h30 => ?_)
      · replace hf := gq_ifp h30 hf
        refine gq_aload_n C 0 37 dX6_judge_36 rfl rfl ?_
        refine gq_aload_n C 0 38 dX6_judge_37 rfl rfl ?_
        refine gq_get C fo_X6_5 fw_X6_74 0 0 41 rfl rfl rfl dX6_judge_38 rfl ?_
        refine gq_iconst C (nI 0) 42 dX6_judge_41 (by decide) rfl ?_
        refine gq_bipush C (-6 : Int32) 44 dX6_judge_42 (by decide) rfl ?_
        refine gq_iconst C (nI 0) 45 dX6_judge_44 (by decide) rfl ?_
        obtain ⟨⟨r_45, ⟨M_beds_45, M_law_45, M_worths_45, M_sights_45, M_sight_45, M_signs_45, M_pad_45, M_lies_45, M_empty_45, M_list_45, M_waits_45, M_yard_45, M_last_45, M_used_45, M_sheets_45, M_nights_45, M_fleasOfGuests_45, M_fleasOfBeds_45, M_reason_45, M_row_45, M_bestRow_45, M_image_45, M_isKept_45⟩⟩, hc, hf⟩ := gq_bd hf
        refine gq_callV C hA gm_X6_146 (c_X6_go l D cI cZ aM M_signs (nI 0) (-6 : Int32) (nI 0) (M_beds, M_law, M_worths, M_sights, M_sight, M_signs, M_pad, M_lies, M_empty, M_list, M_waits, M_yard, M_last, M_used, M_sheets, M_nights, M_fleasOfGuests, M_fleasOfBeds, M_reason, M_row, M_bestRow, M_image, M_isKept) _ hc) rfl 0 0 rfl rfl rfl ⟨Nat.le_trans (Nat.le_of_ble_eq_true rfl) hR.1, Nat.le_trans (Nat.le_of_ble_eq_true rfl) hR.2.1⟩ ⟨Nat.zero_le _, Nat.zero_le _⟩ rfl (Nat.le_of_ble_eq_true rfl) dX6_judge_45 [0] [mC cI cZ aM (M_beds_45, M_law_45, M_worths_45, M_sights_45, M_sight_45, M_signs_45, M_pad_45, M_lies_45, M_empty_45, M_list_45, M_waits_45, M_yard_45, M_last_45, M_used_45, M_sheets_45, M_nights_45, M_fleasOfGuests_45, M_fleasOfBeds_45, M_reason_45, M_row_45, M_bestRow_45, M_image_45, M_isKept_45)] 48 rfl (by decide) rfl rfl rfl [.int r_45] rfl ?_
        refine gq_istore_n C [(2, .int r_45), (0, .ref (aM 0)), (1, .int x1)] 49 dX6_judge_48 (by decide) rfl rfl ?_
        refine gq_iload_n C 0 50 dX6_judge_49 rfl rfl ?_
        refine gq_if_lt C 57 53 dX6_judge_50 (by decide) rfl (fun h50 => ?_) (fun h50 => ?_)
        · replace hf := gq_ifp h50 hf
          refine gq_iload_n C 0 58 dX6_judge_57 rfl rfl ?_
          refine gq_goto C 65 dX6_judge_58 (by decide) ?_
          obtain rfl := gq_lf hf
          exact hret dX6_judge_65 gPost.rf
        · replace hf := gq_ifn h50 hf
          refine gq_iload_n C 2 54 dX6_judge_53 rfl rfl ?_
          refine gq_if_ne C 61 57 dX6_judge_54 (by decide) rfl (fun h54 => ?_) (fun h54 => ?_)
          · replace hf := gq_ifn h54 hf
            refine gq_aload_n C 1 62 dX6_judge_61 rfl rfl ?_
            refine gq_get C fo_X6_18 fw_X6_134 0 0 65 rfl rfl rfl dX6_judge_62 rfl ?_
            obtain rfl := gq_lf hf
            exact hret dX6_judge_65 gPost.rf
          · replace hf := gq_ifp h54 hf
            refine gq_iload_n C 0 58 dX6_judge_57 rfl rfl ?_
            refine gq_goto C 65 dX6_judge_58 (by decide) ?_
            obtain rfl := gq_lf hf
            exact hret dX6_judge_65 gPost.rf
      · replace hf := gq_ifn h30 hf
        refine gq_bipush C (-3 : Int32) 35 dX6_judge_33 (by decide) rfl ?_
        obtain rfl := gq_lf hf
        exact hret dX6_judge_35 gPost.rf
    · replace hf := gq_ifn h16 hf
      refine gq_bipush C (-5 : Int32) 21 dX6_judge_19 (by decide) rfl ?_
      obtain rfl := gq_lf hf
      exact hret dX6_judge_21 gPost.rf
  · replace hf := gq_ifp h6 hf
    refine gq_bipush C (-2 : Int32) 11 dX6_judge_9 (by decide) rfl ?_
    obtain rfl := gq_lf hf
    exact hret dX6_judge_11 gPost.rf

def f_X6_barOf : Int32 → ModS → Option (Int32 × ModS)
  | x1, (M_beds, M_law, M_worths, M_sights, M_sight, M_signs, M_pad, M_lies, M_empty, M_list, M_waits, M_yard, M_last, M_used, M_sheets, M_nights, M_fleasOfGuests, M_fleasOfBeds, M_reason, M_row, M_bestRow, M_image, M_isKept) => (Option.bind (f_X6_faultOf (M_beds, M_law, M_worths, M_sights, M_sight, M_signs, M_pad, M_lies, M_empty, M_list, M_waits, M_yard, M_last, M_used, M_sheets, M_nights, M_fleasOfGuests, M_fleasOfBeds, M_reason, M_row, M_bestRow, M_image, M_isKept)) (fun r_1 => (if r_1 < 0 then (Option.bind (f_X6_opens x1 (M_beds, M_law, M_worths, M_sights, M_sight, M_signs, M_pad, M_lies, M_empty, M_list, M_waits, M_yard, M_last, M_used, M_sheets, M_nights, M_fleasOfGuests, M_fleasOfBeds, M_reason, M_row, M_bestRow, M_image, M_isKept)) (fun r_12 => (if r_12 ≤ 0 then (Option.bind (f_X6_go x1 (nI 0) (-6 : Int32) (nI 0) (M_beds, M_law, M_worths, M_sights, M_sight, M_signs, M_pad, M_lies, M_empty, M_list, M_waits, M_yard, M_last, M_used, M_sheets, M_nights, M_fleasOfGuests, M_fleasOfBeds, M_reason, M_row, M_bestRow, M_image, M_isKept)) (fun (r_27, (M_beds_27, M_law_27, M_worths_27, M_sights_27, M_sight_27, M_signs_27, M_pad_27, M_lies_27, M_empty_27, M_list_27, M_waits_27, M_yard_27, M_last_27, M_used_27, M_sheets_27, M_nights_27, M_fleasOfGuests_27, M_fleasOfBeds_27, M_reason_27, M_row_27, M_bestRow_27, M_image_27, M_isKept_27)) => (if r_27 < 0 then some ((nI 0), (M_beds_27, M_law_27, M_worths_27, M_sights_27, M_sight_27, M_signs_27, M_pad_27, M_lies_27, M_empty_27, M_list_27, M_waits_27, M_yard_27, M_last_27, M_used_27, M_sheets_27, M_nights_27, M_fleasOfGuests_27, M_fleasOfBeds_27, M_reason_27, M_row_27, M_bestRow_27, M_image_27, M_isKept_27)) else some ((-5 : Int32), (M_beds_27, M_law_27, M_worths_27, M_sights_27, M_sight_27, M_signs_27, M_pad_27, M_lies_27, M_empty_27, M_list_27, M_waits_27, M_yard_27, M_last_27, M_used_27, M_sheets_27, M_nights_27, M_fleasOfGuests_27, M_fleasOfBeds_27, M_reason_27, M_row_27, M_bestRow_27, M_image_27, M_isKept_27))))) else some ((-3 : Int32), (M_beds, M_law, M_worths, M_sights, M_sight, M_signs, M_pad, M_lies, M_empty, M_list, M_waits, M_yard, M_last, M_used, M_sheets, M_nights, M_fleasOfGuests, M_fleasOfBeds, M_reason, M_row, M_bestRow, M_image, M_isKept))))) else some ((-5 : Int32), (M_beds, M_law, M_worths, M_sights, M_sight, M_signs, M_pad, M_lies, M_empty, M_list, M_waits, M_yard, M_last, M_used, M_sheets, M_nights, M_fleasOfGuests, M_fleasOfBeds, M_reason, M_row, M_bestRow, M_image, M_isKept)))))
set_option maxHeartbeats 4000000 in
set_option maxRecDepth 100000 in
theorem c_X6_barOf (l : Launch) (D : va_G) (cI cZ : ClassId) (aM : Nat → Nat) (x1 : Int32) (tM : ModS) (rr : Int32 × ModS) (hf : f_X6_barOf x1 tM = some rr) : CT l D cI cZ yX6_barOf cX6_barOf 2 (some .int) 5 118 0 0 [.ref (aM 0), .int x1] ([mC cI cZ aM tM]) (gPost (some (.int rr.1)) ([mC cI cZ aM rr.2])) := by
  obtain ⟨M_beds, M_law, M_worths, M_sights, M_sight, M_signs, M_pad, M_lies, M_empty, M_list, M_waits, M_yard, M_last, M_used, M_sheets, M_nights, M_fleasOfGuests, M_fleasOfBeds, M_reason, M_row, M_bestRow, M_image, M_isKept⟩ := tM
  rw [f_X6_barOf] at hf
  refine CT.mkI (by decide) (Nat.le_of_ble_eq_true rfl) fun {p} {e} {R} {s} {m} {args} {below} {meth} {c} {A} {H0} {Q} C hA hR hret => ?_
  show G p l e R s m args below meth c 2 D A H0 0 0 Q [mC cI cZ aM (M_beds, M_law, M_worths, M_sights, M_sight, M_signs, M_pad, M_lies, M_empty, M_list, M_waits, M_yard, M_last, M_used, M_sheets, M_nights, M_fleasOfGuests, M_fleasOfBeds, M_reason, M_row, M_bestRow, M_image, M_isKept)] 0 [(0, .ref (aM 0)), (1, .int x1)] []
  refine gq_aload_n C 0 1 dX6_barOf_0 rfl rfl ?_
  obtain ⟨r_1, hc, hf⟩ := gq_bd hf
  refine gq_callV C hA gm_X6_77 (c_X6_faultOf l D cI cZ aM (M_beds, M_law, M_worths, M_sights, M_sight, M_signs, M_pad, M_lies, M_empty, M_list, M_waits, M_yard, M_last, M_used, M_sheets, M_nights, M_fleasOfGuests, M_fleasOfBeds, M_reason, M_row, M_bestRow, M_image, M_isKept) _ hc) rfl 0 0 rfl rfl rfl ⟨Nat.le_trans (Nat.le_of_ble_eq_true rfl) hR.1, Nat.le_trans (Nat.le_of_ble_eq_true rfl) hR.2.1⟩ ⟨Nat.zero_le _, Nat.zero_le _⟩ rfl (Nat.le_of_ble_eq_true rfl) dX6_barOf_1 [0] [mC cI cZ aM (M_beds, M_law, M_worths, M_sights, M_sight, M_signs, M_pad, M_lies, M_empty, M_list, M_waits, M_yard, M_last, M_used, M_sheets, M_nights, M_fleasOfGuests, M_fleasOfBeds, M_reason, M_row, M_bestRow, M_image, M_isKept)] 4 rfl (by decide) rfl rfl rfl [.int r_1] rfl ?_
  refine gq_if_lt C 10 7 dX6_barOf_4 (by decide) rfl (fun h4 => ?_) (fun h4 => ?_)
  · replace hf := gq_ifp h4 hf
    refine gq_aload_n C 0 11 dX6_barOf_10 rfl rfl ?_
    refine gq_iload_n C 1 12 dX6_barOf_11 rfl rfl ?_
    obtain ⟨r_12, hc, hf⟩ := gq_bd hf
    refine gq_callV C hA gm_X6_137 (c_X6_opens l D cI cZ aM x1 (M_beds, M_law, M_worths, M_sights, M_sight, M_signs, M_pad, M_lies, M_empty, M_list, M_waits, M_yard, M_last, M_used, M_sheets, M_nights, M_fleasOfGuests, M_fleasOfBeds, M_reason, M_row, M_bestRow, M_image, M_isKept) _ hc) rfl 0 0 rfl rfl rfl ⟨Nat.le_trans (Nat.le_of_ble_eq_true rfl) hR.1, Nat.le_trans (Nat.le_of_ble_eq_true rfl) hR.2.1⟩ ⟨Nat.zero_le _, Nat.zero_le _⟩ rfl (Nat.le_of_ble_eq_true rfl) dX6_barOf_12 [0] [mC cI cZ aM (M_beds, M_law, M_worths, M_sights, M_sight, M_signs, M_pad, M_lies, M_empty, M_list, M_waits, M_yard, M_last, M_used, M_sheets, M_nights, M_fleasOfGuests, M_fleasOfBeds, M_reason, M_row, M_bestRow, M_image, M_isKept)] 15 rfl (by decide) rfl rfl rfl [.int r_12] rfl ?_
    refine gq_if_le C 21 18 dX6_barOf_15 (by decide) rfl (fun h15 => ?_) (fun h15 => ?_)
    · replace hf := gq_ifp h15 hf
      refine gq_aload_n C 0 22 dX6_barOf_21 rfl rfl ?_
      refine gq_iload_n C 1 23 dX6_barOf_22 rfl rfl ?_
      refine gq_iconst C (nI 0) 24 dX6_barOf_23 (by decide) rfl ?_
      refine gq_bipush C (-6 : Int32) 26 dX6_barOf_24 (by decide) rfl ?_
      refine gq_iconst C (nI 0) 27 dX6_barOf_26 (by decide) rfl ?_
      obtain ⟨⟨r_27, ⟨M_beds_27, M_law_27, M_worths_27, M_sights_27, M_sight_27, M_signs_27, M_pad_27, M_lies_27, M_empty_27, M_list_27, M_waits_27, M_yard_27, M_last_27, M_used_27, M_sheets_27, M_nights_27, M_fleasOfGuests_27, M_fleasOfBeds_27, M_reason_27, M_row_27, M_bestRow_27, M_image_27, M_isKept_27⟩⟩, hc, hf⟩ := gq_bd hf
      refine gq_callV C hA gm_X6_146 (c_X6_go l D cI cZ aM x1 (nI 0) (-6 : Int32) (nI 0) (M_beds, M_law, M_worths, M_sights, M_sight, M_signs, M_pad, M_lies, M_empty, M_list, M_waits, M_yard, M_last, M_used, M_sheets, M_nights, M_fleasOfGuests, M_fleasOfBeds, M_reason, M_row, M_bestRow, M_image, M_isKept) _ hc) rfl 0 0 rfl rfl rfl ⟨Nat.le_trans (Nat.le_of_ble_eq_true rfl) hR.1, Nat.le_trans (Nat.le_of_ble_eq_true rfl) hR.2.1⟩ ⟨Nat.zero_le _, Nat.zero_le _⟩ rfl (Nat.le_of_ble_eq_true rfl) dX6_barOf_27 [0] [mC cI cZ aM (M_beds_27, M_law_27, M_worths_27, M_sights_27, M_sight_27, M_signs_27, M_pad_27, M_lies_27, M_empty_27, M_list_27, M_waits_27, M_yard_27, M_last_27, M_used_27, M_sheets_27, M_nights_27, M_fleasOfGuests_27, M_fleasOfBeds_27, M_reason_27, M_row_27, M_bestRow_27, M_image_27, M_isKept_27)] 30 rfl (by decide) rfl rfl rfl [.int r_27] rfl ?_
      refine gq_if_lt C 38 33 dX6_barOf_30 (by decide) rfl (fun h30 => ?_) (fun h30 => ?_)
      · replace hf := gq_ifp h30 hf
        refine gq_iconst C (nI 0) 39 dX6_barOf_38 (by decide) rfl ?_
        obtain rfl := gq_lf hf
        exact hret dX6_barOf_39 gPost.rf
      · replace hf := gq_ifn h30 hf
        refine gq_bipush C (-5 : Int32) 35 dX6_barOf_33 (by decide) rfl ?_
        refine gq_goto C 39 dX6_barOf_35 (by decide) ?_
        obtain rfl := gq_lf hf
        exact hret dX6_barOf_39 gPost.rf
    · replace hf := gq_ifn h15 hf
      refine gq_bipush C (-3 : Int32) 20 dX6_barOf_18 (by decide) rfl ?_
      obtain rfl := gq_lf hf
      exact hret dX6_barOf_20 gPost.rf
  · replace hf := gq_ifn h4 hf
    refine gq_bipush C (-5 : Int32) 9 dX6_barOf_7 (by decide) rfl ?_
    obtain rfl := gq_lf hf
    exact hret dX6_barOf_9 gPost.rf

def f_X6_bed : Int32 → Int32 → ModS → Option (Int32 × ModS)
  | x1, x2, (M_beds, M_law, M_worths, M_sights, M_sight, M_signs, M_pad, M_lies, M_empty, M_list, M_waits, M_yard, M_last, M_used, M_sheets, M_nights, M_fleasOfGuests, M_fleasOfBeds, M_reason, M_row, M_bestRow, M_image, M_isKept) => (Option.bind (f_X6_isGuest x1) (fun r_1 => (if r_1 = 0 then some ((-1 : Int32), (M_beds, M_law, M_worths, M_sights, M_sight, M_signs, M_pad, M_lies, M_empty, M_list, M_waits, M_yard, M_last, M_used, M_sheets, M_nights, M_fleasOfGuests, M_fleasOfBeds, M_reason, M_row, M_bestRow, M_image, M_isKept)) else (Option.bind (f_X6_in x2 (-1 : Int32) M_signs) (fun r_15 => (if r_15 = 0 then some ((-2 : Int32), (M_beds, M_law, M_worths, M_sights, M_sight, M_signs, M_pad, M_lies, M_empty, M_list, M_waits, M_yard, M_last, M_used, M_sheets, M_nights, M_fleasOfGuests, M_fleasOfBeds, M_reason, M_row, M_bestRow, M_image, M_isKept)) else gJn (fun (z0_J37 : Int32) => (Option.bind (f_X6_barOf z0_J37 (M_beds, M_law, M_worths, M_sights, M_sight, M_signs, M_pad, M_lies, M_empty, M_list, M_waits, M_yard, M_last, M_used, M_sheets, M_nights, M_fleasOfGuests, M_fleasOfBeds, M_reason, M_row, M_bestRow, M_image, M_isKept)) (fun (r_37, (M_beds_37, M_law_37, M_worths_37, M_sights_37, M_sight_37, M_signs_37, M_pad_37, M_lies_37, M_empty_37, M_list_37, M_waits_37, M_yard_37, M_last_37, M_used_37, M_sheets_37, M_nights_37, M_fleasOfGuests_37, M_fleasOfBeds_37, M_reason_37, M_row_37, M_bestRow_37, M_image_37, M_isKept_37)) => (if 0 ≤ r_37 then (Option.bind (f_X6_bedOf x1 (M_beds_37, M_law_37, M_worths_37, M_sights_37, M_sight_37, M_signs_37, M_pad_37, M_lies_37, M_empty_37, M_list_37, M_waits_37, M_yard_37, M_last_37, M_used_37, M_sheets_37, M_nights_37, M_fleasOfGuests_37, M_fleasOfBeds_37, M_reason_37, M_row_37, M_bestRow_37, M_image_37, M_isKept_37)) (fun r_51 => some (r_51, (M_beds_37, M_law_37, M_worths_37, M_sights_37, M_sight_37, M_signs_37, M_pad_37, M_lies_37, M_empty_37, M_list_37, M_waits_37, M_yard_37, M_last_37, M_used_37, M_sheets_37, M_nights_37, M_fleasOfGuests_37, M_fleasOfBeds_37, M_reason_37, M_row_37, M_bestRow_37, M_image_37, M_isKept_37)))) else some (r_37, (M_beds_37, M_law_37, M_worths_37, M_sights_37, M_sight_37, M_signs_37, M_pad_37, M_lies_37, M_empty_37, M_list_37, M_waits_37, M_yard_37, M_last_37, M_used_37, M_sheets_37, M_nights_37, M_fleasOfGuests_37, M_fleasOfBeds_37, M_reason_37, M_row_37, M_bestRow_37, M_image_37, M_isKept_37)))))) (fun kJ37 => (if 0 ≤ x2 then kJ37 x2 else kJ37 M_signs))))))))
set_option maxHeartbeats 4000000 in
set_option maxRecDepth 100000 in
theorem c_X6_bed (l : Launch) (D : va_G) (cI cZ : ClassId) (aM : Nat → Nat) (x1 : Int32) (x2 : Int32) (tM : ModS) (rr : Int32 × ModS) (hf : f_X6_bed x1 x2 tM = some rr) : CT l D cI cZ yX6_bed cX6_bed 4 (some .int) 6 139 0 0 [.ref (aM 0), .int x1, .int x2] ([mC cI cZ aM tM]) (gPost (some (.int rr.1)) ([mC cI cZ aM rr.2])) := by
  obtain ⟨M_beds, M_law, M_worths, M_sights, M_sight, M_signs, M_pad, M_lies, M_empty, M_list, M_waits, M_yard, M_last, M_used, M_sheets, M_nights, M_fleasOfGuests, M_fleasOfBeds, M_reason, M_row, M_bestRow, M_image, M_isKept⟩ := tM
  rw [f_X6_bed] at hf
  refine CT.mkI (by decide) (Nat.le_of_ble_eq_true rfl) fun {p} {e} {R} {s} {m} {args} {below} {meth} {c} {A} {H0} {Q} C hA hR hret => ?_
  show G p l e R s m args below meth c 4 D A H0 0 0 Q [mC cI cZ aM (M_beds, M_law, M_worths, M_sights, M_sight, M_signs, M_pad, M_lies, M_empty, M_list, M_waits, M_yard, M_last, M_used, M_sheets, M_nights, M_fleasOfGuests, M_fleasOfBeds, M_reason, M_row, M_bestRow, M_image, M_isKept)] 0 [(0, .ref (aM 0)), (1, .int x1), (2, .int x2)] []
  refine gq_iload_n C 1 1 dX6_bed_0 rfl rfl ?_
  obtain ⟨r_1, hc, hf⟩ := gq_bd hf
  refine gq_callS C hA gm_X6_67 (c_X6_isGuest l D cI cZ  x1 _ hc) rfl ⟨Nat.le_trans (Nat.le_of_ble_eq_true rfl) hR.1, Nat.le_trans (Nat.le_of_ble_eq_true rfl) hR.2.1⟩ ⟨Nat.zero_le _, Nat.zero_le _⟩ rfl (Nat.le_of_ble_eq_true rfl) dX6_bed_1 [] [mC cI cZ aM (M_beds, M_law, M_worths, M_sights, M_sight, M_signs, M_pad, M_lies, M_empty, M_list, M_waits, M_yard, M_last, M_used, M_sheets, M_nights, M_fleasOfGuests, M_fleasOfBeds, M_reason, M_row, M_bestRow, M_image, M_isKept)] 4 rfl (by decide) rfl rfl rfl [.int r_1] rfl ?_
  refine gq_if_ne C 9 7 dX6_bed_4 (by decide) rfl (fun h4 => ?_) (fun h4 => ?_)
  · replace hf := gq_ifn h4 hf
    refine gq_iload_n C 2 10 dX6_bed_9 rfl rfl ?_
    refine gq_iconst C (-1 : Int32) 11 dX6_bed_10 (by decide) rfl ?_
    refine gq_aload_n C 0 12 dX6_bed_11 rfl rfl ?_
    refine gq_get C fo_X6_5 fw_X6_74 0 0 15 rfl rfl rfl dX6_bed_12 rfl ?_
    obtain ⟨r_15, hc, hf⟩ := gq_bd hf
    refine gq_callS C hA gm_X6_60 (c_X6_in l D cI cZ  x2 (-1 : Int32) M_signs _ hc) rfl ⟨Nat.le_trans (Nat.le_of_ble_eq_true rfl) hR.1, Nat.le_trans (Nat.le_of_ble_eq_true rfl) hR.2.1⟩ ⟨Nat.zero_le _, Nat.zero_le _⟩ rfl (Nat.le_of_ble_eq_true rfl) dX6_bed_15 [] [mC cI cZ aM (M_beds, M_law, M_worths, M_sights, M_sight, M_signs, M_pad, M_lies, M_empty, M_list, M_waits, M_yard, M_last, M_used, M_sheets, M_nights, M_fleasOfGuests, M_fleasOfBeds, M_reason, M_row, M_bestRow, M_image, M_isKept)] 18 rfl (by decide) rfl rfl rfl [.int r_15] rfl ?_
    refine gq_if_ne C 24 21 dX6_bed_18 (by decide) rfl (fun h18 => ?_) (fun h18 => ?_)
    · replace hf := gq_ifn h18 hf
      refine gq_aload_n C 0 25 dX6_bed_24 rfl rfl ?_
      refine gq_iload_n C 2 26 dX6_bed_25 rfl rfl ?_
      refine gq_jn (P := fun k => ∀ (z0_J37 : Int32), k z0_J37 = some rr → G p l e R s m args below meth c 4 D A H0 0 0 Q [mC cI cZ aM (M_beds, M_law, M_worths, M_sights, M_sight, M_signs, M_pad, M_lies, M_empty, M_list, M_waits, M_yard, M_last, M_used, M_sheets, M_nights, M_fleasOfGuests, M_fleasOfBeds, M_reason, M_row, M_bestRow, M_image, M_isKept)] 37 [(0, .ref (aM 0)), (1, .int x1), (2, .int x2)] [.int z0_J37, .ref (aM 0)]) hf (fun z0_J37 hf => ?_) (fun kJ37 hJ37 hf => ?_)
      · obtain ⟨⟨r_37, ⟨M_beds_37, M_law_37, M_worths_37, M_sights_37, M_sight_37, M_signs_37, M_pad_37, M_lies_37, M_empty_37, M_list_37, M_waits_37, M_yard_37, M_last_37, M_used_37, M_sheets_37, M_nights_37, M_fleasOfGuests_37, M_fleasOfBeds_37, M_reason_37, M_row_37, M_bestRow_37, M_image_37, M_isKept_37⟩⟩, hc, hf⟩ := gq_bd hf
        refine gq_callV C hA gm_X6_150 (c_X6_barOf l D cI cZ aM z0_J37 (M_beds, M_law, M_worths, M_sights, M_sight, M_signs, M_pad, M_lies, M_empty, M_list, M_waits, M_yard, M_last, M_used, M_sheets, M_nights, M_fleasOfGuests, M_fleasOfBeds, M_reason, M_row, M_bestRow, M_image, M_isKept) _ hc) rfl 0 0 rfl rfl rfl ⟨Nat.le_trans (Nat.le_of_ble_eq_true rfl) hR.1, Nat.le_trans (Nat.le_of_ble_eq_true rfl) hR.2.1⟩ ⟨Nat.zero_le _, Nat.zero_le _⟩ rfl (Nat.le_of_ble_eq_true rfl) dX6_bed_37 [0] [mC cI cZ aM (M_beds_37, M_law_37, M_worths_37, M_sights_37, M_sight_37, M_signs_37, M_pad_37, M_lies_37, M_empty_37, M_list_37, M_waits_37, M_yard_37, M_last_37, M_used_37, M_sheets_37, M_nights_37, M_fleasOfGuests_37, M_fleasOfBeds_37, M_reason_37, M_row_37, M_bestRow_37, M_image_37, M_isKept_37)] 40 rfl (by decide) rfl rfl rfl [.int r_37] rfl ?_
        refine gq_istore_n C [(3, .int r_37), (0, .ref (aM 0)), (1, .int x1), (2, .int x2)] 41 dX6_bed_40 (by decide) rfl rfl ?_
        refine gq_iload_n C 0 42 dX6_bed_41 rfl rfl ?_
        refine gq_if_ge C 49 45 dX6_bed_42 (by decide) rfl (fun h42 => ?_) (fun h42 => ?_)
        · replace hf := gq_ifp h42 hf
          refine gq_aload_n C 1 50 dX6_bed_49 rfl rfl ?_
          refine gq_iload_n C 2 51 dX6_bed_50 rfl rfl ?_
          obtain ⟨r_51, hc, hf⟩ := gq_bd hf
          refine gq_callV C hA gm_X6_87 (c_X6_bedOf l D cI cZ aM x1 (M_beds_37, M_law_37, M_worths_37, M_sights_37, M_sight_37, M_signs_37, M_pad_37, M_lies_37, M_empty_37, M_list_37, M_waits_37, M_yard_37, M_last_37, M_used_37, M_sheets_37, M_nights_37, M_fleasOfGuests_37, M_fleasOfBeds_37, M_reason_37, M_row_37, M_bestRow_37, M_image_37, M_isKept_37) _ hc) rfl 0 0 rfl rfl rfl ⟨Nat.le_trans (Nat.le_of_ble_eq_true rfl) hR.1, Nat.le_trans (Nat.le_of_ble_eq_true rfl) hR.2.1⟩ ⟨Nat.zero_le _, Nat.zero_le _⟩ rfl (Nat.le_of_ble_eq_true rfl) dX6_bed_51 [0] [mC cI cZ aM (M_beds_37, M_law_37, M_worths_37, M_sights_37, M_sight_37, M_signs_37, M_pad_37, M_lies_37, M_empty_37, M_list_37, M_waits_37, M_yard_37, M_last_37, M_used_37, M_sheets_37, M_nights_37, M_fleasOfGuests_37, M_fleasOfBeds_37, M_reason_37, M_row_37, M_bestRow_37, M_image_37, M_isKept_37)] 54 rfl (by decide) rfl rfl rfl [.int r_51] rfl ?_
          obtain rfl := gq_lf hf
          exact hret dX6_bed_54 gPost.rf
        · replace hf := gq_ifn h42 hf
          refine gq_iload_n C 0 46 dX6_bed_45 rfl rfl ?_
          refine gq_goto C 54 dX6_bed_46 (by decide) ?_
          obtain rfl := gq_lf hf
          exact hret dX6_bed_54 gPost.rf
      · refine gq_if_ge C 36 29 dX6_bed_26 (by decide) rfl (fun h26 => ?_) (fun h26 => ?_)
        · replace hf := gq_ifp h26 hf
          refine gq_iload_n C 2 37 dX6_bed_36 rfl rfl ?_
          exact hJ37 _ hf
        · replace hf := gq_ifn h26 hf
          refine gq_aload_n C 0 30 dX6_bed_29 rfl rfl ?_
          refine gq_get C fo_X6_5 fw_X6_74 0 0 33 rfl rfl rfl dX6_bed_30 rfl ?_
          refine gq_goto C 37 dX6_bed_33 (by decide) ?_
          exact hJ37 _ hf
    · replace hf := gq_ifp h18 hf
      refine gq_bipush C (-2 : Int32) 23 dX6_bed_21 (by decide) rfl ?_
      obtain rfl := gq_lf hf
      exact hret dX6_bed_23 gPost.rf
  · replace hf := gq_ifp h4 hf
    refine gq_iconst C (-1 : Int32) 8 dX6_bed_7 (by decide) rfl ?_
    obtain rfl := gq_lf hf
    exact hret dX6_bed_8 gPost.rf

def f_X6_who : Int32 → Int32 → ModS → Option (Int32 × ModS)
  | x1, x2, (M_beds, M_law, M_worths, M_sights, M_sight, M_signs, M_pad, M_lies, M_empty, M_list, M_waits, M_yard, M_last, M_used, M_sheets, M_nights, M_fleasOfGuests, M_fleasOfBeds, M_reason, M_row, M_bestRow, M_image, M_isKept) => (Option.bind (f_X6_isBed x1 (M_beds, M_law, M_worths, M_sights, M_sight, M_signs, M_pad, M_lies, M_empty, M_list, M_waits, M_yard, M_last, M_used, M_sheets, M_nights, M_fleasOfGuests, M_fleasOfBeds, M_reason, M_row, M_bestRow, M_image, M_isKept)) (fun r_2 => (if r_2 = 0 then some ((-1 : Int32), (M_beds, M_law, M_worths, M_sights, M_sight, M_signs, M_pad, M_lies, M_empty, M_list, M_waits, M_yard, M_last, M_used, M_sheets, M_nights, M_fleasOfGuests, M_fleasOfBeds, M_reason, M_row, M_bestRow, M_image, M_isKept)) else (Option.bind (f_X6_in x2 (-1 : Int32) M_signs) (fun r_16 => (if r_16 = 0 then some ((-2 : Int32), (M_beds, M_law, M_worths, M_sights, M_sight, M_signs, M_pad, M_lies, M_empty, M_list, M_waits, M_yard, M_last, M_used, M_sheets, M_nights, M_fleasOfGuests, M_fleasOfBeds, M_reason, M_row, M_bestRow, M_image, M_isKept)) else gJn (fun (z0_J38 : Int32) => (Option.bind (f_X6_barOf z0_J38 (M_beds, M_law, M_worths, M_sights, M_sight, M_signs, M_pad, M_lies, M_empty, M_list, M_waits, M_yard, M_last, M_used, M_sheets, M_nights, M_fleasOfGuests, M_fleasOfBeds, M_reason, M_row, M_bestRow, M_image, M_isKept)) (fun (r_38, (M_beds_38, M_law_38, M_worths_38, M_sights_38, M_sight_38, M_signs_38, M_pad_38, M_lies_38, M_empty_38, M_list_38, M_waits_38, M_yard_38, M_last_38, M_used_38, M_sheets_38, M_nights_38, M_fleasOfGuests_38, M_fleasOfBeds_38, M_reason_38, M_row_38, M_bestRow_38, M_image_38, M_isKept_38)) => (if 0 ≤ r_38 then (if x1 < 0 ∨ 8 ≤ x1.toNatClampNeg then none else some ((M_lies_38 x1.toNatClampNeg), (M_beds_38, M_law_38, M_worths_38, M_sights_38, M_sight_38, M_signs_38, M_pad_38, M_lies_38, M_empty_38, M_list_38, M_waits_38, M_yard_38, M_last_38, M_used_38, M_sheets_38, M_nights_38, M_fleasOfGuests_38, M_fleasOfBeds_38, M_reason_38, M_row_38, M_bestRow_38, M_image_38, M_isKept_38))) else some (r_38, (M_beds_38, M_law_38, M_worths_38, M_sights_38, M_sight_38, M_signs_38, M_pad_38, M_lies_38, M_empty_38, M_list_38, M_waits_38, M_yard_38, M_last_38, M_used_38, M_sheets_38, M_nights_38, M_fleasOfGuests_38, M_fleasOfBeds_38, M_reason_38, M_row_38, M_bestRow_38, M_image_38, M_isKept_38)))))) (fun kJ38 => (if 0 ≤ x2 then kJ38 x2 else kJ38 M_signs))))))))
set_option maxHeartbeats 4000000 in
set_option maxRecDepth 100000 in
theorem c_X6_who (l : Launch) (D : va_G) (cI cZ : ClassId) (aM : Nat → Nat) (x1 : Int32) (x2 : Int32) (tM : ModS) (rr : Int32 × ModS) (hf : f_X6_who x1 x2 tM = some rr) : CT l D cI cZ yX6_who cX6_who 4 (some .int) 6 139 0 0 [.ref (aM 0), .int x1, .int x2] ([mC cI cZ aM tM]) (gPost (some (.int rr.1)) ([mC cI cZ aM rr.2])) := by
  obtain ⟨M_beds, M_law, M_worths, M_sights, M_sight, M_signs, M_pad, M_lies, M_empty, M_list, M_waits, M_yard, M_last, M_used, M_sheets, M_nights, M_fleasOfGuests, M_fleasOfBeds, M_reason, M_row, M_bestRow, M_image, M_isKept⟩ := tM
  rw [f_X6_who] at hf
  refine CT.mkI (by decide) (Nat.le_of_ble_eq_true rfl) fun {p} {e} {R} {s} {m} {args} {below} {meth} {c} {A} {H0} {Q} C hA hR hret => ?_
  show G p l e R s m args below meth c 4 D A H0 0 0 Q [mC cI cZ aM (M_beds, M_law, M_worths, M_sights, M_sight, M_signs, M_pad, M_lies, M_empty, M_list, M_waits, M_yard, M_last, M_used, M_sheets, M_nights, M_fleasOfGuests, M_fleasOfBeds, M_reason, M_row, M_bestRow, M_image, M_isKept)] 0 [(0, .ref (aM 0)), (1, .int x1), (2, .int x2)] []
  refine gq_aload_n C 0 1 dX6_who_0 rfl rfl ?_
  refine gq_iload_n C 1 2 dX6_who_1 rfl rfl ?_
  obtain ⟨r_2, hc, hf⟩ := gq_bd hf
  refine gq_callV C hA gm_X6_71 (c_X6_isBed l D cI cZ aM x1 (M_beds, M_law, M_worths, M_sights, M_sight, M_signs, M_pad, M_lies, M_empty, M_list, M_waits, M_yard, M_last, M_used, M_sheets, M_nights, M_fleasOfGuests, M_fleasOfBeds, M_reason, M_row, M_bestRow, M_image, M_isKept) _ hc) rfl 0 0 rfl rfl rfl ⟨Nat.le_trans (Nat.le_of_ble_eq_true rfl) hR.1, Nat.le_trans (Nat.le_of_ble_eq_true rfl) hR.2.1⟩ ⟨Nat.zero_le _, Nat.zero_le _⟩ rfl (Nat.le_of_ble_eq_true rfl) dX6_who_2 [0] [mC cI cZ aM (M_beds, M_law, M_worths, M_sights, M_sight, M_signs, M_pad, M_lies, M_empty, M_list, M_waits, M_yard, M_last, M_used, M_sheets, M_nights, M_fleasOfGuests, M_fleasOfBeds, M_reason, M_row, M_bestRow, M_image, M_isKept)] 5 rfl (by decide) rfl rfl rfl [.int r_2] rfl ?_
  refine gq_if_ne C 10 8 dX6_who_5 (by decide) rfl (fun h5 => ?_) (fun h5 => ?_)
  · replace hf := gq_ifn h5 hf
    refine gq_iload_n C 2 11 dX6_who_10 rfl rfl ?_
    refine gq_iconst C (-1 : Int32) 12 dX6_who_11 (by decide) rfl ?_
    refine gq_aload_n C 0 13 dX6_who_12 rfl rfl ?_
    refine gq_get C fo_X6_5 fw_X6_74 0 0 16 rfl rfl rfl dX6_who_13 rfl ?_
    obtain ⟨r_16, hc, hf⟩ := gq_bd hf
    refine gq_callS C hA gm_X6_60 (c_X6_in l D cI cZ  x2 (-1 : Int32) M_signs _ hc) rfl ⟨Nat.le_trans (Nat.le_of_ble_eq_true rfl) hR.1, Nat.le_trans (Nat.le_of_ble_eq_true rfl) hR.2.1⟩ ⟨Nat.zero_le _, Nat.zero_le _⟩ rfl (Nat.le_of_ble_eq_true rfl) dX6_who_16 [] [mC cI cZ aM (M_beds, M_law, M_worths, M_sights, M_sight, M_signs, M_pad, M_lies, M_empty, M_list, M_waits, M_yard, M_last, M_used, M_sheets, M_nights, M_fleasOfGuests, M_fleasOfBeds, M_reason, M_row, M_bestRow, M_image, M_isKept)] 19 rfl (by decide) rfl rfl rfl [.int r_16] rfl ?_
    refine gq_if_ne C 25 22 dX6_who_19 (by decide) rfl (fun h19 => ?_) (fun h19 => ?_)
    · replace hf := gq_ifn h19 hf
      refine gq_aload_n C 0 26 dX6_who_25 rfl rfl ?_
      refine gq_iload_n C 2 27 dX6_who_26 rfl rfl ?_
      refine gq_jn (P := fun k => ∀ (z0_J38 : Int32), k z0_J38 = some rr → G p l e R s m args below meth c 4 D A H0 0 0 Q [mC cI cZ aM (M_beds, M_law, M_worths, M_sights, M_sight, M_signs, M_pad, M_lies, M_empty, M_list, M_waits, M_yard, M_last, M_used, M_sheets, M_nights, M_fleasOfGuests, M_fleasOfBeds, M_reason, M_row, M_bestRow, M_image, M_isKept)] 38 [(0, .ref (aM 0)), (1, .int x1), (2, .int x2)] [.int z0_J38, .ref (aM 0)]) hf (fun z0_J38 hf => ?_) (fun kJ38 hJ38 hf => ?_)
      · obtain ⟨⟨r_38, ⟨M_beds_38, M_law_38, M_worths_38, M_sights_38, M_sight_38, M_signs_38, M_pad_38, M_lies_38, M_empty_38, M_list_38, M_waits_38, M_yard_38, M_last_38, M_used_38, M_sheets_38, M_nights_38, M_fleasOfGuests_38, M_fleasOfBeds_38, M_reason_38, M_row_38, M_bestRow_38, M_image_38, M_isKept_38⟩⟩, hc, hf⟩ := gq_bd hf
        refine gq_callV C hA gm_X6_150 (c_X6_barOf l D cI cZ aM z0_J38 (M_beds, M_law, M_worths, M_sights, M_sight, M_signs, M_pad, M_lies, M_empty, M_list, M_waits, M_yard, M_last, M_used, M_sheets, M_nights, M_fleasOfGuests, M_fleasOfBeds, M_reason, M_row, M_bestRow, M_image, M_isKept) _ hc) rfl 0 0 rfl rfl rfl ⟨Nat.le_trans (Nat.le_of_ble_eq_true rfl) hR.1, Nat.le_trans (Nat.le_of_ble_eq_true rfl) hR.2.1⟩ ⟨Nat.zero_le _, Nat.zero_le _⟩ rfl (Nat.le_of_ble_eq_true rfl) dX6_who_38 [0] [mC cI cZ aM (M_beds_38, M_law_38, M_worths_38, M_sights_38, M_sight_38, M_signs_38, M_pad_38, M_lies_38, M_empty_38, M_list_38, M_waits_38, M_yard_38, M_last_38, M_used_38, M_sheets_38, M_nights_38, M_fleasOfGuests_38, M_fleasOfBeds_38, M_reason_38, M_row_38, M_bestRow_38, M_image_38, M_isKept_38)] 41 rfl (by decide) rfl rfl rfl [.int r_38] rfl ?_
        refine gq_istore_n C [(3, .int r_38), (0, .ref (aM 0)), (1, .int x1), (2, .int x2)] 42 dX6_who_41 (by decide) rfl rfl ?_
        refine gq_iload_n C 0 43 dX6_who_42 rfl rfl ?_
        refine gq_if_ge C 50 46 dX6_who_43 (by decide) rfl (fun h43 => ?_) (fun h43 => ?_)
        · replace hf := gq_ifp h43 hf
          refine gq_aload_n C 1 51 dX6_who_50 rfl rfl ?_
          refine gq_get C fo_X6_7 fw_X6_23 0 0 54 rfl rfl rfl dX6_who_51 rfl ?_
          refine gq_iload_n C 2 55 dX6_who_54 rfl rfl ?_
          obtain ⟨h55, hf⟩ := gq_ok hf
          refine gq_iald C 0 4 56 rfl rfl h55 dX6_who_55 rfl ?_
          obtain rfl := gq_lf hf
          exact hret dX6_who_56 gPost.rf
        · replace hf := gq_ifn h43 hf
          refine gq_iload_n C 0 47 dX6_who_46 rfl rfl ?_
          refine gq_goto C 56 dX6_who_47 (by decide) ?_
          obtain rfl := gq_lf hf
          exact hret dX6_who_56 gPost.rf
      · refine gq_if_ge C 37 30 dX6_who_27 (by decide) rfl (fun h27 => ?_) (fun h27 => ?_)
        · replace hf := gq_ifp h27 hf
          refine gq_iload_n C 2 38 dX6_who_37 rfl rfl ?_
          exact hJ38 _ hf
        · replace hf := gq_ifn h27 hf
          refine gq_aload_n C 0 31 dX6_who_30 rfl rfl ?_
          refine gq_get C fo_X6_5 fw_X6_74 0 0 34 rfl rfl rfl dX6_who_31 rfl ?_
          refine gq_goto C 38 dX6_who_34 (by decide) ?_
          exact hJ38 _ hf
    · replace hf := gq_ifp h19 hf
      refine gq_bipush C (-2 : Int32) 24 dX6_who_22 (by decide) rfl ?_
      obtain rfl := gq_lf hf
      exact hret dX6_who_24 gPost.rf
  · replace hf := gq_ifp h5 hf
    refine gq_iconst C (-1 : Int32) 9 dX6_who_8 (by decide) rfl ?_
    obtain rfl := gq_lf hf
    exact hret dX6_who_9 gPost.rf

def f_X6_left : Int32 → Int32 → ModS → Option (Int32 × ModS)
  | x1, x2, (M_beds, M_law, M_worths, M_sights, M_sight, M_signs, M_pad, M_lies, M_empty, M_list, M_waits, M_yard, M_last, M_used, M_sheets, M_nights, M_fleasOfGuests, M_fleasOfBeds, M_reason, M_row, M_bestRow, M_image, M_isKept) => (Option.bind (f_X6_in x1 (-1 : Int32) M_signs) (fun r_6 => (if r_6 = 0 then some ((-2 : Int32), (M_beds, M_law, M_worths, M_sights, M_sight, M_signs, M_pad, M_lies, M_empty, M_list, M_waits, M_yard, M_last, M_used, M_sheets, M_nights, M_fleasOfGuests, M_fleasOfBeds, M_reason, M_row, M_bestRow, M_image, M_isKept)) else gJn (fun (z0_J28 : Int32) => (Option.bind (f_X6_barOf z0_J28 (M_beds, M_law, M_worths, M_sights, M_sight, M_signs, M_pad, M_lies, M_empty, M_list, M_waits, M_yard, M_last, M_used, M_sheets, M_nights, M_fleasOfGuests, M_fleasOfBeds, M_reason, M_row, M_bestRow, M_image, M_isKept)) (fun (r_28, (M_beds_28, M_law_28, M_worths_28, M_sights_28, M_sight_28, M_signs_28, M_pad_28, M_lies_28, M_empty_28, M_list_28, M_waits_28, M_yard_28, M_last_28, M_used_28, M_sheets_28, M_nights_28, M_fleasOfGuests_28, M_fleasOfBeds_28, M_reason_28, M_row_28, M_bestRow_28, M_image_28, M_isKept_28)) => (if 0 ≤ r_28 then (if x2 = (-1 : Int32) then some (M_waits_28, (M_beds_28, M_law_28, M_worths_28, M_sights_28, M_sight_28, M_signs_28, M_pad_28, M_lies_28, M_empty_28, M_list_28, M_waits_28, M_yard_28, M_last_28, M_used_28, M_sheets_28, M_nights_28, M_fleasOfGuests_28, M_fleasOfBeds_28, M_reason_28, M_row_28, M_bestRow_28, M_image_28, M_isKept_28)) else (Option.bind (f_X6_in x2 (nI 0) (M_empty_28 - (nI 1))) (fun r_60 => (if r_60 = 0 then some ((-6 : Int32), (M_beds_28, M_law_28, M_worths_28, M_sights_28, M_sight_28, M_signs_28, M_pad_28, M_lies_28, M_empty_28, M_list_28, M_waits_28, M_yard_28, M_last_28, M_used_28, M_sheets_28, M_nights_28, M_fleasOfGuests_28, M_fleasOfBeds_28, M_reason_28, M_row_28, M_bestRow_28, M_image_28, M_isKept_28)) else (if ((M_empty_28 - (nI 1)) - x2) < 0 ∨ 8 ≤ ((M_empty_28 - (nI 1)) - x2).toNatClampNeg then none else some ((M_list_28 ((M_empty_28 - (nI 1)) - x2).toNatClampNeg), (M_beds_28, M_law_28, M_worths_28, M_sights_28, M_sight_28, M_signs_28, M_pad_28, M_lies_28, M_empty_28, M_list_28, M_waits_28, M_yard_28, M_last_28, M_used_28, M_sheets_28, M_nights_28, M_fleasOfGuests_28, M_fleasOfBeds_28, M_reason_28, M_row_28, M_bestRow_28, M_image_28, M_isKept_28))))))) else some (r_28, (M_beds_28, M_law_28, M_worths_28, M_sights_28, M_sight_28, M_signs_28, M_pad_28, M_lies_28, M_empty_28, M_list_28, M_waits_28, M_yard_28, M_last_28, M_used_28, M_sheets_28, M_nights_28, M_fleasOfGuests_28, M_fleasOfBeds_28, M_reason_28, M_row_28, M_bestRow_28, M_image_28, M_isKept_28)))))) (fun kJ28 => (if 0 ≤ x1 then kJ28 x1 else kJ28 M_signs)))))
set_option maxHeartbeats 4000000 in
set_option maxRecDepth 100000 in
theorem c_X6_left (l : Launch) (D : va_G) (cI cZ : ClassId) (aM : Nat → Nat) (x1 : Int32) (x2 : Int32) (tM : ModS) (rr : Int32 × ModS) (hf : f_X6_left x1 x2 tM = some rr) : CT l D cI cZ yX6_left cX6_left 4 (some .int) 6 139 0 0 [.ref (aM 0), .int x1, .int x2] ([mC cI cZ aM tM]) (gPost (some (.int rr.1)) ([mC cI cZ aM rr.2])) := by
  obtain ⟨M_beds, M_law, M_worths, M_sights, M_sight, M_signs, M_pad, M_lies, M_empty, M_list, M_waits, M_yard, M_last, M_used, M_sheets, M_nights, M_fleasOfGuests, M_fleasOfBeds, M_reason, M_row, M_bestRow, M_image, M_isKept⟩ := tM
  rw [f_X6_left] at hf
  refine CT.mkI (by decide) (Nat.le_of_ble_eq_true rfl) fun {p} {e} {R} {s} {m} {args} {below} {meth} {c} {A} {H0} {Q} C hA hR hret => ?_
  show G p l e R s m args below meth c 4 D A H0 0 0 Q [mC cI cZ aM (M_beds, M_law, M_worths, M_sights, M_sight, M_signs, M_pad, M_lies, M_empty, M_list, M_waits, M_yard, M_last, M_used, M_sheets, M_nights, M_fleasOfGuests, M_fleasOfBeds, M_reason, M_row, M_bestRow, M_image, M_isKept)] 0 [(0, .ref (aM 0)), (1, .int x1), (2, .int x2)] []
  refine gq_iload_n C 1 1 dX6_left_0 rfl rfl ?_
  refine gq_iconst C (-1 : Int32) 2 dX6_left_1 (by decide) rfl ?_
  refine gq_aload_n C 0 3 dX6_left_2 rfl rfl ?_
  refine gq_get C fo_X6_5 fw_X6_74 0 0 6 rfl rfl rfl dX6_left_3 rfl ?_
  obtain ⟨r_6, hc, hf⟩ := gq_bd hf
  refine gq_callS C hA gm_X6_60 (c_X6_in l D cI cZ  x1 (-1 : Int32) M_signs _ hc) rfl ⟨Nat.le_trans (Nat.le_of_ble_eq_true rfl) hR.1, Nat.le_trans (Nat.le_of_ble_eq_true rfl) hR.2.1⟩ ⟨Nat.zero_le _, Nat.zero_le _⟩ rfl (Nat.le_of_ble_eq_true rfl) dX6_left_6 [] [mC cI cZ aM (M_beds, M_law, M_worths, M_sights, M_sight, M_signs, M_pad, M_lies, M_empty, M_list, M_waits, M_yard, M_last, M_used, M_sheets, M_nights, M_fleasOfGuests, M_fleasOfBeds, M_reason, M_row, M_bestRow, M_image, M_isKept)] 9 rfl (by decide) rfl rfl rfl [.int r_6] rfl ?_
  refine gq_if_ne C 15 12 dX6_left_9 (by decide) rfl (fun h9 => ?_) (fun h9 => ?_)
  · replace hf := gq_ifn h9 hf
    refine gq_aload_n C 0 16 dX6_left_15 rfl rfl ?_
    refine gq_iload_n C 1 17 dX6_left_16 rfl rfl ?_
    refine gq_jn (P := fun k => ∀ (z0_J28 : Int32), k z0_J28 = some rr → G p l e R s m args below meth c 4 D A H0 0 0 Q [mC cI cZ aM (M_beds, M_law, M_worths, M_sights, M_sight, M_signs, M_pad, M_lies, M_empty, M_list, M_waits, M_yard, M_last, M_used, M_sheets, M_nights, M_fleasOfGuests, M_fleasOfBeds, M_reason, M_row, M_bestRow, M_image, M_isKept)] 28 [(0, .ref (aM 0)), (1, .int x1), (2, .int x2)] [.int z0_J28, .ref (aM 0)]) hf (fun z0_J28 hf => ?_) (fun kJ28 hJ28 hf => ?_)
    · obtain ⟨⟨r_28, ⟨M_beds_28, M_law_28, M_worths_28, M_sights_28, M_sight_28, M_signs_28, M_pad_28, M_lies_28, M_empty_28, M_list_28, M_waits_28, M_yard_28, M_last_28, M_used_28, M_sheets_28, M_nights_28, M_fleasOfGuests_28, M_fleasOfBeds_28, M_reason_28, M_row_28, M_bestRow_28, M_image_28, M_isKept_28⟩⟩, hc, hf⟩ := gq_bd hf
      refine gq_callV C hA gm_X6_150 (c_X6_barOf l D cI cZ aM z0_J28 (M_beds, M_law, M_worths, M_sights, M_sight, M_signs, M_pad, M_lies, M_empty, M_list, M_waits, M_yard, M_last, M_used, M_sheets, M_nights, M_fleasOfGuests, M_fleasOfBeds, M_reason, M_row, M_bestRow, M_image, M_isKept) _ hc) rfl 0 0 rfl rfl rfl ⟨Nat.le_trans (Nat.le_of_ble_eq_true rfl) hR.1, Nat.le_trans (Nat.le_of_ble_eq_true rfl) hR.2.1⟩ ⟨Nat.zero_le _, Nat.zero_le _⟩ rfl (Nat.le_of_ble_eq_true rfl) dX6_left_28 [0] [mC cI cZ aM (M_beds_28, M_law_28, M_worths_28, M_sights_28, M_sight_28, M_signs_28, M_pad_28, M_lies_28, M_empty_28, M_list_28, M_waits_28, M_yard_28, M_last_28, M_used_28, M_sheets_28, M_nights_28, M_fleasOfGuests_28, M_fleasOfBeds_28, M_reason_28, M_row_28, M_bestRow_28, M_image_28, M_isKept_28)] 31 rfl (by decide) rfl rfl rfl [.int r_28] rfl ?_
      refine gq_istore_n C [(3, .int r_28), (0, .ref (aM 0)), (1, .int x1), (2, .int x2)] 32 dX6_left_31 (by decide) rfl rfl ?_
      refine gq_iload_n C 0 33 dX6_left_32 rfl rfl ?_
      refine gq_if_ge C 40 36 dX6_left_33 (by decide) rfl (fun h33 => ?_) (fun h33 => ?_)
      · replace hf := gq_ifp h33 hf
        refine gq_iload_n C 3 41 dX6_left_40 rfl rfl ?_
        refine gq_iconst C (-1 : Int32) 42 dX6_left_41 (by decide) rfl ?_
        refine gq_icmp_ne C 52 45 dX6_left_42 (by decide) rfl (fun h42 => ?_) (fun h42 => ?_)
        · replace hf := gq_ifn h42 hf
          refine gq_iload_n C 3 53 dX6_left_52 rfl rfl ?_
          refine gq_iconst C (nI 0) 54 dX6_left_53 (by decide) rfl ?_
          refine gq_aload_n C 1 55 dX6_left_54 rfl rfl ?_
          refine gq_get C fo_X6_8 fw_X6_81 0 0 58 rfl rfl rfl dX6_left_55 rfl ?_
          refine gq_iconst C (nI 1) 59 dX6_left_58 (by decide) rfl ?_
          refine gq_isub C 60 dX6_left_59 rfl ?_
          obtain ⟨r_60, hc, hf⟩ := gq_bd hf
          refine gq_callS C hA gm_X6_60 (c_X6_in l D cI cZ  x2 (nI 0) (M_empty_28 - (nI 1)) _ hc) rfl ⟨Nat.le_trans (Nat.le_of_ble_eq_true rfl) hR.1, Nat.le_trans (Nat.le_of_ble_eq_true rfl) hR.2.1⟩ ⟨Nat.zero_le _, Nat.zero_le _⟩ rfl (Nat.le_of_ble_eq_true rfl) dX6_left_60 [] [mC cI cZ aM (M_beds_28, M_law_28, M_worths_28, M_sights_28, M_sight_28, M_signs_28, M_pad_28, M_lies_28, M_empty_28, M_list_28, M_waits_28, M_yard_28, M_last_28, M_used_28, M_sheets_28, M_nights_28, M_fleasOfGuests_28, M_fleasOfBeds_28, M_reason_28, M_row_28, M_bestRow_28, M_image_28, M_isKept_28)] 63 rfl (by decide) rfl rfl rfl [.int r_60] rfl ?_
          refine gq_if_eq C 82 66 dX6_left_63 (by decide) rfl (fun h63 => ?_) (fun h63 => ?_)
          · replace hf := gq_ifp h63 hf
            refine gq_bipush C (-6 : Int32) 84 dX6_left_82 (by decide) rfl ?_
            obtain rfl := gq_lf hf
            exact hret dX6_left_84 gPost.rf
          · replace hf := gq_ifn h63 hf
            refine gq_aload_n C 1 67 dX6_left_66 rfl rfl ?_
            refine gq_get C fo_X6_9 fw_X6_26 0 0 70 rfl rfl rfl dX6_left_67 rfl ?_
            refine gq_aload_n C 1 71 dX6_left_70 rfl rfl ?_
            refine gq_get C fo_X6_8 fw_X6_81 0 0 74 rfl rfl rfl dX6_left_71 rfl ?_
            refine gq_iconst C (nI 1) 75 dX6_left_74 (by decide) rfl ?_
            refine gq_isub C 76 dX6_left_75 rfl ?_
            refine gq_iload_n C 3 77 dX6_left_76 rfl rfl ?_
            refine gq_isub C 78 dX6_left_77 rfl ?_
            obtain ⟨h78, hf⟩ := gq_ok hf
            refine gq_iald C 0 5 79 rfl rfl h78 dX6_left_78 rfl ?_
            refine gq_goto C 84 dX6_left_79 (by decide) ?_
            obtain rfl := gq_lf hf
            exact hret dX6_left_84 gPost.rf
        · replace hf := gq_ifp h42 hf
          refine gq_aload_n C 1 46 dX6_left_45 rfl rfl ?_
          refine gq_get C fo_X6_10 fw_X6_84 0 0 49 rfl rfl rfl dX6_left_46 rfl ?_
          refine gq_goto C 84 dX6_left_49 (by decide) ?_
          obtain rfl := gq_lf hf
          exact hret dX6_left_84 gPost.rf
      · replace hf := gq_ifn h33 hf
        refine gq_iload_n C 0 37 dX6_left_36 rfl rfl ?_
        refine gq_goto C 84 dX6_left_37 (by decide) ?_
        obtain rfl := gq_lf hf
        exact hret dX6_left_84 gPost.rf
    · refine gq_if_ge C 27 20 dX6_left_17 (by decide) rfl (fun h17 => ?_) (fun h17 => ?_)
      · replace hf := gq_ifp h17 hf
        refine gq_iload_n C 1 28 dX6_left_27 rfl rfl ?_
        exact hJ28 _ hf
      · replace hf := gq_ifn h17 hf
        refine gq_aload_n C 0 21 dX6_left_20 rfl rfl ?_
        refine gq_get C fo_X6_5 fw_X6_74 0 0 24 rfl rfl rfl dX6_left_21 rfl ?_
        refine gq_goto C 28 dX6_left_24 (by decide) ?_
        exact hJ28 _ hf
  · replace hf := gq_ifp h9 hf
    refine gq_bipush C (-2 : Int32) 14 dX6_left_12 (by decide) rfl ?_
    obtain rfl := gq_lf hf
    exact hret dX6_left_14 gPost.rf

def f_X6_slept : Int32 → Int32 → ModS → Option (Int32 × ModS)
  | x1, x2, (M_beds, M_law, M_worths, M_sights, M_sight, M_signs, M_pad, M_lies, M_empty, M_list, M_waits, M_yard, M_last, M_used, M_sheets, M_nights, M_fleasOfGuests, M_fleasOfBeds, M_reason, M_row, M_bestRow, M_image, M_isKept) => (Option.bind (f_X6_isBed x1 (M_beds, M_law, M_worths, M_sights, M_sight, M_signs, M_pad, M_lies, M_empty, M_list, M_waits, M_yard, M_last, M_used, M_sheets, M_nights, M_fleasOfGuests, M_fleasOfBeds, M_reason, M_row, M_bestRow, M_image, M_isKept)) (fun r_2 => (if r_2 = 0 then some ((-1 : Int32), (M_beds, M_law, M_worths, M_sights, M_sight, M_signs, M_pad, M_lies, M_empty, M_list, M_waits, M_yard, M_last, M_used, M_sheets, M_nights, M_fleasOfGuests, M_fleasOfBeds, M_reason, M_row, M_bestRow, M_image, M_isKept)) else (Option.bind (f_X6_in x2 (nI 0) (nI 2)) (fun r_13 => (if r_13 = 0 then some ((-2 : Int32), (M_beds, M_law, M_worths, M_sights, M_sight, M_signs, M_pad, M_lies, M_empty, M_list, M_waits, M_yard, M_last, M_used, M_sheets, M_nights, M_fleasOfGuests, M_fleasOfBeds, M_reason, M_row, M_bestRow, M_image, M_isKept)) else (Option.bind (f_X6_barOf M_signs (M_beds, M_law, M_worths, M_sights, M_sight, M_signs, M_pad, M_lies, M_empty, M_list, M_waits, M_yard, M_last, M_used, M_sheets, M_nights, M_fleasOfGuests, M_fleasOfBeds, M_reason, M_row, M_bestRow, M_image, M_isKept)) (fun (r_27, (M_beds_27, M_law_27, M_worths_27, M_sights_27, M_sight_27, M_signs_27, M_pad_27, M_lies_27, M_empty_27, M_list_27, M_waits_27, M_yard_27, M_last_27, M_used_27, M_sheets_27, M_nights_27, M_fleasOfGuests_27, M_fleasOfBeds_27, M_reason_27, M_row_27, M_bestRow_27, M_image_27, M_isKept_27)) => (if 0 ≤ r_27 then (if x2 = 0 then (if x1 < 0 ∨ 8 ≤ x1.toNatClampNeg then none else some ((M_nights_27 x1.toNatClampNeg), (M_beds_27, M_law_27, M_worths_27, M_sights_27, M_sight_27, M_signs_27, M_pad_27, M_lies_27, M_empty_27, M_list_27, M_waits_27, M_yard_27, M_last_27, M_used_27, M_sheets_27, M_nights_27, M_fleasOfGuests_27, M_fleasOfBeds_27, M_reason_27, M_row_27, M_bestRow_27, M_image_27, M_isKept_27))) else (if x2 = (nI 1) then (if x1 < 0 ∨ 8 ≤ x1.toNatClampNeg then none else some ((M_used_27 x1.toNatClampNeg), (M_beds_27, M_law_27, M_worths_27, M_sights_27, M_sight_27, M_signs_27, M_pad_27, M_lies_27, M_empty_27, M_list_27, M_waits_27, M_yard_27, M_last_27, M_used_27, M_sheets_27, M_nights_27, M_fleasOfGuests_27, M_fleasOfBeds_27, M_reason_27, M_row_27, M_bestRow_27, M_image_27, M_isKept_27))) else (if x1 < 0 ∨ 8 ≤ x1.toNatClampNeg then none else some ((M_sheets_27 x1.toNatClampNeg), (M_beds_27, M_law_27, M_worths_27, M_sights_27, M_sight_27, M_signs_27, M_pad_27, M_lies_27, M_empty_27, M_list_27, M_waits_27, M_yard_27, M_last_27, M_used_27, M_sheets_27, M_nights_27, M_fleasOfGuests_27, M_fleasOfBeds_27, M_reason_27, M_row_27, M_bestRow_27, M_image_27, M_isKept_27))))) else some (r_27, (M_beds_27, M_law_27, M_worths_27, M_sights_27, M_sight_27, M_signs_27, M_pad_27, M_lies_27, M_empty_27, M_list_27, M_waits_27, M_yard_27, M_last_27, M_used_27, M_sheets_27, M_nights_27, M_fleasOfGuests_27, M_fleasOfBeds_27, M_reason_27, M_row_27, M_bestRow_27, M_image_27, M_isKept_27)))))))))))
set_option maxHeartbeats 4000000 in
set_option maxRecDepth 100000 in
theorem c_X6_slept (l : Launch) (D : va_G) (cI cZ : ClassId) (aM : Nat → Nat) (x1 : Int32) (x2 : Int32) (tM : ModS) (rr : Int32 × ModS) (hf : f_X6_slept x1 x2 tM = some rr) : CT l D cI cZ yX6_slept cX6_slept 4 (some .int) 6 139 0 0 [.ref (aM 0), .int x1, .int x2] ([mC cI cZ aM tM]) (gPost (some (.int rr.1)) ([mC cI cZ aM rr.2])) := by
  obtain ⟨M_beds, M_law, M_worths, M_sights, M_sight, M_signs, M_pad, M_lies, M_empty, M_list, M_waits, M_yard, M_last, M_used, M_sheets, M_nights, M_fleasOfGuests, M_fleasOfBeds, M_reason, M_row, M_bestRow, M_image, M_isKept⟩ := tM
  rw [f_X6_slept] at hf
  refine CT.mkI (by decide) (Nat.le_of_ble_eq_true rfl) fun {p} {e} {R} {s} {m} {args} {below} {meth} {c} {A} {H0} {Q} C hA hR hret => ?_
  show G p l e R s m args below meth c 4 D A H0 0 0 Q [mC cI cZ aM (M_beds, M_law, M_worths, M_sights, M_sight, M_signs, M_pad, M_lies, M_empty, M_list, M_waits, M_yard, M_last, M_used, M_sheets, M_nights, M_fleasOfGuests, M_fleasOfBeds, M_reason, M_row, M_bestRow, M_image, M_isKept)] 0 [(0, .ref (aM 0)), (1, .int x1), (2, .int x2)] []
  refine gq_aload_n C 0 1 dX6_slept_0 rfl rfl ?_
  refine gq_iload_n C 1 2 dX6_slept_1 rfl rfl ?_
  obtain ⟨r_2, hc, hf⟩ := gq_bd hf
  refine gq_callV C hA gm_X6_71 (c_X6_isBed l D cI cZ aM x1 (M_beds, M_law, M_worths, M_sights, M_sight, M_signs, M_pad, M_lies, M_empty, M_list, M_waits, M_yard, M_last, M_used, M_sheets, M_nights, M_fleasOfGuests, M_fleasOfBeds, M_reason, M_row, M_bestRow, M_image, M_isKept) _ hc) rfl 0 0 rfl rfl rfl ⟨Nat.le_trans (Nat.le_of_ble_eq_true rfl) hR.1, Nat.le_trans (Nat.le_of_ble_eq_true rfl) hR.2.1⟩ ⟨Nat.zero_le _, Nat.zero_le _⟩ rfl (Nat.le_of_ble_eq_true rfl) dX6_slept_2 [0] [mC cI cZ aM (M_beds, M_law, M_worths, M_sights, M_sight, M_signs, M_pad, M_lies, M_empty, M_list, M_waits, M_yard, M_last, M_used, M_sheets, M_nights, M_fleasOfGuests, M_fleasOfBeds, M_reason, M_row, M_bestRow, M_image, M_isKept)] 5 rfl (by decide) rfl rfl rfl [.int r_2] rfl ?_
  refine gq_if_ne C 10 8 dX6_slept_5 (by decide) rfl (fun h5 => ?_) (fun h5 => ?_)
  · replace hf := gq_ifn h5 hf
    refine gq_iload_n C 2 11 dX6_slept_10 rfl rfl ?_
    refine gq_iconst C (nI 0) 12 dX6_slept_11 (by decide) rfl ?_
    refine gq_iconst C (nI 2) 13 dX6_slept_12 (by decide) rfl ?_
    obtain ⟨r_13, hc, hf⟩ := gq_bd hf
    refine gq_callS C hA gm_X6_60 (c_X6_in l D cI cZ  x2 (nI 0) (nI 2) _ hc) rfl ⟨Nat.le_trans (Nat.le_of_ble_eq_true rfl) hR.1, Nat.le_trans (Nat.le_of_ble_eq_true rfl) hR.2.1⟩ ⟨Nat.zero_le _, Nat.zero_le _⟩ rfl (Nat.le_of_ble_eq_true rfl) dX6_slept_13 [] [mC cI cZ aM (M_beds, M_law, M_worths, M_sights, M_sight, M_signs, M_pad, M_lies, M_empty, M_list, M_waits, M_yard, M_last, M_used, M_sheets, M_nights, M_fleasOfGuests, M_fleasOfBeds, M_reason, M_row, M_bestRow, M_image, M_isKept)] 16 rfl (by decide) rfl rfl rfl [.int r_13] rfl ?_
    refine gq_if_ne C 22 19 dX6_slept_16 (by decide) rfl (fun h16 => ?_) (fun h16 => ?_)
    · replace hf := gq_ifn h16 hf
      refine gq_aload_n C 0 23 dX6_slept_22 rfl rfl ?_
      refine gq_aload_n C 0 24 dX6_slept_23 rfl rfl ?_
      refine gq_get C fo_X6_5 fw_X6_74 0 0 27 rfl rfl rfl dX6_slept_24 rfl ?_
      obtain ⟨⟨r_27, ⟨M_beds_27, M_law_27, M_worths_27, M_sights_27, M_sight_27, M_signs_27, M_pad_27, M_lies_27, M_empty_27, M_list_27, M_waits_27, M_yard_27, M_last_27, M_used_27, M_sheets_27, M_nights_27, M_fleasOfGuests_27, M_fleasOfBeds_27, M_reason_27, M_row_27, M_bestRow_27, M_image_27, M_isKept_27⟩⟩, hc, hf⟩ := gq_bd hf
      refine gq_callV C hA gm_X6_150 (c_X6_barOf l D cI cZ aM M_signs (M_beds, M_law, M_worths, M_sights, M_sight, M_signs, M_pad, M_lies, M_empty, M_list, M_waits, M_yard, M_last, M_used, M_sheets, M_nights, M_fleasOfGuests, M_fleasOfBeds, M_reason, M_row, M_bestRow, M_image, M_isKept) _ hc) rfl 0 0 rfl rfl rfl ⟨Nat.le_trans (Nat.le_of_ble_eq_true rfl) hR.1, Nat.le_trans (Nat.le_of_ble_eq_true rfl) hR.2.1⟩ ⟨Nat.zero_le _, Nat.zero_le _⟩ rfl (Nat.le_of_ble_eq_true rfl) dX6_slept_27 [0] [mC cI cZ aM (M_beds_27, M_law_27, M_worths_27, M_sights_27, M_sight_27, M_signs_27, M_pad_27, M_lies_27, M_empty_27, M_list_27, M_waits_27, M_yard_27, M_last_27, M_used_27, M_sheets_27, M_nights_27, M_fleasOfGuests_27, M_fleasOfBeds_27, M_reason_27, M_row_27, M_bestRow_27, M_image_27, M_isKept_27)] 30 rfl (by decide) rfl rfl rfl [.int r_27] rfl ?_
      refine gq_istore_n C [(3, .int r_27), (0, .ref (aM 0)), (1, .int x1), (2, .int x2)] 31 dX6_slept_30 (by decide) rfl rfl ?_
      refine gq_iload_n C 0 32 dX6_slept_31 rfl rfl ?_
      refine gq_if_ge C 39 35 dX6_slept_32 (by decide) rfl (fun h32 => ?_) (fun h32 => ?_)
      · replace hf := gq_ifp h32 hf
        refine gq_iload_n C 3 40 dX6_slept_39 rfl rfl ?_
        refine gq_if_ne C 52 43 dX6_slept_40 (by decide) rfl (fun h40 => ?_) (fun h40 => ?_)
        · replace hf := gq_ifn h40 hf
          refine gq_iload_n C 3 53 dX6_slept_52 rfl rfl ?_
          refine gq_iconst C (nI 1) 54 dX6_slept_53 (by decide) rfl ?_
          refine gq_icmp_ne C 66 57 dX6_slept_54 (by decide) rfl (fun h54 => ?_) (fun h54 => ?_)
          · replace hf := gq_ifn h54 hf
            refine gq_aload_n C 1 67 dX6_slept_66 rfl rfl ?_
            refine gq_get C fo_X6_14 fw_X6_38 0 0 70 rfl rfl rfl dX6_slept_67 rfl ?_
            refine gq_iload_n C 2 71 dX6_slept_70 rfl rfl ?_
            obtain ⟨h71, hf⟩ := gq_ok hf
            refine gq_iald C 0 9 72 rfl rfl h71 dX6_slept_71 rfl ?_
            obtain rfl := gq_lf hf
            exact hret dX6_slept_72 gPost.rf
          · replace hf := gq_ifp h54 hf
            refine gq_aload_n C 1 58 dX6_slept_57 rfl rfl ?_
            refine gq_get C fo_X6_13 fw_X6_35 0 0 61 rfl rfl rfl dX6_slept_58 rfl ?_
            refine gq_iload_n C 2 62 dX6_slept_61 rfl rfl ?_
            obtain ⟨h62, hf⟩ := gq_ok hf
            refine gq_iald C 0 8 63 rfl rfl h62 dX6_slept_62 rfl ?_
            refine gq_goto C 72 dX6_slept_63 (by decide) ?_
            obtain rfl := gq_lf hf
            exact hret dX6_slept_72 gPost.rf
        · replace hf := gq_ifp h40 hf
          refine gq_aload_n C 1 44 dX6_slept_43 rfl rfl ?_
          refine gq_get C fo_X6_15 fw_X6_41 0 0 47 rfl rfl rfl dX6_slept_44 rfl ?_
          refine gq_iload_n C 2 48 dX6_slept_47 rfl rfl ?_
          obtain ⟨h48, hf⟩ := gq_ok hf
          refine gq_iald C 0 10 49 rfl rfl h48 dX6_slept_48 rfl ?_
          refine gq_goto C 72 dX6_slept_49 (by decide) ?_
          obtain rfl := gq_lf hf
          exact hret dX6_slept_72 gPost.rf
      · replace hf := gq_ifn h32 hf
        refine gq_iload_n C 0 36 dX6_slept_35 rfl rfl ?_
        refine gq_goto C 72 dX6_slept_36 (by decide) ?_
        obtain rfl := gq_lf hf
        exact hret dX6_slept_72 gPost.rf
    · replace hf := gq_ifp h16 hf
      refine gq_bipush C (-2 : Int32) 21 dX6_slept_19 (by decide) rfl ?_
      obtain rfl := gq_lf hf
      exact hret dX6_slept_21 gPost.rf
  · replace hf := gq_ifp h5 hf
    refine gq_iconst C (-1 : Int32) 9 dX6_slept_8 (by decide) rfl ?_
    obtain rfl := gq_lf hf
    exact hret dX6_slept_9 gPost.rf

def f_X6_fewest_L86 (c_M_beds : Int32) (c_M_sheets : (Nat → Int32)) : Nat → Int32 → Int32 → (Int32 → Int32 → Option (Int32 × ModS)) → Option (Int32 × ModS)
  | 0, _, _, _ => none
  | nL86 + 1, x8_L86, x9_L86, kL86 => (if c_M_beds ≤ x9_L86 then kL86 x8_L86 x9_L86 else (if x9_L86 < 0 ∨ 8 ≤ x9_L86.toNatClampNeg then none else f_X6_fewest_L86 c_M_beds c_M_sheets nL86 (x8_L86 + (c_M_sheets x9_L86.toNatClampNeg)) (x9_L86 + (nI 1)) kL86))
def f_X6_fewest_L43  : Nat → Int32 → Int32 → Int32 → Int32 → Int32 → (Nat → Int32) → Int32 → (Nat → Int32) → Int32 → (Nat → Int32) → (Nat → Int32) → Int32 → (Nat → Int32) → Int32 → (Nat → Int32) → (Nat → Int32) → (Nat → Int32) → (Nat → Int32) → (Nat → Int32) → Int32 → Int32 → Int32 → (Nat → Int32) → (Nat → Int32) → (Nat → Int32) → (Nat → Int32) → (Int32 → Int32 → Int32 → Int32 → Int32 → (Nat → Int32) → Int32 → (Nat → Int32) → Int32 → (Nat → Int32) → (Nat → Int32) → Int32 → (Nat → Int32) → Int32 → (Nat → Int32) → (Nat → Int32) → (Nat → Int32) → (Nat → Int32) → (Nat → Int32) → Int32 → Int32 → Int32 → (Nat → Int32) → (Nat → Int32) → (Nat → Int32) → (Nat → Int32) → Option (Int32 × ModS)) → Option (Int32 × ModS)
  | 0, _, _, _, _, _, _, _, _, _, _, _, _, _, _, _, _, _, _, _, _, _, _, _, _, _, _, _ => none
  | nL43 + 1, x4_L43, x5_L43, x6_L43, M_beds_L43, M_law_L43, M_worths_L43, M_sights_L43, M_sight_L43, M_signs_L43, M_pad_L43, M_lies_L43, M_empty_L43, M_list_L43, M_waits_L43, M_yard_L43, M_last_L43, M_used_L43, M_sheets_L43, M_nights_L43, M_fleasOfGuests_L43, M_fleasOfBeds_L43, M_reason_L43, M_row_L43, M_bestRow_L43, M_image_L43, M_isKept_L43, kL43 => (if (nI 4) ≤ x6_L43 then kL43 x4_L43 x5_L43 x6_L43 M_beds_L43 M_law_L43 M_worths_L43 M_sights_L43 M_sight_L43 M_signs_L43 M_pad_L43 M_lies_L43 M_empty_L43 M_list_L43 M_waits_L43 M_yard_L43 M_last_L43 M_used_L43 M_sheets_L43 M_nights_L43 M_fleasOfGuests_L43 M_fleasOfBeds_L43 M_reason_L43 M_row_L43 M_bestRow_L43 M_image_L43 M_isKept_L43 else (Option.bind (f_X6_go M_signs_L43 (nI 0) (-6 : Int32) (nI 0) (M_beds_L43, x6_L43, M_worths_L43, M_sights_L43, M_sight_L43, M_signs_L43, M_pad_L43, M_lies_L43, M_empty_L43, M_list_L43, M_waits_L43, M_yard_L43, M_last_L43, M_used_L43, M_sheets_L43, M_nights_L43, M_fleasOfGuests_L43, M_fleasOfBeds_L43, M_reason_L43, M_row_L43, M_bestRow_L43, M_image_L43, M_isKept_L43)) (fun (r_64, (M_beds_64, M_law_64, M_worths_64, M_sights_64, M_sight_64, M_signs_64, M_pad_64, M_lies_64, M_empty_64, M_list_64, M_waits_64, M_yard_64, M_last_64, M_used_64, M_sheets_64, M_nights_64, M_fleasOfGuests_64, M_fleasOfBeds_64, M_reason_64, M_row_64, M_bestRow_64, M_image_64, M_isKept_64)) => gJn (fun (z0_J81 : Int32) => f_X6_fewest_L86 M_beds_64 M_sheets_64 FU z0_J81 (nI 0) (fun x8_L86 x9_L86 => gJn (fun (z0_J132 : Int32) => (if x5_L43 < 0 then f_X6_fewest_L43  nL43 z0_J132 x8_L86 (x6_L43 + (nI 1)) M_beds_64 M_law_64 M_worths_64 M_sights_64 M_sight_64 M_signs_64 M_pad_64 M_lies_64 M_empty_64 M_list_64 M_waits_64 M_yard_64 M_last_64 M_used_64 M_sheets_64 M_nights_64 M_fleasOfGuests_64 M_fleasOfBeds_64 M_reason_64 M_row_64 M_bestRow_64 M_image_64 M_isKept_64 kL43 else (if x5_L43 ≤ x8_L86 then f_X6_fewest_L43  nL43 z0_J132 x5_L43 (x6_L43 + (nI 1)) M_beds_64 M_law_64 M_worths_64 M_sights_64 M_sight_64 M_signs_64 M_pad_64 M_lies_64 M_empty_64 M_list_64 M_waits_64 M_yard_64 M_last_64 M_used_64 M_sheets_64 M_nights_64 M_fleasOfGuests_64 M_fleasOfBeds_64 M_reason_64 M_row_64 M_bestRow_64 M_image_64 M_isKept_64 kL43 else f_X6_fewest_L43  nL43 z0_J132 x8_L86 (x6_L43 + (nI 1)) M_beds_64 M_law_64 M_worths_64 M_sights_64 M_sight_64 M_signs_64 M_pad_64 M_lies_64 M_empty_64 M_list_64 M_waits_64 M_yard_64 M_last_64 M_used_64 M_sheets_64 M_nights_64 M_fleasOfGuests_64 M_fleasOfBeds_64 M_reason_64 M_row_64 M_bestRow_64 M_image_64 M_isKept_64 kL43))) (fun kJ132 => (if x4_L43 < 0 then kJ132 x6_L43 else (if x5_L43 ≤ x8_L86 then kJ132 x4_L43 else kJ132 x6_L43))))) (fun kJ81 => (if 0 ≤ r_64 then kJ81 (nI 1000) else kJ81 (nI 0))))))
def f_X6_fewest : Int32 → ModS → Option (Int32 × ModS)
  | x1, (M_beds, M_law, M_worths, M_sights, M_sight, M_signs, M_pad, M_lies, M_empty, M_list, M_waits, M_yard, M_last, M_used, M_sheets, M_nights, M_fleasOfGuests, M_fleasOfBeds, M_reason, M_row, M_bestRow, M_image, M_isKept) => (Option.bind (f_X6_in x1 (nI 0) (nI 1)) (fun r_3 => (if r_3 = 0 then some ((-2 : Int32), (M_beds, M_law, M_worths, M_sights, M_sight, M_signs, M_pad, M_lies, M_empty, M_list, M_waits, M_yard, M_last, M_used, M_sheets, M_nights, M_fleasOfGuests, M_fleasOfBeds, M_reason, M_row, M_bestRow, M_image, M_isKept)) else (Option.bind (f_X6_barOf M_signs (M_beds, M_law, M_worths, M_sights, M_sight, M_signs, M_pad, M_lies, M_empty, M_list, M_waits, M_yard, M_last, M_used, M_sheets, M_nights, M_fleasOfGuests, M_fleasOfBeds, M_reason, M_row, M_bestRow, M_image, M_isKept)) (fun (r_17, (M_beds_17, M_law_17, M_worths_17, M_sights_17, M_sight_17, M_signs_17, M_pad_17, M_lies_17, M_empty_17, M_list_17, M_waits_17, M_yard_17, M_last_17, M_used_17, M_sheets_17, M_nights_17, M_fleasOfGuests_17, M_fleasOfBeds_17, M_reason_17, M_row_17, M_bestRow_17, M_image_17, M_isKept_17)) => (if 0 ≤ r_17 then f_X6_fewest_L43  FU (-6 : Int32) (-6 : Int32) (nI 0) M_beds_17 M_law_17 M_worths_17 M_sights_17 M_sight_17 M_signs_17 M_pad_17 M_lies_17 M_empty_17 M_list_17 M_waits_17 M_yard_17 M_last_17 M_used_17 M_sheets_17 M_nights_17 M_fleasOfGuests_17 M_fleasOfBeds_17 M_reason_17 M_row_17 M_bestRow_17 M_image_17 M_isKept_17 (fun x4_L43 x5_L43 x6_L43 M_beds_L43 M_law_L43 M_worths_L43 M_sights_L43 M_sight_L43 M_signs_L43 M_pad_L43 M_lies_L43 M_empty_L43 M_list_L43 M_waits_L43 M_yard_L43 M_last_L43 M_used_L43 M_sheets_L43 M_nights_L43 M_fleasOfGuests_L43 M_fleasOfBeds_L43 M_reason_L43 M_row_L43 M_bestRow_L43 M_image_L43 M_isKept_L43 => (if x1 = 0 then some (x4_L43, (M_beds_L43, M_law_17, M_worths_L43, M_sights_L43, M_sight_L43, M_signs_L43, M_pad_L43, M_lies_L43, M_empty_L43, M_list_L43, M_waits_L43, M_yard_L43, M_last_L43, M_used_L43, M_sheets_L43, M_nights_L43, M_fleasOfGuests_L43, M_fleasOfBeds_L43, M_reason_L43, M_row_L43, M_bestRow_L43, M_image_L43, M_isKept_L43)) else some (x5_L43, (M_beds_L43, M_law_17, M_worths_L43, M_sights_L43, M_sight_L43, M_signs_L43, M_pad_L43, M_lies_L43, M_empty_L43, M_list_L43, M_waits_L43, M_yard_L43, M_last_L43, M_used_L43, M_sheets_L43, M_nights_L43, M_fleasOfGuests_L43, M_fleasOfBeds_L43, M_reason_L43, M_row_L43, M_bestRow_L43, M_image_L43, M_isKept_L43)))) else some (r_17, (M_beds_17, M_law_17, M_worths_17, M_sights_17, M_sight_17, M_signs_17, M_pad_17, M_lies_17, M_empty_17, M_list_17, M_waits_17, M_yard_17, M_last_17, M_used_17, M_sheets_17, M_nights_17, M_fleasOfGuests_17, M_fleasOfBeds_17, M_reason_17, M_row_17, M_bestRow_17, M_image_17, M_isKept_17))))))))
set_option maxHeartbeats 4000000 in
set_option maxRecDepth 100000 in
theorem c_X6_fewest (l : Launch) (D : va_G) (cI cZ : ClassId) (aM : Nat → Nat) (x1 : Int32) (tM : ModS) (rr : Int32 × ModS) (hf : f_X6_fewest x1 tM = some rr) : CT l D cI cZ yX6_fewest cX6_fewest 10 (some .int) 6 139 0 0 [.ref (aM 0), .int x1] ([mC cI cZ aM tM]) (gPost (some (.int rr.1)) ([mC cI cZ aM rr.2])) := by
  obtain ⟨M_beds, M_law, M_worths, M_sights, M_sight, M_signs, M_pad, M_lies, M_empty, M_list, M_waits, M_yard, M_last, M_used, M_sheets, M_nights, M_fleasOfGuests, M_fleasOfBeds, M_reason, M_row, M_bestRow, M_image, M_isKept⟩ := tM
  rw [f_X6_fewest] at hf
  refine CT.mkI (by decide) (Nat.le_of_ble_eq_true rfl) fun {p} {e} {R} {s} {m} {args} {below} {meth} {c} {A} {H0} {Q} C hA hR hret => ?_
  show G p l e R s m args below meth c 10 D A H0 0 0 Q [mC cI cZ aM (M_beds, M_law, M_worths, M_sights, M_sight, M_signs, M_pad, M_lies, M_empty, M_list, M_waits, M_yard, M_last, M_used, M_sheets, M_nights, M_fleasOfGuests, M_fleasOfBeds, M_reason, M_row, M_bestRow, M_image, M_isKept)] 0 [(0, .ref (aM 0)), (1, .int x1)] []
  refine gq_iload_n C 1 1 dX6_fewest_0 rfl rfl ?_
  refine gq_iconst C (nI 0) 2 dX6_fewest_1 (by decide) rfl ?_
  refine gq_iconst C (nI 1) 3 dX6_fewest_2 (by decide) rfl ?_
  obtain ⟨r_3, hc, hf⟩ := gq_bd hf
  refine gq_callS C hA gm_X6_60 (c_X6_in l D cI cZ  x1 (nI 0) (nI 1) _ hc) rfl ⟨Nat.le_trans (Nat.le_of_ble_eq_true rfl) hR.1, Nat.le_trans (Nat.le_of_ble_eq_true rfl) hR.2.1⟩ ⟨Nat.zero_le _, Nat.zero_le _⟩ rfl (Nat.le_of_ble_eq_true rfl) dX6_fewest_3 [] [mC cI cZ aM (M_beds, M_law, M_worths, M_sights, M_sight, M_signs, M_pad, M_lies, M_empty, M_list, M_waits, M_yard, M_last, M_used, M_sheets, M_nights, M_fleasOfGuests, M_fleasOfBeds, M_reason, M_row, M_bestRow, M_image, M_isKept)] 6 rfl (by decide) rfl rfl rfl [.int r_3] rfl ?_
  refine gq_if_ne C 12 9 dX6_fewest_6 (by decide) rfl (fun h6 => ?_) (fun h6 => ?_)
  · replace hf := gq_ifn h6 hf
    refine gq_aload_n C 0 13 dX6_fewest_12 rfl rfl ?_
    refine gq_aload_n C 0 14 dX6_fewest_13 rfl rfl ?_
    refine gq_get C fo_X6_5 fw_X6_74 0 0 17 rfl rfl rfl dX6_fewest_14 rfl ?_
    obtain ⟨⟨r_17, ⟨M_beds_17, M_law_17, M_worths_17, M_sights_17, M_sight_17, M_signs_17, M_pad_17, M_lies_17, M_empty_17, M_list_17, M_waits_17, M_yard_17, M_last_17, M_used_17, M_sheets_17, M_nights_17, M_fleasOfGuests_17, M_fleasOfBeds_17, M_reason_17, M_row_17, M_bestRow_17, M_image_17, M_isKept_17⟩⟩, hc, hf⟩ := gq_bd hf
    refine gq_callV C hA gm_X6_150 (c_X6_barOf l D cI cZ aM M_signs (M_beds, M_law, M_worths, M_sights, M_sight, M_signs, M_pad, M_lies, M_empty, M_list, M_waits, M_yard, M_last, M_used, M_sheets, M_nights, M_fleasOfGuests, M_fleasOfBeds, M_reason, M_row, M_bestRow, M_image, M_isKept) _ hc) rfl 0 0 rfl rfl rfl ⟨Nat.le_trans (Nat.le_of_ble_eq_true rfl) hR.1, Nat.le_trans (Nat.le_of_ble_eq_true rfl) hR.2.1⟩ ⟨Nat.zero_le _, Nat.zero_le _⟩ rfl (Nat.le_of_ble_eq_true rfl) dX6_fewest_17 [0] [mC cI cZ aM (M_beds_17, M_law_17, M_worths_17, M_sights_17, M_sight_17, M_signs_17, M_pad_17, M_lies_17, M_empty_17, M_list_17, M_waits_17, M_yard_17, M_last_17, M_used_17, M_sheets_17, M_nights_17, M_fleasOfGuests_17, M_fleasOfBeds_17, M_reason_17, M_row_17, M_bestRow_17, M_image_17, M_isKept_17)] 20 rfl (by decide) rfl rfl rfl [.int r_17] rfl ?_
    refine gq_istore_n C [(2, .int r_17), (0, .ref (aM 0)), (1, .int x1)] 21 dX6_fewest_20 (by decide) rfl rfl ?_
    refine gq_iload_n C 0 22 dX6_fewest_21 rfl rfl ?_
    refine gq_if_ge C 27 25 dX6_fewest_22 (by decide) rfl (fun h22 => ?_) (fun h22 => ?_)
    · replace hf := gq_ifp h22 hf
      refine gq_aload_n C 1 28 dX6_fewest_27 rfl rfl ?_
      refine gq_get C fo_X6_1 fw_X6_57 0 0 31 rfl rfl rfl dX6_fewest_28 rfl ?_
      refine gq_istore_n C [(3, .int M_law_17), (2, .int r_17), (0, .ref (aM 0)), (1, .int x1)] 32 dX6_fewest_31 (by decide) rfl rfl ?_
      refine gq_bipush C (-6 : Int32) 34 dX6_fewest_32 (by decide) rfl ?_
      refine gq_istore C [(4, .int (-6 : Int32)), (3, .int M_law_17), (2, .int r_17), (0, .ref (aM 0)), (1, .int x1)] 36 dX6_fewest_34 (by decide) rfl rfl ?_
      refine gq_bipush C (-6 : Int32) 38 dX6_fewest_36 (by decide) rfl ?_
      refine gq_istore C [(5, .int (-6 : Int32)), (4, .int (-6 : Int32)), (3, .int M_law_17), (2, .int r_17), (0, .ref (aM 0)), (1, .int x1)] 40 dX6_fewest_38 (by decide) rfl rfl ?_
      refine gq_iconst C (nI 0) 41 dX6_fewest_40 (by decide) rfl ?_
      refine gq_istore C [(6, .int (nI 0)), (5, .int (-6 : Int32)), (4, .int (-6 : Int32)), (3, .int M_law_17), (2, .int r_17), (0, .ref (aM 0)), (1, .int x1)] 43 dX6_fewest_41 (by decide) rfl rfl ?_
      have L43 : ∀ (kL : Int32 → Int32 → Int32 → Int32 → Int32 → (Nat → Int32) → Int32 → (Nat → Int32) → Int32 → (Nat → Int32) → (Nat → Int32) → Int32 → (Nat → Int32) → Int32 → (Nat → Int32) → (Nat → Int32) → (Nat → Int32) → (Nat → Int32) → (Nat → Int32) → Int32 → Int32 → Int32 → (Nat → Int32) → (Nat → Int32) → (Nat → Int32) → (Nat → Int32) → Option (Int32 × ModS)), (∀ (x4_L43 : Int32) (x5_L43 : Int32) (x6_L43 : Int32) (M_beds_L43 : Int32) (M_law_L43 : Int32) (M_worths_L43 : (Nat → Int32)) (M_sights_L43 : Int32) (M_sight_L43 : (Nat → Int32)) (M_signs_L43 : Int32) (M_pad_L43 : (Nat → Int32)) (M_lies_L43 : (Nat → Int32)) (M_empty_L43 : Int32) (M_list_L43 : (Nat → Int32)) (M_waits_L43 : Int32) (M_yard_L43 : (Nat → Int32)) (M_last_L43 : (Nat → Int32)) (M_used_L43 : (Nat → Int32)) (M_sheets_L43 : (Nat → Int32)) (M_nights_L43 : (Nat → Int32)) (M_fleasOfGuests_L43 : Int32) (M_fleasOfBeds_L43 : Int32) (M_reason_L43 : Int32) (M_row_L43 : (Nat → Int32)) (M_bestRow_L43 : (Nat → Int32)) (M_image_L43 : (Nat → Int32)) (M_isKept_L43 : (Nat → Int32)), kL x4_L43 x5_L43 x6_L43 M_beds_L43 M_law_L43 M_worths_L43 M_sights_L43 M_sight_L43 M_signs_L43 M_pad_L43 M_lies_L43 M_empty_L43 M_list_L43 M_waits_L43 M_yard_L43 M_last_L43 M_used_L43 M_sheets_L43 M_nights_L43 M_fleasOfGuests_L43 M_fleasOfBeds_L43 M_reason_L43 M_row_L43 M_bestRow_L43 M_image_L43 M_isKept_L43 = some rr → G p l e R s m args below meth c 10 D A H0 0 0 Q [mC cI cZ aM (M_beds_L43, M_law_L43, M_worths_L43, M_sights_L43, M_sight_L43, M_signs_L43, M_pad_L43, M_lies_L43, M_empty_L43, M_list_L43, M_waits_L43, M_yard_L43, M_last_L43, M_used_L43, M_sheets_L43, M_nights_L43, M_fleasOfGuests_L43, M_fleasOfBeds_L43, M_reason_L43, M_row_L43, M_bestRow_L43, M_image_L43, M_isKept_L43)] 161 [(6, .int x6_L43), (5, .int x5_L43), (4, .int x4_L43), (3, .int M_law_17), (2, .int r_17), (0, .ref (aM 0)), (1, .int x1)] []) → ∀ (n : Nat) (x4_L43 : Int32) (x5_L43 : Int32) (x6_L43 : Int32) (M_beds_L43 : Int32) (M_law_L43 : Int32) (M_worths_L43 : (Nat → Int32)) (M_sights_L43 : Int32) (M_sight_L43 : (Nat → Int32)) (M_signs_L43 : Int32) (M_pad_L43 : (Nat → Int32)) (M_lies_L43 : (Nat → Int32)) (M_empty_L43 : Int32) (M_list_L43 : (Nat → Int32)) (M_waits_L43 : Int32) (M_yard_L43 : (Nat → Int32)) (M_last_L43 : (Nat → Int32)) (M_used_L43 : (Nat → Int32)) (M_sheets_L43 : (Nat → Int32)) (M_nights_L43 : (Nat → Int32)) (M_fleasOfGuests_L43 : Int32) (M_fleasOfBeds_L43 : Int32) (M_reason_L43 : Int32) (M_row_L43 : (Nat → Int32)) (M_bestRow_L43 : (Nat → Int32)) (M_image_L43 : (Nat → Int32)) (M_isKept_L43 : (Nat → Int32)), f_X6_fewest_L43  n x4_L43 x5_L43 x6_L43 M_beds_L43 M_law_L43 M_worths_L43 M_sights_L43 M_sight_L43 M_signs_L43 M_pad_L43 M_lies_L43 M_empty_L43 M_list_L43 M_waits_L43 M_yard_L43 M_last_L43 M_used_L43 M_sheets_L43 M_nights_L43 M_fleasOfGuests_L43 M_fleasOfBeds_L43 M_reason_L43 M_row_L43 M_bestRow_L43 M_image_L43 M_isKept_L43 kL = some rr → G p l e R s m args below meth c 10 D A H0 0 0 Q [mC cI cZ aM (M_beds_L43, M_law_L43, M_worths_L43, M_sights_L43, M_sight_L43, M_signs_L43, M_pad_L43, M_lies_L43, M_empty_L43, M_list_L43, M_waits_L43, M_yard_L43, M_last_L43, M_used_L43, M_sheets_L43, M_nights_L43, M_fleasOfGuests_L43, M_fleasOfBeds_L43, M_reason_L43, M_row_L43, M_bestRow_L43, M_image_L43, M_isKept_L43)] 43 [(6, .int x6_L43), (5, .int x5_L43), (4, .int x4_L43), (3, .int M_law_17), (2, .int r_17), (0, .ref (aM 0)), (1, .int x1)] [] := by
        intro kL hkL43 n
        induction n with
        | zero =>
          intro x4_L43 x5_L43 x6_L43 M_beds_L43 M_law_L43 M_worths_L43 M_sights_L43 M_sight_L43 M_signs_L43 M_pad_L43 M_lies_L43 M_empty_L43 M_list_L43 M_waits_L43 M_yard_L43 M_last_L43 M_used_L43 M_sheets_L43 M_nights_L43 M_fleasOfGuests_L43 M_fleasOfBeds_L43 M_reason_L43 M_row_L43 M_bestRow_L43 M_image_L43 M_isKept_L43 hf
          rw [f_X6_fewest_L43] at hf
          cases hf
        | succ n ihL43 =>
          intro x4_L43 x5_L43 x6_L43 M_beds_L43 M_law_L43 M_worths_L43 M_sights_L43 M_sight_L43 M_signs_L43 M_pad_L43 M_lies_L43 M_empty_L43 M_list_L43 M_waits_L43 M_yard_L43 M_last_L43 M_used_L43 M_sheets_L43 M_nights_L43 M_fleasOfGuests_L43 M_fleasOfBeds_L43 M_reason_L43 M_row_L43 M_bestRow_L43 M_image_L43 M_isKept_L43 hf
          rw [f_X6_fewest_L43] at hf
          refine gq_iload C 0 45 dX6_fewest_43 rfl rfl ?_
          refine gq_iconst C (nI 4) 46 dX6_fewest_45 (by decide) rfl ?_
          refine gq_icmp_ge C 161 49 dX6_fewest_46 (by decide) rfl (fun h46 => ?_) (fun h46 => ?_)
          · replace hf := gq_ifp h46 hf
            exact hkL43 _ _ _ _ _ _ _ _ _ _ _ _ _ _ _ _ _ _ _ _ _ _ _ _ _ _ hf
          · replace hf := gq_ifn h46 hf
            refine gq_aload_n C 5 50 dX6_fewest_49 rfl rfl ?_
            refine gq_iload C 0 52 dX6_fewest_50 rfl rfl ?_
            refine gq_put C fo_X6_1 fp_X6_1 rfl fw_X6_57 0 0 55 [mC cI cZ aM (M_beds_L43, x6_L43, M_worths_L43, M_sights_L43, M_sight_L43, M_signs_L43, M_pad_L43, M_lies_L43, M_empty_L43, M_list_L43, M_waits_L43, M_yard_L43, M_last_L43, M_used_L43, M_sheets_L43, M_nights_L43, M_fleasOfGuests_L43, M_fleasOfBeds_L43, M_reason_L43, M_row_L43, M_bestRow_L43, M_image_L43, M_isKept_L43)] rfl rfl rfl rfl (Nat.le_of_ble_eq_true rfl) rfl dX6_fewest_52 rfl ?_
            refine gq_aload_n C 5 56 dX6_fewest_55 rfl rfl ?_
            refine gq_aload_n C 5 57 dX6_fewest_56 rfl rfl ?_
            refine gq_get C fo_X6_5 fw_X6_74 0 0 60 rfl rfl rfl dX6_fewest_57 rfl ?_
            refine gq_iconst C (nI 0) 61 dX6_fewest_60 (by decide) rfl ?_
            refine gq_bipush C (-6 : Int32) 63 dX6_fewest_61 (by decide) rfl ?_
            refine gq_iconst C (nI 0) 64 dX6_fewest_63 (by decide) rfl ?_
            obtain ⟨⟨r_64, ⟨M_beds_64, M_law_64, M_worths_64, M_sights_64, M_sight_64, M_signs_64, M_pad_64, M_lies_64, M_empty_64, M_list_64, M_waits_64, M_yard_64, M_last_64, M_used_64, M_sheets_64, M_nights_64, M_fleasOfGuests_64, M_fleasOfBeds_64, M_reason_64, M_row_64, M_bestRow_64, M_image_64, M_isKept_64⟩⟩, hc, hf⟩ := gq_bd hf
            refine gq_callV C hA gm_X6_146 (c_X6_go l D cI cZ aM M_signs_L43 (nI 0) (-6 : Int32) (nI 0) (M_beds_L43, x6_L43, M_worths_L43, M_sights_L43, M_sight_L43, M_signs_L43, M_pad_L43, M_lies_L43, M_empty_L43, M_list_L43, M_waits_L43, M_yard_L43, M_last_L43, M_used_L43, M_sheets_L43, M_nights_L43, M_fleasOfGuests_L43, M_fleasOfBeds_L43, M_reason_L43, M_row_L43, M_bestRow_L43, M_image_L43, M_isKept_L43) _ hc) rfl 0 0 rfl rfl rfl ⟨Nat.le_trans (Nat.le_of_ble_eq_true rfl) hR.1, Nat.le_trans (Nat.le_of_ble_eq_true rfl) hR.2.1⟩ ⟨Nat.zero_le _, Nat.zero_le _⟩ rfl (Nat.le_of_ble_eq_true rfl) dX6_fewest_64 [0] [mC cI cZ aM (M_beds_64, M_law_64, M_worths_64, M_sights_64, M_sight_64, M_signs_64, M_pad_64, M_lies_64, M_empty_64, M_list_64, M_waits_64, M_yard_64, M_last_64, M_used_64, M_sheets_64, M_nights_64, M_fleasOfGuests_64, M_fleasOfBeds_64, M_reason_64, M_row_64, M_bestRow_64, M_image_64, M_isKept_64)] 67 rfl (by decide) rfl rfl rfl [.int r_64] rfl ?_
            refine gq_istore C [(7, .int r_64), (6, .int x6_L43), (5, .int x5_L43), (4, .int x4_L43), (3, .int M_law_17), (2, .int r_17), (0, .ref (aM 0)), (1, .int x1)] 69 dX6_fewest_67 (by decide) rfl rfl ?_
            refine gq_iload C 0 71 dX6_fewest_69 rfl rfl ?_
            refine gq_jn (P := fun k => ∀ (z0_J81 : Int32), k z0_J81 = some rr → G p l e R s m args below meth c 10 D A H0 0 0 Q [mC cI cZ aM (M_beds_64, M_law_64, M_worths_64, M_sights_64, M_sight_64, M_signs_64, M_pad_64, M_lies_64, M_empty_64, M_list_64, M_waits_64, M_yard_64, M_last_64, M_used_64, M_sheets_64, M_nights_64, M_fleasOfGuests_64, M_fleasOfBeds_64, M_reason_64, M_row_64, M_bestRow_64, M_image_64, M_isKept_64)] 81 [(7, .int r_64), (6, .int x6_L43), (5, .int x5_L43), (4, .int x4_L43), (3, .int M_law_17), (2, .int r_17), (0, .ref (aM 0)), (1, .int x1)] [.int z0_J81]) hf (fun z0_J81 hf => ?_) (fun kJ81 hJ81 hf => ?_)
            · refine gq_istore C [(8, .int z0_J81), (7, .int r_64), (6, .int x6_L43), (5, .int x5_L43), (4, .int x4_L43), (3, .int M_law_17), (2, .int r_17), (0, .ref (aM 0)), (1, .int x1)] 83 dX6_fewest_81 (by decide) rfl rfl ?_
              refine gq_iconst C (nI 0) 84 dX6_fewest_83 (by decide) rfl ?_
              refine gq_istore C [(9, .int (nI 0)), (8, .int z0_J81), (7, .int r_64), (6, .int x6_L43), (5, .int x5_L43), (4, .int x4_L43), (3, .int M_law_17), (2, .int r_17), (0, .ref (aM 0)), (1, .int x1)] 86 dX6_fewest_84 (by decide) rfl rfl ?_
              have L86 : ∀ (kL : Int32 → Int32 → Option (Int32 × ModS)), (∀ (x8_L86 : Int32) (x9_L86 : Int32), kL x8_L86 x9_L86 = some rr → G p l e R s m args below meth c 10 D A H0 0 0 Q [mC cI cZ aM (M_beds_64, M_law_64, M_worths_64, M_sights_64, M_sight_64, M_signs_64, M_pad_64, M_lies_64, M_empty_64, M_list_64, M_waits_64, M_yard_64, M_last_64, M_used_64, M_sheets_64, M_nights_64, M_fleasOfGuests_64, M_fleasOfBeds_64, M_reason_64, M_row_64, M_bestRow_64, M_image_64, M_isKept_64)] 113 [(9, .int x9_L86), (8, .int x8_L86), (7, .int r_64), (6, .int x6_L43), (5, .int x5_L43), (4, .int x4_L43), (3, .int M_law_17), (2, .int r_17), (0, .ref (aM 0)), (1, .int x1)] []) → ∀ (n : Nat) (x8_L86 : Int32) (x9_L86 : Int32), f_X6_fewest_L86 M_beds_64 M_sheets_64 n x8_L86 x9_L86 kL = some rr → G p l e R s m args below meth c 10 D A H0 0 0 Q [mC cI cZ aM (M_beds_64, M_law_64, M_worths_64, M_sights_64, M_sight_64, M_signs_64, M_pad_64, M_lies_64, M_empty_64, M_list_64, M_waits_64, M_yard_64, M_last_64, M_used_64, M_sheets_64, M_nights_64, M_fleasOfGuests_64, M_fleasOfBeds_64, M_reason_64, M_row_64, M_bestRow_64, M_image_64, M_isKept_64)] 86 [(9, .int x9_L86), (8, .int x8_L86), (7, .int r_64), (6, .int x6_L43), (5, .int x5_L43), (4, .int x4_L43), (3, .int M_law_17), (2, .int r_17), (0, .ref (aM 0)), (1, .int x1)] [] := by
                intro kL hkL86 n
                induction n with
                | zero =>
                  intro x8_L86 x9_L86 hf
                  rw [f_X6_fewest_L86] at hf
                  cases hf
                | succ n ihL86 =>
                  intro x8_L86 x9_L86 hf
                  rw [f_X6_fewest_L86] at hf
                  refine gq_iload C 0 88 dX6_fewest_86 rfl rfl ?_
                  refine gq_aload_n C 8 89 dX6_fewest_88 rfl rfl ?_
                  refine gq_get C fo_X6_0 fw_X6_7 0 0 92 rfl rfl rfl dX6_fewest_89 rfl ?_
                  refine gq_icmp_ge C 113 95 dX6_fewest_92 (by decide) rfl (fun h92 => ?_) (fun h92 => ?_)
                  · replace hf := gq_ifp h92 hf
                    exact hkL86 _ _ hf
                  · replace hf := gq_ifn h92 hf
                    refine gq_iload C 1 97 dX6_fewest_95 rfl rfl ?_
                    refine gq_aload_n C 8 98 dX6_fewest_97 rfl rfl ?_
                    refine gq_get C fo_X6_14 fw_X6_38 0 0 101 rfl rfl rfl dX6_fewest_98 rfl ?_
                    refine gq_iload C 0 103 dX6_fewest_101 rfl rfl ?_
                    obtain ⟨h103, hf⟩ := gq_ok hf
                    refine gq_iald C 0 9 104 rfl rfl h103 dX6_fewest_103 rfl ?_
                    refine gq_iadd C 105 dX6_fewest_104 rfl ?_
                    refine gq_istore C [(8, .int (x8_L86 + (M_sheets_64 x9_L86.toNatClampNeg))), (9, .int x9_L86), (7, .int r_64), (6, .int x6_L43), (5, .int x5_L43), (4, .int x4_L43), (3, .int M_law_17), (2, .int r_17), (0, .ref (aM 0)), (1, .int x1)] 107 dX6_fewest_105 (by decide) rfl rfl ?_
                    refine gq_iinc C 1 [(9, .int (x9_L86 + (nI 1))), (8, .int (x8_L86 + (M_sheets_64 x9_L86.toNatClampNeg))), (7, .int r_64), (6, .int x6_L43), (5, .int x5_L43), (4, .int x4_L43), (3, .int M_law_17), (2, .int r_17), (0, .ref (aM 0)), (1, .int x1)] 110 dX6_fewest_107 rfl rfl (by decide) rfl rfl ?_
                    refine gq_goto C 86 dX6_fewest_110 (by decide) ?_
                    exact ihL86 _ _ hf
              refine L86 _ (fun x8_L86 x9_L86 hf => ?_) _ _ _ hf
              refine gq_iload C 5 115 dX6_fewest_113 rfl rfl ?_
              refine gq_jn (P := fun k => ∀ (z0_J132 : Int32), k z0_J132 = some rr → G p l e R s m args below meth c 10 D A H0 0 0 Q [mC cI cZ aM (M_beds_64, M_law_64, M_worths_64, M_sights_64, M_sight_64, M_signs_64, M_pad_64, M_lies_64, M_empty_64, M_list_64, M_waits_64, M_yard_64, M_last_64, M_used_64, M_sheets_64, M_nights_64, M_fleasOfGuests_64, M_fleasOfBeds_64, M_reason_64, M_row_64, M_bestRow_64, M_image_64, M_isKept_64)] 132 [(9, .int x9_L86), (8, .int x8_L86), (7, .int r_64), (6, .int x6_L43), (5, .int x5_L43), (4, .int x4_L43), (3, .int M_law_17), (2, .int r_17), (0, .ref (aM 0)), (1, .int x1)] [.int z0_J132]) hf (fun z0_J132 hf => ?_) (fun kJ132 hJ132 hf => ?_)
              · refine gq_istore C [(4, .int z0_J132), (9, .int x9_L86), (8, .int x8_L86), (7, .int r_64), (6, .int x6_L43), (5, .int x5_L43), (3, .int M_law_17), (2, .int r_17), (0, .ref (aM 0)), (1, .int x1)] 134 dX6_fewest_132 (by decide) rfl rfl ?_
                refine gq_iload C 5 136 dX6_fewest_134 rfl rfl ?_
                refine gq_if_lt C 146 139 dX6_fewest_136 (by decide) rfl (fun h136 => ?_) (fun h136 => ?_)
                · replace hf := gq_ifp h136 hf
                  refine gq_iload C 2 148 dX6_fewest_146 rfl rfl ?_
                  refine gq_goto C 153 dX6_fewest_148 (by decide) ?_
                  refine gq_istore C [(5, .int x8_L86), (4, .int z0_J132), (9, .int x9_L86), (8, .int x8_L86), (7, .int r_64), (6, .int x6_L43), (3, .int M_law_17), (2, .int r_17), (0, .ref (aM 0)), (1, .int x1)] 155 dX6_fewest_153 (by decide) rfl rfl ?_
                  refine gq_iinc C 5 [(6, .int (x6_L43 + (nI 1))), (5, .int x8_L86), (4, .int z0_J132), (9, .int x9_L86), (8, .int x8_L86), (7, .int r_64), (3, .int M_law_17), (2, .int r_17), (0, .ref (aM 0)), (1, .int x1)] 158 dX6_fewest_155 rfl rfl (by decide) rfl rfl ?_
                  refine gq_goto C 43 dX6_fewest_158 (by decide) ?_
                  refine gq_lv [0, 1, 2, 6, 7, 8, 9] rfl ?_
                  exact ihL43 _ _ _ _ _ _ _ _ _ _ _ _ _ _ _ _ _ _ _ _ _ _ _ _ _ _ hf
                · replace hf := gq_ifn h136 hf
                  refine gq_iload C 2 141 dX6_fewest_139 rfl rfl ?_
                  refine gq_iload C 5 143 dX6_fewest_141 rfl rfl ?_
                  refine gq_icmp_ge C 151 146 dX6_fewest_143 (by decide) rfl (fun h143 => ?_) (fun h143 => ?_)
                  · replace hf := gq_ifp h143 hf
                    refine gq_iload C 5 153 dX6_fewest_151 rfl rfl ?_
                    refine gq_istore C [(5, .int x5_L43), (4, .int z0_J132), (9, .int x9_L86), (8, .int x8_L86), (7, .int r_64), (6, .int x6_L43), (3, .int M_law_17), (2, .int r_17), (0, .ref (aM 0)), (1, .int x1)] 155 dX6_fewest_153 (by decide) rfl rfl ?_
                    refine gq_iinc C 5 [(6, .int (x6_L43 + (nI 1))), (5, .int x5_L43), (4, .int z0_J132), (9, .int x9_L86), (8, .int x8_L86), (7, .int r_64), (3, .int M_law_17), (2, .int r_17), (0, .ref (aM 0)), (1, .int x1)] 158 dX6_fewest_155 rfl rfl (by decide) rfl rfl ?_
                    refine gq_goto C 43 dX6_fewest_158 (by decide) ?_
                    refine gq_lv [0, 1, 2, 6, 7, 8, 9] rfl ?_
                    exact ihL43 _ _ _ _ _ _ _ _ _ _ _ _ _ _ _ _ _ _ _ _ _ _ _ _ _ _ hf
                  · replace hf := gq_ifn h143 hf
                    refine gq_iload C 2 148 dX6_fewest_146 rfl rfl ?_
                    refine gq_goto C 153 dX6_fewest_148 (by decide) ?_
                    refine gq_istore C [(5, .int x8_L86), (4, .int z0_J132), (9, .int x9_L86), (8, .int x8_L86), (7, .int r_64), (6, .int x6_L43), (3, .int M_law_17), (2, .int r_17), (0, .ref (aM 0)), (1, .int x1)] 155 dX6_fewest_153 (by decide) rfl rfl ?_
                    refine gq_iinc C 5 [(6, .int (x6_L43 + (nI 1))), (5, .int x8_L86), (4, .int z0_J132), (9, .int x9_L86), (8, .int x8_L86), (7, .int r_64), (3, .int M_law_17), (2, .int r_17), (0, .ref (aM 0)), (1, .int x1)] 158 dX6_fewest_155 rfl rfl (by decide) rfl rfl ?_
                    refine gq_goto C 43 dX6_fewest_158 (by decide) ?_
                    refine gq_lv [0, 1, 2, 6, 7, 8, 9] rfl ?_
                    exact ihL43 _ _ _ _ _ _ _ _ _ _ _ _ _ _ _ _ _ _ _ _ _ _ _ _ _ _ hf
              · refine gq_if_lt C 125 118 dX6_fewest_115 (by decide) rfl (fun h115 => ?_) (fun h115 => ?_)
                · replace hf := gq_ifp h115 hf
                  refine gq_iload C 3 127 dX6_fewest_125 rfl rfl ?_
                  refine gq_goto C 132 dX6_fewest_127 (by decide) ?_
                  exact hJ132 _ hf
                · replace hf := gq_ifn h115 hf
                  refine gq_iload C 1 120 dX6_fewest_118 rfl rfl ?_
                  refine gq_iload C 4 122 dX6_fewest_120 rfl rfl ?_
                  refine gq_icmp_ge C 130 125 dX6_fewest_122 (by decide) rfl (fun h122 => ?_) (fun h122 => ?_)
                  · replace hf := gq_ifp h122 hf
                    refine gq_iload C 5 132 dX6_fewest_130 rfl rfl ?_
                    exact hJ132 _ hf
                  · replace hf := gq_ifn h122 hf
                    refine gq_iload C 3 127 dX6_fewest_125 rfl rfl ?_
                    refine gq_goto C 132 dX6_fewest_127 (by decide) ?_
                    exact hJ132 _ hf
            · refine gq_if_ge C 78 74 dX6_fewest_71 (by decide) rfl (fun h71 => ?_) (fun h71 => ?_)
              · replace hf := gq_ifp h71 hf
                refine gq_sipush C (nI 1000) 81 dX6_fewest_78 (by decide) rfl ?_
                exact hJ81 _ hf
              · replace hf := gq_ifn h71 hf
                refine gq_iconst C (nI 0) 75 dX6_fewest_74 (by decide) rfl ?_
                refine gq_goto C 81 dX6_fewest_75 (by decide) ?_
                exact hJ81 _ hf
      refine L43 _ (fun x4_L43 x5_L43 x6_L43 M_beds_L43 M_law_L43 M_worths_L43 M_sights_L43 M_sight_L43 M_signs_L43 M_pad_L43 M_lies_L43 M_empty_L43 M_list_L43 M_waits_L43 M_yard_L43 M_last_L43 M_used_L43 M_sheets_L43 M_nights_L43 M_fleasOfGuests_L43 M_fleasOfBeds_L43 M_reason_L43 M_row_L43 M_bestRow_L43 M_image_L43 M_isKept_L43 hf => ?_) _ _ _ _ _ _ _ _ _ _ _ _ _ _ _ _ _ _ _ _ _ _ _ _ _ _ _ hf
      refine gq_aload_n C 5 162 dX6_fewest_161 rfl rfl ?_
      refine gq_iload_n C 3 163 dX6_fewest_162 rfl rfl ?_
      refine gq_put C fo_X6_1 fp_X6_1 rfl fw_X6_57 0 0 166 [mC cI cZ aM (M_beds_L43, M_law_17, M_worths_L43, M_sights_L43, M_sight_L43, M_signs_L43, M_pad_L43, M_lies_L43, M_empty_L43, M_list_L43, M_waits_L43, M_yard_L43, M_last_L43, M_used_L43, M_sheets_L43, M_nights_L43, M_fleasOfGuests_L43, M_fleasOfBeds_L43, M_reason_L43, M_row_L43, M_bestRow_L43, M_image_L43, M_isKept_L43)] rfl rfl rfl rfl (Nat.le_of_ble_eq_true rfl) rfl dX6_fewest_163 rfl ?_
      refine gq_iload_n C 6 167 dX6_fewest_166 rfl rfl ?_
      refine gq_if_ne C 175 170 dX6_fewest_167 (by decide) rfl (fun h167 => ?_) (fun h167 => ?_)
      · replace hf := gq_ifn h167 hf
        refine gq_iload C 1 177 dX6_fewest_175 rfl rfl ?_
        obtain rfl := gq_lf hf
        exact hret dX6_fewest_177 gPost.rf
      · replace hf := gq_ifp h167 hf
        refine gq_iload C 2 172 dX6_fewest_170 rfl rfl ?_
        refine gq_goto C 177 dX6_fewest_172 (by decide) ?_
        obtain rfl := gq_lf hf
        exact hret dX6_fewest_177 gPost.rf
    · replace hf := gq_ifn h22 hf
      refine gq_iload_n C 0 26 dX6_fewest_25 rfl rfl ?_
      obtain rfl := gq_lf hf
      exact hret dX6_fewest_26 gPost.rf
  · replace hf := gq_ifp h6 hf
    refine gq_bipush C (-2 : Int32) 11 dX6_fewest_9 (by decide) rfl ?_
    obtain rfl := gq_lf hf
    exact hret dX6_fewest_11 gPost.rf

def f_X6_isInDay_L4 (c_x1 : Int32) (c_M_signs : Int32) (c_M_pad : (Nat → Int32)) : Nat → Int32 → Int32 → (Int32 → Int32 → Option (Int32)) → Option (Int32)
  | 0, _, _, _ => none
  | nL4 + 1, x2_L4, x3_L4, kL4 => (if c_M_signs ≤ x3_L4 then kL4 x2_L4 x3_L4 else (if x2_L4 = 0 then (if x3_L4 < 0 ∨ 48 ≤ x3_L4.toNatClampNeg then none else (if (c_M_pad x3_L4.toNatClampNeg) = ((nI 65) + c_x1) then f_X6_isInDay_L4 c_x1 c_M_signs c_M_pad nL4 (nI 1) (x3_L4 + (nI 1)) kL4 else (if x3_L4 < 0 ∨ 48 ≤ x3_L4.toNatClampNeg then none else (if (c_M_pad x3_L4.toNatClampNeg) = ((nI 97) + c_x1) then f_X6_isInDay_L4 c_x1 c_M_signs c_M_pad nL4 (nI 1) (x3_L4 + (nI 1)) kL4 else f_X6_isInDay_L4 c_x1 c_M_signs c_M_pad nL4 (nI 0) (x3_L4 + (nI 1)) kL4)))) else f_X6_isInDay_L4 c_x1 c_M_signs c_M_pad nL4 (nI 1) (x3_L4 + (nI 1)) kL4))
def f_X6_isInDay : Int32 → ModS → Option (Int32)
  | x1, (M_beds, M_law, M_worths, M_sights, M_sight, M_signs, M_pad, M_lies, M_empty, M_list, M_waits, M_yard, M_last, M_used, M_sheets, M_nights, M_fleasOfGuests, M_fleasOfBeds, M_reason, M_row, M_bestRow, M_image, M_isKept) => f_X6_isInDay_L4 x1 M_signs M_pad FU (nI 0) (nI 0) (fun x2_L4 x3_L4 => (if x2_L4 = 0 ∨ x2_L4 = 1 then some x2_L4 else none))
set_option maxHeartbeats 4000000 in
set_option maxRecDepth 100000 in
theorem c_X6_isInDay (l : Launch) (D : va_G) (cI cZ : ClassId) (aM : Nat → Nat) (x1 : Int32) (tM : ModS) (rr : Int32) (hf : f_X6_isInDay x1 tM = some rr) : CT l D cI cZ yX6_isInDay cX6_isInDay 4 (some .boolean) 0 0 0 0 [.ref (aM 0), .int x1] ([mC cI cZ aM tM]) (gPost (some (.int rr)) ([mC cI cZ aM tM])) := by
  obtain ⟨M_beds, M_law, M_worths, M_sights, M_sight, M_signs, M_pad, M_lies, M_empty, M_list, M_waits, M_yard, M_last, M_used, M_sheets, M_nights, M_fleasOfGuests, M_fleasOfBeds, M_reason, M_row, M_bestRow, M_image, M_isKept⟩ := tM
  rw [f_X6_isInDay] at hf
  refine CT.mkZ (by decide) (Nat.le_of_ble_eq_true rfl) fun {p} {e} {R} {s} {m} {args} {below} {meth} {c} {A} {H0} {Q} C hA hR hret => ?_
  show G p l e R s m args below meth c 4 D A H0 0 0 Q [mC cI cZ aM (M_beds, M_law, M_worths, M_sights, M_sight, M_signs, M_pad, M_lies, M_empty, M_list, M_waits, M_yard, M_last, M_used, M_sheets, M_nights, M_fleasOfGuests, M_fleasOfBeds, M_reason, M_row, M_bestRow, M_image, M_isKept)] 0 [(0, .ref (aM 0)), (1, .int x1)] []
  refine gq_iconst C (nI 0) 1 dX6_isInDay_0 (by decide) rfl ?_
  refine gq_istore_n C [(2, .int (nI 0)), (0, .ref (aM 0)), (1, .int x1)] 2 dX6_isInDay_1 (by decide) rfl rfl ?_
  refine gq_iconst C (nI 0) 3 dX6_isInDay_2 (by decide) rfl ?_
  refine gq_istore_n C [(3, .int (nI 0)), (2, .int (nI 0)), (0, .ref (aM 0)), (1, .int x1)] 4 dX6_isInDay_3 (by decide) rfl rfl ?_
  have L4 : ∀ (kL : Int32 → Int32 → Option (Int32)), (∀ (x2_L4 : Int32) (x3_L4 : Int32), kL x2_L4 x3_L4 = some rr → G p l e R s m args below meth c 4 D A H0 0 0 Q [mC cI cZ aM (M_beds, M_law, M_worths, M_sights, M_sight, M_signs, M_pad, M_lies, M_empty, M_list, M_waits, M_yard, M_last, M_used, M_sheets, M_nights, M_fleasOfGuests, M_fleasOfBeds, M_reason, M_row, M_bestRow, M_image, M_isKept)] 54 [(3, .int x3_L4), (2, .int x2_L4), (0, .ref (aM 0)), (1, .int x1)] []) → ∀ (n : Nat) (x2_L4 : Int32) (x3_L4 : Int32), f_X6_isInDay_L4 x1 M_signs M_pad n x2_L4 x3_L4 kL = some rr → G p l e R s m args below meth c 4 D A H0 0 0 Q [mC cI cZ aM (M_beds, M_law, M_worths, M_sights, M_sight, M_signs, M_pad, M_lies, M_empty, M_list, M_waits, M_yard, M_last, M_used, M_sheets, M_nights, M_fleasOfGuests, M_fleasOfBeds, M_reason, M_row, M_bestRow, M_image, M_isKept)] 4 [(3, .int x3_L4), (2, .int x2_L4), (0, .ref (aM 0)), (1, .int x1)] [] := by
    intro kL hkL4 n
    induction n with
    | zero =>
      intro x2_L4 x3_L4 hf
      rw [f_X6_isInDay_L4] at hf
      cases hf
    | succ n ihL4 =>
      intro x2_L4 x3_L4 hf
      rw [f_X6_isInDay_L4] at hf
      refine gq_iload_n C 0 5 dX6_isInDay_4 rfl rfl ?_
      refine gq_aload_n C 2 6 dX6_isInDay_5 rfl rfl ?_
      refine gq_get C fo_X6_5 fw_X6_74 0 0 9 rfl rfl rfl dX6_isInDay_6 rfl ?_
      refine gq_icmp_ge C 54 12 dX6_isInDay_9 (by decide) rfl (fun h9 => ?_) (fun h9 => ?_)
      · replace hf := gq_ifp h9 hf
        exact hkL4 _ _ hf
      · replace hf := gq_ifn h9 hf
        refine gq_iload_n C 1 13 dX6_isInDay_12 rfl rfl ?_
        refine gq_if_ne C 42 16 dX6_isInDay_13 (by decide) rfl (fun h13 => ?_) (fun h13 => ?_)
        · replace hf := gq_ifn h13 hf
          refine gq_iconst C (nI 1) 43 dX6_isInDay_42 (by decide) rfl ?_
          refine gq_goto C 47 dX6_isInDay_43 (by decide) ?_
          refine gq_istore_n C [(2, .int (nI 1)), (3, .int x3_L4), (0, .ref (aM 0)), (1, .int x1)] 48 dX6_isInDay_47 (by decide) rfl rfl ?_
          refine gq_iinc C 1 [(3, .int (x3_L4 + (nI 1))), (2, .int (nI 1)), (0, .ref (aM 0)), (1, .int x1)] 51 dX6_isInDay_48 rfl rfl (by decide) rfl rfl ?_
          refine gq_goto C 4 dX6_isInDay_51 (by decide) ?_
          exact ihL4 _ _ hf
        · replace hf := gq_ifp h13 hf
          refine gq_aload_n C 2 17 dX6_isInDay_16 rfl rfl ?_
          refine gq_get C fo_X6_6 fw_X6_20 0 0 20 rfl rfl rfl dX6_isInDay_17 rfl ?_
          refine gq_iload_n C 0 21 dX6_isInDay_20 rfl rfl ?_
          obtain ⟨h21, hf⟩ := gq_ok hf
          refine gq_iald C 0 3 22 rfl rfl h21 dX6_isInDay_21 rfl ?_
          refine gq_bipush C (nI 65) 24 dX6_isInDay_22 (by decide) rfl ?_
          refine gq_iload_n C 3 25 dX6_isInDay_24 rfl rfl ?_
          refine gq_iadd C 26 dX6_isInDay_25 rfl ?_
          refine gq_icmp_eq C 42 29 dX6_isInDay_26 (by decide) rfl (fun h26 => ?_) (fun h26 => ?_)
          · replace hf := gq_ifp h26 hf
            refine gq_iconst C (nI 1) 43 dX6_isInDay_42 (by decide) rfl ?_
            refine gq_goto C 47 dX6_isInDay_43 (by decide) ?_
            refine gq_istore_n C [(2, .int (nI 1)), (3, .int x3_L4), (0, .ref (aM 0)), (1, .int x1)] 48 dX6_isInDay_47 (by decide) rfl rfl ?_
            refine gq_iinc C 1 [(3, .int (x3_L4 + (nI 1))), (2, .int (nI 1)), (0, .ref (aM 0)), (1, .int x1)] 51 dX6_isInDay_48 rfl rfl (by decide) rfl rfl ?_
            refine gq_goto C 4 dX6_isInDay_51 (by decide) ?_
            exact ihL4 _ _ hf
          · replace hf := gq_ifn h26 hf
            refine gq_aload_n C 2 30 dX6_isInDay_29 rfl rfl ?_
            refine gq_get C fo_X6_6 fw_X6_20 0 0 33 rfl rfl rfl dX6_isInDay_30 rfl ?_
            refine gq_iload_n C 0 34 dX6_isInDay_33 rfl rfl ?_
            obtain ⟨h34, hf⟩ := gq_ok hf
            refine gq_iald C 0 3 35 rfl rfl h34 dX6_isInDay_34 rfl ?_
            refine gq_bipush C (nI 97) 37 dX6_isInDay_35 (by decide) rfl ?_
            refine gq_iload_n C 3 38 dX6_isInDay_37 rfl rfl ?_
            refine gq_iadd C 39 dX6_isInDay_38 rfl ?_
            refine gq_icmp_ne C 46 42 dX6_isInDay_39 (by decide) rfl (fun h39 => ?_) (fun h39 => ?_)
            · replace hf := gq_ifn h39 hf
              refine gq_iconst C (nI 0) 47 dX6_isInDay_46 (by decide) rfl ?_
              refine gq_istore_n C [(2, .int (nI 0)), (3, .int x3_L4), (0, .ref (aM 0)), (1, .int x1)] 48 dX6_isInDay_47 (by decide) rfl rfl ?_
              refine gq_iinc C 1 [(3, .int (x3_L4 + (nI 1))), (2, .int (nI 0)), (0, .ref (aM 0)), (1, .int x1)] 51 dX6_isInDay_48 rfl rfl (by decide) rfl rfl ?_
              refine gq_goto C 4 dX6_isInDay_51 (by decide) ?_
              exact ihL4 _ _ hf
            · replace hf := gq_ifp h39 hf
              refine gq_iconst C (nI 1) 43 dX6_isInDay_42 (by decide) rfl ?_
              refine gq_goto C 47 dX6_isInDay_43 (by decide) ?_
              refine gq_istore_n C [(2, .int (nI 1)), (3, .int x3_L4), (0, .ref (aM 0)), (1, .int x1)] 48 dX6_isInDay_47 (by decide) rfl rfl ?_
              refine gq_iinc C 1 [(3, .int (x3_L4 + (nI 1))), (2, .int (nI 1)), (0, .ref (aM 0)), (1, .int x1)] 51 dX6_isInDay_48 rfl rfl (by decide) rfl rfl ?_
              refine gq_goto C 4 dX6_isInDay_51 (by decide) ?_
              exact ihL4 _ _ hf
  refine L4 _ (fun x2_L4 x3_L4 hf => ?_) _ _ _ hf
  refine gq_iload_n C 1 55 dX6_isInDay_54 rfl rfl ?_
  obtain ⟨hb, hf⟩ := gq_gd hf
  obtain rfl := gq_lf hf
  exact hret dX6_isInDay_55 (gq_bool hb) gPost.rf

def f_X6_barOfComing : ModS → Option (Int32 × ModS)
  | (M_beds, M_law, M_worths, M_sights, M_sight, M_signs, M_pad, M_lies, M_empty, M_list, M_waits, M_yard, M_last, M_used, M_sheets, M_nights, M_fleasOfGuests, M_fleasOfBeds, M_reason, M_row, M_bestRow, M_image, M_isKept) => (Option.bind (f_X6_barOf M_signs (M_beds, M_law, M_worths, M_sights, M_sight, M_signs, M_pad, M_lies, M_empty, M_list, M_waits, M_yard, M_last, M_used, M_sheets, M_nights, M_fleasOfGuests, M_fleasOfBeds, M_reason, M_row, M_bestRow, M_image, M_isKept)) (fun (r_5, (M_beds_5, M_law_5, M_worths_5, M_sights_5, M_sight_5, M_signs_5, M_pad_5, M_lies_5, M_empty_5, M_list_5, M_waits_5, M_yard_5, M_last_5, M_used_5, M_sheets_5, M_nights_5, M_fleasOfGuests_5, M_fleasOfBeds_5, M_reason_5, M_row_5, M_bestRow_5, M_image_5, M_isKept_5)) => (if 0 ≤ r_5 then (if M_signs_5 = (nI 48) then some ((-4 : Int32), (M_beds_5, M_law_5, M_worths_5, M_sights_5, M_sight_5, M_signs_5, M_pad_5, M_lies_5, M_empty_5, M_list_5, M_waits_5, M_yard_5, M_last_5, M_used_5, M_sheets_5, M_nights_5, M_fleasOfGuests_5, M_fleasOfBeds_5, M_reason_5, M_row_5, M_bestRow_5, M_image_5, M_isKept_5)) else some ((nI 0), (M_beds_5, M_law_5, M_worths_5, M_sights_5, M_sight_5, M_signs_5, M_pad_5, M_lies_5, M_empty_5, M_list_5, M_waits_5, M_yard_5, M_last_5, M_used_5, M_sheets_5, M_nights_5, M_fleasOfGuests_5, M_fleasOfBeds_5, M_reason_5, M_row_5, M_bestRow_5, M_image_5, M_isKept_5))) else some (r_5, (M_beds_5, M_law_5, M_worths_5, M_sights_5, M_sight_5, M_signs_5, M_pad_5, M_lies_5, M_empty_5, M_list_5, M_waits_5, M_yard_5, M_last_5, M_used_5, M_sheets_5, M_nights_5, M_fleasOfGuests_5, M_fleasOfBeds_5, M_reason_5, M_row_5, M_bestRow_5, M_image_5, M_isKept_5)))))
set_option maxHeartbeats 4000000 in
set_option maxRecDepth 100000 in
theorem c_X6_barOfComing (l : Launch) (D : va_G) (cI cZ : ClassId) (aM : Nat → Nat) (tM : ModS) (rr : Int32 × ModS) (hf : f_X6_barOfComing tM = some rr) : CT l D cI cZ yX6_barOfComing cX6_barOfComing 2 (some .int) 6 139 0 0 [.ref (aM 0)] ([mC cI cZ aM tM]) (gPost (some (.int rr.1)) ([mC cI cZ aM rr.2])) := by
  obtain ⟨M_beds, M_law, M_worths, M_sights, M_sight, M_signs, M_pad, M_lies, M_empty, M_list, M_waits, M_yard, M_last, M_used, M_sheets, M_nights, M_fleasOfGuests, M_fleasOfBeds, M_reason, M_row, M_bestRow, M_image, M_isKept⟩ := tM
  rw [f_X6_barOfComing] at hf
  refine CT.mkI (by decide) (Nat.le_of_ble_eq_true rfl) fun {p} {e} {R} {s} {m} {args} {below} {meth} {c} {A} {H0} {Q} C hA hR hret => ?_
  show G p l e R s m args below meth c 2 D A H0 0 0 Q [mC cI cZ aM (M_beds, M_law, M_worths, M_sights, M_sight, M_signs, M_pad, M_lies, M_empty, M_list, M_waits, M_yard, M_last, M_used, M_sheets, M_nights, M_fleasOfGuests, M_fleasOfBeds, M_reason, M_row, M_bestRow, M_image, M_isKept)] 0 [(0, .ref (aM 0))] []
  refine gq_aload_n C 0 1 dX6_barOfComing_0 rfl rfl ?_
  refine gq_aload_n C 0 2 dX6_barOfComing_1 rfl rfl ?_
  refine gq_get C fo_X6_5 fw_X6_74 0 0 5 rfl rfl rfl dX6_barOfComing_2 rfl ?_
  obtain ⟨⟨r_5, ⟨M_beds_5, M_law_5, M_worths_5, M_sights_5, M_sight_5, M_signs_5, M_pad_5, M_lies_5, M_empty_5, M_list_5, M_waits_5, M_yard_5, M_last_5, M_used_5, M_sheets_5, M_nights_5, M_fleasOfGuests_5, M_fleasOfBeds_5, M_reason_5, M_row_5, M_bestRow_5, M_image_5, M_isKept_5⟩⟩, hc, hf⟩ := gq_bd hf
  refine gq_callV C hA gm_X6_150 (c_X6_barOf l D cI cZ aM M_signs (M_beds, M_law, M_worths, M_sights, M_sight, M_signs, M_pad, M_lies, M_empty, M_list, M_waits, M_yard, M_last, M_used, M_sheets, M_nights, M_fleasOfGuests, M_fleasOfBeds, M_reason, M_row, M_bestRow, M_image, M_isKept) _ hc) rfl 0 0 rfl rfl rfl ⟨Nat.le_trans (Nat.le_of_ble_eq_true rfl) hR.1, Nat.le_trans (Nat.le_of_ble_eq_true rfl) hR.2.1⟩ ⟨Nat.zero_le _, Nat.zero_le _⟩ rfl (Nat.le_of_ble_eq_true rfl) dX6_barOfComing_5 [0] [mC cI cZ aM (M_beds_5, M_law_5, M_worths_5, M_sights_5, M_sight_5, M_signs_5, M_pad_5, M_lies_5, M_empty_5, M_list_5, M_waits_5, M_yard_5, M_last_5, M_used_5, M_sheets_5, M_nights_5, M_fleasOfGuests_5, M_fleasOfBeds_5, M_reason_5, M_row_5, M_bestRow_5, M_image_5, M_isKept_5)] 8 rfl (by decide) rfl rfl rfl [.int r_5] rfl ?_
  refine gq_istore_n C [(1, .int r_5), (0, .ref (aM 0))] 9 dX6_barOfComing_8 (by decide) rfl rfl ?_
  refine gq_iload_n C 0 10 dX6_barOfComing_9 rfl rfl ?_
  refine gq_if_ge C 17 13 dX6_barOfComing_10 (by decide) rfl (fun h10 => ?_) (fun h10 => ?_)
  · replace hf := gq_ifp h10 hf
    refine gq_aload_n C 1 18 dX6_barOfComing_17 rfl rfl ?_
    refine gq_get C fo_X6_5 fw_X6_74 0 0 21 rfl rfl rfl dX6_barOfComing_18 rfl ?_
    refine gq_bipush C (nI 48) 23 dX6_barOfComing_21 (by decide) rfl ?_
    refine gq_icmp_ne C 31 26 dX6_barOfComing_23 (by decide) rfl (fun h23 => ?_) (fun h23 => ?_)
    · replace hf := gq_ifn h23 hf
      refine gq_iconst C (nI 0) 32 dX6_barOfComing_31 (by decide) rfl ?_
      obtain rfl := gq_lf hf
      exact hret dX6_barOfComing_32 gPost.rf
    · replace hf := gq_ifp h23 hf
      refine gq_bipush C (-4 : Int32) 28 dX6_barOfComing_26 (by decide) rfl ?_
      refine gq_goto C 32 dX6_barOfComing_28 (by decide) ?_
      obtain rfl := gq_lf hf
      exact hret dX6_barOfComing_32 gPost.rf
  · replace hf := gq_ifn h10 hf
    refine gq_iload_n C 0 14 dX6_barOfComing_13 rfl rfl ?_
    refine gq_goto C 32 dX6_barOfComing_14 (by decide) ?_
    obtain rfl := gq_lf hf
    exact hret dX6_barOfComing_32 gPost.rf

def f_X6_when_L61 (c_x1 : Int32) (c_x2 : Int32) : Nat → Int32 → Int32 → Int32 → Int32 → Int32 → (Nat → Int32) → Int32 → (Nat → Int32) → Int32 → (Nat → Int32) → (Nat → Int32) → Int32 → (Nat → Int32) → Int32 → (Nat → Int32) → (Nat → Int32) → (Nat → Int32) → (Nat → Int32) → (Nat → Int32) → Int32 → Int32 → Int32 → (Nat → Int32) → (Nat → Int32) → (Nat → Int32) → (Nat → Int32) → (Int32 → Int32 → Int32 → Int32 → Int32 → (Nat → Int32) → Int32 → (Nat → Int32) → Int32 → (Nat → Int32) → (Nat → Int32) → Int32 → (Nat → Int32) → Int32 → (Nat → Int32) → (Nat → Int32) → (Nat → Int32) → (Nat → Int32) → (Nat → Int32) → Int32 → Int32 → Int32 → (Nat → Int32) → (Nat → Int32) → (Nat → Int32) → (Nat → Int32) → Option (Int32 × ModS)) → Option (Int32 × ModS)
  | 0, _, _, _, _, _, _, _, _, _, _, _, _, _, _, _, _, _, _, _, _, _, _, _, _, _, _, _ => none
  | nL61 + 1, x5_L61, x6_L61, x7_L61, M_beds_L61, M_law_L61, M_worths_L61, M_sights_L61, M_sight_L61, M_signs_L61, M_pad_L61, M_lies_L61, M_empty_L61, M_list_L61, M_waits_L61, M_yard_L61, M_last_L61, M_used_L61, M_sheets_L61, M_nights_L61, M_fleasOfGuests_L61, M_fleasOfBeds_L61, M_reason_L61, M_row_L61, M_bestRow_L61, M_image_L61, M_isKept_L61, kL61 => (if M_signs_L61 < x7_L61 then kL61 x5_L61 x6_L61 x7_L61 M_beds_L61 M_law_L61 M_worths_L61 M_sights_L61 M_sight_L61 M_signs_L61 M_pad_L61 M_lies_L61 M_empty_L61 M_list_L61 M_waits_L61 M_yard_L61 M_last_L61 M_used_L61 M_sheets_L61 M_nights_L61 M_fleasOfGuests_L61 M_fleasOfBeds_L61 M_reason_L61 M_row_L61 M_bestRow_L61 M_image_L61 M_isKept_L61 else (Option.bind (f_X6_go M_signs_L61 (nI 0) x7_L61 c_x1 (M_beds_L61, M_law_L61, M_worths_L61, M_sights_L61, M_sight_L61, M_signs_L61, M_pad_L61, M_lies_L61, M_empty_L61, M_list_L61, M_waits_L61, M_yard_L61, M_last_L61, M_used_L61, M_sheets_L61, M_nights_L61, M_fleasOfGuests_L61, M_fleasOfBeds_L61, M_reason_L61, M_row_L61, M_bestRow_L61, M_image_L61, M_isKept_L61)) (fun (r_79, (M_beds_79, M_law_79, M_worths_79, M_sights_79, M_sight_79, M_signs_79, M_pad_79, M_lies_79, M_empty_79, M_list_79, M_waits_79, M_yard_79, M_last_79, M_used_79, M_sheets_79, M_nights_79, M_fleasOfGuests_79, M_fleasOfBeds_79, M_reason_79, M_row_79, M_bestRow_79, M_image_79, M_isKept_79)) => (if 0 ≤ r_79 then f_X6_when_L61 c_x1 c_x2 nL61 x5_L61 x6_L61 (x7_L61 + (nI 1)) M_beds_79 M_law_79 M_worths_79 M_sights_79 M_sight_79 M_signs_79 M_pad_79 M_lies_79 M_empty_79 M_list_79 M_waits_79 M_yard_79 M_last_79 M_used_79 M_sheets_79 M_nights_79 M_fleasOfGuests_79 M_fleasOfBeds_79 M_reason_79 M_row_79 M_bestRow_79 M_image_79 M_isKept_79 kL61 else (Option.bind (f_X6_bedOf c_x1 (M_beds_79, M_law_79, M_worths_79, M_sights_79, M_sight_79, M_signs_79, M_pad_79, M_lies_79, M_empty_79, M_list_79, M_waits_79, M_yard_79, M_last_79, M_used_79, M_sheets_79, M_nights_79, M_fleasOfGuests_79, M_fleasOfBeds_79, M_reason_79, M_row_79, M_bestRow_79, M_image_79, M_isKept_79)) (fun r_87 => (if r_87 = c_x2 then (if 0 ≤ x6_L61 then f_X6_when_L61 c_x1 c_x2 nL61 (x5_L61 + (nI 1)) x6_L61 (x7_L61 + (nI 1)) M_beds_79 M_law_79 M_worths_79 M_sights_79 M_sight_79 M_signs_79 M_pad_79 M_lies_79 M_empty_79 M_list_79 M_waits_79 M_yard_79 M_last_79 M_used_79 M_sheets_79 M_nights_79 M_fleasOfGuests_79 M_fleasOfBeds_79 M_reason_79 M_row_79 M_bestRow_79 M_image_79 M_isKept_79 kL61 else f_X6_when_L61 c_x1 c_x2 nL61 (x5_L61 + (nI 1)) x7_L61 (x7_L61 + (nI 1)) M_beds_79 M_law_79 M_worths_79 M_sights_79 M_sight_79 M_signs_79 M_pad_79 M_lies_79 M_empty_79 M_list_79 M_waits_79 M_yard_79 M_last_79 M_used_79 M_sheets_79 M_nights_79 M_fleasOfGuests_79 M_fleasOfBeds_79 M_reason_79 M_row_79 M_bestRow_79 M_image_79 M_isKept_79 kL61) else f_X6_when_L61 c_x1 c_x2 nL61 x5_L61 x6_L61 (x7_L61 + (nI 1)) M_beds_79 M_law_79 M_worths_79 M_sights_79 M_sight_79 M_signs_79 M_pad_79 M_lies_79 M_empty_79 M_list_79 M_waits_79 M_yard_79 M_last_79 M_used_79 M_sheets_79 M_nights_79 M_fleasOfGuests_79 M_fleasOfBeds_79 M_reason_79 M_row_79 M_bestRow_79 M_image_79 M_isKept_79 kL61)))))))
def f_X6_when : Int32 → Int32 → Int32 → ModS → Option (Int32 × ModS)
  | x1, x2, x3, (M_beds, M_law, M_worths, M_sights, M_sight, M_signs, M_pad, M_lies, M_empty, M_list, M_waits, M_yard, M_last, M_used, M_sheets, M_nights, M_fleasOfGuests, M_fleasOfBeds, M_reason, M_row, M_bestRow, M_image, M_isKept) => (Option.bind (f_X6_isGuest x1) (fun r_1 => (if r_1 = 0 then some ((-1 : Int32), (M_beds, M_law, M_worths, M_sights, M_sight, M_signs, M_pad, M_lies, M_empty, M_list, M_waits, M_yard, M_last, M_used, M_sheets, M_nights, M_fleasOfGuests, M_fleasOfBeds, M_reason, M_row, M_bestRow, M_image, M_isKept)) else (Option.bind (f_X6_isBed x2 (M_beds, M_law, M_worths, M_sights, M_sight, M_signs, M_pad, M_lies, M_empty, M_list, M_waits, M_yard, M_last, M_used, M_sheets, M_nights, M_fleasOfGuests, M_fleasOfBeds, M_reason, M_row, M_bestRow, M_image, M_isKept)) (fun r_9 => (if r_9 = 0 then some ((-1 : Int32), (M_beds, M_law, M_worths, M_sights, M_sight, M_signs, M_pad, M_lies, M_empty, M_list, M_waits, M_yard, M_last, M_used, M_sheets, M_nights, M_fleasOfGuests, M_fleasOfBeds, M_reason, M_row, M_bestRow, M_image, M_isKept)) else (Option.bind (f_X6_isInDay x1 (M_beds, M_law, M_worths, M_sights, M_sight, M_signs, M_pad, M_lies, M_empty, M_list, M_waits, M_yard, M_last, M_used, M_sheets, M_nights, M_fleasOfGuests, M_fleasOfBeds, M_reason, M_row, M_bestRow, M_image, M_isKept)) (fun r_17 => (if r_17 = 0 then (Option.bind (f_X6_in x3 (nI 0) (nI 1)) (fun r_28 => (if r_28 = 0 then some ((-2 : Int32), (M_beds, M_law, M_worths, M_sights, M_sight, M_signs, M_pad, M_lies, M_empty, M_list, M_waits, M_yard, M_last, M_used, M_sheets, M_nights, M_fleasOfGuests, M_fleasOfBeds, M_reason, M_row, M_bestRow, M_image, M_isKept)) else (Option.bind (f_X6_barOfComing (M_beds, M_law, M_worths, M_sights, M_sight, M_signs, M_pad, M_lies, M_empty, M_list, M_waits, M_yard, M_last, M_used, M_sheets, M_nights, M_fleasOfGuests, M_fleasOfBeds, M_reason, M_row, M_bestRow, M_image, M_isKept)) (fun (r_38, (M_beds_38, M_law_38, M_worths_38, M_sights_38, M_sight_38, M_signs_38, M_pad_38, M_lies_38, M_empty_38, M_list_38, M_waits_38, M_yard_38, M_last_38, M_used_38, M_sheets_38, M_nights_38, M_fleasOfGuests_38, M_fleasOfBeds_38, M_reason_38, M_row_38, M_bestRow_38, M_image_38, M_isKept_38)) => (if 0 ≤ r_38 then f_X6_when_L61 x1 x2 FU (nI 0) (-6 : Int32) (nI 0) M_beds_38 M_law_38 M_worths_38 M_sights_38 M_sight_38 M_signs_38 M_pad_38 M_lies_38 M_empty_38 M_list_38 M_waits_38 M_yard_38 M_last_38 M_used_38 M_sheets_38 M_nights_38 M_fleasOfGuests_38 M_fleasOfBeds_38 M_reason_38 M_row_38 M_bestRow_38 M_image_38 M_isKept_38 (fun x5_L61 x6_L61 x7_L61 M_beds_L61 M_law_L61 M_worths_L61 M_sights_L61 M_sight_L61 M_signs_L61 M_pad_L61 M_lies_L61 M_empty_L61 M_list_L61 M_waits_L61 M_yard_L61 M_last_L61 M_used_L61 M_sheets_L61 M_nights_L61 M_fleasOfGuests_L61 M_fleasOfBeds_L61 M_reason_L61 M_row_L61 M_bestRow_L61 M_image_L61 M_isKept_L61 => (if x3 = 0 then some (x5_L61, (M_beds_L61, M_law_L61, M_worths_L61, M_sights_L61, M_sight_L61, M_signs_L61, M_pad_L61, M_lies_L61, M_empty_L61, M_list_L61, M_waits_L61, M_yard_L61, M_last_L61, M_used_L61, M_sheets_L61, M_nights_L61, M_fleasOfGuests_L61, M_fleasOfBeds_L61, M_reason_L61, M_row_L61, M_bestRow_L61, M_image_L61, M_isKept_L61)) else some (x6_L61, (M_beds_L61, M_law_L61, M_worths_L61, M_sights_L61, M_sight_L61, M_signs_L61, M_pad_L61, M_lies_L61, M_empty_L61, M_list_L61, M_waits_L61, M_yard_L61, M_last_L61, M_used_L61, M_sheets_L61, M_nights_L61, M_fleasOfGuests_L61, M_fleasOfBeds_L61, M_reason_L61, M_row_L61, M_bestRow_L61, M_image_L61, M_isKept_L61)))) else some (r_38, (M_beds_38, M_law_38, M_worths_38, M_sights_38, M_sight_38, M_signs_38, M_pad_38, M_lies_38, M_empty_38, M_list_38, M_waits_38, M_yard_38, M_last_38, M_used_38, M_sheets_38, M_nights_38, M_fleasOfGuests_38, M_fleasOfBeds_38, M_reason_38, M_row_38, M_bestRow_38, M_image_38, M_isKept_38)))))))) else some ((-1 : Int32), (M_beds, M_law, M_worths, M_sights, M_sight, M_signs, M_pad, M_lies, M_empty, M_list, M_waits, M_yard, M_last, M_used, M_sheets, M_nights, M_fleasOfGuests, M_fleasOfBeds, M_reason, M_row, M_bestRow, M_image, M_isKept)))))))))))
set_option maxHeartbeats 4000000 in
set_option maxRecDepth 100000 in
theorem c_X6_when (l : Launch) (D : va_G) (cI cZ : ClassId) (aM : Nat → Nat) (x1 : Int32) (x2 : Int32) (x3 : Int32) (tM : ModS) (rr : Int32 × ModS) (hf : f_X6_when x1 x2 x3 tM = some rr) : CT l D cI cZ yX6_when cX6_when 8 (some .int) 7 160 0 0 [.ref (aM 0), .int x1, .int x2, .int x3] ([mC cI cZ aM tM]) (gPost (some (.int rr.1)) ([mC cI cZ aM rr.2])) := by
  obtain ⟨M_beds, M_law, M_worths, M_sights, M_sight, M_signs, M_pad, M_lies, M_empty, M_list, M_waits, M_yard, M_last, M_used, M_sheets, M_nights, M_fleasOfGuests, M_fleasOfBeds, M_reason, M_row, M_bestRow, M_image, M_isKept⟩ := tM
  rw [f_X6_when] at hf
  refine CT.mkI (by decide) (Nat.le_of_ble_eq_true rfl) fun {p} {e} {R} {s} {m} {args} {below} {meth} {c} {A} {H0} {Q} C hA hR hret => ?_
  show G p l e R s m args below meth c 8 D A H0 0 0 Q [mC cI cZ aM (M_beds, M_law, M_worths, M_sights, M_sight, M_signs, M_pad, M_lies, M_empty, M_list, M_waits, M_yard, M_last, M_used, M_sheets, M_nights, M_fleasOfGuests, M_fleasOfBeds, M_reason, M_row, M_bestRow, M_image, M_isKept)] 0 [(0, .ref (aM 0)), (1, .int x1), (2, .int x2), (3, .int x3)] []
  refine gq_iload_n C 1 1 dX6_when_0 rfl rfl ?_
  obtain ⟨r_1, hc, hf⟩ := gq_bd hf
  refine gq_callS C hA gm_X6_67 (c_X6_isGuest l D cI cZ  x1 _ hc) rfl ⟨Nat.le_trans (Nat.le_of_ble_eq_true rfl) hR.1, Nat.le_trans (Nat.le_of_ble_eq_true rfl) hR.2.1⟩ ⟨Nat.zero_le _, Nat.zero_le _⟩ rfl (Nat.le_of_ble_eq_true rfl) dX6_when_1 [] [mC cI cZ aM (M_beds, M_law, M_worths, M_sights, M_sight, M_signs, M_pad, M_lies, M_empty, M_list, M_waits, M_yard, M_last, M_used, M_sheets, M_nights, M_fleasOfGuests, M_fleasOfBeds, M_reason, M_row, M_bestRow, M_image, M_isKept)] 4 rfl (by decide) rfl rfl rfl [.int r_1] rfl ?_
  refine gq_if_eq C 23 7 dX6_when_4 (by decide) rfl (fun h4 => ?_) (fun h4 => ?_)
  · replace hf := gq_ifp h4 hf
    refine gq_iconst C (-1 : Int32) 24 dX6_when_23 (by decide) rfl ?_
    obtain rfl := gq_lf hf
    exact hret dX6_when_24 gPost.rf
  · replace hf := gq_ifn h4 hf
    refine gq_aload_n C 0 8 dX6_when_7 rfl rfl ?_
    refine gq_iload_n C 2 9 dX6_when_8 rfl rfl ?_
    obtain ⟨r_9, hc, hf⟩ := gq_bd hf
    refine gq_callV C hA gm_X6_71 (c_X6_isBed l D cI cZ aM x2 (M_beds, M_law, M_worths, M_sights, M_sight, M_signs, M_pad, M_lies, M_empty, M_list, M_waits, M_yard, M_last, M_used, M_sheets, M_nights, M_fleasOfGuests, M_fleasOfBeds, M_reason, M_row, M_bestRow, M_image, M_isKept) _ hc) rfl 0 0 rfl rfl rfl ⟨Nat.le_trans (Nat.le_of_ble_eq_true rfl) hR.1, Nat.le_trans (Nat.le_of_ble_eq_true rfl) hR.2.1⟩ ⟨Nat.zero_le _, Nat.zero_le _⟩ rfl (Nat.le_of_ble_eq_true rfl) dX6_when_9 [0] [mC cI cZ aM (M_beds, M_law, M_worths, M_sights, M_sight, M_signs, M_pad, M_lies, M_empty, M_list, M_waits, M_yard, M_last, M_used, M_sheets, M_nights, M_fleasOfGuests, M_fleasOfBeds, M_reason, M_row, M_bestRow, M_image, M_isKept)] 12 rfl (by decide) rfl rfl rfl [.int r_9] rfl ?_
    refine gq_if_eq C 23 15 dX6_when_12 (by decide) rfl (fun h12 => ?_) (fun h12 => ?_)
    · replace hf := gq_ifp h12 hf
      refine gq_iconst C (-1 : Int32) 24 dX6_when_23 (by decide) rfl ?_
      obtain rfl := gq_lf hf
      exact hret dX6_when_24 gPost.rf
    · replace hf := gq_ifn h12 hf
      refine gq_aload_n C 0 16 dX6_when_15 rfl rfl ?_
      refine gq_iload_n C 1 17 dX6_when_16 rfl rfl ?_
      obtain ⟨r_17, hc, hf⟩ := gq_bd hf
      refine gq_callV C hA gm_X6_153 (c_X6_isInDay l D cI cZ aM x1 (M_beds, M_law, M_worths, M_sights, M_sight, M_signs, M_pad, M_lies, M_empty, M_list, M_waits, M_yard, M_last, M_used, M_sheets, M_nights, M_fleasOfGuests, M_fleasOfBeds, M_reason, M_row, M_bestRow, M_image, M_isKept) _ hc) rfl 0 0 rfl rfl rfl ⟨Nat.le_trans (Nat.le_of_ble_eq_true rfl) hR.1, Nat.le_trans (Nat.le_of_ble_eq_true rfl) hR.2.1⟩ ⟨Nat.zero_le _, Nat.zero_le _⟩ rfl (Nat.le_of_ble_eq_true rfl) dX6_when_17 [0] [mC cI cZ aM (M_beds, M_law, M_worths, M_sights, M_sight, M_signs, M_pad, M_lies, M_empty, M_list, M_waits, M_yard, M_last, M_used, M_sheets, M_nights, M_fleasOfGuests, M_fleasOfBeds, M_reason, M_row, M_bestRow, M_image, M_isKept)] 20 rfl (by decide) rfl rfl rfl [.int r_17] rfl ?_
      refine gq_if_eq C 25 23 dX6_when_20 (by decide) rfl (fun h20 => ?_) (fun h20 => ?_)
      · replace hf := gq_ifp h20 hf
        refine gq_iload_n C 3 26 dX6_when_25 rfl rfl ?_
        refine gq_iconst C (nI 0) 27 dX6_when_26 (by decide) rfl ?_
        refine gq_iconst C (nI 1) 28 dX6_when_27 (by decide) rfl ?_
        obtain ⟨r_28, hc, hf⟩ := gq_bd hf
        refine gq_callS C hA gm_X6_60 (c_X6_in l D cI cZ  x3 (nI 0) (nI 1) _ hc) rfl ⟨Nat.le_trans (Nat.le_of_ble_eq_true rfl) hR.1, Nat.le_trans (Nat.le_of_ble_eq_true rfl) hR.2.1⟩ ⟨Nat.zero_le _, Nat.zero_le _⟩ rfl (Nat.le_of_ble_eq_true rfl) dX6_when_28 [] [mC cI cZ aM (M_beds, M_law, M_worths, M_sights, M_sight, M_signs, M_pad, M_lies, M_empty, M_list, M_waits, M_yard, M_last, M_used, M_sheets, M_nights, M_fleasOfGuests, M_fleasOfBeds, M_reason, M_row, M_bestRow, M_image, M_isKept)] 31 rfl (by decide) rfl rfl rfl [.int r_28] rfl ?_
        refine gq_if_ne C 37 34 dX6_when_31 (by decide) rfl (fun h31 => ?_) (fun h31 => ?_)
        · replace hf := gq_ifn h31 hf
          refine gq_aload_n C 0 38 dX6_when_37 rfl rfl ?_
          obtain ⟨⟨r_38, ⟨M_beds_38, M_law_38, M_worths_38, M_sights_38, M_sight_38, M_signs_38, M_pad_38, M_lies_38, M_empty_38, M_list_38, M_waits_38, M_yard_38, M_last_38, M_used_38, M_sheets_38, M_nights_38, M_fleasOfGuests_38, M_fleasOfBeds_38, M_reason_38, M_row_38, M_bestRow_38, M_image_38, M_isKept_38⟩⟩, hc, hf⟩ := gq_bd hf
          refine gq_callV C hA gm_X6_156 (c_X6_barOfComing l D cI cZ aM (M_beds, M_law, M_worths, M_sights, M_sight, M_signs, M_pad, M_lies, M_empty, M_list, M_waits, M_yard, M_last, M_used, M_sheets, M_nights, M_fleasOfGuests, M_fleasOfBeds, M_reason, M_row, M_bestRow, M_image, M_isKept) _ hc) rfl 0 0 rfl rfl rfl ⟨Nat.le_trans (Nat.le_of_ble_eq_true rfl) hR.1, Nat.le_trans (Nat.le_of_ble_eq_true rfl) hR.2.1⟩ ⟨Nat.zero_le _, Nat.zero_le _⟩ rfl (Nat.le_of_ble_eq_true rfl) dX6_when_38 [0] [mC cI cZ aM (M_beds_38, M_law_38, M_worths_38, M_sights_38, M_sight_38, M_signs_38, M_pad_38, M_lies_38, M_empty_38, M_list_38, M_waits_38, M_yard_38, M_last_38, M_used_38, M_sheets_38, M_nights_38, M_fleasOfGuests_38, M_fleasOfBeds_38, M_reason_38, M_row_38, M_bestRow_38, M_image_38, M_isKept_38)] 41 rfl (by decide) rfl rfl rfl [.int r_38] rfl ?_
          refine gq_istore C [(4, .int r_38), (0, .ref (aM 0)), (1, .int x1), (2, .int x2), (3, .int x3)] 43 dX6_when_41 (by decide) rfl rfl ?_
          refine gq_iload C 0 45 dX6_when_43 rfl rfl ?_
          refine gq_if_ge C 51 48 dX6_when_45 (by decide) rfl (fun h45 => ?_) (fun h45 => ?_)
          · replace hf := gq_ifp h45 hf
            refine gq_iconst C (nI 0) 52 dX6_when_51 (by decide) rfl ?_
            refine gq_istore C [(5, .int (nI 0)), (4, .int r_38), (0, .ref (aM 0)), (1, .int x1), (2, .int x2), (3, .int x3)] 54 dX6_when_52 (by decide) rfl rfl ?_
            refine gq_bipush C (-6 : Int32) 56 dX6_when_54 (by decide) rfl ?_
            refine gq_istore C [(6, .int (-6 : Int32)), (5, .int (nI 0)), (4, .int r_38), (0, .ref (aM 0)), (1, .int x1), (2, .int x2), (3, .int x3)] 58 dX6_when_56 (by decide) rfl rfl ?_
            refine gq_iconst C (nI 0) 59 dX6_when_58 (by decide) rfl ?_
            refine gq_istore C [(7, .int (nI 0)), (6, .int (-6 : Int32)), (5, .int (nI 0)), (4, .int r_38), (0, .ref (aM 0)), (1, .int x1), (2, .int x2), (3, .int x3)] 61 dX6_when_59 (by decide) rfl rfl ?_
            have L61 : ∀ (kL : Int32 → Int32 → Int32 → Int32 → Int32 → (Nat → Int32) → Int32 → (Nat → Int32) → Int32 → (Nat → Int32) → (Nat → Int32) → Int32 → (Nat → Int32) → Int32 → (Nat → Int32) → (Nat → Int32) → (Nat → Int32) → (Nat → Int32) → (Nat → Int32) → Int32 → Int32 → Int32 → (Nat → Int32) → (Nat → Int32) → (Nat → Int32) → (Nat → Int32) → Option (Int32 × ModS)), (∀ (x5_L61 : Int32) (x6_L61 : Int32) (x7_L61 : Int32) (M_beds_L61 : Int32) (M_law_L61 : Int32) (M_worths_L61 : (Nat → Int32)) (M_sights_L61 : Int32) (M_sight_L61 : (Nat → Int32)) (M_signs_L61 : Int32) (M_pad_L61 : (Nat → Int32)) (M_lies_L61 : (Nat → Int32)) (M_empty_L61 : Int32) (M_list_L61 : (Nat → Int32)) (M_waits_L61 : Int32) (M_yard_L61 : (Nat → Int32)) (M_last_L61 : (Nat → Int32)) (M_used_L61 : (Nat → Int32)) (M_sheets_L61 : (Nat → Int32)) (M_nights_L61 : (Nat → Int32)) (M_fleasOfGuests_L61 : Int32) (M_fleasOfBeds_L61 : Int32) (M_reason_L61 : Int32) (M_row_L61 : (Nat → Int32)) (M_bestRow_L61 : (Nat → Int32)) (M_image_L61 : (Nat → Int32)) (M_isKept_L61 : (Nat → Int32)), kL x5_L61 x6_L61 x7_L61 M_beds_L61 M_law_L61 M_worths_L61 M_sights_L61 M_sight_L61 M_signs_L61 M_pad_L61 M_lies_L61 M_empty_L61 M_list_L61 M_waits_L61 M_yard_L61 M_last_L61 M_used_L61 M_sheets_L61 M_nights_L61 M_fleasOfGuests_L61 M_fleasOfBeds_L61 M_reason_L61 M_row_L61 M_bestRow_L61 M_image_L61 M_isKept_L61 = some rr → G p l e R s m args below meth c 8 D A H0 0 0 Q [mC cI cZ aM (M_beds_L61, M_law_L61, M_worths_L61, M_sights_L61, M_sight_L61, M_signs_L61, M_pad_L61, M_lies_L61, M_empty_L61, M_list_L61, M_waits_L61, M_yard_L61, M_last_L61, M_used_L61, M_sheets_L61, M_nights_L61, M_fleasOfGuests_L61, M_fleasOfBeds_L61, M_reason_L61, M_row_L61, M_bestRow_L61, M_image_L61, M_isKept_L61)] 117 [(7, .int x7_L61), (6, .int x6_L61), (5, .int x5_L61), (4, .int r_38), (0, .ref (aM 0)), (1, .int x1), (2, .int x2), (3, .int x3)] []) → ∀ (n : Nat) (x5_L61 : Int32) (x6_L61 : Int32) (x7_L61 : Int32) (M_beds_L61 : Int32) (M_law_L61 : Int32) (M_worths_L61 : (Nat → Int32)) (M_sights_L61 : Int32) (M_sight_L61 : (Nat → Int32)) (M_signs_L61 : Int32) (M_pad_L61 : (Nat → Int32)) (M_lies_L61 : (Nat → Int32)) (M_empty_L61 : Int32) (M_list_L61 : (Nat → Int32)) (M_waits_L61 : Int32) (M_yard_L61 : (Nat → Int32)) (M_last_L61 : (Nat → Int32)) (M_used_L61 : (Nat → Int32)) (M_sheets_L61 : (Nat → Int32)) (M_nights_L61 : (Nat → Int32)) (M_fleasOfGuests_L61 : Int32) (M_fleasOfBeds_L61 : Int32) (M_reason_L61 : Int32) (M_row_L61 : (Nat → Int32)) (M_bestRow_L61 : (Nat → Int32)) (M_image_L61 : (Nat → Int32)) (M_isKept_L61 : (Nat → Int32)), f_X6_when_L61 x1 x2 n x5_L61 x6_L61 x7_L61 M_beds_L61 M_law_L61 M_worths_L61 M_sights_L61 M_sight_L61 M_signs_L61 M_pad_L61 M_lies_L61 M_empty_L61 M_list_L61 M_waits_L61 M_yard_L61 M_last_L61 M_used_L61 M_sheets_L61 M_nights_L61 M_fleasOfGuests_L61 M_fleasOfBeds_L61 M_reason_L61 M_row_L61 M_bestRow_L61 M_image_L61 M_isKept_L61 kL = some rr → G p l e R s m args below meth c 8 D A H0 0 0 Q [mC cI cZ aM (M_beds_L61, M_law_L61, M_worths_L61, M_sights_L61, M_sight_L61, M_signs_L61, M_pad_L61, M_lies_L61, M_empty_L61, M_list_L61, M_waits_L61, M_yard_L61, M_last_L61, M_used_L61, M_sheets_L61, M_nights_L61, M_fleasOfGuests_L61, M_fleasOfBeds_L61, M_reason_L61, M_row_L61, M_bestRow_L61, M_image_L61, M_isKept_L61)] 61 [(7, .int x7_L61), (6, .int x6_L61), (5, .int x5_L61), (4, .int r_38), (0, .ref (aM 0)), (1, .int x1), (2, .int x2), (3, .int x3)] [] := by
              intro kL hkL61 n
              induction n with
              | zero =>
                intro x5_L61 x6_L61 x7_L61 M_beds_L61 M_law_L61 M_worths_L61 M_sights_L61 M_sight_L61 M_signs_L61 M_pad_L61 M_lies_L61 M_empty_L61 M_list_L61 M_waits_L61 M_yard_L61 M_last_L61 M_used_L61 M_sheets_L61 M_nights_L61 M_fleasOfGuests_L61 M_fleasOfBeds_L61 M_reason_L61 M_row_L61 M_bestRow_L61 M_image_L61 M_isKept_L61 hf
                rw [f_X6_when_L61] at hf
                cases hf
              | succ n ihL61 =>
                intro x5_L61 x6_L61 x7_L61 M_beds_L61 M_law_L61 M_worths_L61 M_sights_L61 M_sight_L61 M_signs_L61 M_pad_L61 M_lies_L61 M_empty_L61 M_list_L61 M_waits_L61 M_yard_L61 M_last_L61 M_used_L61 M_sheets_L61 M_nights_L61 M_fleasOfGuests_L61 M_fleasOfBeds_L61 M_reason_L61 M_row_L61 M_bestRow_L61 M_image_L61 M_isKept_L61 hf
                rw [f_X6_when_L61] at hf
                refine gq_iload C 0 63 dX6_when_61 rfl rfl ?_
                refine gq_aload_n C 4 64 dX6_when_63 rfl rfl ?_
                refine gq_get C fo_X6_5 fw_X6_74 0 0 67 rfl rfl rfl dX6_when_64 rfl ?_
                refine gq_icmp_gt C 117 70 dX6_when_67 (by decide) rfl (fun h67 => ?_) (fun h67 => ?_)
                · replace hf := gq_ifp h67 hf
                  exact hkL61 _ _ _ _ _ _ _ _ _ _ _ _ _ _ _ _ _ _ _ _ _ _ _ _ _ _ hf
                · replace hf := gq_ifn h67 hf
                  refine gq_aload_n C 4 71 dX6_when_70 rfl rfl ?_
                  refine gq_aload_n C 4 72 dX6_when_71 rfl rfl ?_
                  refine gq_get C fo_X6_5 fw_X6_74 0 0 75 rfl rfl rfl dX6_when_72 rfl ?_
                  refine gq_iconst C (nI 0) 76 dX6_when_75 (by decide) rfl ?_
                  refine gq_iload C 0 78 dX6_when_76 rfl rfl ?_
                  refine gq_iload_n C 5 79 dX6_when_78 rfl rfl ?_
                  obtain ⟨⟨r_79, ⟨M_beds_79, M_law_79, M_worths_79, M_sights_79, M_sight_79, M_signs_79, M_pad_79, M_lies_79, M_empty_79, M_list_79, M_waits_79, M_yard_79, M_last_79, M_used_79, M_sheets_79, M_nights_79, M_fleasOfGuests_79, M_fleasOfBeds_79, M_reason_79, M_row_79, M_bestRow_79, M_image_79, M_isKept_79⟩⟩, hc, hf⟩ := gq_bd hf
                  refine gq_callV C hA gm_X6_146 (c_X6_go l D cI cZ aM M_signs_L61 (nI 0) x7_L61 x1 (M_beds_L61, M_law_L61, M_worths_L61, M_sights_L61, M_sight_L61, M_signs_L61, M_pad_L61, M_lies_L61, M_empty_L61, M_list_L61, M_waits_L61, M_yard_L61, M_last_L61, M_used_L61, M_sheets_L61, M_nights_L61, M_fleasOfGuests_L61, M_fleasOfBeds_L61, M_reason_L61, M_row_L61, M_bestRow_L61, M_image_L61, M_isKept_L61) _ hc) rfl 0 0 rfl rfl rfl ⟨Nat.le_trans (Nat.le_of_ble_eq_true rfl) hR.1, Nat.le_trans (Nat.le_of_ble_eq_true rfl) hR.2.1⟩ ⟨Nat.zero_le _, Nat.zero_le _⟩ rfl (Nat.le_of_ble_eq_true rfl) dX6_when_79 [0] [mC cI cZ aM (M_beds_79, M_law_79, M_worths_79, M_sights_79, M_sight_79, M_signs_79, M_pad_79, M_lies_79, M_empty_79, M_list_79, M_waits_79, M_yard_79, M_last_79, M_used_79, M_sheets_79, M_nights_79, M_fleasOfGuests_79, M_fleasOfBeds_79, M_reason_79, M_row_79, M_bestRow_79, M_image_79, M_isKept_79)] 82 rfl (by decide) rfl rfl rfl [.int r_79] rfl ?_
                  refine gq_if_ge C 111 85 dX6_when_82 (by decide) rfl (fun h82 => ?_) (fun h82 => ?_)
                  · replace hf := gq_ifp h82 hf
                    refine gq_iinc C 0 [(7, .int (x7_L61 + (nI 1))), (6, .int x6_L61), (5, .int x5_L61), (4, .int r_38), (0, .ref (aM 0)), (1, .int x1), (2, .int x2), (3, .int x3)] 114 dX6_when_111 rfl rfl (by decide) rfl rfl ?_
                    refine gq_goto C 61 dX6_when_114 (by decide) ?_
                    exact ihL61 _ _ _ _ _ _ _ _ _ _ _ _ _ _ _ _ _ _ _ _ _ _ _ _ _ _ hf
                  · replace hf := gq_ifn h82 hf
                    refine gq_aload_n C 4 86 dX6_when_85 rfl rfl ?_
                    refine gq_iload_n C 5 87 dX6_when_86 rfl rfl ?_
                    obtain ⟨r_87, hc, hf⟩ := gq_bd hf
                    refine gq_callV C hA gm_X6_87 (c_X6_bedOf l D cI cZ aM x1 (M_beds_79, M_law_79, M_worths_79, M_sights_79, M_sight_79, M_signs_79, M_pad_79, M_lies_79, M_empty_79, M_list_79, M_waits_79, M_yard_79, M_last_79, M_used_79, M_sheets_79, M_nights_79, M_fleasOfGuests_79, M_fleasOfBeds_79, M_reason_79, M_row_79, M_bestRow_79, M_image_79, M_isKept_79) _ hc) rfl 0 0 rfl rfl rfl ⟨Nat.le_trans (Nat.le_of_ble_eq_true rfl) hR.1, Nat.le_trans (Nat.le_of_ble_eq_true rfl) hR.2.1⟩ ⟨Nat.zero_le _, Nat.zero_le _⟩ rfl (Nat.le_of_ble_eq_true rfl) dX6_when_87 [0] [mC cI cZ aM (M_beds_79, M_law_79, M_worths_79, M_sights_79, M_sight_79, M_signs_79, M_pad_79, M_lies_79, M_empty_79, M_list_79, M_waits_79, M_yard_79, M_last_79, M_used_79, M_sheets_79, M_nights_79, M_fleasOfGuests_79, M_fleasOfBeds_79, M_reason_79, M_row_79, M_bestRow_79, M_image_79, M_isKept_79)] 90 rfl (by decide) rfl rfl rfl [.int r_87] rfl ?_
                    refine gq_iload_n C 6 91 dX6_when_90 rfl rfl ?_
                    refine gq_icmp_ne C 111 94 dX6_when_91 (by decide) rfl (fun h91 => ?_) (fun h91 => ?_)
                    · replace hf := gq_ifn h91 hf
                      refine gq_iinc C 0 [(7, .int (x7_L61 + (nI 1))), (6, .int x6_L61), (5, .int x5_L61), (4, .int r_38), (0, .ref (aM 0)), (1, .int x1), (2, .int x2), (3, .int x3)] 114 dX6_when_111 rfl rfl (by decide) rfl rfl ?_
                      refine gq_goto C 61 dX6_when_114 (by decide) ?_
                      exact ihL61 _ _ _ _ _ _ _ _ _ _ _ _ _ _ _ _ _ _ _ _ _ _ _ _ _ _ hf
                    · replace hf := gq_ifp h91 hf
                      refine gq_iload C 1 96 dX6_when_94 rfl rfl ?_
                      refine gq_if_ge C 104 99 dX6_when_96 (by decide) rfl (fun h96 => ?_) (fun h96 => ?_)
                      · replace hf := gq_ifp h96 hf
                        refine gq_iload C 1 106 dX6_when_104 rfl rfl ?_
                        refine gq_istore C [(6, .int x6_L61), (7, .int x7_L61), (5, .int x5_L61), (4, .int r_38), (0, .ref (aM 0)), (1, .int x1), (2, .int x2), (3, .int x3)] 108 dX6_when_106 (by decide) rfl rfl ?_
                        refine gq_iinc C 2 [(5, .int (x5_L61 + (nI 1))), (6, .int x6_L61), (7, .int x7_L61), (4, .int r_38), (0, .ref (aM 0)), (1, .int x1), (2, .int x2), (3, .int x3)] 111 dX6_when_108 rfl rfl (by decide) rfl rfl ?_
                        refine gq_iinc C 2 [(7, .int (x7_L61 + (nI 1))), (5, .int (x5_L61 + (nI 1))), (6, .int x6_L61), (4, .int r_38), (0, .ref (aM 0)), (1, .int x1), (2, .int x2), (3, .int x3)] 114 dX6_when_111 rfl rfl (by decide) rfl rfl ?_
                        refine gq_goto C 61 dX6_when_114 (by decide) ?_
                        refine gq_lv [0, 2, 1, 3, 4, 5, 6, 7] rfl ?_
                        exact ihL61 _ _ _ _ _ _ _ _ _ _ _ _ _ _ _ _ _ _ _ _ _ _ _ _ _ _ hf
                      · replace hf := gq_ifn h96 hf
                        refine gq_iload C 0 101 dX6_when_99 rfl rfl ?_
                        refine gq_goto C 106 dX6_when_101 (by decide) ?_
                        refine gq_istore C [(6, .int x7_L61), (7, .int x7_L61), (5, .int x5_L61), (4, .int r_38), (0, .ref (aM 0)), (1, .int x1), (2, .int x2), (3, .int x3)] 108 dX6_when_106 (by decide) rfl rfl ?_
                        refine gq_iinc C 2 [(5, .int (x5_L61 + (nI 1))), (6, .int x7_L61), (7, .int x7_L61), (4, .int r_38), (0, .ref (aM 0)), (1, .int x1), (2, .int x2), (3, .int x3)] 111 dX6_when_108 rfl rfl (by decide) rfl rfl ?_
                        refine gq_iinc C 2 [(7, .int (x7_L61 + (nI 1))), (5, .int (x5_L61 + (nI 1))), (6, .int x7_L61), (4, .int r_38), (0, .ref (aM 0)), (1, .int x1), (2, .int x2), (3, .int x3)] 114 dX6_when_111 rfl rfl (by decide) rfl rfl ?_
                        refine gq_goto C 61 dX6_when_114 (by decide) ?_
                        refine gq_lv [0, 2, 1, 3, 4, 5, 6, 7] rfl ?_
                        exact ihL61 _ _ _ _ _ _ _ _ _ _ _ _ _ _ _ _ _ _ _ _ _ _ _ _ _ _ hf
            refine L61 _ (fun x5_L61 x6_L61 x7_L61 M_beds_L61 M_law_L61 M_worths_L61 M_sights_L61 M_sight_L61 M_signs_L61 M_pad_L61 M_lies_L61 M_empty_L61 M_list_L61 M_waits_L61 M_yard_L61 M_last_L61 M_used_L61 M_sheets_L61 M_nights_L61 M_fleasOfGuests_L61 M_fleasOfBeds_L61 M_reason_L61 M_row_L61 M_bestRow_L61 M_image_L61 M_isKept_L61 hf => ?_) _ _ _ _ _ _ _ _ _ _ _ _ _ _ _ _ _ _ _ _ _ _ _ _ _ _ _ hf
            refine gq_iload_n C 7 118 dX6_when_117 rfl rfl ?_
            refine gq_if_ne C 126 121 dX6_when_118 (by decide) rfl (fun h118 => ?_) (fun h118 => ?_)
            · replace hf := gq_ifn h118 hf
              refine gq_iload C 1 128 dX6_when_126 rfl rfl ?_
              obtain rfl := gq_lf hf
              exact hret dX6_when_128 gPost.rf
            · replace hf := gq_ifp h118 hf
              refine gq_iload C 2 123 dX6_when_121 rfl rfl ?_
              refine gq_goto C 128 dX6_when_123 (by decide) ?_
              obtain rfl := gq_lf hf
              exact hret dX6_when_128 gPost.rf
          · replace hf := gq_ifn h45 hf
            refine gq_iload C 0 50 dX6_when_48 rfl rfl ?_
            obtain rfl := gq_lf hf
            exact hret dX6_when_50 gPost.rf
        · replace hf := gq_ifp h31 hf
          refine gq_bipush C (-2 : Int32) 36 dX6_when_34 (by decide) rfl ?_
          obtain rfl := gq_lf hf
          exact hret dX6_when_36 gPost.rf
      · replace hf := gq_ifn h20 hf
        refine gq_iconst C (-1 : Int32) 24 dX6_when_23 (by decide) rfl ?_
        obtain rfl := gq_lf hf
        exact hret dX6_when_24 gPost.rf

def f_X6_best_L51 (c_x1 : Int32) : Nat → Int32 → Int32 → Int32 → Int32 → Int32 → (Nat → Int32) → Int32 → (Nat → Int32) → Int32 → (Nat → Int32) → (Nat → Int32) → Int32 → (Nat → Int32) → Int32 → (Nat → Int32) → (Nat → Int32) → (Nat → Int32) → (Nat → Int32) → (Nat → Int32) → Int32 → Int32 → Int32 → (Nat → Int32) → (Nat → Int32) → (Nat → Int32) → (Nat → Int32) → (Int32 → Int32 → Int32 → Int32 → Int32 → (Nat → Int32) → Int32 → (Nat → Int32) → Int32 → (Nat → Int32) → (Nat → Int32) → Int32 → (Nat → Int32) → Int32 → (Nat → Int32) → (Nat → Int32) → (Nat → Int32) → (Nat → Int32) → (Nat → Int32) → Int32 → Int32 → Int32 → (Nat → Int32) → (Nat → Int32) → (Nat → Int32) → (Nat → Int32) → Option (Int32 × ModS)) → Option (Int32 × ModS)
  | 0, _, _, _, _, _, _, _, _, _, _, _, _, _, _, _, _, _, _, _, _, _, _, _, _, _, _, _ => none
  | nL51 + 1, x4_L51, x5_L51, x6_L51, M_beds_L51, M_law_L51, M_worths_L51, M_sights_L51, M_sight_L51, M_signs_L51, M_pad_L51, M_lies_L51, M_empty_L51, M_list_L51, M_waits_L51, M_yard_L51, M_last_L51, M_used_L51, M_sheets_L51, M_nights_L51, M_fleasOfGuests_L51, M_fleasOfBeds_L51, M_reason_L51, M_row_L51, M_bestRow_L51, M_image_L51, M_isKept_L51, kL51 => (if M_signs_L51 < x6_L51 then kL51 x4_L51 x5_L51 x6_L51 M_beds_L51 M_law_L51 M_worths_L51 M_sights_L51 M_sight_L51 M_signs_L51 M_pad_L51 M_lies_L51 M_empty_L51 M_list_L51 M_waits_L51 M_yard_L51 M_last_L51 M_used_L51 M_sheets_L51 M_nights_L51 M_fleasOfGuests_L51 M_fleasOfBeds_L51 M_reason_L51 M_row_L51 M_bestRow_L51 M_image_L51 M_isKept_L51 else (Option.bind (f_X6_go M_signs_L51 (nI 0) x6_L51 c_x1 (M_beds_L51, M_law_L51, M_worths_L51, M_sights_L51, M_sight_L51, M_signs_L51, M_pad_L51, M_lies_L51, M_empty_L51, M_list_L51, M_waits_L51, M_yard_L51, M_last_L51, M_used_L51, M_sheets_L51, M_nights_L51, M_fleasOfGuests_L51, M_fleasOfBeds_L51, M_reason_L51, M_row_L51, M_bestRow_L51, M_image_L51, M_isKept_L51)) (fun (r_69, (M_beds_69, M_law_69, M_worths_69, M_sights_69, M_sight_69, M_signs_69, M_pad_69, M_lies_69, M_empty_69, M_list_69, M_waits_69, M_yard_69, M_last_69, M_used_69, M_sheets_69, M_nights_69, M_fleasOfGuests_69, M_fleasOfBeds_69, M_reason_69, M_row_69, M_bestRow_69, M_image_69, M_isKept_69)) => (Option.bind (f_X6_bedOf c_x1 (M_beds_69, M_law_69, M_worths_69, M_sights_69, M_sight_69, M_signs_69, M_pad_69, M_lies_69, M_empty_69, M_list_69, M_waits_69, M_yard_69, M_last_69, M_used_69, M_sheets_69, M_nights_69, M_fleasOfGuests_69, M_fleasOfBeds_69, M_reason_69, M_row_69, M_bestRow_69, M_image_69, M_isKept_69)) (fun r_76 => gJn (fun (z0_J107 : Int32) => gJn (fun (z0_J123 : Int32) => (if z0_J107 ≤ x5_L51 then f_X6_best_L51 c_x1 nL51 z0_J123 x5_L51 (x6_L51 + (nI 1)) M_beds_69 M_law_69 M_worths_69 M_sights_69 M_sight_69 M_signs_69 M_pad_69 M_lies_69 M_empty_69 M_list_69 M_waits_69 M_yard_69 M_last_69 M_used_69 M_sheets_69 M_nights_69 M_fleasOfGuests_69 M_fleasOfBeds_69 M_reason_69 M_row_69 M_bestRow_69 M_image_69 M_isKept_69 kL51 else f_X6_best_L51 c_x1 nL51 z0_J123 z0_J107 (x6_L51 + (nI 1)) M_beds_69 M_law_69 M_worths_69 M_sights_69 M_sight_69 M_signs_69 M_pad_69 M_lies_69 M_empty_69 M_list_69 M_waits_69 M_yard_69 M_last_69 M_used_69 M_sheets_69 M_nights_69 M_fleasOfGuests_69 M_fleasOfBeds_69 M_reason_69 M_row_69 M_bestRow_69 M_image_69 M_isKept_69 kL51)) (fun kJ123 => (if z0_J107 ≤ x5_L51 then kJ123 x4_L51 else kJ123 x6_L51))) (fun kJ107 => (if 0 ≤ r_69 then kJ107 (-1 : Int32) else (if 0 ≤ r_76 then (if (((nI 8) * c_x1) + r_76) < 0 ∨ 64 ≤ (((nI 8) * c_x1) + r_76).toNatClampNeg then none else kJ107 (M_worths_69 (((nI 8) * c_x1) + r_76).toNatClampNeg)) else kJ107 (-1 : Int32)))))))))
def f_X6_best : Int32 → Int32 → ModS → Option (Int32 × ModS)
  | x1, x2, (M_beds, M_law, M_worths, M_sights, M_sight, M_signs, M_pad, M_lies, M_empty, M_list, M_waits, M_yard, M_last, M_used, M_sheets, M_nights, M_fleasOfGuests, M_fleasOfBeds, M_reason, M_row, M_bestRow, M_image, M_isKept) => (Option.bind (f_X6_isGuest x1) (fun r_1 => (if r_1 = 0 then some ((-1 : Int32), (M_beds, M_law, M_worths, M_sights, M_sight, M_signs, M_pad, M_lies, M_empty, M_list, M_waits, M_yard, M_last, M_used, M_sheets, M_nights, M_fleasOfGuests, M_fleasOfBeds, M_reason, M_row, M_bestRow, M_image, M_isKept)) else (Option.bind (f_X6_isInDay x1 (M_beds, M_law, M_worths, M_sights, M_sight, M_signs, M_pad, M_lies, M_empty, M_list, M_waits, M_yard, M_last, M_used, M_sheets, M_nights, M_fleasOfGuests, M_fleasOfBeds, M_reason, M_row, M_bestRow, M_image, M_isKept)) (fun r_9 => (if r_9 = 0 then (Option.bind (f_X6_in x2 (nI 0) (nI 1)) (fun r_20 => (if r_20 = 0 then some ((-2 : Int32), (M_beds, M_law, M_worths, M_sights, M_sight, M_signs, M_pad, M_lies, M_empty, M_list, M_waits, M_yard, M_last, M_used, M_sheets, M_nights, M_fleasOfGuests, M_fleasOfBeds, M_reason, M_row, M_bestRow, M_image, M_isKept)) else (Option.bind (f_X6_barOfComing (M_beds, M_law, M_worths, M_sights, M_sight, M_signs, M_pad, M_lies, M_empty, M_list, M_waits, M_yard, M_last, M_used, M_sheets, M_nights, M_fleasOfGuests, M_fleasOfBeds, M_reason, M_row, M_bestRow, M_image, M_isKept)) (fun (r_30, (M_beds_30, M_law_30, M_worths_30, M_sights_30, M_sight_30, M_signs_30, M_pad_30, M_lies_30, M_empty_30, M_list_30, M_waits_30, M_yard_30, M_last_30, M_used_30, M_sheets_30, M_nights_30, M_fleasOfGuests_30, M_fleasOfBeds_30, M_reason_30, M_row_30, M_bestRow_30, M_image_30, M_isKept_30)) => (if 0 ≤ r_30 then f_X6_best_L51 x1 FU (-6 : Int32) (-2 : Int32) (nI 0) M_beds_30 M_law_30 M_worths_30 M_sights_30 M_sight_30 M_signs_30 M_pad_30 M_lies_30 M_empty_30 M_list_30 M_waits_30 M_yard_30 M_last_30 M_used_30 M_sheets_30 M_nights_30 M_fleasOfGuests_30 M_fleasOfBeds_30 M_reason_30 M_row_30 M_bestRow_30 M_image_30 M_isKept_30 (fun x4_L51 x5_L51 x6_L51 M_beds_L51 M_law_L51 M_worths_L51 M_sights_L51 M_sight_L51 M_signs_L51 M_pad_L51 M_lies_L51 M_empty_L51 M_list_L51 M_waits_L51 M_yard_L51 M_last_L51 M_used_L51 M_sheets_L51 M_nights_L51 M_fleasOfGuests_L51 M_fleasOfBeds_L51 M_reason_L51 M_row_L51 M_bestRow_L51 M_image_L51 M_isKept_L51 => (if x2 = 0 then some (x4_L51, (M_beds_L51, M_law_L51, M_worths_L51, M_sights_L51, M_sight_L51, M_signs_L51, M_pad_L51, M_lies_L51, M_empty_L51, M_list_L51, M_waits_L51, M_yard_L51, M_last_L51, M_used_L51, M_sheets_L51, M_nights_L51, M_fleasOfGuests_L51, M_fleasOfBeds_L51, M_reason_L51, M_row_L51, M_bestRow_L51, M_image_L51, M_isKept_L51)) else some (x5_L51, (M_beds_L51, M_law_L51, M_worths_L51, M_sights_L51, M_sight_L51, M_signs_L51, M_pad_L51, M_lies_L51, M_empty_L51, M_list_L51, M_waits_L51, M_yard_L51, M_last_L51, M_used_L51, M_sheets_L51, M_nights_L51, M_fleasOfGuests_L51, M_fleasOfBeds_L51, M_reason_L51, M_row_L51, M_bestRow_L51, M_image_L51, M_isKept_L51)))) else some (r_30, (M_beds_30, M_law_30, M_worths_30, M_sights_30, M_sight_30, M_signs_30, M_pad_30, M_lies_30, M_empty_30, M_list_30, M_waits_30, M_yard_30, M_last_30, M_used_30, M_sheets_30, M_nights_30, M_fleasOfGuests_30, M_fleasOfBeds_30, M_reason_30, M_row_30, M_bestRow_30, M_image_30, M_isKept_30)))))))) else some ((-1 : Int32), (M_beds, M_law, M_worths, M_sights, M_sight, M_signs, M_pad, M_lies, M_empty, M_list, M_waits, M_yard, M_last, M_used, M_sheets, M_nights, M_fleasOfGuests, M_fleasOfBeds, M_reason, M_row, M_bestRow, M_image, M_isKept))))))))
set_option maxHeartbeats 4000000 in
set_option maxRecDepth 100000 in
theorem c_X6_best (l : Launch) (D : va_G) (cI cZ : ClassId) (aM : Nat → Nat) (x1 : Int32) (x2 : Int32) (tM : ModS) (rr : Int32 × ModS) (hf : f_X6_best x1 x2 tM = some rr) : CT l D cI cZ yX6_best cX6_best 10 (some .int) 7 160 0 0 [.ref (aM 0), .int x1, .int x2] ([mC cI cZ aM tM]) (gPost (some (.int rr.1)) ([mC cI cZ aM rr.2])) := by
  obtain ⟨M_beds, M_law, M_worths, M_sights, M_sight, M_signs, M_pad, M_lies, M_empty, M_list, M_waits, M_yard, M_last, M_used, M_sheets, M_nights, M_fleasOfGuests, M_fleasOfBeds, M_reason, M_row, M_bestRow, M_image, M_isKept⟩ := tM
  rw [f_X6_best] at hf
  refine CT.mkI (by decide) (Nat.le_of_ble_eq_true rfl) fun {p} {e} {R} {s} {m} {args} {below} {meth} {c} {A} {H0} {Q} C hA hR hret => ?_
  show G p l e R s m args below meth c 10 D A H0 0 0 Q [mC cI cZ aM (M_beds, M_law, M_worths, M_sights, M_sight, M_signs, M_pad, M_lies, M_empty, M_list, M_waits, M_yard, M_last, M_used, M_sheets, M_nights, M_fleasOfGuests, M_fleasOfBeds, M_reason, M_row, M_bestRow, M_image, M_isKept)] 0 [(0, .ref (aM 0)), (1, .int x1), (2, .int x2)] []
  refine gq_iload_n C 1 1 dX6_best_0 rfl rfl ?_
  obtain ⟨r_1, hc, hf⟩ := gq_bd hf
  refine gq_callS C hA gm_X6_67 (c_X6_isGuest l D cI cZ  x1 _ hc) rfl ⟨Nat.le_trans (Nat.le_of_ble_eq_true rfl) hR.1, Nat.le_trans (Nat.le_of_ble_eq_true rfl) hR.2.1⟩ ⟨Nat.zero_le _, Nat.zero_le _⟩ rfl (Nat.le_of_ble_eq_true rfl) dX6_best_1 [] [mC cI cZ aM (M_beds, M_law, M_worths, M_sights, M_sight, M_signs, M_pad, M_lies, M_empty, M_list, M_waits, M_yard, M_last, M_used, M_sheets, M_nights, M_fleasOfGuests, M_fleasOfBeds, M_reason, M_row, M_bestRow, M_image, M_isKept)] 4 rfl (by decide) rfl rfl rfl [.int r_1] rfl ?_
  refine gq_if_eq C 15 7 dX6_best_4 (by decide) rfl (fun h4 => ?_) (fun h4 => ?_)
  · replace hf := gq_ifp h4 hf
    refine gq_iconst C (-1 : Int32) 16 dX6_best_15 (by decide) rfl ?_
    obtain rfl := gq_lf hf
    exact hret dX6_best_16 gPost.rf
  · replace hf := gq_ifn h4 hf
    refine gq_aload_n C 0 8 dX6_best_7 rfl rfl ?_
    refine gq_iload_n C 1 9 dX6_best_8 rfl rfl ?_
    obtain ⟨r_9, hc, hf⟩ := gq_bd hf
    refine gq_callV C hA gm_X6_153 (c_X6_isInDay l D cI cZ aM x1 (M_beds, M_law, M_worths, M_sights, M_sight, M_signs, M_pad, M_lies, M_empty, M_list, M_waits, M_yard, M_last, M_used, M_sheets, M_nights, M_fleasOfGuests, M_fleasOfBeds, M_reason, M_row, M_bestRow, M_image, M_isKept) _ hc) rfl 0 0 rfl rfl rfl ⟨Nat.le_trans (Nat.le_of_ble_eq_true rfl) hR.1, Nat.le_trans (Nat.le_of_ble_eq_true rfl) hR.2.1⟩ ⟨Nat.zero_le _, Nat.zero_le _⟩ rfl (Nat.le_of_ble_eq_true rfl) dX6_best_9 [0] [mC cI cZ aM (M_beds, M_law, M_worths, M_sights, M_sight, M_signs, M_pad, M_lies, M_empty, M_list, M_waits, M_yard, M_last, M_used, M_sheets, M_nights, M_fleasOfGuests, M_fleasOfBeds, M_reason, M_row, M_bestRow, M_image, M_isKept)] 12 rfl (by decide) rfl rfl rfl [.int r_9] rfl ?_
    refine gq_if_eq C 17 15 dX6_best_12 (by decide) rfl (fun h12 => ?_) (fun h12 => ?_)
    · replace hf := gq_ifp h12 hf
      refine gq_iload_n C 2 18 dX6_best_17 rfl rfl ?_
      refine gq_iconst C (nI 0) 19 dX6_best_18 (by decide) rfl ?_
      refine gq_iconst C (nI 1) 20 dX6_best_19 (by decide) rfl ?_
      obtain ⟨r_20, hc, hf⟩ := gq_bd hf
      refine gq_callS C hA gm_X6_60 (c_X6_in l D cI cZ  x2 (nI 0) (nI 1) _ hc) rfl ⟨Nat.le_trans (Nat.le_of_ble_eq_true rfl) hR.1, Nat.le_trans (Nat.le_of_ble_eq_true rfl) hR.2.1⟩ ⟨Nat.zero_le _, Nat.zero_le _⟩ rfl (Nat.le_of_ble_eq_true rfl) dX6_best_20 [] [mC cI cZ aM (M_beds, M_law, M_worths, M_sights, M_sight, M_signs, M_pad, M_lies, M_empty, M_list, M_waits, M_yard, M_last, M_used, M_sheets, M_nights, M_fleasOfGuests, M_fleasOfBeds, M_reason, M_row, M_bestRow, M_image, M_isKept)] 23 rfl (by decide) rfl rfl rfl [.int r_20] rfl ?_
      refine gq_if_ne C 29 26 dX6_best_23 (by decide) rfl (fun h23 => ?_) (fun h23 => ?_)
      · replace hf := gq_ifn h23 hf
        refine gq_aload_n C 0 30 dX6_best_29 rfl rfl ?_
        obtain ⟨⟨r_30, ⟨M_beds_30, M_law_30, M_worths_30, M_sights_30, M_sight_30, M_signs_30, M_pad_30, M_lies_30, M_empty_30, M_list_30, M_waits_30, M_yard_30, M_last_30, M_used_30, M_sheets_30, M_nights_30, M_fleasOfGuests_30, M_fleasOfBeds_30, M_reason_30, M_row_30, M_bestRow_30, M_image_30, M_isKept_30⟩⟩, hc, hf⟩ := gq_bd hf
        refine gq_callV C hA gm_X6_156 (c_X6_barOfComing l D cI cZ aM (M_beds, M_law, M_worths, M_sights, M_sight, M_signs, M_pad, M_lies, M_empty, M_list, M_waits, M_yard, M_last, M_used, M_sheets, M_nights, M_fleasOfGuests, M_fleasOfBeds, M_reason, M_row, M_bestRow, M_image, M_isKept) _ hc) rfl 0 0 rfl rfl rfl ⟨Nat.le_trans (Nat.le_of_ble_eq_true rfl) hR.1, Nat.le_trans (Nat.le_of_ble_eq_true rfl) hR.2.1⟩ ⟨Nat.zero_le _, Nat.zero_le _⟩ rfl (Nat.le_of_ble_eq_true rfl) dX6_best_30 [0] [mC cI cZ aM (M_beds_30, M_law_30, M_worths_30, M_sights_30, M_sight_30, M_signs_30, M_pad_30, M_lies_30, M_empty_30, M_list_30, M_waits_30, M_yard_30, M_last_30, M_used_30, M_sheets_30, M_nights_30, M_fleasOfGuests_30, M_fleasOfBeds_30, M_reason_30, M_row_30, M_bestRow_30, M_image_30, M_isKept_30)] 33 rfl (by decide) rfl rfl rfl [.int r_30] rfl ?_
        refine gq_istore_n C [(3, .int r_30), (0, .ref (aM 0)), (1, .int x1), (2, .int x2)] 34 dX6_best_33 (by decide) rfl rfl ?_
        refine gq_iload_n C 0 35 dX6_best_34 rfl rfl ?_
        refine gq_if_ge C 40 38 dX6_best_35 (by decide) rfl (fun h35 => ?_) (fun h35 => ?_)
        · replace hf := gq_ifp h35 hf
          refine gq_bipush C (-6 : Int32) 42 dX6_best_40 (by decide) rfl ?_
          refine gq_istore C [(4, .int (-6 : Int32)), (3, .int r_30), (0, .ref (aM 0)), (1, .int x1), (2, .int x2)] 44 dX6_best_42 (by decide) rfl rfl ?_
          refine gq_bipush C (-2 : Int32) 46 dX6_best_44 (by decide) rfl ?_
          refine gq_istore C [(5, .int (-2 : Int32)), (4, .int (-6 : Int32)), (3, .int r_30), (0, .ref (aM 0)), (1, .int x1), (2, .int x2)] 48 dX6_best_46 (by decide) rfl rfl ?_
          refine gq_iconst C (nI 0) 49 dX6_best_48 (by decide) rfl ?_
          refine gq_istore C [(6, .int (nI 0)), (5, .int (-2 : Int32)), (4, .int (-6 : Int32)), (3, .int r_30), (0, .ref (aM 0)), (1, .int x1), (2, .int x2)] 51 dX6_best_49 (by decide) rfl rfl ?_
          have L51 : ∀ (kL : Int32 → Int32 → Int32 → Int32 → Int32 → (Nat → Int32) → Int32 → (Nat → Int32) → Int32 → (Nat → Int32) → (Nat → Int32) → Int32 → (Nat → Int32) → Int32 → (Nat → Int32) → (Nat → Int32) → (Nat → Int32) → (Nat → Int32) → (Nat → Int32) → Int32 → Int32 → Int32 → (Nat → Int32) → (Nat → Int32) → (Nat → Int32) → (Nat → Int32) → Option (Int32 × ModS)), (∀ (x4_L51 : Int32) (x5_L51 : Int32) (x6_L51 : Int32) (M_beds_L51 : Int32) (M_law_L51 : Int32) (M_worths_L51 : (Nat → Int32)) (M_sights_L51 : Int32) (M_sight_L51 : (Nat → Int32)) (M_signs_L51 : Int32) (M_pad_L51 : (Nat → Int32)) (M_lies_L51 : (Nat → Int32)) (M_empty_L51 : Int32) (M_list_L51 : (Nat → Int32)) (M_waits_L51 : Int32) (M_yard_L51 : (Nat → Int32)) (M_last_L51 : (Nat → Int32)) (M_used_L51 : (Nat → Int32)) (M_sheets_L51 : (Nat → Int32)) (M_nights_L51 : (Nat → Int32)) (M_fleasOfGuests_L51 : Int32) (M_fleasOfBeds_L51 : Int32) (M_reason_L51 : Int32) (M_row_L51 : (Nat → Int32)) (M_bestRow_L51 : (Nat → Int32)) (M_image_L51 : (Nat → Int32)) (M_isKept_L51 : (Nat → Int32)), kL x4_L51 x5_L51 x6_L51 M_beds_L51 M_law_L51 M_worths_L51 M_sights_L51 M_sight_L51 M_signs_L51 M_pad_L51 M_lies_L51 M_empty_L51 M_list_L51 M_waits_L51 M_yard_L51 M_last_L51 M_used_L51 M_sheets_L51 M_nights_L51 M_fleasOfGuests_L51 M_fleasOfBeds_L51 M_reason_L51 M_row_L51 M_bestRow_L51 M_image_L51 M_isKept_L51 = some rr → G p l e R s m args below meth c 10 D A H0 0 0 Q [mC cI cZ aM (M_beds_L51, M_law_L51, M_worths_L51, M_sights_L51, M_sight_L51, M_signs_L51, M_pad_L51, M_lies_L51, M_empty_L51, M_list_L51, M_waits_L51, M_yard_L51, M_last_L51, M_used_L51, M_sheets_L51, M_nights_L51, M_fleasOfGuests_L51, M_fleasOfBeds_L51, M_reason_L51, M_row_L51, M_bestRow_L51, M_image_L51, M_isKept_L51)] 147 [(6, .int x6_L51), (5, .int x5_L51), (4, .int x4_L51), (3, .int r_30), (0, .ref (aM 0)), (1, .int x1), (2, .int x2)] []) → ∀ (n : Nat) (x4_L51 : Int32) (x5_L51 : Int32) (x6_L51 : Int32) (M_beds_L51 : Int32) (M_law_L51 : Int32) (M_worths_L51 : (Nat → Int32)) (M_sights_L51 : Int32) (M_sight_L51 : (Nat → Int32)) (M_signs_L51 : Int32) (M_pad_L51 : (Nat → Int32)) (M_lies_L51 : (Nat → Int32)) (M_empty_L51 : Int32) (M_list_L51 : (Nat → Int32)) (M_waits_L51 : Int32) (M_yard_L51 : (Nat → Int32)) (M_last_L51 : (Nat → Int32)) (M_used_L51 : (Nat → Int32)) (M_sheets_L51 : (Nat → Int32)) (M_nights_L51 : (Nat → Int32)) (M_fleasOfGuests_L51 : Int32) (M_fleasOfBeds_L51 : Int32) (M_reason_L51 : Int32) (M_row_L51 : (Nat → Int32)) (M_bestRow_L51 : (Nat → Int32)) (M_image_L51 : (Nat → Int32)) (M_isKept_L51 : (Nat → Int32)), f_X6_best_L51 x1 n x4_L51 x5_L51 x6_L51 M_beds_L51 M_law_L51 M_worths_L51 M_sights_L51 M_sight_L51 M_signs_L51 M_pad_L51 M_lies_L51 M_empty_L51 M_list_L51 M_waits_L51 M_yard_L51 M_last_L51 M_used_L51 M_sheets_L51 M_nights_L51 M_fleasOfGuests_L51 M_fleasOfBeds_L51 M_reason_L51 M_row_L51 M_bestRow_L51 M_image_L51 M_isKept_L51 kL = some rr → G p l e R s m args below meth c 10 D A H0 0 0 Q [mC cI cZ aM (M_beds_L51, M_law_L51, M_worths_L51, M_sights_L51, M_sight_L51, M_signs_L51, M_pad_L51, M_lies_L51, M_empty_L51, M_list_L51, M_waits_L51, M_yard_L51, M_last_L51, M_used_L51, M_sheets_L51, M_nights_L51, M_fleasOfGuests_L51, M_fleasOfBeds_L51, M_reason_L51, M_row_L51, M_bestRow_L51, M_image_L51, M_isKept_L51)] 51 [(6, .int x6_L51), (5, .int x5_L51), (4, .int x4_L51), (3, .int r_30), (0, .ref (aM 0)), (1, .int x1), (2, .int x2)] [] := by
            intro kL hkL51 n
            induction n with
            | zero =>
              intro x4_L51 x5_L51 x6_L51 M_beds_L51 M_law_L51 M_worths_L51 M_sights_L51 M_sight_L51 M_signs_L51 M_pad_L51 M_lies_L51 M_empty_L51 M_list_L51 M_waits_L51 M_yard_L51 M_last_L51 M_used_L51 M_sheets_L51 M_nights_L51 M_fleasOfGuests_L51 M_fleasOfBeds_L51 M_reason_L51 M_row_L51 M_bestRow_L51 M_image_L51 M_isKept_L51 hf
              rw [f_X6_best_L51] at hf
              cases hf
            | succ n ihL51 =>
              intro x4_L51 x5_L51 x6_L51 M_beds_L51 M_law_L51 M_worths_L51 M_sights_L51 M_sight_L51 M_signs_L51 M_pad_L51 M_lies_L51 M_empty_L51 M_list_L51 M_waits_L51 M_yard_L51 M_last_L51 M_used_L51 M_sheets_L51 M_nights_L51 M_fleasOfGuests_L51 M_fleasOfBeds_L51 M_reason_L51 M_row_L51 M_bestRow_L51 M_image_L51 M_isKept_L51 hf
              rw [f_X6_best_L51] at hf
              refine gq_iload C 0 53 dX6_best_51 rfl rfl ?_
              refine gq_aload_n C 4 54 dX6_best_53 rfl rfl ?_
              refine gq_get C fo_X6_5 fw_X6_74 0 0 57 rfl rfl rfl dX6_best_54 rfl ?_
              refine gq_icmp_gt C 147 60 dX6_best_57 (by decide) rfl (fun h57 => ?_) (fun h57 => ?_)
              · replace hf := gq_ifp h57 hf
                exact hkL51 _ _ _ _ _ _ _ _ _ _ _ _ _ _ _ _ _ _ _ _ _ _ _ _ _ _ hf
              · replace hf := gq_ifn h57 hf
                refine gq_aload_n C 4 61 dX6_best_60 rfl rfl ?_
                refine gq_aload_n C 4 62 dX6_best_61 rfl rfl ?_
                refine gq_get C fo_X6_5 fw_X6_74 0 0 65 rfl rfl rfl dX6_best_62 rfl ?_
                refine gq_iconst C (nI 0) 66 dX6_best_65 (by decide) rfl ?_
                refine gq_iload C 0 68 dX6_best_66 rfl rfl ?_
                refine gq_iload_n C 5 69 dX6_best_68 rfl rfl ?_
                obtain ⟨⟨r_69, ⟨M_beds_69, M_law_69, M_worths_69, M_sights_69, M_sight_69, M_signs_69, M_pad_69, M_lies_69, M_empty_69, M_list_69, M_waits_69, M_yard_69, M_last_69, M_used_69, M_sheets_69, M_nights_69, M_fleasOfGuests_69, M_fleasOfBeds_69, M_reason_69, M_row_69, M_bestRow_69, M_image_69, M_isKept_69⟩⟩, hc, hf⟩ := gq_bd hf
                refine gq_callV C hA gm_X6_146 (c_X6_go l D cI cZ aM M_signs_L51 (nI 0) x6_L51 x1 (M_beds_L51, M_law_L51, M_worths_L51, M_sights_L51, M_sight_L51, M_signs_L51, M_pad_L51, M_lies_L51, M_empty_L51, M_list_L51, M_waits_L51, M_yard_L51, M_last_L51, M_used_L51, M_sheets_L51, M_nights_L51, M_fleasOfGuests_L51, M_fleasOfBeds_L51, M_reason_L51, M_row_L51, M_bestRow_L51, M_image_L51, M_isKept_L51) _ hc) rfl 0 0 rfl rfl rfl ⟨Nat.le_trans (Nat.le_of_ble_eq_true rfl) hR.1, Nat.le_trans (Nat.le_of_ble_eq_true rfl) hR.2.1⟩ ⟨Nat.zero_le _, Nat.zero_le _⟩ rfl (Nat.le_of_ble_eq_true rfl) dX6_best_69 [0] [mC cI cZ aM (M_beds_69, M_law_69, M_worths_69, M_sights_69, M_sight_69, M_signs_69, M_pad_69, M_lies_69, M_empty_69, M_list_69, M_waits_69, M_yard_69, M_last_69, M_used_69, M_sheets_69, M_nights_69, M_fleasOfGuests_69, M_fleasOfBeds_69, M_reason_69, M_row_69, M_bestRow_69, M_image_69, M_isKept_69)] 72 rfl (by decide) rfl rfl rfl [.int r_69] rfl ?_
                refine gq_istore C [(7, .int r_69), (6, .int x6_L51), (5, .int x5_L51), (4, .int x4_L51), (3, .int r_30), (0, .ref (aM 0)), (1, .int x1), (2, .int x2)] 74 dX6_best_72 (by decide) rfl rfl ?_
                refine gq_aload_n C 5 75 dX6_best_74 rfl rfl ?_
                refine gq_iload_n C 6 76 dX6_best_75 rfl rfl ?_
                obtain ⟨r_76, hc, hf⟩ := gq_bd hf
                refine gq_callV C hA gm_X6_87 (c_X6_bedOf l D cI cZ aM x1 (M_beds_69, M_law_69, M_worths_69, M_sights_69, M_sight_69, M_signs_69, M_pad_69, M_lies_69, M_empty_69, M_list_69, M_waits_69, M_yard_69, M_last_69, M_used_69, M_sheets_69, M_nights_69, M_fleasOfGuests_69, M_fleasOfBeds_69, M_reason_69, M_row_69, M_bestRow_69, M_image_69, M_isKept_69) _ hc) rfl 0 0 rfl rfl rfl ⟨Nat.le_trans (Nat.le_of_ble_eq_true rfl) hR.1, Nat.le_trans (Nat.le_of_ble_eq_true rfl) hR.2.1⟩ ⟨Nat.zero_le _, Nat.zero_le _⟩ rfl (Nat.le_of_ble_eq_true rfl) dX6_best_76 [0] [mC cI cZ aM (M_beds_69, M_law_69, M_worths_69, M_sights_69, M_sight_69, M_signs_69, M_pad_69, M_lies_69, M_empty_69, M_list_69, M_waits_69, M_yard_69, M_last_69, M_used_69, M_sheets_69, M_nights_69, M_fleasOfGuests_69, M_fleasOfBeds_69, M_reason_69, M_row_69, M_bestRow_69, M_image_69, M_isKept_69)] 79 rfl (by decide) rfl rfl rfl [.int r_76] rfl ?_
                refine gq_istore C [(8, .int r_76), (7, .int r_69), (6, .int x6_L51), (5, .int x5_L51), (4, .int x4_L51), (3, .int r_30), (0, .ref (aM 0)), (1, .int x1), (2, .int x2)] 81 dX6_best_79 (by decide) rfl rfl ?_
                refine gq_iload C 1 83 dX6_best_81 rfl rfl ?_
                refine gq_jn (P := fun k => ∀ (z0_J107 : Int32), k z0_J107 = some rr → G p l e R s m args below meth c 10 D A H0 0 0 Q [mC cI cZ aM (M_beds_69, M_law_69, M_worths_69, M_sights_69, M_sight_69, M_signs_69, M_pad_69, M_lies_69, M_empty_69, M_list_69, M_waits_69, M_yard_69, M_last_69, M_used_69, M_sheets_69, M_nights_69, M_fleasOfGuests_69, M_fleasOfBeds_69, M_reason_69, M_row_69, M_bestRow_69, M_image_69, M_isKept_69)] 107 [(8, .int r_76), (7, .int r_69), (6, .int x6_L51), (5, .int x5_L51), (4, .int x4_L51), (3, .int r_30), (0, .ref (aM 0)), (1, .int x1), (2, .int x2)] [.int z0_J107]) hf (fun z0_J107 hf => ?_) (fun kJ107 hJ107 hf => ?_)
                · refine gq_istore C [(9, .int z0_J107), (8, .int r_76), (7, .int r_69), (6, .int x6_L51), (5, .int x5_L51), (4, .int x4_L51), (3, .int r_30), (0, .ref (aM 0)), (1, .int x1), (2, .int x2)] 109 dX6_best_107 (by decide) rfl rfl ?_
                  refine gq_iload C 0 111 dX6_best_109 rfl rfl ?_
                  refine gq_iload C 4 113 dX6_best_111 rfl rfl ?_
                  refine gq_jn (P := fun k => ∀ (z0_J123 : Int32), k z0_J123 = some rr → G p l e R s m args below meth c 10 D A H0 0 0 Q [mC cI cZ aM (M_beds_69, M_law_69, M_worths_69, M_sights_69, M_sight_69, M_signs_69, M_pad_69, M_lies_69, M_empty_69, M_list_69, M_waits_69, M_yard_69, M_last_69, M_used_69, M_sheets_69, M_nights_69, M_fleasOfGuests_69, M_fleasOfBeds_69, M_reason_69, M_row_69, M_bestRow_69, M_image_69, M_isKept_69)] 123 [(9, .int z0_J107), (8, .int r_76), (7, .int r_69), (6, .int x6_L51), (5, .int x5_L51), (4, .int x4_L51), (3, .int r_30), (0, .ref (aM 0)), (1, .int x1), (2, .int x2)] [.int z0_J123]) hf (fun z0_J123 hf => ?_) (fun kJ123 hJ123 hf => ?_)
                  · refine gq_istore C [(4, .int z0_J123), (9, .int z0_J107), (8, .int r_76), (7, .int r_69), (6, .int x6_L51), (5, .int x5_L51), (3, .int r_30), (0, .ref (aM 0)), (1, .int x1), (2, .int x2)] 125 dX6_best_123 (by decide) rfl rfl ?_
                    refine gq_iload C 1 127 dX6_best_125 rfl rfl ?_
                    refine gq_iload C 5 129 dX6_best_127 rfl rfl ?_
                    refine gq_icmp_le C 137 132 dX6_best_129 (by decide) rfl (fun h129 => ?_) (fun h129 => ?_)
                    · replace hf := gq_ifp h129 hf
                      refine gq_iload C 5 139 dX6_best_137 rfl rfl ?_
                      refine gq_istore C [(5, .int x5_L51), (4, .int z0_J123), (9, .int z0_J107), (8, .int r_76), (7, .int r_69), (6, .int x6_L51), (3, .int r_30), (0, .ref (aM 0)), (1, .int x1), (2, .int x2)] 141 dX6_best_139 (by decide) rfl rfl ?_
                      refine gq_iinc C 5 [(6, .int (x6_L51 + (nI 1))), (5, .int x5_L51), (4, .int z0_J123), (9, .int z0_J107), (8, .int r_76), (7, .int r_69), (3, .int r_30), (0, .ref (aM 0)), (1, .int x1), (2, .int x2)] 144 dX6_best_141 rfl rfl (by decide) rfl rfl ?_
                      refine gq_goto C 51 dX6_best_144 (by decide) ?_
                      refine gq_lv [0, 1, 2, 6, 7, 8, 9] rfl ?_
                      exact ihL51 _ _ _ _ _ _ _ _ _ _ _ _ _ _ _ _ _ _ _ _ _ _ _ _ _ _ hf
                    · replace hf := gq_ifn h129 hf
                      refine gq_iload C 1 134 dX6_best_132 rfl rfl ?_
                      refine gq_goto C 139 dX6_best_134 (by decide) ?_
                      refine gq_istore C [(5, .int z0_J107), (4, .int z0_J123), (9, .int z0_J107), (8, .int r_76), (7, .int r_69), (6, .int x6_L51), (3, .int r_30), (0, .ref (aM 0)), (1, .int x1), (2, .int x2)] 141 dX6_best_139 (by decide) rfl rfl ?_
                      refine gq_iinc C 5 [(6, .int (x6_L51 + (nI 1))), (5, .int z0_J107), (4, .int z0_J123), (9, .int z0_J107), (8, .int r_76), (7, .int r_69), (3, .int r_30), (0, .ref (aM 0)), (1, .int x1), (2, .int x2)] 144 dX6_best_141 rfl rfl (by decide) rfl rfl ?_
                      refine gq_goto C 51 dX6_best_144 (by decide) ?_
                      refine gq_lv [0, 1, 2, 6, 7, 8, 9] rfl ?_
                      exact ihL51 _ _ _ _ _ _ _ _ _ _ _ _ _ _ _ _ _ _ _ _ _ _ _ _ _ _ hf
                  · refine gq_icmp_le C 121 116 dX6_best_113 (by decide) rfl (fun h113 => ?_) (fun h113 => ?_)
                    · replace hf := gq_ifp h113 hf
                      refine gq_iload C 5 123 dX6_best_121 rfl rfl ?_
                      exact hJ123 _ hf
                    · replace hf := gq_ifn h113 hf
                      refine gq_iload C 3 118 dX6_best_116 rfl rfl ?_
                      refine gq_goto C 123 dX6_best_118 (by decide) ?_
                      exact hJ123 _ hf
                · refine gq_if_ge C 91 86 dX6_best_83 (by decide) rfl (fun h83 => ?_) (fun h83 => ?_)
                  · replace hf := gq_ifp h83 hf
                    refine gq_iconst C (-1 : Int32) 92 dX6_best_91 (by decide) rfl ?_
                    refine gq_goto C 107 dX6_best_92 (by decide) ?_
                    exact hJ107 _ hf
                  · replace hf := gq_ifn h83 hf
                    refine gq_iload C 0 88 dX6_best_86 rfl rfl ?_
                    refine gq_if_ge C 95 91 dX6_best_88 (by decide) rfl (fun h88 => ?_) (fun h88 => ?_)
                    · replace hf := gq_ifp h88 hf
                      refine gq_aload_n C 6 96 dX6_best_95 rfl rfl ?_
                      refine gq_get C fo_X6_2 fw_X6_13 0 0 99 rfl rfl rfl dX6_best_96 rfl ?_
                      refine gq_bipush C (nI 8) 101 dX6_best_99 (by decide) rfl ?_
                      refine gq_iload_n C 7 102 dX6_best_101 rfl rfl ?_
                      refine gq_imul C 103 dX6_best_102 rfl ?_
                      refine gq_iload C 0 105 dX6_best_103 rfl rfl ?_
                      refine gq_iadd C 106 dX6_best_105 rfl ?_
                      obtain ⟨h106, hf⟩ := gq_ok hf
                      refine gq_iald C 0 1 107 rfl rfl h106 dX6_best_106 rfl ?_
                      exact hJ107 _ hf
                    · replace hf := gq_ifn h88 hf
                      refine gq_iconst C (-1 : Int32) 92 dX6_best_91 (by decide) rfl ?_
                      refine gq_goto C 107 dX6_best_92 (by decide) ?_
                      exact hJ107 _ hf
          refine L51 _ (fun x4_L51 x5_L51 x6_L51 M_beds_L51 M_law_L51 M_worths_L51 M_sights_L51 M_sight_L51 M_signs_L51 M_pad_L51 M_lies_L51 M_empty_L51 M_list_L51 M_waits_L51 M_yard_L51 M_last_L51 M_used_L51 M_sheets_L51 M_nights_L51 M_fleasOfGuests_L51 M_fleasOfBeds_L51 M_reason_L51 M_row_L51 M_bestRow_L51 M_image_L51 M_isKept_L51 hf => ?_) _ _ _ _ _ _ _ _ _ _ _ _ _ _ _ _ _ _ _ _ _ _ _ _ _ _ _ hf
          refine gq_iload_n C 6 148 dX6_best_147 rfl rfl ?_
          refine gq_if_ne C 156 151 dX6_best_148 (by decide) rfl (fun h148 => ?_) (fun h148 => ?_)
          · replace hf := gq_ifn h148 hf
            refine gq_iload C 1 158 dX6_best_156 rfl rfl ?_
            obtain rfl := gq_lf hf
            exact hret dX6_best_158 gPost.rf
          · replace hf := gq_ifp h148 hf
            refine gq_iload C 2 153 dX6_best_151 rfl rfl ?_
            refine gq_goto C 158 dX6_best_153 (by decide) ?_
            obtain rfl := gq_lf hf
            exact hret dX6_best_158 gPost.rf
        · replace hf := gq_ifn h35 hf
          refine gq_iload_n C 0 39 dX6_best_38 rfl rfl ?_
          obtain rfl := gq_lf hf
          exact hret dX6_best_39 gPost.rf
      · replace hf := gq_ifp h23 hf
        refine gq_bipush C (-2 : Int32) 28 dX6_best_26 (by decide) rfl ?_
        obtain rfl := gq_lf hf
        exact hret dX6_best_28 gPost.rf
    · replace hf := gq_ifn h12 hf
      refine gq_iconst C (-1 : Int32) 16 dX6_best_15 (by decide) rfl ?_
      obtain rfl := gq_lf hf
      exact hret dX6_best_16 gPost.rf

def f_X6_reach_L27 (c_x1 : Int32) : Nat → Int32 → Int32 → Int32 → (Nat → Int32) → Int32 → (Nat → Int32) → Int32 → (Nat → Int32) → (Nat → Int32) → Int32 → (Nat → Int32) → Int32 → (Nat → Int32) → (Nat → Int32) → (Nat → Int32) → (Nat → Int32) → (Nat → Int32) → Int32 → Int32 → Int32 → (Nat → Int32) → (Nat → Int32) → (Nat → Int32) → (Nat → Int32) → (Int32 → Int32 → Int32 → (Nat → Int32) → Int32 → (Nat → Int32) → Int32 → (Nat → Int32) → (Nat → Int32) → Int32 → (Nat → Int32) → Int32 → (Nat → Int32) → (Nat → Int32) → (Nat → Int32) → (Nat → Int32) → (Nat → Int32) → Int32 → Int32 → Int32 → (Nat → Int32) → (Nat → Int32) → (Nat → Int32) → (Nat → Int32) → Option (Int32 × ModS)) → Option (Int32 × ModS)
  | 0, _, _, _, _, _, _, _, _, _, _, _, _, _, _, _, _, _, _, _, _, _, _, _, _, _ => none
  | nL27 + 1, x3_L27, M_beds_L27, M_law_L27, M_worths_L27, M_sights_L27, M_sight_L27, M_signs_L27, M_pad_L27, M_lies_L27, M_empty_L27, M_list_L27, M_waits_L27, M_yard_L27, M_last_L27, M_used_L27, M_sheets_L27, M_nights_L27, M_fleasOfGuests_L27, M_fleasOfBeds_L27, M_reason_L27, M_row_L27, M_bestRow_L27, M_image_L27, M_isKept_L27, kL27 => (if c_x1 < 0 ∨ 8 ≤ c_x1.toNatClampNeg then none else (if 0 ≤ (M_lies_L27 c_x1.toNatClampNeg) then kL27 x3_L27 M_beds_L27 M_law_L27 M_worths_L27 M_sights_L27 M_sight_L27 M_signs_L27 M_pad_L27 M_lies_L27 M_empty_L27 M_list_L27 M_waits_L27 M_yard_L27 M_last_L27 M_used_L27 M_sheets_L27 M_nights_L27 M_fleasOfGuests_L27 M_fleasOfBeds_L27 M_reason_L27 M_row_L27 M_bestRow_L27 M_image_L27 M_isKept_L27 else (Option.bind (f_X6_comeIn ((nI 8) + x3_L27) (M_beds_L27, M_law_L27, M_worths_L27, M_sights_L27, M_sight_L27, M_signs_L27, M_pad_L27, M_lies_L27, M_empty_L27, M_list_L27, M_waits_L27, M_yard_L27, M_last_L27, M_used_L27, M_sheets_L27, M_nights_L27, M_fleasOfGuests_L27, M_fleasOfBeds_L27, M_reason_L27, M_row_L27, M_bestRow_L27, M_image_L27, M_isKept_L27)) (fun (M_beds_41, M_law_41, M_worths_41, M_sights_41, M_sight_41, M_signs_41, M_pad_41, M_lies_41, M_empty_41, M_list_41, M_waits_41, M_yard_41, M_last_41, M_used_41, M_sheets_41, M_nights_41, M_fleasOfGuests_41, M_fleasOfBeds_41, M_reason_41, M_row_41, M_bestRow_41, M_image_41, M_isKept_41) => f_X6_reach_L27 c_x1 nL27 (x3_L27 + (nI 1)) M_beds_41 M_law_41 M_worths_41 M_sights_41 M_sight_41 M_signs_41 M_pad_41 M_lies_41 M_empty_41 M_list_41 M_waits_41 M_yard_41 M_last_41 M_used_41 M_sheets_41 M_nights_41 M_fleasOfGuests_41 M_fleasOfBeds_41 M_reason_41 M_row_41 M_bestRow_41 M_image_41 M_isKept_41 kL27))))
def f_X6_reach : Int32 → ModS → Option (Int32 × ModS)
  | x1, (M_beds, M_law, M_worths, M_sights, M_sight, M_signs, M_pad, M_lies, M_empty, M_list, M_waits, M_yard, M_last, M_used, M_sheets, M_nights, M_fleasOfGuests, M_fleasOfBeds, M_reason, M_row, M_bestRow, M_image, M_isKept) => (Option.bind (f_X6_isBed x1 (M_beds, M_law, M_worths, M_sights, M_sight, M_signs, M_pad, M_lies, M_empty, M_list, M_waits, M_yard, M_last, M_used, M_sheets, M_nights, M_fleasOfGuests, M_fleasOfBeds, M_reason, M_row, M_bestRow, M_image, M_isKept)) (fun r_2 => (if r_2 = 0 then some ((-1 : Int32), (M_beds, M_law, M_worths, M_sights, M_sight, M_signs, M_pad, M_lies, M_empty, M_list, M_waits, M_yard, M_last, M_used, M_sheets, M_nights, M_fleasOfGuests, M_fleasOfBeds, M_reason, M_row, M_bestRow, M_image, M_isKept)) else (Option.bind (f_X6_barOf M_signs (M_beds, M_law, M_worths, M_sights, M_sight, M_signs, M_pad, M_lies, M_empty, M_list, M_waits, M_yard, M_last, M_used, M_sheets, M_nights, M_fleasOfGuests, M_fleasOfBeds, M_reason, M_row, M_bestRow, M_image, M_isKept)) (fun (r_15, (M_beds_15, M_law_15, M_worths_15, M_sights_15, M_sight_15, M_signs_15, M_pad_15, M_lies_15, M_empty_15, M_list_15, M_waits_15, M_yard_15, M_last_15, M_used_15, M_sheets_15, M_nights_15, M_fleasOfGuests_15, M_fleasOfBeds_15, M_reason_15, M_row_15, M_bestRow_15, M_image_15, M_isKept_15)) => (if 0 ≤ r_15 then f_X6_reach_L27 x1 FU (nI 0) M_beds_15 M_law_15 M_worths_15 M_sights_15 M_sight_15 M_signs_15 M_pad_15 M_lies_15 M_empty_15 M_list_15 M_waits_15 M_yard_15 M_last_15 M_used_15 M_sheets_15 M_nights_15 M_fleasOfGuests_15 M_fleasOfBeds_15 M_reason_15 M_row_15 M_bestRow_15 M_image_15 M_isKept_15 (fun x3_L27 M_beds_L27 M_law_L27 M_worths_L27 M_sights_L27 M_sight_L27 M_signs_L27 M_pad_L27 M_lies_L27 M_empty_L27 M_list_L27 M_waits_L27 M_yard_L27 M_last_L27 M_used_L27 M_sheets_L27 M_nights_L27 M_fleasOfGuests_L27 M_fleasOfBeds_L27 M_reason_L27 M_row_L27 M_bestRow_L27 M_image_L27 M_isKept_L27 => some (x3_L27, (M_beds_L27, M_law_L27, M_worths_L27, M_sights_L27, M_sight_L27, M_signs_L27, M_pad_L27, M_lies_L27, M_empty_L27, M_list_L27, M_waits_L27, M_yard_L27, M_last_L27, M_used_L27, M_sheets_L27, M_nights_L27, M_fleasOfGuests_L27, M_fleasOfBeds_L27, M_reason_L27, M_row_L27, M_bestRow_L27, M_image_L27, M_isKept_L27))) else some (r_15, (M_beds_15, M_law_15, M_worths_15, M_sights_15, M_sight_15, M_signs_15, M_pad_15, M_lies_15, M_empty_15, M_list_15, M_waits_15, M_yard_15, M_last_15, M_used_15, M_sheets_15, M_nights_15, M_fleasOfGuests_15, M_fleasOfBeds_15, M_reason_15, M_row_15, M_bestRow_15, M_image_15, M_isKept_15))))))))
set_option maxHeartbeats 4000000 in
set_option maxRecDepth 100000 in
theorem c_X6_reach (l : Launch) (D : va_G) (cI cZ : ClassId) (aM : Nat → Nat) (x1 : Int32) (tM : ModS) (rr : Int32 × ModS) (hf : f_X6_reach x1 tM = some rr) : CT l D cI cZ yX6_reach cX6_reach 4 (some .int) 6 139 0 0 [.ref (aM 0), .int x1] ([mC cI cZ aM tM]) (gPost (some (.int rr.1)) ([mC cI cZ aM rr.2])) := by
  obtain ⟨M_beds, M_law, M_worths, M_sights, M_sight, M_signs, M_pad, M_lies, M_empty, M_list, M_waits, M_yard, M_last, M_used, M_sheets, M_nights, M_fleasOfGuests, M_fleasOfBeds, M_reason, M_row, M_bestRow, M_image, M_isKept⟩ := tM
  rw [f_X6_reach] at hf
  refine CT.mkI (by decide) (Nat.le_of_ble_eq_true rfl) fun {p} {e} {R} {s} {m} {args} {below} {meth} {c} {A} {H0} {Q} C hA hR hret => ?_
  show G p l e R s m args below meth c 4 D A H0 0 0 Q [mC cI cZ aM (M_beds, M_law, M_worths, M_sights, M_sight, M_signs, M_pad, M_lies, M_empty, M_list, M_waits, M_yard, M_last, M_used, M_sheets, M_nights, M_fleasOfGuests, M_fleasOfBeds, M_reason, M_row, M_bestRow, M_image, M_isKept)] 0 [(0, .ref (aM 0)), (1, .int x1)] []
  refine gq_aload_n C 0 1 dX6_reach_0 rfl rfl ?_
  refine gq_iload_n C 1 2 dX6_reach_1 rfl rfl ?_
  obtain ⟨r_2, hc, hf⟩ := gq_bd hf
  refine gq_callV C hA gm_X6_71 (c_X6_isBed l D cI cZ aM x1 (M_beds, M_law, M_worths, M_sights, M_sight, M_signs, M_pad, M_lies, M_empty, M_list, M_waits, M_yard, M_last, M_used, M_sheets, M_nights, M_fleasOfGuests, M_fleasOfBeds, M_reason, M_row, M_bestRow, M_image, M_isKept) _ hc) rfl 0 0 rfl rfl rfl ⟨Nat.le_trans (Nat.le_of_ble_eq_true rfl) hR.1, Nat.le_trans (Nat.le_of_ble_eq_true rfl) hR.2.1⟩ ⟨Nat.zero_le _, Nat.zero_le _⟩ rfl (Nat.le_of_ble_eq_true rfl) dX6_reach_2 [0] [mC cI cZ aM (M_beds, M_law, M_worths, M_sights, M_sight, M_signs, M_pad, M_lies, M_empty, M_list, M_waits, M_yard, M_last, M_used, M_sheets, M_nights, M_fleasOfGuests, M_fleasOfBeds, M_reason, M_row, M_bestRow, M_image, M_isKept)] 5 rfl (by decide) rfl rfl rfl [.int r_2] rfl ?_
  refine gq_if_ne C 10 8 dX6_reach_5 (by decide) rfl (fun h5 => ?_) (fun h5 => ?_)
  · replace hf := gq_ifn h5 hf
    refine gq_aload_n C 0 11 dX6_reach_10 rfl rfl ?_
    refine gq_aload_n C 0 12 dX6_reach_11 rfl rfl ?_
    refine gq_get C fo_X6_5 fw_X6_74 0 0 15 rfl rfl rfl dX6_reach_12 rfl ?_
    obtain ⟨⟨r_15, ⟨M_beds_15, M_law_15, M_worths_15, M_sights_15, M_sight_15, M_signs_15, M_pad_15, M_lies_15, M_empty_15, M_list_15, M_waits_15, M_yard_15, M_last_15, M_used_15, M_sheets_15, M_nights_15, M_fleasOfGuests_15, M_fleasOfBeds_15, M_reason_15, M_row_15, M_bestRow_15, M_image_15, M_isKept_15⟩⟩, hc, hf⟩ := gq_bd hf
    refine gq_callV C hA gm_X6_150 (c_X6_barOf l D cI cZ aM M_signs (M_beds, M_law, M_worths, M_sights, M_sight, M_signs, M_pad, M_lies, M_empty, M_list, M_waits, M_yard, M_last, M_used, M_sheets, M_nights, M_fleasOfGuests, M_fleasOfBeds, M_reason, M_row, M_bestRow, M_image, M_isKept) _ hc) rfl 0 0 rfl rfl rfl ⟨Nat.le_trans (Nat.le_of_ble_eq_true rfl) hR.1, Nat.le_trans (Nat.le_of_ble_eq_true rfl) hR.2.1⟩ ⟨Nat.zero_le _, Nat.zero_le _⟩ rfl (Nat.le_of_ble_eq_true rfl) dX6_reach_15 [0] [mC cI cZ aM (M_beds_15, M_law_15, M_worths_15, M_sights_15, M_sight_15, M_signs_15, M_pad_15, M_lies_15, M_empty_15, M_list_15, M_waits_15, M_yard_15, M_last_15, M_used_15, M_sheets_15, M_nights_15, M_fleasOfGuests_15, M_fleasOfBeds_15, M_reason_15, M_row_15, M_bestRow_15, M_image_15, M_isKept_15)] 18 rfl (by decide) rfl rfl rfl [.int r_15] rfl ?_
    refine gq_istore_n C [(2, .int r_15), (0, .ref (aM 0)), (1, .int x1)] 19 dX6_reach_18 (by decide) rfl rfl ?_
    refine gq_iload_n C 0 20 dX6_reach_19 rfl rfl ?_
    refine gq_if_ge C 25 23 dX6_reach_20 (by decide) rfl (fun h20 => ?_) (fun h20 => ?_)
    · replace hf := gq_ifp h20 hf
      refine gq_iconst C (nI 0) 26 dX6_reach_25 (by decide) rfl ?_
      refine gq_istore_n C [(3, .int (nI 0)), (2, .int r_15), (0, .ref (aM 0)), (1, .int x1)] 27 dX6_reach_26 (by decide) rfl rfl ?_
      have L27 : ∀ (kL : Int32 → Int32 → Int32 → (Nat → Int32) → Int32 → (Nat → Int32) → Int32 → (Nat → Int32) → (Nat → Int32) → Int32 → (Nat → Int32) → Int32 → (Nat → Int32) → (Nat → Int32) → (Nat → Int32) → (Nat → Int32) → (Nat → Int32) → Int32 → Int32 → Int32 → (Nat → Int32) → (Nat → Int32) → (Nat → Int32) → (Nat → Int32) → Option (Int32 × ModS)), (∀ (x3_L27 : Int32) (M_beds_L27 : Int32) (M_law_L27 : Int32) (M_worths_L27 : (Nat → Int32)) (M_sights_L27 : Int32) (M_sight_L27 : (Nat → Int32)) (M_signs_L27 : Int32) (M_pad_L27 : (Nat → Int32)) (M_lies_L27 : (Nat → Int32)) (M_empty_L27 : Int32) (M_list_L27 : (Nat → Int32)) (M_waits_L27 : Int32) (M_yard_L27 : (Nat → Int32)) (M_last_L27 : (Nat → Int32)) (M_used_L27 : (Nat → Int32)) (M_sheets_L27 : (Nat → Int32)) (M_nights_L27 : (Nat → Int32)) (M_fleasOfGuests_L27 : Int32) (M_fleasOfBeds_L27 : Int32) (M_reason_L27 : Int32) (M_row_L27 : (Nat → Int32)) (M_bestRow_L27 : (Nat → Int32)) (M_image_L27 : (Nat → Int32)) (M_isKept_L27 : (Nat → Int32)), kL x3_L27 M_beds_L27 M_law_L27 M_worths_L27 M_sights_L27 M_sight_L27 M_signs_L27 M_pad_L27 M_lies_L27 M_empty_L27 M_list_L27 M_waits_L27 M_yard_L27 M_last_L27 M_used_L27 M_sheets_L27 M_nights_L27 M_fleasOfGuests_L27 M_fleasOfBeds_L27 M_reason_L27 M_row_L27 M_bestRow_L27 M_image_L27 M_isKept_L27 = some rr → G p l e R s m args below meth c 4 D A H0 0 0 Q [mC cI cZ aM (M_beds_L27, M_law_L27, M_worths_L27, M_sights_L27, M_sight_L27, M_signs_L27, M_pad_L27, M_lies_L27, M_empty_L27, M_list_L27, M_waits_L27, M_yard_L27, M_last_L27, M_used_L27, M_sheets_L27, M_nights_L27, M_fleasOfGuests_L27, M_fleasOfBeds_L27, M_reason_L27, M_row_L27, M_bestRow_L27, M_image_L27, M_isKept_L27)] 50 [(3, .int x3_L27), (2, .int r_15), (0, .ref (aM 0)), (1, .int x1)] []) → ∀ (n : Nat) (x3_L27 : Int32) (M_beds_L27 : Int32) (M_law_L27 : Int32) (M_worths_L27 : (Nat → Int32)) (M_sights_L27 : Int32) (M_sight_L27 : (Nat → Int32)) (M_signs_L27 : Int32) (M_pad_L27 : (Nat → Int32)) (M_lies_L27 : (Nat → Int32)) (M_empty_L27 : Int32) (M_list_L27 : (Nat → Int32)) (M_waits_L27 : Int32) (M_yard_L27 : (Nat → Int32)) (M_last_L27 : (Nat → Int32)) (M_used_L27 : (Nat → Int32)) (M_sheets_L27 : (Nat → Int32)) (M_nights_L27 : (Nat → Int32)) (M_fleasOfGuests_L27 : Int32) (M_fleasOfBeds_L27 : Int32) (M_reason_L27 : Int32) (M_row_L27 : (Nat → Int32)) (M_bestRow_L27 : (Nat → Int32)) (M_image_L27 : (Nat → Int32)) (M_isKept_L27 : (Nat → Int32)), f_X6_reach_L27 x1 n x3_L27 M_beds_L27 M_law_L27 M_worths_L27 M_sights_L27 M_sight_L27 M_signs_L27 M_pad_L27 M_lies_L27 M_empty_L27 M_list_L27 M_waits_L27 M_yard_L27 M_last_L27 M_used_L27 M_sheets_L27 M_nights_L27 M_fleasOfGuests_L27 M_fleasOfBeds_L27 M_reason_L27 M_row_L27 M_bestRow_L27 M_image_L27 M_isKept_L27 kL = some rr → G p l e R s m args below meth c 4 D A H0 0 0 Q [mC cI cZ aM (M_beds_L27, M_law_L27, M_worths_L27, M_sights_L27, M_sight_L27, M_signs_L27, M_pad_L27, M_lies_L27, M_empty_L27, M_list_L27, M_waits_L27, M_yard_L27, M_last_L27, M_used_L27, M_sheets_L27, M_nights_L27, M_fleasOfGuests_L27, M_fleasOfBeds_L27, M_reason_L27, M_row_L27, M_bestRow_L27, M_image_L27, M_isKept_L27)] 27 [(3, .int x3_L27), (2, .int r_15), (0, .ref (aM 0)), (1, .int x1)] [] := by
        intro kL hkL27 n
        induction n with
        | zero =>
          intro x3_L27 M_beds_L27 M_law_L27 M_worths_L27 M_sights_L27 M_sight_L27 M_signs_L27 M_pad_L27 M_lies_L27 M_empty_L27 M_list_L27 M_waits_L27 M_yard_L27 M_last_L27 M_used_L27 M_sheets_L27 M_nights_L27 M_fleasOfGuests_L27 M_fleasOfBeds_L27 M_reason_L27 M_row_L27 M_bestRow_L27 M_image_L27 M_isKept_L27 hf
          rw [f_X6_reach_L27] at hf
          cases hf
        | succ n ihL27 =>
          intro x3_L27 M_beds_L27 M_law_L27 M_worths_L27 M_sights_L27 M_sight_L27 M_signs_L27 M_pad_L27 M_lies_L27 M_empty_L27 M_list_L27 M_waits_L27 M_yard_L27 M_last_L27 M_used_L27 M_sheets_L27 M_nights_L27 M_fleasOfGuests_L27 M_fleasOfBeds_L27 M_reason_L27 M_row_L27 M_bestRow_L27 M_image_L27 M_isKept_L27 hf
          rw [f_X6_reach_L27] at hf
          refine gq_aload_n C 2 28 dX6_reach_27 rfl rfl ?_
          refine gq_get C fo_X6_7 fw_X6_23 0 0 31 rfl rfl rfl dX6_reach_28 rfl ?_
          refine gq_iload_n C 3 32 dX6_reach_31 rfl rfl ?_
          obtain ⟨h32, hf⟩ := gq_ok hf
          refine gq_iald C 0 4 33 rfl rfl h32 dX6_reach_32 rfl ?_
          refine gq_if_ge C 50 36 dX6_reach_33 (by decide) rfl (fun h33 => ?_) (fun h33 => ?_)
          · replace hf := gq_ifp h33 hf
            exact hkL27 _ _ _ _ _ _ _ _ _ _ _ _ _ _ _ _ _ _ _ _ _ _ _ _ hf
          · replace hf := gq_ifn h33 hf
            refine gq_aload_n C 2 37 dX6_reach_36 rfl rfl ?_
            refine gq_bipush C (nI 8) 39 dX6_reach_37 (by decide) rfl ?_
            refine gq_iload_n C 0 40 dX6_reach_39 rfl rfl ?_
            refine gq_iadd C 41 dX6_reach_40 rfl ?_
            obtain ⟨⟨M_beds_41, M_law_41, M_worths_41, M_sights_41, M_sight_41, M_signs_41, M_pad_41, M_lies_41, M_empty_41, M_list_41, M_waits_41, M_yard_41, M_last_41, M_used_41, M_sheets_41, M_nights_41, M_fleasOfGuests_41, M_fleasOfBeds_41, M_reason_41, M_row_41, M_bestRow_41, M_image_41, M_isKept_41⟩, hc, hf⟩ := gq_bd hf
            refine gq_callV C hA gm_X6_125 (c_X6_comeIn l D cI cZ aM ((nI 8) + x3_L27) (M_beds_L27, M_law_L27, M_worths_L27, M_sights_L27, M_sight_L27, M_signs_L27, M_pad_L27, M_lies_L27, M_empty_L27, M_list_L27, M_waits_L27, M_yard_L27, M_last_L27, M_used_L27, M_sheets_L27, M_nights_L27, M_fleasOfGuests_L27, M_fleasOfBeds_L27, M_reason_L27, M_row_L27, M_bestRow_L27, M_image_L27, M_isKept_L27) _ hc) rfl 0 0 rfl rfl rfl ⟨Nat.le_trans (Nat.le_of_ble_eq_true rfl) hR.1, Nat.le_trans (Nat.le_of_ble_eq_true rfl) hR.2.1⟩ ⟨Nat.zero_le _, Nat.zero_le _⟩ rfl (Nat.le_of_ble_eq_true rfl) dX6_reach_41 [0] [mC cI cZ aM (M_beds_41, M_law_41, M_worths_41, M_sights_41, M_sight_41, M_signs_41, M_pad_41, M_lies_41, M_empty_41, M_list_41, M_waits_41, M_yard_41, M_last_41, M_used_41, M_sheets_41, M_nights_41, M_fleasOfGuests_41, M_fleasOfBeds_41, M_reason_41, M_row_41, M_bestRow_41, M_image_41, M_isKept_41)] 44 rfl (by decide) rfl rfl rfl [] rfl ?_
            refine gq_iinc C 0 [(3, .int (x3_L27 + (nI 1))), (2, .int r_15), (0, .ref (aM 0)), (1, .int x1)] 47 dX6_reach_44 rfl rfl (by decide) rfl rfl ?_
            refine gq_goto C 27 dX6_reach_47 (by decide) ?_
            exact ihL27 _ _ _ _ _ _ _ _ _ _ _ _ _ _ _ _ _ _ _ _ _ _ _ _ hf
      refine L27 _ (fun x3_L27 M_beds_L27 M_law_L27 M_worths_L27 M_sights_L27 M_sight_L27 M_signs_L27 M_pad_L27 M_lies_L27 M_empty_L27 M_list_L27 M_waits_L27 M_yard_L27 M_last_L27 M_used_L27 M_sheets_L27 M_nights_L27 M_fleasOfGuests_L27 M_fleasOfBeds_L27 M_reason_L27 M_row_L27 M_bestRow_L27 M_image_L27 M_isKept_L27 hf => ?_) _ _ _ _ _ _ _ _ _ _ _ _ _ _ _ _ _ _ _ _ _ _ _ _ _ hf
      refine gq_iload_n C 0 51 dX6_reach_50 rfl rfl ?_
      obtain rfl := gq_lf hf
      exact hret dX6_reach_51 gPost.rf
    · replace hf := gq_ifn h20 hf
      refine gq_iload_n C 0 24 dX6_reach_23 rfl rfl ?_
      obtain rfl := gq_lf hf
      exact hret dX6_reach_24 gPost.rf
  · replace hf := gq_ifp h5 hf
    refine gq_iconst C (-1 : Int32) 9 dX6_reach_8 (by decide) rfl ?_
    obtain rfl := gq_lf hf
    exact hret dX6_reach_9 gPost.rf

def f_X6_change : Int32 → Int32 → ModS → Option (ModS)
  | x1, x2, (M_beds, M_law, M_worths, M_sights, M_sight, M_signs, M_pad, M_lies, M_empty, M_list, M_waits, M_yard, M_last, M_used, M_sheets, M_nights, M_fleasOfGuests, M_fleasOfBeds, M_reason, M_row, M_bestRow, M_image, M_isKept) => (if x1 < 0 ∨ 8 ≤ x1.toNatClampNeg then none else (if x2 < 0 ∨ 8 ≤ x2.toNatClampNeg then none else (if x1 < 0 ∨ 8 ≤ x1.toNatClampNeg then none else (if x2 < 0 ∨ 8 ≤ x2.toNatClampNeg then none else some (M_beds, M_law, M_worths, M_sights, M_sight, M_signs, M_pad, M_lies, M_empty, M_list, M_waits, M_yard, M_last, M_used, M_sheets, M_nights, M_fleasOfGuests, M_fleasOfBeds, M_reason, (upd (upd M_row x1.toNatClampNeg (M_row x2.toNatClampNeg)) x2.toNatClampNeg (M_row x1.toNatClampNeg)), M_bestRow, M_image, M_isKept)))))
set_option maxHeartbeats 4000000 in
set_option maxRecDepth 100000 in
theorem c_X6_change (l : Launch) (D : va_G) (cI cZ : ClassId) (aM : Nat → Nat) (x1 : Int32) (x2 : Int32) (tM : ModS) (rr : ModS) (hf : f_X6_change x1 x2 tM = some rr) : CT l D cI cZ yX6_change cX6_change 4 none 0 0 0 0 [.ref (aM 0), .int x1, .int x2] ([mC cI cZ aM tM]) (gPost none ([mC cI cZ aM rr])) := by
  obtain ⟨M_beds, M_law, M_worths, M_sights, M_sight, M_signs, M_pad, M_lies, M_empty, M_list, M_waits, M_yard, M_last, M_used, M_sheets, M_nights, M_fleasOfGuests, M_fleasOfBeds, M_reason, M_row, M_bestRow, M_image, M_isKept⟩ := tM
  rw [f_X6_change] at hf
  refine CT.mkV (by decide) (Nat.le_of_ble_eq_true rfl) fun {p} {e} {R} {s} {m} {args} {below} {meth} {c} {A} {H0} {Q} C hA hR hnm hret => ?_
  show G p l e R s m args below meth c 4 D A H0 0 0 Q [mC cI cZ aM (M_beds, M_law, M_worths, M_sights, M_sight, M_signs, M_pad, M_lies, M_empty, M_list, M_waits, M_yard, M_last, M_used, M_sheets, M_nights, M_fleasOfGuests, M_fleasOfBeds, M_reason, M_row, M_bestRow, M_image, M_isKept)] 0 [(0, .ref (aM 0)), (1, .int x1), (2, .int x2)] []
  refine gq_aload_n C 0 1 dX6_change_0 rfl rfl ?_
  refine gq_get C fo_X6_19 fw_X6_44 0 0 4 rfl rfl rfl dX6_change_1 rfl ?_
  refine gq_iload_n C 1 5 dX6_change_4 rfl rfl ?_
  obtain ⟨h5, hf⟩ := gq_ok hf
  refine gq_iald C 0 11 6 rfl rfl h5 dX6_change_5 rfl ?_
  refine gq_istore_n C [(3, .int (M_row x1.toNatClampNeg)), (0, .ref (aM 0)), (1, .int x1), (2, .int x2)] 7 dX6_change_6 (by decide) rfl rfl ?_
  refine gq_aload_n C 1 8 dX6_change_7 rfl rfl ?_
  refine gq_get C fo_X6_19 fw_X6_44 0 0 11 rfl rfl rfl dX6_change_8 rfl ?_
  refine gq_iload_n C 2 12 dX6_change_11 rfl rfl ?_
  refine gq_aload_n C 1 13 dX6_change_12 rfl rfl ?_
  refine gq_get C fo_X6_19 fw_X6_44 0 0 16 rfl rfl rfl dX6_change_13 rfl ?_
  refine gq_iload_n C 3 17 dX6_change_16 rfl rfl ?_
  obtain ⟨h17, hf⟩ := gq_ok hf
  refine gq_iald C 0 11 18 rfl rfl h17 dX6_change_17 rfl ?_
  obtain ⟨h18, hf⟩ := gq_ok hf
  refine gq_iast C 0 11 19 [mC cI cZ aM (M_beds, M_law, M_worths, M_sights, M_sight, M_signs, M_pad, M_lies, M_empty, M_list, M_waits, M_yard, M_last, M_used, M_sheets, M_nights, M_fleasOfGuests, M_fleasOfBeds, M_reason, (upd M_row x1.toNatClampNeg (M_row x2.toNatClampNeg)), M_bestRow, M_image, M_isKept)] rfl rfl h18 rfl dX6_change_18 rfl ?_
  refine gq_aload_n C 1 20 dX6_change_19 rfl rfl ?_
  refine gq_get C fo_X6_19 fw_X6_44 0 0 23 rfl rfl rfl dX6_change_20 rfl ?_
  refine gq_iload_n C 3 24 dX6_change_23 rfl rfl ?_
  refine gq_iload_n C 0 25 dX6_change_24 rfl rfl ?_
  obtain ⟨h25, hf⟩ := gq_ok hf
  refine gq_iast C 0 11 26 [mC cI cZ aM (M_beds, M_law, M_worths, M_sights, M_sight, M_signs, M_pad, M_lies, M_empty, M_list, M_waits, M_yard, M_last, M_used, M_sheets, M_nights, M_fleasOfGuests, M_fleasOfBeds, M_reason, (upd (upd M_row x1.toNatClampNeg (M_row x2.toNatClampNeg)) x2.toNatClampNeg (M_row x1.toNatClampNeg)), M_bestRow, M_image, M_isKept)] rfl rfl h25 rfl dX6_change_25 rfl ?_
  obtain rfl := gq_lf hf
  exact hret dX6_change_26 gPost.rf

def f_X6_nextRow_L4 (c_M_row : (Nat → Int32)) : Nat → Int32 → (Int32 → Option (Int32 × ModS)) → Option (Int32 × ModS)
  | 0, _, _ => none
  | nL4 + 1, x2_L4, kL4 => (if x2_L4 < 0 then kL4 x2_L4 else (if x2_L4 < 0 ∨ 8 ≤ x2_L4.toNatClampNeg then none else (if (x2_L4 + (nI 1)) < 0 ∨ 8 ≤ (x2_L4 + (nI 1)).toNatClampNeg then none else (if (c_M_row x2_L4.toNatClampNeg) ≤ (c_M_row (x2_L4 + (nI 1)).toNatClampNeg) then kL4 x2_L4 else f_X6_nextRow_L4 c_M_row nL4 (x2_L4 + (-1 : Int32)) kL4))))
def f_X6_nextRow_L41 (c_x2 : Int32) (c_M_row : (Nat → Int32)) : Nat → Int32 → (Int32 → Option (Int32 × ModS)) → Option (Int32 × ModS)
  | 0, _, _ => none
  | nL41 + 1, x3_L41, kL41 => (if x3_L41 < 0 ∨ 8 ≤ x3_L41.toNatClampNeg then none else (if c_x2 < 0 ∨ 8 ≤ c_x2.toNatClampNeg then none else (if (c_M_row c_x2.toNatClampNeg) ≤ (c_M_row x3_L41.toNatClampNeg) then kL41 x3_L41 else f_X6_nextRow_L41 c_x2 c_M_row nL41 (x3_L41 + (-1 : Int32)) kL41)))
def f_X6_nextRow_L78  : Nat → Int32 → Int32 → Int32 → Int32 → (Nat → Int32) → Int32 → (Nat → Int32) → Int32 → (Nat → Int32) → (Nat → Int32) → Int32 → (Nat → Int32) → Int32 → (Nat → Int32) → (Nat → Int32) → (Nat → Int32) → (Nat → Int32) → (Nat → Int32) → Int32 → Int32 → Int32 → (Nat → Int32) → (Nat → Int32) → (Nat → Int32) → (Nat → Int32) → (Int32 → Int32 → Int32 → Int32 → (Nat → Int32) → Int32 → (Nat → Int32) → Int32 → (Nat → Int32) → (Nat → Int32) → Int32 → (Nat → Int32) → Int32 → (Nat → Int32) → (Nat → Int32) → (Nat → Int32) → (Nat → Int32) → (Nat → Int32) → Int32 → Int32 → Int32 → (Nat → Int32) → (Nat → Int32) → (Nat → Int32) → (Nat → Int32) → Option (Int32 × ModS)) → Option (Int32 × ModS)
  | 0, _, _, _, _, _, _, _, _, _, _, _, _, _, _, _, _, _, _, _, _, _, _, _, _, _, _ => none
  | nL78 + 1, x4_L78, x5_L78, M_beds_L78, M_law_L78, M_worths_L78, M_sights_L78, M_sight_L78, M_signs_L78, M_pad_L78, M_lies_L78, M_empty_L78, M_list_L78, M_waits_L78, M_yard_L78, M_last_L78, M_used_L78, M_sheets_L78, M_nights_L78, M_fleasOfGuests_L78, M_fleasOfBeds_L78, M_reason_L78, M_row_L78, M_bestRow_L78, M_image_L78, M_isKept_L78, kL78 => (if x5_L78 ≤ x4_L78 then kL78 x4_L78 x5_L78 M_beds_L78 M_law_L78 M_worths_L78 M_sights_L78 M_sight_L78 M_signs_L78 M_pad_L78 M_lies_L78 M_empty_L78 M_list_L78 M_waits_L78 M_yard_L78 M_last_L78 M_used_L78 M_sheets_L78 M_nights_L78 M_fleasOfGuests_L78 M_fleasOfBeds_L78 M_reason_L78 M_row_L78 M_bestRow_L78 M_image_L78 M_isKept_L78 else (Option.bind (f_X6_change x4_L78 x5_L78 (M_beds_L78, M_law_L78, M_worths_L78, M_sights_L78, M_sight_L78, M_signs_L78, M_pad_L78, M_lies_L78, M_empty_L78, M_list_L78, M_waits_L78, M_yard_L78, M_last_L78, M_used_L78, M_sheets_L78, M_nights_L78, M_fleasOfGuests_L78, M_fleasOfBeds_L78, M_reason_L78, M_row_L78, M_bestRow_L78, M_image_L78, M_isKept_L78)) (fun (M_beds_90, M_law_90, M_worths_90, M_sights_90, M_sight_90, M_signs_90, M_pad_90, M_lies_90, M_empty_90, M_list_90, M_waits_90, M_yard_90, M_last_90, M_used_90, M_sheets_90, M_nights_90, M_fleasOfGuests_90, M_fleasOfBeds_90, M_reason_90, M_row_90, M_bestRow_90, M_image_90, M_isKept_90) => f_X6_nextRow_L78  nL78 (x4_L78 + (nI 1)) (x5_L78 + (-1 : Int32)) M_beds_90 M_law_90 M_worths_90 M_sights_90 M_sight_90 M_signs_90 M_pad_90 M_lies_90 M_empty_90 M_list_90 M_waits_90 M_yard_90 M_last_90 M_used_90 M_sheets_90 M_nights_90 M_fleasOfGuests_90 M_fleasOfBeds_90 M_reason_90 M_row_90 M_bestRow_90 M_image_90 M_isKept_90 kL78)))
def f_X6_nextRow : Int32 → ModS → Option (Int32 × ModS)
  | x1, (M_beds, M_law, M_worths, M_sights, M_sight, M_signs, M_pad, M_lies, M_empty, M_list, M_waits, M_yard, M_last, M_used, M_sheets, M_nights, M_fleasOfGuests, M_fleasOfBeds, M_reason, M_row, M_bestRow, M_image, M_isKept) => f_X6_nextRow_L4 M_row FU (x1 - (nI 2)) (fun x2_L4 => (if 0 ≤ x2_L4 then f_X6_nextRow_L41 x2_L4 M_row FU (x1 - (nI 1)) (fun x3_L41 => (Option.bind (f_X6_change x2_L4 x3_L41 (M_beds, M_law, M_worths, M_sights, M_sight, M_signs, M_pad, M_lies, M_empty, M_list, M_waits, M_yard, M_last, M_used, M_sheets, M_nights, M_fleasOfGuests, M_fleasOfBeds, M_reason, M_row, M_bestRow, M_image, M_isKept)) (fun (M_beds_65, M_law_65, M_worths_65, M_sights_65, M_sight_65, M_signs_65, M_pad_65, M_lies_65, M_empty_65, M_list_65, M_waits_65, M_yard_65, M_last_65, M_used_65, M_sheets_65, M_nights_65, M_fleasOfGuests_65, M_fleasOfBeds_65, M_reason_65, M_row_65, M_bestRow_65, M_image_65, M_isKept_65) => f_X6_nextRow_L78  FU (x2_L4 + (nI 1)) (x1 - (nI 1)) M_beds_65 M_law_65 M_worths_65 M_sights_65 M_sight_65 M_signs_65 M_pad_65 M_lies_65 M_empty_65 M_list_65 M_waits_65 M_yard_65 M_last_65 M_used_65 M_sheets_65 M_nights_65 M_fleasOfGuests_65 M_fleasOfBeds_65 M_reason_65 M_row_65 M_bestRow_65 M_image_65 M_isKept_65 (fun x4_L78 x5_L78 M_beds_L78 M_law_L78 M_worths_L78 M_sights_L78 M_sight_L78 M_signs_L78 M_pad_L78 M_lies_L78 M_empty_L78 M_list_L78 M_waits_L78 M_yard_L78 M_last_L78 M_used_L78 M_sheets_L78 M_nights_L78 M_fleasOfGuests_L78 M_fleasOfBeds_L78 M_reason_L78 M_row_L78 M_bestRow_L78 M_image_L78 M_isKept_L78 => some ((nI 1), (M_beds_L78, M_law_L78, M_worths_L78, M_sights_L78, M_sight_L78, M_signs_L78, M_pad_L78, M_lies_L78, M_empty_L78, M_list_L78, M_waits_L78, M_yard_L78, M_last_L78, M_used_L78, M_sheets_L78, M_nights_L78, M_fleasOfGuests_L78, M_fleasOfBeds_L78, M_reason_L78, M_row_L78, M_bestRow_L78, M_image_L78, M_isKept_L78)))))) else some ((nI 0), (M_beds, M_law, M_worths, M_sights, M_sight, M_signs, M_pad, M_lies, M_empty, M_list, M_waits, M_yard, M_last, M_used, M_sheets, M_nights, M_fleasOfGuests, M_fleasOfBeds, M_reason, M_row, M_bestRow, M_image, M_isKept))))
set_option maxHeartbeats 4000000 in
set_option maxRecDepth 100000 in
theorem c_X6_nextRow (l : Launch) (D : va_G) (cI cZ : ClassId) (aM : Nat → Nat) (x1 : Int32) (tM : ModS) (rr : Int32 × ModS) (hf : f_X6_nextRow x1 tM = some rr) : CT l D cI cZ yX6_nextRow cX6_nextRow 6 (some .boolean) 1 23 0 0 [.ref (aM 0), .int x1] ([mC cI cZ aM tM]) (gPost (some (.int rr.1)) ([mC cI cZ aM rr.2])) := by
  obtain ⟨M_beds, M_law, M_worths, M_sights, M_sight, M_signs, M_pad, M_lies, M_empty, M_list, M_waits, M_yard, M_last, M_used, M_sheets, M_nights, M_fleasOfGuests, M_fleasOfBeds, M_reason, M_row, M_bestRow, M_image, M_isKept⟩ := tM
  rw [f_X6_nextRow] at hf
  refine CT.mkZ (by decide) (Nat.le_of_ble_eq_true rfl) fun {p} {e} {R} {s} {m} {args} {below} {meth} {c} {A} {H0} {Q} C hA hR hret => ?_
  show G p l e R s m args below meth c 6 D A H0 0 0 Q [mC cI cZ aM (M_beds, M_law, M_worths, M_sights, M_sight, M_signs, M_pad, M_lies, M_empty, M_list, M_waits, M_yard, M_last, M_used, M_sheets, M_nights, M_fleasOfGuests, M_fleasOfBeds, M_reason, M_row, M_bestRow, M_image, M_isKept)] 0 [(0, .ref (aM 0)), (1, .int x1)] []
  refine gq_iload_n C 1 1 dX6_nextRow_0 rfl rfl ?_
  refine gq_iconst C (nI 2) 2 dX6_nextRow_1 (by decide) rfl ?_
  refine gq_isub C 3 dX6_nextRow_2 rfl ?_
  refine gq_istore_n C [(2, .int (x1 - (nI 2))), (0, .ref (aM 0)), (1, .int x1)] 4 dX6_nextRow_3 (by decide) rfl rfl ?_
  have L4 : ∀ (kL : Int32 → Option (Int32 × ModS)), (∀ (x2_L4 : Int32), kL x2_L4 = some rr → G p l e R s m args below meth c 6 D A H0 0 0 Q [mC cI cZ aM (M_beds, M_law, M_worths, M_sights, M_sight, M_signs, M_pad, M_lies, M_empty, M_list, M_waits, M_yard, M_last, M_used, M_sheets, M_nights, M_fleasOfGuests, M_fleasOfBeds, M_reason, M_row, M_bestRow, M_image, M_isKept)] 31 [(2, .int x2_L4), (0, .ref (aM 0)), (1, .int x1)] []) → ∀ (n : Nat) (x2_L4 : Int32), f_X6_nextRow_L4 M_row n x2_L4 kL = some rr → G p l e R s m args below meth c 6 D A H0 0 0 Q [mC cI cZ aM (M_beds, M_law, M_worths, M_sights, M_sight, M_signs, M_pad, M_lies, M_empty, M_list, M_waits, M_yard, M_last, M_used, M_sheets, M_nights, M_fleasOfGuests, M_fleasOfBeds, M_reason, M_row, M_bestRow, M_image, M_isKept)] 4 [(2, .int x2_L4), (0, .ref (aM 0)), (1, .int x1)] [] := by
    intro kL hkL4 n
    induction n with
    | zero =>
      intro x2_L4 hf
      rw [f_X6_nextRow_L4] at hf
      cases hf
    | succ n ihL4 =>
      intro x2_L4 hf
      rw [f_X6_nextRow_L4] at hf
      refine gq_iload_n C 0 5 dX6_nextRow_4 rfl rfl ?_
      refine gq_if_lt C 31 8 dX6_nextRow_5 (by decide) rfl (fun h5 => ?_) (fun h5 => ?_)
      · replace hf := gq_ifp h5 hf
        exact hkL4 _ hf
      · replace hf := gq_ifn h5 hf
        refine gq_aload_n C 1 9 dX6_nextRow_8 rfl rfl ?_
        refine gq_get C fo_X6_19 fw_X6_44 0 0 12 rfl rfl rfl dX6_nextRow_9 rfl ?_
        refine gq_iload_n C 0 13 dX6_nextRow_12 rfl rfl ?_
        obtain ⟨h13, hf⟩ := gq_ok hf
        refine gq_iald C 0 11 14 rfl rfl h13 dX6_nextRow_13 rfl ?_
        refine gq_aload_n C 1 15 dX6_nextRow_14 rfl rfl ?_
        refine gq_get C fo_X6_19 fw_X6_44 0 0 18 rfl rfl rfl dX6_nextRow_15 rfl ?_
        refine gq_iload_n C 0 19 dX6_nextRow_18 rfl rfl ?_
        refine gq_iconst C (nI 1) 20 dX6_nextRow_19 (by decide) rfl ?_
        refine gq_iadd C 21 dX6_nextRow_20 rfl ?_
        obtain ⟨h21, hf⟩ := gq_ok hf
        refine gq_iald C 0 11 22 rfl rfl h21 dX6_nextRow_21 rfl ?_
        refine gq_icmp_le C 31 25 dX6_nextRow_22 (by decide) rfl (fun h22 => ?_) (fun h22 => ?_)
        · replace hf := gq_ifp h22 hf
          exact hkL4 _ hf
        · replace hf := gq_ifn h22 hf
          refine gq_iinc C 0 [(2, .int (x2_L4 + (-1 : Int32))), (0, .ref (aM 0)), (1, .int x1)] 28 dX6_nextRow_25 rfl rfl (by decide) rfl rfl ?_
          refine gq_goto C 4 dX6_nextRow_28 (by decide) ?_
          exact ihL4 _ hf
  refine L4 _ (fun x2_L4 hf => ?_) _ _ hf
  refine gq_iload_n C 0 32 dX6_nextRow_31 rfl rfl ?_
  refine gq_if_ge C 37 35 dX6_nextRow_32 (by decide) rfl (fun h32 => ?_) (fun h32 => ?_)
  · replace hf := gq_ifp h32 hf
    refine gq_iload_n C 2 38 dX6_nextRow_37 rfl rfl ?_
    refine gq_iconst C (nI 1) 39 dX6_nextRow_38 (by decide) rfl ?_
    refine gq_isub C 40 dX6_nextRow_39 rfl ?_
    refine gq_istore_n C [(3, .int (x1 - (nI 1))), (2, .int x2_L4), (0, .ref (aM 0)), (1, .int x1)] 41 dX6_nextRow_40 (by decide) rfl rfl ?_
    have L41 : ∀ (kL : Int32 → Option (Int32 × ModS)), (∀ (x3_L41 : Int32), kL x3_L41 = some rr → G p l e R s m args below meth c 6 D A H0 0 0 Q [mC cI cZ aM (M_beds, M_law, M_worths, M_sights, M_sight, M_signs, M_pad, M_lies, M_empty, M_list, M_waits, M_yard, M_last, M_used, M_sheets, M_nights, M_fleasOfGuests, M_fleasOfBeds, M_reason, M_row, M_bestRow, M_image, M_isKept)] 62 [(3, .int x3_L41), (2, .int x2_L4), (0, .ref (aM 0)), (1, .int x1)] []) → ∀ (n : Nat) (x3_L41 : Int32), f_X6_nextRow_L41 x2_L4 M_row n x3_L41 kL = some rr → G p l e R s m args below meth c 6 D A H0 0 0 Q [mC cI cZ aM (M_beds, M_law, M_worths, M_sights, M_sight, M_signs, M_pad, M_lies, M_empty, M_list, M_waits, M_yard, M_last, M_used, M_sheets, M_nights, M_fleasOfGuests, M_fleasOfBeds, M_reason, M_row, M_bestRow, M_image, M_isKept)] 41 [(3, .int x3_L41), (2, .int x2_L4), (0, .ref (aM 0)), (1, .int x1)] [] := by
      intro kL hkL41 n
      induction n with
      | zero =>
        intro x3_L41 hf
        rw [f_X6_nextRow_L41] at hf
        cases hf
      | succ n ihL41 =>
        intro x3_L41 hf
        rw [f_X6_nextRow_L41] at hf
        refine gq_aload_n C 2 42 dX6_nextRow_41 rfl rfl ?_
        refine gq_get C fo_X6_19 fw_X6_44 0 0 45 rfl rfl rfl dX6_nextRow_42 rfl ?_
        refine gq_iload_n C 0 46 dX6_nextRow_45 rfl rfl ?_
        obtain ⟨h46, hf⟩ := gq_ok hf
        refine gq_iald C 0 11 47 rfl rfl h46 dX6_nextRow_46 rfl ?_
        refine gq_aload_n C 2 48 dX6_nextRow_47 rfl rfl ?_
        refine gq_get C fo_X6_19 fw_X6_44 0 0 51 rfl rfl rfl dX6_nextRow_48 rfl ?_
        refine gq_iload_n C 1 52 dX6_nextRow_51 rfl rfl ?_
        obtain ⟨h52, hf⟩ := gq_ok hf
        refine gq_iald C 0 11 53 rfl rfl h52 dX6_nextRow_52 rfl ?_
        refine gq_icmp_ge C 62 56 dX6_nextRow_53 (by decide) rfl (fun h53 => ?_) (fun h53 => ?_)
        · replace hf := gq_ifp h53 hf
          exact hkL41 _ hf
        · replace hf := gq_ifn h53 hf
          refine gq_iinc C 0 [(3, .int (x3_L41 + (-1 : Int32))), (2, .int x2_L4), (0, .ref (aM 0)), (1, .int x1)] 59 dX6_nextRow_56 rfl rfl (by decide) rfl rfl ?_
          refine gq_goto C 41 dX6_nextRow_59 (by decide) ?_
          exact ihL41 _ hf
    refine L41 _ (fun x3_L41 hf => ?_) _ _ hf
    refine gq_aload_n C 2 63 dX6_nextRow_62 rfl rfl ?_
    refine gq_iload_n C 1 64 dX6_nextRow_63 rfl rfl ?_
    refine gq_iload_n C 0 65 dX6_nextRow_64 rfl rfl ?_
    obtain ⟨⟨M_beds_65, M_law_65, M_worths_65, M_sights_65, M_sight_65, M_signs_65, M_pad_65, M_lies_65, M_empty_65, M_list_65, M_waits_65, M_yard_65, M_last_65, M_used_65, M_sheets_65, M_nights_65, M_fleasOfGuests_65, M_fleasOfBeds_65, M_reason_65, M_row_65, M_bestRow_65, M_image_65, M_isKept_65⟩, hc, hf⟩ := gq_bd hf
    refine gq_callV C hA gm_X6_159 (c_X6_change l D cI cZ aM x2_L4 x3_L41 (M_beds, M_law, M_worths, M_sights, M_sight, M_signs, M_pad, M_lies, M_empty, M_list, M_waits, M_yard, M_last, M_used, M_sheets, M_nights, M_fleasOfGuests, M_fleasOfBeds, M_reason, M_row, M_bestRow, M_image, M_isKept) _ hc) rfl 0 0 rfl rfl rfl ⟨Nat.le_trans (Nat.le_of_ble_eq_true rfl) hR.1, Nat.le_trans (Nat.le_of_ble_eq_true rfl) hR.2.1⟩ ⟨Nat.zero_le _, Nat.zero_le _⟩ rfl (Nat.le_of_ble_eq_true rfl) dX6_nextRow_65 [0] [mC cI cZ aM (M_beds_65, M_law_65, M_worths_65, M_sights_65, M_sight_65, M_signs_65, M_pad_65, M_lies_65, M_empty_65, M_list_65, M_waits_65, M_yard_65, M_last_65, M_used_65, M_sheets_65, M_nights_65, M_fleasOfGuests_65, M_fleasOfBeds_65, M_reason_65, M_row_65, M_bestRow_65, M_image_65, M_isKept_65)] 68 rfl (by decide) rfl rfl rfl [] rfl ?_
    refine gq_iload_n C 1 69 dX6_nextRow_68 rfl rfl ?_
    refine gq_iconst C (nI 1) 70 dX6_nextRow_69 (by decide) rfl ?_
    refine gq_iadd C 71 dX6_nextRow_70 rfl ?_
    refine gq_istore C [(4, .int (x2_L4 + (nI 1))), (3, .int x3_L41), (2, .int x2_L4), (0, .ref (aM 0)), (1, .int x1)] 73 dX6_nextRow_71 (by decide) rfl rfl ?_
    refine gq_iload_n C 4 74 dX6_nextRow_73 rfl rfl ?_
    refine gq_iconst C (nI 1) 75 dX6_nextRow_74 (by decide) rfl ?_
    refine gq_isub C 76 dX6_nextRow_75 rfl ?_
    refine gq_istore C [(5, .int (x1 - (nI 1))), (4, .int (x2_L4 + (nI 1))), (3, .int x3_L41), (2, .int x2_L4), (0, .ref (aM 0)), (1, .int x1)] 78 dX6_nextRow_76 (by decide) rfl rfl ?_
    have L78 : ∀ (kL : Int32 → Int32 → Int32 → Int32 → (Nat → Int32) → Int32 → (Nat → Int32) → Int32 → (Nat → Int32) → (Nat → Int32) → Int32 → (Nat → Int32) → Int32 → (Nat → Int32) → (Nat → Int32) → (Nat → Int32) → (Nat → Int32) → (Nat → Int32) → Int32 → Int32 → Int32 → (Nat → Int32) → (Nat → Int32) → (Nat → Int32) → (Nat → Int32) → Option (Int32 × ModS)), (∀ (x4_L78 : Int32) (x5_L78 : Int32) (M_beds_L78 : Int32) (M_law_L78 : Int32) (M_worths_L78 : (Nat → Int32)) (M_sights_L78 : Int32) (M_sight_L78 : (Nat → Int32)) (M_signs_L78 : Int32) (M_pad_L78 : (Nat → Int32)) (M_lies_L78 : (Nat → Int32)) (M_empty_L78 : Int32) (M_list_L78 : (Nat → Int32)) (M_waits_L78 : Int32) (M_yard_L78 : (Nat → Int32)) (M_last_L78 : (Nat → Int32)) (M_used_L78 : (Nat → Int32)) (M_sheets_L78 : (Nat → Int32)) (M_nights_L78 : (Nat → Int32)) (M_fleasOfGuests_L78 : Int32) (M_fleasOfBeds_L78 : Int32) (M_reason_L78 : Int32) (M_row_L78 : (Nat → Int32)) (M_bestRow_L78 : (Nat → Int32)) (M_image_L78 : (Nat → Int32)) (M_isKept_L78 : (Nat → Int32)), kL x4_L78 x5_L78 M_beds_L78 M_law_L78 M_worths_L78 M_sights_L78 M_sight_L78 M_signs_L78 M_pad_L78 M_lies_L78 M_empty_L78 M_list_L78 M_waits_L78 M_yard_L78 M_last_L78 M_used_L78 M_sheets_L78 M_nights_L78 M_fleasOfGuests_L78 M_fleasOfBeds_L78 M_reason_L78 M_row_L78 M_bestRow_L78 M_image_L78 M_isKept_L78 = some rr → G p l e R s m args below meth c 6 D A H0 0 0 Q [mC cI cZ aM (M_beds_L78, M_law_L78, M_worths_L78, M_sights_L78, M_sight_L78, M_signs_L78, M_pad_L78, M_lies_L78, M_empty_L78, M_list_L78, M_waits_L78, M_yard_L78, M_last_L78, M_used_L78, M_sheets_L78, M_nights_L78, M_fleasOfGuests_L78, M_fleasOfBeds_L78, M_reason_L78, M_row_L78, M_bestRow_L78, M_image_L78, M_isKept_L78)] 102 [(5, .int x5_L78), (4, .int x4_L78), (3, .int x3_L41), (2, .int x2_L4), (0, .ref (aM 0)), (1, .int x1)] []) → ∀ (n : Nat) (x4_L78 : Int32) (x5_L78 : Int32) (M_beds_L78 : Int32) (M_law_L78 : Int32) (M_worths_L78 : (Nat → Int32)) (M_sights_L78 : Int32) (M_sight_L78 : (Nat → Int32)) (M_signs_L78 : Int32) (M_pad_L78 : (Nat → Int32)) (M_lies_L78 : (Nat → Int32)) (M_empty_L78 : Int32) (M_list_L78 : (Nat → Int32)) (M_waits_L78 : Int32) (M_yard_L78 : (Nat → Int32)) (M_last_L78 : (Nat → Int32)) (M_used_L78 : (Nat → Int32)) (M_sheets_L78 : (Nat → Int32)) (M_nights_L78 : (Nat → Int32)) (M_fleasOfGuests_L78 : Int32) (M_fleasOfBeds_L78 : Int32) (M_reason_L78 : Int32) (M_row_L78 : (Nat → Int32)) (M_bestRow_L78 : (Nat → Int32)) (M_image_L78 : (Nat → Int32)) (M_isKept_L78 : (Nat → Int32)), f_X6_nextRow_L78  n x4_L78 x5_L78 M_beds_L78 M_law_L78 M_worths_L78 M_sights_L78 M_sight_L78 M_signs_L78 M_pad_L78 M_lies_L78 M_empty_L78 M_list_L78 M_waits_L78 M_yard_L78 M_last_L78 M_used_L78 M_sheets_L78 M_nights_L78 M_fleasOfGuests_L78 M_fleasOfBeds_L78 M_reason_L78 M_row_L78 M_bestRow_L78 M_image_L78 M_isKept_L78 kL = some rr → G p l e R s m args below meth c 6 D A H0 0 0 Q [mC cI cZ aM (M_beds_L78, M_law_L78, M_worths_L78, M_sights_L78, M_sight_L78, M_signs_L78, M_pad_L78, M_lies_L78, M_empty_L78, M_list_L78, M_waits_L78, M_yard_L78, M_last_L78, M_used_L78, M_sheets_L78, M_nights_L78, M_fleasOfGuests_L78, M_fleasOfBeds_L78, M_reason_L78, M_row_L78, M_bestRow_L78, M_image_L78, M_isKept_L78)] 78 [(5, .int x5_L78), (4, .int x4_L78), (3, .int x3_L41), (2, .int x2_L4), (0, .ref (aM 0)), (1, .int x1)] [] := by
      intro kL hkL78 n
      induction n with
      | zero =>
        intro x4_L78 x5_L78 M_beds_L78 M_law_L78 M_worths_L78 M_sights_L78 M_sight_L78 M_signs_L78 M_pad_L78 M_lies_L78 M_empty_L78 M_list_L78 M_waits_L78 M_yard_L78 M_last_L78 M_used_L78 M_sheets_L78 M_nights_L78 M_fleasOfGuests_L78 M_fleasOfBeds_L78 M_reason_L78 M_row_L78 M_bestRow_L78 M_image_L78 M_isKept_L78 hf
        rw [f_X6_nextRow_L78] at hf
        cases hf
      | succ n ihL78 =>
        intro x4_L78 x5_L78 M_beds_L78 M_law_L78 M_worths_L78 M_sights_L78 M_sight_L78 M_signs_L78 M_pad_L78 M_lies_L78 M_empty_L78 M_list_L78 M_waits_L78 M_yard_L78 M_last_L78 M_used_L78 M_sheets_L78 M_nights_L78 M_fleasOfGuests_L78 M_fleasOfBeds_L78 M_reason_L78 M_row_L78 M_bestRow_L78 M_image_L78 M_isKept_L78 hf
        rw [f_X6_nextRow_L78] at hf
        refine gq_iload C 1 80 dX6_nextRow_78 rfl rfl ?_
        refine gq_iload C 0 82 dX6_nextRow_80 rfl rfl ?_
        refine gq_icmp_ge C 102 85 dX6_nextRow_82 (by decide) rfl (fun h82 => ?_) (fun h82 => ?_)
        · replace hf := gq_ifp h82 hf
          exact hkL78 _ _ _ _ _ _ _ _ _ _ _ _ _ _ _ _ _ _ _ _ _ _ _ _ _ hf
        · replace hf := gq_ifn h82 hf
          refine gq_aload_n C 4 86 dX6_nextRow_85 rfl rfl ?_
          refine gq_iload C 1 88 dX6_nextRow_86 rfl rfl ?_
          refine gq_iload C 0 90 dX6_nextRow_88 rfl rfl ?_
          obtain ⟨⟨M_beds_90, M_law_90, M_worths_90, M_sights_90, M_sight_90, M_signs_90, M_pad_90, M_lies_90, M_empty_90, M_list_90, M_waits_90, M_yard_90, M_last_90, M_used_90, M_sheets_90, M_nights_90, M_fleasOfGuests_90, M_fleasOfBeds_90, M_reason_90, M_row_90, M_bestRow_90, M_image_90, M_isKept_90⟩, hc, hf⟩ := gq_bd hf
          refine gq_callV C hA gm_X6_159 (c_X6_change l D cI cZ aM x4_L78 x5_L78 (M_beds_L78, M_law_L78, M_worths_L78, M_sights_L78, M_sight_L78, M_signs_L78, M_pad_L78, M_lies_L78, M_empty_L78, M_list_L78, M_waits_L78, M_yard_L78, M_last_L78, M_used_L78, M_sheets_L78, M_nights_L78, M_fleasOfGuests_L78, M_fleasOfBeds_L78, M_reason_L78, M_row_L78, M_bestRow_L78, M_image_L78, M_isKept_L78) _ hc) rfl 0 0 rfl rfl rfl ⟨Nat.le_trans (Nat.le_of_ble_eq_true rfl) hR.1, Nat.le_trans (Nat.le_of_ble_eq_true rfl) hR.2.1⟩ ⟨Nat.zero_le _, Nat.zero_le _⟩ rfl (Nat.le_of_ble_eq_true rfl) dX6_nextRow_90 [0] [mC cI cZ aM (M_beds_90, M_law_90, M_worths_90, M_sights_90, M_sight_90, M_signs_90, M_pad_90, M_lies_90, M_empty_90, M_list_90, M_waits_90, M_yard_90, M_last_90, M_used_90, M_sheets_90, M_nights_90, M_fleasOfGuests_90, M_fleasOfBeds_90, M_reason_90, M_row_90, M_bestRow_90, M_image_90, M_isKept_90)] 93 rfl (by decide) rfl rfl rfl [] rfl ?_
          refine gq_iinc C 1 [(4, .int (x4_L78 + (nI 1))), (5, .int x5_L78), (3, .int x3_L41), (2, .int x2_L4), (0, .ref (aM 0)), (1, .int x1)] 96 dX6_nextRow_93 rfl rfl (by decide) rfl rfl ?_
          refine gq_iinc C 1 [(5, .int (x5_L78 + (-1 : Int32))), (4, .int (x4_L78 + (nI 1))), (3, .int x3_L41), (2, .int x2_L4), (0, .ref (aM 0)), (1, .int x1)] 99 dX6_nextRow_96 rfl rfl (by decide) rfl rfl ?_
          refine gq_goto C 78 dX6_nextRow_99 (by decide) ?_
          exact ihL78 _ _ _ _ _ _ _ _ _ _ _ _ _ _ _ _ _ _ _ _ _ _ _ _ _ hf
    refine L78 _ (fun x4_L78 x5_L78 M_beds_L78 M_law_L78 M_worths_L78 M_sights_L78 M_sight_L78 M_signs_L78 M_pad_L78 M_lies_L78 M_empty_L78 M_list_L78 M_waits_L78 M_yard_L78 M_last_L78 M_used_L78 M_sheets_L78 M_nights_L78 M_fleasOfGuests_L78 M_fleasOfBeds_L78 M_reason_L78 M_row_L78 M_bestRow_L78 M_image_L78 M_isKept_L78 hf => ?_) _ _ _ _ _ _ _ _ _ _ _ _ _ _ _ _ _ _ _ _ _ _ _ _ _ _ hf
    refine gq_iconst C (nI 1) 103 dX6_nextRow_102 (by decide) rfl ?_
    obtain rfl := gq_lf hf
    exact hret dX6_nextRow_103 rfl gPost.rf
  · replace hf := gq_ifn h32 hf
    refine gq_iconst C (nI 0) 36 dX6_nextRow_35 (by decide) rfl ?_
    obtain rfl := gq_lf hf
    exact hret dX6_nextRow_36 rfl gPost.rf

def f_X6_party_L38 (c_x1 : Int32) (c_M_beds : Int32) (c_M_law : Int32) (c_M_worths : (Nat → Int32)) (c_M_sights : Int32) (c_M_sight : (Nat → Int32)) (c_M_signs : Int32) (c_M_pad : (Nat → Int32)) (c_M_lies : (Nat → Int32)) (c_M_empty : Int32) (c_M_list : (Nat → Int32)) (c_M_waits : Int32) (c_M_yard : (Nat → Int32)) (c_M_last : (Nat → Int32)) (c_M_used : (Nat → Int32)) (c_M_sheets : (Nat → Int32)) (c_M_nights : (Nat → Int32)) (c_M_fleasOfGuests : Int32) (c_M_fleasOfBeds : Int32) (c_M_reason : Int32) (c_M_bestRow : (Nat → Int32)) (c_M_image : (Nat → Int32)) (c_M_isKept : (Nat → Int32)) : Nat → Int32 → Int32 → Int32 → (Nat → Int32) → (Int32 → Int32 → Int32 → (Nat → Int32) → Option (Int32 × ModS)) → Option (Int32 × ModS)
  | 0, _, _, _, _, _ => none
  | nL38 + 1, x4_L38, x5_L38, x6_L38, M_row_L38, kL38 => (if (nI 8) ≤ x6_L38 then kL38 x4_L38 x5_L38 x6_L38 M_row_L38 else (Option.bind (f_X6_has c_x1 x6_L38) (fun r_48 => (if r_48 = 0 then f_X6_party_L38 c_x1 c_M_beds c_M_law c_M_worths c_M_sights c_M_sight c_M_signs c_M_pad c_M_lies c_M_empty c_M_list c_M_waits c_M_yard c_M_last c_M_used c_M_sheets c_M_nights c_M_fleasOfGuests c_M_fleasOfBeds c_M_reason c_M_bestRow c_M_image c_M_isKept nL38 x4_L38 x5_L38 (x6_L38 + (nI 1)) M_row_L38 kL38 else gJn (fun (z0_J73 : Int32) => (if x4_L38 < 0 ∨ 8 ≤ x4_L38.toNatClampNeg then none else f_X6_party_L38 c_x1 c_M_beds c_M_law c_M_worths c_M_sights c_M_sight c_M_signs c_M_pad c_M_lies c_M_empty c_M_list c_M_waits c_M_yard c_M_last c_M_used c_M_sheets c_M_nights c_M_fleasOfGuests c_M_fleasOfBeds c_M_reason c_M_bestRow c_M_image c_M_isKept nL38 (x4_L38 + (nI 1)) z0_J73 (x6_L38 + (nI 1)) (upd M_row_L38 x4_L38.toNatClampNeg x6_L38) kL38)) (fun kJ73 => (if x5_L38 = 0 then (Option.bind (f_X6_isThere x6_L38 (c_M_beds, c_M_law, c_M_worths, c_M_sights, c_M_sight, c_M_signs, c_M_pad, c_M_lies, c_M_empty, c_M_list, c_M_waits, c_M_yard, c_M_last, c_M_used, c_M_sheets, c_M_nights, c_M_fleasOfGuests, c_M_fleasOfBeds, c_M_reason, M_row_L38, c_M_bestRow, c_M_image, c_M_isKept)) (fun r_62 => (if r_62 = 0 then kJ73 (nI 0) else kJ73 (nI 1)))) else kJ73 (nI 1)))))))
def f_X6_party_L147 (c_x4 : Int32) : Nat → Int32 → Int32 → Int32 → (Nat → Int32) → Int32 → (Nat → Int32) → Int32 → (Nat → Int32) → (Nat → Int32) → Int32 → (Nat → Int32) → Int32 → (Nat → Int32) → (Nat → Int32) → (Nat → Int32) → (Nat → Int32) → (Nat → Int32) → Int32 → Int32 → Int32 → (Nat → Int32) → (Nat → Int32) → (Nat → Int32) → (Nat → Int32) → (Int32 → Int32 → Int32 → (Nat → Int32) → Int32 → (Nat → Int32) → Int32 → (Nat → Int32) → (Nat → Int32) → Int32 → (Nat → Int32) → Int32 → (Nat → Int32) → (Nat → Int32) → (Nat → Int32) → (Nat → Int32) → (Nat → Int32) → Int32 → Int32 → Int32 → (Nat → Int32) → (Nat → Int32) → (Nat → Int32) → (Nat → Int32) → Option (Int32 × ModS)) → Option (Int32 × ModS)
  | 0, _, _, _, _, _, _, _, _, _, _, _, _, _, _, _, _, _, _, _, _, _, _, _, _, _ => none
  | nL147 + 1, x9_L147, M_beds_L147, M_law_L147, M_worths_L147, M_sights_L147, M_sight_L147, M_signs_L147, M_pad_L147, M_lies_L147, M_empty_L147, M_list_L147, M_waits_L147, M_yard_L147, M_last_L147, M_used_L147, M_sheets_L147, M_nights_L147, M_fleasOfGuests_L147, M_fleasOfBeds_L147, M_reason_L147, M_row_L147, M_bestRow_L147, M_image_L147, M_isKept_L147, kL147 => (if c_x4 ≤ x9_L147 then kL147 x9_L147 M_beds_L147 M_law_L147 M_worths_L147 M_sights_L147 M_sight_L147 M_signs_L147 M_pad_L147 M_lies_L147 M_empty_L147 M_list_L147 M_waits_L147 M_yard_L147 M_last_L147 M_used_L147 M_sheets_L147 M_nights_L147 M_fleasOfGuests_L147 M_fleasOfBeds_L147 M_reason_L147 M_row_L147 M_bestRow_L147 M_image_L147 M_isKept_L147 else (if x9_L147 < 0 ∨ 8 ≤ x9_L147.toNatClampNeg then none else (Option.bind (f_X6_comeIn (M_row_L147 x9_L147.toNatClampNeg) (M_beds_L147, M_law_L147, M_worths_L147, M_sights_L147, M_sight_L147, M_signs_L147, M_pad_L147, M_lies_L147, M_empty_L147, M_list_L147, M_waits_L147, M_yard_L147, M_last_L147, M_used_L147, M_sheets_L147, M_nights_L147, M_fleasOfGuests_L147, M_fleasOfBeds_L147, M_reason_L147, M_row_L147, M_bestRow_L147, M_image_L147, M_isKept_L147)) (fun (M_beds_162, M_law_162, M_worths_162, M_sights_162, M_sight_162, M_signs_162, M_pad_162, M_lies_162, M_empty_162, M_list_162, M_waits_162, M_yard_162, M_last_162, M_used_162, M_sheets_162, M_nights_162, M_fleasOfGuests_162, M_fleasOfBeds_162, M_reason_162, M_row_162, M_bestRow_162, M_image_162, M_isKept_162) => f_X6_party_L147 c_x4 nL147 (x9_L147 + (nI 1)) M_beds_162 M_law_162 M_worths_162 M_sights_162 M_sight_162 M_signs_162 M_pad_162 M_lies_162 M_empty_162 M_list_162 M_waits_162 M_yard_162 M_last_162 M_used_162 M_sheets_162 M_nights_162 M_fleasOfGuests_162 M_fleasOfBeds_162 M_reason_162 M_row_162 M_bestRow_162 M_image_162 M_isKept_162 kL147))))
def f_X6_party_L187 (c_x4 : Int32) (c_M_beds : Int32) (c_M_law : Int32) (c_M_worths : (Nat → Int32)) (c_M_sights : Int32) (c_M_sight : (Nat → Int32)) (c_M_signs : Int32) (c_M_pad : (Nat → Int32)) (c_M_lies : (Nat → Int32)) (c_M_empty : Int32) (c_M_list : (Nat → Int32)) (c_M_waits : Int32) (c_M_yard : (Nat → Int32)) (c_M_last : (Nat → Int32)) (c_M_used : (Nat → Int32)) (c_M_sheets : (Nat → Int32)) (c_M_nights : (Nat → Int32)) (c_M_fleasOfGuests : Int32) (c_M_fleasOfBeds : Int32) (c_M_reason : Int32) (c_M_row : (Nat → Int32)) (c_M_bestRow : (Nat → Int32)) (c_M_image : (Nat → Int32)) (c_M_isKept : (Nat → Int32)) : Nat → Int32 → Int32 → (Int32 → Int32 → Option (Int32 × ModS)) → Option (Int32 × ModS)
  | 0, _, _, _ => none
  | nL187 + 1, x9_L187, x10_L187, kL187 => (if c_x4 ≤ x10_L187 then kL187 x9_L187 x10_L187 else (if x10_L187 < 0 ∨ 8 ≤ x10_L187.toNatClampNeg then none else (Option.bind (f_X6_bedOf (c_M_row x10_L187.toNatClampNeg) (c_M_beds, c_M_law, c_M_worths, c_M_sights, c_M_sight, c_M_signs, c_M_pad, c_M_lies, c_M_empty, c_M_list, c_M_waits, c_M_yard, c_M_last, c_M_used, c_M_sheets, c_M_nights, c_M_fleasOfGuests, c_M_fleasOfBeds, c_M_reason, c_M_row, c_M_bestRow, c_M_image, c_M_isKept)) (fun r_202 => (if 0 ≤ r_202 then (if x10_L187 < 0 ∨ 8 ≤ x10_L187.toNatClampNeg then none else (if (((nI 8) * (c_M_row x10_L187.toNatClampNeg)) + r_202) < 0 ∨ 64 ≤ (((nI 8) * (c_M_row x10_L187.toNatClampNeg)) + r_202).toNatClampNeg then none else f_X6_party_L187 c_x4 c_M_beds c_M_law c_M_worths c_M_sights c_M_sight c_M_signs c_M_pad c_M_lies c_M_empty c_M_list c_M_waits c_M_yard c_M_last c_M_used c_M_sheets c_M_nights c_M_fleasOfGuests c_M_fleasOfBeds c_M_reason c_M_row c_M_bestRow c_M_image c_M_isKept nL187 (x9_L187 + (c_M_worths (((nI 8) * (c_M_row x10_L187.toNatClampNeg)) + r_202).toNatClampNeg)) (x10_L187 + (nI 1)) kL187)) else f_X6_party_L187 c_x4 c_M_beds c_M_law c_M_worths c_M_sights c_M_sight c_M_signs c_M_pad c_M_lies c_M_empty c_M_list c_M_waits c_M_yard c_M_last c_M_used c_M_sheets c_M_nights c_M_fleasOfGuests c_M_fleasOfBeds c_M_reason c_M_row c_M_bestRow c_M_image c_M_isKept nL187 (x9_L187 + (nI 0)) (x10_L187 + (nI 1)) kL187)))))
def f_X6_party_L248 (c_x9 : Int32) (c_x6 : Int32) (c_x4 : Int32) (c_M_row : (Nat → Int32)) : Nat → Int32 → (Nat → Int32) → (Int32 → (Nat → Int32) → Option (Int32 × ModS)) → Option (Int32 × ModS)
  | 0, _, _, _ => none
  | nL248 + 1, x10_L248, M_bestRow_L248, kL248 => (if c_x4 ≤ x10_L248 then kL248 x10_L248 M_bestRow_L248 else (if c_x9 ≤ c_x6 then kL248 x10_L248 M_bestRow_L248 else (if x10_L248 < 0 ∨ 8 ≤ x10_L248.toNatClampNeg then none else (if x10_L248 < 0 ∨ 8 ≤ x10_L248.toNatClampNeg then none else f_X6_party_L248 c_x9 c_x6 c_x4 c_M_row nL248 (x10_L248 + (nI 1)) (upd M_bestRow_L248 x10_L248.toNatClampNeg (c_M_row x10_L248.toNatClampNeg)) kL248))))
def f_X6_party_L125 (c_x4 : Int32) : Nat → Int32 → Int32 → Int32 → Int32 → (Nat → Int32) → Int32 → (Nat → Int32) → Int32 → (Nat → Int32) → (Nat → Int32) → Int32 → (Nat → Int32) → Int32 → (Nat → Int32) → (Nat → Int32) → (Nat → Int32) → (Nat → Int32) → (Nat → Int32) → Int32 → Int32 → Int32 → (Nat → Int32) → (Nat → Int32) → (Nat → Int32) → (Nat → Int32) → (Int32 → Int32 → Int32 → Int32 → (Nat → Int32) → Int32 → (Nat → Int32) → Int32 → (Nat → Int32) → (Nat → Int32) → Int32 → (Nat → Int32) → Int32 → (Nat → Int32) → (Nat → Int32) → (Nat → Int32) → (Nat → Int32) → (Nat → Int32) → Int32 → Int32 → Int32 → (Nat → Int32) → (Nat → Int32) → (Nat → Int32) → (Nat → Int32) → Option (Int32 × ModS)) → Option (Int32 × ModS)
  | 0, _, _, _, _, _, _, _, _, _, _, _, _, _, _, _, _, _, _, _, _, _, _, _, _, _, _ => none
  | nL125 + 1, x6_L125, x7_L125, M_beds_L125, M_law_L125, M_worths_L125, M_sights_L125, M_sight_L125, M_signs_L125, M_pad_L125, M_lies_L125, M_empty_L125, M_list_L125, M_waits_L125, M_yard_L125, M_last_L125, M_used_L125, M_sheets_L125, M_nights_L125, M_fleasOfGuests_L125, M_fleasOfBeds_L125, M_reason_L125, M_row_L125, M_bestRow_L125, M_image_L125, M_isKept_L125, kL125 => (if x7_L125 = 0 then kL125 x6_L125 x7_L125 M_beds_L125 M_law_L125 M_worths_L125 M_sights_L125 M_sight_L125 M_signs_L125 M_pad_L125 M_lies_L125 M_empty_L125 M_list_L125 M_waits_L125 M_yard_L125 M_last_L125 M_used_L125 M_sheets_L125 M_nights_L125 M_fleasOfGuests_L125 M_fleasOfBeds_L125 M_reason_L125 M_row_L125 M_bestRow_L125 M_image_L125 M_isKept_L125 else (Option.bind (f_X6_go M_signs_L125 (nI 0) (-6 : Int32) (nI 0) (M_beds_L125, M_law_L125, M_worths_L125, M_sights_L125, M_sight_L125, M_signs_L125, M_pad_L125, M_lies_L125, M_empty_L125, M_list_L125, M_waits_L125, M_yard_L125, M_last_L125, M_used_L125, M_sheets_L125, M_nights_L125, M_fleasOfGuests_L125, M_fleasOfBeds_L125, M_reason_L125, M_row_L125, M_bestRow_L125, M_image_L125, M_isKept_L125)) (fun (r_139, (M_beds_139, M_law_139, M_worths_139, M_sights_139, M_sight_139, M_signs_139, M_pad_139, M_lies_139, M_empty_139, M_list_139, M_waits_139, M_yard_139, M_last_139, M_used_139, M_sheets_139, M_nights_139, M_fleasOfGuests_139, M_fleasOfBeds_139, M_reason_139, M_row_139, M_bestRow_139, M_image_139, M_isKept_139)) => f_X6_party_L147 c_x4 FU (nI 0) M_beds_139 M_law_139 M_worths_139 M_sights_139 M_sight_139 M_signs_139 M_pad_139 M_lies_139 M_empty_139 M_list_139 M_waits_139 M_yard_139 M_last_139 M_used_139 M_sheets_139 M_nights_139 M_fleasOfGuests_139 M_fleasOfBeds_139 M_reason_139 M_row_139 M_bestRow_139 M_image_139 M_isKept_139 (fun x9_L147 M_beds_L147 M_law_L147 M_worths_L147 M_sights_L147 M_sight_L147 M_signs_L147 M_pad_L147 M_lies_L147 M_empty_L147 M_list_L147 M_waits_L147 M_yard_L147 M_last_L147 M_used_L147 M_sheets_L147 M_nights_L147 M_fleasOfGuests_L147 M_fleasOfBeds_L147 M_reason_L147 M_row_L147 M_bestRow_L147 M_image_L147 M_isKept_L147 => gJn (fun (z0_J182 : Int32) => f_X6_party_L187 c_x4 M_beds_L147 M_law_L147 M_worths_L147 M_sights_L147 M_sight_L147 M_signs_L147 M_pad_L147 M_lies_L147 M_empty_L147 M_list_L147 M_waits_L147 M_yard_L147 M_last_L147 M_used_L147 M_sheets_L147 M_nights_L147 M_fleasOfGuests_L147 M_fleasOfBeds_L147 M_reason_L147 M_row_L147 M_bestRow_L147 M_image_L147 M_isKept_L147 FU z0_J182 (nI 0) (fun x9_L187 x10_L187 => f_X6_party_L248 x9_L187 x6_L125 c_x4 M_row_L147 FU (nI 0) M_bestRow_L147 (fun x10_L248 M_bestRow_L248 => gJn (fun (z0_J296 : Int32) => (Option.bind (f_X6_nextRow c_x4 (M_beds_L147, M_law_L147, M_worths_L147, M_sights_L147, M_sight_L147, M_signs_L147, M_pad_L147, M_lies_L147, M_empty_L147, M_list_L147, M_waits_L147, M_yard_L147, M_last_L147, M_used_L147, M_sheets_L147, M_nights_L147, M_fleasOfGuests_L147, M_fleasOfBeds_L147, M_reason_L147, M_row_L147, M_bestRow_L248, M_image_L147, M_isKept_L147)) (fun (r_301, (M_beds_301, M_law_301, M_worths_301, M_sights_301, M_sight_301, M_signs_301, M_pad_301, M_lies_301, M_empty_301, M_list_301, M_waits_301, M_yard_301, M_last_301, M_used_301, M_sheets_301, M_nights_301, M_fleasOfGuests_301, M_fleasOfBeds_301, M_reason_301, M_row_301, M_bestRow_301, M_image_301, M_isKept_301)) => f_X6_party_L125 c_x4 nL125 z0_J296 r_301 M_beds_301 M_law_301 M_worths_301 M_sights_301 M_sight_301 M_signs_301 M_pad_301 M_lies_301 M_empty_301 M_list_301 M_waits_301 M_yard_301 M_last_301 M_used_301 M_sheets_301 M_nights_301 M_fleasOfGuests_301 M_fleasOfBeds_301 M_reason_301 M_row_301 M_bestRow_301 M_image_301 M_isKept_301 kL125))) (fun kJ296 => (if x9_L187 ≤ x6_L125 then kJ296 x6_L125 else kJ296 x9_L187))))) (fun kJ182 => (if 0 ≤ r_139 then kJ182 (-6 : Int32) else kJ182 (nI 0)))))))
def f_X6_party : Int32 → Int32 → ModS → Option (Int32 × ModS)
  | x1, x2, (M_beds, M_law, M_worths, M_sights, M_sight, M_signs, M_pad, M_lies, M_empty, M_list, M_waits, M_yard, M_last, M_used, M_sheets, M_nights, M_fleasOfGuests, M_fleasOfBeds, M_reason, M_row, M_bestRow, M_image, M_isKept) => (Option.bind (f_X6_in x1 (nI 1) (nI 255)) (fun r_5 => (if r_5 = 0 then some ((-2 : Int32), (M_beds, M_law, M_worths, M_sights, M_sight, M_signs, M_pad, M_lies, M_empty, M_list, M_waits, M_yard, M_last, M_used, M_sheets, M_nights, M_fleasOfGuests, M_fleasOfBeds, M_reason, M_row, M_bestRow, M_image, M_isKept)) else (Option.bind (f_X6_barOf M_signs (M_beds, M_law, M_worths, M_sights, M_sight, M_signs, M_pad, M_lies, M_empty, M_list, M_waits, M_yard, M_last, M_used, M_sheets, M_nights, M_fleasOfGuests, M_fleasOfBeds, M_reason, M_row, M_bestRow, M_image, M_isKept)) (fun (r_19, (M_beds_19, M_law_19, M_worths_19, M_sights_19, M_sight_19, M_signs_19, M_pad_19, M_lies_19, M_empty_19, M_list_19, M_waits_19, M_yard_19, M_last_19, M_used_19, M_sheets_19, M_nights_19, M_fleasOfGuests_19, M_fleasOfBeds_19, M_reason_19, M_row_19, M_bestRow_19, M_image_19, M_isKept_19)) => (if 0 ≤ r_19 then f_X6_party_L38 x1 M_beds_19 M_law_19 M_worths_19 M_sights_19 M_sight_19 M_signs_19 M_pad_19 M_lies_19 M_empty_19 M_list_19 M_waits_19 M_yard_19 M_last_19 M_used_19 M_sheets_19 M_nights_19 M_fleasOfGuests_19 M_fleasOfBeds_19 M_reason_19 M_bestRow_19 M_image_19 M_isKept_19 FU (nI 0) (nI 0) (nI 0) M_row_19 (fun x4_L38 x5_L38 x6_L38 M_row_L38 => (if x5_L38 = 0 then (if x4_L38 ≤ (nI 6) then f_X6_party_L125 x4_L38 FU (-6 : Int32) (nI 1) M_beds_19 M_law_19 M_worths_19 M_sights_19 M_sight_19 M_signs_19 M_pad_19 M_lies_19 M_empty_19 M_list_19 M_waits_19 M_yard_19 M_last_19 M_used_19 M_sheets_19 M_nights_19 M_fleasOfGuests_19 M_fleasOfBeds_19 M_reason_19 M_row_L38 M_bestRow_19 M_image_19 M_isKept_19 (fun x6_L125 x7_L125 M_beds_L125 M_law_L125 M_worths_L125 M_sights_L125 M_sight_L125 M_signs_L125 M_pad_L125 M_lies_L125 M_empty_L125 M_list_L125 M_waits_L125 M_yard_L125 M_last_L125 M_used_L125 M_sheets_L125 M_nights_L125 M_fleasOfGuests_L125 M_fleasOfBeds_L125 M_reason_L125 M_row_L125 M_bestRow_L125 M_image_L125 M_isKept_L125 => (if x2 = (-1 : Int32) then some (x6_L125, (M_beds_L125, M_law_L125, M_worths_L125, M_sights_L125, M_sight_L125, M_signs_L125, M_pad_L125, M_lies_L125, M_empty_L125, M_list_L125, M_waits_L125, M_yard_L125, M_last_L125, M_used_L125, M_sheets_L125, M_nights_L125, M_fleasOfGuests_L125, M_fleasOfBeds_L125, M_reason_L125, M_row_L125, M_bestRow_L125, M_image_L125, M_isKept_L125)) else (Option.bind (f_X6_in x2 (nI 0) (x4_L38 - (nI 1))) (fun r_325 => (if r_325 = 0 then some ((-6 : Int32), (M_beds_L125, M_law_L125, M_worths_L125, M_sights_L125, M_sight_L125, M_signs_L125, M_pad_L125, M_lies_L125, M_empty_L125, M_list_L125, M_waits_L125, M_yard_L125, M_last_L125, M_used_L125, M_sheets_L125, M_nights_L125, M_fleasOfGuests_L125, M_fleasOfBeds_L125, M_reason_L125, M_row_L125, M_bestRow_L125, M_image_L125, M_isKept_L125)) else (if x2 < 0 ∨ 8 ≤ x2.toNatClampNeg then none else some ((M_bestRow_L125 x2.toNatClampNeg), (M_beds_L125, M_law_L125, M_worths_L125, M_sights_L125, M_sight_L125, M_signs_L125, M_pad_L125, M_lies_L125, M_empty_L125, M_list_L125, M_waits_L125, M_yard_L125, M_last_L125, M_used_L125, M_sheets_L125, M_nights_L125, M_fleasOfGuests_L125, M_fleasOfBeds_L125, M_reason_L125, M_row_L125, M_bestRow_L125, M_image_L125, M_isKept_L125)))))))) else (if x5_L38 = 0 then some ((-4 : Int32), (M_beds_19, M_law_19, M_worths_19, M_sights_19, M_sight_19, M_signs_19, M_pad_19, M_lies_19, M_empty_19, M_list_19, M_waits_19, M_yard_19, M_last_19, M_used_19, M_sheets_19, M_nights_19, M_fleasOfGuests_19, M_fleasOfBeds_19, M_reason_19, M_row_L38, M_bestRow_19, M_image_19, M_isKept_19)) else some ((-5 : Int32), (M_beds_19, M_law_19, M_worths_19, M_sights_19, M_sight_19, M_signs_19, M_pad_19, M_lies_19, M_empty_19, M_list_19, M_waits_19, M_yard_19, M_last_19, M_used_19, M_sheets_19, M_nights_19, M_fleasOfGuests_19, M_fleasOfBeds_19, M_reason_19, M_row_L38, M_bestRow_19, M_image_19, M_isKept_19)))) else (if x5_L38 = 0 then some ((-4 : Int32), (M_beds_19, M_law_19, M_worths_19, M_sights_19, M_sight_19, M_signs_19, M_pad_19, M_lies_19, M_empty_19, M_list_19, M_waits_19, M_yard_19, M_last_19, M_used_19, M_sheets_19, M_nights_19, M_fleasOfGuests_19, M_fleasOfBeds_19, M_reason_19, M_row_L38, M_bestRow_19, M_image_19, M_isKept_19)) else some ((-5 : Int32), (M_beds_19, M_law_19, M_worths_19, M_sights_19, M_sight_19, M_signs_19, M_pad_19, M_lies_19, M_empty_19, M_list_19, M_waits_19, M_yard_19, M_last_19, M_used_19, M_sheets_19, M_nights_19, M_fleasOfGuests_19, M_fleasOfBeds_19, M_reason_19, M_row_L38, M_bestRow_19, M_image_19, M_isKept_19))))) else some (r_19, (M_beds_19, M_law_19, M_worths_19, M_sights_19, M_sight_19, M_signs_19, M_pad_19, M_lies_19, M_empty_19, M_list_19, M_waits_19, M_yard_19, M_last_19, M_used_19, M_sheets_19, M_nights_19, M_fleasOfGuests_19, M_fleasOfBeds_19, M_reason_19, M_row_19, M_bestRow_19, M_image_19, M_isKept_19))))))))
set_option maxHeartbeats 4000000 in
set_option maxRecDepth 100000 in
theorem c_X6_party (l : Launch) (D : va_G) (cI cZ : ClassId) (aM : Nat → Nat) (x1 : Int32) (x2 : Int32) (tM : ModS) (rr : Int32 × ModS) (hf : f_X6_party x1 x2 tM = some rr) : CT l D cI cZ yX6_party cX6_party 12 (some .int) 6 139 0 0 [.ref (aM 0), .int x1, .int x2] ([mC cI cZ aM tM]) (gPost (some (.int rr.1)) ([mC cI cZ aM rr.2])) := by
  obtain ⟨M_beds, M_law, M_worths, M_sights, M_sight, M_signs, M_pad, M_lies, M_empty, M_list, M_waits, M_yard, M_last, M_used, M_sheets, M_nights, M_fleasOfGuests, M_fleasOfBeds, M_reason, M_row, M_bestRow, M_image, M_isKept⟩ := tM
  rw [f_X6_party] at hf
  refine CT.mkI (by decide) (Nat.le_of_ble_eq_true rfl) fun {p} {e} {R} {s} {m} {args} {below} {meth} {c} {A} {H0} {Q} C hA hR hret => ?_
  show G p l e R s m args below meth c 12 D A H0 0 0 Q [mC cI cZ aM (M_beds, M_law, M_worths, M_sights, M_sight, M_signs, M_pad, M_lies, M_empty, M_list, M_waits, M_yard, M_last, M_used, M_sheets, M_nights, M_fleasOfGuests, M_fleasOfBeds, M_reason, M_row, M_bestRow, M_image, M_isKept)] 0 [(0, .ref (aM 0)), (1, .int x1), (2, .int x2)] []
  refine gq_iload_n C 1 1 dX6_party_0 rfl rfl ?_
  refine gq_iconst C (nI 1) 2 dX6_party_1 (by decide) rfl ?_
  refine gq_sipush C (nI 255) 5 dX6_party_2 (by decide) rfl ?_
  obtain ⟨r_5, hc, hf⟩ := gq_bd hf
  refine gq_callS C hA gm_X6_60 (c_X6_in l D cI cZ  x1 (nI 1) (nI 255) _ hc) rfl ⟨Nat.le_trans (Nat.le_of_ble_eq_true rfl) hR.1, Nat.le_trans (Nat.le_of_ble_eq_true rfl) hR.2.1⟩ ⟨Nat.zero_le _, Nat.zero_le _⟩ rfl (Nat.le_of_ble_eq_true rfl) dX6_party_5 [] [mC cI cZ aM (M_beds, M_law, M_worths, M_sights, M_sight, M_signs, M_pad, M_lies, M_empty, M_list, M_waits, M_yard, M_last, M_used, M_sheets, M_nights, M_fleasOfGuests, M_fleasOfBeds, M_reason, M_row, M_bestRow, M_image, M_isKept)] 8 rfl (by decide) rfl rfl rfl [.int r_5] rfl ?_
  refine gq_if_ne C 14 11 dX6_party_8 (by decide) rfl (fun h8 => ?_) (fun h8 => ?_)
  · replace hf := gq_ifn h8 hf
    refine gq_aload_n C 0 15 dX6_party_14 rfl rfl ?_
    refine gq_aload_n C 0 16 dX6_party_15 rfl rfl ?_
    refine gq_get C fo_X6_5 fw_X6_74 0 0 19 rfl rfl rfl dX6_party_16 rfl ?_
    obtain ⟨⟨r_19, ⟨M_beds_19, M_law_19, M_worths_19, M_sights_19, M_sight_19, M_signs_19, M_pad_19, M_lies_19, M_empty_19, M_list_19, M_waits_19, M_yard_19, M_last_19, M_used_19, M_sheets_19, M_nights_19, M_fleasOfGuests_19, M_fleasOfBeds_19, M_reason_19, M_row_19, M_bestRow_19, M_image_19, M_isKept_19⟩⟩, hc, hf⟩ := gq_bd hf
    refine gq_callV C hA gm_X6_150 (c_X6_barOf l D cI cZ aM M_signs (M_beds, M_law, M_worths, M_sights, M_sight, M_signs, M_pad, M_lies, M_empty, M_list, M_waits, M_yard, M_last, M_used, M_sheets, M_nights, M_fleasOfGuests, M_fleasOfBeds, M_reason, M_row, M_bestRow, M_image, M_isKept) _ hc) rfl 0 0 rfl rfl rfl ⟨Nat.le_trans (Nat.le_of_ble_eq_true rfl) hR.1, Nat.le_trans (Nat.le_of_ble_eq_true rfl) hR.2.1⟩ ⟨Nat.zero_le _, Nat.zero_le _⟩ rfl (Nat.le_of_ble_eq_true rfl) dX6_party_19 [0] [mC cI cZ aM (M_beds_19, M_law_19, M_worths_19, M_sights_19, M_sight_19, M_signs_19, M_pad_19, M_lies_19, M_empty_19, M_list_19, M_waits_19, M_yard_19, M_last_19, M_used_19, M_sheets_19, M_nights_19, M_fleasOfGuests_19, M_fleasOfBeds_19, M_reason_19, M_row_19, M_bestRow_19, M_image_19, M_isKept_19)] 22 rfl (by decide) rfl rfl rfl [.int r_19] rfl ?_
    refine gq_istore_n C [(3, .int r_19), (0, .ref (aM 0)), (1, .int x1), (2, .int x2)] 23 dX6_party_22 (by decide) rfl rfl ?_
    refine gq_iload_n C 0 24 dX6_party_23 rfl rfl ?_
    refine gq_if_ge C 29 27 dX6_party_24 (by decide) rfl (fun h24 => ?_) (fun h24 => ?_)
    · replace hf := gq_ifp h24 hf
      refine gq_iconst C (nI 0) 30 dX6_party_29 (by decide) rfl ?_
      refine gq_istore C [(4, .int (nI 0)), (3, .int r_19), (0, .ref (aM 0)), (1, .int x1), (2, .int x2)] 32 dX6_party_30 (by decide) rfl rfl ?_
      refine gq_iconst C (nI 0) 33 dX6_party_32 (by decide) rfl ?_
      refine gq_istore C [(5, .int (nI 0)), (4, .int (nI 0)), (3, .int r_19), (0, .ref (aM 0)), (1, .int x1), (2, .int x2)] 35 dX6_party_33 (by decide) rfl rfl ?_
      refine gq_iconst C (nI 0) 36 dX6_party_35 (by decide) rfl ?_
      refine gq_istore C [(6, .int (nI 0)), (5, .int (nI 0)), (4, .int (nI 0)), (3, .int r_19), (0, .ref (aM 0)), (1, .int x1), (2, .int x2)] 38 dX6_party_36 (by decide) rfl rfl ?_
      have L38 : ∀ (kL : Int32 → Int32 → Int32 → (Nat → Int32) → Option (Int32 × ModS)), (∀ (x4_L38 : Int32) (x5_L38 : Int32) (x6_L38 : Int32) (M_row_L38 : (Nat → Int32)), kL x4_L38 x5_L38 x6_L38 M_row_L38 = some rr → G p l e R s m args below meth c 12 D A H0 0 0 Q [mC cI cZ aM (M_beds_19, M_law_19, M_worths_19, M_sights_19, M_sight_19, M_signs_19, M_pad_19, M_lies_19, M_empty_19, M_list_19, M_waits_19, M_yard_19, M_last_19, M_used_19, M_sheets_19, M_nights_19, M_fleasOfGuests_19, M_fleasOfBeds_19, M_reason_19, M_row_L38, M_bestRow_19, M_image_19, M_isKept_19)] 93 [(6, .int x6_L38), (5, .int x5_L38), (4, .int x4_L38), (3, .int r_19), (0, .ref (aM 0)), (1, .int x1), (2, .int x2)] []) → ∀ (n : Nat) (x4_L38 : Int32) (x5_L38 : Int32) (x6_L38 : Int32) (M_row_L38 : (Nat → Int32)), f_X6_party_L38 x1 M_beds_19 M_law_19 M_worths_19 M_sights_19 M_sight_19 M_signs_19 M_pad_19 M_lies_19 M_empty_19 M_list_19 M_waits_19 M_yard_19 M_last_19 M_used_19 M_sheets_19 M_nights_19 M_fleasOfGuests_19 M_fleasOfBeds_19 M_reason_19 M_bestRow_19 M_image_19 M_isKept_19 n x4_L38 x5_L38 x6_L38 M_row_L38 kL = some rr → G p l e R s m args below meth c 12 D A H0 0 0 Q [mC cI cZ aM (M_beds_19, M_law_19, M_worths_19, M_sights_19, M_sight_19, M_signs_19, M_pad_19, M_lies_19, M_empty_19, M_list_19, M_waits_19, M_yard_19, M_last_19, M_used_19, M_sheets_19, M_nights_19, M_fleasOfGuests_19, M_fleasOfBeds_19, M_reason_19, M_row_L38, M_bestRow_19, M_image_19, M_isKept_19)] 38 [(6, .int x6_L38), (5, .int x5_L38), (4, .int x4_L38), (3, .int r_19), (0, .ref (aM 0)), (1, .int x1), (2, .int x2)] [] := by
        intro kL hkL38 n
        induction n with
        | zero =>
          intro x4_L38 x5_L38 x6_L38 M_row_L38 hf
          rw [f_X6_party_L38] at hf
          cases hf
        | succ n ihL38 =>
          intro x4_L38 x5_L38 x6_L38 M_row_L38 hf
          rw [f_X6_party_L38] at hf
          refine gq_iload C 0 40 dX6_party_38 rfl rfl ?_
          refine gq_bipush C (nI 8) 42 dX6_party_40 (by decide) rfl ?_
          refine gq_icmp_ge C 93 45 dX6_party_42 (by decide) rfl (fun h42 => ?_) (fun h42 => ?_)
          · replace hf := gq_ifp h42 hf
            exact hkL38 _ _ _ _ hf
          · replace hf := gq_ifn h42 hf
            refine gq_iload_n C 5 46 dX6_party_45 rfl rfl ?_
            refine gq_iload C 0 48 dX6_party_46 rfl rfl ?_
            obtain ⟨r_48, hc, hf⟩ := gq_bd hf
            refine gq_callS C hA gm_X6_112 (c_X6_has l D cI cZ  x1 x6_L38 _ hc) rfl ⟨Nat.le_trans (Nat.le_of_ble_eq_true rfl) hR.1, Nat.le_trans (Nat.le_of_ble_eq_true rfl) hR.2.1⟩ ⟨Nat.zero_le _, Nat.zero_le _⟩ rfl (Nat.le_of_ble_eq_true rfl) dX6_party_48 [] [mC cI cZ aM (M_beds_19, M_law_19, M_worths_19, M_sights_19, M_sight_19, M_signs_19, M_pad_19, M_lies_19, M_empty_19, M_list_19, M_waits_19, M_yard_19, M_last_19, M_used_19, M_sheets_19, M_nights_19, M_fleasOfGuests_19, M_fleasOfBeds_19, M_reason_19, M_row_L38, M_bestRow_19, M_image_19, M_isKept_19)] 51 rfl (by decide) rfl rfl rfl [.int r_48] rfl ?_
            refine gq_if_eq C 87 54 dX6_party_51 (by decide) rfl (fun h51 => ?_) (fun h51 => ?_)
            · replace hf := gq_ifp h51 hf
              refine gq_iinc C 0 [(6, .int (x6_L38 + (nI 1))), (5, .int x5_L38), (4, .int x4_L38), (3, .int r_19), (0, .ref (aM 0)), (1, .int x1), (2, .int x2)] 90 dX6_party_87 rfl rfl (by decide) rfl rfl ?_
              refine gq_goto C 38 dX6_party_90 (by decide) ?_
              exact ihL38 _ _ _ _ hf
            · replace hf := gq_ifn h51 hf
              refine gq_iload C 1 56 dX6_party_54 rfl rfl ?_
              refine gq_jn (P := fun k => ∀ (z0_J73 : Int32), k z0_J73 = some rr → G p l e R s m args below meth c 12 D A H0 0 0 Q [mC cI cZ aM (M_beds_19, M_law_19, M_worths_19, M_sights_19, M_sight_19, M_signs_19, M_pad_19, M_lies_19, M_empty_19, M_list_19, M_waits_19, M_yard_19, M_last_19, M_used_19, M_sheets_19, M_nights_19, M_fleasOfGuests_19, M_fleasOfBeds_19, M_reason_19, M_row_L38, M_bestRow_19, M_image_19, M_isKept_19)] 73 [(6, .int x6_L38), (5, .int x5_L38), (4, .int x4_L38), (3, .int r_19), (0, .ref (aM 0)), (1, .int x1), (2, .int x2)] [.int z0_J73]) hf (fun z0_J73 hf => ?_) (fun kJ73 hJ73 hf => ?_)
              · refine gq_istore C [(5, .int z0_J73), (6, .int x6_L38), (4, .int x4_L38), (3, .int r_19), (0, .ref (aM 0)), (1, .int x1), (2, .int x2)] 75 dX6_party_73 (by decide) rfl rfl ?_
                refine gq_aload_n C 4 76 dX6_party_75 rfl rfl ?_
                refine gq_get C fo_X6_19 fw_X6_44 0 0 79 rfl rfl rfl dX6_party_76 rfl ?_
                refine gq_iload C 2 81 dX6_party_79 rfl rfl ?_
                refine gq_iload C 1 83 dX6_party_81 rfl rfl ?_
                obtain ⟨h83, hf⟩ := gq_ok hf
                refine gq_iast C 0 11 84 [mC cI cZ aM (M_beds_19, M_law_19, M_worths_19, M_sights_19, M_sight_19, M_signs_19, M_pad_19, M_lies_19, M_empty_19, M_list_19, M_waits_19, M_yard_19, M_last_19, M_used_19, M_sheets_19, M_nights_19, M_fleasOfGuests_19, M_fleasOfBeds_19, M_reason_19, (upd M_row_L38 x4_L38.toNatClampNeg x6_L38), M_bestRow_19, M_image_19, M_isKept_19)] rfl rfl h83 rfl dX6_party_83 rfl ?_
                refine gq_iinc C 2 [(4, .int (x4_L38 + (nI 1))), (5, .int z0_J73), (6, .int x6_L38), (3, .int r_19), (0, .ref (aM 0)), (1, .int x1), (2, .int x2)] 87 dX6_party_84 rfl rfl (by decide) rfl rfl ?_
                refine gq_iinc C 2 [(6, .int (x6_L38 + (nI 1))), (4, .int (x4_L38 + (nI 1))), (5, .int z0_J73), (3, .int r_19), (0, .ref (aM 0)), (1, .int x1), (2, .int x2)] 90 dX6_party_87 rfl rfl (by decide) rfl rfl ?_
                refine gq_goto C 38 dX6_party_90 (by decide) ?_
                refine gq_lv [0, 2, 1, 3, 4, 5, 6] rfl ?_
                exact ihL38 _ _ _ _ hf
              · refine gq_if_ne C 68 59 dX6_party_56 (by decide) rfl (fun h56 => ?_) (fun h56 => ?_)
                · replace hf := gq_ifn h56 hf
                  refine gq_iconst C (nI 1) 69 dX6_party_68 (by decide) rfl ?_
                  refine gq_goto C 73 dX6_party_69 (by decide) ?_
                  exact hJ73 _ hf
                · replace hf := gq_ifp h56 hf
                  refine gq_aload_n C 4 60 dX6_party_59 rfl rfl ?_
                  refine gq_iload C 0 62 dX6_party_60 rfl rfl ?_
                  obtain ⟨r_62, hc, hf⟩ := gq_bd hf
                  refine gq_callV C hA gm_X6_122 (c_X6_isThere l D cI cZ aM x6_L38 (M_beds_19, M_law_19, M_worths_19, M_sights_19, M_sight_19, M_signs_19, M_pad_19, M_lies_19, M_empty_19, M_list_19, M_waits_19, M_yard_19, M_last_19, M_used_19, M_sheets_19, M_nights_19, M_fleasOfGuests_19, M_fleasOfBeds_19, M_reason_19, M_row_L38, M_bestRow_19, M_image_19, M_isKept_19) _ hc) rfl 0 0 rfl rfl rfl ⟨Nat.le_trans (Nat.le_of_ble_eq_true rfl) hR.1, Nat.le_trans (Nat.le_of_ble_eq_true rfl) hR.2.1⟩ ⟨Nat.zero_le _, Nat.zero_le _⟩ rfl (Nat.le_of_ble_eq_true rfl) dX6_party_62 [0] [mC cI cZ aM (M_beds_19, M_law_19, M_worths_19, M_sights_19, M_sight_19, M_signs_19, M_pad_19, M_lies_19, M_empty_19, M_list_19, M_waits_19, M_yard_19, M_last_19, M_used_19, M_sheets_19, M_nights_19, M_fleasOfGuests_19, M_fleasOfBeds_19, M_reason_19, M_row_L38, M_bestRow_19, M_image_19, M_isKept_19)] 65 rfl (by decide) rfl rfl rfl [.int r_62] rfl ?_
                  refine gq_if_eq C 72 68 dX6_party_65 (by decide) rfl (fun h65 => ?_) (fun h65 => ?_)
                  · replace hf := gq_ifp h65 hf
                    refine gq_iconst C (nI 0) 73 dX6_party_72 (by decide) rfl ?_
                    exact hJ73 _ hf
                  · replace hf := gq_ifn h65 hf
                    refine gq_iconst C (nI 1) 69 dX6_party_68 (by decide) rfl ?_
                    refine gq_goto C 73 dX6_party_69 (by decide) ?_
                    exact hJ73 _ hf
      refine L38 _ (fun x4_L38 x5_L38 x6_L38 M_row_L38 hf => ?_) _ _ _ _ _ hf
      refine gq_iload C 1 95 dX6_party_93 rfl rfl ?_
      refine gq_if_ne C 105 98 dX6_party_95 (by decide) rfl (fun h95 => ?_) (fun h95 => ?_)
      · replace hf := gq_ifn h95 hf
        refine gq_iload C 1 107 dX6_party_105 rfl rfl ?_
        refine gq_if_eq C 115 110 dX6_party_107 (by decide) rfl (fun h107 => ?_) (fun h107 => ?_)
        · replace hf := gq_ifp h107 hf
          refine gq_bipush C (-4 : Int32) 117 dX6_party_115 (by decide) rfl ?_
          obtain rfl := gq_lf hf
          exact hret dX6_party_117 gPost.rf
        · replace hf := gq_ifn h107 hf
          refine gq_bipush C (-5 : Int32) 112 dX6_party_110 (by decide) rfl ?_
          refine gq_goto C 117 dX6_party_112 (by decide) ?_
          obtain rfl := gq_lf hf
          exact hret dX6_party_117 gPost.rf
      · replace hf := gq_ifp h95 hf
        refine gq_iload C 2 100 dX6_party_98 rfl rfl ?_
        refine gq_bipush C (nI 6) 102 dX6_party_100 (by decide) rfl ?_
        refine gq_icmp_le C 118 105 dX6_party_102 (by decide) rfl (fun h102 => ?_) (fun h102 => ?_)
        · replace hf := gq_ifp h102 hf
          refine gq_bipush C (-6 : Int32) 120 dX6_party_118 (by decide) rfl ?_
          refine gq_istore C [(6, .int (-6 : Int32)), (5, .int x5_L38), (4, .int x4_L38), (3, .int r_19), (0, .ref (aM 0)), (1, .int x1), (2, .int x2)] 122 dX6_party_120 (by decide) rfl rfl ?_
          refine gq_iconst C (nI 1) 123 dX6_party_122 (by decide) rfl ?_
          refine gq_istore C [(7, .int (nI 1)), (6, .int (-6 : Int32)), (5, .int x5_L38), (4, .int x4_L38), (3, .int r_19), (0, .ref (aM 0)), (1, .int x1), (2, .int x2)] 125 dX6_party_123 (by decide) rfl rfl ?_
          have L125 : ∀ (kL : Int32 → Int32 → Int32 → Int32 → (Nat → Int32) → Int32 → (Nat → Int32) → Int32 → (Nat → Int32) → (Nat → Int32) → Int32 → (Nat → Int32) → Int32 → (Nat → Int32) → (Nat → Int32) → (Nat → Int32) → (Nat → Int32) → (Nat → Int32) → Int32 → Int32 → Int32 → (Nat → Int32) → (Nat → Int32) → (Nat → Int32) → (Nat → Int32) → Option (Int32 × ModS)), (∀ (x6_L125 : Int32) (x7_L125 : Int32) (M_beds_L125 : Int32) (M_law_L125 : Int32) (M_worths_L125 : (Nat → Int32)) (M_sights_L125 : Int32) (M_sight_L125 : (Nat → Int32)) (M_signs_L125 : Int32) (M_pad_L125 : (Nat → Int32)) (M_lies_L125 : (Nat → Int32)) (M_empty_L125 : Int32) (M_list_L125 : (Nat → Int32)) (M_waits_L125 : Int32) (M_yard_L125 : (Nat → Int32)) (M_last_L125 : (Nat → Int32)) (M_used_L125 : (Nat → Int32)) (M_sheets_L125 : (Nat → Int32)) (M_nights_L125 : (Nat → Int32)) (M_fleasOfGuests_L125 : Int32) (M_fleasOfBeds_L125 : Int32) (M_reason_L125 : Int32) (M_row_L125 : (Nat → Int32)) (M_bestRow_L125 : (Nat → Int32)) (M_image_L125 : (Nat → Int32)) (M_isKept_L125 : (Nat → Int32)), kL x6_L125 x7_L125 M_beds_L125 M_law_L125 M_worths_L125 M_sights_L125 M_sight_L125 M_signs_L125 M_pad_L125 M_lies_L125 M_empty_L125 M_list_L125 M_waits_L125 M_yard_L125 M_last_L125 M_used_L125 M_sheets_L125 M_nights_L125 M_fleasOfGuests_L125 M_fleasOfBeds_L125 M_reason_L125 M_row_L125 M_bestRow_L125 M_image_L125 M_isKept_L125 = some rr → G p l e R s m args below meth c 12 D A H0 0 0 Q [mC cI cZ aM (M_beds_L125, M_law_L125, M_worths_L125, M_sights_L125, M_sight_L125, M_signs_L125, M_pad_L125, M_lies_L125, M_empty_L125, M_list_L125, M_waits_L125, M_yard_L125, M_last_L125, M_used_L125, M_sheets_L125, M_nights_L125, M_fleasOfGuests_L125, M_fleasOfBeds_L125, M_reason_L125, M_row_L125, M_bestRow_L125, M_image_L125, M_isKept_L125)] 309 [(7, .int x7_L125), (6, .int x6_L125), (5, .int x5_L38), (4, .int x4_L38), (3, .int r_19), (0, .ref (aM 0)), (1, .int x1), (2, .int x2)] []) → ∀ (n : Nat) (x6_L125 : Int32) (x7_L125 : Int32) (M_beds_L125 : Int32) (M_law_L125 : Int32) (M_worths_L125 : (Nat → Int32)) (M_sights_L125 : Int32) (M_sight_L125 : (Nat → Int32)) (M_signs_L125 : Int32) (M_pad_L125 : (Nat → Int32)) (M_lies_L125 : (Nat → Int32)) (M_empty_L125 : Int32) (M_list_L125 : (Nat → Int32)) (M_waits_L125 : Int32) (M_yard_L125 : (Nat → Int32)) (M_last_L125 : (Nat → Int32)) (M_used_L125 : (Nat → Int32)) (M_sheets_L125 : (Nat → Int32)) (M_nights_L125 : (Nat → Int32)) (M_fleasOfGuests_L125 : Int32) (M_fleasOfBeds_L125 : Int32) (M_reason_L125 : Int32) (M_row_L125 : (Nat → Int32)) (M_bestRow_L125 : (Nat → Int32)) (M_image_L125 : (Nat → Int32)) (M_isKept_L125 : (Nat → Int32)), f_X6_party_L125 x4_L38 n x6_L125 x7_L125 M_beds_L125 M_law_L125 M_worths_L125 M_sights_L125 M_sight_L125 M_signs_L125 M_pad_L125 M_lies_L125 M_empty_L125 M_list_L125 M_waits_L125 M_yard_L125 M_last_L125 M_used_L125 M_sheets_L125 M_nights_L125 M_fleasOfGuests_L125 M_fleasOfBeds_L125 M_reason_L125 M_row_L125 M_bestRow_L125 M_image_L125 M_isKept_L125 kL = some rr → G p l e R s m args below meth c 12 D A H0 0 0 Q [mC cI cZ aM (M_beds_L125, M_law_L125, M_worths_L125, M_sights_L125, M_sight_L125, M_signs_L125, M_pad_L125, M_lies_L125, M_empty_L125, M_list_L125, M_waits_L125, M_yard_L125, M_last_L125, M_used_L125, M_sheets_L125, M_nights_L125, M_fleasOfGuests_L125, M_fleasOfBeds_L125, M_reason_L125, M_row_L125, M_bestRow_L125, M_image_L125, M_isKept_L125)] 125 [(7, .int x7_L125), (6, .int x6_L125), (5, .int x5_L38), (4, .int x4_L38), (3, .int r_19), (0, .ref (aM 0)), (1, .int x1), (2, .int x2)] [] := by
            intro kL hkL125 n
            induction n with
            | zero =>
              intro x6_L125 x7_L125 M_beds_L125 M_law_L125 M_worths_L125 M_sights_L125 M_sight_L125 M_signs_L125 M_pad_L125 M_lies_L125 M_empty_L125 M_list_L125 M_waits_L125 M_yard_L125 M_last_L125 M_used_L125 M_sheets_L125 M_nights_L125 M_fleasOfGuests_L125 M_fleasOfBeds_L125 M_reason_L125 M_row_L125 M_bestRow_L125 M_image_L125 M_isKept_L125 hf
              rw [f_X6_party_L125] at hf
              cases hf
            | succ n ihL125 =>
              intro x6_L125 x7_L125 M_beds_L125 M_law_L125 M_worths_L125 M_sights_L125 M_sight_L125 M_signs_L125 M_pad_L125 M_lies_L125 M_empty_L125 M_list_L125 M_waits_L125 M_yard_L125 M_last_L125 M_used_L125 M_sheets_L125 M_nights_L125 M_fleasOfGuests_L125 M_fleasOfBeds_L125 M_reason_L125 M_row_L125 M_bestRow_L125 M_image_L125 M_isKept_L125 hf
              rw [f_X6_party_L125] at hf
              refine gq_iload C 0 127 dX6_party_125 rfl rfl ?_
              refine gq_if_eq C 309 130 dX6_party_127 (by decide) rfl (fun h127 => ?_) (fun h127 => ?_)
              · replace hf := gq_ifp h127 hf
                exact hkL125 _ _ _ _ _ _ _ _ _ _ _ _ _ _ _ _ _ _ _ _ _ _ _ _ _ hf
              · replace hf := gq_ifn h127 hf
                refine gq_aload_n C 5 131 dX6_party_130 rfl rfl ?_
                refine gq_aload_n C 5 132 dX6_party_131 rfl rfl ?_
                refine gq_get C fo_X6_5 fw_X6_74 0 0 135 rfl rfl rfl dX6_party_132 rfl ?_
                refine gq_iconst C (nI 0) 136 dX6_party_135 (by decide) rfl ?_
                refine gq_bipush C (-6 : Int32) 138 dX6_party_136 (by decide) rfl ?_
                refine gq_iconst C (nI 0) 139 dX6_party_138 (by decide) rfl ?_
                obtain ⟨⟨r_139, ⟨M_beds_139, M_law_139, M_worths_139, M_sights_139, M_sight_139, M_signs_139, M_pad_139, M_lies_139, M_empty_139, M_list_139, M_waits_139, M_yard_139, M_last_139, M_used_139, M_sheets_139, M_nights_139, M_fleasOfGuests_139, M_fleasOfBeds_139, M_reason_139, M_row_139, M_bestRow_139, M_image_139, M_isKept_139⟩⟩, hc, hf⟩ := gq_bd hf
                refine gq_callV C hA gm_X6_146 (c_X6_go l D cI cZ aM M_signs_L125 (nI 0) (-6 : Int32) (nI 0) (M_beds_L125, M_law_L125, M_worths_L125, M_sights_L125, M_sight_L125, M_signs_L125, M_pad_L125, M_lies_L125, M_empty_L125, M_list_L125, M_waits_L125, M_yard_L125, M_last_L125, M_used_L125, M_sheets_L125, M_nights_L125, M_fleasOfGuests_L125, M_fleasOfBeds_L125, M_reason_L125, M_row_L125, M_bestRow_L125, M_image_L125, M_isKept_L125) _ hc) rfl 0 0 rfl rfl rfl ⟨Nat.le_trans (Nat.le_of_ble_eq_true rfl) hR.1, Nat.le_trans (Nat.le_of_ble_eq_true rfl) hR.2.1⟩ ⟨Nat.zero_le _, Nat.zero_le _⟩ rfl (Nat.le_of_ble_eq_true rfl) dX6_party_139 [0] [mC cI cZ aM (M_beds_139, M_law_139, M_worths_139, M_sights_139, M_sight_139, M_signs_139, M_pad_139, M_lies_139, M_empty_139, M_list_139, M_waits_139, M_yard_139, M_last_139, M_used_139, M_sheets_139, M_nights_139, M_fleasOfGuests_139, M_fleasOfBeds_139, M_reason_139, M_row_139, M_bestRow_139, M_image_139, M_isKept_139)] 142 rfl (by decide) rfl rfl rfl [.int r_139] rfl ?_
                refine gq_istore C [(8, .int r_139), (7, .int x7_L125), (6, .int x6_L125), (5, .int x5_L38), (4, .int x4_L38), (3, .int r_19), (0, .ref (aM 0)), (1, .int x1), (2, .int x2)] 144 dX6_party_142 (by decide) rfl rfl ?_
                refine gq_iconst C (nI 0) 145 dX6_party_144 (by decide) rfl ?_
                refine gq_istore C [(9, .int (nI 0)), (8, .int r_139), (7, .int x7_L125), (6, .int x6_L125), (5, .int x5_L38), (4, .int x4_L38), (3, .int r_19), (0, .ref (aM 0)), (1, .int x1), (2, .int x2)] 147 dX6_party_145 (by decide) rfl rfl ?_
                have L147 : ∀ (kL : Int32 → Int32 → Int32 → (Nat → Int32) → Int32 → (Nat → Int32) → Int32 → (Nat → Int32) → (Nat → Int32) → Int32 → (Nat → Int32) → Int32 → (Nat → Int32) → (Nat → Int32) → (Nat → Int32) → (Nat → Int32) → (Nat → Int32) → Int32 → Int32 → Int32 → (Nat → Int32) → (Nat → Int32) → (Nat → Int32) → (Nat → Int32) → Option (Int32 × ModS)), (∀ (x9_L147 : Int32) (M_beds_L147 : Int32) (M_law_L147 : Int32) (M_worths_L147 : (Nat → Int32)) (M_sights_L147 : Int32) (M_sight_L147 : (Nat → Int32)) (M_signs_L147 : Int32) (M_pad_L147 : (Nat → Int32)) (M_lies_L147 : (Nat → Int32)) (M_empty_L147 : Int32) (M_list_L147 : (Nat → Int32)) (M_waits_L147 : Int32) (M_yard_L147 : (Nat → Int32)) (M_last_L147 : (Nat → Int32)) (M_used_L147 : (Nat → Int32)) (M_sheets_L147 : (Nat → Int32)) (M_nights_L147 : (Nat → Int32)) (M_fleasOfGuests_L147 : Int32) (M_fleasOfBeds_L147 : Int32) (M_reason_L147 : Int32) (M_row_L147 : (Nat → Int32)) (M_bestRow_L147 : (Nat → Int32)) (M_image_L147 : (Nat → Int32)) (M_isKept_L147 : (Nat → Int32)), kL x9_L147 M_beds_L147 M_law_L147 M_worths_L147 M_sights_L147 M_sight_L147 M_signs_L147 M_pad_L147 M_lies_L147 M_empty_L147 M_list_L147 M_waits_L147 M_yard_L147 M_last_L147 M_used_L147 M_sheets_L147 M_nights_L147 M_fleasOfGuests_L147 M_fleasOfBeds_L147 M_reason_L147 M_row_L147 M_bestRow_L147 M_image_L147 M_isKept_L147 = some rr → G p l e R s m args below meth c 12 D A H0 0 0 Q [mC cI cZ aM (M_beds_L147, M_law_L147, M_worths_L147, M_sights_L147, M_sight_L147, M_signs_L147, M_pad_L147, M_lies_L147, M_empty_L147, M_list_L147, M_waits_L147, M_yard_L147, M_last_L147, M_used_L147, M_sheets_L147, M_nights_L147, M_fleasOfGuests_L147, M_fleasOfBeds_L147, M_reason_L147, M_row_L147, M_bestRow_L147, M_image_L147, M_isKept_L147)] 171 [(9, .int x9_L147), (8, .int r_139), (7, .int x7_L125), (6, .int x6_L125), (5, .int x5_L38), (4, .int x4_L38), (3, .int r_19), (0, .ref (aM 0)), (1, .int x1), (2, .int x2)] []) → ∀ (n : Nat) (x9_L147 : Int32) (M_beds_L147 : Int32) (M_law_L147 : Int32) (M_worths_L147 : (Nat → Int32)) (M_sights_L147 : Int32) (M_sight_L147 : (Nat → Int32)) (M_signs_L147 : Int32) (M_pad_L147 : (Nat → Int32)) (M_lies_L147 : (Nat → Int32)) (M_empty_L147 : Int32) (M_list_L147 : (Nat → Int32)) (M_waits_L147 : Int32) (M_yard_L147 : (Nat → Int32)) (M_last_L147 : (Nat → Int32)) (M_used_L147 : (Nat → Int32)) (M_sheets_L147 : (Nat → Int32)) (M_nights_L147 : (Nat → Int32)) (M_fleasOfGuests_L147 : Int32) (M_fleasOfBeds_L147 : Int32) (M_reason_L147 : Int32) (M_row_L147 : (Nat → Int32)) (M_bestRow_L147 : (Nat → Int32)) (M_image_L147 : (Nat → Int32)) (M_isKept_L147 : (Nat → Int32)), f_X6_party_L147 x4_L38 n x9_L147 M_beds_L147 M_law_L147 M_worths_L147 M_sights_L147 M_sight_L147 M_signs_L147 M_pad_L147 M_lies_L147 M_empty_L147 M_list_L147 M_waits_L147 M_yard_L147 M_last_L147 M_used_L147 M_sheets_L147 M_nights_L147 M_fleasOfGuests_L147 M_fleasOfBeds_L147 M_reason_L147 M_row_L147 M_bestRow_L147 M_image_L147 M_isKept_L147 kL = some rr → G p l e R s m args below meth c 12 D A H0 0 0 Q [mC cI cZ aM (M_beds_L147, M_law_L147, M_worths_L147, M_sights_L147, M_sight_L147, M_signs_L147, M_pad_L147, M_lies_L147, M_empty_L147, M_list_L147, M_waits_L147, M_yard_L147, M_last_L147, M_used_L147, M_sheets_L147, M_nights_L147, M_fleasOfGuests_L147, M_fleasOfBeds_L147, M_reason_L147, M_row_L147, M_bestRow_L147, M_image_L147, M_isKept_L147)] 147 [(9, .int x9_L147), (8, .int r_139), (7, .int x7_L125), (6, .int x6_L125), (5, .int x5_L38), (4, .int x4_L38), (3, .int r_19), (0, .ref (aM 0)), (1, .int x1), (2, .int x2)] [] := by
                  intro kL hkL147 n
                  induction n with
                  | zero =>
                    intro x9_L147 M_beds_L147 M_law_L147 M_worths_L147 M_sights_L147 M_sight_L147 M_signs_L147 M_pad_L147 M_lies_L147 M_empty_L147 M_list_L147 M_waits_L147 M_yard_L147 M_last_L147 M_used_L147 M_sheets_L147 M_nights_L147 M_fleasOfGuests_L147 M_fleasOfBeds_L147 M_reason_L147 M_row_L147 M_bestRow_L147 M_image_L147 M_isKept_L147 hf
                    rw [f_X6_party_L147] at hf
                    cases hf
                  | succ n ihL147 =>
                    intro x9_L147 M_beds_L147 M_law_L147 M_worths_L147 M_sights_L147 M_sight_L147 M_signs_L147 M_pad_L147 M_lies_L147 M_empty_L147 M_list_L147 M_waits_L147 M_yard_L147 M_last_L147 M_used_L147 M_sheets_L147 M_nights_L147 M_fleasOfGuests_L147 M_fleasOfBeds_L147 M_reason_L147 M_row_L147 M_bestRow_L147 M_image_L147 M_isKept_L147 hf
                    rw [f_X6_party_L147] at hf
                    refine gq_iload C 0 149 dX6_party_147 rfl rfl ?_
                    refine gq_iload C 5 151 dX6_party_149 rfl rfl ?_
                    refine gq_icmp_ge C 171 154 dX6_party_151 (by decide) rfl (fun h151 => ?_) (fun h151 => ?_)
                    · replace hf := gq_ifp h151 hf
                      exact hkL147 _ _ _ _ _ _ _ _ _ _ _ _ _ _ _ _ _ _ _ _ _ _ _ _ hf
                    · replace hf := gq_ifn h151 hf
                      refine gq_aload_n C 7 155 dX6_party_154 rfl rfl ?_
                      refine gq_aload_n C 7 156 dX6_party_155 rfl rfl ?_
                      refine gq_get C fo_X6_19 fw_X6_44 0 0 159 rfl rfl rfl dX6_party_156 rfl ?_
                      refine gq_iload C 0 161 dX6_party_159 rfl rfl ?_
                      obtain ⟨h161, hf⟩ := gq_ok hf
                      refine gq_iald C 0 11 162 rfl rfl h161 dX6_party_161 rfl ?_
                      obtain ⟨⟨M_beds_162, M_law_162, M_worths_162, M_sights_162, M_sight_162, M_signs_162, M_pad_162, M_lies_162, M_empty_162, M_list_162, M_waits_162, M_yard_162, M_last_162, M_used_162, M_sheets_162, M_nights_162, M_fleasOfGuests_162, M_fleasOfBeds_162, M_reason_162, M_row_162, M_bestRow_162, M_image_162, M_isKept_162⟩, hc, hf⟩ := gq_bd hf
                      refine gq_callV C hA gm_X6_125 (c_X6_comeIn l D cI cZ aM (M_row_L147 x9_L147.toNatClampNeg) (M_beds_L147, M_law_L147, M_worths_L147, M_sights_L147, M_sight_L147, M_signs_L147, M_pad_L147, M_lies_L147, M_empty_L147, M_list_L147, M_waits_L147, M_yard_L147, M_last_L147, M_used_L147, M_sheets_L147, M_nights_L147, M_fleasOfGuests_L147, M_fleasOfBeds_L147, M_reason_L147, M_row_L147, M_bestRow_L147, M_image_L147, M_isKept_L147) _ hc) rfl 0 0 rfl rfl rfl ⟨Nat.le_trans (Nat.le_of_ble_eq_true rfl) hR.1, Nat.le_trans (Nat.le_of_ble_eq_true rfl) hR.2.1⟩ ⟨Nat.zero_le _, Nat.zero_le _⟩ rfl (Nat.le_of_ble_eq_true rfl) dX6_party_162 [0] [mC cI cZ aM (M_beds_162, M_law_162, M_worths_162, M_sights_162, M_sight_162, M_signs_162, M_pad_162, M_lies_162, M_empty_162, M_list_162, M_waits_162, M_yard_162, M_last_162, M_used_162, M_sheets_162, M_nights_162, M_fleasOfGuests_162, M_fleasOfBeds_162, M_reason_162, M_row_162, M_bestRow_162, M_image_162, M_isKept_162)] 165 rfl (by decide) rfl rfl rfl [] rfl ?_
                      refine gq_iinc C 0 [(9, .int (x9_L147 + (nI 1))), (8, .int r_139), (7, .int x7_L125), (6, .int x6_L125), (5, .int x5_L38), (4, .int x4_L38), (3, .int r_19), (0, .ref (aM 0)), (1, .int x1), (2, .int x2)] 168 dX6_party_165 rfl rfl (by decide) rfl rfl ?_
                      refine gq_goto C 147 dX6_party_168 (by decide) ?_
                      exact ihL147 _ _ _ _ _ _ _ _ _ _ _ _ _ _ _ _ _ _ _ _ _ _ _ _ hf
                refine L147 _ (fun x9_L147 M_beds_L147 M_law_L147 M_worths_L147 M_sights_L147 M_sight_L147 M_signs_L147 M_pad_L147 M_lies_L147 M_empty_L147 M_list_L147 M_waits_L147 M_yard_L147 M_last_L147 M_used_L147 M_sheets_L147 M_nights_L147 M_fleasOfGuests_L147 M_fleasOfBeds_L147 M_reason_L147 M_row_L147 M_bestRow_L147 M_image_L147 M_isKept_L147 hf => ?_) _ _ _ _ _ _ _ _ _ _ _ _ _ _ _ _ _ _ _ _ _ _ _ _ _ hf
                refine gq_iload C 1 173 dX6_party_171 rfl rfl ?_
                refine gq_jn (P := fun k => ∀ (z0_J182 : Int32), k z0_J182 = some rr → G p l e R s m args below meth c 12 D A H0 0 0 Q [mC cI cZ aM (M_beds_L147, M_law_L147, M_worths_L147, M_sights_L147, M_sight_L147, M_signs_L147, M_pad_L147, M_lies_L147, M_empty_L147, M_list_L147, M_waits_L147, M_yard_L147, M_last_L147, M_used_L147, M_sheets_L147, M_nights_L147, M_fleasOfGuests_L147, M_fleasOfBeds_L147, M_reason_L147, M_row_L147, M_bestRow_L147, M_image_L147, M_isKept_L147)] 182 [(9, .int x9_L147), (8, .int r_139), (7, .int x7_L125), (6, .int x6_L125), (5, .int x5_L38), (4, .int x4_L38), (3, .int r_19), (0, .ref (aM 0)), (1, .int x1), (2, .int x2)] [.int z0_J182]) hf (fun z0_J182 hf => ?_) (fun kJ182 hJ182 hf => ?_)
                · refine gq_istore C [(9, .int z0_J182), (8, .int r_139), (7, .int x7_L125), (6, .int x6_L125), (5, .int x5_L38), (4, .int x4_L38), (3, .int r_19), (0, .ref (aM 0)), (1, .int x1), (2, .int x2)] 184 dX6_party_182 (by decide) rfl rfl ?_
                  refine gq_iconst C (nI 0) 185 dX6_party_184 (by decide) rfl ?_
                  refine gq_istore C [(10, .int (nI 0)), (9, .int z0_J182), (8, .int r_139), (7, .int x7_L125), (6, .int x6_L125), (5, .int x5_L38), (4, .int x4_L38), (3, .int r_19), (0, .ref (aM 0)), (1, .int x1), (2, .int x2)] 187 dX6_party_185 (by decide) rfl rfl ?_
                  have L187 : ∀ (kL : Int32 → Int32 → Option (Int32 × ModS)), (∀ (x9_L187 : Int32) (x10_L187 : Int32), kL x9_L187 x10_L187 = some rr → G p l e R s m args below meth c 12 D A H0 0 0 Q [mC cI cZ aM (M_beds_L147, M_law_L147, M_worths_L147, M_sights_L147, M_sight_L147, M_signs_L147, M_pad_L147, M_lies_L147, M_empty_L147, M_list_L147, M_waits_L147, M_yard_L147, M_last_L147, M_used_L147, M_sheets_L147, M_nights_L147, M_fleasOfGuests_L147, M_fleasOfBeds_L147, M_reason_L147, M_row_L147, M_bestRow_L147, M_image_L147, M_isKept_L147)] 245 [(10, .int x10_L187), (9, .int x9_L187), (8, .int r_139), (7, .int x7_L125), (6, .int x6_L125), (5, .int x5_L38), (4, .int x4_L38), (3, .int r_19), (0, .ref (aM 0)), (1, .int x1), (2, .int x2)] []) → ∀ (n : Nat) (x9_L187 : Int32) (x10_L187 : Int32), f_X6_party_L187 x4_L38 M_beds_L147 M_law_L147 M_worths_L147 M_sights_L147 M_sight_L147 M_signs_L147 M_pad_L147 M_lies_L147 M_empty_L147 M_list_L147 M_waits_L147 M_yard_L147 M_last_L147 M_used_L147 M_sheets_L147 M_nights_L147 M_fleasOfGuests_L147 M_fleasOfBeds_L147 M_reason_L147 M_row_L147 M_bestRow_L147 M_image_L147 M_isKept_L147 n x9_L187 x10_L187 kL = some rr → G p l e R s m args below meth c 12 D A H0 0 0 Q [mC cI cZ aM (M_beds_L147, M_law_L147, M_worths_L147, M_sights_L147, M_sight_L147, M_signs_L147, M_pad_L147, M_lies_L147, M_empty_L147, M_list_L147, M_waits_L147, M_yard_L147, M_last_L147, M_used_L147, M_sheets_L147, M_nights_L147, M_fleasOfGuests_L147, M_fleasOfBeds_L147, M_reason_L147, M_row_L147, M_bestRow_L147, M_image_L147, M_isKept_L147)] 187 [(10, .int x10_L187), (9, .int x9_L187), (8, .int r_139), (7, .int x7_L125), (6, .int x6_L125), (5, .int x5_L38), (4, .int x4_L38), (3, .int r_19), (0, .ref (aM 0)), (1, .int x1), (2, .int x2)] [] := by
                    intro kL hkL187 n
                    induction n with
                    | zero =>
                      intro x9_L187 x10_L187 hf
                      rw [f_X6_party_L187] at hf
                      cases hf
                    | succ n ihL187 =>
                      intro x9_L187 x10_L187 hf
                      rw [f_X6_party_L187] at hf
                      refine gq_iload C 0 189 dX6_party_187 rfl rfl ?_
                      refine gq_iload C 6 191 dX6_party_189 rfl rfl ?_
                      refine gq_icmp_ge C 245 194 dX6_party_191 (by decide) rfl (fun h191 => ?_) (fun h191 => ?_)
                      · replace hf := gq_ifp h191 hf
                        exact hkL187 _ _ hf
                      · replace hf := gq_ifn h191 hf
                        refine gq_aload_n C 8 195 dX6_party_194 rfl rfl ?_
                        refine gq_aload_n C 8 196 dX6_party_195 rfl rfl ?_
                        refine gq_get C fo_X6_19 fw_X6_44 0 0 199 rfl rfl rfl dX6_party_196 rfl ?_
                        refine gq_iload C 0 201 dX6_party_199 rfl rfl ?_
                        obtain ⟨h201, hf⟩ := gq_ok hf
                        refine gq_iald C 0 11 202 rfl rfl h201 dX6_party_201 rfl ?_
                        obtain ⟨r_202, hc, hf⟩ := gq_bd hf
                        refine gq_callV C hA gm_X6_87 (c_X6_bedOf l D cI cZ aM (M_row_L147 x10_L187.toNatClampNeg) (M_beds_L147, M_law_L147, M_worths_L147, M_sights_L147, M_sight_L147, M_signs_L147, M_pad_L147, M_lies_L147, M_empty_L147, M_list_L147, M_waits_L147, M_yard_L147, M_last_L147, M_used_L147, M_sheets_L147, M_nights_L147, M_fleasOfGuests_L147, M_fleasOfBeds_L147, M_reason_L147, M_row_L147, M_bestRow_L147, M_image_L147, M_isKept_L147) _ hc) rfl 0 0 rfl rfl rfl ⟨Nat.le_trans (Nat.le_of_ble_eq_true rfl) hR.1, Nat.le_trans (Nat.le_of_ble_eq_true rfl) hR.2.1⟩ ⟨Nat.zero_le _, Nat.zero_le _⟩ rfl (Nat.le_of_ble_eq_true rfl) dX6_party_202 [0] [mC cI cZ aM (M_beds_L147, M_law_L147, M_worths_L147, M_sights_L147, M_sight_L147, M_signs_L147, M_pad_L147, M_lies_L147, M_empty_L147, M_list_L147, M_waits_L147, M_yard_L147, M_last_L147, M_used_L147, M_sheets_L147, M_nights_L147, M_fleasOfGuests_L147, M_fleasOfBeds_L147, M_reason_L147, M_row_L147, M_bestRow_L147, M_image_L147, M_isKept_L147)] 205 rfl (by decide) rfl rfl rfl [.int r_202] rfl ?_
                        refine gq_istore C [(11, .int r_202), (10, .int x10_L187), (9, .int x9_L187), (8, .int r_139), (7, .int x7_L125), (6, .int x6_L125), (5, .int x5_L38), (4, .int x4_L38), (3, .int r_19), (0, .ref (aM 0)), (1, .int x1), (2, .int x2)] 207 dX6_party_205 (by decide) rfl rfl ?_
                        refine gq_iload C 2 209 dX6_party_207 rfl rfl ?_
                        refine gq_iload C 0 211 dX6_party_209 rfl rfl ?_
                        refine gq_if_ge C 218 214 dX6_party_211 (by decide) rfl (fun h211 => ?_) (fun h211 => ?_)
                        · replace hf := gq_ifp h211 hf
                          refine gq_aload_n C 9 219 dX6_party_218 rfl rfl ?_
                          refine gq_get C fo_X6_2 fw_X6_13 0 0 222 rfl rfl rfl dX6_party_219 rfl ?_
                          refine gq_bipush C (nI 8) 224 dX6_party_222 (by decide) rfl ?_
                          refine gq_aload_n C 9 225 dX6_party_224 rfl rfl ?_
                          refine gq_get C fo_X6_19 fw_X6_44 0 0 228 rfl rfl rfl dX6_party_225 rfl ?_
                          refine gq_iload C 1 230 dX6_party_228 rfl rfl ?_
                          obtain ⟨h230, hf⟩ := gq_ok hf
                          refine gq_iald C 0 11 231 rfl rfl h230 dX6_party_230 rfl ?_
                          refine gq_imul C 232 dX6_party_231 rfl ?_
                          refine gq_iload C 0 234 dX6_party_232 rfl rfl ?_
                          refine gq_iadd C 235 dX6_party_234 rfl ?_
                          obtain ⟨h235, hf⟩ := gq_ok hf
                          refine gq_iald C 0 1 236 rfl rfl h235 dX6_party_235 rfl ?_
                          refine gq_iadd C 237 dX6_party_236 rfl ?_
                          refine gq_istore C [(9, .int (x9_L187 + (M_worths_L147 (((nI 8) * (M_row_L147 x10_L187.toNatClampNeg)) + r_202).toNatClampNeg))), (11, .int r_202), (10, .int x10_L187), (8, .int r_139), (7, .int x7_L125), (6, .int x6_L125), (5, .int x5_L38), (4, .int x4_L38), (3, .int r_19), (0, .ref (aM 0)), (1, .int x1), (2, .int x2)] 239 dX6_party_237 (by decide) rfl rfl ?_
                          refine gq_iinc C 2 [(10, .int (x10_L187 + (nI 1))), (9, .int (x9_L187 + (M_worths_L147 (((nI 8) * (M_row_L147 x10_L187.toNatClampNeg)) + r_202).toNatClampNeg))), (11, .int r_202), (8, .int r_139), (7, .int x7_L125), (6, .int x6_L125), (5, .int x5_L38), (4, .int x4_L38), (3, .int r_19), (0, .ref (aM 0)), (1, .int x1), (2, .int x2)] 242 dX6_party_239 rfl rfl (by decide) rfl rfl ?_
                          refine gq_goto C 187 dX6_party_242 (by decide) ?_
                          refine gq_lv [0, 1, 3, 4, 5, 6, 7, 8, 9, 10, 11] rfl ?_
                          exact ihL187 _ _ hf
                        · replace hf := gq_ifn h211 hf
                          refine gq_iconst C (nI 0) 215 dX6_party_214 (by decide) rfl ?_
                          refine gq_goto C 236 dX6_party_215 (by decide) ?_
                          refine gq_iadd C 237 dX6_party_236 rfl ?_
                          refine gq_istore C [(9, .int (x9_L187 + (nI 0))), (11, .int r_202), (10, .int x10_L187), (8, .int r_139), (7, .int x7_L125), (6, .int x6_L125), (5, .int x5_L38), (4, .int x4_L38), (3, .int r_19), (0, .ref (aM 0)), (1, .int x1), (2, .int x2)] 239 dX6_party_237 (by decide) rfl rfl ?_
                          refine gq_iinc C 2 [(10, .int (x10_L187 + (nI 1))), (9, .int (x9_L187 + (nI 0))), (11, .int r_202), (8, .int r_139), (7, .int x7_L125), (6, .int x6_L125), (5, .int x5_L38), (4, .int x4_L38), (3, .int r_19), (0, .ref (aM 0)), (1, .int x1), (2, .int x2)] 242 dX6_party_239 rfl rfl (by decide) rfl rfl ?_
                          refine gq_goto C 187 dX6_party_242 (by decide) ?_
                          refine gq_lv [0, 1, 3, 4, 5, 6, 7, 8, 9, 10, 11] rfl ?_
                          exact ihL187 _ _ hf
                  refine L187 _ (fun x9_L187 x10_L187 hf => ?_) _ _ _ hf
                  refine gq_iconst C (nI 0) 246 dX6_party_245 (by decide) rfl ?_
                  refine gq_istore C [(10, .int (nI 0)), (9, .int x9_L187), (8, .int r_139), (7, .int x7_L125), (6, .int x6_L125), (5, .int x5_L38), (4, .int x4_L38), (3, .int r_19), (0, .ref (aM 0)), (1, .int x1), (2, .int x2)] 248 dX6_party_246 (by decide) rfl rfl ?_
                  have L248 : ∀ (kL : Int32 → (Nat → Int32) → Option (Int32 × ModS)), (∀ (x10_L248 : Int32) (M_bestRow_L248 : (Nat → Int32)), kL x10_L248 M_bestRow_L248 = some rr → G p l e R s m args below meth c 12 D A H0 0 0 Q [mC cI cZ aM (M_beds_L147, M_law_L147, M_worths_L147, M_sights_L147, M_sight_L147, M_signs_L147, M_pad_L147, M_lies_L147, M_empty_L147, M_list_L147, M_waits_L147, M_yard_L147, M_last_L147, M_used_L147, M_sheets_L147, M_nights_L147, M_fleasOfGuests_L147, M_fleasOfBeds_L147, M_reason_L147, M_row_L147, M_bestRow_L248, M_image_L147, M_isKept_L147)] 282 [(10, .int x10_L248), (9, .int x9_L187), (8, .int r_139), (7, .int x7_L125), (6, .int x6_L125), (5, .int x5_L38), (4, .int x4_L38), (3, .int r_19), (0, .ref (aM 0)), (1, .int x1), (2, .int x2)] []) → ∀ (n : Nat) (x10_L248 : Int32) (M_bestRow_L248 : (Nat → Int32)), f_X6_party_L248 x9_L187 x6_L125 x4_L38 M_row_L147 n x10_L248 M_bestRow_L248 kL = some rr → G p l e R s m args below meth c 12 D A H0 0 0 Q [mC cI cZ aM (M_beds_L147, M_law_L147, M_worths_L147, M_sights_L147, M_sight_L147, M_signs_L147, M_pad_L147, M_lies_L147, M_empty_L147, M_list_L147, M_waits_L147, M_yard_L147, M_last_L147, M_used_L147, M_sheets_L147, M_nights_L147, M_fleasOfGuests_L147, M_fleasOfBeds_L147, M_reason_L147, M_row_L147, M_bestRow_L248, M_image_L147, M_isKept_L147)] 248 [(10, .int x10_L248), (9, .int x9_L187), (8, .int r_139), (7, .int x7_L125), (6, .int x6_L125), (5, .int x5_L38), (4, .int x4_L38), (3, .int r_19), (0, .ref (aM 0)), (1, .int x1), (2, .int x2)] [] := by
                    intro kL hkL248 n
                    induction n with
                    | zero =>
                      intro x10_L248 M_bestRow_L248 hf
                      rw [f_X6_party_L248] at hf
                      cases hf
                    | succ n ihL248 =>
                      intro x10_L248 M_bestRow_L248 hf
                      rw [f_X6_party_L248] at hf
                      refine gq_iload C 0 250 dX6_party_248 rfl rfl ?_
                      refine gq_iload C 6 252 dX6_party_250 rfl rfl ?_
                      refine gq_icmp_ge C 282 255 dX6_party_252 (by decide) rfl (fun h252 => ?_) (fun h252 => ?_)
                      · replace hf := gq_ifp h252 hf
                        exact hkL248 _ _ hf
                      · replace hf := gq_ifn h252 hf
                        refine gq_iload C 1 257 dX6_party_255 rfl rfl ?_
                        refine gq_iload C 4 259 dX6_party_257 rfl rfl ?_
                        refine gq_icmp_le C 282 262 dX6_party_259 (by decide) rfl (fun h259 => ?_) (fun h259 => ?_)
                        · replace hf := gq_ifp h259 hf
                          exact hkL248 _ _ hf
                        · replace hf := gq_ifn h259 hf
                          refine gq_aload_n C 8 263 dX6_party_262 rfl rfl ?_
                          refine gq_get C fo_X6_20 fw_X6_47 0 0 266 rfl rfl rfl dX6_party_263 rfl ?_
                          refine gq_iload C 0 268 dX6_party_266 rfl rfl ?_
                          refine gq_aload_n C 8 269 dX6_party_268 rfl rfl ?_
                          refine gq_get C fo_X6_19 fw_X6_44 0 0 272 rfl rfl rfl dX6_party_269 rfl ?_
                          refine gq_iload C 0 274 dX6_party_272 rfl rfl ?_
                          obtain ⟨h274, hf⟩ := gq_ok hf
                          refine gq_iald C 0 11 275 rfl rfl h274 dX6_party_274 rfl ?_
                          obtain ⟨h275, hf⟩ := gq_ok hf
                          refine gq_iast C 0 12 276 [mC cI cZ aM (M_beds_L147, M_law_L147, M_worths_L147, M_sights_L147, M_sight_L147, M_signs_L147, M_pad_L147, M_lies_L147, M_empty_L147, M_list_L147, M_waits_L147, M_yard_L147, M_last_L147, M_used_L147, M_sheets_L147, M_nights_L147, M_fleasOfGuests_L147, M_fleasOfBeds_L147, M_reason_L147, M_row_L147, (upd M_bestRow_L248 x10_L248.toNatClampNeg (M_row_L147 x10_L248.toNatClampNeg)), M_image_L147, M_isKept_L147)] rfl rfl h275 rfl dX6_party_275 rfl ?_
                          refine gq_iinc C 0 [(10, .int (x10_L248 + (nI 1))), (9, .int x9_L187), (8, .int r_139), (7, .int x7_L125), (6, .int x6_L125), (5, .int x5_L38), (4, .int x4_L38), (3, .int r_19), (0, .ref (aM 0)), (1, .int x1), (2, .int x2)] 279 dX6_party_276 rfl rfl (by decide) rfl rfl ?_
                          refine gq_goto C 248 dX6_party_279 (by decide) ?_
                          exact ihL248 _ _ hf
                  refine L248 _ (fun x10_L248 M_bestRow_L248 hf => ?_) _ _ _ hf
                  refine gq_iload C 1 284 dX6_party_282 rfl rfl ?_
                  refine gq_iload C 4 286 dX6_party_284 rfl rfl ?_
                  refine gq_jn (P := fun k => ∀ (z0_J296 : Int32), k z0_J296 = some rr → G p l e R s m args below meth c 12 D A H0 0 0 Q [mC cI cZ aM (M_beds_L147, M_law_L147, M_worths_L147, M_sights_L147, M_sight_L147, M_signs_L147, M_pad_L147, M_lies_L147, M_empty_L147, M_list_L147, M_waits_L147, M_yard_L147, M_last_L147, M_used_L147, M_sheets_L147, M_nights_L147, M_fleasOfGuests_L147, M_fleasOfBeds_L147, M_reason_L147, M_row_L147, M_bestRow_L248, M_image_L147, M_isKept_L147)] 296 [(10, .int x10_L248), (9, .int x9_L187), (8, .int r_139), (7, .int x7_L125), (6, .int x6_L125), (5, .int x5_L38), (4, .int x4_L38), (3, .int r_19), (0, .ref (aM 0)), (1, .int x1), (2, .int x2)] [.int z0_J296]) hf (fun z0_J296 hf => ?_) (fun kJ296 hJ296 hf => ?_)
                  · refine gq_istore C [(6, .int z0_J296), (10, .int x10_L248), (9, .int x9_L187), (8, .int r_139), (7, .int x7_L125), (5, .int x5_L38), (4, .int x4_L38), (3, .int r_19), (0, .ref (aM 0)), (1, .int x1), (2, .int x2)] 298 dX6_party_296 (by decide) rfl rfl ?_
                    refine gq_aload_n C 8 299 dX6_party_298 rfl rfl ?_
                    refine gq_iload C 6 301 dX6_party_299 rfl rfl ?_
                    obtain ⟨⟨r_301, ⟨M_beds_301, M_law_301, M_worths_301, M_sights_301, M_sight_301, M_signs_301, M_pad_301, M_lies_301, M_empty_301, M_list_301, M_waits_301, M_yard_301, M_last_301, M_used_301, M_sheets_301, M_nights_301, M_fleasOfGuests_301, M_fleasOfBeds_301, M_reason_301, M_row_301, M_bestRow_301, M_image_301, M_isKept_301⟩⟩, hc, hf⟩ := gq_bd hf
                    refine gq_callV C hA gm_X6_162 (c_X6_nextRow l D cI cZ aM x4_L38 (M_beds_L147, M_law_L147, M_worths_L147, M_sights_L147, M_sight_L147, M_signs_L147, M_pad_L147, M_lies_L147, M_empty_L147, M_list_L147, M_waits_L147, M_yard_L147, M_last_L147, M_used_L147, M_sheets_L147, M_nights_L147, M_fleasOfGuests_L147, M_fleasOfBeds_L147, M_reason_L147, M_row_L147, M_bestRow_L248, M_image_L147, M_isKept_L147) _ hc) rfl 0 0 rfl rfl rfl ⟨Nat.le_trans (Nat.le_of_ble_eq_true rfl) hR.1, Nat.le_trans (Nat.le_of_ble_eq_true rfl) hR.2.1⟩ ⟨Nat.zero_le _, Nat.zero_le _⟩ rfl (Nat.le_of_ble_eq_true rfl) dX6_party_301 [0] [mC cI cZ aM (M_beds_301, M_law_301, M_worths_301, M_sights_301, M_sight_301, M_signs_301, M_pad_301, M_lies_301, M_empty_301, M_list_301, M_waits_301, M_yard_301, M_last_301, M_used_301, M_sheets_301, M_nights_301, M_fleasOfGuests_301, M_fleasOfBeds_301, M_reason_301, M_row_301, M_bestRow_301, M_image_301, M_isKept_301)] 304 rfl (by decide) rfl rfl rfl [.int r_301] rfl ?_
                    refine gq_istore C [(7, .int r_301), (6, .int z0_J296), (10, .int x10_L248), (9, .int x9_L187), (8, .int r_139), (5, .int x5_L38), (4, .int x4_L38), (3, .int r_19), (0, .ref (aM 0)), (1, .int x1), (2, .int x2)] 306 dX6_party_304 (by decide) rfl rfl ?_
                    refine gq_goto C 125 dX6_party_306 (by decide) ?_
                    refine gq_lv [0, 1, 5, 6, 7, 8, 9, 10] rfl ?_
                    exact ihL125 _ _ _ _ _ _ _ _ _ _ _ _ _ _ _ _ _ _ _ _ _ _ _ _ _ hf
                  · refine gq_icmp_le C 294 289 dX6_party_286 (by decide) rfl (fun h286 => ?_) (fun h286 => ?_)
                    · replace hf := gq_ifp h286 hf
                      refine gq_iload C 4 296 dX6_party_294 rfl rfl ?_
                      exact hJ296 _ hf
                    · replace hf := gq_ifn h286 hf
                      refine gq_iload C 1 291 dX6_party_289 rfl rfl ?_
                      refine gq_goto C 296 dX6_party_291 (by decide) ?_
                      exact hJ296 _ hf
                · refine gq_if_ge C 180 176 dX6_party_173 (by decide) rfl (fun h173 => ?_) (fun h173 => ?_)
                  · replace hf := gq_ifp h173 hf
                    refine gq_bipush C (-6 : Int32) 182 dX6_party_180 (by decide) rfl ?_
                    exact hJ182 _ hf
                  · replace hf := gq_ifn h173 hf
                    refine gq_iconst C (nI 0) 177 dX6_party_176 (by decide) rfl ?_
                    refine gq_goto C 182 dX6_party_177 (by decide) ?_
                    exact hJ182 _ hf
          refine L125 _ (fun x6_L125 x7_L125 M_beds_L125 M_law_L125 M_worths_L125 M_sights_L125 M_sight_L125 M_signs_L125 M_pad_L125 M_lies_L125 M_empty_L125 M_list_L125 M_waits_L125 M_yard_L125 M_last_L125 M_used_L125 M_sheets_L125 M_nights_L125 M_fleasOfGuests_L125 M_fleasOfBeds_L125 M_reason_L125 M_row_L125 M_bestRow_L125 M_image_L125 M_isKept_L125 hf => ?_) _ _ _ _ _ _ _ _ _ _ _ _ _ _ _ _ _ _ _ _ _ _ _ _ _ _ hf
          refine gq_iload_n C 7 310 dX6_party_309 rfl rfl ?_
          refine gq_iconst C (-1 : Int32) 311 dX6_party_310 (by decide) rfl ?_
          refine gq_icmp_ne C 319 314 dX6_party_311 (by decide) rfl (fun h311 => ?_) (fun h311 => ?_)
          · replace hf := gq_ifn h311 hf
            refine gq_iload_n C 7 320 dX6_party_319 rfl rfl ?_
            refine gq_iconst C (nI 0) 321 dX6_party_320 (by decide) rfl ?_
            refine gq_iload C 3 323 dX6_party_321 rfl rfl ?_
            refine gq_iconst C (nI 1) 324 dX6_party_323 (by decide) rfl ?_
            refine gq_isub C 325 dX6_party_324 rfl ?_
            obtain ⟨r_325, hc, hf⟩ := gq_bd hf
            refine gq_callS C hA gm_X6_60 (c_X6_in l D cI cZ  x2 (nI 0) (x4_L38 - (nI 1)) _ hc) rfl ⟨Nat.le_trans (Nat.le_of_ble_eq_true rfl) hR.1, Nat.le_trans (Nat.le_of_ble_eq_true rfl) hR.2.1⟩ ⟨Nat.zero_le _, Nat.zero_le _⟩ rfl (Nat.le_of_ble_eq_true rfl) dX6_party_325 [] [mC cI cZ aM (M_beds_L125, M_law_L125, M_worths_L125, M_sights_L125, M_sight_L125, M_signs_L125, M_pad_L125, M_lies_L125, M_empty_L125, M_list_L125, M_waits_L125, M_yard_L125, M_last_L125, M_used_L125, M_sheets_L125, M_nights_L125, M_fleasOfGuests_L125, M_fleasOfBeds_L125, M_reason_L125, M_row_L125, M_bestRow_L125, M_image_L125, M_isKept_L125)] 328 rfl (by decide) rfl rfl rfl [.int r_325] rfl ?_
            refine gq_if_eq C 340 331 dX6_party_328 (by decide) rfl (fun h328 => ?_) (fun h328 => ?_)
            · replace hf := gq_ifp h328 hf
              refine gq_bipush C (-6 : Int32) 342 dX6_party_340 (by decide) rfl ?_
              obtain rfl := gq_lf hf
              exact hret dX6_party_342 gPost.rf
            · replace hf := gq_ifn h328 hf
              refine gq_aload_n C 5 332 dX6_party_331 rfl rfl ?_
              refine gq_get C fo_X6_20 fw_X6_47 0 0 335 rfl rfl rfl dX6_party_332 rfl ?_
              refine gq_iload_n C 7 336 dX6_party_335 rfl rfl ?_
              obtain ⟨h336, hf⟩ := gq_ok hf
              refine gq_iald C 0 12 337 rfl rfl h336 dX6_party_336 rfl ?_
              refine gq_goto C 342 dX6_party_337 (by decide) ?_
              obtain rfl := gq_lf hf
              exact hret dX6_party_342 gPost.rf
          · replace hf := gq_ifp h311 hf
            refine gq_iload C 1 316 dX6_party_314 rfl rfl ?_
            refine gq_goto C 342 dX6_party_316 (by decide) ?_
            obtain rfl := gq_lf hf
            exact hret dX6_party_342 gPost.rf
        · replace hf := gq_ifn h102 hf
          refine gq_iload C 1 107 dX6_party_105 rfl rfl ?_
          refine gq_if_eq C 115 110 dX6_party_107 (by decide) rfl (fun h107 => ?_) (fun h107 => ?_)
          · replace hf := gq_ifp h107 hf
            refine gq_bipush C (-4 : Int32) 117 dX6_party_115 (by decide) rfl ?_
            obtain rfl := gq_lf hf
            exact hret dX6_party_117 gPost.rf
          · replace hf := gq_ifn h107 hf
            refine gq_bipush C (-5 : Int32) 112 dX6_party_110 (by decide) rfl ?_
            refine gq_goto C 117 dX6_party_112 (by decide) ?_
            obtain rfl := gq_lf hf
            exact hret dX6_party_117 gPost.rf
    · replace hf := gq_ifn h24 hf
      refine gq_iload_n C 0 28 dX6_party_27 rfl rfl ?_
      obtain rfl := gq_lf hf
      exact hret dX6_party_28 gPost.rf
  · replace hf := gq_ifp h8 hf
    refine gq_bipush C (-2 : Int32) 13 dX6_party_11 (by decide) rfl ?_
    obtain rfl := gq_lf hf
    exact hret dX6_party_13 gPost.rf

def f_X6_layFleas : Int32 → Int32 → ModS → Option (Int32 × ModS)
  | x1, x2, (M_beds, M_law, M_worths, M_sights, M_sight, M_signs, M_pad, M_lies, M_empty, M_list, M_waits, M_yard, M_last, M_used, M_sheets, M_nights, M_fleasOfGuests, M_fleasOfBeds, M_reason, M_row, M_bestRow, M_image, M_isKept) => (Option.bind (f_X6_go M_signs (nI 0) (-6 : Int32) (nI 0) (M_beds, M_law, M_worths, M_sights, M_sight, M_signs, M_pad, M_lies, M_empty, M_list, M_waits, M_yard, M_last, M_used, M_sheets, M_nights, x1, x2, M_reason, M_row, M_bestRow, M_image, M_isKept)) (fun (r_19, (M_beds_19, M_law_19, M_worths_19, M_sights_19, M_sight_19, M_signs_19, M_pad_19, M_lies_19, M_empty_19, M_list_19, M_waits_19, M_yard_19, M_last_19, M_used_19, M_sheets_19, M_nights_19, M_fleasOfGuests_19, M_fleasOfBeds_19, M_reason_19, M_row_19, M_bestRow_19, M_image_19, M_isKept_19)) => some (r_19, (M_beds_19, M_law_19, M_worths_19, M_sights_19, M_sight_19, M_signs_19, M_pad_19, M_lies_19, M_empty_19, M_list_19, M_waits_19, M_yard_19, M_last_19, M_used_19, M_sheets_19, M_nights_19, M_fleasOfGuests_19, M_fleasOfBeds_19, M_reason_19, M_row_19, M_bestRow_19, M_image_19, M_isKept_19))))
set_option maxHeartbeats 4000000 in
set_option maxRecDepth 100000 in
theorem c_X6_layFleas (l : Launch) (D : va_G) (cI cZ : ClassId) (aM : Nat → Nat) (x1 : Int32) (x2 : Int32) (tM : ModS) (rr : Int32 × ModS) (hf : f_X6_layFleas x1 x2 tM = some rr) : CT l D cI cZ yX6_layFleas cX6_layFleas 3 (some .int) 5 118 0 0 [.ref (aM 0), .int x1, .int x2] ([mC cI cZ aM tM]) (gPost (some (.int rr.1)) ([mC cI cZ aM rr.2])) := by
  obtain ⟨M_beds, M_law, M_worths, M_sights, M_sight, M_signs, M_pad, M_lies, M_empty, M_list, M_waits, M_yard, M_last, M_used, M_sheets, M_nights, M_fleasOfGuests, M_fleasOfBeds, M_reason, M_row, M_bestRow, M_image, M_isKept⟩ := tM
  rw [f_X6_layFleas] at hf
  refine CT.mkI (by decide) (Nat.le_of_ble_eq_true rfl) fun {p} {e} {R} {s} {m} {args} {below} {meth} {c} {A} {H0} {Q} C hA hR hret => ?_
  show G p l e R s m args below meth c 3 D A H0 0 0 Q [mC cI cZ aM (M_beds, M_law, M_worths, M_sights, M_sight, M_signs, M_pad, M_lies, M_empty, M_list, M_waits, M_yard, M_last, M_used, M_sheets, M_nights, M_fleasOfGuests, M_fleasOfBeds, M_reason, M_row, M_bestRow, M_image, M_isKept)] 0 [(0, .ref (aM 0)), (1, .int x1), (2, .int x2)] []
  refine gq_aload_n C 0 1 dX6_layFleas_0 rfl rfl ?_
  refine gq_iload_n C 1 2 dX6_layFleas_1 rfl rfl ?_
  refine gq_put C fo_X6_16 fp_X6_16 rfl fw_X6_116 0 0 5 [mC cI cZ aM (M_beds, M_law, M_worths, M_sights, M_sight, M_signs, M_pad, M_lies, M_empty, M_list, M_waits, M_yard, M_last, M_used, M_sheets, M_nights, x1, M_fleasOfBeds, M_reason, M_row, M_bestRow, M_image, M_isKept)] rfl rfl rfl rfl (Nat.le_of_ble_eq_true rfl) rfl dX6_layFleas_2 rfl ?_
  refine gq_aload_n C 0 6 dX6_layFleas_5 rfl rfl ?_
  refine gq_iload_n C 2 7 dX6_layFleas_6 rfl rfl ?_
  refine gq_put C fo_X6_17 fp_X6_17 rfl fw_X6_109 0 0 10 [mC cI cZ aM (M_beds, M_law, M_worths, M_sights, M_sight, M_signs, M_pad, M_lies, M_empty, M_list, M_waits, M_yard, M_last, M_used, M_sheets, M_nights, x1, x2, M_reason, M_row, M_bestRow, M_image, M_isKept)] rfl rfl rfl rfl (Nat.le_of_ble_eq_true rfl) rfl dX6_layFleas_7 rfl ?_
  refine gq_aload_n C 0 11 dX6_layFleas_10 rfl rfl ?_
  refine gq_aload_n C 0 12 dX6_layFleas_11 rfl rfl ?_
  refine gq_get C fo_X6_5 fw_X6_74 0 0 15 rfl rfl rfl dX6_layFleas_12 rfl ?_
  refine gq_iconst C (nI 0) 16 dX6_layFleas_15 (by decide) rfl ?_
  refine gq_bipush C (-6 : Int32) 18 dX6_layFleas_16 (by decide) rfl ?_
  refine gq_iconst C (nI 0) 19 dX6_layFleas_18 (by decide) rfl ?_
  obtain ⟨⟨r_19, ⟨M_beds_19, M_law_19, M_worths_19, M_sights_19, M_sight_19, M_signs_19, M_pad_19, M_lies_19, M_empty_19, M_list_19, M_waits_19, M_yard_19, M_last_19, M_used_19, M_sheets_19, M_nights_19, M_fleasOfGuests_19, M_fleasOfBeds_19, M_reason_19, M_row_19, M_bestRow_19, M_image_19, M_isKept_19⟩⟩, hc, hf⟩ := gq_bd hf
  refine gq_callV C hA gm_X6_146 (c_X6_go l D cI cZ aM M_signs (nI 0) (-6 : Int32) (nI 0) (M_beds, M_law, M_worths, M_sights, M_sight, M_signs, M_pad, M_lies, M_empty, M_list, M_waits, M_yard, M_last, M_used, M_sheets, M_nights, x1, x2, M_reason, M_row, M_bestRow, M_image, M_isKept) _ hc) rfl 0 0 rfl rfl rfl ⟨Nat.le_trans (Nat.le_of_ble_eq_true rfl) hR.1, Nat.le_trans (Nat.le_of_ble_eq_true rfl) hR.2.1⟩ ⟨Nat.zero_le _, Nat.zero_le _⟩ rfl (Nat.le_of_ble_eq_true rfl) dX6_layFleas_19 [0] [mC cI cZ aM (M_beds_19, M_law_19, M_worths_19, M_sights_19, M_sight_19, M_signs_19, M_pad_19, M_lies_19, M_empty_19, M_list_19, M_waits_19, M_yard_19, M_last_19, M_used_19, M_sheets_19, M_nights_19, M_fleasOfGuests_19, M_fleasOfBeds_19, M_reason_19, M_row_19, M_bestRow_19, M_image_19, M_isKept_19)] 22 rfl (by decide) rfl rfl rfl [.int r_19] rfl ?_
  obtain rfl := gq_lf hf
  exact hret dX6_layFleas_22 gPost.rf

def f_X6_fleas : Int32 → Int32 → ModS → Option (Int32 × ModS)
  | x1, x2, (M_beds, M_law, M_worths, M_sights, M_sight, M_signs, M_pad, M_lies, M_empty, M_list, M_waits, M_yard, M_last, M_used, M_sheets, M_nights, M_fleasOfGuests, M_fleasOfBeds, M_reason, M_row, M_bestRow, M_image, M_isKept) => (Option.bind (f_X6_in x1 (nI 0) ((nI 7) + M_beds)) (fun r_9 => (if r_9 = 0 then some ((-1 : Int32), (M_beds, M_law, M_worths, M_sights, M_sight, M_signs, M_pad, M_lies, M_empty, M_list, M_waits, M_yard, M_last, M_used, M_sheets, M_nights, M_fleasOfGuests, M_fleasOfBeds, M_reason, M_row, M_bestRow, M_image, M_isKept)) else (Option.bind (f_X6_in x2 (nI 0) (nI 1)) (fun r_20 => (if r_20 = 0 then some ((-2 : Int32), (M_beds, M_law, M_worths, M_sights, M_sight, M_signs, M_pad, M_lies, M_empty, M_list, M_waits, M_yard, M_last, M_used, M_sheets, M_nights, M_fleasOfGuests, M_fleasOfBeds, M_reason, M_row, M_bestRow, M_image, M_isKept)) else (Option.bind (f_X6_barOf M_signs (M_beds, M_law, M_worths, M_sights, M_sight, M_signs, M_pad, M_lies, M_empty, M_list, M_waits, M_yard, M_last, M_used, M_sheets, M_nights, M_fleasOfGuests, M_fleasOfBeds, M_reason, M_row, M_bestRow, M_image, M_isKept)) (fun (r_34, (M_beds_34, M_law_34, M_worths_34, M_sights_34, M_sight_34, M_signs_34, M_pad_34, M_lies_34, M_empty_34, M_list_34, M_waits_34, M_yard_34, M_last_34, M_used_34, M_sheets_34, M_nights_34, M_fleasOfGuests_34, M_fleasOfBeds_34, M_reason_34, M_row_34, M_bestRow_34, M_image_34, M_isKept_34)) => (if 0 ≤ r_34 then gJn (fun (z0_J58 : Int32) => gJn (fun (z0_J74 : Int32) => (Option.bind (f_X6_layFleas z0_J58 z0_J74 (M_beds_34, M_law_34, M_worths_34, M_sights_34, M_sight_34, M_signs_34, M_pad_34, M_lies_34, M_empty_34, M_list_34, M_waits_34, M_yard_34, M_last_34, M_used_34, M_sheets_34, M_nights_34, M_fleasOfGuests_34, M_fleasOfBeds_34, M_reason_34, M_row_34, M_bestRow_34, M_image_34, M_isKept_34)) (fun (r_74, (M_beds_74, M_law_74, M_worths_74, M_sights_74, M_sight_74, M_signs_74, M_pad_74, M_lies_74, M_empty_74, M_list_74, M_waits_74, M_yard_74, M_last_74, M_used_74, M_sheets_74, M_nights_74, M_fleasOfGuests_74, M_fleasOfBeds_74, M_reason_74, M_row_74, M_bestRow_74, M_image_74, M_isKept_74)) => (if r_74 < 0 then (if x2 = 0 then some (M_fleasOfGuests_74, (M_beds_74, M_law_74, M_worths_74, M_sights_74, M_sight_74, M_signs_74, M_pad_74, M_lies_74, M_empty_74, M_list_74, M_waits_74, M_yard_74, M_last_74, M_used_74, M_sheets_74, M_nights_74, M_fleasOfGuests_74, M_fleasOfBeds_74, M_reason_74, M_row_74, M_bestRow_74, M_image_74, M_isKept_74)) else some (M_fleasOfBeds_74, (M_beds_74, M_law_74, M_worths_74, M_sights_74, M_sight_74, M_signs_74, M_pad_74, M_lies_74, M_empty_74, M_list_74, M_waits_74, M_yard_74, M_last_74, M_used_74, M_sheets_74, M_nights_74, M_fleasOfGuests_74, M_fleasOfBeds_74, M_reason_74, M_row_74, M_bestRow_74, M_image_74, M_isKept_74))) else some ((-5 : Int32), (M_beds_74, M_law_74, M_worths_74, M_sights_74, M_sight_74, M_signs_74, M_pad_74, M_lies_74, M_empty_74, M_list_74, M_waits_74, M_yard_74, M_last_74, M_used_74, M_sheets_74, M_nights_74, M_fleasOfGuests_74, M_fleasOfBeds_74, M_reason_74, M_row_74, M_bestRow_74, M_image_74, M_isKept_74)))))) (fun kJ74 => (if (nI 8) ≤ x1 then kJ74 ((nI 1) <<< ((x1 - (nI 8)) &&& 31)) else kJ74 (nI 0)))) (fun kJ58 => (if (nI 8) ≤ x1 then kJ58 (nI 0) else kJ58 ((nI 1) <<< (x1 &&& 31)))) else some (r_34, (M_beds_34, M_law_34, M_worths_34, M_sights_34, M_sight_34, M_signs_34, M_pad_34, M_lies_34, M_empty_34, M_list_34, M_waits_34, M_yard_34, M_last_34, M_used_34, M_sheets_34, M_nights_34, M_fleasOfGuests_34, M_fleasOfBeds_34, M_reason_34, M_row_34, M_bestRow_34, M_image_34, M_isKept_34)))))))))))
set_option maxHeartbeats 4000000 in
set_option maxRecDepth 100000 in
theorem c_X6_fleas (l : Launch) (D : va_G) (cI cZ : ClassId) (aM : Nat → Nat) (x1 : Int32) (x2 : Int32) (tM : ModS) (rr : Int32 × ModS) (hf : f_X6_fleas x1 x2 tM = some rr) : CT l D cI cZ yX6_fleas cX6_fleas 5 (some .int) 6 140 0 0 [.ref (aM 0), .int x1, .int x2] ([mC cI cZ aM tM]) (gPost (some (.int rr.1)) ([mC cI cZ aM rr.2])) := by
  obtain ⟨M_beds, M_law, M_worths, M_sights, M_sight, M_signs, M_pad, M_lies, M_empty, M_list, M_waits, M_yard, M_last, M_used, M_sheets, M_nights, M_fleasOfGuests, M_fleasOfBeds, M_reason, M_row, M_bestRow, M_image, M_isKept⟩ := tM
  rw [f_X6_fleas] at hf
  refine CT.mkI (by decide) (Nat.le_of_ble_eq_true rfl) fun {p} {e} {R} {s} {m} {args} {below} {meth} {c} {A} {H0} {Q} C hA hR hret => ?_
  show G p l e R s m args below meth c 5 D A H0 0 0 Q [mC cI cZ aM (M_beds, M_law, M_worths, M_sights, M_sight, M_signs, M_pad, M_lies, M_empty, M_list, M_waits, M_yard, M_last, M_used, M_sheets, M_nights, M_fleasOfGuests, M_fleasOfBeds, M_reason, M_row, M_bestRow, M_image, M_isKept)] 0 [(0, .ref (aM 0)), (1, .int x1), (2, .int x2)] []
  refine gq_iload_n C 1 1 dX6_fleas_0 rfl rfl ?_
  refine gq_iconst C (nI 0) 2 dX6_fleas_1 (by decide) rfl ?_
  refine gq_bipush C (nI 7) 4 dX6_fleas_2 (by decide) rfl ?_
  refine gq_aload_n C 0 5 dX6_fleas_4 rfl rfl ?_
  refine gq_get C fo_X6_0 fw_X6_7 0 0 8 rfl rfl rfl dX6_fleas_5 rfl ?_
  refine gq_iadd C 9 dX6_fleas_8 rfl ?_
  obtain ⟨r_9, hc, hf⟩ := gq_bd hf
  refine gq_callS C hA gm_X6_60 (c_X6_in l D cI cZ  x1 (nI 0) ((nI 7) + M_beds) _ hc) rfl ⟨Nat.le_trans (Nat.le_of_ble_eq_true rfl) hR.1, Nat.le_trans (Nat.le_of_ble_eq_true rfl) hR.2.1⟩ ⟨Nat.zero_le _, Nat.zero_le _⟩ rfl (Nat.le_of_ble_eq_true rfl) dX6_fleas_9 [] [mC cI cZ aM (M_beds, M_law, M_worths, M_sights, M_sight, M_signs, M_pad, M_lies, M_empty, M_list, M_waits, M_yard, M_last, M_used, M_sheets, M_nights, M_fleasOfGuests, M_fleasOfBeds, M_reason, M_row, M_bestRow, M_image, M_isKept)] 12 rfl (by decide) rfl rfl rfl [.int r_9] rfl ?_
  refine gq_if_ne C 17 15 dX6_fleas_12 (by decide) rfl (fun h12 => ?_) (fun h12 => ?_)
  · replace hf := gq_ifn h12 hf
    refine gq_iload_n C 2 18 dX6_fleas_17 rfl rfl ?_
    refine gq_iconst C (nI 0) 19 dX6_fleas_18 (by decide) rfl ?_
    refine gq_iconst C (nI 1) 20 dX6_fleas_19 (by decide) rfl ?_
    obtain ⟨r_20, hc, hf⟩ := gq_bd hf
    refine gq_callS C hA gm_X6_60 (c_X6_in l D cI cZ  x2 (nI 0) (nI 1) _ hc) rfl ⟨Nat.le_trans (Nat.le_of_ble_eq_true rfl) hR.1, Nat.le_trans (Nat.le_of_ble_eq_true rfl) hR.2.1⟩ ⟨Nat.zero_le _, Nat.zero_le _⟩ rfl (Nat.le_of_ble_eq_true rfl) dX6_fleas_20 [] [mC cI cZ aM (M_beds, M_law, M_worths, M_sights, M_sight, M_signs, M_pad, M_lies, M_empty, M_list, M_waits, M_yard, M_last, M_used, M_sheets, M_nights, M_fleasOfGuests, M_fleasOfBeds, M_reason, M_row, M_bestRow, M_image, M_isKept)] 23 rfl (by decide) rfl rfl rfl [.int r_20] rfl ?_
    refine gq_if_ne C 29 26 dX6_fleas_23 (by decide) rfl (fun h23 => ?_) (fun h23 => ?_)
    · replace hf := gq_ifn h23 hf
      refine gq_aload_n C 0 30 dX6_fleas_29 rfl rfl ?_
      refine gq_aload_n C 0 31 dX6_fleas_30 rfl rfl ?_
      refine gq_get C fo_X6_5 fw_X6_74 0 0 34 rfl rfl rfl dX6_fleas_31 rfl ?_
      obtain ⟨⟨r_34, ⟨M_beds_34, M_law_34, M_worths_34, M_sights_34, M_sight_34, M_signs_34, M_pad_34, M_lies_34, M_empty_34, M_list_34, M_waits_34, M_yard_34, M_last_34, M_used_34, M_sheets_34, M_nights_34, M_fleasOfGuests_34, M_fleasOfBeds_34, M_reason_34, M_row_34, M_bestRow_34, M_image_34, M_isKept_34⟩⟩, hc, hf⟩ := gq_bd hf
      refine gq_callV C hA gm_X6_150 (c_X6_barOf l D cI cZ aM M_signs (M_beds, M_law, M_worths, M_sights, M_sight, M_signs, M_pad, M_lies, M_empty, M_list, M_waits, M_yard, M_last, M_used, M_sheets, M_nights, M_fleasOfGuests, M_fleasOfBeds, M_reason, M_row, M_bestRow, M_image, M_isKept) _ hc) rfl 0 0 rfl rfl rfl ⟨Nat.le_trans (Nat.le_of_ble_eq_true rfl) hR.1, Nat.le_trans (Nat.le_of_ble_eq_true rfl) hR.2.1⟩ ⟨Nat.zero_le _, Nat.zero_le _⟩ rfl (Nat.le_of_ble_eq_true rfl) dX6_fleas_34 [0] [mC cI cZ aM (M_beds_34, M_law_34, M_worths_34, M_sights_34, M_sight_34, M_signs_34, M_pad_34, M_lies_34, M_empty_34, M_list_34, M_waits_34, M_yard_34, M_last_34, M_used_34, M_sheets_34, M_nights_34, M_fleasOfGuests_34, M_fleasOfBeds_34, M_reason_34, M_row_34, M_bestRow_34, M_image_34, M_isKept_34)] 37 rfl (by decide) rfl rfl rfl [.int r_34] rfl ?_
      refine gq_istore_n C [(3, .int r_34), (0, .ref (aM 0)), (1, .int x1), (2, .int x2)] 38 dX6_fleas_37 (by decide) rfl rfl ?_
      refine gq_iload_n C 0 39 dX6_fleas_38 rfl rfl ?_
      refine gq_if_ge C 44 42 dX6_fleas_39 (by decide) rfl (fun h39 => ?_) (fun h39 => ?_)
      · replace hf := gq_ifp h39 hf
        refine gq_aload_n C 1 45 dX6_fleas_44 rfl rfl ?_
        refine gq_iload_n C 2 46 dX6_fleas_45 rfl rfl ?_
        refine gq_bipush C (nI 8) 48 dX6_fleas_46 (by decide) rfl ?_
        refine gq_jn (P := fun k => ∀ (z0_J58 : Int32), k z0_J58 = some rr → G p l e R s m args below meth c 5 D A H0 0 0 Q [mC cI cZ aM (M_beds_34, M_law_34, M_worths_34, M_sights_34, M_sight_34, M_signs_34, M_pad_34, M_lies_34, M_empty_34, M_list_34, M_waits_34, M_yard_34, M_last_34, M_used_34, M_sheets_34, M_nights_34, M_fleasOfGuests_34, M_fleasOfBeds_34, M_reason_34, M_row_34, M_bestRow_34, M_image_34, M_isKept_34)] 58 [(3, .int r_34), (0, .ref (aM 0)), (1, .int x1), (2, .int x2)] [.int z0_J58, .ref (aM 0)]) hf (fun z0_J58 hf => ?_) (fun kJ58 hJ58 hf => ?_)
        · refine gq_iload_n C 2 59 dX6_fleas_58 rfl rfl ?_
          refine gq_bipush C (nI 8) 61 dX6_fleas_59 (by decide) rfl ?_
          refine gq_jn (P := fun k => ∀ (z0_J74 : Int32), k z0_J74 = some rr → G p l e R s m args below meth c 5 D A H0 0 0 Q [mC cI cZ aM (M_beds_34, M_law_34, M_worths_34, M_sights_34, M_sight_34, M_signs_34, M_pad_34, M_lies_34, M_empty_34, M_list_34, M_waits_34, M_yard_34, M_last_34, M_used_34, M_sheets_34, M_nights_34, M_fleasOfGuests_34, M_fleasOfBeds_34, M_reason_34, M_row_34, M_bestRow_34, M_image_34, M_isKept_34)] 74 [(3, .int r_34), (0, .ref (aM 0)), (1, .int x1), (2, .int x2)] [.int z0_J74, .int z0_J58, .ref (aM 0)]) hf (fun z0_J74 hf => ?_) (fun kJ74 hJ74 hf => ?_)
          · obtain ⟨⟨r_74, ⟨M_beds_74, M_law_74, M_worths_74, M_sights_74, M_sight_74, M_signs_74, M_pad_74, M_lies_74, M_empty_74, M_list_74, M_waits_74, M_yard_74, M_last_74, M_used_74, M_sheets_74, M_nights_74, M_fleasOfGuests_74, M_fleasOfBeds_74, M_reason_74, M_row_74, M_bestRow_74, M_image_74, M_isKept_74⟩⟩, hc, hf⟩ := gq_bd hf
            refine gq_callV C hA gm_X6_165 (c_X6_layFleas l D cI cZ aM z0_J58 z0_J74 (M_beds_34, M_law_34, M_worths_34, M_sights_34, M_sight_34, M_signs_34, M_pad_34, M_lies_34, M_empty_34, M_list_34, M_waits_34, M_yard_34, M_last_34, M_used_34, M_sheets_34, M_nights_34, M_fleasOfGuests_34, M_fleasOfBeds_34, M_reason_34, M_row_34, M_bestRow_34, M_image_34, M_isKept_34) _ hc) rfl 0 0 rfl rfl rfl ⟨Nat.le_trans (Nat.le_of_ble_eq_true rfl) hR.1, Nat.le_trans (Nat.le_of_ble_eq_true rfl) hR.2.1⟩ ⟨Nat.zero_le _, Nat.zero_le _⟩ rfl (Nat.le_of_ble_eq_true rfl) dX6_fleas_74 [0] [mC cI cZ aM (M_beds_74, M_law_74, M_worths_74, M_sights_74, M_sight_74, M_signs_74, M_pad_74, M_lies_74, M_empty_74, M_list_74, M_waits_74, M_yard_74, M_last_74, M_used_74, M_sheets_74, M_nights_74, M_fleasOfGuests_74, M_fleasOfBeds_74, M_reason_74, M_row_74, M_bestRow_74, M_image_74, M_isKept_74)] 77 rfl (by decide) rfl rfl rfl [.int r_74] rfl ?_
            refine gq_istore C [(4, .int r_74), (3, .int r_34), (0, .ref (aM 0)), (1, .int x1), (2, .int x2)] 79 dX6_fleas_77 (by decide) rfl rfl ?_
            refine gq_iload C 0 81 dX6_fleas_79 rfl rfl ?_
            refine gq_if_lt C 89 84 dX6_fleas_81 (by decide) rfl (fun h81 => ?_) (fun h81 => ?_)
            · replace hf := gq_ifp h81 hf
              refine gq_iload_n C 4 90 dX6_fleas_89 rfl rfl ?_
              refine gq_if_ne C 100 93 dX6_fleas_90 (by decide) rfl (fun h90 => ?_) (fun h90 => ?_)
              · replace hf := gq_ifn h90 hf
                refine gq_aload_n C 2 101 dX6_fleas_100 rfl rfl ?_
                refine gq_get C fo_X6_17 fw_X6_109 0 0 104 rfl rfl rfl dX6_fleas_101 rfl ?_
                obtain rfl := gq_lf hf
                exact hret dX6_fleas_104 gPost.rf
              · replace hf := gq_ifp h90 hf
                refine gq_aload_n C 2 94 dX6_fleas_93 rfl rfl ?_
                refine gq_get C fo_X6_16 fw_X6_116 0 0 97 rfl rfl rfl dX6_fleas_94 rfl ?_
                refine gq_goto C 104 dX6_fleas_97 (by decide) ?_
                obtain rfl := gq_lf hf
                exact hret dX6_fleas_104 gPost.rf
            · replace hf := gq_ifn h81 hf
              refine gq_bipush C (-5 : Int32) 86 dX6_fleas_84 (by decide) rfl ?_
              refine gq_goto C 104 dX6_fleas_86 (by decide) ?_
              obtain rfl := gq_lf hf
              exact hret dX6_fleas_104 gPost.rf
          · refine gq_icmp_ge C 68 64 dX6_fleas_61 (by decide) rfl (fun h61 => ?_) (fun h61 => ?_)
            · replace hf := gq_ifp h61 hf
              refine gq_iconst C (nI 1) 69 dX6_fleas_68 (by decide) rfl ?_
              refine gq_iload_n C 2 70 dX6_fleas_69 rfl rfl ?_
              refine gq_bipush C (nI 8) 72 dX6_fleas_70 (by decide) rfl ?_
              refine gq_isub C 73 dX6_fleas_72 rfl ?_
              refine gq_ishl C 74 dX6_fleas_73 rfl ?_
              exact hJ74 _ hf
            · replace hf := gq_ifn h61 hf
              refine gq_iconst C (nI 0) 65 dX6_fleas_64 (by decide) rfl ?_
              refine gq_goto C 74 dX6_fleas_65 (by decide) ?_
              exact hJ74 _ hf
        · refine gq_icmp_ge C 57 51 dX6_fleas_48 (by decide) rfl (fun h48 => ?_) (fun h48 => ?_)
          · replace hf := gq_ifp h48 hf
            refine gq_iconst C (nI 0) 58 dX6_fleas_57 (by decide) rfl ?_
            exact hJ58 _ hf
          · replace hf := gq_ifn h48 hf
            refine gq_iconst C (nI 1) 52 dX6_fleas_51 (by decide) rfl ?_
            refine gq_iload_n C 2 53 dX6_fleas_52 rfl rfl ?_
            refine gq_ishl C 54 dX6_fleas_53 rfl ?_
            refine gq_goto C 58 dX6_fleas_54 (by decide) ?_
            exact hJ58 _ hf
      · replace hf := gq_ifn h39 hf
        refine gq_iload_n C 0 43 dX6_fleas_42 rfl rfl ?_
        obtain rfl := gq_lf hf
        exact hret dX6_fleas_43 gPost.rf
    · replace hf := gq_ifp h23 hf
      refine gq_bipush C (-2 : Int32) 28 dX6_fleas_26 (by decide) rfl ?_
      obtain rfl := gq_lf hf
      exact hret dX6_fleas_28 gPost.rf
  · replace hf := gq_ifp h12 hf
    refine gq_iconst C (-1 : Int32) 16 dX6_fleas_15 (by decide) rfl ?_
    obtain rfl := gq_lf hf
    exact hret dX6_fleas_16 gPost.rf

def f_X6_brought_L34 (c_x1 : Int32) : Nat → Int32 → Int32 → Int32 → Int32 → (Nat → Int32) → Int32 → (Nat → Int32) → Int32 → (Nat → Int32) → (Nat → Int32) → Int32 → (Nat → Int32) → Int32 → (Nat → Int32) → (Nat → Int32) → (Nat → Int32) → (Nat → Int32) → (Nat → Int32) → Int32 → Int32 → Int32 → (Nat → Int32) → (Nat → Int32) → (Nat → Int32) → (Nat → Int32) → (Int32 → Int32 → Int32 → Int32 → (Nat → Int32) → Int32 → (Nat → Int32) → Int32 → (Nat → Int32) → (Nat → Int32) → Int32 → (Nat → Int32) → Int32 → (Nat → Int32) → (Nat → Int32) → (Nat → Int32) → (Nat → Int32) → (Nat → Int32) → Int32 → Int32 → Int32 → (Nat → Int32) → (Nat → Int32) → (Nat → Int32) → (Nat → Int32) → Option (Int32 × ModS)) → Option (Int32 × ModS)
  | 0, _, _, _, _, _, _, _, _, _, _, _, _, _, _, _, _, _, _, _, _, _, _, _, _, _, _ => none
  | nL34 + 1, x3_L34, x4_L34, M_beds_L34, M_law_L34, M_worths_L34, M_sights_L34, M_sight_L34, M_signs_L34, M_pad_L34, M_lies_L34, M_empty_L34, M_list_L34, M_waits_L34, M_yard_L34, M_last_L34, M_used_L34, M_sheets_L34, M_nights_L34, M_fleasOfGuests_L34, M_fleasOfBeds_L34, M_reason_L34, M_row_L34, M_bestRow_L34, M_image_L34, M_isKept_L34, kL34 => (if (nI 8) ≤ x4_L34 then kL34 x3_L34 x4_L34 M_beds_L34 M_law_L34 M_worths_L34 M_sights_L34 M_sight_L34 M_signs_L34 M_pad_L34 M_lies_L34 M_empty_L34 M_list_L34 M_waits_L34 M_yard_L34 M_last_L34 M_used_L34 M_sheets_L34 M_nights_L34 M_fleasOfGuests_L34 M_fleasOfBeds_L34 M_reason_L34 M_row_L34 M_bestRow_L34 M_image_L34 M_isKept_L34 else (Option.bind (f_X6_layFleas ((nI 1) <<< (x4_L34 &&& 31)) (nI 0) (M_beds_L34, M_law_L34, M_worths_L34, M_sights_L34, M_sight_L34, M_signs_L34, M_pad_L34, M_lies_L34, M_empty_L34, M_list_L34, M_waits_L34, M_yard_L34, M_last_L34, M_used_L34, M_sheets_L34, M_nights_L34, M_fleasOfGuests_L34, M_fleasOfBeds_L34, M_reason_L34, M_row_L34, M_bestRow_L34, M_image_L34, M_isKept_L34)) (fun (r_47, (M_beds_47, M_law_47, M_worths_47, M_sights_47, M_sight_47, M_signs_47, M_pad_47, M_lies_47, M_empty_47, M_list_47, M_waits_47, M_yard_47, M_last_47, M_used_47, M_sheets_47, M_nights_47, M_fleasOfGuests_47, M_fleasOfBeds_47, M_reason_47, M_row_47, M_bestRow_47, M_image_47, M_isKept_47)) => (if 0 ≤ r_47 then f_X6_brought_L34 c_x1 nL34 (x3_L34 ||| (nI 0)) (x4_L34 + (nI 1)) M_beds_47 M_law_47 M_worths_47 M_sights_47 M_sight_47 M_signs_47 M_pad_47 M_lies_47 M_empty_47 M_list_47 M_waits_47 M_yard_47 M_last_47 M_used_47 M_sheets_47 M_nights_47 M_fleasOfGuests_47 M_fleasOfBeds_47 M_reason_47 M_row_47 M_bestRow_47 M_image_47 M_isKept_47 kL34 else (if M_fleasOfGuests_47 = c_x1 then f_X6_brought_L34 c_x1 nL34 (x3_L34 ||| ((nI 1) <<< (x4_L34 &&& 31))) (x4_L34 + (nI 1)) M_beds_47 M_law_47 M_worths_47 M_sights_47 M_sight_47 M_signs_47 M_pad_47 M_lies_47 M_empty_47 M_list_47 M_waits_47 M_yard_47 M_last_47 M_used_47 M_sheets_47 M_nights_47 M_fleasOfGuests_47 M_fleasOfBeds_47 M_reason_47 M_row_47 M_bestRow_47 M_image_47 M_isKept_47 kL34 else f_X6_brought_L34 c_x1 nL34 (x3_L34 ||| (nI 0)) (x4_L34 + (nI 1)) M_beds_47 M_law_47 M_worths_47 M_sights_47 M_sight_47 M_signs_47 M_pad_47 M_lies_47 M_empty_47 M_list_47 M_waits_47 M_yard_47 M_last_47 M_used_47 M_sheets_47 M_nights_47 M_fleasOfGuests_47 M_fleasOfBeds_47 M_reason_47 M_row_47 M_bestRow_47 M_image_47 M_isKept_47 kL34)))))
def f_X6_brought : Int32 → ModS → Option (Int32 × ModS)
  | x1, (M_beds, M_law, M_worths, M_sights, M_sight, M_signs, M_pad, M_lies, M_empty, M_list, M_waits, M_yard, M_last, M_used, M_sheets, M_nights, M_fleasOfGuests, M_fleasOfBeds, M_reason, M_row, M_bestRow, M_image, M_isKept) => (Option.bind (f_X6_in x1 (nI 0) (nI 255)) (fun r_5 => (if r_5 = 0 then some ((-2 : Int32), (M_beds, M_law, M_worths, M_sights, M_sight, M_signs, M_pad, M_lies, M_empty, M_list, M_waits, M_yard, M_last, M_used, M_sheets, M_nights, M_fleasOfGuests, M_fleasOfBeds, M_reason, M_row, M_bestRow, M_image, M_isKept)) else (Option.bind (f_X6_barOf M_signs (M_beds, M_law, M_worths, M_sights, M_sight, M_signs, M_pad, M_lies, M_empty, M_list, M_waits, M_yard, M_last, M_used, M_sheets, M_nights, M_fleasOfGuests, M_fleasOfBeds, M_reason, M_row, M_bestRow, M_image, M_isKept)) (fun (r_19, (M_beds_19, M_law_19, M_worths_19, M_sights_19, M_sight_19, M_signs_19, M_pad_19, M_lies_19, M_empty_19, M_list_19, M_waits_19, M_yard_19, M_last_19, M_used_19, M_sheets_19, M_nights_19, M_fleasOfGuests_19, M_fleasOfBeds_19, M_reason_19, M_row_19, M_bestRow_19, M_image_19, M_isKept_19)) => (if 0 ≤ r_19 then f_X6_brought_L34 x1 FU (nI 0) (nI 0) M_beds_19 M_law_19 M_worths_19 M_sights_19 M_sight_19 M_signs_19 M_pad_19 M_lies_19 M_empty_19 M_list_19 M_waits_19 M_yard_19 M_last_19 M_used_19 M_sheets_19 M_nights_19 M_fleasOfGuests_19 M_fleasOfBeds_19 M_reason_19 M_row_19 M_bestRow_19 M_image_19 M_isKept_19 (fun x3_L34 x4_L34 M_beds_L34 M_law_L34 M_worths_L34 M_sights_L34 M_sight_L34 M_signs_L34 M_pad_L34 M_lies_L34 M_empty_L34 M_list_L34 M_waits_L34 M_yard_L34 M_last_L34 M_used_L34 M_sheets_L34 M_nights_L34 M_fleasOfGuests_L34 M_fleasOfBeds_L34 M_reason_L34 M_row_L34 M_bestRow_L34 M_image_L34 M_isKept_L34 => some (x3_L34, (M_beds_L34, M_law_L34, M_worths_L34, M_sights_L34, M_sight_L34, M_signs_L34, M_pad_L34, M_lies_L34, M_empty_L34, M_list_L34, M_waits_L34, M_yard_L34, M_last_L34, M_used_L34, M_sheets_L34, M_nights_L34, M_fleasOfGuests_L34, M_fleasOfBeds_L34, M_reason_L34, M_row_L34, M_bestRow_L34, M_image_L34, M_isKept_L34))) else some (r_19, (M_beds_19, M_law_19, M_worths_19, M_sights_19, M_sight_19, M_signs_19, M_pad_19, M_lies_19, M_empty_19, M_list_19, M_waits_19, M_yard_19, M_last_19, M_used_19, M_sheets_19, M_nights_19, M_fleasOfGuests_19, M_fleasOfBeds_19, M_reason_19, M_row_19, M_bestRow_19, M_image_19, M_isKept_19))))))))
set_option maxHeartbeats 4000000 in
set_option maxRecDepth 100000 in
theorem c_X6_brought (l : Launch) (D : va_G) (cI cZ : ClassId) (aM : Nat → Nat) (x1 : Int32) (tM : ModS) (rr : Int32 × ModS) (hf : f_X6_brought x1 tM = some rr) : CT l D cI cZ yX6_brought cX6_brought 6 (some .int) 6 140 0 0 [.ref (aM 0), .int x1] ([mC cI cZ aM tM]) (gPost (some (.int rr.1)) ([mC cI cZ aM rr.2])) := by
  obtain ⟨M_beds, M_law, M_worths, M_sights, M_sight, M_signs, M_pad, M_lies, M_empty, M_list, M_waits, M_yard, M_last, M_used, M_sheets, M_nights, M_fleasOfGuests, M_fleasOfBeds, M_reason, M_row, M_bestRow, M_image, M_isKept⟩ := tM
  rw [f_X6_brought] at hf
  refine CT.mkI (by decide) (Nat.le_of_ble_eq_true rfl) fun {p} {e} {R} {s} {m} {args} {below} {meth} {c} {A} {H0} {Q} C hA hR hret => ?_
  show G p l e R s m args below meth c 6 D A H0 0 0 Q [mC cI cZ aM (M_beds, M_law, M_worths, M_sights, M_sight, M_signs, M_pad, M_lies, M_empty, M_list, M_waits, M_yard, M_last, M_used, M_sheets, M_nights, M_fleasOfGuests, M_fleasOfBeds, M_reason, M_row, M_bestRow, M_image, M_isKept)] 0 [(0, .ref (aM 0)), (1, .int x1)] []
  refine gq_iload_n C 1 1 dX6_brought_0 rfl rfl ?_
  refine gq_iconst C (nI 0) 2 dX6_brought_1 (by decide) rfl ?_
  refine gq_sipush C (nI 255) 5 dX6_brought_2 (by decide) rfl ?_
  obtain ⟨r_5, hc, hf⟩ := gq_bd hf
  refine gq_callS C hA gm_X6_60 (c_X6_in l D cI cZ  x1 (nI 0) (nI 255) _ hc) rfl ⟨Nat.le_trans (Nat.le_of_ble_eq_true rfl) hR.1, Nat.le_trans (Nat.le_of_ble_eq_true rfl) hR.2.1⟩ ⟨Nat.zero_le _, Nat.zero_le _⟩ rfl (Nat.le_of_ble_eq_true rfl) dX6_brought_5 [] [mC cI cZ aM (M_beds, M_law, M_worths, M_sights, M_sight, M_signs, M_pad, M_lies, M_empty, M_list, M_waits, M_yard, M_last, M_used, M_sheets, M_nights, M_fleasOfGuests, M_fleasOfBeds, M_reason, M_row, M_bestRow, M_image, M_isKept)] 8 rfl (by decide) rfl rfl rfl [.int r_5] rfl ?_
  refine gq_if_ne C 14 11 dX6_brought_8 (by decide) rfl (fun h8 => ?_) (fun h8 => ?_)
  · replace hf := gq_ifn h8 hf
    refine gq_aload_n C 0 15 dX6_brought_14 rfl rfl ?_
    refine gq_aload_n C 0 16 dX6_brought_15 rfl rfl ?_
    refine gq_get C fo_X6_5 fw_X6_74 0 0 19 rfl rfl rfl dX6_brought_16 rfl ?_
    obtain ⟨⟨r_19, ⟨M_beds_19, M_law_19, M_worths_19, M_sights_19, M_sight_19, M_signs_19, M_pad_19, M_lies_19, M_empty_19, M_list_19, M_waits_19, M_yard_19, M_last_19, M_used_19, M_sheets_19, M_nights_19, M_fleasOfGuests_19, M_fleasOfBeds_19, M_reason_19, M_row_19, M_bestRow_19, M_image_19, M_isKept_19⟩⟩, hc, hf⟩ := gq_bd hf
    refine gq_callV C hA gm_X6_150 (c_X6_barOf l D cI cZ aM M_signs (M_beds, M_law, M_worths, M_sights, M_sight, M_signs, M_pad, M_lies, M_empty, M_list, M_waits, M_yard, M_last, M_used, M_sheets, M_nights, M_fleasOfGuests, M_fleasOfBeds, M_reason, M_row, M_bestRow, M_image, M_isKept) _ hc) rfl 0 0 rfl rfl rfl ⟨Nat.le_trans (Nat.le_of_ble_eq_true rfl) hR.1, Nat.le_trans (Nat.le_of_ble_eq_true rfl) hR.2.1⟩ ⟨Nat.zero_le _, Nat.zero_le _⟩ rfl (Nat.le_of_ble_eq_true rfl) dX6_brought_19 [0] [mC cI cZ aM (M_beds_19, M_law_19, M_worths_19, M_sights_19, M_sight_19, M_signs_19, M_pad_19, M_lies_19, M_empty_19, M_list_19, M_waits_19, M_yard_19, M_last_19, M_used_19, M_sheets_19, M_nights_19, M_fleasOfGuests_19, M_fleasOfBeds_19, M_reason_19, M_row_19, M_bestRow_19, M_image_19, M_isKept_19)] 22 rfl (by decide) rfl rfl rfl [.int r_19] rfl ?_
    refine gq_istore_n C [(2, .int r_19), (0, .ref (aM 0)), (1, .int x1)] 23 dX6_brought_22 (by decide) rfl rfl ?_
    refine gq_iload_n C 0 24 dX6_brought_23 rfl rfl ?_
    refine gq_if_ge C 29 27 dX6_brought_24 (by decide) rfl (fun h24 => ?_) (fun h24 => ?_)
    · replace hf := gq_ifp h24 hf
      refine gq_iconst C (nI 0) 30 dX6_brought_29 (by decide) rfl ?_
      refine gq_istore_n C [(3, .int (nI 0)), (2, .int r_19), (0, .ref (aM 0)), (1, .int x1)] 31 dX6_brought_30 (by decide) rfl rfl ?_
      refine gq_iconst C (nI 0) 32 dX6_brought_31 (by decide) rfl ?_
      refine gq_istore C [(4, .int (nI 0)), (3, .int (nI 0)), (2, .int r_19), (0, .ref (aM 0)), (1, .int x1)] 34 dX6_brought_32 (by decide) rfl rfl ?_
      have L34 : ∀ (kL : Int32 → Int32 → Int32 → Int32 → (Nat → Int32) → Int32 → (Nat → Int32) → Int32 → (Nat → Int32) → (Nat → Int32) → Int32 → (Nat → Int32) → Int32 → (Nat → Int32) → (Nat → Int32) → (Nat → Int32) → (Nat → Int32) → (Nat → Int32) → Int32 → Int32 → Int32 → (Nat → Int32) → (Nat → Int32) → (Nat → Int32) → (Nat → Int32) → Option (Int32 × ModS)), (∀ (x3_L34 : Int32) (x4_L34 : Int32) (M_beds_L34 : Int32) (M_law_L34 : Int32) (M_worths_L34 : (Nat → Int32)) (M_sights_L34 : Int32) (M_sight_L34 : (Nat → Int32)) (M_signs_L34 : Int32) (M_pad_L34 : (Nat → Int32)) (M_lies_L34 : (Nat → Int32)) (M_empty_L34 : Int32) (M_list_L34 : (Nat → Int32)) (M_waits_L34 : Int32) (M_yard_L34 : (Nat → Int32)) (M_last_L34 : (Nat → Int32)) (M_used_L34 : (Nat → Int32)) (M_sheets_L34 : (Nat → Int32)) (M_nights_L34 : (Nat → Int32)) (M_fleasOfGuests_L34 : Int32) (M_fleasOfBeds_L34 : Int32) (M_reason_L34 : Int32) (M_row_L34 : (Nat → Int32)) (M_bestRow_L34 : (Nat → Int32)) (M_image_L34 : (Nat → Int32)) (M_isKept_L34 : (Nat → Int32)), kL x3_L34 x4_L34 M_beds_L34 M_law_L34 M_worths_L34 M_sights_L34 M_sight_L34 M_signs_L34 M_pad_L34 M_lies_L34 M_empty_L34 M_list_L34 M_waits_L34 M_yard_L34 M_last_L34 M_used_L34 M_sheets_L34 M_nights_L34 M_fleasOfGuests_L34 M_fleasOfBeds_L34 M_reason_L34 M_row_L34 M_bestRow_L34 M_image_L34 M_isKept_L34 = some rr → G p l e R s m args below meth c 6 D A H0 0 0 Q [mC cI cZ aM (M_beds_L34, M_law_L34, M_worths_L34, M_sights_L34, M_sight_L34, M_signs_L34, M_pad_L34, M_lies_L34, M_empty_L34, M_list_L34, M_waits_L34, M_yard_L34, M_last_L34, M_used_L34, M_sheets_L34, M_nights_L34, M_fleasOfGuests_L34, M_fleasOfBeds_L34, M_reason_L34, M_row_L34, M_bestRow_L34, M_image_L34, M_isKept_L34)] 82 [(4, .int x4_L34), (3, .int x3_L34), (2, .int r_19), (0, .ref (aM 0)), (1, .int x1)] []) → ∀ (n : Nat) (x3_L34 : Int32) (x4_L34 : Int32) (M_beds_L34 : Int32) (M_law_L34 : Int32) (M_worths_L34 : (Nat → Int32)) (M_sights_L34 : Int32) (M_sight_L34 : (Nat → Int32)) (M_signs_L34 : Int32) (M_pad_L34 : (Nat → Int32)) (M_lies_L34 : (Nat → Int32)) (M_empty_L34 : Int32) (M_list_L34 : (Nat → Int32)) (M_waits_L34 : Int32) (M_yard_L34 : (Nat → Int32)) (M_last_L34 : (Nat → Int32)) (M_used_L34 : (Nat → Int32)) (M_sheets_L34 : (Nat → Int32)) (M_nights_L34 : (Nat → Int32)) (M_fleasOfGuests_L34 : Int32) (M_fleasOfBeds_L34 : Int32) (M_reason_L34 : Int32) (M_row_L34 : (Nat → Int32)) (M_bestRow_L34 : (Nat → Int32)) (M_image_L34 : (Nat → Int32)) (M_isKept_L34 : (Nat → Int32)), f_X6_brought_L34 x1 n x3_L34 x4_L34 M_beds_L34 M_law_L34 M_worths_L34 M_sights_L34 M_sight_L34 M_signs_L34 M_pad_L34 M_lies_L34 M_empty_L34 M_list_L34 M_waits_L34 M_yard_L34 M_last_L34 M_used_L34 M_sheets_L34 M_nights_L34 M_fleasOfGuests_L34 M_fleasOfBeds_L34 M_reason_L34 M_row_L34 M_bestRow_L34 M_image_L34 M_isKept_L34 kL = some rr → G p l e R s m args below meth c 6 D A H0 0 0 Q [mC cI cZ aM (M_beds_L34, M_law_L34, M_worths_L34, M_sights_L34, M_sight_L34, M_signs_L34, M_pad_L34, M_lies_L34, M_empty_L34, M_list_L34, M_waits_L34, M_yard_L34, M_last_L34, M_used_L34, M_sheets_L34, M_nights_L34, M_fleasOfGuests_L34, M_fleasOfBeds_L34, M_reason_L34, M_row_L34, M_bestRow_L34, M_image_L34, M_isKept_L34)] 34 [(4, .int x4_L34), (3, .int x3_L34), (2, .int r_19), (0, .ref (aM 0)), (1, .int x1)] [] := by
        intro kL hkL34 n
        induction n with
        | zero =>
          intro x3_L34 x4_L34 M_beds_L34 M_law_L34 M_worths_L34 M_sights_L34 M_sight_L34 M_signs_L34 M_pad_L34 M_lies_L34 M_empty_L34 M_list_L34 M_waits_L34 M_yard_L34 M_last_L34 M_used_L34 M_sheets_L34 M_nights_L34 M_fleasOfGuests_L34 M_fleasOfBeds_L34 M_reason_L34 M_row_L34 M_bestRow_L34 M_image_L34 M_isKept_L34 hf
          rw [f_X6_brought_L34] at hf
          cases hf
        | succ n ihL34 =>
          intro x3_L34 x4_L34 M_beds_L34 M_law_L34 M_worths_L34 M_sights_L34 M_sight_L34 M_signs_L34 M_pad_L34 M_lies_L34 M_empty_L34 M_list_L34 M_waits_L34 M_yard_L34 M_last_L34 M_used_L34 M_sheets_L34 M_nights_L34 M_fleasOfGuests_L34 M_fleasOfBeds_L34 M_reason_L34 M_row_L34 M_bestRow_L34 M_image_L34 M_isKept_L34 hf
          rw [f_X6_brought_L34] at hf
          refine gq_iload C 0 36 dX6_brought_34 rfl rfl ?_
          refine gq_bipush C (nI 8) 38 dX6_brought_36 (by decide) rfl ?_
          refine gq_icmp_ge C 82 41 dX6_brought_38 (by decide) rfl (fun h38 => ?_) (fun h38 => ?_)
          · replace hf := gq_ifp h38 hf
            exact hkL34 _ _ _ _ _ _ _ _ _ _ _ _ _ _ _ _ _ _ _ _ _ _ _ _ _ hf
          · replace hf := gq_ifn h38 hf
            refine gq_aload_n C 3 42 dX6_brought_41 rfl rfl ?_
            refine gq_iconst C (nI 1) 43 dX6_brought_42 (by decide) rfl ?_
            refine gq_iload C 0 45 dX6_brought_43 rfl rfl ?_
            refine gq_ishl C 46 dX6_brought_45 rfl ?_
            refine gq_iconst C (nI 0) 47 dX6_brought_46 (by decide) rfl ?_
            obtain ⟨⟨r_47, ⟨M_beds_47, M_law_47, M_worths_47, M_sights_47, M_sight_47, M_signs_47, M_pad_47, M_lies_47, M_empty_47, M_list_47, M_waits_47, M_yard_47, M_last_47, M_used_47, M_sheets_47, M_nights_47, M_fleasOfGuests_47, M_fleasOfBeds_47, M_reason_47, M_row_47, M_bestRow_47, M_image_47, M_isKept_47⟩⟩, hc, hf⟩ := gq_bd hf
            refine gq_callV C hA gm_X6_165 (c_X6_layFleas l D cI cZ aM ((nI 1) <<< (x4_L34 &&& 31)) (nI 0) (M_beds_L34, M_law_L34, M_worths_L34, M_sights_L34, M_sight_L34, M_signs_L34, M_pad_L34, M_lies_L34, M_empty_L34, M_list_L34, M_waits_L34, M_yard_L34, M_last_L34, M_used_L34, M_sheets_L34, M_nights_L34, M_fleasOfGuests_L34, M_fleasOfBeds_L34, M_reason_L34, M_row_L34, M_bestRow_L34, M_image_L34, M_isKept_L34) _ hc) rfl 0 0 rfl rfl rfl ⟨Nat.le_trans (Nat.le_of_ble_eq_true rfl) hR.1, Nat.le_trans (Nat.le_of_ble_eq_true rfl) hR.2.1⟩ ⟨Nat.zero_le _, Nat.zero_le _⟩ rfl (Nat.le_of_ble_eq_true rfl) dX6_brought_47 [0] [mC cI cZ aM (M_beds_47, M_law_47, M_worths_47, M_sights_47, M_sight_47, M_signs_47, M_pad_47, M_lies_47, M_empty_47, M_list_47, M_waits_47, M_yard_47, M_last_47, M_used_47, M_sheets_47, M_nights_47, M_fleasOfGuests_47, M_fleasOfBeds_47, M_reason_47, M_row_47, M_bestRow_47, M_image_47, M_isKept_47)] 50 rfl (by decide) rfl rfl rfl [.int r_47] rfl ?_
            refine gq_istore C [(5, .int r_47), (4, .int x4_L34), (3, .int x3_L34), (2, .int r_19), (0, .ref (aM 0)), (1, .int x1)] 52 dX6_brought_50 (by decide) rfl rfl ?_
            refine gq_iload_n C 2 53 dX6_brought_52 rfl rfl ?_
            refine gq_iload C 0 55 dX6_brought_53 rfl rfl ?_
            refine gq_if_ge C 73 58 dX6_brought_55 (by decide) rfl (fun h55 => ?_) (fun h55 => ?_)
            · replace hf := gq_ifp h55 hf
              refine gq_iconst C (nI 0) 74 dX6_brought_73 (by decide) rfl ?_
              refine gq_ior C 75 dX6_brought_74 rfl ?_
              refine gq_istore_n C [(3, .int (x3_L34 ||| (nI 0))), (5, .int r_47), (4, .int x4_L34), (2, .int r_19), (0, .ref (aM 0)), (1, .int x1)] 76 dX6_brought_75 (by decide) rfl rfl ?_
              refine gq_iinc C 2 [(4, .int (x4_L34 + (nI 1))), (3, .int (x3_L34 ||| (nI 0))), (5, .int r_47), (2, .int r_19), (0, .ref (aM 0)), (1, .int x1)] 79 dX6_brought_76 rfl rfl (by decide) rfl rfl ?_
              refine gq_goto C 34 dX6_brought_79 (by decide) ?_
              refine gq_lv [0, 1, 3, 4, 5] rfl ?_
              exact ihL34 _ _ _ _ _ _ _ _ _ _ _ _ _ _ _ _ _ _ _ _ _ _ _ _ _ hf
            · replace hf := gq_ifn h55 hf
              refine gq_aload_n C 4 59 dX6_brought_58 rfl rfl ?_
              refine gq_get C fo_X6_16 fw_X6_116 0 0 62 rfl rfl rfl dX6_brought_59 rfl ?_
              refine gq_iload_n C 5 63 dX6_brought_62 rfl rfl ?_
              refine gq_icmp_ne C 73 66 dX6_brought_63 (by decide) rfl (fun h63 => ?_) (fun h63 => ?_)
              · replace hf := gq_ifn h63 hf
                refine gq_iconst C (nI 0) 74 dX6_brought_73 (by decide) rfl ?_
                refine gq_ior C 75 dX6_brought_74 rfl ?_
                refine gq_istore_n C [(3, .int (x3_L34 ||| (nI 0))), (5, .int r_47), (4, .int x4_L34), (2, .int r_19), (0, .ref (aM 0)), (1, .int x1)] 76 dX6_brought_75 (by decide) rfl rfl ?_
                refine gq_iinc C 2 [(4, .int (x4_L34 + (nI 1))), (3, .int (x3_L34 ||| (nI 0))), (5, .int r_47), (2, .int r_19), (0, .ref (aM 0)), (1, .int x1)] 79 dX6_brought_76 rfl rfl (by decide) rfl rfl ?_
                refine gq_goto C 34 dX6_brought_79 (by decide) ?_
                refine gq_lv [0, 1, 3, 4, 5] rfl ?_
                exact ihL34 _ _ _ _ _ _ _ _ _ _ _ _ _ _ _ _ _ _ _ _ _ _ _ _ _ hf
              · replace hf := gq_ifp h63 hf
                refine gq_iconst C (nI 1) 67 dX6_brought_66 (by decide) rfl ?_
                refine gq_iload C 1 69 dX6_brought_67 rfl rfl ?_
                refine gq_ishl C 70 dX6_brought_69 rfl ?_
                refine gq_goto C 74 dX6_brought_70 (by decide) ?_
                refine gq_ior C 75 dX6_brought_74 rfl ?_
                refine gq_istore_n C [(3, .int (x3_L34 ||| ((nI 1) <<< (x4_L34 &&& 31)))), (5, .int r_47), (4, .int x4_L34), (2, .int r_19), (0, .ref (aM 0)), (1, .int x1)] 76 dX6_brought_75 (by decide) rfl rfl ?_
                refine gq_iinc C 2 [(4, .int (x4_L34 + (nI 1))), (3, .int (x3_L34 ||| ((nI 1) <<< (x4_L34 &&& 31)))), (5, .int r_47), (2, .int r_19), (0, .ref (aM 0)), (1, .int x1)] 79 dX6_brought_76 rfl rfl (by decide) rfl rfl ?_
                refine gq_goto C 34 dX6_brought_79 (by decide) ?_
                refine gq_lv [0, 1, 3, 4, 5] rfl ?_
                exact ihL34 _ _ _ _ _ _ _ _ _ _ _ _ _ _ _ _ _ _ _ _ _ _ _ _ _ hf
      refine L34 _ (fun x3_L34 x4_L34 M_beds_L34 M_law_L34 M_worths_L34 M_sights_L34 M_sight_L34 M_signs_L34 M_pad_L34 M_lies_L34 M_empty_L34 M_list_L34 M_waits_L34 M_yard_L34 M_last_L34 M_used_L34 M_sheets_L34 M_nights_L34 M_fleasOfGuests_L34 M_fleasOfBeds_L34 M_reason_L34 M_row_L34 M_bestRow_L34 M_image_L34 M_isKept_L34 hf => ?_) _ _ _ _ _ _ _ _ _ _ _ _ _ _ _ _ _ _ _ _ _ _ _ _ _ _ hf
      refine gq_iload_n C 1 83 dX6_brought_82 rfl rfl ?_
      obtain rfl := gq_lf hf
      exact hret dX6_brought_83 gPost.rf
    · replace hf := gq_ifn h24 hf
      refine gq_iload_n C 0 28 dX6_brought_27 rfl rfl ?_
      obtain rfl := gq_lf hf
      exact hret dX6_brought_28 gPost.rf
  · replace hf := gq_ifp h8 hf
    refine gq_bipush C (-2 : Int32) 13 dX6_brought_11 (by decide) rfl ?_
    obtain rfl := gq_lf hf
    exact hret dX6_brought_13 gPost.rf

def f_X6_seen : Int32 → Int32 → ModS → Option (Int32 × ModS)
  | x1, x2, (M_beds, M_law, M_worths, M_sights, M_sight, M_signs, M_pad, M_lies, M_empty, M_list, M_waits, M_yard, M_last, M_used, M_sheets, M_nights, M_fleasOfGuests, M_fleasOfBeds, M_reason, M_row, M_bestRow, M_image, M_isKept) => (Option.bind (f_X6_isGuest x1) (fun r_1 => (if r_1 = 0 then some ((-1 : Int32), (M_beds, M_law, M_worths, M_sights, M_sight, M_signs, M_pad, M_lies, M_empty, M_list, M_waits, M_yard, M_last, M_used, M_sheets, M_nights, M_fleasOfGuests, M_fleasOfBeds, M_reason, M_row, M_bestRow, M_image, M_isKept)) else (Option.bind (f_X6_isBed x2 (M_beds, M_law, M_worths, M_sights, M_sight, M_signs, M_pad, M_lies, M_empty, M_list, M_waits, M_yard, M_last, M_used, M_sheets, M_nights, M_fleasOfGuests, M_fleasOfBeds, M_reason, M_row, M_bestRow, M_image, M_isKept)) (fun r_9 => (if r_9 = 0 then some ((-1 : Int32), (M_beds, M_law, M_worths, M_sights, M_sight, M_signs, M_pad, M_lies, M_empty, M_list, M_waits, M_yard, M_last, M_used, M_sheets, M_nights, M_fleasOfGuests, M_fleasOfBeds, M_reason, M_row, M_bestRow, M_image, M_isKept)) else (if M_sights = (nI 6) then some ((-4 : Int32), (M_beds, M_law, M_worths, M_sights, M_sight, M_signs, M_pad, M_lies, M_empty, M_list, M_waits, M_yard, M_last, M_used, M_sheets, M_nights, M_fleasOfGuests, M_fleasOfBeds, M_reason, M_row, M_bestRow, M_image, M_isKept)) else (if ((nI 2) * M_sights) < 0 ∨ 12 ≤ ((nI 2) * M_sights).toNatClampNeg then none else (if (((nI 2) * M_sights) + (nI 1)) < 0 ∨ 12 ≤ (((nI 2) * M_sights) + (nI 1)).toNatClampNeg then none else some ((M_sights + (nI 1)), (M_beds, M_law, M_worths, (M_sights + (nI 1)), (upd (upd M_sight ((nI 2) * M_sights).toNatClampNeg x1) (((nI 2) * M_sights) + (nI 1)).toNatClampNeg x2), M_signs, M_pad, M_lies, M_empty, M_list, M_waits, M_yard, M_last, M_used, M_sheets, M_nights, M_fleasOfGuests, M_fleasOfBeds, M_reason, M_row, M_bestRow, M_image, M_isKept)))))))))))
set_option maxHeartbeats 4000000 in
set_option maxRecDepth 100000 in
theorem c_X6_seen (l : Launch) (D : va_G) (cI cZ : ClassId) (aM : Nat → Nat) (x1 : Int32) (x2 : Int32) (tM : ModS) (rr : Int32 × ModS) (hf : f_X6_seen x1 x2 tM = some rr) : CT l D cI cZ yX6_seen cX6_seen 3 (some .int) 2 43 0 0 [.ref (aM 0), .int x1, .int x2] ([mC cI cZ aM tM]) (gPost (some (.int rr.1)) ([mC cI cZ aM rr.2])) := by
  obtain ⟨M_beds, M_law, M_worths, M_sights, M_sight, M_signs, M_pad, M_lies, M_empty, M_list, M_waits, M_yard, M_last, M_used, M_sheets, M_nights, M_fleasOfGuests, M_fleasOfBeds, M_reason, M_row, M_bestRow, M_image, M_isKept⟩ := tM
  rw [f_X6_seen] at hf
  refine CT.mkI (by decide) (Nat.le_of_ble_eq_true rfl) fun {p} {e} {R} {s} {m} {args} {below} {meth} {c} {A} {H0} {Q} C hA hR hret => ?_
  show G p l e R s m args below meth c 3 D A H0 0 0 Q [mC cI cZ aM (M_beds, M_law, M_worths, M_sights, M_sight, M_signs, M_pad, M_lies, M_empty, M_list, M_waits, M_yard, M_last, M_used, M_sheets, M_nights, M_fleasOfGuests, M_fleasOfBeds, M_reason, M_row, M_bestRow, M_image, M_isKept)] 0 [(0, .ref (aM 0)), (1, .int x1), (2, .int x2)] []
  refine gq_iload_n C 1 1 dX6_seen_0 rfl rfl ?_
  obtain ⟨r_1, hc, hf⟩ := gq_bd hf
  refine gq_callS C hA gm_X6_67 (c_X6_isGuest l D cI cZ  x1 _ hc) rfl ⟨Nat.le_trans (Nat.le_of_ble_eq_true rfl) hR.1, Nat.le_trans (Nat.le_of_ble_eq_true rfl) hR.2.1⟩ ⟨Nat.zero_le _, Nat.zero_le _⟩ rfl (Nat.le_of_ble_eq_true rfl) dX6_seen_1 [] [mC cI cZ aM (M_beds, M_law, M_worths, M_sights, M_sight, M_signs, M_pad, M_lies, M_empty, M_list, M_waits, M_yard, M_last, M_used, M_sheets, M_nights, M_fleasOfGuests, M_fleasOfBeds, M_reason, M_row, M_bestRow, M_image, M_isKept)] 4 rfl (by decide) rfl rfl rfl [.int r_1] rfl ?_
  refine gq_if_eq C 15 7 dX6_seen_4 (by decide) rfl (fun h4 => ?_) (fun h4 => ?_)
  · replace hf := gq_ifp h4 hf
    refine gq_iconst C (-1 : Int32) 16 dX6_seen_15 (by decide) rfl ?_
    obtain rfl := gq_lf hf
    exact hret dX6_seen_16 gPost.rf
  · replace hf := gq_ifn h4 hf
    refine gq_aload_n C 0 8 dX6_seen_7 rfl rfl ?_
    refine gq_iload_n C 2 9 dX6_seen_8 rfl rfl ?_
    obtain ⟨r_9, hc, hf⟩ := gq_bd hf
    refine gq_callV C hA gm_X6_71 (c_X6_isBed l D cI cZ aM x2 (M_beds, M_law, M_worths, M_sights, M_sight, M_signs, M_pad, M_lies, M_empty, M_list, M_waits, M_yard, M_last, M_used, M_sheets, M_nights, M_fleasOfGuests, M_fleasOfBeds, M_reason, M_row, M_bestRow, M_image, M_isKept) _ hc) rfl 0 0 rfl rfl rfl ⟨Nat.le_trans (Nat.le_of_ble_eq_true rfl) hR.1, Nat.le_trans (Nat.le_of_ble_eq_true rfl) hR.2.1⟩ ⟨Nat.zero_le _, Nat.zero_le _⟩ rfl (Nat.le_of_ble_eq_true rfl) dX6_seen_9 [0] [mC cI cZ aM (M_beds, M_law, M_worths, M_sights, M_sight, M_signs, M_pad, M_lies, M_empty, M_list, M_waits, M_yard, M_last, M_used, M_sheets, M_nights, M_fleasOfGuests, M_fleasOfBeds, M_reason, M_row, M_bestRow, M_image, M_isKept)] 12 rfl (by decide) rfl rfl rfl [.int r_9] rfl ?_
    refine gq_if_ne C 17 15 dX6_seen_12 (by decide) rfl (fun h12 => ?_) (fun h12 => ?_)
    · replace hf := gq_ifn h12 hf
      refine gq_aload_n C 0 18 dX6_seen_17 rfl rfl ?_
      refine gq_get C fo_X6_3 fw_X6_64 0 0 21 rfl rfl rfl dX6_seen_18 rfl ?_
      refine gq_bipush C (nI 6) 23 dX6_seen_21 (by decide) rfl ?_
      refine gq_icmp_ne C 29 26 dX6_seen_23 (by decide) rfl (fun h23 => ?_) (fun h23 => ?_)
      · replace hf := gq_ifn h23 hf
        refine gq_aload_n C 0 30 dX6_seen_29 rfl rfl ?_
        refine gq_get C fo_X6_4 fw_X6_17 0 0 33 rfl rfl rfl dX6_seen_30 rfl ?_
        refine gq_iconst C (nI 2) 34 dX6_seen_33 (by decide) rfl ?_
        refine gq_aload_n C 0 35 dX6_seen_34 rfl rfl ?_
        refine gq_get C fo_X6_3 fw_X6_64 0 0 38 rfl rfl rfl dX6_seen_35 rfl ?_
        refine gq_imul C 39 dX6_seen_38 rfl ?_
        refine gq_iload_n C 1 40 dX6_seen_39 rfl rfl ?_
        obtain ⟨h40, hf⟩ := gq_ok hf
        refine gq_iast C 0 2 41 [mC cI cZ aM (M_beds, M_law, M_worths, M_sights, (upd M_sight ((nI 2) * M_sights).toNatClampNeg x1), M_signs, M_pad, M_lies, M_empty, M_list, M_waits, M_yard, M_last, M_used, M_sheets, M_nights, M_fleasOfGuests, M_fleasOfBeds, M_reason, M_row, M_bestRow, M_image, M_isKept)] rfl rfl h40 rfl dX6_seen_40 rfl ?_
        refine gq_aload_n C 0 42 dX6_seen_41 rfl rfl ?_
        refine gq_get C fo_X6_4 fw_X6_17 0 0 45 rfl rfl rfl dX6_seen_42 rfl ?_
        refine gq_iconst C (nI 2) 46 dX6_seen_45 (by decide) rfl ?_
        refine gq_aload_n C 0 47 dX6_seen_46 rfl rfl ?_
        refine gq_get C fo_X6_3 fw_X6_64 0 0 50 rfl rfl rfl dX6_seen_47 rfl ?_
        refine gq_imul C 51 dX6_seen_50 rfl ?_
        refine gq_iconst C (nI 1) 52 dX6_seen_51 (by decide) rfl ?_
        refine gq_iadd C 53 dX6_seen_52 rfl ?_
        refine gq_iload_n C 2 54 dX6_seen_53 rfl rfl ?_
        obtain ⟨h54, hf⟩ := gq_ok hf
        refine gq_iast C 0 2 55 [mC cI cZ aM (M_beds, M_law, M_worths, M_sights, (upd (upd M_sight ((nI 2) * M_sights).toNatClampNeg x1) (((nI 2) * M_sights) + (nI 1)).toNatClampNeg x2), M_signs, M_pad, M_lies, M_empty, M_list, M_waits, M_yard, M_last, M_used, M_sheets, M_nights, M_fleasOfGuests, M_fleasOfBeds, M_reason, M_row, M_bestRow, M_image, M_isKept)] rfl rfl h54 rfl dX6_seen_54 rfl ?_
        refine gq_aload_n C 0 56 dX6_seen_55 rfl rfl ?_
        refine gq_dup C 57 dX6_seen_56 rfl rfl ?_
        refine gq_get C fo_X6_3 fw_X6_64 0 0 60 rfl rfl rfl dX6_seen_57 rfl ?_
        refine gq_iconst C (nI 1) 61 dX6_seen_60 (by decide) rfl ?_
        refine gq_iadd C 62 dX6_seen_61 rfl ?_
        refine gq_put C fo_X6_3 fp_X6_3 rfl fw_X6_64 0 0 65 [mC cI cZ aM (M_beds, M_law, M_worths, (M_sights + (nI 1)), (upd (upd M_sight ((nI 2) * M_sights).toNatClampNeg x1) (((nI 2) * M_sights) + (nI 1)).toNatClampNeg x2), M_signs, M_pad, M_lies, M_empty, M_list, M_waits, M_yard, M_last, M_used, M_sheets, M_nights, M_fleasOfGuests, M_fleasOfBeds, M_reason, M_row, M_bestRow, M_image, M_isKept)] rfl rfl rfl rfl (Nat.le_of_ble_eq_true rfl) rfl dX6_seen_62 rfl ?_
        refine gq_aload_n C 0 66 dX6_seen_65 rfl rfl ?_
        refine gq_get C fo_X6_3 fw_X6_64 0 0 69 rfl rfl rfl dX6_seen_66 rfl ?_
        obtain rfl := gq_lf hf
        exact hret dX6_seen_69 gPost.rf
      · replace hf := gq_ifp h23 hf
        refine gq_bipush C (-4 : Int32) 28 dX6_seen_26 (by decide) rfl ?_
        obtain rfl := gq_lf hf
        exact hret dX6_seen_28 gPost.rf
    · replace hf := gq_ifp h12 hf
      refine gq_iconst C (-1 : Int32) 16 dX6_seen_15 (by decide) rfl ?_
      obtain rfl := gq_lf hf
      exact hret dX6_seen_16 gPost.rf

def f_X6_forget : ModS → Option (Int32 × ModS)
  | (M_beds, M_law, M_worths, M_sights, M_sight, M_signs, M_pad, M_lies, M_empty, M_list, M_waits, M_yard, M_last, M_used, M_sheets, M_nights, M_fleasOfGuests, M_fleasOfBeds, M_reason, M_row, M_bestRow, M_image, M_isKept) => some (M_sights, (M_beds, M_law, M_worths, (nI 0), M_sight, M_signs, M_pad, M_lies, M_empty, M_list, M_waits, M_yard, M_last, M_used, M_sheets, M_nights, M_fleasOfGuests, M_fleasOfBeds, M_reason, M_row, M_bestRow, M_image, M_isKept))
set_option maxHeartbeats 4000000 in
set_option maxRecDepth 100000 in
theorem c_X6_forget (l : Launch) (D : va_G) (cI cZ : ClassId) (aM : Nat → Nat) (tM : ModS) (rr : Int32 × ModS) (hf : f_X6_forget tM = some rr) : CT l D cI cZ yX6_forget cX6_forget 2 (some .int) 0 0 0 0 [.ref (aM 0)] ([mC cI cZ aM tM]) (gPost (some (.int rr.1)) ([mC cI cZ aM rr.2])) := by
  obtain ⟨M_beds, M_law, M_worths, M_sights, M_sight, M_signs, M_pad, M_lies, M_empty, M_list, M_waits, M_yard, M_last, M_used, M_sheets, M_nights, M_fleasOfGuests, M_fleasOfBeds, M_reason, M_row, M_bestRow, M_image, M_isKept⟩ := tM
  rw [f_X6_forget] at hf
  refine CT.mkI (by decide) (Nat.le_of_ble_eq_true rfl) fun {p} {e} {R} {s} {m} {args} {below} {meth} {c} {A} {H0} {Q} C hA hR hret => ?_
  show G p l e R s m args below meth c 2 D A H0 0 0 Q [mC cI cZ aM (M_beds, M_law, M_worths, M_sights, M_sight, M_signs, M_pad, M_lies, M_empty, M_list, M_waits, M_yard, M_last, M_used, M_sheets, M_nights, M_fleasOfGuests, M_fleasOfBeds, M_reason, M_row, M_bestRow, M_image, M_isKept)] 0 [(0, .ref (aM 0))] []
  refine gq_aload_n C 0 1 dX6_forget_0 rfl rfl ?_
  refine gq_get C fo_X6_3 fw_X6_64 0 0 4 rfl rfl rfl dX6_forget_1 rfl ?_
  refine gq_istore_n C [(1, .int M_sights), (0, .ref (aM 0))] 5 dX6_forget_4 (by decide) rfl rfl ?_
  refine gq_aload_n C 1 6 dX6_forget_5 rfl rfl ?_
  refine gq_iconst C (nI 0) 7 dX6_forget_6 (by decide) rfl ?_
  refine gq_put C fo_X6_3 fp_X6_3 rfl fw_X6_64 0 0 10 [mC cI cZ aM (M_beds, M_law, M_worths, (nI 0), M_sight, M_signs, M_pad, M_lies, M_empty, M_list, M_waits, M_yard, M_last, M_used, M_sheets, M_nights, M_fleasOfGuests, M_fleasOfBeds, M_reason, M_row, M_bestRow, M_image, M_isKept)] rfl rfl rfl rfl (Nat.le_of_ble_eq_true rfl) rfl dX6_forget_7 rfl ?_
  refine gq_iload_n C 0 11 dX6_forget_10 rfl rfl ?_
  obtain rfl := gq_lf hf
  exact hret dX6_forget_11 gPost.rf
