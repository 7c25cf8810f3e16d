def f_X6_isFit_L23 (c_M_sights : Int32) (c_M_sight : (Nat → Int32)) (c_M_lies : (Nat → Int32)) : Nat → Int32 → Int32 → (Int32 → Int32 → Option (Int32 × ModS)) → Option (Int32 × ModS)
  | 0, _, _, _ => none
  | nL23 + 1, x2_L23, x3_L23, kL23 => (if c_M_sights ≤ x3_L23 then kL23 x2_L23 x3_L23 else (if x2_L23 = 0 then kL23 x2_L23 x3_L23 else (if (((nI 2) * x3_L23) + (nI 1)) < 0 ∨ 12 ≤ (((nI 2) * x3_L23) + (nI 1)).toNatClampNeg then none else (if (c_M_sight (((nI 2) * x3_L23) + (nI 1)).toNatClampNeg) < 0 ∨ 8 ≤ (c_M_sight (((nI 2) * x3_L23) + (nI 1)).toNatClampNeg).toNatClampNeg then none else (if ((nI 2) * x3_L23) < 0 ∨ 12 ≤ ((nI 2) * x3_L23).toNatClampNeg then none else (if (c_M_lies (c_M_sight (((nI 2) * x3_L23) + (nI 1)).toNatClampNeg).toNatClampNeg) = (c_M_sight ((nI 2) * x3_L23).toNatClampNeg) then f_X6_isFit_L23 c_M_sights c_M_sight c_M_lies nL23 (nI 1) (x3_L23 + (nI 1)) kL23 else f_X6_isFit_L23 c_M_sights c_M_sight c_M_lies nL23 (nI 0) (x3_L23 + (nI 1)) kL23))))))
def f_X6_isFit : Int32 → ModS → Option (Int32 × ModS)
  | x1, (M_beds, M_law, M_worths, M_sights, M_sight, M_signs, M_pad, M_lies, M_empty, M_list, M_waits, M_yard, M_last, M_used, M_sheets, M_nights, M_fleasOfGuests, M_fleasOfBeds, M_reason, M_row, M_bestRow, M_image, M_isKept) => (Option.bind (f_X6_go M_signs x1 (-6 : Int32) (nI 0) (M_beds, M_law, M_worths, M_sights, M_sight, M_signs, M_pad, M_lies, M_empty, M_list, M_waits, M_yard, M_last, M_used, M_sheets, M_nights, M_fleasOfGuests, M_fleasOfBeds, M_reason, M_row, M_bestRow, M_image, M_isKept)) (fun (r_9, (M_beds_9, M_law_9, M_worths_9, M_sights_9, M_sight_9, M_signs_9, M_pad_9, M_lies_9, M_empty_9, M_list_9, M_waits_9, M_yard_9, M_last_9, M_used_9, M_sheets_9, M_nights_9, M_fleasOfGuests_9, M_fleasOfBeds_9, M_reason_9, M_row_9, M_bestRow_9, M_image_9, M_isKept_9)) => gJn (fun (z0_J20 : Int32) => f_X6_isFit_L23 M_sights_9 M_sight_9 M_lies_9 FU z0_J20 (nI 0) (fun x2_L23 x3_L23 => (if x2_L23 = 0 ∨ x2_L23 = 1 then some (x2_L23, (M_beds_9, M_law_9, M_worths_9, M_sights_9, M_sight_9, M_signs_9, M_pad_9, M_lies_9, M_empty_9, M_list_9, M_waits_9, M_yard_9, M_last_9, M_used_9, M_sheets_9, M_nights_9, M_fleasOfGuests_9, M_fleasOfBeds_9, M_reason_9, M_row_9, M_bestRow_9, M_image_9, M_isKept_9)) else none))) (fun kJ20 => (if 0 ≤ r_9 then kJ20 (nI 0) else kJ20 (nI 1)))))
set_option maxHeartbeats 4000000 in
set_option maxRecDepth 100000 in
theorem c_X6_isFit (l : Launch) (D : va_G) (cI cZ : ClassId) (aM : Nat → Nat) (x1 : Int32) (tM : ModS) (rr : Int32 × ModS) (hf : f_X6_isFit x1 tM = some rr) : CT l D cI cZ yX6_isFit cX6_isFit 4 (some .boolean) 5 118 0 0 [.ref (aM 0), .int x1] ([mC cI cZ aM tM]) (gPost (some (.int rr.1)) ([mC cI cZ aM rr.2])) := by
  obtain ⟨M_beds, M_law, M_worths, M_sights, M_sight, M_signs, M_pad, M_lies, M_empty, M_list, M_waits, M_yard, M_last, M_used, M_sheets, M_nights, M_fleasOfGuests, M_fleasOfBeds, M_reason, M_row, M_bestRow, M_image, M_isKept⟩ := tM
  rw [f_X6_isFit] at hf
  refine CT.mkZ (by decide) (Nat.le_of_ble_eq_true rfl) fun {p} {e} {R} {s} {m} {args} {below} {meth} {c} {A} {H0} {Q} C hA hR hret => ?_
  show G p l e R s m args below meth c 4 D A H0 0 0 Q [mC cI cZ aM (M_beds, M_law, M_worths, M_sights, M_sight, M_signs, M_pad, M_lies, M_empty, M_list, M_waits, M_yard, M_last, M_used, M_sheets, M_nights, M_fleasOfGuests, M_fleasOfBeds, M_reason, M_row, M_bestRow, M_image, M_isKept)] 0 [(0, .ref (aM 0)), (1, .int x1)] []
  refine gq_aload_n C 0 1 dX6_isFit_0 rfl rfl ?_
  refine gq_aload_n C 0 2 dX6_isFit_1 rfl rfl ?_
  refine gq_get C fo_X6_5 fw_X6_74 0 0 5 rfl rfl rfl dX6_isFit_2 rfl ?_
  refine gq_iload_n C 1 6 dX6_isFit_5 rfl rfl ?_
  refine gq_bipush C (-6 : Int32) 8 dX6_isFit_6 (by decide) rfl ?_
  refine gq_iconst C (nI 0) 9 dX6_isFit_8 (by decide) rfl ?_
  obtain ⟨⟨r_9, ⟨M_beds_9, M_law_9, M_worths_9, M_sights_9, M_sight_9, M_signs_9, M_pad_9, M_lies_9, M_empty_9, M_list_9, M_waits_9, M_yard_9, M_last_9, M_used_9, M_sheets_9, M_nights_9, M_fleasOfGuests_9, M_fleasOfBeds_9, M_reason_9, M_row_9, M_bestRow_9, M_image_9, M_isKept_9⟩⟩, hc, hf⟩ := gq_bd hf
  refine gq_callV C hA gm_X6_146 (c_X6_go l D cI cZ aM M_signs x1 (-6 : Int32) (nI 0) (M_beds, M_law, M_worths, M_sights, M_sight, M_signs, M_pad, M_lies, M_empty, M_list, M_waits, M_yard, M_last, M_used, M_sheets, M_nights, M_fleasOfGuests, M_fleasOfBeds, M_reason, M_row, M_bestRow, M_image, M_isKept) _ hc) rfl 0 0 rfl rfl rfl ⟨Nat.le_trans (Nat.le_of_ble_eq_true rfl) hR.1, Nat.le_trans (Nat.le_of_ble_eq_true rfl) hR.2.1⟩ ⟨Nat.zero_le _, Nat.zero_le _⟩ rfl (Nat.le_of_ble_eq_true rfl) dX6_isFit_9 [0] [mC cI cZ aM (M_beds_9, M_law_9, M_worths_9, M_sights_9, M_sight_9, M_signs_9, M_pad_9, M_lies_9, M_empty_9, M_list_9, M_waits_9, M_yard_9, M_last_9, M_used_9, M_sheets_9, M_nights_9, M_fleasOfGuests_9, M_fleasOfBeds_9, M_reason_9, M_row_9, M_bestRow_9, M_image_9, M_isKept_9)] 12 rfl (by decide) rfl rfl rfl [.int r_9] rfl ?_
  refine gq_jn (P := fun k => ∀ (z0_J20 : Int32), k z0_J20 = some rr → G p l e R s m args below meth c 4 D A H0 0 0 Q [mC cI cZ aM (M_beds_9, M_law_9, M_worths_9, M_sights_9, M_sight_9, M_signs_9, M_pad_9, M_lies_9, M_empty_9, M_list_9, M_waits_9, M_yard_9, M_last_9, M_used_9, M_sheets_9, M_nights_9, M_fleasOfGuests_9, M_fleasOfBeds_9, M_reason_9, M_row_9, M_bestRow_9, M_image_9, M_isKept_9)] 20 [(0, .ref (aM 0)), (1, .int x1)] [.int z0_J20]) hf (fun z0_J20 hf => ?_) (fun kJ20 hJ20 hf => ?_)
  · refine gq_istore_n C [(2, .int z0_J20), (0, .ref (aM 0)), (1, .int x1)] 21 dX6_isFit_20 (by decide) rfl rfl ?_
    refine gq_iconst C (nI 0) 22 dX6_isFit_21 (by decide) rfl ?_
    refine gq_istore_n C [(3, .int (nI 0)), (2, .int z0_J20), (0, .ref (aM 0)), (1, .int x1)] 23 dX6_isFit_22 (by decide) rfl rfl ?_
    have L23 : ∀ (kL : Int32 → Int32 → Option (Int32 × ModS)), (∀ (x2_L23 : Int32) (x3_L23 : Int32), kL x2_L23 x3_L23 = some rr → G p l e R s m args below meth c 4 D A H0 0 0 Q [mC cI cZ aM (M_beds_9, M_law_9, M_worths_9, M_sights_9, M_sight_9, M_signs_9, M_pad_9, M_lies_9, M_empty_9, M_list_9, M_waits_9, M_yard_9, M_last_9, M_used_9, M_sheets_9, M_nights_9, M_fleasOfGuests_9, M_fleasOfBeds_9, M_reason_9, M_row_9, M_bestRow_9, M_image_9, M_isKept_9)] 73 [(3, .int x3_L23), (2, .int x2_L23), (0, .ref (aM 0)), (1, .int x1)] []) → ∀ (n : Nat) (x2_L23 : Int32) (x3_L23 : Int32), f_X6_isFit_L23 M_sights_9 M_sight_9 M_lies_9 n x2_L23 x3_L23 kL = some rr → G p l e R s m args below meth c 4 D A H0 0 0 Q [mC cI cZ aM (M_beds_9, M_law_9, M_worths_9, M_sights_9, M_sight_9, M_signs_9, M_pad_9, M_lies_9, M_empty_9, M_list_9, M_waits_9, M_yard_9, M_last_9, M_used_9, M_sheets_9, M_nights_9, M_fleasOfGuests_9, M_fleasOfBeds_9, M_reason_9, M_row_9, M_bestRow_9, M_image_9, M_isKept_9)] 23 [(3, .int x3_L23), (2, .int x2_L23), (0, .ref (aM 0)), (1, .int x1)] [] := by
      intro kL hkL23 n
      induction n with
      | zero =>
        intro x2_L23 x3_L23 hf
        rw [f_X6_isFit_L23] at hf
        cases hf
      | succ n ihL23 =>
        intro x2_L23 x3_L23 hf
        rw [f_X6_isFit_L23] at hf
        refine gq_iload_n C 0 24 dX6_isFit_23 rfl rfl ?_
        refine gq_aload_n C 2 25 dX6_isFit_24 rfl rfl ?_
        refine gq_get C fo_X6_3 fw_X6_64 0 0 28 rfl rfl rfl dX6_isFit_25 rfl ?_
        refine gq_icmp_ge C 73 31 dX6_isFit_28 (by decide) rfl (fun h28 => ?_) (fun h28 => ?_)
        · replace hf := gq_ifp h28 hf
          exact hkL23 _ _ hf
        · replace hf := gq_ifn h28 hf
          refine gq_iload_n C 1 32 dX6_isFit_31 rfl rfl ?_
          refine gq_if_eq C 73 35 dX6_isFit_32 (by decide) rfl (fun h32 => ?_) (fun h32 => ?_)
          · replace hf := gq_ifp h32 hf
            exact hkL23 _ _ hf
          · replace hf := gq_ifn h32 hf
            refine gq_aload_n C 2 36 dX6_isFit_35 rfl rfl ?_
            refine gq_get C fo_X6_7 fw_X6_23 0 0 39 rfl rfl rfl dX6_isFit_36 rfl ?_
            refine gq_aload_n C 2 40 dX6_isFit_39 rfl rfl ?_
            refine gq_get C fo_X6_4 fw_X6_17 0 0 43 rfl rfl rfl dX6_isFit_40 rfl ?_
            refine gq_iconst C (nI 2) 44 dX6_isFit_43 (by decide) rfl ?_
            refine gq_iload_n C 0 45 dX6_isFit_44 rfl rfl ?_
            refine gq_imul C 46 dX6_isFit_45 rfl ?_
            refine gq_iconst C (nI 1) 47 dX6_isFit_46 (by decide) rfl ?_
            refine gq_iadd C 48 dX6_isFit_47 rfl ?_
            obtain ⟨h48, hf⟩ := gq_ok hf
            refine gq_iald C 0 2 49 rfl rfl h48 dX6_isFit_48 rfl ?_
            obtain ⟨h49, hf⟩ := gq_ok hf
            refine gq_iald C 0 4 50 rfl rfl h49 dX6_isFit_49 rfl ?_
            refine gq_aload_n C 2 51 dX6_isFit_50 rfl rfl ?_
            refine gq_get C fo_X6_4 fw_X6_17 0 0 54 rfl rfl rfl dX6_isFit_51 rfl ?_
            refine gq_iconst C (nI 2) 55 dX6_isFit_54 (by decide) rfl ?_
            refine gq_iload_n C 0 56 dX6_isFit_55 rfl rfl ?_
            refine gq_imul C 57 dX6_isFit_56 rfl ?_
            obtain ⟨h57, hf⟩ := gq_ok hf
            refine gq_iald C 0 2 58 rfl rfl h57 dX6_isFit_57 rfl ?_
            refine gq_icmp_ne C 65 61 dX6_isFit_58 (by decide) rfl (fun h58 => ?_) (fun h58 => ?_)
            · replace hf := gq_ifn h58 hf
              refine gq_iconst C (nI 0) 66 dX6_isFit_65 (by decide) rfl ?_
              refine gq_istore_n C [(2, .int (nI 0)), (3, .int x3_L23), (0, .ref (aM 0)), (1, .int x1)] 67 dX6_isFit_66 (by decide) rfl rfl ?_
              refine gq_iinc C 1 [(3, .int (x3_L23 + (nI 1))), (2, .int (nI 0)), (0, .ref (aM 0)), (1, .int x1)] 70 dX6_isFit_67 rfl rfl (by decide) rfl rfl ?_
              refine gq_goto C 23 dX6_isFit_70 (by decide) ?_
              exact ihL23 _ _ hf
            · replace hf := gq_ifp h58 hf
              refine gq_iconst C (nI 1) 62 dX6_isFit_61 (by decide) rfl ?_
              refine gq_goto C 66 dX6_isFit_62 (by decide) ?_
              refine gq_istore_n C [(2, .int (nI 1)), (3, .int x3_L23), (0, .ref (aM 0)), (1, .int x1)] 67 dX6_isFit_66 (by decide) rfl rfl ?_
              refine gq_iinc C 1 [(3, .int (x3_L23 + (nI 1))), (2, .int (nI 1)), (0, .ref (aM 0)), (1, .int x1)] 70 dX6_isFit_67 rfl rfl (by decide) rfl rfl ?_
              refine gq_goto C 23 dX6_isFit_70 (by decide) ?_
              exact ihL23 _ _ hf
    refine L23 _ (fun x2_L23 x3_L23 hf => ?_) _ _ _ hf
    refine gq_iload_n C 1 74 dX6_isFit_73 rfl rfl ?_
    obtain ⟨hb, hf⟩ := gq_gd hf
    obtain rfl := gq_lf hf
    exact hret dX6_isFit_74 (gq_bool hb) gPost.rf
  · refine gq_if_ge C 19 15 dX6_isFit_12 (by decide) rfl (fun h12 => ?_) (fun h12 => ?_)
    · replace hf := gq_ifp h12 hf
      refine gq_iconst C (nI 0) 20 dX6_isFit_19 (by decide) rfl ?_
      exact hJ20 _ hf
    · replace hf := gq_ifn h12 hf
      refine gq_iconst C (nI 1) 16 dX6_isFit_15 (by decide) rfl ?_
      refine gq_goto C 20 dX6_isFit_16 (by decide) ?_
      exact hJ20 _ hf

def f_X6_codes_L4 (c_M_beds : Int32) (c_M_law : Int32) (c_M_worths : (Nat → Int32)) (c_M_sights : Int32) (c_M_sight : (Nat → Int32)) (c_M_signs : Int32) (c_M_pad : (Nat → Int32)) (c_M_lies : (Nat → Int32)) (c_M_empty : Int32) (c_M_list : (Nat → Int32)) (c_M_waits : Int32) (c_M_yard : (Nat → Int32)) (c_M_last : (Nat → Int32)) (c_M_used : (Nat → Int32)) (c_M_sheets : (Nat → Int32)) (c_M_nights : (Nat → Int32)) (c_M_fleasOfGuests : Int32) (c_M_fleasOfBeds : Int32) (c_M_reason : Int32) (c_M_row : (Nat → Int32)) (c_M_bestRow : (Nat → Int32)) (c_M_image : (Nat → Int32)) (c_M_isKept : (Nat → Int32)) : Nat → Int32 → Int32 → (Int32 → Int32 → Option (Int32)) → Option (Int32)
  | 0, _, _, _ => none
  | nL4 + 1, x1_L4, x2_L4, kL4 => (Option.bind (f_X6_opens c_M_signs (c_M_beds, c_M_law, c_M_worths, c_M_sights, c_M_sight, c_M_signs, c_M_pad, c_M_lies, c_M_empty, c_M_list, c_M_waits, c_M_yard, c_M_last, c_M_used, c_M_sheets, c_M_nights, c_M_fleasOfGuests, c_M_fleasOfBeds, c_M_reason, c_M_row, c_M_bestRow, c_M_image, c_M_isKept)) (fun r_10 => (if r_10 ≤ x2_L4 then kL4 x1_L4 x2_L4 else f_X6_codes_L4 c_M_beds c_M_law c_M_worths c_M_sights c_M_sight c_M_signs c_M_pad c_M_lies c_M_empty c_M_list c_M_waits c_M_yard c_M_last c_M_used c_M_sheets c_M_nights c_M_fleasOfGuests c_M_fleasOfBeds c_M_reason c_M_row c_M_bestRow c_M_image c_M_isKept nL4 (x1_L4 * (nI 8)) (x2_L4 + (nI 1)) kL4)))
def f_X6_codes : ModS → Option (Int32)
  | (M_beds, M_law, M_worths, M_sights, M_sight, M_signs, M_pad, M_lies, M_empty, M_list, M_waits, M_yard, M_last, M_used, M_sheets, M_nights, M_fleasOfGuests, M_fleasOfBeds, M_reason, M_row, M_bestRow, M_image, M_isKept) => f_X6_codes_L4 M_beds M_law M_worths M_sights M_sight M_signs M_pad M_lies M_empty M_list M_waits M_yard M_last M_used M_sheets M_nights M_fleasOfGuests M_fleasOfBeds M_reason M_row M_bestRow M_image M_isKept FU (nI 1) (nI 0) (fun x1_L4 x2_L4 => some x1_L4)
set_option maxHeartbeats 4000000 in
set_option maxRecDepth 100000 in
theorem c_X6_codes (l : Launch) (D : va_G) (cI cZ : ClassId) (aM : Nat → Nat) (tM : ModS) (rr : Int32) (hf : f_X6_codes tM = some rr) : CT l D cI cZ yX6_codes cX6_codes 3 (some .int) 1 23 0 0 [.ref (aM 0)] ([mC cI cZ aM tM]) (gPost (some (.int rr)) ([mC cI cZ aM tM])) := by
  obtain ⟨M_beds, M_law, M_worths, M_sights, M_sight, M_signs, M_pad, M_lies, M_empty, M_list, M_waits, M_yard, M_last, M_used, M_sheets, M_nights, M_fleasOfGuests, M_fleasOfBeds, M_reason, M_row, M_bestRow, M_image, M_isKept⟩ := tM
  rw [f_X6_codes] at hf
  refine CT.mkI (by decide) (Nat.le_of_ble_eq_true rfl) fun {p} {e} {R} {s} {m} {args} {below} {meth} {c} {A} {H0} {Q} C hA hR hret => ?_
  show G p l e R s m args below meth c 3 D A H0 0 0 Q [mC cI cZ aM (M_beds, M_law, M_worths, M_sights, M_sight, M_signs, M_pad, M_lies, M_empty, M_list, M_waits, M_yard, M_last, M_used, M_sheets, M_nights, M_fleasOfGuests, M_fleasOfBeds, M_reason, M_row, M_bestRow, M_image, M_isKept)] 0 [(0, .ref (aM 0))] []
  refine gq_iconst C (nI 1) 1 dX6_codes_0 (by decide) rfl ?_
  refine gq_istore_n C [(1, .int (nI 1)), (0, .ref (aM 0))] 2 dX6_codes_1 (by decide) rfl rfl ?_
  refine gq_iconst C (nI 0) 3 dX6_codes_2 (by decide) rfl ?_
  refine gq_istore_n C [(2, .int (nI 0)), (1, .int (nI 1)), (0, .ref (aM 0))] 4 dX6_codes_3 (by decide) rfl rfl ?_
  have L4 : ∀ (kL : Int32 → Int32 → Option (Int32)), (∀ (x1_L4 : Int32) (x2_L4 : Int32), kL x1_L4 x2_L4 = some rr → G p l e R s m args below meth c 3 D A H0 0 0 Q [mC cI cZ aM (M_beds, M_law, M_worths, M_sights, M_sight, M_signs, M_pad, M_lies, M_empty, M_list, M_waits, M_yard, M_last, M_used, M_sheets, M_nights, M_fleasOfGuests, M_fleasOfBeds, M_reason, M_row, M_bestRow, M_image, M_isKept)] 27 [(2, .int x2_L4), (1, .int x1_L4), (0, .ref (aM 0))] []) → ∀ (n : Nat) (x1_L4 : Int32) (x2_L4 : Int32), f_X6_codes_L4 M_beds M_law M_worths M_sights M_sight M_signs M_pad M_lies M_empty M_list M_waits M_yard M_last M_used M_sheets M_nights M_fleasOfGuests M_fleasOfBeds M_reason M_row M_bestRow M_image M_isKept n x1_L4 x2_L4 kL = some rr → G p l e R s m args below meth c 3 D A H0 0 0 Q [mC cI cZ aM (M_beds, M_law, M_worths, M_sights, M_sight, M_signs, M_pad, M_lies, M_empty, M_list, M_waits, M_yard, M_last, M_used, M_sheets, M_nights, M_fleasOfGuests, M_fleasOfBeds, M_reason, M_row, M_bestRow, M_image, M_isKept)] 4 [(2, .int x2_L4), (1, .int x1_L4), (0, .ref (aM 0))] [] := by
    intro kL hkL4 n
    induction n with
    | zero =>
      intro x1_L4 x2_L4 hf
      rw [f_X6_codes_L4] at hf
      cases hf
    | succ n ihL4 =>
      intro x1_L4 x2_L4 hf
      rw [f_X6_codes_L4] at hf
      refine gq_iload_n C 0 5 dX6_codes_4 rfl rfl ?_
      refine gq_aload_n C 2 6 dX6_codes_5 rfl rfl ?_
      refine gq_aload_n C 2 7 dX6_codes_6 rfl rfl ?_
      refine gq_get C fo_X6_5 fw_X6_74 0 0 10 rfl rfl rfl dX6_codes_7 rfl ?_
      obtain ⟨r_10, hc, hf⟩ := gq_bd hf
      refine gq_callV C hA gm_X6_137 (c_X6_opens l D cI cZ aM M_signs (M_beds, M_law, M_worths, M_sights, M_sight, M_signs, M_pad, M_lies, M_empty, M_list, M_waits, M_yard, M_last, M_used, M_sheets, M_nights, M_fleasOfGuests, M_fleasOfBeds, M_reason, M_row, M_bestRow, M_image, M_isKept) _ hc) rfl 0 0 rfl rfl rfl ⟨Nat.le_trans (Nat.le_of_ble_eq_true rfl) hR.1, Nat.le_trans (Nat.le_of_ble_eq_true rfl) hR.2.1⟩ ⟨Nat.zero_le _, Nat.zero_le _⟩ rfl (Nat.le_of_ble_eq_true rfl) dX6_codes_10 [0] [mC cI cZ aM (M_beds, M_law, M_worths, M_sights, M_sight, M_signs, M_pad, M_lies, M_empty, M_list, M_waits, M_yard, M_last, M_used, M_sheets, M_nights, M_fleasOfGuests, M_fleasOfBeds, M_reason, M_row, M_bestRow, M_image, M_isKept)] 13 rfl (by decide) rfl rfl rfl [.int r_10, .int x2_L4] rfl ?_
      refine gq_icmp_ge C 27 16 dX6_codes_13 (by decide) rfl (fun h13 => ?_) (fun h13 => ?_)
      · replace hf := gq_ifp h13 hf
        exact hkL4 _ _ hf
      · replace hf := gq_ifn h13 hf
        refine gq_iload_n C 1 17 dX6_codes_16 rfl rfl ?_
        refine gq_bipush C (nI 8) 19 dX6_codes_17 (by decide) rfl ?_
        refine gq_imul C 20 dX6_codes_19 rfl ?_
        refine gq_istore_n C [(1, .int (x1_L4 * (nI 8))), (2, .int x2_L4), (0, .ref (aM 0))] 21 dX6_codes_20 (by decide) rfl rfl ?_
        refine gq_iinc C 1 [(2, .int (x2_L4 + (nI 1))), (1, .int (x1_L4 * (nI 8))), (0, .ref (aM 0))] 24 dX6_codes_21 rfl rfl (by decide) rfl rfl ?_
        refine gq_goto C 4 dX6_codes_24 (by decide) ?_
        exact ihL4 _ _ hf
  refine L4 _ (fun x1_L4 x2_L4 hf => ?_) _ _ _ hf
  refine gq_iload_n C 1 28 dX6_codes_27 rfl rfl ?_
  obtain rfl := gq_lf hf
  exact hret dX6_codes_28 gPost.rf

def f_X6_guestAt_L14 (c_x2 : Int32) : Nat → Int32 → Int32 → (Int32 → Int32 → Option (Int32)) → Option (Int32)
  | 0, _, _, _ => none
  | nL14 + 1, x3_L14, x4_L14, kL14 => (if x4_L14 ≤ c_x2 then kL14 x3_L14 x4_L14 else f_X6_guestAt_L14 c_x2 nL14 (x3_L14 / (nI 8)) (x4_L14 + (-1 : Int32)) kL14)
def f_X6_guestAt : Int32 → Int32 → ModS → Option (Int32)
  | x1, x2, (M_beds, M_law, M_worths, M_sights, M_sight, M_signs, M_pad, M_lies, M_empty, M_list, M_waits, M_yard, M_last, M_used, M_sheets, M_nights, M_fleasOfGuests, M_fleasOfBeds, M_reason, M_row, M_bestRow, M_image, M_isKept) => (Option.bind (f_X6_opens M_signs (M_beds, M_law, M_worths, M_sights, M_sight, M_signs, M_pad, M_lies, M_empty, M_list, M_waits, M_yard, M_last, M_used, M_sheets, M_nights, M_fleasOfGuests, M_fleasOfBeds, M_reason, M_row, M_bestRow, M_image, M_isKept)) (fun r_7 => f_X6_guestAt_L14 x2 FU x1 (r_7 - (nI 1)) (fun x3_L14 x4_L14 => some (x3_L14 - x3_L14 / (nI 8) * (nI 8)))))
set_option maxHeartbeats 4000000 in
set_option maxRecDepth 100000 in
theorem c_X6_guestAt (l : Launch) (D : va_G) (cI cZ : ClassId) (aM : Nat → Nat) (x1 : Int32) (x2 : Int32) (tM : ModS) (rr : Int32) (hf : f_X6_guestAt x1 x2 tM = some rr) : CT l D cI cZ yX6_guestAt cX6_guestAt 5 (some .int) 1 23 0 0 [.ref (aM 0), .int x1, .int x2] ([mC cI cZ aM tM]) (gPost (some (.int rr)) ([mC cI cZ aM tM])) := by
  obtain ⟨M_beds, M_law, M_worths, M_sights, M_sight, M_signs, M_pad, M_lies, M_empty, M_list, M_waits, M_yard, M_last, M_used, M_sheets, M_nights, M_fleasOfGuests, M_fleasOfBeds, M_reason, M_row, M_bestRow, M_image, M_isKept⟩ := tM
  rw [f_X6_guestAt] at hf
  refine CT.mkI (by decide) (Nat.le_of_ble_eq_true rfl) fun {p} {e} {R} {s} {m} {args} {below} {meth} {c} {A} {H0} {Q} C hA hR hret => ?_
  show G p l e R s m args below meth c 5 D A H0 0 0 Q [mC cI cZ aM (M_beds, M_law, M_worths, M_sights, M_sight, M_signs, M_pad, M_lies, M_empty, M_list, M_waits, M_yard, M_last, M_used, M_sheets, M_nights, M_fleasOfGuests, M_fleasOfBeds, M_reason, M_row, M_bestRow, M_image, M_isKept)] 0 [(0, .ref (aM 0)), (1, .int x1), (2, .int x2)] []
  refine gq_iload_n C 1 1 dX6_guestAt_0 rfl rfl ?_
  refine gq_istore_n C [(3, .int x1), (0, .ref (aM 0)), (1, .int x1), (2, .int x2)] 2 dX6_guestAt_1 (by decide) rfl rfl ?_
  refine gq_aload_n C 1 3 dX6_guestAt_2 rfl rfl ?_
  refine gq_aload_n C 1 4 dX6_guestAt_3 rfl rfl ?_
  refine gq_get C fo_X6_5 fw_X6_74 0 0 7 rfl rfl rfl dX6_guestAt_4 rfl ?_
  obtain ⟨r_7, hc, hf⟩ := gq_bd hf
  refine gq_callV C hA gm_X6_137 (c_X6_opens l D cI cZ aM M_signs (M_beds, M_law, M_worths, M_sights, M_sight, M_signs, M_pad, M_lies, M_empty, M_list, M_waits, M_yard, M_last, M_used, M_sheets, M_nights, M_fleasOfGuests, M_fleasOfBeds, M_reason, M_row, M_bestRow, M_image, M_isKept) _ hc) rfl 0 0 rfl rfl rfl ⟨Nat.le_trans (Nat.le_of_ble_eq_true rfl) hR.1, Nat.le_trans (Nat.le_of_ble_eq_true rfl) hR.2.1⟩ ⟨Nat.zero_le _, Nat.zero_le _⟩ rfl (Nat.le_of_ble_eq_true rfl) dX6_guestAt_7 [0] [mC cI cZ aM (M_beds, M_law, M_worths, M_sights, M_sight, M_signs, M_pad, M_lies, M_empty, M_list, M_waits, M_yard, M_last, M_used, M_sheets, M_nights, M_fleasOfGuests, M_fleasOfBeds, M_reason, M_row, M_bestRow, M_image, M_isKept)] 10 rfl (by decide) rfl rfl rfl [.int r_7] rfl ?_
  refine gq_iconst C (nI 1) 11 dX6_guestAt_10 (by decide) rfl ?_
  refine gq_isub C 12 dX6_guestAt_11 rfl ?_
  refine gq_istore C [(4, .int (r_7 - (nI 1))), (3, .int x1), (0, .ref (aM 0)), (1, .int x1), (2, .int x2)] 14 dX6_guestAt_12 (by decide) rfl rfl ?_
  have L14 : ∀ (kL : Int32 → Int32 → Option (Int32)), (∀ (x3_L14 : Int32) (x4_L14 : Int32), kL x3_L14 x4_L14 = some rr → G p l e R s m args below meth c 5 D A H0 0 0 Q [mC cI cZ aM (M_beds, M_law, M_worths, M_sights, M_sight, M_signs, M_pad, M_lies, M_empty, M_list, M_waits, M_yard, M_last, M_used, M_sheets, M_nights, M_fleasOfGuests, M_fleasOfBeds, M_reason, M_row, M_bestRow, M_image, M_isKept)] 31 [(4, .int x4_L14), (3, .int x3_L14), (0, .ref (aM 0)), (1, .int x1), (2, .int x2)] []) → ∀ (n : Nat) (x3_L14 : Int32) (x4_L14 : Int32), f_X6_guestAt_L14 x2 n x3_L14 x4_L14 kL = some rr → G p l e R s m args below meth c 5 D A H0 0 0 Q [mC cI cZ aM (M_beds, M_law, M_worths, M_sights, M_sight, M_signs, M_pad, M_lies, M_empty, M_list, M_waits, M_yard, M_last, M_used, M_sheets, M_nights, M_fleasOfGuests, M_fleasOfBeds, M_reason, M_row, M_bestRow, M_image, M_isKept)] 14 [(4, .int x4_L14), (3, .int x3_L14), (0, .ref (aM 0)), (1, .int x1), (2, .int x2)] [] := by
    intro kL hkL14 n
    induction n with
    | zero =>
      intro x3_L14 x4_L14 hf
      rw [f_X6_guestAt_L14] at hf
      cases hf
    | succ n ihL14 =>
      intro x3_L14 x4_L14 hf
      rw [f_X6_guestAt_L14] at hf
      refine gq_iload C 0 16 dX6_guestAt_14 rfl rfl ?_
      refine gq_iload_n C 4 17 dX6_guestAt_16 rfl rfl ?_
      refine gq_icmp_le C 31 20 dX6_guestAt_17 (by decide) rfl (fun h17 => ?_) (fun h17 => ?_)
      · replace hf := gq_ifp h17 hf
        exact hkL14 _ _ hf
      · replace hf := gq_ifn h17 hf
        refine gq_iload_n C 1 21 dX6_guestAt_20 rfl rfl ?_
        refine gq_bipush C (nI 8) 23 dX6_guestAt_21 (by decide) rfl ?_
        refine gq_idiv C 24 dX6_guestAt_23 (by decide) rfl ?_
        refine gq_istore_n C [(3, .int (x3_L14 / (nI 8))), (4, .int x4_L14), (0, .ref (aM 0)), (1, .int x1), (2, .int x2)] 25 dX6_guestAt_24 (by decide) rfl rfl ?_
        refine gq_iinc C 1 [(4, .int (x4_L14 + (-1 : Int32))), (3, .int (x3_L14 / (nI 8))), (0, .ref (aM 0)), (1, .int x1), (2, .int x2)] 28 dX6_guestAt_25 rfl rfl (by decide) rfl rfl ?_
        refine gq_goto C 14 dX6_guestAt_28 (by decide) ?_
        exact ihL14 _ _ hf
  refine L14 _ (fun x3_L14 x4_L14 hf => ?_) _ _ _ hf
  refine gq_iload_n C 1 32 dX6_guestAt_31 rfl rfl ?_
  refine gq_bipush C (nI 8) 34 dX6_guestAt_32 (by decide) rfl ?_
  refine gq_irem C 35 dX6_guestAt_34 (by decide) rfl ?_
  obtain rfl := gq_lf hf
  exact hret dX6_guestAt_35 gPost.rf

def f_X6_filled_L18  : Nat → Int32 → Int32 → Int32 → Int32 → Int32 → (Nat → Int32) → Int32 → (Nat → Int32) → Int32 → (Nat → Int32) → (Nat → Int32) → Int32 → (Nat → Int32) → Int32 → (Nat → Int32) → (Nat → Int32) → (Nat → Int32) → (Nat → Int32) → (Nat → Int32) → Int32 → Int32 → Int32 → (Nat → Int32) → (Nat → Int32) → (Nat → Int32) → (Nat → Int32) → (Int32 → Int32 → Int32 → Int32 → Int32 → (Nat → Int32) → Int32 → (Nat → Int32) → Int32 → (Nat → Int32) → (Nat → Int32) → Int32 → (Nat → Int32) → Int32 → (Nat → Int32) → (Nat → Int32) → (Nat → Int32) → (Nat → Int32) → (Nat → Int32) → Int32 → Int32 → Int32 → (Nat → Int32) → (Nat → Int32) → (Nat → Int32) → (Nat → Int32) → Option (Int32 × ModS)) → Option (Int32 × ModS)
  | 0, _, _, _, _, _, _, _, _, _, _, _, _, _, _, _, _, _, _, _, _, _, _, _, _, _, _, _ => none
  | nL18 + 1, x2_L18, x3_L18, x4_L18, M_beds_L18, M_law_L18, M_worths_L18, M_sights_L18, M_sight_L18, M_signs_L18, M_pad_L18, M_lies_L18, M_empty_L18, M_list_L18, M_waits_L18, M_yard_L18, M_last_L18, M_used_L18, M_sheets_L18, M_nights_L18, M_fleasOfGuests_L18, M_fleasOfBeds_L18, M_reason_L18, M_row_L18, M_bestRow_L18, M_image_L18, M_isKept_L18, kL18 => (Option.bind (f_X6_codes (M_beds_L18, M_law_L18, M_worths_L18, M_sights_L18, M_sight_L18, M_signs_L18, M_pad_L18, M_lies_L18, M_empty_L18, M_list_L18, M_waits_L18, M_yard_L18, M_last_L18, M_used_L18, M_sheets_L18, M_nights_L18, M_fleasOfGuests_L18, M_fleasOfBeds_L18, M_reason_L18, M_row_L18, M_bestRow_L18, M_image_L18, M_isKept_L18)) (fun r_21 => (if r_21 ≤ x4_L18 then kL18 x2_L18 x3_L18 x4_L18 M_beds_L18 M_law_L18 M_worths_L18 M_sights_L18 M_sight_L18 M_signs_L18 M_pad_L18 M_lies_L18 M_empty_L18 M_list_L18 M_waits_L18 M_yard_L18 M_last_L18 M_used_L18 M_sheets_L18 M_nights_L18 M_fleasOfGuests_L18 M_fleasOfBeds_L18 M_reason_L18 M_row_L18 M_bestRow_L18 M_image_L18 M_isKept_L18 else (Option.bind (f_X6_isFit x4_L18 (M_beds_L18, M_law_L18, M_worths_L18, M_sights_L18, M_sight_L18, M_signs_L18, M_pad_L18, M_lies_L18, M_empty_L18, M_list_L18, M_waits_L18, M_yard_L18, M_last_L18, M_used_L18, M_sheets_L18, M_nights_L18, M_fleasOfGuests_L18, M_fleasOfBeds_L18, M_reason_L18, M_row_L18, M_bestRow_L18, M_image_L18, M_isKept_L18)) (fun (r_30, (M_beds_30, M_law_30, M_worths_30, M_sights_30, M_sight_30, M_signs_30, M_pad_30, M_lies_30, M_empty_30, M_list_30, M_waits_30, M_yard_30, M_last_30, M_used_30, M_sheets_30, M_nights_30, M_fleasOfGuests_30, M_fleasOfBeds_30, M_reason_30, M_row_30, M_bestRow_30, M_image_30, M_isKept_30)) => (if r_30 = 0 then f_X6_filled_L18  nL18 x2_L18 x3_L18 (x4_L18 + (nI 1)) M_beds_30 M_law_30 M_worths_30 M_sights_30 M_sight_30 M_signs_30 M_pad_30 M_lies_30 M_empty_30 M_list_30 M_waits_30 M_yard_30 M_last_30 M_used_30 M_sheets_30 M_nights_30 M_fleasOfGuests_30 M_fleasOfBeds_30 M_reason_30 M_row_30 M_bestRow_30 M_image_30 M_isKept_30 kL18 else (if 0 ≤ x3_L18 then f_X6_filled_L18  nL18 (x2_L18 + (nI 1)) x3_L18 (x4_L18 + (nI 1)) M_beds_30 M_law_30 M_worths_30 M_sights_30 M_sight_30 M_signs_30 M_pad_30 M_lies_30 M_empty_30 M_list_30 M_waits_30 M_yard_30 M_last_30 M_used_30 M_sheets_30 M_nights_30 M_fleasOfGuests_30 M_fleasOfBeds_30 M_reason_30 M_row_30 M_bestRow_30 M_image_30 M_isKept_30 kL18 else f_X6_filled_L18  nL18 (x2_L18 + (nI 1)) x4_L18 (x4_L18 + (nI 1)) M_beds_30 M_law_30 M_worths_30 M_sights_30 M_sight_30 M_signs_30 M_pad_30 M_lies_30 M_empty_30 M_list_30 M_waits_30 M_yard_30 M_last_30 M_used_30 M_sheets_30 M_nights_30 M_fleasOfGuests_30 M_fleasOfBeds_30 M_reason_30 M_row_30 M_bestRow_30 M_image_30 M_isKept_30 kL18)))))))
def f_X6_filled : Int32 → ModS → Option (Int32 × ModS)
  | x1, (M_beds, M_law, M_worths, M_sights, M_sight, M_signs, M_pad, M_lies, M_empty, M_list, M_waits, M_yard, M_last, M_used, M_sheets, M_nights, M_fleasOfGuests, M_fleasOfBeds, M_reason, M_row, M_bestRow, M_image, M_isKept) => (Option.bind (f_X6_faultOf (M_beds, M_law, M_worths, M_sights, M_sight, M_signs, M_pad, M_lies, M_empty, M_list, M_waits, M_yard, M_last, M_used, M_sheets, M_nights, M_fleasOfGuests, M_fleasOfBeds, M_reason, M_row, M_bestRow, M_image, M_isKept)) (fun r_1 => (if r_1 < 0 then f_X6_filled_L18  FU (nI 0) (-6 : Int32) (nI 0) M_beds M_law M_worths M_sights M_sight M_signs M_pad M_lies M_empty M_list M_waits M_yard M_last M_used M_sheets M_nights M_fleasOfGuests M_fleasOfBeds M_reason M_row M_bestRow M_image M_isKept (fun x2_L18 x3_L18 x4_L18 M_beds_L18 M_law_L18 M_worths_L18 M_sights_L18 M_sight_L18 M_signs_L18 M_pad_L18 M_lies_L18 M_empty_L18 M_list_L18 M_waits_L18 M_yard_L18 M_last_L18 M_used_L18 M_sheets_L18 M_nights_L18 M_fleasOfGuests_L18 M_fleasOfBeds_L18 M_reason_L18 M_row_L18 M_bestRow_L18 M_image_L18 M_isKept_L18 => (if x1 = (-1 : Int32) then some (x2_L18, (M_beds_L18, M_law_L18, M_worths_L18, M_sights_L18, M_sight_L18, M_signs_L18, M_pad_L18, M_lies_L18, M_empty_L18, M_list_L18, M_waits_L18, M_yard_L18, M_last_L18, M_used_L18, M_sheets_L18, M_nights_L18, M_fleasOfGuests_L18, M_fleasOfBeds_L18, M_reason_L18, M_row_L18, M_bestRow_L18, M_image_L18, M_isKept_L18)) else (if x3_L18 < 0 then some ((-6 : Int32), (M_beds_L18, M_law_L18, M_worths_L18, M_sights_L18, M_sight_L18, M_signs_L18, M_pad_L18, M_lies_L18, M_empty_L18, M_list_L18, M_waits_L18, M_yard_L18, M_last_L18, M_used_L18, M_sheets_L18, M_nights_L18, M_fleasOfGuests_L18, M_fleasOfBeds_L18, M_reason_L18, M_row_L18, M_bestRow_L18, M_image_L18, M_isKept_L18)) else (Option.bind (f_X6_opens M_signs_L18 (M_beds_L18, M_law_L18, M_worths_L18, M_sights_L18, M_sight_L18, M_signs_L18, M_pad_L18, M_lies_L18, M_empty_L18, M_list_L18, M_waits_L18, M_yard_L18, M_last_L18, M_used_L18, M_sheets_L18, M_nights_L18, M_fleasOfGuests_L18, M_fleasOfBeds_L18, M_reason_L18, M_row_L18, M_bestRow_L18, M_image_L18, M_isKept_L18)) (fun r_74 => (Option.bind (f_X6_in x1 (nI 0) (r_74 - (nI 1))) (fun r_79 => (if r_79 = 0 then some ((-6 : Int32), (M_beds_L18, M_law_L18, M_worths_L18, M_sights_L18, M_sight_L18, M_signs_L18, M_pad_L18, M_lies_L18, M_empty_L18, M_list_L18, M_waits_L18, M_yard_L18, M_last_L18, M_used_L18, M_sheets_L18, M_nights_L18, M_fleasOfGuests_L18, M_fleasOfBeds_L18, M_reason_L18, M_row_L18, M_bestRow_L18, M_image_L18, M_isKept_L18)) else (Option.bind (f_X6_guestAt x3_L18 x1 (M_beds_L18, M_law_L18, M_worths_L18, M_sights_L18, M_sight_L18, M_signs_L18, M_pad_L18, M_lies_L18, M_empty_L18, M_list_L18, M_waits_L18, M_yard_L18, M_last_L18, M_used_L18, M_sheets_L18, M_nights_L18, M_fleasOfGuests_L18, M_fleasOfBeds_L18, M_reason_L18, M_row_L18, M_bestRow_L18, M_image_L18, M_isKept_L18)) (fun r_88 => some (r_88, (M_beds_L18, M_law_L18, M_worths_L18, M_sights_L18, M_sight_L18, M_signs_L18, M_pad_L18, M_lies_L18, M_empty_L18, M_list_L18, M_waits_L18, M_yard_L18, M_last_L18, M_used_L18, M_sheets_L18, M_nights_L18, M_fleasOfGuests_L18, M_fleasOfBeds_L18, M_reason_L18, M_row_L18, M_bestRow_L18, M_image_L18, M_isKept_L18)))))))))))) else some ((-5 : Int32), (M_beds, M_law, M_worths, M_sights, M_sight, M_signs, M_pad, M_lies, M_empty, M_list, M_waits, M_yard, M_last, M_used, M_sheets, M_nights, M_fleasOfGuests, M_fleasOfBeds, M_reason, M_row, M_bestRow, M_image, M_isKept)))))
set_option maxHeartbeats 4000000 in
set_option maxRecDepth 100000 in
theorem c_X6_filled (l : Launch) (D : va_G) (cI cZ : ClassId) (aM : Nat → Nat) (x1 : Int32) (tM : ModS) (rr : Int32 × ModS) (hf : f_X6_filled x1 tM = some rr) : CT l D cI cZ yX6_filled cX6_filled 5 (some .int) 6 141 0 0 [.ref (aM 0), .int x1] ([mC cI cZ aM tM]) (gPost (some (.int rr.1)) ([mC cI cZ aM rr.2])) := by
  obtain ⟨M_beds, M_law, M_worths, M_sights, M_sight, M_signs, M_pad, M_lies, M_empty, M_list, M_waits, M_yard, M_last, M_used, M_sheets, M_nights, M_fleasOfGuests, M_fleasOfBeds, M_reason, M_row, M_bestRow, M_image, M_isKept⟩ := tM
  rw [f_X6_filled] at hf
  refine CT.mkI (by decide) (Nat.le_of_ble_eq_true rfl) fun {p} {e} {R} {s} {m} {args} {below} {meth} {c} {A} {H0} {Q} C hA hR hret => ?_
  show G p l e R s m args below meth c 5 D A H0 0 0 Q [mC cI cZ aM (M_beds, M_law, M_worths, M_sights, M_sight, M_signs, M_pad, M_lies, M_empty, M_list, M_waits, M_yard, M_last, M_used, M_sheets, M_nights, M_fleasOfGuests, M_fleasOfBeds, M_reason, M_row, M_bestRow, M_image, M_isKept)] 0 [(0, .ref (aM 0)), (1, .int x1)] []
  refine gq_aload_n C 0 1 dX6_filled_0 rfl rfl ?_
  obtain ⟨r_1, hc, hf⟩ := gq_bd hf
  refine gq_callV C hA gm_X6_77 (c_X6_faultOf l D cI cZ aM (M_beds, M_law, M_worths, M_sights, M_sight, M_signs, M_pad, M_lies, M_empty, M_list, M_waits, M_yard, M_last, M_used, M_sheets, M_nights, M_fleasOfGuests, M_fleasOfBeds, M_reason, M_row, M_bestRow, M_image, M_isKept) _ hc) rfl 0 0 rfl rfl rfl ⟨Nat.le_trans (Nat.le_of_ble_eq_true rfl) hR.1, Nat.le_trans (Nat.le_of_ble_eq_true rfl) hR.2.1⟩ ⟨Nat.zero_le _, Nat.zero_le _⟩ rfl (Nat.le_of_ble_eq_true rfl) dX6_filled_1 [0] [mC cI cZ aM (M_beds, M_law, M_worths, M_sights, M_sight, M_signs, M_pad, M_lies, M_empty, M_list, M_waits, M_yard, M_last, M_used, M_sheets, M_nights, M_fleasOfGuests, M_fleasOfBeds, M_reason, M_row, M_bestRow, M_image, M_isKept)] 4 rfl (by decide) rfl rfl rfl [.int r_1] rfl ?_
  refine gq_if_lt C 10 7 dX6_filled_4 (by decide) rfl (fun h4 => ?_) (fun h4 => ?_)
  · replace hf := gq_ifp h4 hf
    refine gq_iconst C (nI 0) 11 dX6_filled_10 (by decide) rfl ?_
    refine gq_istore_n C [(2, .int (nI 0)), (0, .ref (aM 0)), (1, .int x1)] 12 dX6_filled_11 (by decide) rfl rfl ?_
    refine gq_bipush C (-6 : Int32) 14 dX6_filled_12 (by decide) rfl ?_
    refine gq_istore_n C [(3, .int (-6 : Int32)), (2, .int (nI 0)), (0, .ref (aM 0)), (1, .int x1)] 15 dX6_filled_14 (by decide) rfl rfl ?_
    refine gq_iconst C (nI 0) 16 dX6_filled_15 (by decide) rfl ?_
    refine gq_istore C [(4, .int (nI 0)), (3, .int (-6 : Int32)), (2, .int (nI 0)), (0, .ref (aM 0)), (1, .int x1)] 18 dX6_filled_16 (by decide) rfl rfl ?_
    have L18 : ∀ (kL : Int32 → Int32 → Int32 → Int32 → Int32 → (Nat → Int32) → Int32 → (Nat → Int32) → Int32 → (Nat → Int32) → (Nat → Int32) → Int32 → (Nat → Int32) → Int32 → (Nat → Int32) → (Nat → Int32) → (Nat → Int32) → (Nat → Int32) → (Nat → Int32) → Int32 → Int32 → Int32 → (Nat → Int32) → (Nat → Int32) → (Nat → Int32) → (Nat → Int32) → Option (Int32 × ModS)), (∀ (x2_L18 : Int32) (x3_L18 : Int32) (x4_L18 : Int32) (M_beds_L18 : Int32) (M_law_L18 : Int32) (M_worths_L18 : (Nat → Int32)) (M_sights_L18 : Int32) (M_sight_L18 : (Nat → Int32)) (M_signs_L18 : Int32) (M_pad_L18 : (Nat → Int32)) (M_lies_L18 : (Nat → Int32)) (M_empty_L18 : Int32) (M_list_L18 : (Nat → Int32)) (M_waits_L18 : Int32) (M_yard_L18 : (Nat → Int32)) (M_last_L18 : (Nat → Int32)) (M_used_L18 : (Nat → Int32)) (M_sheets_L18 : (Nat → Int32)) (M_nights_L18 : (Nat → Int32)) (M_fleasOfGuests_L18 : Int32) (M_fleasOfBeds_L18 : Int32) (M_reason_L18 : Int32) (M_row_L18 : (Nat → Int32)) (M_bestRow_L18 : (Nat → Int32)) (M_image_L18 : (Nat → Int32)) (M_isKept_L18 : (Nat → Int32)), kL x2_L18 x3_L18 x4_L18 M_beds_L18 M_law_L18 M_worths_L18 M_sights_L18 M_sight_L18 M_signs_L18 M_pad_L18 M_lies_L18 M_empty_L18 M_list_L18 M_waits_L18 M_yard_L18 M_last_L18 M_used_L18 M_sheets_L18 M_nights_L18 M_fleasOfGuests_L18 M_fleasOfBeds_L18 M_reason_L18 M_row_L18 M_bestRow_L18 M_image_L18 M_isKept_L18 = some rr → G p l e R s m args below meth c 5 D A H0 0 0 Q [mC cI cZ aM (M_beds_L18, M_law_L18, M_worths_L18, M_sights_L18, M_sight_L18, M_signs_L18, M_pad_L18, M_lies_L18, M_empty_L18, M_list_L18, M_waits_L18, M_yard_L18, M_last_L18, M_used_L18, M_sheets_L18, M_nights_L18, M_fleasOfGuests_L18, M_fleasOfBeds_L18, M_reason_L18, M_row_L18, M_bestRow_L18, M_image_L18, M_isKept_L18)] 56 [(4, .int x4_L18), (3, .int x3_L18), (2, .int x2_L18), (0, .ref (aM 0)), (1, .int x1)] []) → ∀ (n : Nat) (x2_L18 : Int32) (x3_L18 : Int32) (x4_L18 : Int32) (M_beds_L18 : Int32) (M_law_L18 : Int32) (M_worths_L18 : (Nat → Int32)) (M_sights_L18 : Int32) (M_sight_L18 : (Nat → Int32)) (M_signs_L18 : Int32) (M_pad_L18 : (Nat → Int32)) (M_lies_L18 : (Nat → Int32)) (M_empty_L18 : Int32) (M_list_L18 : (Nat → Int32)) (M_waits_L18 : Int32) (M_yard_L18 : (Nat → Int32)) (M_last_L18 : (Nat → Int32)) (M_used_L18 : (Nat → Int32)) (M_sheets_L18 : (Nat → Int32)) (M_nights_L18 : (Nat → Int32)) (M_fleasOfGuests_L18 : Int32) (M_fleasOfBeds_L18 : Int32) (M_reason_L18 : Int32) (M_row_L18 : (Nat → Int32)) (M_bestRow_L18 : (Nat → Int32)) (M_image_L18 : (Nat → Int32)) (M_isKept_L18 : (Nat → Int32)), f_X6_filled_L18  n x2_L18 x3_L18 x4_L18 M_beds_L18 M_law_L18 M_worths_L18 M_sights_L18 M_sight_L18 M_signs_L18 M_pad_L18 M_lies_L18 M_empty_L18 M_list_L18 M_waits_L18 M_yard_L18 M_last_L18 M_used_L18 M_sheets_L18 M_nights_L18 M_fleasOfGuests_L18 M_fleasOfBeds_L18 M_reason_L18 M_row_L18 M_bestRow_L18 M_image_L18 M_isKept_L18 kL = some rr → G p l e R s m args below meth c 5 D A H0 0 0 Q [mC cI cZ aM (M_beds_L18, M_law_L18, M_worths_L18, M_sights_L18, M_sight_L18, M_signs_L18, M_pad_L18, M_lies_L18, M_empty_L18, M_list_L18, M_waits_L18, M_yard_L18, M_last_L18, M_used_L18, M_sheets_L18, M_nights_L18, M_fleasOfGuests_L18, M_fleasOfBeds_L18, M_reason_L18, M_row_L18, M_bestRow_L18, M_image_L18, M_isKept_L18)] 18 [(4, .int x4_L18), (3, .int x3_L18), (2, .int x2_L18), (0, .ref (aM 0)), (1, .int x1)] [] := by
      intro kL hkL18 n
      induction n with
      | zero =>
        intro x2_L18 x3_L18 x4_L18 M_beds_L18 M_law_L18 M_worths_L18 M_sights_L18 M_sight_L18 M_signs_L18 M_pad_L18 M_lies_L18 M_empty_L18 M_list_L18 M_waits_L18 M_yard_L18 M_last_L18 M_used_L18 M_sheets_L18 M_nights_L18 M_fleasOfGuests_L18 M_fleasOfBeds_L18 M_reason_L18 M_row_L18 M_bestRow_L18 M_image_L18 M_isKept_L18 hf
        rw [f_X6_filled_L18] at hf
        cases hf
      | succ n ihL18 =>
        intro x2_L18 x3_L18 x4_L18 M_beds_L18 M_law_L18 M_worths_L18 M_sights_L18 M_sight_L18 M_signs_L18 M_pad_L18 M_lies_L18 M_empty_L18 M_list_L18 M_waits_L18 M_yard_L18 M_last_L18 M_used_L18 M_sheets_L18 M_nights_L18 M_fleasOfGuests_L18 M_fleasOfBeds_L18 M_reason_L18 M_row_L18 M_bestRow_L18 M_image_L18 M_isKept_L18 hf
        rw [f_X6_filled_L18] at hf
        refine gq_iload C 0 20 dX6_filled_18 rfl rfl ?_
        refine gq_aload_n C 3 21 dX6_filled_20 rfl rfl ?_
        obtain ⟨r_21, hc, hf⟩ := gq_bd hf
        refine gq_callV C hA gm_X6_168 (c_X6_codes l D cI cZ aM (M_beds_L18, M_law_L18, M_worths_L18, M_sights_L18, M_sight_L18, M_signs_L18, M_pad_L18, M_lies_L18, M_empty_L18, M_list_L18, M_waits_L18, M_yard_L18, M_last_L18, M_used_L18, M_sheets_L18, M_nights_L18, M_fleasOfGuests_L18, M_fleasOfBeds_L18, M_reason_L18, M_row_L18, M_bestRow_L18, M_image_L18, M_isKept_L18) _ hc) rfl 0 0 rfl rfl rfl ⟨Nat.le_trans (Nat.le_of_ble_eq_true rfl) hR.1, Nat.le_trans (Nat.le_of_ble_eq_true rfl) hR.2.1⟩ ⟨Nat.zero_le _, Nat.zero_le _⟩ rfl (Nat.le_of_ble_eq_true rfl) dX6_filled_21 [0] [mC cI cZ aM (M_beds_L18, M_law_L18, M_worths_L18, M_sights_L18, M_sight_L18, M_signs_L18, M_pad_L18, M_lies_L18, M_empty_L18, M_list_L18, M_waits_L18, M_yard_L18, M_last_L18, M_used_L18, M_sheets_L18, M_nights_L18, M_fleasOfGuests_L18, M_fleasOfBeds_L18, M_reason_L18, M_row_L18, M_bestRow_L18, M_image_L18, M_isKept_L18)] 24 rfl (by decide) rfl rfl rfl [.int r_21, .int x4_L18] rfl ?_
        refine gq_icmp_ge C 56 27 dX6_filled_24 (by decide) rfl (fun h24 => ?_) (fun h24 => ?_)
        · replace hf := gq_ifp h24 hf
          exact hkL18 _ _ _ _ _ _ _ _ _ _ _ _ _ _ _ _ _ _ _ _ _ _ _ _ _ _ hf
        · replace hf := gq_ifn h24 hf
          refine gq_aload_n C 3 28 dX6_filled_27 rfl rfl ?_
          refine gq_iload C 0 30 dX6_filled_28 rfl rfl ?_
          obtain ⟨⟨r_30, ⟨M_beds_30, M_law_30, M_worths_30, M_sights_30, M_sight_30, M_signs_30, M_pad_30, M_lies_30, M_empty_30, M_list_30, M_waits_30, M_yard_30, M_last_30, M_used_30, M_sheets_30, M_nights_30, M_fleasOfGuests_30, M_fleasOfBeds_30, M_reason_30, M_row_30, M_bestRow_30, M_image_30, M_isKept_30⟩⟩, hc, hf⟩ := gq_bd hf
          refine gq_callV C hA gm_X6_171 (c_X6_isFit l D cI cZ aM x4_L18 (M_beds_L18, M_law_L18, M_worths_L18, M_sights_L18, M_sight_L18, M_signs_L18, M_pad_L18, M_lies_L18, M_empty_L18, M_list_L18, M_waits_L18, M_yard_L18, M_last_L18, M_used_L18, M_sheets_L18, M_nights_L18, M_fleasOfGuests_L18, M_fleasOfBeds_L18, M_reason_L18, M_row_L18, M_bestRow_L18, M_image_L18, M_isKept_L18) _ hc) rfl 0 0 rfl rfl rfl ⟨Nat.le_trans (Nat.le_of_ble_eq_true rfl) hR.1, Nat.le_trans (Nat.le_of_ble_eq_true rfl) hR.2.1⟩ ⟨Nat.zero_le _, Nat.zero_le _⟩ rfl (Nat.le_of_ble_eq_true rfl) dX6_filled_30 [0] [mC cI cZ aM (M_beds_30, M_law_30, M_worths_30, M_sights_30, M_sight_30, M_signs_30, M_pad_30, M_lies_30, M_empty_30, M_list_30, M_waits_30, M_yard_30, M_last_30, M_used_30, M_sheets_30, M_nights_30, M_fleasOfGuests_30, M_fleasOfBeds_30, M_reason_30, M_row_30, M_bestRow_30, M_image_30, M_isKept_30)] 33 rfl (by decide) rfl rfl rfl [.int r_30] rfl ?_
          refine gq_if_eq C 50 36 dX6_filled_33 (by decide) rfl (fun h33 => ?_) (fun h33 => ?_)
          · replace hf := gq_ifp h33 hf
            refine gq_iinc C 0 [(4, .int (x4_L18 + (nI 1))), (3, .int x3_L18), (2, .int x2_L18), (0, .ref (aM 0)), (1, .int x1)] 53 dX6_filled_50 rfl rfl (by decide) rfl rfl ?_
            refine gq_goto C 18 dX6_filled_53 (by decide) ?_
            exact ihL18 _ _ _ _ _ _ _ _ _ _ _ _ _ _ _ _ _ _ _ _ _ _ _ _ _ _ hf
          · replace hf := gq_ifn h33 hf
            refine gq_iload_n C 1 37 dX6_filled_36 rfl rfl ?_
            refine gq_if_ge C 45 40 dX6_filled_37 (by decide) rfl (fun h37 => ?_) (fun h37 => ?_)
            · replace hf := gq_ifp h37 hf
              refine gq_iload_n C 1 46 dX6_filled_45 rfl rfl ?_
              refine gq_istore_n C [(3, .int x3_L18), (4, .int x4_L18), (2, .int x2_L18), (0, .ref (aM 0)), (1, .int x1)] 47 dX6_filled_46 (by decide) rfl rfl ?_
              refine gq_iinc C 2 [(2, .int (x2_L18 + (nI 1))), (3, .int x3_L18), (4, .int x4_L18), (0, .ref (aM 0)), (1, .int x1)] 50 dX6_filled_47 rfl rfl (by decide) rfl rfl ?_
              refine gq_iinc C 2 [(4, .int (x4_L18 + (nI 1))), (2, .int (x2_L18 + (nI 1))), (3, .int x3_L18), (0, .ref (aM 0)), (1, .int x1)] 53 dX6_filled_50 rfl rfl (by decide) rfl rfl ?_
              refine gq_goto C 18 dX6_filled_53 (by decide) ?_
              refine gq_lv [0, 2, 1, 3, 4] rfl ?_
              exact ihL18 _ _ _ _ _ _ _ _ _ _ _ _ _ _ _ _ _ _ _ _ _ _ _ _ _ _ hf
            · replace hf := gq_ifn h37 hf
              refine gq_iload C 0 42 dX6_filled_40 rfl rfl ?_
              refine gq_goto C 46 dX6_filled_42 (by decide) ?_
              refine gq_istore_n C [(3, .int x4_L18), (4, .int x4_L18), (2, .int x2_L18), (0, .ref (aM 0)), (1, .int x1)] 47 dX6_filled_46 (by decide) rfl rfl ?_
              refine gq_iinc C 2 [(2, .int (x2_L18 + (nI 1))), (3, .int x4_L18), (4, .int x4_L18), (0, .ref (aM 0)), (1, .int x1)] 50 dX6_filled_47 rfl rfl (by decide) rfl rfl ?_
              refine gq_iinc C 2 [(4, .int (x4_L18 + (nI 1))), (2, .int (x2_L18 + (nI 1))), (3, .int x4_L18), (0, .ref (aM 0)), (1, .int x1)] 53 dX6_filled_50 rfl rfl (by decide) rfl rfl ?_
              refine gq_goto C 18 dX6_filled_53 (by decide) ?_
              refine gq_lv [0, 2, 1, 3, 4] rfl ?_
              exact ihL18 _ _ _ _ _ _ _ _ _ _ _ _ _ _ _ _ _ _ _ _ _ _ _ _ _ _ hf
    refine L18 _ (fun x2_L18 x3_L18 x4_L18 M_beds_L18 M_law_L18 M_worths_L18 M_sights_L18 M_sight_L18 M_signs_L18 M_pad_L18 M_lies_L18 M_empty_L18 M_list_L18 M_waits_L18 M_yard_L18 M_last_L18 M_used_L18 M_sheets_L18 M_nights_L18 M_fleasOfGuests_L18 M_fleasOfBeds_L18 M_reason_L18 M_row_L18 M_bestRow_L18 M_image_L18 M_isKept_L18 hf => ?_) _ _ _ _ _ _ _ _ _ _ _ _ _ _ _ _ _ _ _ _ _ _ _ _ _ _ _ hf
    refine gq_iload_n C 4 57 dX6_filled_56 rfl rfl ?_
    refine gq_iconst C (-1 : Int32) 58 dX6_filled_57 (by decide) rfl ?_
    refine gq_icmp_ne C 63 61 dX6_filled_58 (by decide) rfl (fun h58 => ?_) (fun h58 => ?_)
    · replace hf := gq_ifn h58 hf
      refine gq_iload_n C 1 64 dX6_filled_63 rfl rfl ?_
      refine gq_if_lt C 94 67 dX6_filled_64 (by decide) rfl (fun h64 => ?_) (fun h64 => ?_)
      · replace hf := gq_ifp h64 hf
        refine gq_bipush C (-6 : Int32) 96 dX6_filled_94 (by decide) rfl ?_
        obtain rfl := gq_lf hf
        exact hret dX6_filled_96 gPost.rf
      · replace hf := gq_ifn h64 hf
        refine gq_iload_n C 4 68 dX6_filled_67 rfl rfl ?_
        refine gq_iconst C (nI 0) 69 dX6_filled_68 (by decide) rfl ?_
        refine gq_aload_n C 3 70 dX6_filled_69 rfl rfl ?_
        refine gq_aload_n C 3 71 dX6_filled_70 rfl rfl ?_
        refine gq_get C fo_X6_5 fw_X6_74 0 0 74 rfl rfl rfl dX6_filled_71 rfl ?_
        obtain ⟨r_74, hc, hf⟩ := gq_bd hf
        refine gq_callV C hA gm_X6_137 (c_X6_opens l D cI cZ aM M_signs_L18 (M_beds_L18, M_law_L18, M_worths_L18, M_sights_L18, M_sight_L18, M_signs_L18, M_pad_L18, M_lies_L18, M_empty_L18, M_list_L18, M_waits_L18, M_yard_L18, M_last_L18, M_used_L18, M_sheets_L18, M_nights_L18, M_fleasOfGuests_L18, M_fleasOfBeds_L18, M_reason_L18, M_row_L18, M_bestRow_L18, M_image_L18, M_isKept_L18) _ hc) rfl 0 0 rfl rfl rfl ⟨Nat.le_trans (Nat.le_of_ble_eq_true rfl) hR.1, Nat.le_trans (Nat.le_of_ble_eq_true rfl) hR.2.1⟩ ⟨Nat.zero_le _, Nat.zero_le _⟩ rfl (Nat.le_of_ble_eq_true rfl) dX6_filled_74 [0] [mC cI cZ aM (M_beds_L18, M_law_L18, M_worths_L18, M_sights_L18, M_sight_L18, M_signs_L18, M_pad_L18, M_lies_L18, M_empty_L18, M_list_L18, M_waits_L18, M_yard_L18, M_last_L18, M_used_L18, M_sheets_L18, M_nights_L18, M_fleasOfGuests_L18, M_fleasOfBeds_L18, M_reason_L18, M_row_L18, M_bestRow_L18, M_image_L18, M_isKept_L18)] 77 rfl (by decide) rfl rfl rfl [.int r_74, .int (nI 0), .int x1] rfl ?_
        refine gq_iconst C (nI 1) 78 dX6_filled_77 (by decide) rfl ?_
        refine gq_isub C 79 dX6_filled_78 rfl ?_
        obtain ⟨r_79, hc, hf⟩ := gq_bd hf
        refine gq_callS C hA gm_X6_60 (c_X6_in l D cI cZ  x1 (nI 0) (r_74 - (nI 1)) _ hc) rfl ⟨Nat.le_trans (Nat.le_of_ble_eq_true rfl) hR.1, Nat.le_trans (Nat.le_of_ble_eq_true rfl) hR.2.1⟩ ⟨Nat.zero_le _, Nat.zero_le _⟩ rfl (Nat.le_of_ble_eq_true rfl) dX6_filled_79 [] [mC cI cZ aM (M_beds_L18, M_law_L18, M_worths_L18, M_sights_L18, M_sight_L18, M_signs_L18, M_pad_L18, M_lies_L18, M_empty_L18, M_list_L18, M_waits_L18, M_yard_L18, M_last_L18, M_used_L18, M_sheets_L18, M_nights_L18, M_fleasOfGuests_L18, M_fleasOfBeds_L18, M_reason_L18, M_row_L18, M_bestRow_L18, M_image_L18, M_isKept_L18)] 82 rfl (by decide) rfl rfl rfl [.int r_79] rfl ?_
        refine gq_if_eq C 94 85 dX6_filled_82 (by decide) rfl (fun h82 => ?_) (fun h82 => ?_)
        · replace hf := gq_ifp h82 hf
          refine gq_bipush C (-6 : Int32) 96 dX6_filled_94 (by decide) rfl ?_
          obtain rfl := gq_lf hf
          exact hret dX6_filled_96 gPost.rf
        · replace hf := gq_ifn h82 hf
          refine gq_aload_n C 3 86 dX6_filled_85 rfl rfl ?_
          refine gq_iload_n C 1 87 dX6_filled_86 rfl rfl ?_
          refine gq_iload_n C 4 88 dX6_filled_87 rfl rfl ?_
          obtain ⟨r_88, hc, hf⟩ := gq_bd hf
          refine gq_callV C hA gm_X6_174 (c_X6_guestAt l D cI cZ aM x3_L18 x1 (M_beds_L18, M_law_L18, M_worths_L18, M_sights_L18, M_sight_L18, M_signs_L18, M_pad_L18, M_lies_L18, M_empty_L18, M_list_L18, M_waits_L18, M_yard_L18, M_last_L18, M_used_L18, M_sheets_L18, M_nights_L18, M_fleasOfGuests_L18, M_fleasOfBeds_L18, M_reason_L18, M_row_L18, M_bestRow_L18, M_image_L18, M_isKept_L18) _ hc) rfl 0 0 rfl rfl rfl ⟨Nat.le_trans (Nat.le_of_ble_eq_true rfl) hR.1, Nat.le_trans (Nat.le_of_ble_eq_true rfl) hR.2.1⟩ ⟨Nat.zero_le _, Nat.zero_le _⟩ rfl (Nat.le_of_ble_eq_true rfl) dX6_filled_88 [0] [mC cI cZ aM (M_beds_L18, M_law_L18, M_worths_L18, M_sights_L18, M_sight_L18, M_signs_L18, M_pad_L18, M_lies_L18, M_empty_L18, M_list_L18, M_waits_L18, M_yard_L18, M_last_L18, M_used_L18, M_sheets_L18, M_nights_L18, M_fleasOfGuests_L18, M_fleasOfBeds_L18, M_reason_L18, M_row_L18, M_bestRow_L18, M_image_L18, M_isKept_L18)] 91 rfl (by decide) rfl rfl rfl [.int r_88] rfl ?_
          refine gq_goto C 96 dX6_filled_91 (by decide) ?_
          obtain rfl := gq_lf hf
          exact hret dX6_filled_96 gPost.rf
    · replace hf := gq_ifp h58 hf
      refine gq_iload_n C 2 62 dX6_filled_61 rfl rfl ?_
      obtain rfl := gq_lf hf
      exact hret dX6_filled_62 gPost.rf
  · replace hf := gq_ifn h4 hf
    refine gq_bipush C (-5 : Int32) 9 dX6_filled_7 (by decide) rfl ?_
    obtain rfl := gq_lf hf
    exact hret dX6_filled_9 gPost.rf

def f_X6_could_L35 (c_x1 : Int32) : Nat → Int32 → Int32 → Int32 → Int32 → (Nat → Int32) → Int32 → (Nat → Int32) → Int32 → (Nat → Int32) → (Nat → Int32) → Int32 → (Nat → Int32) → Int32 → (Nat → Int32) → (Nat → Int32) → (Nat → Int32) → (Nat → Int32) → (Nat → Int32) → Int32 → Int32 → Int32 → (Nat → Int32) → (Nat → Int32) → (Nat → Int32) → (Nat → Int32) → (Int32 → Int32 → Int32 → Int32 → (Nat → Int32) → Int32 → (Nat → Int32) → Int32 → (Nat → Int32) → (Nat → Int32) → Int32 → (Nat → Int32) → Int32 → (Nat → Int32) → (Nat → Int32) → (Nat → Int32) → (Nat → Int32) → (Nat → Int32) → Int32 → Int32 → Int32 → (Nat → Int32) → (Nat → Int32) → (Nat → Int32) → (Nat → Int32) → Option (Int32 × ModS)) → Option (Int32 × ModS)
  | 0, _, _, _, _, _, _, _, _, _, _, _, _, _, _, _, _, _, _, _, _, _, _, _, _, _, _ => none
  | nL35 + 1, x2_L35, x3_L35, M_beds_L35, M_law_L35, M_worths_L35, M_sights_L35, M_sight_L35, M_signs_L35, M_pad_L35, M_lies_L35, M_empty_L35, M_list_L35, M_waits_L35, M_yard_L35, M_last_L35, M_used_L35, M_sheets_L35, M_nights_L35, M_fleasOfGuests_L35, M_fleasOfBeds_L35, M_reason_L35, M_row_L35, M_bestRow_L35, M_image_L35, M_isKept_L35, kL35 => (Option.bind (f_X6_codes (M_beds_L35, M_law_L35, M_worths_L35, M_sights_L35, M_sight_L35, M_signs_L35, M_pad_L35, M_lies_L35, M_empty_L35, M_list_L35, M_waits_L35, M_yard_L35, M_last_L35, M_used_L35, M_sheets_L35, M_nights_L35, M_fleasOfGuests_L35, M_fleasOfBeds_L35, M_reason_L35, M_row_L35, M_bestRow_L35, M_image_L35, M_isKept_L35)) (fun r_37 => (if r_37 ≤ x3_L35 then kL35 x2_L35 x3_L35 M_beds_L35 M_law_L35 M_worths_L35 M_sights_L35 M_sight_L35 M_signs_L35 M_pad_L35 M_lies_L35 M_empty_L35 M_list_L35 M_waits_L35 M_yard_L35 M_last_L35 M_used_L35 M_sheets_L35 M_nights_L35 M_fleasOfGuests_L35 M_fleasOfBeds_L35 M_reason_L35 M_row_L35 M_bestRow_L35 M_image_L35 M_isKept_L35 else (Option.bind (f_X6_isFit x3_L35 (M_beds_L35, M_law_L35, M_worths_L35, M_sights_L35, M_sight_L35, M_signs_L35, M_pad_L35, M_lies_L35, M_empty_L35, M_list_L35, M_waits_L35, M_yard_L35, M_last_L35, M_used_L35, M_sheets_L35, M_nights_L35, M_fleasOfGuests_L35, M_fleasOfBeds_L35, M_reason_L35, M_row_L35, M_bestRow_L35, M_image_L35, M_isKept_L35)) (fun (r_46, (M_beds_46, M_law_46, M_worths_46, M_sights_46, M_sight_46, M_signs_46, M_pad_46, M_lies_46, M_empty_46, M_list_46, M_waits_46, M_yard_46, M_last_46, M_used_46, M_sheets_46, M_nights_46, M_fleasOfGuests_46, M_fleasOfBeds_46, M_reason_46, M_row_46, M_bestRow_46, M_image_46, M_isKept_46)) => (if r_46 = 0 then f_X6_could_L35 c_x1 nL35 (x2_L35 ||| (nI 0)) (x3_L35 + (nI 1)) M_beds_46 M_law_46 M_worths_46 M_sights_46 M_sight_46 M_signs_46 M_pad_46 M_lies_46 M_empty_46 M_list_46 M_waits_46 M_yard_46 M_last_46 M_used_46 M_sheets_46 M_nights_46 M_fleasOfGuests_46 M_fleasOfBeds_46 M_reason_46 M_row_46 M_bestRow_46 M_image_46 M_isKept_46 kL35 else (Option.bind (f_X6_guestAt x3_L35 c_x1 (M_beds_46, M_law_46, M_worths_46, M_sights_46, M_sight_46, M_signs_46, M_pad_46, M_lies_46, M_empty_46, M_list_46, M_waits_46, M_yard_46, M_last_46, M_used_46, M_sheets_46, M_nights_46, M_fleasOfGuests_46, M_fleasOfBeds_46, M_reason_46, M_row_46, M_bestRow_46, M_image_46, M_isKept_46)) (fun r_56 => f_X6_could_L35 c_x1 nL35 (x2_L35 ||| ((nI 1) <<< (r_56 &&& 31))) (x3_L35 + (nI 1)) M_beds_46 M_law_46 M_worths_46 M_sights_46 M_sight_46 M_signs_46 M_pad_46 M_lies_46 M_empty_46 M_list_46 M_waits_46 M_yard_46 M_last_46 M_used_46 M_sheets_46 M_nights_46 M_fleasOfGuests_46 M_fleasOfBeds_46 M_reason_46 M_row_46 M_bestRow_46 M_image_46 M_isKept_46 kL35))))))))
def f_X6_could : Int32 → ModS → Option (Int32 × ModS)
  | x1, (M_beds, M_law, M_worths, M_sights, M_sight, M_signs, M_pad, M_lies, M_empty, M_list, M_waits, M_yard, M_last, M_used, M_sheets, M_nights, M_fleasOfGuests, M_fleasOfBeds, M_reason, M_row, M_bestRow, M_image, M_isKept) => (Option.bind (f_X6_faultOf (M_beds, M_law, M_worths, M_sights, M_sight, M_signs, M_pad, M_lies, M_empty, M_list, M_waits, M_yard, M_last, M_used, M_sheets, M_nights, M_fleasOfGuests, M_fleasOfBeds, M_reason, M_row, M_bestRow, M_image, M_isKept)) (fun r_1 => (if r_1 < 0 then (Option.bind (f_X6_opens M_signs (M_beds, M_law, M_worths, M_sights, M_sight, M_signs, M_pad, M_lies, M_empty, M_list, M_waits, M_yard, M_last, M_used, M_sheets, M_nights, M_fleasOfGuests, M_fleasOfBeds, M_reason, M_row, M_bestRow, M_image, M_isKept)) (fun r_17 => (Option.bind (f_X6_in x1 (nI 0) (r_17 - (nI 1))) (fun r_22 => (if r_22 = 0 then some ((-6 : Int32), (M_beds, M_law, M_worths, M_sights, M_sight, M_signs, M_pad, M_lies, M_empty, M_list, M_waits, M_yard, M_last, M_used, M_sheets, M_nights, M_fleasOfGuests, M_fleasOfBeds, M_reason, M_row, M_bestRow, M_image, M_isKept)) else f_X6_could_L35 x1 FU (nI 0) (nI 0) M_beds M_law M_worths M_sights M_sight M_signs M_pad M_lies M_empty M_list M_waits M_yard M_last M_used M_sheets M_nights M_fleasOfGuests M_fleasOfBeds M_reason M_row M_bestRow M_image M_isKept (fun x2_L35 x3_L35 M_beds_L35 M_law_L35 M_worths_L35 M_sights_L35 M_sight_L35 M_signs_L35 M_pad_L35 M_lies_L35 M_empty_L35 M_list_L35 M_waits_L35 M_yard_L35 M_last_L35 M_used_L35 M_sheets_L35 M_nights_L35 M_fleasOfGuests_L35 M_fleasOfBeds_L35 M_reason_L35 M_row_L35 M_bestRow_L35 M_image_L35 M_isKept_L35 => some (x2_L35, (M_beds_L35, M_law_L35, M_worths_L35, M_sights_L35, M_sight_L35, M_signs_L35, M_pad_L35, M_lies_L35, M_empty_L35, M_list_L35, M_waits_L35, M_yard_L35, M_last_L35, M_used_L35, M_sheets_L35, M_nights_L35, M_fleasOfGuests_L35, M_fleasOfBeds_L35, M_reason_L35, M_row_L35, M_bestRow_L35, M_image_L35, M_isKept_L35)))))))) else some ((-5 : Int32), (M_beds, M_law, M_worths, M_sights, M_sight, M_signs, M_pad, M_lies, M_empty, M_list, M_waits, M_yard, M_last, M_used, M_sheets, M_nights, M_fleasOfGuests, M_fleasOfBeds, M_reason, M_row, M_bestRow, M_image, M_isKept)))))
set_option maxHeartbeats 4000000 in
set_option maxRecDepth 100000 in
theorem c_X6_could (l : Launch) (D : va_G) (cI cZ : ClassId) (aM : Nat → Nat) (x1 : Int32) (tM : ModS) (rr : Int32 × ModS) (hf : f_X6_could x1 tM = some rr) : CT l D cI cZ yX6_could cX6_could 4 (some .int) 6 141 0 0 [.ref (aM 0), .int x1] ([mC cI cZ aM tM]) (gPost (some (.int rr.1)) ([mC cI cZ aM rr.2])) := by
  obtain ⟨M_beds, M_law, M_worths, M_sights, M_sight, M_signs, M_pad, M_lies, M_empty, M_list, M_waits, M_yard, M_last, M_used, M_sheets, M_nights, M_fleasOfGuests, M_fleasOfBeds, M_reason, M_row, M_bestRow, M_image, M_isKept⟩ := tM
  rw [f_X6_could] at hf
  refine CT.mkI (by decide) (Nat.le_of_ble_eq_true rfl) fun {p} {e} {R} {s} {m} {args} {below} {meth} {c} {A} {H0} {Q} C hA hR hret => ?_
  show G p l e R s m args below meth c 4 D A H0 0 0 Q [mC cI cZ aM (M_beds, M_law, M_worths, M_sights, M_sight, M_signs, M_pad, M_lies, M_empty, M_list, M_waits, M_yard, M_last, M_used, M_sheets, M_nights, M_fleasOfGuests, M_fleasOfBeds, M_reason, M_row, M_bestRow, M_image, M_isKept)] 0 [(0, .ref (aM 0)), (1, .int x1)] []
  refine gq_aload_n C 0 1 dX6_could_0 rfl rfl ?_
  obtain ⟨r_1, hc, hf⟩ := gq_bd hf
  refine gq_callV C hA gm_X6_77 (c_X6_faultOf l D cI cZ aM (M_beds, M_law, M_worths, M_sights, M_sight, M_signs, M_pad, M_lies, M_empty, M_list, M_waits, M_yard, M_last, M_used, M_sheets, M_nights, M_fleasOfGuests, M_fleasOfBeds, M_reason, M_row, M_bestRow, M_image, M_isKept) _ hc) rfl 0 0 rfl rfl rfl ⟨Nat.le_trans (Nat.le_of_ble_eq_true rfl) hR.1, Nat.le_trans (Nat.le_of_ble_eq_true rfl) hR.2.1⟩ ⟨Nat.zero_le _, Nat.zero_le _⟩ rfl (Nat.le_of_ble_eq_true rfl) dX6_could_1 [0] [mC cI cZ aM (M_beds, M_law, M_worths, M_sights, M_sight, M_signs, M_pad, M_lies, M_empty, M_list, M_waits, M_yard, M_last, M_used, M_sheets, M_nights, M_fleasOfGuests, M_fleasOfBeds, M_reason, M_row, M_bestRow, M_image, M_isKept)] 4 rfl (by decide) rfl rfl rfl [.int r_1] rfl ?_
  refine gq_if_lt C 10 7 dX6_could_4 (by decide) rfl (fun h4 => ?_) (fun h4 => ?_)
  · replace hf := gq_ifp h4 hf
    refine gq_iload_n C 1 11 dX6_could_10 rfl rfl ?_
    refine gq_iconst C (nI 0) 12 dX6_could_11 (by decide) rfl ?_
    refine gq_aload_n C 0 13 dX6_could_12 rfl rfl ?_
    refine gq_aload_n C 0 14 dX6_could_13 rfl rfl ?_
    refine gq_get C fo_X6_5 fw_X6_74 0 0 17 rfl rfl rfl dX6_could_14 rfl ?_
    obtain ⟨r_17, hc, hf⟩ := gq_bd hf
    refine gq_callV C hA gm_X6_137 (c_X6_opens l D cI cZ aM M_signs (M_beds, M_law, M_worths, M_sights, M_sight, M_signs, M_pad, M_lies, M_empty, M_list, M_waits, M_yard, M_last, M_used, M_sheets, M_nights, M_fleasOfGuests, M_fleasOfBeds, M_reason, M_row, M_bestRow, M_image, M_isKept) _ hc) rfl 0 0 rfl rfl rfl ⟨Nat.le_trans (Nat.le_of_ble_eq_true rfl) hR.1, Nat.le_trans (Nat.le_of_ble_eq_true rfl) hR.2.1⟩ ⟨Nat.zero_le _, Nat.zero_le _⟩ rfl (Nat.le_of_ble_eq_true rfl) dX6_could_17 [0] [mC cI cZ aM (M_beds, M_law, M_worths, M_sights, M_sight, M_signs, M_pad, M_lies, M_empty, M_list, M_waits, M_yard, M_last, M_used, M_sheets, M_nights, M_fleasOfGuests, M_fleasOfBeds, M_reason, M_row, M_bestRow, M_image, M_isKept)] 20 rfl (by decide) rfl rfl rfl [.int r_17, .int (nI 0), .int x1] rfl ?_
    refine gq_iconst C (nI 1) 21 dX6_could_20 (by decide) rfl ?_
    refine gq_isub C 22 dX6_could_21 rfl ?_
    obtain ⟨r_22, hc, hf⟩ := gq_bd hf
    refine gq_callS C hA gm_X6_60 (c_X6_in l D cI cZ  x1 (nI 0) (r_17 - (nI 1)) _ hc) rfl ⟨Nat.le_trans (Nat.le_of_ble_eq_true rfl) hR.1, Nat.le_trans (Nat.le_of_ble_eq_true rfl) hR.2.1⟩ ⟨Nat.zero_le _, Nat.zero_le _⟩ rfl (Nat.le_of_ble_eq_true rfl) dX6_could_22 [] [mC cI cZ aM (M_beds, M_law, M_worths, M_sights, M_sight, M_signs, M_pad, M_lies, M_empty, M_list, M_waits, M_yard, M_last, M_used, M_sheets, M_nights, M_fleasOfGuests, M_fleasOfBeds, M_reason, M_row, M_bestRow, M_image, M_isKept)] 25 rfl (by decide) rfl rfl rfl [.int r_22] rfl ?_
    refine gq_if_ne C 31 28 dX6_could_25 (by decide) rfl (fun h25 => ?_) (fun h25 => ?_)
    · replace hf := gq_ifn h25 hf
      refine gq_iconst C (nI 0) 32 dX6_could_31 (by decide) rfl ?_
      refine gq_istore_n C [(2, .int (nI 0)), (0, .ref (aM 0)), (1, .int x1)] 33 dX6_could_32 (by decide) rfl rfl ?_
      refine gq_iconst C (nI 0) 34 dX6_could_33 (by decide) rfl ?_
      refine gq_istore_n C [(3, .int (nI 0)), (2, .int (nI 0)), (0, .ref (aM 0)), (1, .int x1)] 35 dX6_could_34 (by decide) rfl rfl ?_
      have L35 : ∀ (kL : Int32 → Int32 → Int32 → Int32 → (Nat → Int32) → Int32 → (Nat → Int32) → Int32 → (Nat → Int32) → (Nat → Int32) → Int32 → (Nat → Int32) → Int32 → (Nat → Int32) → (Nat → Int32) → (Nat → Int32) → (Nat → Int32) → (Nat → Int32) → Int32 → Int32 → Int32 → (Nat → Int32) → (Nat → Int32) → (Nat → Int32) → (Nat → Int32) → Option (Int32 × ModS)), (∀ (x2_L35 : Int32) (x3_L35 : Int32) (M_beds_L35 : Int32) (M_law_L35 : Int32) (M_worths_L35 : (Nat → Int32)) (M_sights_L35 : Int32) (M_sight_L35 : (Nat → Int32)) (M_signs_L35 : Int32) (M_pad_L35 : (Nat → Int32)) (M_lies_L35 : (Nat → Int32)) (M_empty_L35 : Int32) (M_list_L35 : (Nat → Int32)) (M_waits_L35 : Int32) (M_yard_L35 : (Nat → Int32)) (M_last_L35 : (Nat → Int32)) (M_used_L35 : (Nat → Int32)) (M_sheets_L35 : (Nat → Int32)) (M_nights_L35 : (Nat → Int32)) (M_fleasOfGuests_L35 : Int32) (M_fleasOfBeds_L35 : Int32) (M_reason_L35 : Int32) (M_row_L35 : (Nat → Int32)) (M_bestRow_L35 : (Nat → Int32)) (M_image_L35 : (Nat → Int32)) (M_isKept_L35 : (Nat → Int32)), kL x2_L35 x3_L35 M_beds_L35 M_law_L35 M_worths_L35 M_sights_L35 M_sight_L35 M_signs_L35 M_pad_L35 M_lies_L35 M_empty_L35 M_list_L35 M_waits_L35 M_yard_L35 M_last_L35 M_used_L35 M_sheets_L35 M_nights_L35 M_fleasOfGuests_L35 M_fleasOfBeds_L35 M_reason_L35 M_row_L35 M_bestRow_L35 M_image_L35 M_isKept_L35 = some rr → G p l e R s m args below meth c 4 D A H0 0 0 Q [mC cI cZ aM (M_beds_L35, M_law_L35, M_worths_L35, M_sights_L35, M_sight_L35, M_signs_L35, M_pad_L35, M_lies_L35, M_empty_L35, M_list_L35, M_waits_L35, M_yard_L35, M_last_L35, M_used_L35, M_sheets_L35, M_nights_L35, M_fleasOfGuests_L35, M_fleasOfBeds_L35, M_reason_L35, M_row_L35, M_bestRow_L35, M_image_L35, M_isKept_L35)] 72 [(3, .int x3_L35), (2, .int x2_L35), (0, .ref (aM 0)), (1, .int x1)] []) → ∀ (n : Nat) (x2_L35 : Int32) (x3_L35 : Int32) (M_beds_L35 : Int32) (M_law_L35 : Int32) (M_worths_L35 : (Nat → Int32)) (M_sights_L35 : Int32) (M_sight_L35 : (Nat → Int32)) (M_signs_L35 : Int32) (M_pad_L35 : (Nat → Int32)) (M_lies_L35 : (Nat → Int32)) (M_empty_L35 : Int32) (M_list_L35 : (Nat → Int32)) (M_waits_L35 : Int32) (M_yard_L35 : (Nat → Int32)) (M_last_L35 : (Nat → Int32)) (M_used_L35 : (Nat → Int32)) (M_sheets_L35 : (Nat → Int32)) (M_nights_L35 : (Nat → Int32)) (M_fleasOfGuests_L35 : Int32) (M_fleasOfBeds_L35 : Int32) (M_reason_L35 : Int32) (M_row_L35 : (Nat → Int32)) (M_bestRow_L35 : (Nat → Int32)) (M_image_L35 : (Nat → Int32)) (M_isKept_L35 : (Nat → Int32)), f_X6_could_L35 x1 n x2_L35 x3_L35 M_beds_L35 M_law_L35 M_worths_L35 M_sights_L35 M_sight_L35 M_signs_L35 M_pad_L35 M_lies_L35 M_empty_L35 M_list_L35 M_waits_L35 M_yard_L35 M_last_L35 M_used_L35 M_sheets_L35 M_nights_L35 M_fleasOfGuests_L35 M_fleasOfBeds_L35 M_reason_L35 M_row_L35 M_bestRow_L35 M_image_L35 M_isKept_L35 kL = some rr → G p l e R s m args below meth c 4 D A H0 0 0 Q [mC cI cZ aM (M_beds_L35, M_law_L35, M_worths_L35, M_sights_L35, M_sight_L35, M_signs_L35, M_pad_L35, M_lies_L35, M_empty_L35, M_list_L35, M_waits_L35, M_yard_L35, M_last_L35, M_used_L35, M_sheets_L35, M_nights_L35, M_fleasOfGuests_L35, M_fleasOfBeds_L35, M_reason_L35, M_row_L35, M_bestRow_L35, M_image_L35, M_isKept_L35)] 35 [(3, .int x3_L35), (2, .int x2_L35), (0, .ref (aM 0)), (1, .int x1)] [] := by
        intro kL hkL35 n
        induction n with
        | zero =>
          intro x2_L35 x3_L35 M_beds_L35 M_law_L35 M_worths_L35 M_sights_L35 M_sight_L35 M_signs_L35 M_pad_L35 M_lies_L35 M_empty_L35 M_list_L35 M_waits_L35 M_yard_L35 M_last_L35 M_used_L35 M_sheets_L35 M_nights_L35 M_fleasOfGuests_L35 M_fleasOfBeds_L35 M_reason_L35 M_row_L35 M_bestRow_L35 M_image_L35 M_isKept_L35 hf
          rw [f_X6_could_L35] at hf
          cases hf
        | succ n ihL35 =>
          intro x2_L35 x3_L35 M_beds_L35 M_law_L35 M_worths_L35 M_sights_L35 M_sight_L35 M_signs_L35 M_pad_L35 M_lies_L35 M_empty_L35 M_list_L35 M_waits_L35 M_yard_L35 M_last_L35 M_used_L35 M_sheets_L35 M_nights_L35 M_fleasOfGuests_L35 M_fleasOfBeds_L35 M_reason_L35 M_row_L35 M_bestRow_L35 M_image_L35 M_isKept_L35 hf
          rw [f_X6_could_L35] at hf
          refine gq_iload_n C 0 36 dX6_could_35 rfl rfl ?_
          refine gq_aload_n C 2 37 dX6_could_36 rfl rfl ?_
          obtain ⟨r_37, hc, hf⟩ := gq_bd hf
          refine gq_callV C hA gm_X6_168 (c_X6_codes l D cI cZ aM (M_beds_L35, M_law_L35, M_worths_L35, M_sights_L35, M_sight_L35, M_signs_L35, M_pad_L35, M_lies_L35, M_empty_L35, M_list_L35, M_waits_L35, M_yard_L35, M_last_L35, M_used_L35, M_sheets_L35, M_nights_L35, M_fleasOfGuests_L35, M_fleasOfBeds_L35, M_reason_L35, M_row_L35, M_bestRow_L35, M_image_L35, M_isKept_L35) _ hc) rfl 0 0 rfl rfl rfl ⟨Nat.le_trans (Nat.le_of_ble_eq_true rfl) hR.1, Nat.le_trans (Nat.le_of_ble_eq_true rfl) hR.2.1⟩ ⟨Nat.zero_le _, Nat.zero_le _⟩ rfl (Nat.le_of_ble_eq_true rfl) dX6_could_37 [0] [mC cI cZ aM (M_beds_L35, M_law_L35, M_worths_L35, M_sights_L35, M_sight_L35, M_signs_L35, M_pad_L35, M_lies_L35, M_empty_L35, M_list_L35, M_waits_L35, M_yard_L35, M_last_L35, M_used_L35, M_sheets_L35, M_nights_L35, M_fleasOfGuests_L35, M_fleasOfBeds_L35, M_reason_L35, M_row_L35, M_bestRow_L35, M_image_L35, M_isKept_L35)] 40 rfl (by decide) rfl rfl rfl [.int r_37, .int x3_L35] rfl ?_
          refine gq_icmp_ge C 72 43 dX6_could_40 (by decide) rfl (fun h40 => ?_) (fun h40 => ?_)
          · replace hf := gq_ifp h40 hf
            exact hkL35 _ _ _ _ _ _ _ _ _ _ _ _ _ _ _ _ _ _ _ _ _ _ _ _ _ hf
          · replace hf := gq_ifn h40 hf
            refine gq_iload_n C 1 44 dX6_could_43 rfl rfl ?_
            refine gq_aload_n C 2 45 dX6_could_44 rfl rfl ?_
            refine gq_iload_n C 0 46 dX6_could_45 rfl rfl ?_
            obtain ⟨⟨r_46, ⟨M_beds_46, M_law_46, M_worths_46, M_sights_46, M_sight_46, M_signs_46, M_pad_46, M_lies_46, M_empty_46, M_list_46, M_waits_46, M_yard_46, M_last_46, M_used_46, M_sheets_46, M_nights_46, M_fleasOfGuests_46, M_fleasOfBeds_46, M_reason_46, M_row_46, M_bestRow_46, M_image_46, M_isKept_46⟩⟩, hc, hf⟩ := gq_bd hf
            refine gq_callV C hA gm_X6_171 (c_X6_isFit l D cI cZ aM x3_L35 (M_beds_L35, M_law_L35, M_worths_L35, M_sights_L35, M_sight_L35, M_signs_L35, M_pad_L35, M_lies_L35, M_empty_L35, M_list_L35, M_waits_L35, M_yard_L35, M_last_L35, M_used_L35, M_sheets_L35, M_nights_L35, M_fleasOfGuests_L35, M_fleasOfBeds_L35, M_reason_L35, M_row_L35, M_bestRow_L35, M_image_L35, M_isKept_L35) _ hc) rfl 0 0 rfl rfl rfl ⟨Nat.le_trans (Nat.le_of_ble_eq_true rfl) hR.1, Nat.le_trans (Nat.le_of_ble_eq_true rfl) hR.2.1⟩ ⟨Nat.zero_le _, Nat.zero_le _⟩ rfl (Nat.le_of_ble_eq_true rfl) dX6_could_46 [0] [mC cI cZ aM (M_beds_46, M_law_46, M_worths_46, M_sights_46, M_sight_46, M_signs_46, M_pad_46, M_lies_46, M_empty_46, M_list_46, M_waits_46, M_yard_46, M_last_46, M_used_46, M_sheets_46, M_nights_46, M_fleasOfGuests_46, M_fleasOfBeds_46, M_reason_46, M_row_46, M_bestRow_46, M_image_46, M_isKept_46)] 49 rfl (by decide) rfl rfl rfl [.int r_46, .int x2_L35] rfl ?_
            refine gq_if_eq C 63 52 dX6_could_49 (by decide) rfl (fun h49 => ?_) (fun h49 => ?_)
            · replace hf := gq_ifp h49 hf
              refine gq_iconst C (nI 0) 64 dX6_could_63 (by decide) rfl ?_
              refine gq_ior C 65 dX6_could_64 rfl ?_
              refine gq_istore_n C [(2, .int (x2_L35 ||| (nI 0))), (3, .int x3_L35), (0, .ref (aM 0)), (1, .int x1)] 66 dX6_could_65 (by decide) rfl rfl ?_
              refine gq_iinc C 1 [(3, .int (x3_L35 + (nI 1))), (2, .int (x2_L35 ||| (nI 0))), (0, .ref (aM 0)), (1, .int x1)] 69 dX6_could_66 rfl rfl (by decide) rfl rfl ?_
              refine gq_goto C 35 dX6_could_69 (by decide) ?_
              exact ihL35 _ _ _ _ _ _ _ _ _ _ _ _ _ _ _ _ _ _ _ _ _ _ _ _ _ hf
            · replace hf := gq_ifn h49 hf
              refine gq_iconst C (nI 1) 53 dX6_could_52 (by decide) rfl ?_
              refine gq_aload_n C 2 54 dX6_could_53 rfl rfl ?_
              refine gq_iload_n C 0 55 dX6_could_54 rfl rfl ?_
              refine gq_iload_n C 3 56 dX6_could_55 rfl rfl ?_
              obtain ⟨r_56, hc, hf⟩ := gq_bd hf
              refine gq_callV C hA gm_X6_174 (c_X6_guestAt l D cI cZ aM x3_L35 x1 (M_beds_46, M_law_46, M_worths_46, M_sights_46, M_sight_46, M_signs_46, M_pad_46, M_lies_46, M_empty_46, M_list_46, M_waits_46, M_yard_46, M_last_46, M_used_46, M_sheets_46, M_nights_46, M_fleasOfGuests_46, M_fleasOfBeds_46, M_reason_46, M_row_46, M_bestRow_46, M_image_46, M_isKept_46) _ hc) rfl 0 0 rfl rfl rfl ⟨Nat.le_trans (Nat.le_of_ble_eq_true rfl) hR.1, Nat.le_trans (Nat.le_of_ble_eq_true rfl) hR.2.1⟩ ⟨Nat.zero_le _, Nat.zero_le _⟩ rfl (Nat.le_of_ble_eq_true rfl) dX6_could_56 [0] [mC cI cZ aM (M_beds_46, M_law_46, M_worths_46, M_sights_46, M_sight_46, M_signs_46, M_pad_46, M_lies_46, M_empty_46, M_list_46, M_waits_46, M_yard_46, M_last_46, M_used_46, M_sheets_46, M_nights_46, M_fleasOfGuests_46, M_fleasOfBeds_46, M_reason_46, M_row_46, M_bestRow_46, M_image_46, M_isKept_46)] 59 rfl (by decide) rfl rfl rfl [.int r_56, .int (nI 1), .int x2_L35] rfl ?_
              refine gq_ishl C 60 dX6_could_59 rfl ?_
              refine gq_goto C 64 dX6_could_60 (by decide) ?_
              refine gq_ior C 65 dX6_could_64 rfl ?_
              refine gq_istore_n C [(2, .int (x2_L35 ||| ((nI 1) <<< (r_56 &&& 31)))), (3, .int x3_L35), (0, .ref (aM 0)), (1, .int x1)] 66 dX6_could_65 (by decide) rfl rfl ?_
              refine gq_iinc C 1 [(3, .int (x3_L35 + (nI 1))), (2, .int (x2_L35 ||| ((nI 1) <<< (r_56 &&& 31)))), (0, .ref (aM 0)), (1, .int x1)] 69 dX6_could_66 rfl rfl (by decide) rfl rfl ?_
              refine gq_goto C 35 dX6_could_69 (by decide) ?_
              exact ihL35 _ _ _ _ _ _ _ _ _ _ _ _ _ _ _ _ _ _ _ _ _ _ _ _ _ hf
      refine L35 _ (fun x2_L35 x3_L35 M_beds_L35 M_law_L35 M_worths_L35 M_sights_L35 M_sight_L35 M_signs_L35 M_pad_L35 M_lies_L35 M_empty_L35 M_list_L35 M_waits_L35 M_yard_L35 M_last_L35 M_used_L35 M_sheets_L35 M_nights_L35 M_fleasOfGuests_L35 M_fleasOfBeds_L35 M_reason_L35 M_row_L35 M_bestRow_L35 M_image_L35 M_isKept_L35 hf => ?_) _ _ _ _ _ _ _ _ _ _ _ _ _ _ _ _ _ _ _ _ _ _ _ _ _ _ hf
      refine gq_iload_n C 1 73 dX6_could_72 rfl rfl ?_
      obtain rfl := gq_lf hf
      exact hret dX6_could_73 gPost.rf
    · replace hf := gq_ifp h25 hf
      refine gq_bipush C (-6 : Int32) 30 dX6_could_28 (by decide) rfl ?_
      obtain rfl := gq_lf hf
      exact hret dX6_could_30 gPost.rf
  · replace hf := gq_ifn h4 hf
    refine gq_bipush C (-5 : Int32) 9 dX6_could_7 (by decide) rfl ?_
    obtain rfl := gq_lf hf
    exact hret dX6_could_9 gPost.rf

def f_X6_power_L5 (c_x0 : Int64) (c_x2 : Int32) : Nat → Int64 → Int32 → (Int64 → Int32 → Option (Int64)) → Option (Int64)
  | 0, _, _, _ => none
  | nL5 + 1, x3_L5, x5_L5, kL5 => (if c_x2 ≤ x5_L5 then kL5 x3_L5 x5_L5 else f_X6_power_L5 c_x0 c_x2 nL5 (x3_L5 * c_x0) (x5_L5 + (nI 1)) kL5)
def f_X6_power : Int64 → Int32 → Option (Int64)
  | x0, x2 => f_X6_power_L5 x0 x2 FU (lN 1) (nI 0) (fun x3_L5 x5_L5 => some x3_L5)
set_option maxHeartbeats 4000000 in
set_option maxRecDepth 100000 in
theorem c_X6_power (l : Launch) (D : va_G) (cI cZ : ClassId) (x0 : Int64) (x2 : Int32) (rr : Int64) (hf : f_X6_power x0 x2 = some rr) : CT l D cI cZ yX6_power cX6_power 6 (some .long) 0 0 0 0 [.long x0, .int x2] ([]) (gPost (some (.long rr)) ([])) := by
  rw [f_X6_power] at hf
  refine CT.mkL (by decide) (Nat.le_of_ble_eq_true rfl) fun {p} {e} {R} {s} {m} {args} {below} {meth} {c} {A} {H0} {Q} C hA hR hret => ?_
  show G p l e R s m args below meth c 6 D A H0 0 0 Q [] 0 [(0, .long x0), (2, .int x2)] []
  refine gq_lconst C (lN 1) 1 dX6_power_0 (by decide) rfl ?_
  refine gq_lstore_n C [(3, .long (lN 1)), (0, .long x0), (2, .int x2)] 2 dX6_power_1 (by decide) rfl rfl ?_
  refine gq_iconst C (nI 0) 3 dX6_power_2 (by decide) rfl ?_
  refine gq_istore C [(5, .int (nI 0)), (3, .long (lN 1)), (0, .long x0), (2, .int x2)] 5 dX6_power_3 (by decide) rfl rfl ?_
  have L5 : ∀ (kL : Int64 → Int32 → Option (Int64)), (∀ (x3_L5 : Int64) (x5_L5 : Int32), kL x3_L5 x5_L5 = some rr → G p l e R s m args below meth c 6 D A H0 0 0 Q [] 21 [(5, .int x5_L5), (3, .long x3_L5), (0, .long x0), (2, .int x2)] []) → ∀ (n : Nat) (x3_L5 : Int64) (x5_L5 : Int32), f_X6_power_L5 x0 x2 n x3_L5 x5_L5 kL = some rr → G p l e R s m args below meth c 6 D A H0 0 0 Q [] 5 [(5, .int x5_L5), (3, .long x3_L5), (0, .long x0), (2, .int x2)] [] := by
    intro kL hkL5 n
    induction n with
    | zero =>
      intro x3_L5 x5_L5 hf
      rw [f_X6_power_L5] at hf
      cases hf
    | succ n ihL5 =>
      intro x3_L5 x5_L5 hf
      rw [f_X6_power_L5] at hf
      refine gq_iload C 0 7 dX6_power_5 rfl rfl ?_
      refine gq_iload_n C 3 8 dX6_power_7 rfl rfl ?_
      refine gq_icmp_ge C 21 11 dX6_power_8 (by decide) rfl (fun h8 => ?_) (fun h8 => ?_)
      · replace hf := gq_ifp h8 hf
        exact hkL5 _ _ hf
      · replace hf := gq_ifn h8 hf
        refine gq_lload_n C 1 12 dX6_power_11 rfl rfl ?_
        refine gq_lload_n C 2 13 dX6_power_12 rfl rfl ?_
        refine gq_lmul C 14 dX6_power_13 rfl ?_
        refine gq_lstore_n C [(3, .long (x3_L5 * x0)), (5, .int x5_L5), (0, .long x0), (2, .int x2)] 15 dX6_power_14 (by decide) rfl rfl ?_
        refine gq_iinc C 1 [(5, .int (x5_L5 + (nI 1))), (3, .long (x3_L5 * x0)), (0, .long x0), (2, .int x2)] 18 dX6_power_15 rfl rfl (by decide) rfl rfl ?_
        refine gq_goto C 5 dX6_power_18 (by decide) ?_
        exact ihL5 _ _ hf
  refine L5 _ (fun x3_L5 x5_L5 hf => ?_) _ _ _ hf
  refine gq_lload_n C 1 22 dX6_power_21 rfl rfl ?_
  obtain rfl := gq_lf hf
  exact hret dX6_power_22 gPost.rf

def f_X6_chance_L160 (c_M_beds : Int32) (c_M_lies : (Nat → Int32)) : Nat → Int32 → (Int32 → Option (Int64 × ModS)) → Option (Int64 × ModS)
  | 0, _, _ => none
  | nL160 + 1, x13_L160, kL160 => (if c_M_beds ≤ x13_L160 then kL160 x13_L160 else (if x13_L160 < 0 ∨ 8 ≤ x13_L160.toNatClampNeg then none else (if 0 ≤ (c_M_lies x13_L160.toNatClampNeg) then kL160 x13_L160 else f_X6_chance_L160 c_M_beds c_M_lies nL160 (x13_L160 + (nI 1)) kL160)))
def f_X6_chance_L112 (c_x8 : Int32) (c_x2 : Int32) (c_x3 : Int32) : Nat → Int64 → Int32 → Int32 → Int32 → (Nat → Int32) → Int32 → (Nat → Int32) → Int32 → (Nat → Int32) → (Nat → Int32) → Int32 → (Nat → Int32) → Int32 → (Nat → Int32) → (Nat → Int32) → (Nat → Int32) → (Nat → Int32) → (Nat → Int32) → Int32 → Int32 → Int32 → (Nat → Int32) → (Nat → Int32) → (Nat → Int32) → (Nat → Int32) → (Int64 → Int32 → Int32 → Int32 → (Nat → Int32) → Int32 → (Nat → Int32) → Int32 → (Nat → Int32) → (Nat → Int32) → Int32 → (Nat → Int32) → Int32 → (Nat → Int32) → (Nat → Int32) → (Nat → Int32) → (Nat → Int32) → (Nat → Int32) → Int32 → Int32 → Int32 → (Nat → Int32) → (Nat → Int32) → (Nat → Int32) → (Nat → Int32) → Option (Int64 × ModS)) → Option (Int64 × ModS)
  | 0, _, _, _, _, _, _, _, _, _, _, _, _, _, _, _, _, _, _, _, _, _, _, _, _, _, _ => none
  | nL112 + 1, x10_L112, x12_L112, M_beds_L112, M_law_L112, M_worths_L112, M_sights_L112, M_sight_L112, M_signs_L112, M_pad_L112, M_lies_L112, M_empty_L112, M_list_L112, M_waits_L112, M_yard_L112, M_last_L112, M_used_L112, M_sheets_L112, M_nights_L112, M_fleasOfGuests_L112, M_fleasOfBeds_L112, M_reason_L112, M_row_L112, M_bestRow_L112, M_image_L112, M_isKept_L112, kL112 => (if c_x2 ≤ x12_L112 then kL112 x10_L112 x12_L112 M_beds_L112 M_law_L112 M_worths_L112 M_sights_L112 M_sight_L112 M_signs_L112 M_pad_L112 M_lies_L112 M_empty_L112 M_list_L112 M_waits_L112 M_yard_L112 M_last_L112 M_used_L112 M_sheets_L112 M_nights_L112 M_fleasOfGuests_L112 M_fleasOfBeds_L112 M_reason_L112 M_row_L112 M_bestRow_L112 M_image_L112 M_isKept_L112 else (Option.bind (f_X6_has c_x8 x12_L112) (fun r_122 => (if r_122 = 0 then f_X6_chance_L160 M_beds_L112 M_lies_L112 FU (nI 0) (fun x13_L160 => (if M_beds_L112 ≤ x13_L160 then f_X6_chance_L112 c_x8 c_x2 c_x3 nL112 (x10_L112 * (((nI 10) - c_x3)).toInt64) (x12_L112 + (nI 1)) M_beds_L112 M_law_L112 M_worths_L112 M_sights_L112 M_sight_L112 M_signs_L112 M_pad_L112 M_lies_L112 M_empty_L112 M_list_L112 M_waits_L112 M_yard_L112 M_last_L112 M_used_L112 M_sheets_L112 M_nights_L112 M_fleasOfGuests_L112 M_fleasOfBeds_L112 M_reason_L112 M_row_L112 M_bestRow_L112 M_image_L112 M_isKept_L112 kL112 else (if x13_L160 < 0 ∨ 8 ≤ x13_L160.toNatClampNeg then none else (Option.bind (f_X6_goOut (M_lies_L112 x13_L160.toNatClampNeg) (M_beds_L112, M_law_L112, M_worths_L112, M_sights_L112, M_sight_L112, M_signs_L112, M_pad_L112, M_lies_L112, M_empty_L112, M_list_L112, M_waits_L112, M_yard_L112, M_last_L112, M_used_L112, M_sheets_L112, M_nights_L112, M_fleasOfGuests_L112, M_fleasOfBeds_L112, M_reason_L112, M_row_L112, M_bestRow_L112, M_image_L112, M_isKept_L112)) (fun (M_beds_202, M_law_202, M_worths_202, M_sights_202, M_sight_202, M_signs_202, M_pad_202, M_lies_202, M_empty_202, M_list_202, M_waits_202, M_yard_202, M_last_202, M_used_202, M_sheets_202, M_nights_202, M_fleasOfGuests_202, M_fleasOfBeds_202, M_reason_202, M_row_202, M_bestRow_202, M_image_202, M_isKept_202) => f_X6_chance_L112 c_x8 c_x2 c_x3 nL112 (x10_L112 * (((nI 10) - c_x3)).toInt64) (x12_L112 + (nI 1)) M_beds_202 M_law_202 M_worths_202 M_sights_202 M_sight_202 M_signs_202 M_pad_202 M_lies_202 M_empty_202 M_list_202 M_waits_202 M_yard_202 M_last_202 M_used_202 M_sheets_202 M_nights_202 M_fleasOfGuests_202 M_fleasOfBeds_202 M_reason_202 M_row_202 M_bestRow_202 M_image_202 M_isKept_202 kL112))))) else (Option.bind (f_X6_comeIn ((nI 8) + x12_L112) (M_beds_L112, M_law_L112, M_worths_L112, M_sights_L112, M_sight_L112, M_signs_L112, M_pad_L112, M_lies_L112, M_empty_L112, M_list_L112, M_waits_L112, M_yard_L112, M_last_L112, M_used_L112, M_sheets_L112, M_nights_L112, M_fleasOfGuests_L112, M_fleasOfBeds_L112, M_reason_L112, M_row_L112, M_bestRow_L112, M_image_L112, M_isKept_L112)) (fun (M_beds_141, M_law_141, M_worths_141, M_sights_141, M_sight_141, M_signs_141, M_pad_141, M_lies_141, M_empty_141, M_list_141, M_waits_141, M_yard_141, M_last_141, M_used_141, M_sheets_141, M_nights_141, M_fleasOfGuests_141, M_fleasOfBeds_141, M_reason_141, M_row_141, M_bestRow_141, M_image_141, M_isKept_141) => f_X6_chance_L112 c_x8 c_x2 c_x3 nL112 (x10_L112 * (c_x3).toInt64) (x12_L112 + (nI 1)) M_beds_141 M_law_141 M_worths_141 M_sights_141 M_sight_141 M_signs_141 M_pad_141 M_lies_141 M_empty_141 M_list_141 M_waits_141 M_yard_141 M_last_141 M_used_141 M_sheets_141 M_nights_141 M_fleasOfGuests_141 M_fleasOfBeds_141 M_reason_141 M_row_141 M_bestRow_141 M_image_141 M_isKept_141 kL112))))))
def f_X6_chance_L75 (c_x1 : Int32) (c_x2 : Int32) (c_x3 : Int32) : Nat → Int64 → Int32 → Int32 → Int32 → (Nat → Int32) → Int32 → (Nat → Int32) → Int32 → (Nat → Int32) → (Nat → Int32) → Int32 → (Nat → Int32) → Int32 → (Nat → Int32) → (Nat → Int32) → (Nat → Int32) → (Nat → Int32) → (Nat → Int32) → Int32 → Int32 → Int32 → (Nat → Int32) → (Nat → Int32) → (Nat → Int32) → (Nat → Int32) → (Int64 → Int32 → Int32 → Int32 → (Nat → Int32) → Int32 → (Nat → Int32) → Int32 → (Nat → Int32) → (Nat → Int32) → Int32 → (Nat → Int32) → Int32 → (Nat → Int32) → (Nat → Int32) → (Nat → Int32) → (Nat → Int32) → (Nat → Int32) → Int32 → Int32 → Int32 → (Nat → Int32) → (Nat → Int32) → (Nat → Int32) → (Nat → Int32) → Option (Int64 × ModS)) → Option (Int64 × ModS)
  | 0, _, _, _, _, _, _, _, _, _, _, _, _, _, _, _, _, _, _, _, _, _, _, _, _, _, _ => none
  | nL75 + 1, x6_L75, x8_L75, M_beds_L75, M_law_L75, M_worths_L75, M_sights_L75, M_sight_L75, M_signs_L75, M_pad_L75, M_lies_L75, M_empty_L75, M_list_L75, M_waits_L75, M_yard_L75, M_last_L75, M_used_L75, M_sheets_L75, M_nights_L75, M_fleasOfGuests_L75, M_fleasOfBeds_L75, M_reason_L75, M_row_L75, M_bestRow_L75, M_image_L75, M_isKept_L75, kL75 => (if ((nI 1) <<< (c_x2 &&& 31)) ≤ x8_L75 then kL75 x6_L75 x8_L75 M_beds_L75 M_law_L75 M_worths_L75 M_sights_L75 M_sight_L75 M_signs_L75 M_pad_L75 M_lies_L75 M_empty_L75 M_list_L75 M_waits_L75 M_yard_L75 M_last_L75 M_used_L75 M_sheets_L75 M_nights_L75 M_fleasOfGuests_L75 M_fleasOfBeds_L75 M_reason_L75 M_row_L75 M_bestRow_L75 M_image_L75 M_isKept_L75 else (Option.bind (f_X6_go M_signs_L75 (nI 0) (-6 : Int32) (nI 0) (M_beds_L75, M_law_L75, M_worths_L75, M_sights_L75, M_sight_L75, M_signs_L75, M_pad_L75, M_lies_L75, M_empty_L75, M_list_L75, M_waits_L75, M_yard_L75, M_last_L75, M_used_L75, M_sheets_L75, M_nights_L75, M_fleasOfGuests_L75, M_fleasOfBeds_L75, M_reason_L75, M_row_L75, M_bestRow_L75, M_image_L75, M_isKept_L75)) (fun (r_92, (M_beds_92, M_law_92, M_worths_92, M_sights_92, M_sight_92, M_signs_92, M_pad_92, M_lies_92, M_empty_92, M_list_92, M_waits_92, M_yard_92, M_last_92, M_used_92, M_sheets_92, M_nights_92, M_fleasOfGuests_92, M_fleasOfBeds_92, M_reason_92, M_row_92, M_bestRow_92, M_image_92, M_isKept_92)) => gJn (fun (z0_J107 : Int64) => f_X6_chance_L112 x8_L75 c_x2 c_x3 FU z0_J107 (nI 0) M_beds_92 M_law_92 M_worths_92 M_sights_92 M_sight_92 M_signs_92 M_pad_92 M_lies_92 M_empty_92 M_list_92 M_waits_92 M_yard_92 M_last_92 M_used_92 M_sheets_92 M_nights_92 M_fleasOfGuests_92 M_fleasOfBeds_92 M_reason_92 M_row_92 M_bestRow_92 M_image_92 M_isKept_92 (fun x10_L112 x12_L112 M_beds_L112 M_law_L112 M_worths_L112 M_sights_L112 M_sight_L112 M_signs_L112 M_pad_L112 M_lies_L112 M_empty_L112 M_list_L112 M_waits_L112 M_yard_L112 M_last_L112 M_used_L112 M_sheets_L112 M_nights_L112 M_fleasOfGuests_L112 M_fleasOfBeds_L112 M_reason_L112 M_row_L112 M_bestRow_L112 M_image_L112 M_isKept_L112 => (if c_x1 < 0 ∨ 8 ≤ c_x1.toNatClampNeg then none else (if (M_lies_L112 c_x1.toNatClampNeg) < 0 then f_X6_chance_L75 c_x1 c_x2 c_x3 nL75 (x6_L75 + (lN 0)) (x8_L75 + (nI 1)) M_beds_L112 M_law_L112 M_worths_L112 M_sights_L112 M_sight_L112 M_signs_L112 M_pad_L112 M_lies_L112 M_empty_L112 M_list_L112 M_waits_L112 M_yard_L112 M_last_L112 M_used_L112 M_sheets_L112 M_nights_L112 M_fleasOfGuests_L112 M_fleasOfBeds_L112 M_reason_L112 M_row_L112 M_bestRow_L112 M_image_L112 M_isKept_L112 kL75 else f_X6_chance_L75 c_x1 c_x2 c_x3 nL75 (x6_L75 + x10_L112) (x8_L75 + (nI 1)) M_beds_L112 M_law_L112 M_worths_L112 M_sights_L112 M_sight_L112 M_signs_L112 M_pad_L112 M_lies_L112 M_empty_L112 M_list_L112 M_waits_L112 M_yard_L112 M_last_L112 M_used_L112 M_sheets_L112 M_nights_L112 M_fleasOfGuests_L112 M_fleasOfBeds_L112 M_reason_L112 M_row_L112 M_bestRow_L112 M_image_L112 M_isKept_L112 kL75)))) (fun kJ107 => (if 0 ≤ r_92 then kJ107 (lN 0) else kJ107 (lN 1))))))
def f_X6_chance_L254  : Nat → Int64 → Int64 → (Int64 → Int64 → Option (Int64 × ModS)) → Option (Int64 × ModS)
  | 0, _, _, _ => none
  | nL254 + 1, x10_L254, x12_L254, kL254 => (if (lg_cmp x12_L254 (lN 0)) = 0 then kL254 x10_L254 x12_L254 else (if x12_L254 = 0 then none else f_X6_chance_L254  nL254 x12_L254 (x10_L254 - x10_L254 / x12_L254 * x12_L254) kL254))
def f_X6_chance : Int32 → Int32 → Int32 → Int32 → ModS → Option (Int64 × ModS)
  | x1, x2, x3, x4, (M_beds, M_law, M_worths, M_sights, M_sight, M_signs, M_pad, M_lies, M_empty, M_list, M_waits, M_yard, M_last, M_used, M_sheets, M_nights, M_fleasOfGuests, M_fleasOfBeds, M_reason, M_row, M_bestRow, M_image, M_isKept) => (Option.bind (f_X6_isBed x1 (M_beds, M_law, M_worths, M_sights, M_sight, M_signs, M_pad, M_lies, M_empty, M_list, M_waits, M_yard, M_last, M_used, M_sheets, M_nights, M_fleasOfGuests, M_fleasOfBeds, M_reason, M_row, M_bestRow, M_image, M_isKept)) (fun r_2 => (if r_2 = 0 then some ((-1000000000000000001 : Int64), (M_beds, M_law, M_worths, M_sights, M_sight, M_signs, M_pad, M_lies, M_empty, M_list, M_waits, M_yard, M_last, M_used, M_sheets, M_nights, M_fleasOfGuests, M_fleasOfBeds, M_reason, M_row, M_bestRow, M_image, M_isKept)) else (Option.bind (f_X6_in x2 (nI 0) (nI 8)) (fun r_16 => (if r_16 = 0 then some ((-1000000000000000002 : Int64), (M_beds, M_law, M_worths, M_sights, M_sight, M_signs, M_pad, M_lies, M_empty, M_list, M_waits, M_yard, M_last, M_used, M_sheets, M_nights, M_fleasOfGuests, M_fleasOfBeds, M_reason, M_row, M_bestRow, M_image, M_isKept)) else (Option.bind (f_X6_in x3 (nI 0) (nI 10)) (fun r_26 => (if r_26 = 0 then some ((-1000000000000000002 : Int64), (M_beds, M_law, M_worths, M_sights, M_sight, M_signs, M_pad, M_lies, M_empty, M_list, M_waits, M_yard, M_last, M_used, M_sheets, M_nights, M_fleasOfGuests, M_fleasOfBeds, M_reason, M_row, M_bestRow, M_image, M_isKept)) else (Option.bind (f_X6_in x4 (nI 0) (nI 1)) (fun r_36 => (if r_36 = 0 then some ((-1000000000000000002 : Int64), (M_beds, M_law, M_worths, M_sights, M_sight, M_signs, M_pad, M_lies, M_empty, M_list, M_waits, M_yard, M_last, M_used, M_sheets, M_nights, M_fleasOfGuests, M_fleasOfBeds, M_reason, M_row, M_bestRow, M_image, M_isKept)) else (Option.bind (f_X6_barOf M_signs (M_beds, M_law, M_worths, M_sights, M_sight, M_signs, M_pad, M_lies, M_empty, M_list, M_waits, M_yard, M_last, M_used, M_sheets, M_nights, M_fleasOfGuests, M_fleasOfBeds, M_reason, M_row, M_bestRow, M_image, M_isKept)) (fun (r_51, (M_beds_51, M_law_51, M_worths_51, M_sights_51, M_sight_51, M_signs_51, M_pad_51, M_lies_51, M_empty_51, M_list_51, M_waits_51, M_yard_51, M_last_51, M_used_51, M_sheets_51, M_nights_51, M_fleasOfGuests_51, M_fleasOfBeds_51, M_reason_51, M_row_51, M_bestRow_51, M_image_51, M_isKept_51)) => (if 0 ≤ r_51 then f_X6_chance_L75 x1 x2 x3 FU (lN 0) (nI 0) M_beds_51 M_law_51 M_worths_51 M_sights_51 M_sight_51 M_signs_51 M_pad_51 M_lies_51 M_empty_51 M_list_51 M_waits_51 M_yard_51 M_last_51 M_used_51 M_sheets_51 M_nights_51 M_fleasOfGuests_51 M_fleasOfBeds_51 M_reason_51 M_row_51 M_bestRow_51 M_image_51 M_isKept_51 (fun x6_L75 x8_L75 M_beds_L75 M_law_L75 M_worths_L75 M_sights_L75 M_sight_L75 M_signs_L75 M_pad_L75 M_lies_L75 M_empty_L75 M_list_L75 M_waits_L75 M_yard_L75 M_last_L75 M_used_L75 M_sheets_L75 M_nights_L75 M_fleasOfGuests_L75 M_fleasOfBeds_L75 M_reason_L75 M_row_L75 M_bestRow_L75 M_image_L75 M_isKept_L75 => (Option.bind (f_X6_power (lN 10) x2) (fun r_241 => f_X6_chance_L254  FU x6_L75 r_241 (fun x10_L254 x12_L254 => (if x4 = 0 then (if x10_L254 = 0 then none else some ((x6_L75 / x10_L254), (M_beds_L75, M_law_L75, M_worths_L75, M_sights_L75, M_sight_L75, M_signs_L75, M_pad_L75, M_lies_L75, M_empty_L75, M_list_L75, M_waits_L75, M_yard_L75, M_last_L75, M_used_L75, M_sheets_L75, M_nights_L75, M_fleasOfGuests_L75, M_fleasOfBeds_L75, M_reason_L75, M_row_L75, M_bestRow_L75, M_image_L75, M_isKept_L75))) else (if x10_L254 = 0 then none else some ((r_241 / x10_L254), (M_beds_L75, M_law_L75, M_worths_L75, M_sights_L75, M_sight_L75, M_signs_L75, M_pad_L75, M_lies_L75, M_empty_L75, M_list_L75, M_waits_L75, M_yard_L75, M_last_L75, M_used_L75, M_sheets_L75, M_nights_L75, M_fleasOfGuests_L75, M_fleasOfBeds_L75, M_reason_L75, M_row_L75, M_bestRow_L75, M_image_L75, M_isKept_L75)))))))) else some (((-1000000000000000000 : Int64) + (r_51).toInt64), (M_beds_51, M_law_51, M_worths_51, M_sights_51, M_sight_51, M_signs_51, M_pad_51, M_lies_51, M_empty_51, M_list_51, M_waits_51, M_yard_51, M_last_51, M_used_51, M_sheets_51, M_nights_51, M_fleasOfGuests_51, M_fleasOfBeds_51, M_reason_51, M_row_51, M_bestRow_51, M_image_51, M_isKept_51)))))))))))))))))
set_option maxHeartbeats 4000000 in
set_option maxRecDepth 100000 in
theorem c_X6_chance (l : Launch) (D : va_G) (cI cZ : ClassId) (aM : Nat → Nat) (x1 : Int32) (x2 : Int32) (x3 : Int32) (x4 : Int32) (tM : ModS) (rr : Int64 × ModS) (hf : f_X6_chance x1 x2 x3 x4 tM = some rr) : CT l D cI cZ yX6_chance cX6_chance 16 (some .long) 6 139 0 0 [.ref (aM 0), .int x1, .int x2, .int x3, .int x4] ([mC cI cZ aM tM]) (gPost (some (.long rr.1)) ([mC cI cZ aM rr.2])) := by
  obtain ⟨M_beds, M_law, M_worths, M_sights, M_sight, M_signs, M_pad, M_lies, M_empty, M_list, M_waits, M_yard, M_last, M_used, M_sheets, M_nights, M_fleasOfGuests, M_fleasOfBeds, M_reason, M_row, M_bestRow, M_image, M_isKept⟩ := tM
  rw [f_X6_chance] at hf
  refine CT.mkL (by decide) (Nat.le_of_ble_eq_true rfl) fun {p} {e} {R} {s} {m} {args} {below} {meth} {c} {A} {H0} {Q} C hA hR hret => ?_
  show G p l e R s m args below meth c 16 D A H0 0 0 Q [mC cI cZ aM (M_beds, M_law, M_worths, M_sights, M_sight, M_signs, M_pad, M_lies, M_empty, M_list, M_waits, M_yard, M_last, M_used, M_sheets, M_nights, M_fleasOfGuests, M_fleasOfBeds, M_reason, M_row, M_bestRow, M_image, M_isKept)] 0 [(0, .ref (aM 0)), (1, .int x1), (2, .int x2), (3, .int x3), (4, .int x4)] []
  refine gq_aload_n C 0 1 dX6_chance_0 rfl rfl ?_
  refine gq_iload_n C 1 2 dX6_chance_1 rfl rfl ?_
  obtain ⟨r_2, hc, hf⟩ := gq_bd hf
  refine gq_callV C hA gm_X6_71 (c_X6_isBed l D cI cZ aM x1 (M_beds, M_law, M_worths, M_sights, M_sight, M_signs, M_pad, M_lies, M_empty, M_list, M_waits, M_yard, M_last, M_used, M_sheets, M_nights, M_fleasOfGuests, M_fleasOfBeds, M_reason, M_row, M_bestRow, M_image, M_isKept) _ hc) rfl 0 0 rfl rfl rfl ⟨Nat.le_trans (Nat.le_of_ble_eq_true rfl) hR.1, Nat.le_trans (Nat.le_of_ble_eq_true rfl) hR.2.1⟩ ⟨Nat.zero_le _, Nat.zero_le _⟩ rfl (Nat.le_of_ble_eq_true rfl) dX6_chance_2 [0] [mC cI cZ aM (M_beds, M_law, M_worths, M_sights, M_sight, M_signs, M_pad, M_lies, M_empty, M_list, M_waits, M_yard, M_last, M_used, M_sheets, M_nights, M_fleasOfGuests, M_fleasOfBeds, M_reason, M_row, M_bestRow, M_image, M_isKept)] 5 rfl (by decide) rfl rfl rfl [.int r_2] rfl ?_
  refine gq_if_ne C 12 8 dX6_chance_5 (by decide) rfl (fun h5 => ?_) (fun h5 => ?_)
  · replace hf := gq_ifn h5 hf
    refine gq_iload_n C 2 13 dX6_chance_12 rfl rfl ?_
    refine gq_iconst C (nI 0) 14 dX6_chance_13 (by decide) rfl ?_
    refine gq_bipush C (nI 8) 16 dX6_chance_14 (by decide) rfl ?_
    obtain ⟨r_16, hc, hf⟩ := gq_bd hf
    refine gq_callS C hA gm_X6_60 (c_X6_in l D cI cZ  x2 (nI 0) (nI 8) _ hc) rfl ⟨Nat.le_trans (Nat.le_of_ble_eq_true rfl) hR.1, Nat.le_trans (Nat.le_of_ble_eq_true rfl) hR.2.1⟩ ⟨Nat.zero_le _, Nat.zero_le _⟩ rfl (Nat.le_of_ble_eq_true rfl) dX6_chance_16 [] [mC cI cZ aM (M_beds, M_law, M_worths, M_sights, M_sight, M_signs, M_pad, M_lies, M_empty, M_list, M_waits, M_yard, M_last, M_used, M_sheets, M_nights, M_fleasOfGuests, M_fleasOfBeds, M_reason, M_row, M_bestRow, M_image, M_isKept)] 19 rfl (by decide) rfl rfl rfl [.int r_16] rfl ?_
    refine gq_if_eq C 42 22 dX6_chance_19 (by decide) rfl (fun h19 => ?_) (fun h19 => ?_)
    · replace hf := gq_ifp h19 hf
      refine gq_ldc2 C (-1000000000000000002 : Int64) 45 cw_X6_179 dX6_chance_42 rfl ?_
      obtain rfl := gq_lf hf
      exact hret dX6_chance_45 gPost.rf
    · replace hf := gq_ifn h19 hf
      refine gq_iload_n C 3 23 dX6_chance_22 rfl rfl ?_
      refine gq_iconst C (nI 0) 24 dX6_chance_23 (by decide) rfl ?_
      refine gq_bipush C (nI 10) 26 dX6_chance_24 (by decide) rfl ?_
      obtain ⟨r_26, hc, hf⟩ := gq_bd hf
      refine gq_callS C hA gm_X6_60 (c_X6_in l D cI cZ  x3 (nI 0) (nI 10) _ hc) rfl ⟨Nat.le_trans (Nat.le_of_ble_eq_true rfl) hR.1, Nat.le_trans (Nat.le_of_ble_eq_true rfl) hR.2.1⟩ ⟨Nat.zero_le _, Nat.zero_le _⟩ rfl (Nat.le_of_ble_eq_true rfl) dX6_chance_26 [] [mC cI cZ aM (M_beds, M_law, M_worths, M_sights, M_sight, M_signs, M_pad, M_lies, M_empty, M_list, M_waits, M_yard, M_last, M_used, M_sheets, M_nights, M_fleasOfGuests, M_fleasOfBeds, M_reason, M_row, M_bestRow, M_image, M_isKept)] 29 rfl (by decide) rfl rfl rfl [.int r_26] rfl ?_
      refine gq_if_eq C 42 32 dX6_chance_29 (by decide) rfl (fun h29 => ?_) (fun h29 => ?_)
      · replace hf := gq_ifp h29 hf
        refine gq_ldc2 C (-1000000000000000002 : Int64) 45 cw_X6_179 dX6_chance_42 rfl ?_
        obtain rfl := gq_lf hf
        exact hret dX6_chance_45 gPost.rf
      · replace hf := gq_ifn h29 hf
        refine gq_iload C 4 34 dX6_chance_32 rfl rfl ?_
        refine gq_iconst C (nI 0) 35 dX6_chance_34 (by decide) rfl ?_
        refine gq_iconst C (nI 1) 36 dX6_chance_35 (by decide) rfl ?_
        obtain ⟨r_36, hc, hf⟩ := gq_bd hf
        refine gq_callS C hA gm_X6_60 (c_X6_in l D cI cZ  x4 (nI 0) (nI 1) _ hc) rfl ⟨Nat.le_trans (Nat.le_of_ble_eq_true rfl) hR.1, Nat.le_trans (Nat.le_of_ble_eq_true rfl) hR.2.1⟩ ⟨Nat.zero_le _, Nat.zero_le _⟩ rfl (Nat.le_of_ble_eq_true rfl) dX6_chance_36 [] [mC cI cZ aM (M_beds, M_law, M_worths, M_sights, M_sight, M_signs, M_pad, M_lies, M_empty, M_list, M_waits, M_yard, M_last, M_used, M_sheets, M_nights, M_fleasOfGuests, M_fleasOfBeds, M_reason, M_row, M_bestRow, M_image, M_isKept)] 39 rfl (by decide) rfl rfl rfl [.int r_36] rfl ?_
        refine gq_if_ne C 46 42 dX6_chance_39 (by decide) rfl (fun h39 => ?_) (fun h39 => ?_)
        · replace hf := gq_ifn h39 hf
          refine gq_aload_n C 0 47 dX6_chance_46 rfl rfl ?_
          refine gq_aload_n C 0 48 dX6_chance_47 rfl rfl ?_
          refine gq_get C fo_X6_5 fw_X6_74 0 0 51 rfl rfl rfl dX6_chance_48 rfl ?_
          obtain ⟨⟨r_51, ⟨M_beds_51, M_law_51, M_worths_51, M_sights_51, M_sight_51, M_signs_51, M_pad_51, M_lies_51, M_empty_51, M_list_51, M_waits_51, M_yard_51, M_last_51, M_used_51, M_sheets_51, M_nights_51, M_fleasOfGuests_51, M_fleasOfBeds_51, M_reason_51, M_row_51, M_bestRow_51, M_image_51, M_isKept_51⟩⟩, hc, hf⟩ := gq_bd hf
          refine gq_callV C hA gm_X6_150 (c_X6_barOf l D cI cZ aM M_signs (M_beds, M_law, M_worths, M_sights, M_sight, M_signs, M_pad, M_lies, M_empty, M_list, M_waits, M_yard, M_last, M_used, M_sheets, M_nights, M_fleasOfGuests, M_fleasOfBeds, M_reason, M_row, M_bestRow, M_image, M_isKept) _ hc) rfl 0 0 rfl rfl rfl ⟨Nat.le_trans (Nat.le_of_ble_eq_true rfl) hR.1, Nat.le_trans (Nat.le_of_ble_eq_true rfl) hR.2.1⟩ ⟨Nat.zero_le _, Nat.zero_le _⟩ rfl (Nat.le_of_ble_eq_true rfl) dX6_chance_51 [0] [mC cI cZ aM (M_beds_51, M_law_51, M_worths_51, M_sights_51, M_sight_51, M_signs_51, M_pad_51, M_lies_51, M_empty_51, M_list_51, M_waits_51, M_yard_51, M_last_51, M_used_51, M_sheets_51, M_nights_51, M_fleasOfGuests_51, M_fleasOfBeds_51, M_reason_51, M_row_51, M_bestRow_51, M_image_51, M_isKept_51)] 54 rfl (by decide) rfl rfl rfl [.int r_51] rfl ?_
          refine gq_istore C [(5, .int r_51), (0, .ref (aM 0)), (1, .int x1), (2, .int x2), (3, .int x3), (4, .int x4)] 56 dX6_chance_54 (by decide) rfl rfl ?_
          refine gq_iload C 0 58 dX6_chance_56 rfl rfl ?_
          refine gq_if_ge C 69 61 dX6_chance_58 (by decide) rfl (fun h58 => ?_) (fun h58 => ?_)
          · replace hf := gq_ifp h58 hf
            refine gq_lconst C (lN 0) 70 dX6_chance_69 (by decide) rfl ?_
            refine gq_lstore C [(6, .long (lN 0)), (5, .int r_51), (0, .ref (aM 0)), (1, .int x1), (2, .int x2), (3, .int x3), (4, .int x4)] 72 dX6_chance_70 (by decide) rfl rfl ?_
            refine gq_iconst C (nI 0) 73 dX6_chance_72 (by decide) rfl ?_
            refine gq_istore C [(8, .int (nI 0)), (6, .long (lN 0)), (5, .int r_51), (0, .ref (aM 0)), (1, .int x1), (2, .int x2), (3, .int x3), (4, .int x4)] 75 dX6_chance_73 (by decide) rfl rfl ?_
            have L75 : ∀ (kL : Int64 → Int32 → Int32 → Int32 → (Nat → Int32) → Int32 → (Nat → Int32) → Int32 → (Nat → Int32) → (Nat → Int32) → Int32 → (Nat → Int32) → Int32 → (Nat → Int32) → (Nat → Int32) → (Nat → Int32) → (Nat → Int32) → (Nat → Int32) → Int32 → Int32 → Int32 → (Nat → Int32) → (Nat → Int32) → (Nat → Int32) → (Nat → Int32) → Option (Int64 × ModS)), (∀ (x6_L75 : Int64) (x8_L75 : Int32) (M_beds_L75 : Int32) (M_law_L75 : Int32) (M_worths_L75 : (Nat → Int32)) (M_sights_L75 : Int32) (M_sight_L75 : (Nat → Int32)) (M_signs_L75 : Int32) (M_pad_L75 : (Nat → Int32)) (M_lies_L75 : (Nat → Int32)) (M_empty_L75 : Int32) (M_list_L75 : (Nat → Int32)) (M_waits_L75 : Int32) (M_yard_L75 : (Nat → Int32)) (M_last_L75 : (Nat → Int32)) (M_used_L75 : (Nat → Int32)) (M_sheets_L75 : (Nat → Int32)) (M_nights_L75 : (Nat → Int32)) (M_fleasOfGuests_L75 : Int32) (M_fleasOfBeds_L75 : Int32) (M_reason_L75 : Int32) (M_row_L75 : (Nat → Int32)) (M_bestRow_L75 : (Nat → Int32)) (M_image_L75 : (Nat → Int32)) (M_isKept_L75 : (Nat → Int32)), kL x6_L75 x8_L75 M_beds_L75 M_law_L75 M_worths_L75 M_sights_L75 M_sight_L75 M_signs_L75 M_pad_L75 M_lies_L75 M_empty_L75 M_list_L75 M_waits_L75 M_yard_L75 M_last_L75 M_used_L75 M_sheets_L75 M_nights_L75 M_fleasOfGuests_L75 M_fleasOfBeds_L75 M_reason_L75 M_row_L75 M_bestRow_L75 M_image_L75 M_isKept_L75 = some rr → G p l e R s m args below meth c 16 D A H0 0 0 Q [mC cI cZ aM (M_beds_L75, M_law_L75, M_worths_L75, M_sights_L75, M_sight_L75, M_signs_L75, M_pad_L75, M_lies_L75, M_empty_L75, M_list_L75, M_waits_L75, M_yard_L75, M_last_L75, M_used_L75, M_sheets_L75, M_nights_L75, M_fleasOfGuests_L75, M_fleasOfBeds_L75, M_reason_L75, M_row_L75, M_bestRow_L75, M_image_L75, M_isKept_L75)] 237 [(8, .int x8_L75), (6, .long x6_L75), (5, .int r_51), (0, .ref (aM 0)), (1, .int x1), (2, .int x2), (3, .int x3), (4, .int x4)] []) → ∀ (n : Nat) (x6_L75 : Int64) (x8_L75 : Int32) (M_beds_L75 : Int32) (M_law_L75 : Int32) (M_worths_L75 : (Nat → Int32)) (M_sights_L75 : Int32) (M_sight_L75 : (Nat → Int32)) (M_signs_L75 : Int32) (M_pad_L75 : (Nat → Int32)) (M_lies_L75 : (Nat → Int32)) (M_empty_L75 : Int32) (M_list_L75 : (Nat → Int32)) (M_waits_L75 : Int32) (M_yard_L75 : (Nat → Int32)) (M_last_L75 : (Nat → Int32)) (M_used_L75 : (Nat → Int32)) (M_sheets_L75 : (Nat → Int32)) (M_nights_L75 : (Nat → Int32)) (M_fleasOfGuests_L75 : Int32) (M_fleasOfBeds_L75 : Int32) (M_reason_L75 : Int32) (M_row_L75 : (Nat → Int32)) (M_bestRow_L75 : (Nat → Int32)) (M_image_L75 : (Nat → Int32)) (M_isKept_L75 : (Nat → Int32)), f_X6_chance_L75 x1 x2 x3 n x6_L75 x8_L75 M_beds_L75 M_law_L75 M_worths_L75 M_sights_L75 M_sight_L75 M_signs_L75 M_pad_L75 M_lies_L75 M_empty_L75 M_list_L75 M_waits_L75 M_yard_L75 M_last_L75 M_used_L75 M_sheets_L75 M_nights_L75 M_fleasOfGuests_L75 M_fleasOfBeds_L75 M_reason_L75 M_row_L75 M_bestRow_L75 M_image_L75 M_isKept_L75 kL = some rr → G p l e R s m args below meth c 16 D A H0 0 0 Q [mC cI cZ aM (M_beds_L75, M_law_L75, M_worths_L75, M_sights_L75, M_sight_L75, M_signs_L75, M_pad_L75, M_lies_L75, M_empty_L75, M_list_L75, M_waits_L75, M_yard_L75, M_last_L75, M_used_L75, M_sheets_L75, M_nights_L75, M_fleasOfGuests_L75, M_fleasOfBeds_L75, M_reason_L75, M_row_L75, M_bestRow_L75, M_image_L75, M_isKept_L75)] 75 [(8, .int x8_L75), (6, .long x6_L75), (5, .int r_51), (0, .ref (aM 0)), (1, .int x1), (2, .int x2), (3, .int x3), (4, .int x4)] [] := by
              intro kL hkL75 n
              induction n with
              | zero =>
                intro x6_L75 x8_L75 M_beds_L75 M_law_L75 M_worths_L75 M_sights_L75 M_sight_L75 M_signs_L75 M_pad_L75 M_lies_L75 M_empty_L75 M_list_L75 M_waits_L75 M_yard_L75 M_last_L75 M_used_L75 M_sheets_L75 M_nights_L75 M_fleasOfGuests_L75 M_fleasOfBeds_L75 M_reason_L75 M_row_L75 M_bestRow_L75 M_image_L75 M_isKept_L75 hf
                rw [f_X6_chance_L75] at hf
                cases hf
              | succ n ihL75 =>
                intro x6_L75 x8_L75 M_beds_L75 M_law_L75 M_worths_L75 M_sights_L75 M_sight_L75 M_signs_L75 M_pad_L75 M_lies_L75 M_empty_L75 M_list_L75 M_waits_L75 M_yard_L75 M_last_L75 M_used_L75 M_sheets_L75 M_nights_L75 M_fleasOfGuests_L75 M_fleasOfBeds_L75 M_reason_L75 M_row_L75 M_bestRow_L75 M_image_L75 M_isKept_L75 hf
                rw [f_X6_chance_L75] at hf
                refine gq_iload C 0 77 dX6_chance_75 rfl rfl ?_
                refine gq_iconst C (nI 1) 78 dX6_chance_77 (by decide) rfl ?_
                refine gq_iload_n C 5 79 dX6_chance_78 rfl rfl ?_
                refine gq_ishl C 80 dX6_chance_79 rfl ?_
                refine gq_icmp_ge C 237 83 dX6_chance_80 (by decide) rfl (fun h80 => ?_) (fun h80 => ?_)
                · replace hf := gq_ifp h80 hf
                  exact hkL75 _ _ _ _ _ _ _ _ _ _ _ _ _ _ _ _ _ _ _ _ _ _ _ _ _ hf
                · replace hf := gq_ifn h80 hf
                  refine gq_aload_n C 3 84 dX6_chance_83 rfl rfl ?_
                  refine gq_aload_n C 3 85 dX6_chance_84 rfl rfl ?_
                  refine gq_get C fo_X6_5 fw_X6_74 0 0 88 rfl rfl rfl dX6_chance_85 rfl ?_
                  refine gq_iconst C (nI 0) 89 dX6_chance_88 (by decide) rfl ?_
                  refine gq_bipush C (-6 : Int32) 91 dX6_chance_89 (by decide) rfl ?_
                  refine gq_iconst C (nI 0) 92 dX6_chance_91 (by decide) rfl ?_
                  obtain ⟨⟨r_92, ⟨M_beds_92, M_law_92, M_worths_92, M_sights_92, M_sight_92, M_signs_92, M_pad_92, M_lies_92, M_empty_92, M_list_92, M_waits_92, M_yard_92, M_last_92, M_used_92, M_sheets_92, M_nights_92, M_fleasOfGuests_92, M_fleasOfBeds_92, M_reason_92, M_row_92, M_bestRow_92, M_image_92, M_isKept_92⟩⟩, hc, hf⟩ := gq_bd hf
                  refine gq_callV C hA gm_X6_146 (c_X6_go l D cI cZ aM M_signs_L75 (nI 0) (-6 : Int32) (nI 0) (M_beds_L75, M_law_L75, M_worths_L75, M_sights_L75, M_sight_L75, M_signs_L75, M_pad_L75, M_lies_L75, M_empty_L75, M_list_L75, M_waits_L75, M_yard_L75, M_last_L75, M_used_L75, M_sheets_L75, M_nights_L75, M_fleasOfGuests_L75, M_fleasOfBeds_L75, M_reason_L75, M_row_L75, M_bestRow_L75, M_image_L75, M_isKept_L75) _ hc) rfl 0 0 rfl rfl rfl ⟨Nat.le_trans (Nat.le_of_ble_eq_true rfl) hR.1, Nat.le_trans (Nat.le_of_ble_eq_true rfl) hR.2.1⟩ ⟨Nat.zero_le _, Nat.zero_le _⟩ rfl (Nat.le_of_ble_eq_true rfl) dX6_chance_92 [0] [mC cI cZ aM (M_beds_92, M_law_92, M_worths_92, M_sights_92, M_sight_92, M_signs_92, M_pad_92, M_lies_92, M_empty_92, M_list_92, M_waits_92, M_yard_92, M_last_92, M_used_92, M_sheets_92, M_nights_92, M_fleasOfGuests_92, M_fleasOfBeds_92, M_reason_92, M_row_92, M_bestRow_92, M_image_92, M_isKept_92)] 95 rfl (by decide) rfl rfl rfl [.int r_92] rfl ?_
                  refine gq_istore C [(9, .int r_92), (8, .int x8_L75), (6, .long x6_L75), (5, .int r_51), (0, .ref (aM 0)), (1, .int x1), (2, .int x2), (3, .int x3), (4, .int x4)] 97 dX6_chance_95 (by decide) rfl rfl ?_
                  refine gq_iload C 0 99 dX6_chance_97 rfl rfl ?_
                  refine gq_jn (P := fun k => ∀ (z0_J107 : Int64), k z0_J107 = some rr → G p l e R s m args below meth c 16 D A H0 0 0 Q [mC cI cZ aM (M_beds_92, M_law_92, M_worths_92, M_sights_92, M_sight_92, M_signs_92, M_pad_92, M_lies_92, M_empty_92, M_list_92, M_waits_92, M_yard_92, M_last_92, M_used_92, M_sheets_92, M_nights_92, M_fleasOfGuests_92, M_fleasOfBeds_92, M_reason_92, M_row_92, M_bestRow_92, M_image_92, M_isKept_92)] 107 [(9, .int r_92), (8, .int x8_L75), (6, .long x6_L75), (5, .int r_51), (0, .ref (aM 0)), (1, .int x1), (2, .int x2), (3, .int x3), (4, .int x4)] [.long z0_J107]) hf (fun z0_J107 hf => ?_) (fun kJ107 hJ107 hf => ?_)
                  · refine gq_lstore C [(10, .long z0_J107), (9, .int r_92), (8, .int x8_L75), (6, .long x6_L75), (5, .int r_51), (0, .ref (aM 0)), (1, .int x1), (2, .int x2), (3, .int x3), (4, .int x4)] 109 dX6_chance_107 (by decide) rfl rfl ?_
                    refine gq_iconst C (nI 0) 110 dX6_chance_109 (by decide) rfl ?_
                    refine gq_istore C [(12, .int (nI 0)), (10, .long z0_J107), (9, .int r_92), (8, .int x8_L75), (6, .long x6_L75), (5, .int r_51), (0, .ref (aM 0)), (1, .int x1), (2, .int x2), (3, .int x3), (4, .int x4)] 112 dX6_chance_110 (by decide) rfl rfl ?_
                    have L112 : ∀ (kL : Int64 → Int32 → Int32 → Int32 → (Nat → Int32) → Int32 → (Nat → Int32) → Int32 → (Nat → Int32) → (Nat → Int32) → Int32 → (Nat → Int32) → Int32 → (Nat → Int32) → (Nat → Int32) → (Nat → Int32) → (Nat → Int32) → (Nat → Int32) → Int32 → Int32 → Int32 → (Nat → Int32) → (Nat → Int32) → (Nat → Int32) → (Nat → Int32) → Option (Int64 × ModS)), (∀ (x10_L112 : Int64) (x12_L112 : Int32) (M_beds_L112 : Int32) (M_law_L112 : Int32) (M_worths_L112 : (Nat → Int32)) (M_sights_L112 : Int32) (M_sight_L112 : (Nat → Int32)) (M_signs_L112 : Int32) (M_pad_L112 : (Nat → Int32)) (M_lies_L112 : (Nat → Int32)) (M_empty_L112 : Int32) (M_list_L112 : (Nat → Int32)) (M_waits_L112 : Int32) (M_yard_L112 : (Nat → Int32)) (M_last_L112 : (Nat → Int32)) (M_used_L112 : (Nat → Int32)) (M_sheets_L112 : (Nat → Int32)) (M_nights_L112 : (Nat → Int32)) (M_fleasOfGuests_L112 : Int32) (M_fleasOfBeds_L112 : Int32) (M_reason_L112 : Int32) (M_row_L112 : (Nat → Int32)) (M_bestRow_L112 : (Nat → Int32)) (M_image_L112 : (Nat → Int32)) (M_isKept_L112 : (Nat → Int32)), kL x10_L112 x12_L112 M_beds_L112 M_law_L112 M_worths_L112 M_sights_L112 M_sight_L112 M_signs_L112 M_pad_L112 M_lies_L112 M_empty_L112 M_list_L112 M_waits_L112 M_yard_L112 M_last_L112 M_used_L112 M_sheets_L112 M_nights_L112 M_fleasOfGuests_L112 M_fleasOfBeds_L112 M_reason_L112 M_row_L112 M_bestRow_L112 M_image_L112 M_isKept_L112 = some rr → G p l e R s m args below meth c 16 D A H0 0 0 Q [mC cI cZ aM (M_beds_L112, M_law_L112, M_worths_L112, M_sights_L112, M_sight_L112, M_signs_L112, M_pad_L112, M_lies_L112, M_empty_L112, M_list_L112, M_waits_L112, M_yard_L112, M_last_L112, M_used_L112, M_sheets_L112, M_nights_L112, M_fleasOfGuests_L112, M_fleasOfBeds_L112, M_reason_L112, M_row_L112, M_bestRow_L112, M_image_L112, M_isKept_L112)] 211 [(12, .int x12_L112), (10, .long x10_L112), (9, .int r_92), (8, .int x8_L75), (6, .long x6_L75), (5, .int r_51), (0, .ref (aM 0)), (1, .int x1), (2, .int x2), (3, .int x3), (4, .int x4)] []) → ∀ (n : Nat) (x10_L112 : Int64) (x12_L112 : Int32) (M_beds_L112 : Int32) (M_law_L112 : Int32) (M_worths_L112 : (Nat → Int32)) (M_sights_L112 : Int32) (M_sight_L112 : (Nat → Int32)) (M_signs_L112 : Int32) (M_pad_L112 : (Nat → Int32)) (M_lies_L112 : (Nat → Int32)) (M_empty_L112 : Int32) (M_list_L112 : (Nat → Int32)) (M_waits_L112 : Int32) (M_yard_L112 : (Nat → Int32)) (M_last_L112 : (Nat → Int32)) (M_used_L112 : (Nat → Int32)) (M_sheets_L112 : (Nat → Int32)) (M_nights_L112 : (Nat → Int32)) (M_fleasOfGuests_L112 : Int32) (M_fleasOfBeds_L112 : Int32) (M_reason_L112 : Int32) (M_row_L112 : (Nat → Int32)) (M_bestRow_L112 : (Nat → Int32)) (M_image_L112 : (Nat → Int32)) (M_isKept_L112 : (Nat → Int32)), f_X6_chance_L112 x8_L75 x2 x3 n x10_L112 x12_L112 M_beds_L112 M_law_L112 M_worths_L112 M_sights_L112 M_sight_L112 M_signs_L112 M_pad_L112 M_lies_L112 M_empty_L112 M_list_L112 M_waits_L112 M_yard_L112 M_last_L112 M_used_L112 M_sheets_L112 M_nights_L112 M_fleasOfGuests_L112 M_fleasOfBeds_L112 M_reason_L112 M_row_L112 M_bestRow_L112 M_image_L112 M_isKept_L112 kL = some rr → G p l e R s m args below meth c 16 D A H0 0 0 Q [mC cI cZ aM (M_beds_L112, M_law_L112, M_worths_L112, M_sights_L112, M_sight_L112, M_signs_L112, M_pad_L112, M_lies_L112, M_empty_L112, M_list_L112, M_waits_L112, M_yard_L112, M_last_L112, M_used_L112, M_sheets_L112, M_nights_L112, M_fleasOfGuests_L112, M_fleasOfBeds_L112, M_reason_L112, M_row_L112, M_bestRow_L112, M_image_L112, M_isKept_L112)] 112 [(12, .int x12_L112), (10, .long x10_L112), (9, .int r_92), (8, .int x8_L75), (6, .long x6_L75), (5, .int r_51), (0, .ref (aM 0)), (1, .int x1), (2, .int x2), (3, .int x3), (4, .int x4)] [] := by
                      intro kL hkL112 n
                      induction n with
                      | zero =>
                        intro x10_L112 x12_L112 M_beds_L112 M_law_L112 M_worths_L112 M_sights_L112 M_sight_L112 M_signs_L112 M_pad_L112 M_lies_L112 M_empty_L112 M_list_L112 M_waits_L112 M_yard_L112 M_last_L112 M_used_L112 M_sheets_L112 M_nights_L112 M_fleasOfGuests_L112 M_fleasOfBeds_L112 M_reason_L112 M_row_L112 M_bestRow_L112 M_image_L112 M_isKept_L112 hf
                        rw [f_X6_chance_L112] at hf
                        cases hf
                      | succ n ihL112 =>
                        intro x10_L112 x12_L112 M_beds_L112 M_law_L112 M_worths_L112 M_sights_L112 M_sight_L112 M_signs_L112 M_pad_L112 M_lies_L112 M_empty_L112 M_list_L112 M_waits_L112 M_yard_L112 M_last_L112 M_used_L112 M_sheets_L112 M_nights_L112 M_fleasOfGuests_L112 M_fleasOfBeds_L112 M_reason_L112 M_row_L112 M_bestRow_L112 M_image_L112 M_isKept_L112 hf
                        rw [f_X6_chance_L112] at hf
                        refine gq_iload C 0 114 dX6_chance_112 rfl rfl ?_
                        refine gq_iload_n C 8 115 dX6_chance_114 rfl rfl ?_
                        refine gq_icmp_ge C 211 118 dX6_chance_115 (by decide) rfl (fun h115 => ?_) (fun h115 => ?_)
                        · replace hf := gq_ifp h115 hf
                          exact hkL112 _ _ _ _ _ _ _ _ _ _ _ _ _ _ _ _ _ _ _ _ _ _ _ _ _ hf
                        · replace hf := gq_ifn h115 hf
                          refine gq_iload C 3 120 dX6_chance_118 rfl rfl ?_
                          refine gq_iload C 0 122 dX6_chance_120 rfl rfl ?_
                          obtain ⟨r_122, hc, hf⟩ := gq_bd hf
                          refine gq_callS C hA gm_X6_112 (c_X6_has l D cI cZ  x8_L75 x12_L112 _ hc) rfl ⟨Nat.le_trans (Nat.le_of_ble_eq_true rfl) hR.1, Nat.le_trans (Nat.le_of_ble_eq_true rfl) hR.2.1⟩ ⟨Nat.zero_le _, Nat.zero_le _⟩ rfl (Nat.le_of_ble_eq_true rfl) dX6_chance_122 [] [mC cI cZ aM (M_beds_L112, M_law_L112, M_worths_L112, M_sights_L112, M_sight_L112, M_signs_L112, M_pad_L112, M_lies_L112, M_empty_L112, M_list_L112, M_waits_L112, M_yard_L112, M_last_L112, M_used_L112, M_sheets_L112, M_nights_L112, M_fleasOfGuests_L112, M_fleasOfBeds_L112, M_reason_L112, M_row_L112, M_bestRow_L112, M_image_L112, M_isKept_L112)] 125 rfl (by decide) rfl rfl rfl [.int r_122] rfl ?_
                          refine gq_if_eq C 147 128 dX6_chance_125 (by decide) rfl (fun h125 => ?_) (fun h125 => ?_)
                          · replace hf := gq_ifp h125 hf
                            refine gq_lload C 1 149 dX6_chance_147 rfl rfl ?_
                            refine gq_bipush C (nI 10) 151 dX6_chance_149 (by decide) rfl ?_
                            refine gq_iload_n C 9 152 dX6_chance_151 rfl rfl ?_
                            refine gq_isub C 153 dX6_chance_152 rfl ?_
                            refine gq_i2l C 154 dX6_chance_153 rfl ?_
                            refine gq_lmul C 155 dX6_chance_154 rfl ?_
                            refine gq_lstore C [(10, .long (x10_L112 * (((nI 10) - x3)).toInt64)), (12, .int x12_L112), (9, .int r_92), (8, .int x8_L75), (6, .long x6_L75), (5, .int r_51), (0, .ref (aM 0)), (1, .int x1), (2, .int x2), (3, .int x3), (4, .int x4)] 157 dX6_chance_155 (by decide) rfl rfl ?_
                            refine gq_iconst C (nI 0) 158 dX6_chance_157 (by decide) rfl ?_
                            refine gq_istore C [(13, .int (nI 0)), (10, .long (x10_L112 * (((nI 10) - x3)).toInt64)), (12, .int x12_L112), (9, .int r_92), (8, .int x8_L75), (6, .long x6_L75), (5, .int r_51), (0, .ref (aM 0)), (1, .int x1), (2, .int x2), (3, .int x3), (4, .int x4)] 160 dX6_chance_158 (by decide) rfl rfl ?_
                            have L160 : ∀ (kL : Int32 → Option (Int64 × ModS)), (∀ (x13_L160 : Int32), kL x13_L160 = some rr → G p l e R s m args below meth c 16 D A H0 0 0 Q [mC cI cZ aM (M_beds_L112, M_law_L112, M_worths_L112, M_sights_L112, M_sight_L112, M_signs_L112, M_pad_L112, M_lies_L112, M_empty_L112, M_list_L112, M_waits_L112, M_yard_L112, M_last_L112, M_used_L112, M_sheets_L112, M_nights_L112, M_fleasOfGuests_L112, M_fleasOfBeds_L112, M_reason_L112, M_row_L112, M_bestRow_L112, M_image_L112, M_isKept_L112)] 185 [(13, .int x13_L160), (10, .long (x10_L112 * (((nI 10) - x3)).toInt64)), (12, .int x12_L112), (9, .int r_92), (8, .int x8_L75), (6, .long x6_L75), (5, .int r_51), (0, .ref (aM 0)), (1, .int x1), (2, .int x2), (3, .int x3), (4, .int x4)] []) → ∀ (n : Nat) (x13_L160 : Int32), f_X6_chance_L160 M_beds_L112 M_lies_L112 n x13_L160 kL = some rr → G p l e R s m args below meth c 16 D A H0 0 0 Q [mC cI cZ aM (M_beds_L112, M_law_L112, M_worths_L112, M_sights_L112, M_sight_L112, M_signs_L112, M_pad_L112, M_lies_L112, M_empty_L112, M_list_L112, M_waits_L112, M_yard_L112, M_last_L112, M_used_L112, M_sheets_L112, M_nights_L112, M_fleasOfGuests_L112, M_fleasOfBeds_L112, M_reason_L112, M_row_L112, M_bestRow_L112, M_image_L112, M_isKept_L112)] 160 [(13, .int x13_L160), (10, .long (x10_L112 * (((nI 10) - x3)).toInt64)), (12, .int x12_L112), (9, .int r_92), (8, .int x8_L75), (6, .long x6_L75), (5, .int r_51), (0, .ref (aM 0)), (1, .int x1), (2, .int x2), (3, .int x3), (4, .int x4)] [] := by
                              intro kL hkL160 n
                              induction n with
                              | zero =>
                                intro x13_L160 hf
                                rw [f_X6_chance_L160] at hf
                                cases hf
                              | succ n ihL160 =>
                                intro x13_L160 hf
                                rw [f_X6_chance_L160] at hf
                                refine gq_iload C 0 162 dX6_chance_160 rfl rfl ?_
                                refine gq_aload_n C 7 163 dX6_chance_162 rfl rfl ?_
                                refine gq_get C fo_X6_0 fw_X6_7 0 0 166 rfl rfl rfl dX6_chance_163 rfl ?_
                                refine gq_icmp_ge C 185 169 dX6_chance_166 (by decide) rfl (fun h166 => ?_) (fun h166 => ?_)
                                · replace hf := gq_ifp h166 hf
                                  exact hkL160 _ hf
                                · replace hf := gq_ifn h166 hf
                                  refine gq_aload_n C 7 170 dX6_chance_169 rfl rfl ?_
                                  refine gq_get C fo_X6_7 fw_X6_23 0 0 173 rfl rfl rfl dX6_chance_170 rfl ?_
                                  refine gq_iload C 0 175 dX6_chance_173 rfl rfl ?_
                                  obtain ⟨h175, hf⟩ := gq_ok hf
                                  refine gq_iald C 0 4 176 rfl rfl h175 dX6_chance_175 rfl ?_
                                  refine gq_if_ge C 185 179 dX6_chance_176 (by decide) rfl (fun h176 => ?_) (fun h176 => ?_)
                                  · replace hf := gq_ifp h176 hf
                                    exact hkL160 _ hf
                                  · replace hf := gq_ifn h176 hf
                                    refine gq_iinc C 0 [(13, .int (x13_L160 + (nI 1))), (10, .long (x10_L112 * (((nI 10) - x3)).toInt64)), (12, .int x12_L112), (9, .int r_92), (8, .int x8_L75), (6, .long x6_L75), (5, .int r_51), (0, .ref (aM 0)), (1, .int x1), (2, .int x2), (3, .int x3), (4, .int x4)] 182 dX6_chance_179 rfl rfl (by decide) rfl rfl ?_
                                    refine gq_goto C 160 dX6_chance_182 (by decide) ?_
                                    exact ihL160 _ hf
                            refine L160 _ (fun x13_L160 hf => ?_) _ _ hf
                            refine gq_iload C 0 187 dX6_chance_185 rfl rfl ?_
                            refine gq_aload_n C 7 188 dX6_chance_187 rfl rfl ?_
                            refine gq_get C fo_X6_0 fw_X6_7 0 0 191 rfl rfl rfl dX6_chance_188 rfl ?_
                            refine gq_icmp_ge C 205 194 dX6_chance_191 (by decide) rfl (fun h191 => ?_) (fun h191 => ?_)
                            · replace hf := gq_ifp h191 hf
                              refine gq_iinc C 2 [(12, .int (x12_L112 + (nI 1))), (13, .int x13_L160), (10, .long (x10_L112 * (((nI 10) - x3)).toInt64)), (9, .int r_92), (8, .int x8_L75), (6, .long x6_L75), (5, .int r_51), (0, .ref (aM 0)), (1, .int x1), (2, .int x2), (3, .int x3), (4, .int x4)] 208 dX6_chance_205 rfl rfl (by decide) rfl rfl ?_
                              refine gq_goto C 112 dX6_chance_208 (by decide) ?_
                              refine gq_lv [0, 2, 3, 4, 5, 6, 7, 8, 9, 10, 11] rfl ?_
                              exact ihL112 _ _ _ _ _ _ _ _ _ _ _ _ _ _ _ _ _ _ _ _ _ _ _ _ _ hf
                            · replace hf := gq_ifn h191 hf
                              refine gq_aload_n C 7 195 dX6_chance_194 rfl rfl ?_
                              refine gq_aload_n C 7 196 dX6_chance_195 rfl rfl ?_
                              refine gq_get C fo_X6_7 fw_X6_23 0 0 199 rfl rfl rfl dX6_chance_196 rfl ?_
                              refine gq_iload C 0 201 dX6_chance_199 rfl rfl ?_
                              obtain ⟨h201, hf⟩ := gq_ok hf
                              refine gq_iald C 0 4 202 rfl rfl h201 dX6_chance_201 rfl ?_
                              obtain ⟨⟨M_beds_202, M_law_202, M_worths_202, M_sights_202, M_sight_202, M_signs_202, M_pad_202, M_lies_202, M_empty_202, M_list_202, M_waits_202, M_yard_202, M_last_202, M_used_202, M_sheets_202, M_nights_202, M_fleasOfGuests_202, M_fleasOfBeds_202, M_reason_202, M_row_202, M_bestRow_202, M_image_202, M_isKept_202⟩, hc, hf⟩ := gq_bd hf
                              refine gq_callV C hA gm_X6_128 (c_X6_goOut l D cI cZ aM (M_lies_L112 x13_L160.toNatClampNeg) (M_beds_L112, M_law_L112, M_worths_L112, M_sights_L112, M_sight_L112, M_signs_L112, M_pad_L112, M_lies_L112, M_empty_L112, M_list_L112, M_waits_L112, M_yard_L112, M_last_L112, M_used_L112, M_sheets_L112, M_nights_L112, M_fleasOfGuests_L112, M_fleasOfBeds_L112, M_reason_L112, M_row_L112, M_bestRow_L112, M_image_L112, M_isKept_L112) _ hc) rfl 0 0 rfl rfl rfl ⟨Nat.le_trans (Nat.le_of_ble_eq_true rfl) hR.1, Nat.le_trans (Nat.le_of_ble_eq_true rfl) hR.2.1⟩ ⟨Nat.zero_le _, Nat.zero_le _⟩ rfl (Nat.le_of_ble_eq_true rfl) dX6_chance_202 [0] [mC cI cZ aM (M_beds_202, M_law_202, M_worths_202, M_sights_202, M_sight_202, M_signs_202, M_pad_202, M_lies_202, M_empty_202, M_list_202, M_waits_202, M_yard_202, M_last_202, M_used_202, M_sheets_202, M_nights_202, M_fleasOfGuests_202, M_fleasOfBeds_202, M_reason_202, M_row_202, M_bestRow_202, M_image_202, M_isKept_202)] 205 rfl (by decide) rfl rfl rfl [] rfl ?_
                              refine gq_iinc C 2 [(12, .int (x12_L112 + (nI 1))), (13, .int x13_L160), (10, .long (x10_L112 * (((nI 10) - x3)).toInt64)), (9, .int r_92), (8, .int x8_L75), (6, .long x6_L75), (5, .int r_51), (0, .ref (aM 0)), (1, .int x1), (2, .int x2), (3, .int x3), (4, .int x4)] 208 dX6_chance_205 rfl rfl (by decide) rfl rfl ?_
                              refine gq_goto C 112 dX6_chance_208 (by decide) ?_
                              refine gq_lv [0, 2, 3, 4, 5, 6, 7, 8, 9, 10, 11] rfl ?_
                              exact ihL112 _ _ _ _ _ _ _ _ _ _ _ _ _ _ _ _ _ _ _ _ _ _ _ _ _ hf
                          · replace hf := gq_ifn h125 hf
                            refine gq_lload C 1 130 dX6_chance_128 rfl rfl ?_
                            refine gq_iload_n C 9 131 dX6_chance_130 rfl rfl ?_
                            refine gq_i2l C 132 dX6_chance_131 rfl ?_
                            refine gq_lmul C 133 dX6_chance_132 rfl ?_
                            refine gq_lstore C [(10, .long (x10_L112 * (x3).toInt64)), (12, .int x12_L112), (9, .int r_92), (8, .int x8_L75), (6, .long x6_L75), (5, .int r_51), (0, .ref (aM 0)), (1, .int x1), (2, .int x2), (3, .int x3), (4, .int x4)] 135 dX6_chance_133 (by decide) rfl rfl ?_
                            refine gq_aload_n C 6 136 dX6_chance_135 rfl rfl ?_
                            refine gq_bipush C (nI 8) 138 dX6_chance_136 (by decide) rfl ?_
                            refine gq_iload C 1 140 dX6_chance_138 rfl rfl ?_
                            refine gq_iadd C 141 dX6_chance_140 rfl ?_
                            obtain ⟨⟨M_beds_141, M_law_141, M_worths_141, M_sights_141, M_sight_141, M_signs_141, M_pad_141, M_lies_141, M_empty_141, M_list_141, M_waits_141, M_yard_141, M_last_141, M_used_141, M_sheets_141, M_nights_141, M_fleasOfGuests_141, M_fleasOfBeds_141, M_reason_141, M_row_141, M_bestRow_141, M_image_141, M_isKept_141⟩, hc, hf⟩ := gq_bd hf
                            refine gq_callV C hA gm_X6_125 (c_X6_comeIn l D cI cZ aM ((nI 8) + x12_L112) (M_beds_L112, M_law_L112, M_worths_L112, M_sights_L112, M_sight_L112, M_signs_L112, M_pad_L112, M_lies_L112, M_empty_L112, M_list_L112, M_waits_L112, M_yard_L112, M_last_L112, M_used_L112, M_sheets_L112, M_nights_L112, M_fleasOfGuests_L112, M_fleasOfBeds_L112, M_reason_L112, M_row_L112, M_bestRow_L112, M_image_L112, M_isKept_L112) _ hc) rfl 0 0 rfl rfl rfl ⟨Nat.le_trans (Nat.le_of_ble_eq_true rfl) hR.1, Nat.le_trans (Nat.le_of_ble_eq_true rfl) hR.2.1⟩ ⟨Nat.zero_le _, Nat.zero_le _⟩ rfl (Nat.le_of_ble_eq_true rfl) dX6_chance_141 [0] [mC cI cZ aM (M_beds_141, M_law_141, M_worths_141, M_sights_141, M_sight_141, M_signs_141, M_pad_141, M_lies_141, M_empty_141, M_list_141, M_waits_141, M_yard_141, M_last_141, M_used_141, M_sheets_141, M_nights_141, M_fleasOfGuests_141, M_fleasOfBeds_141, M_reason_141, M_row_141, M_bestRow_141, M_image_141, M_isKept_141)] 144 rfl (by decide) rfl rfl rfl [] rfl ?_
                            refine gq_goto C 205 dX6_chance_144 (by decide) ?_
                            refine gq_iinc C 1 [(12, .int (x12_L112 + (nI 1))), (10, .long (x10_L112 * (x3).toInt64)), (9, .int r_92), (8, .int x8_L75), (6, .long x6_L75), (5, .int r_51), (0, .ref (aM 0)), (1, .int x1), (2, .int x2), (3, .int x3), (4, .int x4)] 208 dX6_chance_205 rfl rfl (by decide) rfl rfl ?_
                            refine gq_goto C 112 dX6_chance_208 (by decide) ?_
                            exact ihL112 _ _ _ _ _ _ _ _ _ _ _ _ _ _ _ _ _ _ _ _ _ _ _ _ _ hf
                    refine L112 _ (fun x10_L112 x12_L112 M_beds_L112 M_law_L112 M_worths_L112 M_sights_L112 M_sight_L112 M_signs_L112 M_pad_L112 M_lies_L112 M_empty_L112 M_list_L112 M_waits_L112 M_yard_L112 M_last_L112 M_used_L112 M_sheets_L112 M_nights_L112 M_fleasOfGuests_L112 M_fleasOfBeds_L112 M_reason_L112 M_row_L112 M_bestRow_L112 M_image_L112 M_isKept_L112 hf => ?_) _ _ _ _ _ _ _ _ _ _ _ _ _ _ _ _ _ _ _ _ _ _ _ _ _ _ hf
                    refine gq_lload C 4 213 dX6_chance_211 rfl rfl ?_
                    refine gq_aload_n C 6 214 dX6_chance_213 rfl rfl ?_
                    refine gq_get C fo_X6_7 fw_X6_23 0 0 217 rfl rfl rfl dX6_chance_214 rfl ?_
                    refine gq_iload_n C 7 218 dX6_chance_217 rfl rfl ?_
                    obtain ⟨h218, hf⟩ := gq_ok hf
                    refine gq_iald C 0 4 219 rfl rfl h218 dX6_chance_218 rfl ?_
                    refine gq_if_lt C 227 222 dX6_chance_219 (by decide) rfl (fun h219 => ?_) (fun h219 => ?_)
                    · replace hf := gq_ifp h219 hf
                      refine gq_lconst C (lN 0) 228 dX6_chance_227 (by decide) rfl ?_
                      refine gq_ladd C 229 dX6_chance_228 rfl ?_
                      refine gq_lstore C [(6, .long (x6_L75 + (lN 0))), (12, .int x12_L112), (10, .long x10_L112), (9, .int r_92), (8, .int x8_L75), (5, .int r_51), (0, .ref (aM 0)), (1, .int x1), (2, .int x2), (3, .int x3), (4, .int x4)] 231 dX6_chance_229 (by decide) rfl rfl ?_
                      refine gq_iinc C 4 [(8, .int (x8_L75 + (nI 1))), (6, .long (x6_L75 + (lN 0))), (12, .int x12_L112), (10, .long x10_L112), (9, .int r_92), (5, .int r_51), (0, .ref (aM 0)), (1, .int x1), (2, .int x2), (3, .int x3), (4, .int x4)] 234 dX6_chance_231 rfl rfl (by decide) rfl rfl ?_
                      refine gq_goto C 75 dX6_chance_234 (by decide) ?_
                      refine gq_lv [0, 1, 5, 6, 7, 8, 9, 10] rfl ?_
                      exact ihL75 _ _ _ _ _ _ _ _ _ _ _ _ _ _ _ _ _ _ _ _ _ _ _ _ _ hf
                    · replace hf := gq_ifn h219 hf
                      refine gq_lload C 1 224 dX6_chance_222 rfl rfl ?_
                      refine gq_goto C 228 dX6_chance_224 (by decide) ?_
                      refine gq_ladd C 229 dX6_chance_228 rfl ?_
                      refine gq_lstore C [(6, .long (x6_L75 + x10_L112)), (12, .int x12_L112), (10, .long x10_L112), (9, .int r_92), (8, .int x8_L75), (5, .int r_51), (0, .ref (aM 0)), (1, .int x1), (2, .int x2), (3, .int x3), (4, .int x4)] 231 dX6_chance_229 (by decide) rfl rfl ?_
                      refine gq_iinc C 4 [(8, .int (x8_L75 + (nI 1))), (6, .long (x6_L75 + x10_L112)), (12, .int x12_L112), (10, .long x10_L112), (9, .int r_92), (5, .int r_51), (0, .ref (aM 0)), (1, .int x1), (2, .int x2), (3, .int x3), (4, .int x4)] 234 dX6_chance_231 rfl rfl (by decide) rfl rfl ?_
                      refine gq_goto C 75 dX6_chance_234 (by decide) ?_
                      refine gq_lv [0, 1, 5, 6, 7, 8, 9, 10] rfl ?_
                      exact ihL75 _ _ _ _ _ _ _ _ _ _ _ _ _ _ _ _ _ _ _ _ _ _ _ _ _ hf
                  · refine gq_if_ge C 106 102 dX6_chance_99 (by decide) rfl (fun h99 => ?_) (fun h99 => ?_)
                    · replace hf := gq_ifp h99 hf
                      refine gq_lconst C (lN 0) 107 dX6_chance_106 (by decide) rfl ?_
                      exact hJ107 _ hf
                    · replace hf := gq_ifn h99 hf
                      refine gq_lconst C (lN 1) 103 dX6_chance_102 (by decide) rfl ?_
                      refine gq_goto C 107 dX6_chance_103 (by decide) ?_
                      exact hJ107 _ hf
            refine L75 _ (fun x6_L75 x8_L75 M_beds_L75 M_law_L75 M_worths_L75 M_sights_L75 M_sight_L75 M_signs_L75 M_pad_L75 M_lies_L75 M_empty_L75 M_list_L75 M_waits_L75 M_yard_L75 M_last_L75 M_used_L75 M_sheets_L75 M_nights_L75 M_fleasOfGuests_L75 M_fleasOfBeds_L75 M_reason_L75 M_row_L75 M_bestRow_L75 M_image_L75 M_isKept_L75 hf => ?_) _ _ _ _ _ _ _ _ _ _ _ _ _ _ _ _ _ _ _ _ _ _ _ _ _ _ hf
            refine gq_ldc2 C (lN 10) 240 cw_X6_183 dX6_chance_237 rfl ?_
            refine gq_iload_n C 5 241 dX6_chance_240 rfl rfl ?_
            obtain ⟨r_241, hc, hf⟩ := gq_bd hf
            refine gq_callS C hA gm_X6_185 (c_X6_power l D cI cZ  (lN 10) x2 _ hc) rfl ⟨Nat.le_trans (Nat.le_of_ble_eq_true rfl) hR.1, Nat.le_trans (Nat.le_of_ble_eq_true rfl) hR.2.1⟩ ⟨Nat.zero_le _, Nat.zero_le _⟩ rfl (Nat.le_of_ble_eq_true rfl) dX6_chance_241 [] [mC cI cZ aM (M_beds_L75, M_law_L75, M_worths_L75, M_sights_L75, M_sight_L75, M_signs_L75, M_pad_L75, M_lies_L75, M_empty_L75, M_list_L75, M_waits_L75, M_yard_L75, M_last_L75, M_used_L75, M_sheets_L75, M_nights_L75, M_fleasOfGuests_L75, M_fleasOfBeds_L75, M_reason_L75, M_row_L75, M_bestRow_L75, M_image_L75, M_isKept_L75)] 244 rfl (by decide) rfl rfl rfl [.long r_241] rfl ?_
            refine gq_lstore C [(8, .long r_241), (6, .long x6_L75), (5, .int r_51), (0, .ref (aM 0)), (1, .int x1), (2, .int x2), (3, .int x3), (4, .int x4)] 246 dX6_chance_244 (by decide) rfl rfl ?_
            refine gq_lload C 1 248 dX6_chance_246 rfl rfl ?_
            refine gq_lstore C [(10, .long x6_L75), (8, .long r_241), (6, .long x6_L75), (5, .int r_51), (0, .ref (aM 0)), (1, .int x1), (2, .int x2), (3, .int x3), (4, .int x4)] 250 dX6_chance_248 (by decide) rfl rfl ?_
            refine gq_lload C 1 252 dX6_chance_250 rfl rfl ?_
            refine gq_lstore C [(12, .long r_241), (10, .long x6_L75), (8, .long r_241), (6, .long x6_L75), (5, .int r_51), (0, .ref (aM 0)), (1, .int x1), (2, .int x2), (3, .int x3), (4, .int x4)] 254 dX6_chance_252 (by decide) rfl rfl ?_
            have L254 : ∀ (kL : Int64 → Int64 → Option (Int64 × ModS)), (∀ (x10_L254 : Int64) (x12_L254 : Int64), kL x10_L254 x12_L254 = some rr → G p l e R s m args below meth c 16 D A H0 0 0 Q [mC cI cZ aM (M_beds_L75, M_law_L75, M_worths_L75, M_sights_L75, M_sight_L75, M_signs_L75, M_pad_L75, M_lies_L75, M_empty_L75, M_list_L75, M_waits_L75, M_yard_L75, M_last_L75, M_used_L75, M_sheets_L75, M_nights_L75, M_fleasOfGuests_L75, M_fleasOfBeds_L75, M_reason_L75, M_row_L75, M_bestRow_L75, M_image_L75, M_isKept_L75)] 279 [(12, .long x12_L254), (10, .long x10_L254), (8, .long r_241), (6, .long x6_L75), (5, .int r_51), (0, .ref (aM 0)), (1, .int x1), (2, .int x2), (3, .int x3), (4, .int x4)] []) → ∀ (n : Nat) (x10_L254 : Int64) (x12_L254 : Int64), f_X6_chance_L254  n x10_L254 x12_L254 kL = some rr → G p l e R s m args below meth c 16 D A H0 0 0 Q [mC cI cZ aM (M_beds_L75, M_law_L75, M_worths_L75, M_sights_L75, M_sight_L75, M_signs_L75, M_pad_L75, M_lies_L75, M_empty_L75, M_list_L75, M_waits_L75, M_yard_L75, M_last_L75, M_used_L75, M_sheets_L75, M_nights_L75, M_fleasOfGuests_L75, M_fleasOfBeds_L75, M_reason_L75, M_row_L75, M_bestRow_L75, M_image_L75, M_isKept_L75)] 254 [(12, .long x12_L254), (10, .long x10_L254), (8, .long r_241), (6, .long x6_L75), (5, .int r_51), (0, .ref (aM 0)), (1, .int x1), (2, .int x2), (3, .int x3), (4, .int x4)] [] := by
              intro kL hkL254 n
              induction n with
              | zero =>
                intro x10_L254 x12_L254 hf
                rw [f_X6_chance_L254] at hf
                cases hf
              | succ n ihL254 =>
                intro x10_L254 x12_L254 hf
                rw [f_X6_chance_L254] at hf
                refine gq_lload C 0 256 dX6_chance_254 rfl rfl ?_
                refine gq_lconst C (lN 0) 257 dX6_chance_256 (by decide) rfl ?_
                refine gq_lcmp C 258 dX6_chance_257 rfl ?_
                refine gq_if_eq C 279 261 dX6_chance_258 (by decide) rfl (fun h258 => ?_) (fun h258 => ?_)
                · replace hf := gq_ifp h258 hf
                  exact hkL254 _ _ hf
                · replace hf := gq_ifn h258 hf
                  refine gq_lload C 1 263 dX6_chance_261 rfl rfl ?_
                  refine gq_lload C 0 265 dX6_chance_263 rfl rfl ?_
                  obtain ⟨h265, hf⟩ := gq_ok hf
                  refine gq_lrem C 266 dX6_chance_265 h265 rfl ?_
                  refine gq_lstore C [(14, .long (x10_L254 - x10_L254 / x12_L254 * x12_L254)), (12, .long x12_L254), (10, .long x10_L254), (8, .long r_241), (6, .long x6_L75), (5, .int r_51), (0, .ref (aM 0)), (1, .int x1), (2, .int x2), (3, .int x3), (4, .int x4)] 268 dX6_chance_266 (by decide) rfl rfl ?_
                  refine gq_lload C 1 270 dX6_chance_268 rfl rfl ?_
                  refine gq_lstore C [(10, .long x12_L254), (14, .long (x10_L254 - x10_L254 / x12_L254 * x12_L254)), (12, .long x12_L254), (8, .long r_241), (6, .long x6_L75), (5, .int r_51), (0, .ref (aM 0)), (1, .int x1), (2, .int x2), (3, .int x3), (4, .int x4)] 272 dX6_chance_270 (by decide) rfl rfl ?_
                  refine gq_lload C 1 274 dX6_chance_272 rfl rfl ?_
                  refine gq_lstore C [(12, .long (x10_L254 - x10_L254 / x12_L254 * x12_L254)), (10, .long x12_L254), (14, .long (x10_L254 - x10_L254 / x12_L254 * x12_L254)), (8, .long r_241), (6, .long x6_L75), (5, .int r_51), (0, .ref (aM 0)), (1, .int x1), (2, .int x2), (3, .int x3), (4, .int x4)] 276 dX6_chance_274 (by decide) rfl rfl ?_
                  refine gq_goto C 254 dX6_chance_276 (by decide) ?_
                  refine gq_lv [0, 1, 3, 4, 5, 6, 7, 8, 9, 10] rfl ?_
                  exact ihL254 _ _ hf
            refine L254 _ (fun x10_L254 x12_L254 hf => ?_) _ _ _ hf
            refine gq_iload C 9 281 dX6_chance_279 rfl rfl ?_
            refine gq_if_ne C 292 284 dX6_chance_281 (by decide) rfl (fun h281 => ?_) (fun h281 => ?_)
            · replace hf := gq_ifn h281 hf
              refine gq_lload C 2 294 dX6_chance_292 rfl rfl ?_
              refine gq_lload C 1 296 dX6_chance_294 rfl rfl ?_
              obtain ⟨h296, hf⟩ := gq_ok hf
              refine gq_ldiv C 297 dX6_chance_296 h296 rfl ?_
              obtain rfl := gq_lf hf
              exact hret dX6_chance_297 gPost.rf
            · replace hf := gq_ifp h281 hf
              refine gq_lload C 3 286 dX6_chance_284 rfl rfl ?_
              refine gq_lload C 1 288 dX6_chance_286 rfl rfl ?_
              obtain ⟨h288, hf⟩ := gq_ok hf
              refine gq_ldiv C 289 dX6_chance_288 h288 rfl ?_
              refine gq_goto C 297 dX6_chance_289 (by decide) ?_
              obtain rfl := gq_lf hf
              exact hret dX6_chance_297 gPost.rf
          · replace hf := gq_ifn h58 hf
            refine gq_ldc2 C (-1000000000000000000 : Int64) 64 cw_X6_181 dX6_chance_61 rfl ?_
            refine gq_iload C 0 66 dX6_chance_64 rfl rfl ?_
            refine gq_i2l C 67 dX6_chance_66 rfl ?_
            refine gq_ladd C 68 dX6_chance_67 rfl ?_
            obtain rfl := gq_lf hf
            exact hret dX6_chance_68 gPost.rf
        · replace hf := gq_ifp h39 hf
          refine gq_ldc2 C (-1000000000000000002 : Int64) 45 cw_X6_179 dX6_chance_42 rfl ?_
          obtain rfl := gq_lf hf
          exact hret dX6_chance_45 gPost.rf
  · replace hf := gq_ifp h5 hf
    refine gq_ldc2 C (-1000000000000000001 : Int64) 11 cw_X6_177 dX6_chance_8 rfl ?_
    obtain rfl := gq_lf hf
    exact hret dX6_chance_11 gPost.rf

def f_X6_year_L44 (c_x2 : Int32) : Nat → Int32 → Int32 → Int32 → Int32 → (Nat → Int32) → Int32 → (Nat → Int32) → Int32 → (Nat → Int32) → (Nat → Int32) → Int32 → (Nat → Int32) → Int32 → (Nat → Int32) → (Nat → Int32) → (Nat → Int32) → (Nat → Int32) → (Nat → Int32) → Int32 → Int32 → Int32 → (Nat → Int32) → (Nat → Int32) → (Nat → Int32) → (Nat → Int32) → (Int32 → Int32 → Int32 → Int32 → (Nat → Int32) → Int32 → (Nat → Int32) → Int32 → (Nat → Int32) → (Nat → Int32) → Int32 → (Nat → Int32) → Int32 → (Nat → Int32) → (Nat → Int32) → (Nat → Int32) → (Nat → Int32) → (Nat → Int32) → Int32 → Int32 → Int32 → (Nat → Int32) → (Nat → Int32) → (Nat → Int32) → (Nat → Int32) → Option (Int32 × ModS)) → Option (Int32 × ModS)
  | 0, _, _, _, _, _, _, _, _, _, _, _, _, _, _, _, _, _, _, _, _, _, _, _, _, _, _ => none
  | nL44 + 1, x4_L44, x5_L44, M_beds_L44, M_law_L44, M_worths_L44, M_sights_L44, M_sight_L44, M_signs_L44, M_pad_L44, M_lies_L44, M_empty_L44, M_list_L44, M_waits_L44, M_yard_L44, M_last_L44, M_used_L44, M_sheets_L44, M_nights_L44, M_fleasOfGuests_L44, M_fleasOfBeds_L44, M_reason_L44, M_row_L44, M_bestRow_L44, M_image_L44, M_isKept_L44, kL44 => (if c_x2 ≤ x5_L44 then kL44 x4_L44 x5_L44 M_beds_L44 M_law_L44 M_worths_L44 M_sights_L44 M_sight_L44 M_signs_L44 M_pad_L44 M_lies_L44 M_empty_L44 M_list_L44 M_waits_L44 M_yard_L44 M_last_L44 M_used_L44 M_sheets_L44 M_nights_L44 M_fleasOfGuests_L44 M_fleasOfBeds_L44 M_reason_L44 M_row_L44 M_bestRow_L44 M_image_L44 M_isKept_L44 else (Option.bind (f_X6_isThere (((((nI 75) * x4_L44) + (nI 74)) - (((nI 75) * x4_L44) + (nI 74)) / (nI 65537) * (nI 65537)) - ((((nI 75) * x4_L44) + (nI 74)) - (((nI 75) * x4_L44) + (nI 74)) / (nI 65537) * (nI 65537)) / (nI 8) * (nI 8)) (M_beds_L44, M_law_L44, M_worths_L44, M_sights_L44, M_sight_L44, M_signs_L44, M_pad_L44, M_lies_L44, M_empty_L44, M_list_L44, M_waits_L44, M_yard_L44, M_last_L44, M_used_L44, M_sheets_L44, M_nights_L44, M_fleasOfGuests_L44, M_fleasOfBeds_L44, M_reason_L44, M_row_L44, M_bestRow_L44, M_image_L44, M_isKept_L44)) (fun r_73 => (if r_73 = 0 then (Option.bind (f_X6_comeIn (((((nI 75) * x4_L44) + (nI 74)) - (((nI 75) * x4_L44) + (nI 74)) / (nI 65537) * (nI 65537)) - ((((nI 75) * x4_L44) + (nI 74)) - (((nI 75) * x4_L44) + (nI 74)) / (nI 65537) * (nI 65537)) / (nI 8) * (nI 8)) (M_beds_L44, M_law_L44, M_worths_L44, M_sights_L44, M_sight_L44, M_signs_L44, M_pad_L44, M_lies_L44, M_empty_L44, M_list_L44, M_waits_L44, M_yard_L44, M_last_L44, M_used_L44, M_sheets_L44, M_nights_L44, M_fleasOfGuests_L44, M_fleasOfBeds_L44, M_reason_L44, M_row_L44, M_bestRow_L44, M_image_L44, M_isKept_L44)) (fun (M_beds_91, M_law_91, M_worths_91, M_sights_91, M_sight_91, M_signs_91, M_pad_91, M_lies_91, M_empty_91, M_list_91, M_waits_91, M_yard_91, M_last_91, M_used_91, M_sheets_91, M_nights_91, M_fleasOfGuests_91, M_fleasOfBeds_91, M_reason_91, M_row_91, M_bestRow_91, M_image_91, M_isKept_91) => f_X6_year_L44 c_x2 nL44 ((((nI 75) * x4_L44) + (nI 74)) - (((nI 75) * x4_L44) + (nI 74)) / (nI 65537) * (nI 65537)) (x5_L44 + (nI 1)) M_beds_91 M_law_91 M_worths_91 M_sights_91 M_sight_91 M_signs_91 M_pad_91 M_lies_91 M_empty_91 M_list_91 M_waits_91 M_yard_91 M_last_91 M_used_91 M_sheets_91 M_nights_91 M_fleasOfGuests_91 M_fleasOfBeds_91 M_reason_91 M_row_91 M_bestRow_91 M_image_91 M_isKept_91 kL44)) else (Option.bind (f_X6_goOut (((((nI 75) * x4_L44) + (nI 74)) - (((nI 75) * x4_L44) + (nI 74)) / (nI 65537) * (nI 65537)) - ((((nI 75) * x4_L44) + (nI 74)) - (((nI 75) * x4_L44) + (nI 74)) / (nI 65537) * (nI 65537)) / (nI 8) * (nI 8)) (M_beds_L44, M_law_L44, M_worths_L44, M_sights_L44, M_sight_L44, M_signs_L44, M_pad_L44, M_lies_L44, M_empty_L44, M_list_L44, M_waits_L44, M_yard_L44, M_last_L44, M_used_L44, M_sheets_L44, M_nights_L44, M_fleasOfGuests_L44, M_fleasOfBeds_L44, M_reason_L44, M_row_L44, M_bestRow_L44, M_image_L44, M_isKept_L44)) (fun (M_beds_82, M_law_82, M_worths_82, M_sights_82, M_sight_82, M_signs_82, M_pad_82, M_lies_82, M_empty_82, M_list_82, M_waits_82, M_yard_82, M_last_82, M_used_82, M_sheets_82, M_nights_82, M_fleasOfGuests_82, M_fleasOfBeds_82, M_reason_82, M_row_82, M_bestRow_82, M_image_82, M_isKept_82) => f_X6_year_L44 c_x2 nL44 ((((nI 75) * x4_L44) + (nI 74)) - (((nI 75) * x4_L44) + (nI 74)) / (nI 65537) * (nI 65537)) (x5_L44 + (nI 1)) M_beds_82 M_law_82 M_worths_82 M_sights_82 M_sight_82 M_signs_82 M_pad_82 M_lies_82 M_empty_82 M_list_82 M_waits_82 M_yard_82 M_last_82 M_used_82 M_sheets_82 M_nights_82 M_fleasOfGuests_82 M_fleasOfBeds_82 M_reason_82 M_row_82 M_bestRow_82 M_image_82 M_isKept_82 kL44))))))
def f_X6_year : Int32 → Int32 → Int32 → ModS → Option (Int32 × ModS)
  | x1, x2, x3, (M_beds, M_law, M_worths, M_sights, M_sight, M_signs, M_pad, M_lies, M_empty, M_list, M_waits, M_yard, M_last, M_used, M_sheets, M_nights, M_fleasOfGuests, M_fleasOfBeds, M_reason, M_row, M_bestRow, M_image, M_isKept) => (Option.bind (f_X6_isBed x3 (M_beds, M_law, M_worths, M_sights, M_sight, M_signs, M_pad, M_lies, M_empty, M_list, M_waits, M_yard, M_last, M_used, M_sheets, M_nights, M_fleasOfGuests, M_fleasOfBeds, M_reason, M_row, M_bestRow, M_image, M_isKept)) (fun r_2 => (if r_2 = 0 then some ((-1 : Int32), (M_beds, M_law, M_worths, M_sights, M_sight, M_signs, M_pad, M_lies, M_empty, M_list, M_waits, M_yard, M_last, M_used, M_sheets, M_nights, M_fleasOfGuests, M_fleasOfBeds, M_reason, M_row, M_bestRow, M_image, M_isKept)) else (Option.bind (f_X6_in x1 (nI 0) (nI 9999)) (fun r_15 => (if r_15 = 0 then some ((-2 : Int32), (M_beds, M_law, M_worths, M_sights, M_sight, M_signs, M_pad, M_lies, M_empty, M_list, M_waits, M_yard, M_last, M_used, M_sheets, M_nights, M_fleasOfGuests, M_fleasOfBeds, M_reason, M_row, M_bestRow, M_image, M_isKept)) else (Option.bind (f_X6_in x2 (nI 1) (nI 99)) (fun r_25 => (if r_25 = 0 then some ((-2 : Int32), (M_beds, M_law, M_worths, M_sights, M_sight, M_signs, M_pad, M_lies, M_empty, M_list, M_waits, M_yard, M_last, M_used, M_sheets, M_nights, M_fleasOfGuests, M_fleasOfBeds, M_reason, M_row, M_bestRow, M_image, M_isKept)) else (Option.bind (f_X6_begin (M_beds, M_law, M_worths, M_sights, M_sight, M_signs, M_pad, M_lies, M_empty, M_list, M_waits, M_yard, M_last, M_used, M_sheets, M_nights, M_fleasOfGuests, M_fleasOfBeds, M_reason, M_row, M_bestRow, M_image, M_isKept)) (fun (M_beds_35, M_law_35, M_worths_35, M_sights_35, M_sight_35, M_signs_35, M_pad_35, M_lies_35, M_empty_35, M_list_35, M_waits_35, M_yard_35, M_last_35, M_used_35, M_sheets_35, M_nights_35, M_fleasOfGuests_35, M_fleasOfBeds_35, M_reason_35, M_row_35, M_bestRow_35, M_image_35, M_isKept_35) => f_X6_year_L44 x2 FU x1 (nI 0) M_beds_35 M_law_35 M_worths_35 M_sights_35 M_sight_35 M_signs_35 M_pad_35 M_lies_35 M_empty_35 M_list_35 M_waits_35 M_yard_35 M_last_35 M_used_35 M_sheets_35 M_nights_35 M_fleasOfGuests_35 M_fleasOfBeds_35 M_reason_35 M_row_35 M_bestRow_35 M_image_35 M_isKept_35 (fun x4_L44 x5_L44 M_beds_L44 M_law_L44 M_worths_L44 M_sights_L44 M_sight_L44 M_signs_L44 M_pad_L44 M_lies_L44 M_empty_L44 M_list_L44 M_waits_L44 M_yard_L44 M_last_L44 M_used_L44 M_sheets_L44 M_nights_L44 M_fleasOfGuests_L44 M_fleasOfBeds_L44 M_reason_L44 M_row_L44 M_bestRow_L44 M_image_L44 M_isKept_L44 => (if x3 < 0 ∨ 8 ≤ x3.toNatClampNeg then none else some ((M_used_L44 x3.toNatClampNeg), (M_beds_L44, M_law_L44, M_worths_L44, M_sights_L44, M_sight_L44, M_signs_L44, M_pad_L44, M_lies_L44, M_empty_L44, M_list_L44, M_waits_L44, M_yard_L44, M_last_L44, M_used_L44, M_sheets_L44, M_nights_L44, M_fleasOfGuests_L44, M_fleasOfBeds_L44, M_reason_L44, M_row_L44, M_bestRow_L44, M_image_L44, M_isKept_L44)))))))))))))))
set_option maxHeartbeats 4000000 in
set_option maxRecDepth 100000 in
theorem c_X6_year (l : Launch) (D : va_G) (cI cZ : ClassId) (aM : Nat → Nat) (x1 : Int32) (x2 : Int32) (x3 : Int32) (tM : ModS) (rr : Int32 × ModS) (hf : f_X6_year x1 x2 x3 tM = some rr) : CT l D cI cZ yX6_year cX6_year 7 (some .int) 3 70 0 0 [.ref (aM 0), .int x1, .int x2, .int x3] ([mC cI cZ aM tM]) (gPost (some (.int rr.1)) ([mC cI cZ aM rr.2])) := by
  obtain ⟨M_beds, M_law, M_worths, M_sights, M_sight, M_signs, M_pad, M_lies, M_empty, M_list, M_waits, M_yard, M_last, M_used, M_sheets, M_nights, M_fleasOfGuests, M_fleasOfBeds, M_reason, M_row, M_bestRow, M_image, M_isKept⟩ := tM
  rw [f_X6_year] at hf
  refine CT.mkI (by decide) (Nat.le_of_ble_eq_true rfl) fun {p} {e} {R} {s} {m} {args} {below} {meth} {c} {A} {H0} {Q} C hA hR hret => ?_
  show G p l e R s m args below meth c 7 D A H0 0 0 Q [mC cI cZ aM (M_beds, M_law, M_worths, M_sights, M_sight, M_signs, M_pad, M_lies, M_empty, M_list, M_waits, M_yard, M_last, M_used, M_sheets, M_nights, M_fleasOfGuests, M_fleasOfBeds, M_reason, M_row, M_bestRow, M_image, M_isKept)] 0 [(0, .ref (aM 0)), (1, .int x1), (2, .int x2), (3, .int x3)] []
  refine gq_aload_n C 0 1 dX6_year_0 rfl rfl ?_
  refine gq_iload_n C 3 2 dX6_year_1 rfl rfl ?_
  obtain ⟨r_2, hc, hf⟩ := gq_bd hf
  refine gq_callV C hA gm_X6_71 (c_X6_isBed l D cI cZ aM x3 (M_beds, M_law, M_worths, M_sights, M_sight, M_signs, M_pad, M_lies, M_empty, M_list, M_waits, M_yard, M_last, M_used, M_sheets, M_nights, M_fleasOfGuests, M_fleasOfBeds, M_reason, M_row, M_bestRow, M_image, M_isKept) _ hc) rfl 0 0 rfl rfl rfl ⟨Nat.le_trans (Nat.le_of_ble_eq_true rfl) hR.1, Nat.le_trans (Nat.le_of_ble_eq_true rfl) hR.2.1⟩ ⟨Nat.zero_le _, Nat.zero_le _⟩ rfl (Nat.le_of_ble_eq_true rfl) dX6_year_2 [0] [mC cI cZ aM (M_beds, M_law, M_worths, M_sights, M_sight, M_signs, M_pad, M_lies, M_empty, M_list, M_waits, M_yard, M_last, M_used, M_sheets, M_nights, M_fleasOfGuests, M_fleasOfBeds, M_reason, M_row, M_bestRow, M_image, M_isKept)] 5 rfl (by decide) rfl rfl rfl [.int r_2] rfl ?_
  refine gq_if_ne C 10 8 dX6_year_5 (by decide) rfl (fun h5 => ?_) (fun h5 => ?_)
  · replace hf := gq_ifn h5 hf
    refine gq_iload_n C 1 11 dX6_year_10 rfl rfl ?_
    refine gq_iconst C (nI 0) 12 dX6_year_11 (by decide) rfl ?_
    refine gq_sipush C (nI 9999) 15 dX6_year_12 (by decide) rfl ?_
    obtain ⟨r_15, hc, hf⟩ := gq_bd hf
    refine gq_callS C hA gm_X6_60 (c_X6_in l D cI cZ  x1 (nI 0) (nI 9999) _ hc) rfl ⟨Nat.le_trans (Nat.le_of_ble_eq_true rfl) hR.1, Nat.le_trans (Nat.le_of_ble_eq_true rfl) hR.2.1⟩ ⟨Nat.zero_le _, Nat.zero_le _⟩ rfl (Nat.le_of_ble_eq_true rfl) dX6_year_15 [] [mC cI cZ aM (M_beds, M_law, M_worths, M_sights, M_sight, M_signs, M_pad, M_lies, M_empty, M_list, M_waits, M_yard, M_last, M_used, M_sheets, M_nights, M_fleasOfGuests, M_fleasOfBeds, M_reason, M_row, M_bestRow, M_image, M_isKept)] 18 rfl (by decide) rfl rfl rfl [.int r_15] rfl ?_
    refine gq_if_eq C 31 21 dX6_year_18 (by decide) rfl (fun h18 => ?_) (fun h18 => ?_)
    · replace hf := gq_ifp h18 hf
      refine gq_bipush C (-2 : Int32) 33 dX6_year_31 (by decide) rfl ?_
      obtain rfl := gq_lf hf
      exact hret dX6_year_33 gPost.rf
    · replace hf := gq_ifn h18 hf
      refine gq_iload_n C 2 22 dX6_year_21 rfl rfl ?_
      refine gq_iconst C (nI 1) 23 dX6_year_22 (by decide) rfl ?_
      refine gq_bipush C (nI 99) 25 dX6_year_23 (by decide) rfl ?_
      obtain ⟨r_25, hc, hf⟩ := gq_bd hf
      refine gq_callS C hA gm_X6_60 (c_X6_in l D cI cZ  x2 (nI 1) (nI 99) _ hc) rfl ⟨Nat.le_trans (Nat.le_of_ble_eq_true rfl) hR.1, Nat.le_trans (Nat.le_of_ble_eq_true rfl) hR.2.1⟩ ⟨Nat.zero_le _, Nat.zero_le _⟩ rfl (Nat.le_of_ble_eq_true rfl) dX6_year_25 [] [mC cI cZ aM (M_beds, M_law, M_worths, M_sights, M_sight, M_signs, M_pad, M_lies, M_empty, M_list, M_waits, M_yard, M_last, M_used, M_sheets, M_nights, M_fleasOfGuests, M_fleasOfBeds, M_reason, M_row, M_bestRow, M_image, M_isKept)] 28 rfl (by decide) rfl rfl rfl [.int r_25] rfl ?_
      refine gq_if_ne C 34 31 dX6_year_28 (by decide) rfl (fun h28 => ?_) (fun h28 => ?_)
      · replace hf := gq_ifn h28 hf
        refine gq_aload_n C 0 35 dX6_year_34 rfl rfl ?_
        obtain ⟨⟨M_beds_35, M_law_35, M_worths_35, M_sights_35, M_sight_35, M_signs_35, M_pad_35, M_lies_35, M_empty_35, M_list_35, M_waits_35, M_yard_35, M_last_35, M_used_35, M_sheets_35, M_nights_35, M_fleasOfGuests_35, M_fleasOfBeds_35, M_reason_35, M_row_35, M_bestRow_35, M_image_35, M_isKept_35⟩, hc, hf⟩ := gq_bd hf
        refine gq_callV C hA gm_X6_131 (c_X6_begin l D cI cZ aM (M_beds, M_law, M_worths, M_sights, M_sight, M_signs, M_pad, M_lies, M_empty, M_list, M_waits, M_yard, M_last, M_used, M_sheets, M_nights, M_fleasOfGuests, M_fleasOfBeds, M_reason, M_row, M_bestRow, M_image, M_isKept) _ hc) rfl 0 0 rfl rfl rfl ⟨Nat.le_trans (Nat.le_of_ble_eq_true rfl) hR.1, Nat.le_trans (Nat.le_of_ble_eq_true rfl) hR.2.1⟩ ⟨Nat.zero_le _, Nat.zero_le _⟩ rfl (Nat.le_of_ble_eq_true rfl) dX6_year_35 [0] [mC cI cZ aM (M_beds_35, M_law_35, M_worths_35, M_sights_35, M_sight_35, M_signs_35, M_pad_35, M_lies_35, M_empty_35, M_list_35, M_waits_35, M_yard_35, M_last_35, M_used_35, M_sheets_35, M_nights_35, M_fleasOfGuests_35, M_fleasOfBeds_35, M_reason_35, M_row_35, M_bestRow_35, M_image_35, M_isKept_35)] 38 rfl (by decide) rfl rfl rfl [] rfl ?_
        refine gq_iload_n C 1 39 dX6_year_38 rfl rfl ?_
        refine gq_istore C [(4, .int x1), (0, .ref (aM 0)), (1, .int x1), (2, .int x2), (3, .int x3)] 41 dX6_year_39 (by decide) rfl rfl ?_
        refine gq_iconst C (nI 0) 42 dX6_year_41 (by decide) rfl ?_
        refine gq_istore C [(5, .int (nI 0)), (4, .int x1), (0, .ref (aM 0)), (1, .int x1), (2, .int x2), (3, .int x3)] 44 dX6_year_42 (by decide) rfl rfl ?_
        have L44 : ∀ (kL : Int32 → Int32 → Int32 → Int32 → (Nat → Int32) → Int32 → (Nat → Int32) → Int32 → (Nat → Int32) → (Nat → Int32) → Int32 → (Nat → Int32) → Int32 → (Nat → Int32) → (Nat → Int32) → (Nat → Int32) → (Nat → Int32) → (Nat → Int32) → Int32 → Int32 → Int32 → (Nat → Int32) → (Nat → Int32) → (Nat → Int32) → (Nat → Int32) → Option (Int32 × ModS)), (∀ (x4_L44 : Int32) (x5_L44 : Int32) (M_beds_L44 : Int32) (M_law_L44 : Int32) (M_worths_L44 : (Nat → Int32)) (M_sights_L44 : Int32) (M_sight_L44 : (Nat → Int32)) (M_signs_L44 : Int32) (M_pad_L44 : (Nat → Int32)) (M_lies_L44 : (Nat → Int32)) (M_empty_L44 : Int32) (M_list_L44 : (Nat → Int32)) (M_waits_L44 : Int32) (M_yard_L44 : (Nat → Int32)) (M_last_L44 : (Nat → Int32)) (M_used_L44 : (Nat → Int32)) (M_sheets_L44 : (Nat → Int32)) (M_nights_L44 : (Nat → Int32)) (M_fleasOfGuests_L44 : Int32) (M_fleasOfBeds_L44 : Int32) (M_reason_L44 : Int32) (M_row_L44 : (Nat → Int32)) (M_bestRow_L44 : (Nat → Int32)) (M_image_L44 : (Nat → Int32)) (M_isKept_L44 : (Nat → Int32)), kL x4_L44 x5_L44 M_beds_L44 M_law_L44 M_worths_L44 M_sights_L44 M_sight_L44 M_signs_L44 M_pad_L44 M_lies_L44 M_empty_L44 M_list_L44 M_waits_L44 M_yard_L44 M_last_L44 M_used_L44 M_sheets_L44 M_nights_L44 M_fleasOfGuests_L44 M_fleasOfBeds_L44 M_reason_L44 M_row_L44 M_bestRow_L44 M_image_L44 M_isKept_L44 = some rr → G p l e R s m args below meth c 7 D A H0 0 0 Q [mC cI cZ aM (M_beds_L44, M_law_L44, M_worths_L44, M_sights_L44, M_sight_L44, M_signs_L44, M_pad_L44, M_lies_L44, M_empty_L44, M_list_L44, M_waits_L44, M_yard_L44, M_last_L44, M_used_L44, M_sheets_L44, M_nights_L44, M_fleasOfGuests_L44, M_fleasOfBeds_L44, M_reason_L44, M_row_L44, M_bestRow_L44, M_image_L44, M_isKept_L44)] 100 [(5, .int x5_L44), (4, .int x4_L44), (0, .ref (aM 0)), (1, .int x1), (2, .int x2), (3, .int x3)] []) → ∀ (n : Nat) (x4_L44 : Int32) (x5_L44 : Int32) (M_beds_L44 : Int32) (M_law_L44 : Int32) (M_worths_L44 : (Nat → Int32)) (M_sights_L44 : Int32) (M_sight_L44 : (Nat → Int32)) (M_signs_L44 : Int32) (M_pad_L44 : (Nat → Int32)) (M_lies_L44 : (Nat → Int32)) (M_empty_L44 : Int32) (M_list_L44 : (Nat → Int32)) (M_waits_L44 : Int32) (M_yard_L44 : (Nat → Int32)) (M_last_L44 : (Nat → Int32)) (M_used_L44 : (Nat → Int32)) (M_sheets_L44 : (Nat → Int32)) (M_nights_L44 : (Nat → Int32)) (M_fleasOfGuests_L44 : Int32) (M_fleasOfBeds_L44 : Int32) (M_reason_L44 : Int32) (M_row_L44 : (Nat → Int32)) (M_bestRow_L44 : (Nat → Int32)) (M_image_L44 : (Nat → Int32)) (M_isKept_L44 : (Nat → Int32)), f_X6_year_L44 x2 n x4_L44 x5_L44 M_beds_L44 M_law_L44 M_worths_L44 M_sights_L44 M_sight_L44 M_signs_L44 M_pad_L44 M_lies_L44 M_empty_L44 M_list_L44 M_waits_L44 M_yard_L44 M_last_L44 M_used_L44 M_sheets_L44 M_nights_L44 M_fleasOfGuests_L44 M_fleasOfBeds_L44 M_reason_L44 M_row_L44 M_bestRow_L44 M_image_L44 M_isKept_L44 kL = some rr → G p l e R s m args below meth c 7 D A H0 0 0 Q [mC cI cZ aM (M_beds_L44, M_law_L44, M_worths_L44, M_sights_L44, M_sight_L44, M_signs_L44, M_pad_L44, M_lies_L44, M_empty_L44, M_list_L44, M_waits_L44, M_yard_L44, M_last_L44, M_used_L44, M_sheets_L44, M_nights_L44, M_fleasOfGuests_L44, M_fleasOfBeds_L44, M_reason_L44, M_row_L44, M_bestRow_L44, M_image_L44, M_isKept_L44)] 44 [(5, .int x5_L44), (4, .int x4_L44), (0, .ref (aM 0)), (1, .int x1), (2, .int x2), (3, .int x3)] [] := by
          intro kL hkL44 n
          induction n with
          | zero =>
            intro x4_L44 x5_L44 M_beds_L44 M_law_L44 M_worths_L44 M_sights_L44 M_sight_L44 M_signs_L44 M_pad_L44 M_lies_L44 M_empty_L44 M_list_L44 M_waits_L44 M_yard_L44 M_last_L44 M_used_L44 M_sheets_L44 M_nights_L44 M_fleasOfGuests_L44 M_fleasOfBeds_L44 M_reason_L44 M_row_L44 M_bestRow_L44 M_image_L44 M_isKept_L44 hf
            rw [f_X6_year_L44] at hf
            cases hf
          | succ n ihL44 =>
            intro x4_L44 x5_L44 M_beds_L44 M_law_L44 M_worths_L44 M_sights_L44 M_sight_L44 M_signs_L44 M_pad_L44 M_lies_L44 M_empty_L44 M_list_L44 M_waits_L44 M_yard_L44 M_last_L44 M_used_L44 M_sheets_L44 M_nights_L44 M_fleasOfGuests_L44 M_fleasOfBeds_L44 M_reason_L44 M_row_L44 M_bestRow_L44 M_image_L44 M_isKept_L44 hf
            rw [f_X6_year_L44] at hf
            refine gq_iload C 0 46 dX6_year_44 rfl rfl ?_
            refine gq_iload_n C 4 47 dX6_year_46 rfl rfl ?_
            refine gq_icmp_ge C 100 50 dX6_year_47 (by decide) rfl (fun h47 => ?_) (fun h47 => ?_)
            · replace hf := gq_ifp h47 hf
              exact hkL44 _ _ _ _ _ _ _ _ _ _ _ _ _ _ _ _ _ _ _ _ _ _ _ _ _ hf
            · replace hf := gq_ifn h47 hf
              refine gq_bipush C (nI 75) 52 dX6_year_50 (by decide) rfl ?_
              refine gq_iload C 1 54 dX6_year_52 rfl rfl ?_
              refine gq_imul C 55 dX6_year_54 rfl ?_
              refine gq_bipush C (nI 74) 57 dX6_year_55 (by decide) rfl ?_
              refine gq_iadd C 58 dX6_year_57 rfl ?_
              refine gq_ldc C (nI 65537) 60 cw_X6_189 dX6_year_58 rfl ?_
              refine gq_irem C 61 dX6_year_60 (by decide) rfl ?_
              refine gq_istore C [(4, .int ((((nI 75) * x4_L44) + (nI 74)) - (((nI 75) * x4_L44) + (nI 74)) / (nI 65537) * (nI 65537))), (5, .int x5_L44), (0, .ref (aM 0)), (1, .int x1), (2, .int x2), (3, .int x3)] 63 dX6_year_61 (by decide) rfl rfl ?_
              refine gq_iload C 0 65 dX6_year_63 rfl rfl ?_
              refine gq_bipush C (nI 8) 67 dX6_year_65 (by decide) rfl ?_
              refine gq_irem C 68 dX6_year_67 (by decide) rfl ?_
              refine gq_istore C [(6, .int (((((nI 75) * x4_L44) + (nI 74)) - (((nI 75) * x4_L44) + (nI 74)) / (nI 65537) * (nI 65537)) - ((((nI 75) * x4_L44) + (nI 74)) - (((nI 75) * x4_L44) + (nI 74)) / (nI 65537) * (nI 65537)) / (nI 8) * (nI 8))), (4, .int ((((nI 75) * x4_L44) + (nI 74)) - (((nI 75) * x4_L44) + (nI 74)) / (nI 65537) * (nI 65537))), (5, .int x5_L44), (0, .ref (aM 0)), (1, .int x1), (2, .int x2), (3, .int x3)] 70 dX6_year_68 (by decide) rfl rfl ?_
              refine gq_aload_n C 3 71 dX6_year_70 rfl rfl ?_
              refine gq_iload C 0 73 dX6_year_71 rfl rfl ?_
              obtain ⟨r_73, hc, hf⟩ := gq_bd hf
              refine gq_callV C hA gm_X6_122 (c_X6_isThere l D cI cZ aM (((((nI 75) * x4_L44) + (nI 74)) - (((nI 75) * x4_L44) + (nI 74)) / (nI 65537) * (nI 65537)) - ((((nI 75) * x4_L44) + (nI 74)) - (((nI 75) * x4_L44) + (nI 74)) / (nI 65537) * (nI 65537)) / (nI 8) * (nI 8)) (M_beds_L44, M_law_L44, M_worths_L44, M_sights_L44, M_sight_L44, M_signs_L44, M_pad_L44, M_lies_L44, M_empty_L44, M_list_L44, M_waits_L44, M_yard_L44, M_last_L44, M_used_L44, M_sheets_L44, M_nights_L44, M_fleasOfGuests_L44, M_fleasOfBeds_L44, M_reason_L44, M_row_L44, M_bestRow_L44, M_image_L44, M_isKept_L44) _ hc) rfl 0 0 rfl rfl rfl ⟨Nat.le_trans (Nat.le_of_ble_eq_true rfl) hR.1, Nat.le_trans (Nat.le_of_ble_eq_true rfl) hR.2.1⟩ ⟨Nat.zero_le _, Nat.zero_le _⟩ rfl (Nat.le_of_ble_eq_true rfl) dX6_year_73 [0] [mC cI cZ aM (M_beds_L44, M_law_L44, M_worths_L44, M_sights_L44, M_sight_L44, M_signs_L44, M_pad_L44, M_lies_L44, M_empty_L44, M_list_L44, M_waits_L44, M_yard_L44, M_last_L44, M_used_L44, M_sheets_L44, M_nights_L44, M_fleasOfGuests_L44, M_fleasOfBeds_L44, M_reason_L44, M_row_L44, M_bestRow_L44, M_image_L44, M_isKept_L44)] 76 rfl (by decide) rfl rfl rfl [.int r_73] rfl ?_
              refine gq_if_eq C 88 79 dX6_year_76 (by decide) rfl (fun h76 => ?_) (fun h76 => ?_)
              · replace hf := gq_ifp h76 hf
                refine gq_aload_n C 3 89 dX6_year_88 rfl rfl ?_
                refine gq_iload C 0 91 dX6_year_89 rfl rfl ?_
                obtain ⟨⟨M_beds_91, M_law_91, M_worths_91, M_sights_91, M_sight_91, M_signs_91, M_pad_91, M_lies_91, M_empty_91, M_list_91, M_waits_91, M_yard_91, M_last_91, M_used_91, M_sheets_91, M_nights_91, M_fleasOfGuests_91, M_fleasOfBeds_91, M_reason_91, M_row_91, M_bestRow_91, M_image_91, M_isKept_91⟩, hc, hf⟩ := gq_bd hf
                refine gq_callV C hA gm_X6_125 (c_X6_comeIn l D cI cZ aM (((((nI 75) * x4_L44) + (nI 74)) - (((nI 75) * x4_L44) + (nI 74)) / (nI 65537) * (nI 65537)) - ((((nI 75) * x4_L44) + (nI 74)) - (((nI 75) * x4_L44) + (nI 74)) / (nI 65537) * (nI 65537)) / (nI 8) * (nI 8)) (M_beds_L44, M_law_L44, M_worths_L44, M_sights_L44, M_sight_L44, M_signs_L44, M_pad_L44, M_lies_L44, M_empty_L44, M_list_L44, M_waits_L44, M_yard_L44, M_last_L44, M_used_L44, M_sheets_L44, M_nights_L44, M_fleasOfGuests_L44, M_fleasOfBeds_L44, M_reason_L44, M_row_L44, M_bestRow_L44, M_image_L44, M_isKept_L44) _ hc) rfl 0 0 rfl rfl rfl ⟨Nat.le_trans (Nat.le_of_ble_eq_true rfl) hR.1, Nat.le_trans (Nat.le_of_ble_eq_true rfl) hR.2.1⟩ ⟨Nat.zero_le _, Nat.zero_le _⟩ rfl (Nat.le_of_ble_eq_true rfl) dX6_year_91 [0] [mC cI cZ aM (M_beds_91, M_law_91, M_worths_91, M_sights_91, M_sight_91, M_signs_91, M_pad_91, M_lies_91, M_empty_91, M_list_91, M_waits_91, M_yard_91, M_last_91, M_used_91, M_sheets_91, M_nights_91, M_fleasOfGuests_91, M_fleasOfBeds_91, M_reason_91, M_row_91, M_bestRow_91, M_image_91, M_isKept_91)] 94 rfl (by decide) rfl rfl rfl [] rfl ?_
                refine gq_iinc C 2 [(5, .int (x5_L44 + (nI 1))), (6, .int (((((nI 75) * x4_L44) + (nI 74)) - (((nI 75) * x4_L44) + (nI 74)) / (nI 65537) * (nI 65537)) - ((((nI 75) * x4_L44) + (nI 74)) - (((nI 75) * x4_L44) + (nI 74)) / (nI 65537) * (nI 65537)) / (nI 8) * (nI 8))), (4, .int ((((nI 75) * x4_L44) + (nI 74)) - (((nI 75) * x4_L44) + (nI 74)) / (nI 65537) * (nI 65537))), (0, .ref (aM 0)), (1, .int x1), (2, .int x2), (3, .int x3)] 97 dX6_year_94 rfl rfl (by decide) rfl rfl ?_
                refine gq_goto C 44 dX6_year_97 (by decide) ?_
                refine gq_lv [0, 2, 3, 4, 5, 6] rfl ?_
                exact ihL44 _ _ _ _ _ _ _ _ _ _ _ _ _ _ _ _ _ _ _ _ _ _ _ _ _ hf
              · replace hf := gq_ifn h76 hf
                refine gq_aload_n C 3 80 dX6_year_79 rfl rfl ?_
                refine gq_iload C 0 82 dX6_year_80 rfl rfl ?_
                obtain ⟨⟨M_beds_82, M_law_82, M_worths_82, M_sights_82, M_sight_82, M_signs_82, M_pad_82, M_lies_82, M_empty_82, M_list_82, M_waits_82, M_yard_82, M_last_82, M_used_82, M_sheets_82, M_nights_82, M_fleasOfGuests_82, M_fleasOfBeds_82, M_reason_82, M_row_82, M_bestRow_82, M_image_82, M_isKept_82⟩, hc, hf⟩ := gq_bd hf
                refine gq_callV C hA gm_X6_128 (c_X6_goOut l D cI cZ aM (((((nI 75) * x4_L44) + (nI 74)) - (((nI 75) * x4_L44) + (nI 74)) / (nI 65537) * (nI 65537)) - ((((nI 75) * x4_L44) + (nI 74)) - (((nI 75) * x4_L44) + (nI 74)) / (nI 65537) * (nI 65537)) / (nI 8) * (nI 8)) (M_beds_L44, M_law_L44, M_worths_L44, M_sights_L44, M_sight_L44, M_signs_L44, M_pad_L44, M_lies_L44, M_empty_L44, M_list_L44, M_waits_L44, M_yard_L44, M_last_L44, M_used_L44, M_sheets_L44, M_nights_L44, M_fleasOfGuests_L44, M_fleasOfBeds_L44, M_reason_L44, M_row_L44, M_bestRow_L44, M_image_L44, M_isKept_L44) _ hc) rfl 0 0 rfl rfl rfl ⟨Nat.le_trans (Nat.le_of_ble_eq_true rfl) hR.1, Nat.le_trans (Nat.le_of_ble_eq_true rfl) hR.2.1⟩ ⟨Nat.zero_le _, Nat.zero_le _⟩ rfl (Nat.le_of_ble_eq_true rfl) dX6_year_82 [0] [mC cI cZ aM (M_beds_82, M_law_82, M_worths_82, M_sights_82, M_sight_82, M_signs_82, M_pad_82, M_lies_82, M_empty_82, M_list_82, M_waits_82, M_yard_82, M_last_82, M_used_82, M_sheets_82, M_nights_82, M_fleasOfGuests_82, M_fleasOfBeds_82, M_reason_82, M_row_82, M_bestRow_82, M_image_82, M_isKept_82)] 85 rfl (by decide) rfl rfl rfl [] rfl ?_
                refine gq_goto C 94 dX6_year_85 (by decide) ?_
                refine gq_iinc C 2 [(5, .int (x5_L44 + (nI 1))), (6, .int (((((nI 75) * x4_L44) + (nI 74)) - (((nI 75) * x4_L44) + (nI 74)) / (nI 65537) * (nI 65537)) - ((((nI 75) * x4_L44) + (nI 74)) - (((nI 75) * x4_L44) + (nI 74)) / (nI 65537) * (nI 65537)) / (nI 8) * (nI 8))), (4, .int ((((nI 75) * x4_L44) + (nI 74)) - (((nI 75) * x4_L44) + (nI 74)) / (nI 65537) * (nI 65537))), (0, .ref (aM 0)), (1, .int x1), (2, .int x2), (3, .int x3)] 97 dX6_year_94 rfl rfl (by decide) rfl rfl ?_
                refine gq_goto C 44 dX6_year_97 (by decide) ?_
                refine gq_lv [0, 2, 3, 4, 5, 6] rfl ?_
                exact ihL44 _ _ _ _ _ _ _ _ _ _ _ _ _ _ _ _ _ _ _ _ _ _ _ _ _ hf
        refine L44 _ (fun x4_L44 x5_L44 M_beds_L44 M_law_L44 M_worths_L44 M_sights_L44 M_sight_L44 M_signs_L44 M_pad_L44 M_lies_L44 M_empty_L44 M_list_L44 M_waits_L44 M_yard_L44 M_last_L44 M_used_L44 M_sheets_L44 M_nights_L44 M_fleasOfGuests_L44 M_fleasOfBeds_L44 M_reason_L44 M_row_L44 M_bestRow_L44 M_image_L44 M_isKept_L44 hf => ?_) _ _ _ _ _ _ _ _ _ _ _ _ _ _ _ _ _ _ _ _ _ _ _ _ _ _ hf
        refine gq_aload_n C 2 101 dX6_year_100 rfl rfl ?_
        refine gq_get C fo_X6_13 fw_X6_35 0 0 104 rfl rfl rfl dX6_year_101 rfl ?_
        refine gq_iload_n C 5 105 dX6_year_104 rfl rfl ?_
        obtain ⟨h105, hf⟩ := gq_ok hf
        refine gq_iald C 0 8 106 rfl rfl h105 dX6_year_105 rfl ?_
        obtain rfl := gq_lf hf
        exact hret dX6_year_106 gPost.rf
      · replace hf := gq_ifp h28 hf
        refine gq_bipush C (-2 : Int32) 33 dX6_year_31 (by decide) rfl ?_
        obtain rfl := gq_lf hf
        exact hret dX6_year_33 gPost.rf
  · replace hf := gq_ifp h5 hf
    refine gq_iconst C (-1 : Int32) 9 dX6_year_8 (by decide) rfl ?_
    obtain rfl := gq_lf hf
    exact hret dX6_year_9 gPost.rf

def f_X6_image_L19 (c_x2 : Int32) (c_M_worths : (Nat → Int32)) : Nat → Int32 → (Nat → Int32) → (Int32 → (Nat → Int32) → Option (Int32 × ModS)) → Option (Int32 × ModS)
  | 0, _, _, _ => none
  | nL19 + 1, x3_L19, M_image_L19, kL19 => (if (nI 64) ≤ x3_L19 then kL19 x3_L19 M_image_L19 else (if x3_L19 < 0 ∨ 64 ≤ x3_L19.toNatClampNeg then none else (if (c_x2 + x3_L19) < 0 ∨ 160 ≤ (c_x2 + x3_L19).toNatClampNeg then none else f_X6_image_L19 c_x2 c_M_worths nL19 (x3_L19 + (nI 1)) (upd M_image_L19 (c_x2 + x3_L19).toNatClampNeg (c_M_worths x3_L19.toNatClampNeg)) kL19)))
def f_X6_image_L47 (c_x2 : Int32) (c_M_sight : (Nat → Int32)) : Nat → Int32 → (Nat → Int32) → (Int32 → (Nat → Int32) → Option (Int32 × ModS)) → Option (Int32 × ModS)
  | 0, _, _, _ => none
  | nL47 + 1, x3_L47, M_image_L47, kL47 => (if (nI 12) ≤ x3_L47 then kL47 x3_L47 M_image_L47 else (if x3_L47 < 0 ∨ 12 ≤ x3_L47.toNatClampNeg then none else (if ((c_x2 + (nI 64)) + x3_L47) < 0 ∨ 160 ≤ ((c_x2 + (nI 64)) + x3_L47).toNatClampNeg then none else f_X6_image_L47 c_x2 c_M_sight nL47 (x3_L47 + (nI 1)) (upd M_image_L47 ((c_x2 + (nI 64)) + x3_L47).toNatClampNeg (c_M_sight x3_L47.toNatClampNeg)) kL47)))
def f_X6_image : Int32 → ModS → Option (Int32 × ModS)
  | x1, (M_beds, M_law, M_worths, M_sights, M_sight, M_signs, M_pad, M_lies, M_empty, M_list, M_waits, M_yard, M_last, M_used, M_sheets, M_nights, M_fleasOfGuests, M_fleasOfBeds, M_reason, M_row, M_bestRow, M_image, M_isKept) => (Option.bind (f_X6_in x1 (nI 0) (nI 1)) (fun r_3 => (if r_3 = 0 then some ((-2 : Int32), (M_beds, M_law, M_worths, M_sights, M_sight, M_signs, M_pad, M_lies, M_empty, M_list, M_waits, M_yard, M_last, M_used, M_sheets, M_nights, M_fleasOfGuests, M_fleasOfBeds, M_reason, M_row, M_bestRow, M_image, M_isKept)) else f_X6_image_L19 ((nI 80) * x1) M_worths FU (nI 0) M_image (fun x3_L19 M_image_L19 => f_X6_image_L47 ((nI 80) * x1) M_sight FU (nI 0) M_image_L19 (fun x3_L47 M_image_L47 => (if (((nI 80) * x1) + (nI 76)) < 0 ∨ 160 ≤ (((nI 80) * x1) + (nI 76)).toNatClampNeg then none else (if (((nI 80) * x1) + (nI 77)) < 0 ∨ 160 ≤ (((nI 80) * x1) + (nI 77)).toNatClampNeg then none else (if (((nI 80) * x1) + (nI 78)) < 0 ∨ 160 ≤ (((nI 80) * x1) + (nI 78)).toNatClampNeg then none else (if x1 < 0 ∨ 2 ≤ x1.toNatClampNeg then none else some ((nI 1), (M_beds, M_law, M_worths, M_sights, M_sight, M_signs, M_pad, M_lies, M_empty, M_list, M_waits, M_yard, M_last, M_used, M_sheets, M_nights, M_fleasOfGuests, M_fleasOfBeds, M_reason, M_row, M_bestRow, (upd (upd (upd M_image_L47 (((nI 80) * x1) + (nI 76)).toNatClampNeg M_beds) (((nI 80) * x1) + (nI 77)).toNatClampNeg M_law) (((nI 80) * x1) + (nI 78)).toNatClampNeg M_sights), (upd M_isKept x1.toNatClampNeg (nI 1)))))))))))))
set_option maxHeartbeats 4000000 in
set_option maxRecDepth 100000 in
theorem c_X6_image (l : Launch) (D : va_G) (cI cZ : ClassId) (aM : Nat → Nat) (x1 : Int32) (tM : ModS) (rr : Int32 × ModS) (hf : f_X6_image x1 tM = some rr) : CT l D cI cZ yX6_image cX6_image 4 (some .int) 1 22 0 0 [.ref (aM 0), .int x1] ([mC cI cZ aM tM]) (gPost (some (.int rr.1)) ([mC cI cZ aM rr.2])) := by
  obtain ⟨M_beds, M_law, M_worths, M_sights, M_sight, M_signs, M_pad, M_lies, M_empty, M_list, M_waits, M_yard, M_last, M_used, M_sheets, M_nights, M_fleasOfGuests, M_fleasOfBeds, M_reason, M_row, M_bestRow, M_image, M_isKept⟩ := tM
  rw [f_X6_image] at hf
  refine CT.mkI (by decide) (Nat.le_of_ble_eq_true rfl) fun {p} {e} {R} {s} {m} {args} {below} {meth} {c} {A} {H0} {Q} C hA hR hret => ?_
  show G p l e R s m args below meth c 4 D A H0 0 0 Q [mC cI cZ aM (M_beds, M_law, M_worths, M_sights, M_sight, M_signs, M_pad, M_lies, M_empty, M_list, M_waits, M_yard, M_last, M_used, M_sheets, M_nights, M_fleasOfGuests, M_fleasOfBeds, M_reason, M_row, M_bestRow, M_image, M_isKept)] 0 [(0, .ref (aM 0)), (1, .int x1)] []
  refine gq_iload_n C 1 1 dX6_image_0 rfl rfl ?_
  refine gq_iconst C (nI 0) 2 dX6_image_1 (by decide) rfl ?_
  refine gq_iconst C (nI 1) 3 dX6_image_2 (by decide) rfl ?_
  obtain ⟨r_3, hc, hf⟩ := gq_bd hf
  refine gq_callS C hA gm_X6_60 (c_X6_in l D cI cZ  x1 (nI 0) (nI 1) _ hc) rfl ⟨Nat.le_trans (Nat.le_of_ble_eq_true rfl) hR.1, Nat.le_trans (Nat.le_of_ble_eq_true rfl) hR.2.1⟩ ⟨Nat.zero_le _, Nat.zero_le _⟩ rfl (Nat.le_of_ble_eq_true rfl) dX6_image_3 [] [mC cI cZ aM (M_beds, M_law, M_worths, M_sights, M_sight, M_signs, M_pad, M_lies, M_empty, M_list, M_waits, M_yard, M_last, M_used, M_sheets, M_nights, M_fleasOfGuests, M_fleasOfBeds, M_reason, M_row, M_bestRow, M_image, M_isKept)] 6 rfl (by decide) rfl rfl rfl [.int r_3] rfl ?_
  refine gq_if_ne C 12 9 dX6_image_6 (by decide) rfl (fun h6 => ?_) (fun h6 => ?_)
  · replace hf := gq_ifn h6 hf
    refine gq_bipush C (nI 80) 14 dX6_image_12 (by decide) rfl ?_
    refine gq_iload_n C 1 15 dX6_image_14 rfl rfl ?_
    refine gq_imul C 16 dX6_image_15 rfl ?_
    refine gq_istore_n C [(2, .int ((nI 80) * x1)), (0, .ref (aM 0)), (1, .int x1)] 17 dX6_image_16 (by decide) rfl rfl ?_
    refine gq_iconst C (nI 0) 18 dX6_image_17 (by decide) rfl ?_
    refine gq_istore_n C [(3, .int (nI 0)), (2, .int ((nI 80) * x1)), (0, .ref (aM 0)), (1, .int x1)] 19 dX6_image_18 (by decide) rfl rfl ?_
    have L19 : ∀ (kL : Int32 → (Nat → Int32) → Option (Int32 × ModS)), (∀ (x3_L19 : Int32) (M_image_L19 : (Nat → Int32)), kL x3_L19 M_image_L19 = some rr → G p l e R s m args below meth c 4 D A H0 0 0 Q [mC cI cZ aM (M_beds, M_law, M_worths, M_sights, M_sight, M_signs, M_pad, M_lies, M_empty, M_list, M_waits, M_yard, M_last, M_used, M_sheets, M_nights, M_fleasOfGuests, M_fleasOfBeds, M_reason, M_row, M_bestRow, M_image_L19, M_isKept)] 45 [(3, .int x3_L19), (2, .int ((nI 80) * x1)), (0, .ref (aM 0)), (1, .int x1)] []) → ∀ (n : Nat) (x3_L19 : Int32) (M_image_L19 : (Nat → Int32)), f_X6_image_L19 ((nI 80) * x1) M_worths n x3_L19 M_image_L19 kL = some rr → G p l e R s m args below meth c 4 D A H0 0 0 Q [mC cI cZ aM (M_beds, M_law, M_worths, M_sights, M_sight, M_signs, M_pad, M_lies, M_empty, M_list, M_waits, M_yard, M_last, M_used, M_sheets, M_nights, M_fleasOfGuests, M_fleasOfBeds, M_reason, M_row, M_bestRow, M_image_L19, M_isKept)] 19 [(3, .int x3_L19), (2, .int ((nI 80) * x1)), (0, .ref (aM 0)), (1, .int x1)] [] := by
      intro kL hkL19 n
      induction n with
      | zero =>
        intro x3_L19 M_image_L19 hf
        rw [f_X6_image_L19] at hf
        cases hf
      | succ n ihL19 =>
        intro x3_L19 M_image_L19 hf
        rw [f_X6_image_L19] at hf
        refine gq_iload_n C 0 20 dX6_image_19 rfl rfl ?_
        refine gq_bipush C (nI 64) 22 dX6_image_20 (by decide) rfl ?_
        refine gq_icmp_ge C 45 25 dX6_image_22 (by decide) rfl (fun h22 => ?_) (fun h22 => ?_)
        · replace hf := gq_ifp h22 hf
          exact hkL19 _ _ hf
        · replace hf := gq_ifn h22 hf
          refine gq_aload_n C 2 26 dX6_image_25 rfl rfl ?_
          refine gq_get C fo_X6_21 fw_X6_50 0 0 29 rfl rfl rfl dX6_image_26 rfl ?_
          refine gq_iload_n C 1 30 dX6_image_29 rfl rfl ?_
          refine gq_iload_n C 0 31 dX6_image_30 rfl rfl ?_
          refine gq_iadd C 32 dX6_image_31 rfl ?_
          refine gq_aload_n C 2 33 dX6_image_32 rfl rfl ?_
          refine gq_get C fo_X6_2 fw_X6_13 0 0 36 rfl rfl rfl dX6_image_33 rfl ?_
          refine gq_iload_n C 0 37 dX6_image_36 rfl rfl ?_
          obtain ⟨h37, hf⟩ := gq_ok hf
          refine gq_iald C 0 1 38 rfl rfl h37 dX6_image_37 rfl ?_
          obtain ⟨h38, hf⟩ := gq_ok hf
          refine gq_iast C 0 13 39 [mC cI cZ aM (M_beds, M_law, M_worths, M_sights, M_sight, M_signs, M_pad, M_lies, M_empty, M_list, M_waits, M_yard, M_last, M_used, M_sheets, M_nights, M_fleasOfGuests, M_fleasOfBeds, M_reason, M_row, M_bestRow, (upd M_image_L19 (((nI 80) * x1) + x3_L19).toNatClampNeg (M_worths x3_L19.toNatClampNeg)), M_isKept)] rfl rfl h38 rfl dX6_image_38 rfl ?_
          refine gq_iinc C 0 [(3, .int (x3_L19 + (nI 1))), (2, .int ((nI 80) * x1)), (0, .ref (aM 0)), (1, .int x1)] 42 dX6_image_39 rfl rfl (by decide) rfl rfl ?_
          refine gq_goto C 19 dX6_image_42 (by decide) ?_
          exact ihL19 _ _ hf
    refine L19 _ (fun x3_L19 M_image_L19 hf => ?_) _ _ _ hf
    refine gq_iconst C (nI 0) 46 dX6_image_45 (by decide) rfl ?_
    refine gq_istore_n C [(3, .int (nI 0)), (2, .int ((nI 80) * x1)), (0, .ref (aM 0)), (1, .int x1)] 47 dX6_image_46 (by decide) rfl rfl ?_
    have L47 : ∀ (kL : Int32 → (Nat → Int32) → Option (Int32 × ModS)), (∀ (x3_L47 : Int32) (M_image_L47 : (Nat → Int32)), kL x3_L47 M_image_L47 = some rr → G p l e R s m args below meth c 4 D A H0 0 0 Q [mC cI cZ aM (M_beds, M_law, M_worths, M_sights, M_sight, M_signs, M_pad, M_lies, M_empty, M_list, M_waits, M_yard, M_last, M_used, M_sheets, M_nights, M_fleasOfGuests, M_fleasOfBeds, M_reason, M_row, M_bestRow, M_image_L47, M_isKept)] 76 [(3, .int x3_L47), (2, .int ((nI 80) * x1)), (0, .ref (aM 0)), (1, .int x1)] []) → ∀ (n : Nat) (x3_L47 : Int32) (M_image_L47 : (Nat → Int32)), f_X6_image_L47 ((nI 80) * x1) M_sight n x3_L47 M_image_L47 kL = some rr → G p l e R s m args below meth c 4 D A H0 0 0 Q [mC cI cZ aM (M_beds, M_law, M_worths, M_sights, M_sight, M_signs, M_pad, M_lies, M_empty, M_list, M_waits, M_yard, M_last, M_used, M_sheets, M_nights, M_fleasOfGuests, M_fleasOfBeds, M_reason, M_row, M_bestRow, M_image_L47, M_isKept)] 47 [(3, .int x3_L47), (2, .int ((nI 80) * x1)), (0, .ref (aM 0)), (1, .int x1)] [] := by
      intro kL hkL47 n
      induction n with
      | zero =>
        intro x3_L47 M_image_L47 hf
        rw [f_X6_image_L47] at hf
        cases hf
      | succ n ihL47 =>
        intro x3_L47 M_image_L47 hf
        rw [f_X6_image_L47] at hf
        refine gq_iload_n C 0 48 dX6_image_47 rfl rfl ?_
        refine gq_bipush C (nI 12) 50 dX6_image_48 (by decide) rfl ?_
        refine gq_icmp_ge C 76 53 dX6_image_50 (by decide) rfl (fun h50 => ?_) (fun h50 => ?_)
        · replace hf := gq_ifp h50 hf
          exact hkL47 _ _ hf
        · replace hf := gq_ifn h50 hf
          refine gq_aload_n C 2 54 dX6_image_53 rfl rfl ?_
          refine gq_get C fo_X6_21 fw_X6_50 0 0 57 rfl rfl rfl dX6_image_54 rfl ?_
          refine gq_iload_n C 1 58 dX6_image_57 rfl rfl ?_
          refine gq_bipush C (nI 64) 60 dX6_image_58 (by decide) rfl ?_
          refine gq_iadd C 61 dX6_image_60 rfl ?_
          refine gq_iload_n C 0 62 dX6_image_61 rfl rfl ?_
          refine gq_iadd C 63 dX6_image_62 rfl ?_
          refine gq_aload_n C 2 64 dX6_image_63 rfl rfl ?_
          refine gq_get C fo_X6_4 fw_X6_17 0 0 67 rfl rfl rfl dX6_image_64 rfl ?_
          refine gq_iload_n C 0 68 dX6_image_67 rfl rfl ?_
          obtain ⟨h68, hf⟩ := gq_ok hf
          refine gq_iald C 0 2 69 rfl rfl h68 dX6_image_68 rfl ?_
          obtain ⟨h69, hf⟩ := gq_ok hf
          refine gq_iast C 0 13 70 [mC cI cZ aM (M_beds, M_law, M_worths, M_sights, M_sight, M_signs, M_pad, M_lies, M_empty, M_list, M_waits, M_yard, M_last, M_used, M_sheets, M_nights, M_fleasOfGuests, M_fleasOfBeds, M_reason, M_row, M_bestRow, (upd M_image_L47 ((((nI 80) * x1) + (nI 64)) + x3_L47).toNatClampNeg (M_sight x3_L47.toNatClampNeg)), M_isKept)] rfl rfl h69 rfl dX6_image_69 rfl ?_
          refine gq_iinc C 0 [(3, .int (x3_L47 + (nI 1))), (2, .int ((nI 80) * x1)), (0, .ref (aM 0)), (1, .int x1)] 73 dX6_image_70 rfl rfl (by decide) rfl rfl ?_
          refine gq_goto C 47 dX6_image_73 (by decide) ?_
          exact ihL47 _ _ hf
    refine L47 _ (fun x3_L47 M_image_L47 hf => ?_) _ _ _ hf
    refine gq_aload_n C 2 77 dX6_image_76 rfl rfl ?_
    refine gq_get C fo_X6_21 fw_X6_50 0 0 80 rfl rfl rfl dX6_image_77 rfl ?_
    refine gq_iload_n C 1 81 dX6_image_80 rfl rfl ?_
    refine gq_bipush C (nI 76) 83 dX6_image_81 (by decide) rfl ?_
    refine gq_iadd C 84 dX6_image_83 rfl ?_
    refine gq_aload_n C 2 85 dX6_image_84 rfl rfl ?_
    refine gq_get C fo_X6_0 fw_X6_7 0 0 88 rfl rfl rfl dX6_image_85 rfl ?_
    obtain ⟨h88, hf⟩ := gq_ok hf
    refine gq_iast C 0 13 89 [mC cI cZ aM (M_beds, M_law, M_worths, M_sights, M_sight, M_signs, M_pad, M_lies, M_empty, M_list, M_waits, M_yard, M_last, M_used, M_sheets, M_nights, M_fleasOfGuests, M_fleasOfBeds, M_reason, M_row, M_bestRow, (upd M_image_L47 (((nI 80) * x1) + (nI 76)).toNatClampNeg M_beds), M_isKept)] rfl rfl h88 rfl dX6_image_88 rfl ?_
    refine gq_aload_n C 2 90 dX6_image_89 rfl rfl ?_
    refine gq_get C fo_X6_21 fw_X6_50 0 0 93 rfl rfl rfl dX6_image_90 rfl ?_
    refine gq_iload_n C 1 94 dX6_image_93 rfl rfl ?_
    refine gq_bipush C (nI 77) 96 dX6_image_94 (by decide) rfl ?_
    refine gq_iadd C 97 dX6_image_96 rfl ?_
    refine gq_aload_n C 2 98 dX6_image_97 rfl rfl ?_
    refine gq_get C fo_X6_1 fw_X6_57 0 0 101 rfl rfl rfl dX6_image_98 rfl ?_
    obtain ⟨h101, hf⟩ := gq_ok hf
    refine gq_iast C 0 13 102 [mC cI cZ aM (M_beds, M_law, M_worths, M_sights, M_sight, M_signs, M_pad, M_lies, M_empty, M_list, M_waits, M_yard, M_last, M_used, M_sheets, M_nights, M_fleasOfGuests, M_fleasOfBeds, M_reason, M_row, M_bestRow, (upd (upd M_image_L47 (((nI 80) * x1) + (nI 76)).toNatClampNeg M_beds) (((nI 80) * x1) + (nI 77)).toNatClampNeg M_law), M_isKept)] rfl rfl h101 rfl dX6_image_101 rfl ?_
    refine gq_aload_n C 2 103 dX6_image_102 rfl rfl ?_
    refine gq_get C fo_X6_21 fw_X6_50 0 0 106 rfl rfl rfl dX6_image_103 rfl ?_
    refine gq_iload_n C 1 107 dX6_image_106 rfl rfl ?_
    refine gq_bipush C (nI 78) 109 dX6_image_107 (by decide) rfl ?_
    refine gq_iadd C 110 dX6_image_109 rfl ?_
    refine gq_aload_n C 2 111 dX6_image_110 rfl rfl ?_
    refine gq_get C fo_X6_3 fw_X6_64 0 0 114 rfl rfl rfl dX6_image_111 rfl ?_
    obtain ⟨h114, hf⟩ := gq_ok hf
    refine gq_iast C 0 13 115 [mC cI cZ aM (M_beds, M_law, M_worths, M_sights, M_sight, M_signs, M_pad, M_lies, M_empty, M_list, M_waits, M_yard, M_last, M_used, M_sheets, M_nights, M_fleasOfGuests, M_fleasOfBeds, M_reason, M_row, M_bestRow, (upd (upd (upd M_image_L47 (((nI 80) * x1) + (nI 76)).toNatClampNeg M_beds) (((nI 80) * x1) + (nI 77)).toNatClampNeg M_law) (((nI 80) * x1) + (nI 78)).toNatClampNeg M_sights), M_isKept)] rfl rfl h114 rfl dX6_image_114 rfl ?_
    refine gq_aload_n C 2 116 dX6_image_115 rfl rfl ?_
    refine gq_get C fo_X6_22 fw_X6_53 0 0 119 rfl rfl rfl dX6_image_116 rfl ?_
    refine gq_iload_n C 3 120 dX6_image_119 rfl rfl ?_
    refine gq_iconst C (nI 1) 121 dX6_image_120 (by decide) rfl ?_
    obtain ⟨h121, hf⟩ := gq_ok hf
    refine gq_zast C 0 14 122 [mC cI cZ aM (M_beds, M_law, M_worths, M_sights, M_sight, M_signs, M_pad, M_lies, M_empty, M_list, M_waits, M_yard, M_last, M_used, M_sheets, M_nights, M_fleasOfGuests, M_fleasOfBeds, M_reason, M_row, M_bestRow, (upd (upd (upd M_image_L47 (((nI 80) * x1) + (nI 76)).toNatClampNeg M_beds) (((nI 80) * x1) + (nI 77)).toNatClampNeg M_law) (((nI 80) * x1) + (nI 78)).toNatClampNeg M_sights), (upd M_isKept x1.toNatClampNeg (nI 1)))] rfl rfl h121 rfl rfl dX6_image_121 rfl ?_
    refine gq_iconst C (nI 1) 123 dX6_image_122 (by decide) rfl ?_
    obtain rfl := gq_lf hf
    exact hret dX6_image_123 gPost.rf
  · replace hf := gq_ifp h6 hf
    refine gq_bipush C (-2 : Int32) 11 dX6_image_9 (by decide) rfl ?_
    obtain rfl := gq_lf hf
    exact hret dX6_image_11 gPost.rf

def f_X6_restore_L31 (c_x2 : Int32) (c_M_image : (Nat → Int32)) : Nat → Int32 → (Nat → Int32) → (Int32 → (Nat → Int32) → Option (Int32 × ModS)) → Option (Int32 × ModS)
  | 0, _, _, _ => none
  | nL31 + 1, x3_L31, M_worths_L31, kL31 => (if (nI 64) ≤ x3_L31 then kL31 x3_L31 M_worths_L31 else (if (c_x2 + x3_L31) < 0 ∨ 160 ≤ (c_x2 + x3_L31).toNatClampNeg then none else (if x3_L31 < 0 ∨ 64 ≤ x3_L31.toNatClampNeg then none else f_X6_restore_L31 c_x2 c_M_image nL31 (x3_L31 + (nI 1)) (upd M_worths_L31 x3_L31.toNatClampNeg (c_M_image (c_x2 + x3_L31).toNatClampNeg)) kL31)))
def f_X6_restore_L59 (c_x2 : Int32) (c_M_image : (Nat → Int32)) : Nat → Int32 → (Nat → Int32) → (Int32 → (Nat → Int32) → Option (Int32 × ModS)) → Option (Int32 × ModS)
  | 0, _, _, _ => none
  | nL59 + 1, x3_L59, M_sight_L59, kL59 => (if (nI 12) ≤ x3_L59 then kL59 x3_L59 M_sight_L59 else (if ((c_x2 + (nI 64)) + x3_L59) < 0 ∨ 160 ≤ ((c_x2 + (nI 64)) + x3_L59).toNatClampNeg then none else (if x3_L59 < 0 ∨ 12 ≤ x3_L59.toNatClampNeg then none else f_X6_restore_L59 c_x2 c_M_image nL59 (x3_L59 + (nI 1)) (upd M_sight_L59 x3_L59.toNatClampNeg (c_M_image ((c_x2 + (nI 64)) + x3_L59).toNatClampNeg)) kL59)))
def f_X6_restore : Int32 → ModS → Option (Int32 × ModS)
  | x1, (M_beds, M_law, M_worths, M_sights, M_sight, M_signs, M_pad, M_lies, M_empty, M_list, M_waits, M_yard, M_last, M_used, M_sheets, M_nights, M_fleasOfGuests, M_fleasOfBeds, M_reason, M_row, M_bestRow, M_image, M_isKept) => (Option.bind (f_X6_in x1 (nI 0) (nI 1)) (fun r_3 => (if r_3 = 0 then some ((-2 : Int32), (M_beds, M_law, M_worths, M_sights, M_sight, M_signs, M_pad, M_lies, M_empty, M_list, M_waits, M_yard, M_last, M_used, M_sheets, M_nights, M_fleasOfGuests, M_fleasOfBeds, M_reason, M_row, M_bestRow, M_image, M_isKept)) else (if x1 < 0 ∨ 2 ≤ x1.toNatClampNeg then none else (if (M_isKept x1.toNatClampNeg) = 0 then some ((-3 : Int32), (M_beds, M_law, M_worths, M_sights, M_sight, M_signs, M_pad, M_lies, M_empty, M_list, M_waits, M_yard, M_last, M_used, M_sheets, M_nights, M_fleasOfGuests, M_fleasOfBeds, M_reason, M_row, M_bestRow, M_image, M_isKept)) else f_X6_restore_L31 ((nI 80) * x1) M_image FU (nI 0) M_worths (fun x3_L31 M_worths_L31 => f_X6_restore_L59 ((nI 80) * x1) M_image FU (nI 0) M_sight (fun x3_L59 M_sight_L59 => (if (((nI 80) * x1) + (nI 76)) < 0 ∨ 160 ≤ (((nI 80) * x1) + (nI 76)).toNatClampNeg then none else (if (((nI 80) * x1) + (nI 77)) < 0 ∨ 160 ≤ (((nI 80) * x1) + (nI 77)).toNatClampNeg then none else (if (((nI 80) * x1) + (nI 78)) < 0 ∨ 160 ≤ (((nI 80) * x1) + (nI 78)).toNatClampNeg then none else some ((nI 1), ((M_image (((nI 80) * x1) + (nI 76)).toNatClampNeg), (M_image (((nI 80) * x1) + (nI 77)).toNatClampNeg), M_worths_L31, (M_image (((nI 80) * x1) + (nI 78)).toNatClampNeg), M_sight_L59, M_signs, M_pad, M_lies, M_empty, M_list, M_waits, M_yard, M_last, M_used, M_sheets, M_nights, M_fleasOfGuests, M_fleasOfBeds, M_reason, M_row, M_bestRow, M_image, M_isKept))))))))))))
set_option maxHeartbeats 4000000 in
set_option maxRecDepth 100000 in
theorem c_X6_restore (l : Launch) (D : va_G) (cI cZ : ClassId) (aM : Nat → Nat) (x1 : Int32) (tM : ModS) (rr : Int32 × ModS) (hf : f_X6_restore x1 tM = some rr) : CT l D cI cZ yX6_restore cX6_restore 4 (some .int) 1 22 0 0 [.ref (aM 0), .int x1] ([mC cI cZ aM tM]) (gPost (some (.int rr.1)) ([mC cI cZ aM rr.2])) := by
  obtain ⟨M_beds, M_law, M_worths, M_sights, M_sight, M_signs, M_pad, M_lies, M_empty, M_list, M_waits, M_yard, M_last, M_used, M_sheets, M_nights, M_fleasOfGuests, M_fleasOfBeds, M_reason, M_row, M_bestRow, M_image, M_isKept⟩ := tM
  rw [f_X6_restore] at hf
  refine CT.mkI (by decide) (Nat.le_of_ble_eq_true rfl) fun {p} {e} {R} {s} {m} {args} {below} {meth} {c} {A} {H0} {Q} C hA hR hret => ?_
  show G p l e R s m args below meth c 4 D A H0 0 0 Q [mC cI cZ aM (M_beds, M_law, M_worths, M_sights, M_sight, M_signs, M_pad, M_lies, M_empty, M_list, M_waits, M_yard, M_last, M_used, M_sheets, M_nights, M_fleasOfGuests, M_fleasOfBeds, M_reason, M_row, M_bestRow, M_image, M_isKept)] 0 [(0, .ref (aM 0)), (1, .int x1)] []
  refine gq_iload_n C 1 1 dX6_restore_0 rfl rfl ?_
  refine gq_iconst C (nI 0) 2 dX6_restore_1 (by decide) rfl ?_
  refine gq_iconst C (nI 1) 3 dX6_restore_2 (by decide) rfl ?_
  obtain ⟨r_3, hc, hf⟩ := gq_bd hf
  refine gq_callS C hA gm_X6_60 (c_X6_in l D cI cZ  x1 (nI 0) (nI 1) _ hc) rfl ⟨Nat.le_trans (Nat.le_of_ble_eq_true rfl) hR.1, Nat.le_trans (Nat.le_of_ble_eq_true rfl) hR.2.1⟩ ⟨Nat.zero_le _, Nat.zero_le _⟩ rfl (Nat.le_of_ble_eq_true rfl) dX6_restore_3 [] [mC cI cZ aM (M_beds, M_law, M_worths, M_sights, M_sight, M_signs, M_pad, M_lies, M_empty, M_list, M_waits, M_yard, M_last, M_used, M_sheets, M_nights, M_fleasOfGuests, M_fleasOfBeds, M_reason, M_row, M_bestRow, M_image, M_isKept)] 6 rfl (by decide) rfl rfl rfl [.int r_3] rfl ?_
  refine gq_if_ne C 12 9 dX6_restore_6 (by decide) rfl (fun h6 => ?_) (fun h6 => ?_)
  · replace hf := gq_ifn h6 hf
    refine gq_aload_n C 0 13 dX6_restore_12 rfl rfl ?_
    refine gq_get C fo_X6_22 fw_X6_53 0 0 16 rfl rfl rfl dX6_restore_13 rfl ?_
    refine gq_iload_n C 1 17 dX6_restore_16 rfl rfl ?_
    obtain ⟨h17, hf⟩ := gq_ok hf
    refine gq_zald C 0 14 18 rfl rfl h17 dX6_restore_17 rfl ?_
    refine gq_if_ne C 24 21 dX6_restore_18 (by decide) rfl (fun h18 => ?_) (fun h18 => ?_)
    · replace hf := gq_ifn h18 hf
      refine gq_bipush C (nI 80) 26 dX6_restore_24 (by decide) rfl ?_
      refine gq_iload_n C 1 27 dX6_restore_26 rfl rfl ?_
      refine gq_imul C 28 dX6_restore_27 rfl ?_
      refine gq_istore_n C [(2, .int ((nI 80) * x1)), (0, .ref (aM 0)), (1, .int x1)] 29 dX6_restore_28 (by decide) rfl rfl ?_
      refine gq_iconst C (nI 0) 30 dX6_restore_29 (by decide) rfl ?_
      refine gq_istore_n C [(3, .int (nI 0)), (2, .int ((nI 80) * x1)), (0, .ref (aM 0)), (1, .int x1)] 31 dX6_restore_30 (by decide) rfl rfl ?_
      have L31 : ∀ (kL : Int32 → (Nat → Int32) → Option (Int32 × ModS)), (∀ (x3_L31 : Int32) (M_worths_L31 : (Nat → Int32)), kL x3_L31 M_worths_L31 = some rr → G p l e R s m args below meth c 4 D A H0 0 0 Q [mC cI cZ aM (M_beds, M_law, M_worths_L31, M_sights, M_sight, M_signs, M_pad, M_lies, M_empty, M_list, M_waits, M_yard, M_last, M_used, M_sheets, M_nights, M_fleasOfGuests, M_fleasOfBeds, M_reason, M_row, M_bestRow, M_image, M_isKept)] 57 [(3, .int x3_L31), (2, .int ((nI 80) * x1)), (0, .ref (aM 0)), (1, .int x1)] []) → ∀ (n : Nat) (x3_L31 : Int32) (M_worths_L31 : (Nat → Int32)), f_X6_restore_L31 ((nI 80) * x1) M_image n x3_L31 M_worths_L31 kL = some rr → G p l e R s m args below meth c 4 D A H0 0 0 Q [mC cI cZ aM (M_beds, M_law, M_worths_L31, M_sights, M_sight, M_signs, M_pad, M_lies, M_empty, M_list, M_waits, M_yard, M_last, M_used, M_sheets, M_nights, M_fleasOfGuests, M_fleasOfBeds, M_reason, M_row, M_bestRow, M_image, M_isKept)] 31 [(3, .int x3_L31), (2, .int ((nI 80) * x1)), (0, .ref (aM 0)), (1, .int x1)] [] := by
        intro kL hkL31 n
        induction n with
        | zero =>
          intro x3_L31 M_worths_L31 hf
          rw [f_X6_restore_L31] at hf
          cases hf
        | succ n ihL31 =>
          intro x3_L31 M_worths_L31 hf
          rw [f_X6_restore_L31] at hf
          refine gq_iload_n C 0 32 dX6_restore_31 rfl rfl ?_
          refine gq_bipush C (nI 64) 34 dX6_restore_32 (by decide) rfl ?_
          refine gq_icmp_ge C 57 37 dX6_restore_34 (by decide) rfl (fun h34 => ?_) (fun h34 => ?_)
          · replace hf := gq_ifp h34 hf
            exact hkL31 _ _ hf
          · replace hf := gq_ifn h34 hf
            refine gq_aload_n C 2 38 dX6_restore_37 rfl rfl ?_
            refine gq_get C fo_X6_2 fw_X6_13 0 0 41 rfl rfl rfl dX6_restore_38 rfl ?_
            refine gq_iload_n C 0 42 dX6_restore_41 rfl rfl ?_
            refine gq_aload_n C 2 43 dX6_restore_42 rfl rfl ?_
            refine gq_get C fo_X6_21 fw_X6_50 0 0 46 rfl rfl rfl dX6_restore_43 rfl ?_
            refine gq_iload_n C 1 47 dX6_restore_46 rfl rfl ?_
            refine gq_iload_n C 0 48 dX6_restore_47 rfl rfl ?_
            refine gq_iadd C 49 dX6_restore_48 rfl ?_
            obtain ⟨h49, hf⟩ := gq_ok hf
            refine gq_iald C 0 13 50 rfl rfl h49 dX6_restore_49 rfl ?_
            obtain ⟨h50, hf⟩ := gq_ok hf
            refine gq_iast C 0 1 51 [mC cI cZ aM (M_beds, M_law, (upd M_worths_L31 x3_L31.toNatClampNeg (M_image (((nI 80) * x1) + x3_L31).toNatClampNeg)), M_sights, M_sight, M_signs, M_pad, M_lies, M_empty, M_list, M_waits, M_yard, M_last, M_used, M_sheets, M_nights, M_fleasOfGuests, M_fleasOfBeds, M_reason, M_row, M_bestRow, M_image, M_isKept)] rfl rfl h50 rfl dX6_restore_50 rfl ?_
            refine gq_iinc C 0 [(3, .int (x3_L31 + (nI 1))), (2, .int ((nI 80) * x1)), (0, .ref (aM 0)), (1, .int x1)] 54 dX6_restore_51 rfl rfl (by decide) rfl rfl ?_
            refine gq_goto C 31 dX6_restore_54 (by decide) ?_
            exact ihL31 _ _ hf
      refine L31 _ (fun x3_L31 M_worths_L31 hf => ?_) _ _ _ hf
      refine gq_iconst C (nI 0) 58 dX6_restore_57 (by decide) rfl ?_
      refine gq_istore_n C [(3, .int (nI 0)), (2, .int ((nI 80) * x1)), (0, .ref (aM 0)), (1, .int x1)] 59 dX6_restore_58 (by decide) rfl rfl ?_
      have L59 : ∀ (kL : Int32 → (Nat → Int32) → Option (Int32 × ModS)), (∀ (x3_L59 : Int32) (M_sight_L59 : (Nat → Int32)), kL x3_L59 M_sight_L59 = some rr → G p l e R s m args below meth c 4 D A H0 0 0 Q [mC cI cZ aM (M_beds, M_law, M_worths_L31, M_sights, M_sight_L59, M_signs, M_pad, M_lies, M_empty, M_list, M_waits, M_yard, M_last, M_used, M_sheets, M_nights, M_fleasOfGuests, M_fleasOfBeds, M_reason, M_row, M_bestRow, M_image, M_isKept)] 88 [(3, .int x3_L59), (2, .int ((nI 80) * x1)), (0, .ref (aM 0)), (1, .int x1)] []) → ∀ (n : Nat) (x3_L59 : Int32) (M_sight_L59 : (Nat → Int32)), f_X6_restore_L59 ((nI 80) * x1) M_image n x3_L59 M_sight_L59 kL = some rr → G p l e R s m args below meth c 4 D A H0 0 0 Q [mC cI cZ aM (M_beds, M_law, M_worths_L31, M_sights, M_sight_L59, M_signs, M_pad, M_lies, M_empty, M_list, M_waits, M_yard, M_last, M_used, M_sheets, M_nights, M_fleasOfGuests, M_fleasOfBeds, M_reason, M_row, M_bestRow, M_image, M_isKept)] 59 [(3, .int x3_L59), (2, .int ((nI 80) * x1)), (0, .ref (aM 0)), (1, .int x1)] [] := by
        intro kL hkL59 n
        induction n with
        | zero =>
          intro x3_L59 M_sight_L59 hf
          rw [f_X6_restore_L59] at hf
          cases hf
        | succ n ihL59 =>
          intro x3_L59 M_sight_L59 hf
          rw [f_X6_restore_L59] at hf
          refine gq_iload_n C 0 60 dX6_restore_59 rfl rfl ?_
          refine gq_bipush C (nI 12) 62 dX6_restore_60 (by decide) rfl ?_
          refine gq_icmp_ge C 88 65 dX6_restore_62 (by decide) rfl (fun h62 => ?_) (fun h62 => ?_)
          · replace hf := gq_ifp h62 hf
            exact hkL59 _ _ hf
          · replace hf := gq_ifn h62 hf
            refine gq_aload_n C 2 66 dX6_restore_65 rfl rfl ?_
            refine gq_get C fo_X6_4 fw_X6_17 0 0 69 rfl rfl rfl dX6_restore_66 rfl ?_
            refine gq_iload_n C 0 70 dX6_restore_69 rfl rfl ?_
            refine gq_aload_n C 2 71 dX6_restore_70 rfl rfl ?_
            refine gq_get C fo_X6_21 fw_X6_50 0 0 74 rfl rfl rfl dX6_restore_71 rfl ?_
            refine gq_iload_n C 1 75 dX6_restore_74 rfl rfl ?_
            refine gq_bipush C (nI 64) 77 dX6_restore_75 (by decide) rfl ?_
            refine gq_iadd C 78 dX6_restore_77 rfl ?_
            refine gq_iload_n C 0 79 dX6_restore_78 rfl rfl ?_
            refine gq_iadd C 80 dX6_restore_79 rfl ?_
            obtain ⟨h80, hf⟩ := gq_ok hf
            refine gq_iald C 0 13 81 rfl rfl h80 dX6_restore_80 rfl ?_
            obtain ⟨h81, hf⟩ := gq_ok hf
            refine gq_iast C 0 2 82 [mC cI cZ aM (M_beds, M_law, M_worths_L31, M_sights, (upd M_sight_L59 x3_L59.toNatClampNeg (M_image ((((nI 80) * x1) + (nI 64)) + x3_L59).toNatClampNeg)), M_signs, M_pad, M_lies, M_empty, M_list, M_waits, M_yard, M_last, M_used, M_sheets, M_nights, M_fleasOfGuests, M_fleasOfBeds, M_reason, M_row, M_bestRow, M_image, M_isKept)] rfl rfl h81 rfl dX6_restore_81 rfl ?_
            refine gq_iinc C 0 [(3, .int (x3_L59 + (nI 1))), (2, .int ((nI 80) * x1)), (0, .ref (aM 0)), (1, .int x1)] 85 dX6_restore_82 rfl rfl (by decide) rfl rfl ?_
            refine gq_goto C 59 dX6_restore_85 (by decide) ?_
            exact ihL59 _ _ hf
      refine L59 _ (fun x3_L59 M_sight_L59 hf => ?_) _ _ _ hf
      refine gq_aload_n C 2 89 dX6_restore_88 rfl rfl ?_
      refine gq_aload_n C 2 90 dX6_restore_89 rfl rfl ?_
      refine gq_get C fo_X6_21 fw_X6_50 0 0 93 rfl rfl rfl dX6_restore_90 rfl ?_
      refine gq_iload_n C 1 94 dX6_restore_93 rfl rfl ?_
      refine gq_bipush C (nI 76) 96 dX6_restore_94 (by decide) rfl ?_
      refine gq_iadd C 97 dX6_restore_96 rfl ?_
      obtain ⟨h97, hf⟩ := gq_ok hf
      refine gq_iald C 0 13 98 rfl rfl h97 dX6_restore_97 rfl ?_
      refine gq_put C fo_X6_0 fp_X6_0 rfl fw_X6_7 0 0 101 [mC cI cZ aM ((M_image (((nI 80) * x1) + (nI 76)).toNatClampNeg), M_law, M_worths_L31, M_sights, M_sight_L59, M_signs, M_pad, M_lies, M_empty, M_list, M_waits, M_yard, M_last, M_used, M_sheets, M_nights, M_fleasOfGuests, M_fleasOfBeds, M_reason, M_row, M_bestRow, M_image, M_isKept)] rfl rfl rfl rfl (Nat.le_of_ble_eq_true rfl) rfl dX6_restore_98 rfl ?_
      refine gq_aload_n C 2 102 dX6_restore_101 rfl rfl ?_
      refine gq_aload_n C 2 103 dX6_restore_102 rfl rfl ?_
      refine gq_get C fo_X6_21 fw_X6_50 0 0 106 rfl rfl rfl dX6_restore_103 rfl ?_
      refine gq_iload_n C 1 107 dX6_restore_106 rfl rfl ?_
      refine gq_bipush C (nI 77) 109 dX6_restore_107 (by decide) rfl ?_
      refine gq_iadd C 110 dX6_restore_109 rfl ?_
      obtain ⟨h110, hf⟩ := gq_ok hf
      refine gq_iald C 0 13 111 rfl rfl h110 dX6_restore_110 rfl ?_
      refine gq_put C fo_X6_1 fp_X6_1 rfl fw_X6_57 0 0 114 [mC cI cZ aM ((M_image (((nI 80) * x1) + (nI 76)).toNatClampNeg), (M_image (((nI 80) * x1) + (nI 77)).toNatClampNeg), M_worths_L31, M_sights, M_sight_L59, M_signs, M_pad, M_lies, M_empty, M_list, M_waits, M_yard, M_last, M_used, M_sheets, M_nights, M_fleasOfGuests, M_fleasOfBeds, M_reason, M_row, M_bestRow, M_image, M_isKept)] rfl rfl rfl rfl (Nat.le_of_ble_eq_true rfl) rfl dX6_restore_111 rfl ?_
      refine gq_aload_n C 2 115 dX6_restore_114 rfl rfl ?_
      refine gq_aload_n C 2 116 dX6_restore_115 rfl rfl ?_
      refine gq_get C fo_X6_21 fw_X6_50 0 0 119 rfl rfl rfl dX6_restore_116 rfl ?_
      refine gq_iload_n C 1 120 dX6_restore_119 rfl rfl ?_
      refine gq_bipush C (nI 78) 122 dX6_restore_120 (by decide) rfl ?_
      refine gq_iadd C 123 dX6_restore_122 rfl ?_
      obtain ⟨h123, hf⟩ := gq_ok hf
      refine gq_iald C 0 13 124 rfl rfl h123 dX6_restore_123 rfl ?_
      refine gq_put C fo_X6_3 fp_X6_3 rfl fw_X6_64 0 0 127 [mC cI cZ aM ((M_image (((nI 80) * x1) + (nI 76)).toNatClampNeg), (M_image (((nI 80) * x1) + (nI 77)).toNatClampNeg), M_worths_L31, (M_image (((nI 80) * x1) + (nI 78)).toNatClampNeg), M_sight_L59, M_signs, M_pad, M_lies, M_empty, M_list, M_waits, M_yard, M_last, M_used, M_sheets, M_nights, M_fleasOfGuests, M_fleasOfBeds, M_reason, M_row, M_bestRow, M_image, M_isKept)] rfl rfl rfl rfl (Nat.le_of_ble_eq_true rfl) rfl dX6_restore_124 rfl ?_
      refine gq_iconst C (nI 1) 128 dX6_restore_127 (by decide) rfl ?_
      obtain rfl := gq_lf hf
      exact hret dX6_restore_128 gPost.rf
    · replace hf := gq_ifp h18 hf
      refine gq_bipush C (-3 : Int32) 23 dX6_restore_21 (by decide) rfl ?_
      obtain rfl := gq_lf hf
      exact hret dX6_restore_23 gPost.rf
  · replace hf := gq_ifp h6 hf
    refine gq_bipush C (-2 : Int32) 11 dX6_restore_9 (by decide) rfl ?_
    obtain rfl := gq_lf hf
    exact hret dX6_restore_11 gPost.rf

def f_X6_told : Int32 → ModS → Option (Int32)
  | x1, (M_beds, M_law, M_worths, M_sights, M_sight, M_signs, M_pad, M_lies, M_empty, M_list, M_waits, M_yard, M_last, M_used, M_sheets, M_nights, M_fleasOfGuests, M_fleasOfBeds, M_reason, M_row, M_bestRow, M_image, M_isKept) => (if x1 = nI 0 then some M_signs else (if x1 = nI 1 then some M_beds else (if x1 = nI 2 then some M_law else (if x1 = nI 3 then some M_sights else (Option.bind (f_X6_in x1 (nI 10) (nI 89)) (fun r_57 => (if r_57 = 0 then some (-2 : Int32) else (Option.bind (f_X6_isBed (x1 - x1 / (nI 10) * (nI 10)) (M_beds, M_law, M_worths, M_sights, M_sight, M_signs, M_pad, M_lies, M_empty, M_list, M_waits, M_yard, M_last, M_used, M_sheets, M_nights, M_fleasOfGuests, M_fleasOfBeds, M_reason, M_row, M_bestRow, M_image, M_isKept)) (fun r_68 => (if r_68 = 0 then some (-2 : Int32) else (if (((nI 8) * ((x1 / (nI 10)) - (nI 1))) + (x1 - x1 / (nI 10) * (nI 10))) < 0 ∨ 64 ≤ (((nI 8) * ((x1 / (nI 10)) - (nI 1))) + (x1 - x1 / (nI 10) * (nI 10))).toNatClampNeg then none else some (M_worths (((nI 8) * ((x1 / (nI 10)) - (nI 1))) + (x1 - x1 / (nI 10) * (nI 10))).toNatClampNeg))))))))))))
set_option maxHeartbeats 4000000 in
set_option maxRecDepth 100000 in
theorem c_X6_told (l : Launch) (D : va_G) (cI cZ : ClassId) (aM : Nat → Nat) (x1 : Int32) (tM : ModS) (rr : Int32) (hf : f_X6_told x1 tM = some rr) : CT l D cI cZ yX6_told cX6_told 2 (some .int) 2 43 0 0 [.ref (aM 0), .int x1] ([mC cI cZ aM tM]) (gPost (some (.int rr)) ([mC cI cZ aM tM])) := by
  obtain ⟨M_beds, M_law, M_worths, M_sights, M_sight, M_signs, M_pad, M_lies, M_empty, M_list, M_waits, M_yard, M_last, M_used, M_sheets, M_nights, M_fleasOfGuests, M_fleasOfBeds, M_reason, M_row, M_bestRow, M_image, M_isKept⟩ := tM
  rw [f_X6_told] at hf
  refine CT.mkI (by decide) (Nat.le_of_ble_eq_true rfl) fun {p} {e} {R} {s} {m} {args} {below} {meth} {c} {A} {H0} {Q} C hA hR hret => ?_
  show G p l e R s m args below meth c 2 D A H0 0 0 Q [mC cI cZ aM (M_beds, M_law, M_worths, M_sights, M_sight, M_signs, M_pad, M_lies, M_empty, M_list, M_waits, M_yard, M_last, M_used, M_sheets, M_nights, M_fleasOfGuests, M_fleasOfBeds, M_reason, M_row, M_bestRow, M_image, M_isKept)] 0 [(0, .ref (aM 0)), (1, .int x1)] []
  refine gq_iload_n C 1 1 dX6_told_0 rfl rfl ?_
  by_cases h1_0 : x1 = nI 0
  · replace hf := gq_ifp h1_0 hf
    refine gq_tableIn C 32 dX6_told_1 (by rw [h1_0]; decide) (by rw [h1_0]; decide) (by rw [h1_0]; rfl) (by decide) ?_
    refine gq_aload_n C 0 33 dX6_told_32 rfl rfl ?_
    refine gq_get C fo_X6_5 fw_X6_74 0 0 36 rfl rfl rfl dX6_told_33 rfl ?_
    obtain rfl := gq_lf hf
    exact hret dX6_told_36 gPost.rf
  · replace hf := gq_ifn h1_0 hf
    by_cases h1_1 : x1 = nI 1
    · replace hf := gq_ifp h1_1 hf
      refine gq_tableIn C 37 dX6_told_1 (by rw [h1_1]; decide) (by rw [h1_1]; decide) (by rw [h1_1]; rfl) (by decide) ?_
      refine gq_aload_n C 0 38 dX6_told_37 rfl rfl ?_
      refine gq_get C fo_X6_0 fw_X6_7 0 0 41 rfl rfl rfl dX6_told_38 rfl ?_
      obtain rfl := gq_lf hf
      exact hret dX6_told_41 gPost.rf
    · replace hf := gq_ifn h1_1 hf
      by_cases h1_2 : x1 = nI 2
      · replace hf := gq_ifp h1_2 hf
        refine gq_tableIn C 42 dX6_told_1 (by rw [h1_2]; decide) (by rw [h1_2]; decide) (by rw [h1_2]; rfl) (by decide) ?_
        refine gq_aload_n C 0 43 dX6_told_42 rfl rfl ?_
        refine gq_get C fo_X6_1 fw_X6_57 0 0 46 rfl rfl rfl dX6_told_43 rfl ?_
        obtain rfl := gq_lf hf
        exact hret dX6_told_46 gPost.rf
      · replace hf := gq_ifn h1_2 hf
        by_cases h1_3 : x1 = nI 3
        · replace hf := gq_ifp h1_3 hf
          refine gq_tableIn C 47 dX6_told_1 (by rw [h1_3]; decide) (by rw [h1_3]; decide) (by rw [h1_3]; rfl) (by decide) ?_
          refine gq_aload_n C 0 48 dX6_told_47 rfl rfl ?_
          refine gq_get C fo_X6_3 fw_X6_64 0 0 51 rfl rfl rfl dX6_told_48 rfl ?_
          obtain rfl := gq_lf hf
          exact hret dX6_told_51 gPost.rf
        · replace hf := gq_ifn h1_3 hf
          refine gq_tableOut C 52 dX6_told_1 (gq_out3 h1_0 h1_1 h1_2 h1_3) (by decide) ?_
          refine gq_iload_n C 1 53 dX6_told_52 rfl rfl ?_
          refine gq_bipush C (nI 10) 55 dX6_told_53 (by decide) rfl ?_
          refine gq_bipush C (nI 89) 57 dX6_told_55 (by decide) rfl ?_
          obtain ⟨r_57, hc, hf⟩ := gq_bd hf
          refine gq_callS C hA gm_X6_60 (c_X6_in l D cI cZ  x1 (nI 10) (nI 89) _ hc) rfl ⟨Nat.le_trans (Nat.le_of_ble_eq_true rfl) hR.1, Nat.le_trans (Nat.le_of_ble_eq_true rfl) hR.2.1⟩ ⟨Nat.zero_le _, Nat.zero_le _⟩ rfl (Nat.le_of_ble_eq_true rfl) dX6_told_57 [] [mC cI cZ aM (M_beds, M_law, M_worths, M_sights, M_sight, M_signs, M_pad, M_lies, M_empty, M_list, M_waits, M_yard, M_last, M_used, M_sheets, M_nights, M_fleasOfGuests, M_fleasOfBeds, M_reason, M_row, M_bestRow, M_image, M_isKept)] 60 rfl (by decide) rfl rfl rfl [.int r_57] rfl ?_
          refine gq_if_eq C 96 63 dX6_told_60 (by decide) rfl (fun h60 => ?_) (fun h60 => ?_)
          · replace hf := gq_ifp h60 hf
            refine gq_bipush C (-2 : Int32) 98 dX6_told_96 (by decide) rfl ?_
            obtain rfl := gq_lf hf
            exact hret dX6_told_98 gPost.rf
          · replace hf := gq_ifn h60 hf
            refine gq_aload_n C 0 64 dX6_told_63 rfl rfl ?_
            refine gq_iload_n C 1 65 dX6_told_64 rfl rfl ?_
            refine gq_bipush C (nI 10) 67 dX6_told_65 (by decide) rfl ?_
            refine gq_irem C 68 dX6_told_67 (by decide) rfl ?_
            obtain ⟨r_68, hc, hf⟩ := gq_bd hf
            refine gq_callV C hA gm_X6_71 (c_X6_isBed l D cI cZ aM (x1 - x1 / (nI 10) * (nI 10)) (M_beds, M_law, M_worths, M_sights, M_sight, M_signs, M_pad, M_lies, M_empty, M_list, M_waits, M_yard, M_last, M_used, M_sheets, M_nights, M_fleasOfGuests, M_fleasOfBeds, M_reason, M_row, M_bestRow, M_image, M_isKept) _ hc) rfl 0 0 rfl rfl rfl ⟨Nat.le_trans (Nat.le_of_ble_eq_true rfl) hR.1, Nat.le_trans (Nat.le_of_ble_eq_true rfl) hR.2.1⟩ ⟨Nat.zero_le _, Nat.zero_le _⟩ rfl (Nat.le_of_ble_eq_true rfl) dX6_told_68 [0] [mC cI cZ aM (M_beds, M_law, M_worths, M_sights, M_sight, M_signs, M_pad, M_lies, M_empty, M_list, M_waits, M_yard, M_last, M_used, M_sheets, M_nights, M_fleasOfGuests, M_fleasOfBeds, M_reason, M_row, M_bestRow, M_image, M_isKept)] 71 rfl (by decide) rfl rfl rfl [.int r_68] rfl ?_
            refine gq_if_eq C 96 74 dX6_told_71 (by decide) rfl (fun h71 => ?_) (fun h71 => ?_)
            · replace hf := gq_ifp h71 hf
              refine gq_bipush C (-2 : Int32) 98 dX6_told_96 (by decide) rfl ?_
              obtain rfl := gq_lf hf
              exact hret dX6_told_98 gPost.rf
            · replace hf := gq_ifn h71 hf
              refine gq_aload_n C 0 75 dX6_told_74 rfl rfl ?_
              refine gq_get C fo_X6_2 fw_X6_13 0 0 78 rfl rfl rfl dX6_told_75 rfl ?_
              refine gq_bipush C (nI 8) 80 dX6_told_78 (by decide) rfl ?_
              refine gq_iload_n C 1 81 dX6_told_80 rfl rfl ?_
              refine gq_bipush C (nI 10) 83 dX6_told_81 (by decide) rfl ?_
              refine gq_idiv C 84 dX6_told_83 (by decide) rfl ?_
              refine gq_iconst C (nI 1) 85 dX6_told_84 (by decide) rfl ?_
              refine gq_isub C 86 dX6_told_85 rfl ?_
              refine gq_imul C 87 dX6_told_86 rfl ?_
              refine gq_iload_n C 1 88 dX6_told_87 rfl rfl ?_
              refine gq_bipush C (nI 10) 90 dX6_told_88 (by decide) rfl ?_
              refine gq_irem C 91 dX6_told_90 (by decide) rfl ?_
              refine gq_iadd C 92 dX6_told_91 rfl ?_
              obtain ⟨h92, hf⟩ := gq_ok hf
              refine gq_iald C 0 1 93 rfl rfl h92 dX6_told_92 rfl ?_
              refine gq_goto C 98 dX6_told_93 (by decide) ?_
              obtain rfl := gq_lf hf
              exact hret dX6_told_98 gPost.rf
