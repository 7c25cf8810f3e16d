def f_X6_in : Int32 → Int32 → Int32 → Option (Int32)
  | x0, x1, x2 => (if x0 < x1 then some (nI 0) else (if x2 < x0 then some (nI 0) else some (nI 1)))
set_option maxHeartbeats 4000000 in
set_option maxRecDepth 100000 in
theorem c_X6_in (l : Launch) (D : va_G) (cI cZ : ClassId) (x0 : Int32) (x1 : Int32) (x2 : Int32) (rr : Int32) (hf : f_X6_in x0 x1 x2 = some rr) : CT l D cI cZ yX6_in cX6_in 3 (some .boolean) 0 0 0 0 [.int x0, .int x1, .int x2] ([]) (gPost (some (.int rr)) ([])) := by
  rw [f_X6_in] at hf
  refine CT.mkZ (by decide) (Nat.le_of_ble_eq_true rfl) fun {p} {e} {R} {s} {m} {args} {below} {meth} {c} {A} {H0} {Q} C hA hR hret => ?_
  show G p l e R s m args below meth c 3 D A H0 0 0 Q [] 0 [(0, .int x0), (1, .int x1), (2, .int x2)] []
  refine gq_iload_n C 0 1 dX6_in_0 rfl rfl ?_
  refine gq_iload_n C 1 2 dX6_in_1 rfl rfl ?_
  refine gq_icmp_lt C 14 5 dX6_in_2 (by decide) rfl (fun h2 => ?_) (fun h2 => ?_)
  · replace hf := gq_ifp h2 hf
    refine gq_iconst C (nI 0) 15 dX6_in_14 (by decide) rfl ?_
    obtain rfl := gq_lf hf
    exact hret dX6_in_15 rfl gPost.rf
  · replace hf := gq_ifn h2 hf
    refine gq_iload_n C 0 6 dX6_in_5 rfl rfl ?_
    refine gq_iload_n C 2 7 dX6_in_6 rfl rfl ?_
    refine gq_icmp_gt C 14 10 dX6_in_7 (by decide) rfl (fun h7 => ?_) (fun h7 => ?_)
    · replace hf := gq_ifp h7 hf
      refine gq_iconst C (nI 0) 15 dX6_in_14 (by decide) rfl ?_
      obtain rfl := gq_lf hf
      exact hret dX6_in_15 rfl gPost.rf
    · replace hf := gq_ifn h7 hf
      refine gq_iconst C (nI 1) 11 dX6_in_10 (by decide) rfl ?_
      refine gq_goto C 15 dX6_in_11 (by decide) ?_
      obtain rfl := gq_lf hf
      exact hret dX6_in_15 rfl gPost.rf

def f_X6_has : Int32 → Int32 → Option (Int32)
  | x0, x1 => (if ((x0 >>> (x1 &&& 31)) &&& (nI 1)) = (nI 1) then some (nI 1) else some (nI 0))
set_option maxHeartbeats 4000000 in
set_option maxRecDepth 100000 in
theorem c_X6_has (l : Launch) (D : va_G) (cI cZ : ClassId) (x0 : Int32) (x1 : Int32) (rr : Int32) (hf : f_X6_has x0 x1 = some rr) : CT l D cI cZ yX6_has cX6_has 2 (some .boolean) 0 0 0 0 [.int x0, .int x1] ([]) (gPost (some (.int rr)) ([])) := by
  rw [f_X6_has] at hf
  refine CT.mkZ (by decide) (Nat.le_of_ble_eq_true rfl) fun {p} {e} {R} {s} {m} {args} {below} {meth} {c} {A} {H0} {Q} C hA hR hret => ?_
  show G p l e R s m args below meth c 2 D A H0 0 0 Q [] 0 [(0, .int x0), (1, .int x1)] []
  refine gq_iload_n C 0 1 dX6_has_0 rfl rfl ?_
  refine gq_iload_n C 1 2 dX6_has_1 rfl rfl ?_
  refine gq_ishr C 3 dX6_has_2 rfl ?_
  refine gq_iconst C (nI 1) 4 dX6_has_3 (by decide) rfl ?_
  refine gq_iand C 5 dX6_has_4 rfl ?_
  refine gq_iconst C (nI 1) 6 dX6_has_5 (by decide) rfl ?_
  refine gq_icmp_ne C 13 9 dX6_has_6 (by decide) rfl (fun h6 => ?_) (fun h6 => ?_)
  · replace hf := gq_ifn h6 hf
    refine gq_iconst C (nI 0) 14 dX6_has_13 (by decide) rfl ?_
    obtain rfl := gq_lf hf
    exact hret dX6_has_14 rfl gPost.rf
  · replace hf := gq_ifp h6 hf
    refine gq_iconst C (nI 1) 10 dX6_has_9 (by decide) rfl ?_
    refine gq_goto C 14 dX6_has_10 (by decide) ?_
    obtain rfl := gq_lf hf
    exact hret dX6_has_14 rfl gPost.rf

def f_X6_isGuest : Int32 → Option (Int32)
  | x0 => (Option.bind (f_X6_in x0 (nI 0) (nI 7)) (fun r_4 => (if r_4 = 0 ∨ r_4 = 1 then some r_4 else none)))
set_option maxHeartbeats 4000000 in
set_option maxRecDepth 100000 in
theorem c_X6_isGuest (l : Launch) (D : va_G) (cI cZ : ClassId) (x0 : Int32) (rr : Int32) (hf : f_X6_isGuest x0 = some rr) : CT l D cI cZ yX6_isGuest cX6_isGuest 1 (some .boolean) 1 22 0 0 [.int x0] ([]) (gPost (some (.int rr)) ([])) := by
  rw [f_X6_isGuest] at hf
  refine CT.mkZ (by decide) (Nat.le_of_ble_eq_true rfl) fun {p} {e} {R} {s} {m} {args} {below} {meth} {c} {A} {H0} {Q} C hA hR hret => ?_
  show G p l e R s m args below meth c 1 D A H0 0 0 Q [] 0 [(0, .int x0)] []
  refine gq_iload_n C 0 1 dX6_isGuest_0 rfl rfl ?_
  refine gq_iconst C (nI 0) 2 dX6_isGuest_1 (by decide) rfl ?_
  refine gq_bipush C (nI 7) 4 dX6_isGuest_2 (by decide) rfl ?_
  obtain ⟨r_4, hc, hf⟩ := gq_bd hf
  refine gq_callS C hA gm_X6_60 (c_X6_in l D cI cZ  x0 (nI 0) (nI 7) _ hc) rfl ⟨Nat.le_trans (Nat.le_of_ble_eq_true rfl) hR.1, Nat.le_trans (Nat.le_of_ble_eq_true rfl) hR.2.1⟩ ⟨Nat.zero_le _, Nat.zero_le _⟩ rfl (Nat.le_of_ble_eq_true rfl) dX6_isGuest_4 [] [] 7 rfl (by decide) rfl rfl rfl [.int r_4] rfl ?_
  obtain ⟨hb, hf⟩ := gq_gd hf
  obtain rfl := gq_lf hf
  exact hret dX6_isGuest_7 (gq_bool hb) gPost.rf

def f_X6_isBed : Int32 → ModS → Option (Int32)
  | x1, (M_beds, M_law, M_worths, M_sights, M_sight, M_signs, M_pad, M_lies, M_empty, M_list, M_waits, M_yard, M_last, M_used, M_sheets, M_nights, M_fleasOfGuests, M_fleasOfBeds, M_reason, M_row, M_bestRow, M_image, M_isKept) => (Option.bind (f_X6_in x1 (nI 0) (M_beds - (nI 1))) (fun r_8 => (if r_8 = 0 ∨ r_8 = 1 then some r_8 else none)))
set_option maxHeartbeats 4000000 in
set_option maxRecDepth 100000 in
theorem c_X6_isBed (l : Launch) (D : va_G) (cI cZ : ClassId) (aM : Nat → Nat) (x1 : Int32) (tM : ModS) (rr : Int32) (hf : f_X6_isBed x1 tM = some rr) : CT l D cI cZ yX6_isBed cX6_isBed 2 (some .boolean) 1 22 0 0 [.ref (aM 0), .int x1] ([mC cI cZ aM tM]) (gPost (some (.int rr)) ([mC cI cZ aM tM])) := by
  obtain ⟨M_beds, M_law, M_worths, M_sights, M_sight, M_signs, M_pad, M_lies, M_empty, M_list, M_waits, M_yard, M_last, M_used, M_sheets, M_nights, M_fleasOfGuests, M_fleasOfBeds, M_reason, M_row, M_bestRow, M_image, M_isKept⟩ := tM
  rw [f_X6_isBed] at hf
  refine CT.mkZ (by decide) (Nat.le_of_ble_eq_true rfl) fun {p} {e} {R} {s} {m} {args} {below} {meth} {c} {A} {H0} {Q} C hA hR hret => ?_
  show G p l e R s m args below meth c 2 D A H0 0 0 Q [mC cI cZ aM (M_beds, M_law, M_worths, M_sights, M_sight, M_signs, M_pad, M_lies, M_empty, M_list, M_waits, M_yard, M_last, M_used, M_sheets, M_nights, M_fleasOfGuests, M_fleasOfBeds, M_reason, M_row, M_bestRow, M_image, M_isKept)] 0 [(0, .ref (aM 0)), (1, .int x1)] []
  refine gq_iload_n C 1 1 dX6_isBed_0 rfl rfl ?_
  refine gq_iconst C (nI 0) 2 dX6_isBed_1 (by decide) rfl ?_
  refine gq_aload_n C 0 3 dX6_isBed_2 rfl rfl ?_
  refine gq_get C fo_X6_0 fw_X6_7 0 0 6 rfl rfl rfl dX6_isBed_3 rfl ?_
  refine gq_iconst C (nI 1) 7 dX6_isBed_6 (by decide) rfl ?_
  refine gq_isub C 8 dX6_isBed_7 rfl ?_
  obtain ⟨r_8, hc, hf⟩ := gq_bd hf
  refine gq_callS C hA gm_X6_60 (c_X6_in l D cI cZ  x1 (nI 0) (M_beds - (nI 1)) _ hc) rfl ⟨Nat.le_trans (Nat.le_of_ble_eq_true rfl) hR.1, Nat.le_trans (Nat.le_of_ble_eq_true rfl) hR.2.1⟩ ⟨Nat.zero_le _, Nat.zero_le _⟩ rfl (Nat.le_of_ble_eq_true rfl) dX6_isBed_8 [] [mC cI cZ aM (M_beds, M_law, M_worths, M_sights, M_sight, M_signs, M_pad, M_lies, M_empty, M_list, M_waits, M_yard, M_last, M_used, M_sheets, M_nights, M_fleasOfGuests, M_fleasOfBeds, M_reason, M_row, M_bestRow, M_image, M_isKept)] 11 rfl (by decide) rfl rfl rfl [.int r_8] rfl ?_
  obtain ⟨hb, hf⟩ := gq_gd hf
  obtain rfl := gq_lf hf
  exact hret dX6_isBed_11 (gq_bool hb) gPost.rf

def f_X6_beds_L30  : Nat → Int32 → (Nat → Int32) → (Int32 → (Nat → Int32) → Option (Int32 × ModS)) → Option (Int32 × ModS)
  | 0, _, _, _ => none
  | nL30 + 1, x3_L30, M_worths_L30, kL30 => (if (nI 64) ≤ x3_L30 then kL30 x3_L30 M_worths_L30 else (if x3_L30 < 0 ∨ 64 ≤ x3_L30.toNatClampNeg then none else f_X6_beds_L30  nL30 (x3_L30 + (nI 1)) (upd M_worths_L30 x3_L30.toNatClampNeg (nI 0)) kL30))
def f_X6_beds : Int32 → ModS → Option (Int32 × ModS)
  | x1, (M_beds, M_law, M_worths, M_sights, M_sight, M_signs, M_pad, M_lies, M_empty, M_list, M_waits, M_yard, M_last, M_used, M_sheets, M_nights, M_fleasOfGuests, M_fleasOfBeds, M_reason, M_row, M_bestRow, M_image, M_isKept) => (Option.bind (f_X6_in x1 (nI 2) (nI 8)) (fun r_4 => (if r_4 = 0 then some ((-2 : Int32), (M_beds, M_law, M_worths, M_sights, M_sight, M_signs, M_pad, M_lies, M_empty, M_list, M_waits, M_yard, M_last, M_used, M_sheets, M_nights, M_fleasOfGuests, M_fleasOfBeds, M_reason, M_row, M_bestRow, M_image, M_isKept)) else f_X6_beds_L30  FU (nI 0) M_worths (fun x3_L30 M_worths_L30 => some (M_beds, (x1, M_law, M_worths_L30, (nI 0), M_sight, M_signs, M_pad, M_lies, M_empty, M_list, M_waits, M_yard, M_last, M_used, M_sheets, M_nights, M_fleasOfGuests, M_fleasOfBeds, M_reason, M_row, M_bestRow, M_image, M_isKept))))))
set_option maxHeartbeats 4000000 in
set_option maxRecDepth 100000 in
theorem c_X6_beds (l : Launch) (D : va_G) (cI cZ : ClassId) (aM : Nat → Nat) (x1 : Int32) (tM : ModS) (rr : Int32 × ModS) (hf : f_X6_beds x1 tM = some rr) : CT l D cI cZ yX6_beds cX6_beds 4 (some .int) 1 22 0 0 [.ref (aM 0), .int x1] ([mC cI cZ aM tM]) (gPost (some (.int rr.1)) ([mC cI cZ aM rr.2])) := by
  obtain ⟨M_beds, M_law, M_worths, M_sights, M_sight, M_signs, M_pad, M_lies, M_empty, M_list, M_waits, M_yard, M_last, M_used, M_sheets, M_nights, M_fleasOfGuests, M_fleasOfBeds, M_reason, M_row, M_bestRow, M_image, M_isKept⟩ := tM
  rw [f_X6_beds] at hf
  refine CT.mkI (by decide) (Nat.le_of_ble_eq_true rfl) fun {p} {e} {R} {s} {m} {args} {below} {meth} {c} {A} {H0} {Q} C hA hR hret => ?_
  show G p l e R s m args below meth c 4 D A H0 0 0 Q [mC cI cZ aM (M_beds, M_law, M_worths, M_sights, M_sight, M_signs, M_pad, M_lies, M_empty, M_list, M_waits, M_yard, M_last, M_used, M_sheets, M_nights, M_fleasOfGuests, M_fleasOfBeds, M_reason, M_row, M_bestRow, M_image, M_isKept)] 0 [(0, .ref (aM 0)), (1, .int x1)] []
  refine gq_iload_n C 1 1 dX6_beds_0 rfl rfl ?_
  refine gq_iconst C (nI 2) 2 dX6_beds_1 (by decide) rfl ?_
  refine gq_bipush C (nI 8) 4 dX6_beds_2 (by decide) rfl ?_
  obtain ⟨r_4, hc, hf⟩ := gq_bd hf
  refine gq_callS C hA gm_X6_60 (c_X6_in l D cI cZ  x1 (nI 2) (nI 8) _ hc) rfl ⟨Nat.le_trans (Nat.le_of_ble_eq_true rfl) hR.1, Nat.le_trans (Nat.le_of_ble_eq_true rfl) hR.2.1⟩ ⟨Nat.zero_le _, Nat.zero_le _⟩ rfl (Nat.le_of_ble_eq_true rfl) dX6_beds_4 [] [mC cI cZ aM (M_beds, M_law, M_worths, M_sights, M_sight, M_signs, M_pad, M_lies, M_empty, M_list, M_waits, M_yard, M_last, M_used, M_sheets, M_nights, M_fleasOfGuests, M_fleasOfBeds, M_reason, M_row, M_bestRow, M_image, M_isKept)] 7 rfl (by decide) rfl rfl rfl [.int r_4] rfl ?_
  refine gq_if_ne C 13 10 dX6_beds_7 (by decide) rfl (fun h7 => ?_) (fun h7 => ?_)
  · replace hf := gq_ifn h7 hf
    refine gq_aload_n C 0 14 dX6_beds_13 rfl rfl ?_
    refine gq_get C fo_X6_0 fw_X6_7 0 0 17 rfl rfl rfl dX6_beds_14 rfl ?_
    refine gq_istore_n C [(2, .int M_beds), (0, .ref (aM 0)), (1, .int x1)] 18 dX6_beds_17 (by decide) rfl rfl ?_
    refine gq_aload_n C 1 19 dX6_beds_18 rfl rfl ?_
    refine gq_iload_n C 2 20 dX6_beds_19 rfl rfl ?_
    refine gq_put C fo_X6_0 fp_X6_0 rfl fw_X6_7 0 0 23 [mC cI cZ aM (x1, M_law, M_worths, M_sights, M_sight, M_signs, M_pad, M_lies, M_empty, M_list, M_waits, M_yard, M_last, M_used, M_sheets, M_nights, M_fleasOfGuests, M_fleasOfBeds, M_reason, M_row, M_bestRow, M_image, M_isKept)] rfl rfl rfl rfl (Nat.le_of_ble_eq_true rfl) rfl dX6_beds_20 rfl ?_
    refine gq_aload_n C 1 24 dX6_beds_23 rfl rfl ?_
    refine gq_iconst C (nI 0) 25 dX6_beds_24 (by decide) rfl ?_
    refine gq_put C fo_X6_3 fp_X6_3 rfl fw_X6_64 0 0 28 [mC cI cZ aM (x1, M_law, M_worths, (nI 0), M_sight, M_signs, M_pad, M_lies, M_empty, M_list, M_waits, M_yard, M_last, M_used, M_sheets, M_nights, M_fleasOfGuests, M_fleasOfBeds, M_reason, M_row, M_bestRow, M_image, M_isKept)] rfl rfl rfl rfl (Nat.le_of_ble_eq_true rfl) rfl dX6_beds_25 rfl ?_
    refine gq_iconst C (nI 0) 29 dX6_beds_28 (by decide) rfl ?_
    refine gq_istore_n C [(3, .int (nI 0)), (2, .int M_beds), (0, .ref (aM 0)), (1, .int x1)] 30 dX6_beds_29 (by decide) rfl rfl ?_
    have L30 : ∀ (kL : Int32 → (Nat → Int32) → Option (Int32 × ModS)), (∀ (x3_L30 : Int32) (M_worths_L30 : (Nat → Int32)), kL x3_L30 M_worths_L30 = some rr → G p l e R s m args below meth c 4 D A H0 0 0 Q [mC cI cZ aM (x1, M_law, M_worths_L30, (nI 0), M_sight, M_signs, M_pad, M_lies, M_empty, M_list, M_waits, M_yard, M_last, M_used, M_sheets, M_nights, M_fleasOfGuests, M_fleasOfBeds, M_reason, M_row, M_bestRow, M_image, M_isKept)] 49 [(3, .int x3_L30), (2, .int M_beds), (0, .ref (aM 0)), (1, .int x1)] []) → ∀ (n : Nat) (x3_L30 : Int32) (M_worths_L30 : (Nat → Int32)), f_X6_beds_L30  n x3_L30 M_worths_L30 kL = some rr → G p l e R s m args below meth c 4 D A H0 0 0 Q [mC cI cZ aM (x1, M_law, M_worths_L30, (nI 0), M_sight, M_signs, M_pad, M_lies, M_empty, M_list, M_waits, M_yard, M_last, M_used, M_sheets, M_nights, M_fleasOfGuests, M_fleasOfBeds, M_reason, M_row, M_bestRow, M_image, M_isKept)] 30 [(3, .int x3_L30), (2, .int M_beds), (0, .ref (aM 0)), (1, .int x1)] [] := by
      intro kL hkL30 n
      induction n with
      | zero =>
        intro x3_L30 M_worths_L30 hf
        rw [f_X6_beds_L30] at hf
        cases hf
      | succ n ihL30 =>
        intro x3_L30 M_worths_L30 hf
        rw [f_X6_beds_L30] at hf
        refine gq_iload_n C 0 31 dX6_beds_30 rfl rfl ?_
        refine gq_bipush C (nI 64) 33 dX6_beds_31 (by decide) rfl ?_
        refine gq_icmp_ge C 49 36 dX6_beds_33 (by decide) rfl (fun h33 => ?_) (fun h33 => ?_)
        · replace hf := gq_ifp h33 hf
          exact hkL30 _ _ hf
        · replace hf := gq_ifn h33 hf
          refine gq_aload_n C 2 37 dX6_beds_36 rfl rfl ?_
          refine gq_get C fo_X6_2 fw_X6_13 0 0 40 rfl rfl rfl dX6_beds_37 rfl ?_
          refine gq_iload_n C 0 41 dX6_beds_40 rfl rfl ?_
          refine gq_iconst C (nI 0) 42 dX6_beds_41 (by decide) rfl ?_
          obtain ⟨h42, hf⟩ := gq_ok hf
          refine gq_iast C 0 1 43 [mC cI cZ aM (x1, M_law, (upd M_worths_L30 x3_L30.toNatClampNeg (nI 0)), (nI 0), M_sight, M_signs, M_pad, M_lies, M_empty, M_list, M_waits, M_yard, M_last, M_used, M_sheets, M_nights, M_fleasOfGuests, M_fleasOfBeds, M_reason, M_row, M_bestRow, M_image, M_isKept)] rfl rfl h42 rfl dX6_beds_42 rfl ?_
          refine gq_iinc C 0 [(3, .int (x3_L30 + (nI 1))), (2, .int M_beds), (0, .ref (aM 0)), (1, .int x1)] 46 dX6_beds_43 rfl rfl (by decide) rfl rfl ?_
          refine gq_goto C 30 dX6_beds_46 (by decide) ?_
          exact ihL30 _ _ hf
    refine L30 _ (fun x3_L30 M_worths_L30 hf => ?_) _ _ _ hf
    refine gq_iload_n C 1 50 dX6_beds_49 rfl rfl ?_
    obtain rfl := gq_lf hf
    exact hret dX6_beds_50 gPost.rf
  · replace hf := gq_ifp h7 hf
    refine gq_bipush C (-2 : Int32) 12 dX6_beds_10 (by decide) rfl ?_
    obtain rfl := gq_lf hf
    exact hret dX6_beds_12 gPost.rf

def f_X6_worth : Int32 → Int32 → Int32 → ModS → Option (Int32 × ModS)
  | x1, x2, x3, (M_beds, M_law, M_worths, M_sights, M_sight, M_signs, M_pad, M_lies, M_empty, M_list, M_waits, M_yard, M_last, M_used, M_sheets, M_nights, M_fleasOfGuests, M_fleasOfBeds, M_reason, M_row, M_bestRow, M_image, M_isKept) => (Option.bind (f_X6_isGuest x1) (fun r_1 => (if r_1 = 0 then some ((-1 : Int32), (M_beds, M_law, M_worths, M_sights, M_sight, M_signs, M_pad, M_lies, M_empty, M_list, M_waits, M_yard, M_last, M_used, M_sheets, M_nights, M_fleasOfGuests, M_fleasOfBeds, M_reason, M_row, M_bestRow, M_image, M_isKept)) else (Option.bind (f_X6_isBed x2 (M_beds, M_law, M_worths, M_sights, M_sight, M_signs, M_pad, M_lies, M_empty, M_list, M_waits, M_yard, M_last, M_used, M_sheets, M_nights, M_fleasOfGuests, M_fleasOfBeds, M_reason, M_row, M_bestRow, M_image, M_isKept)) (fun r_9 => (if r_9 = 0 then some ((-1 : Int32), (M_beds, M_law, M_worths, M_sights, M_sight, M_signs, M_pad, M_lies, M_empty, M_list, M_waits, M_yard, M_last, M_used, M_sheets, M_nights, M_fleasOfGuests, M_fleasOfBeds, M_reason, M_row, M_bestRow, M_image, M_isKept)) else (Option.bind (f_X6_in x3 (nI 0) (nI 99)) (fun r_21 => (if r_21 = 0 then some ((-2 : Int32), (M_beds, M_law, M_worths, M_sights, M_sight, M_signs, M_pad, M_lies, M_empty, M_list, M_waits, M_yard, M_last, M_used, M_sheets, M_nights, M_fleasOfGuests, M_fleasOfBeds, M_reason, M_row, M_bestRow, M_image, M_isKept)) else (if (((nI 8) * x1) + x2) < 0 ∨ 64 ≤ (((nI 8) * x1) + x2).toNatClampNeg then none else (if (((nI 8) * x1) + x2) < 0 ∨ 64 ≤ (((nI 8) * x1) + x2).toNatClampNeg then none else some ((M_worths (((nI 8) * x1) + x2).toNatClampNeg), (M_beds, M_law, (upd M_worths (((nI 8) * x1) + x2).toNatClampNeg x3), M_sights, M_sight, M_signs, M_pad, M_lies, M_empty, M_list, M_waits, M_yard, M_last, M_used, M_sheets, M_nights, M_fleasOfGuests, M_fleasOfBeds, M_reason, M_row, M_bestRow, M_image, M_isKept)))))))))))))
set_option maxHeartbeats 4000000 in
set_option maxRecDepth 100000 in
theorem c_X6_worth (l : Launch) (D : va_G) (cI cZ : ClassId) (aM : Nat → Nat) (x1 : Int32) (x2 : Int32) (x3 : Int32) (tM : ModS) (rr : Int32 × ModS) (hf : f_X6_worth x1 x2 x3 tM = some rr) : CT l D cI cZ yX6_worth cX6_worth 5 (some .int) 2 43 0 0 [.ref (aM 0), .int x1, .int x2, .int x3] ([mC cI cZ aM tM]) (gPost (some (.int rr.1)) ([mC cI cZ aM rr.2])) := by
  obtain ⟨M_beds, M_law, M_worths, M_sights, M_sight, M_signs, M_pad, M_lies, M_empty, M_list, M_waits, M_yard, M_last, M_used, M_sheets, M_nights, M_fleasOfGuests, M_fleasOfBeds, M_reason, M_row, M_bestRow, M_image, M_isKept⟩ := tM
  rw [f_X6_worth] at hf
  refine CT.mkI (by decide) (Nat.le_of_ble_eq_true rfl) fun {p} {e} {R} {s} {m} {args} {below} {meth} {c} {A} {H0} {Q} C hA hR hret => ?_
  show G p l e R s m args below meth c 5 D A H0 0 0 Q [mC cI cZ aM (M_beds, M_law, M_worths, M_sights, M_sight, M_signs, M_pad, M_lies, M_empty, M_list, M_waits, M_yard, M_last, M_used, M_sheets, M_nights, M_fleasOfGuests, M_fleasOfBeds, M_reason, M_row, M_bestRow, M_image, M_isKept)] 0 [(0, .ref (aM 0)), (1, .int x1), (2, .int x2), (3, .int x3)] []
  refine gq_iload_n C 1 1 dX6_worth_0 rfl rfl ?_
  obtain ⟨r_1, hc, hf⟩ := gq_bd hf
  refine gq_callS C hA gm_X6_67 (c_X6_isGuest l D cI cZ  x1 _ hc) rfl ⟨Nat.le_trans (Nat.le_of_ble_eq_true rfl) hR.1, Nat.le_trans (Nat.le_of_ble_eq_true rfl) hR.2.1⟩ ⟨Nat.zero_le _, Nat.zero_le _⟩ rfl (Nat.le_of_ble_eq_true rfl) dX6_worth_1 [] [mC cI cZ aM (M_beds, M_law, M_worths, M_sights, M_sight, M_signs, M_pad, M_lies, M_empty, M_list, M_waits, M_yard, M_last, M_used, M_sheets, M_nights, M_fleasOfGuests, M_fleasOfBeds, M_reason, M_row, M_bestRow, M_image, M_isKept)] 4 rfl (by decide) rfl rfl rfl [.int r_1] rfl ?_
  refine gq_if_eq C 15 7 dX6_worth_4 (by decide) rfl (fun h4 => ?_) (fun h4 => ?_)
  · replace hf := gq_ifp h4 hf
    refine gq_iconst C (-1 : Int32) 16 dX6_worth_15 (by decide) rfl ?_
    obtain rfl := gq_lf hf
    exact hret dX6_worth_16 gPost.rf
  · replace hf := gq_ifn h4 hf
    refine gq_aload_n C 0 8 dX6_worth_7 rfl rfl ?_
    refine gq_iload_n C 2 9 dX6_worth_8 rfl rfl ?_
    obtain ⟨r_9, hc, hf⟩ := gq_bd hf
    refine gq_callV C hA gm_X6_71 (c_X6_isBed l D cI cZ aM x2 (M_beds, M_law, M_worths, M_sights, M_sight, M_signs, M_pad, M_lies, M_empty, M_list, M_waits, M_yard, M_last, M_used, M_sheets, M_nights, M_fleasOfGuests, M_fleasOfBeds, M_reason, M_row, M_bestRow, M_image, M_isKept) _ hc) rfl 0 0 rfl rfl rfl ⟨Nat.le_trans (Nat.le_of_ble_eq_true rfl) hR.1, Nat.le_trans (Nat.le_of_ble_eq_true rfl) hR.2.1⟩ ⟨Nat.zero_le _, Nat.zero_le _⟩ rfl (Nat.le_of_ble_eq_true rfl) dX6_worth_9 [0] [mC cI cZ aM (M_beds, M_law, M_worths, M_sights, M_sight, M_signs, M_pad, M_lies, M_empty, M_list, M_waits, M_yard, M_last, M_used, M_sheets, M_nights, M_fleasOfGuests, M_fleasOfBeds, M_reason, M_row, M_bestRow, M_image, M_isKept)] 12 rfl (by decide) rfl rfl rfl [.int r_9] rfl ?_
    refine gq_if_ne C 17 15 dX6_worth_12 (by decide) rfl (fun h12 => ?_) (fun h12 => ?_)
    · replace hf := gq_ifn h12 hf
      refine gq_iload_n C 3 18 dX6_worth_17 rfl rfl ?_
      refine gq_iconst C (nI 0) 19 dX6_worth_18 (by decide) rfl ?_
      refine gq_bipush C (nI 99) 21 dX6_worth_19 (by decide) rfl ?_
      obtain ⟨r_21, hc, hf⟩ := gq_bd hf
      refine gq_callS C hA gm_X6_60 (c_X6_in l D cI cZ  x3 (nI 0) (nI 99) _ hc) rfl ⟨Nat.le_trans (Nat.le_of_ble_eq_true rfl) hR.1, Nat.le_trans (Nat.le_of_ble_eq_true rfl) hR.2.1⟩ ⟨Nat.zero_le _, Nat.zero_le _⟩ rfl (Nat.le_of_ble_eq_true rfl) dX6_worth_21 [] [mC cI cZ aM (M_beds, M_law, M_worths, M_sights, M_sight, M_signs, M_pad, M_lies, M_empty, M_list, M_waits, M_yard, M_last, M_used, M_sheets, M_nights, M_fleasOfGuests, M_fleasOfBeds, M_reason, M_row, M_bestRow, M_image, M_isKept)] 24 rfl (by decide) rfl rfl rfl [.int r_21] rfl ?_
      refine gq_if_ne C 30 27 dX6_worth_24 (by decide) rfl (fun h24 => ?_) (fun h24 => ?_)
      · replace hf := gq_ifn h24 hf
        refine gq_aload_n C 0 31 dX6_worth_30 rfl rfl ?_
        refine gq_get C fo_X6_2 fw_X6_13 0 0 34 rfl rfl rfl dX6_worth_31 rfl ?_
        refine gq_bipush C (nI 8) 36 dX6_worth_34 (by decide) rfl ?_
        refine gq_iload_n C 1 37 dX6_worth_36 rfl rfl ?_
        refine gq_imul C 38 dX6_worth_37 rfl ?_
        refine gq_iload_n C 2 39 dX6_worth_38 rfl rfl ?_
        refine gq_iadd C 40 dX6_worth_39 rfl ?_
        obtain ⟨h40, hf⟩ := gq_ok hf
        refine gq_iald C 0 1 41 rfl rfl h40 dX6_worth_40 rfl ?_
        refine gq_istore C [(4, .int (M_worths (((nI 8) * x1) + x2).toNatClampNeg)), (0, .ref (aM 0)), (1, .int x1), (2, .int x2), (3, .int x3)] 43 dX6_worth_41 (by decide) rfl rfl ?_
        refine gq_aload_n C 1 44 dX6_worth_43 rfl rfl ?_
        refine gq_get C fo_X6_2 fw_X6_13 0 0 47 rfl rfl rfl dX6_worth_44 rfl ?_
        refine gq_bipush C (nI 8) 49 dX6_worth_47 (by decide) rfl ?_
        refine gq_iload_n C 2 50 dX6_worth_49 rfl rfl ?_
        refine gq_imul C 51 dX6_worth_50 rfl ?_
        refine gq_iload_n C 3 52 dX6_worth_51 rfl rfl ?_
        refine gq_iadd C 53 dX6_worth_52 rfl ?_
        refine gq_iload_n C 4 54 dX6_worth_53 rfl rfl ?_
        obtain ⟨h54, hf⟩ := gq_ok hf
        refine gq_iast C 0 1 55 [mC cI cZ aM (M_beds, M_law, (upd M_worths (((nI 8) * x1) + x2).toNatClampNeg x3), M_sights, M_sight, M_signs, M_pad, M_lies, M_empty, M_list, M_waits, M_yard, M_last, M_used, M_sheets, M_nights, M_fleasOfGuests, M_fleasOfBeds, M_reason, M_row, M_bestRow, M_image, M_isKept)] rfl rfl h54 rfl dX6_worth_54 rfl ?_
        refine gq_iload C 0 57 dX6_worth_55 rfl rfl ?_
        obtain rfl := gq_lf hf
        exact hret dX6_worth_57 gPost.rf
      · replace hf := gq_ifp h24 hf
        refine gq_bipush C (-2 : Int32) 29 dX6_worth_27 (by decide) rfl ?_
        obtain rfl := gq_lf hf
        exact hret dX6_worth_29 gPost.rf
    · replace hf := gq_ifp h12 hf
      refine gq_iconst C (-1 : Int32) 16 dX6_worth_15 (by decide) rfl ?_
      obtain rfl := gq_lf hf
      exact hret dX6_worth_16 gPost.rf

def f_X6_rule : Int32 → ModS → Option (Int32 × ModS)
  | x1, (M_beds, M_law, M_worths, M_sights, M_sight, M_signs, M_pad, M_lies, M_empty, M_list, M_waits, M_yard, M_last, M_used, M_sheets, M_nights, M_fleasOfGuests, M_fleasOfBeds, M_reason, M_row, M_bestRow, M_image, M_isKept) => (Option.bind (f_X6_in x1 (nI 0) (nI 3)) (fun r_3 => (if r_3 = 0 then some ((-2 : Int32), (M_beds, M_law, M_worths, M_sights, M_sight, M_signs, M_pad, M_lies, M_empty, M_list, M_waits, M_yard, M_last, M_used, M_sheets, M_nights, M_fleasOfGuests, M_fleasOfBeds, M_reason, M_row, M_bestRow, M_image, M_isKept)) else some (M_law, (M_beds, x1, M_worths, M_sights, M_sight, M_signs, M_pad, M_lies, M_empty, M_list, M_waits, M_yard, M_last, M_used, M_sheets, M_nights, M_fleasOfGuests, M_fleasOfBeds, M_reason, M_row, M_bestRow, M_image, M_isKept)))))
set_option maxHeartbeats 4000000 in
set_option maxRecDepth 100000 in
theorem c_X6_rule (l : Launch) (D : va_G) (cI cZ : ClassId) (aM : Nat → Nat) (x1 : Int32) (tM : ModS) (rr : Int32 × ModS) (hf : f_X6_rule x1 tM = some rr) : CT l D cI cZ yX6_rule cX6_rule 3 (some .int) 1 22 0 0 [.ref (aM 0), .int x1] ([mC cI cZ aM tM]) (gPost (some (.int rr.1)) ([mC cI cZ aM rr.2])) := by
  obtain ⟨M_beds, M_law, M_worths, M_sights, M_sight, M_signs, M_pad, M_lies, M_empty, M_list, M_waits, M_yard, M_last, M_used, M_sheets, M_nights, M_fleasOfGuests, M_fleasOfBeds, M_reason, M_row, M_bestRow, M_image, M_isKept⟩ := tM
  rw [f_X6_rule] at hf
  refine CT.mkI (by decide) (Nat.le_of_ble_eq_true rfl) fun {p} {e} {R} {s} {m} {args} {below} {meth} {c} {A} {H0} {Q} C hA hR hret => ?_
  show G p l e R s m args below meth c 3 D A H0 0 0 Q [mC cI cZ aM (M_beds, M_law, M_worths, M_sights, M_sight, M_signs, M_pad, M_lies, M_empty, M_list, M_waits, M_yard, M_last, M_used, M_sheets, M_nights, M_fleasOfGuests, M_fleasOfBeds, M_reason, M_row, M_bestRow, M_image, M_isKept)] 0 [(0, .ref (aM 0)), (1, .int x1)] []
  refine gq_iload_n C 1 1 dX6_rule_0 rfl rfl ?_
  refine gq_iconst C (nI 0) 2 dX6_rule_1 (by decide) rfl ?_
  refine gq_iconst C (nI 3) 3 dX6_rule_2 (by decide) rfl ?_
  obtain ⟨r_3, hc, hf⟩ := gq_bd hf
  refine gq_callS C hA gm_X6_60 (c_X6_in l D cI cZ  x1 (nI 0) (nI 3) _ hc) rfl ⟨Nat.le_trans (Nat.le_of_ble_eq_true rfl) hR.1, Nat.le_trans (Nat.le_of_ble_eq_true rfl) hR.2.1⟩ ⟨Nat.zero_le _, Nat.zero_le _⟩ rfl (Nat.le_of_ble_eq_true rfl) dX6_rule_3 [] [mC cI cZ aM (M_beds, M_law, M_worths, M_sights, M_sight, M_signs, M_pad, M_lies, M_empty, M_list, M_waits, M_yard, M_last, M_used, M_sheets, M_nights, M_fleasOfGuests, M_fleasOfBeds, M_reason, M_row, M_bestRow, M_image, M_isKept)] 6 rfl (by decide) rfl rfl rfl [.int r_3] rfl ?_
  refine gq_if_ne C 12 9 dX6_rule_6 (by decide) rfl (fun h6 => ?_) (fun h6 => ?_)
  · replace hf := gq_ifn h6 hf
    refine gq_aload_n C 0 13 dX6_rule_12 rfl rfl ?_
    refine gq_get C fo_X6_1 fw_X6_57 0 0 16 rfl rfl rfl dX6_rule_13 rfl ?_
    refine gq_istore_n C [(2, .int M_law), (0, .ref (aM 0)), (1, .int x1)] 17 dX6_rule_16 (by decide) rfl rfl ?_
    refine gq_aload_n C 1 18 dX6_rule_17 rfl rfl ?_
    refine gq_iload_n C 2 19 dX6_rule_18 rfl rfl ?_
    refine gq_put C fo_X6_1 fp_X6_1 rfl fw_X6_57 0 0 22 [mC cI cZ aM (M_beds, x1, M_worths, M_sights, M_sight, M_signs, M_pad, M_lies, M_empty, M_list, M_waits, M_yard, M_last, M_used, M_sheets, M_nights, M_fleasOfGuests, M_fleasOfBeds, M_reason, M_row, M_bestRow, M_image, M_isKept)] rfl rfl rfl rfl (Nat.le_of_ble_eq_true rfl) rfl dX6_rule_19 rfl ?_
    refine gq_iload_n C 0 23 dX6_rule_22 rfl rfl ?_
    obtain rfl := gq_lf hf
    exact hret dX6_rule_23 gPost.rf
  · replace hf := gq_ifp h6 hf
    refine gq_bipush C (-2 : Int32) 11 dX6_rule_9 (by decide) rfl ?_
    obtain rfl := gq_lf hf
    exact hret dX6_rule_11 gPost.rf

def f_X6_say : Int32 → ModS → Option (Int32 × ModS)
  | x1, (M_beds, M_law, M_worths, M_sights, M_sight, M_signs, M_pad, M_lies, M_empty, M_list, M_waits, M_yard, M_last, M_used, M_sheets, M_nights, M_fleasOfGuests, M_fleasOfBeds, M_reason, M_row, M_bestRow, M_image, M_isKept) => (Option.bind (f_X6_in x1 (nI 33) (nI 126)) (fun r_5 => (if r_5 = 0 then some ((-2 : Int32), (M_beds, M_law, M_worths, M_sights, M_sight, M_signs, M_pad, M_lies, M_empty, M_list, M_waits, M_yard, M_last, M_used, M_sheets, M_nights, M_fleasOfGuests, M_fleasOfBeds, M_reason, M_row, M_bestRow, M_image, M_isKept)) else (if M_signs = (nI 48) then some ((-4 : Int32), (M_beds, M_law, M_worths, M_sights, M_sight, M_signs, M_pad, M_lies, M_empty, M_list, M_waits, M_yard, M_last, M_used, M_sheets, M_nights, M_fleasOfGuests, M_fleasOfBeds, M_reason, M_row, M_bestRow, M_image, M_isKept)) else (if M_signs < 0 ∨ 48 ≤ M_signs.toNatClampNeg then none else some ((M_signs + (nI 1)), (M_beds, M_law, M_worths, M_sights, M_sight, (M_signs + (nI 1)), (upd M_pad M_signs.toNatClampNeg x1), M_lies, M_empty, M_list, M_waits, M_yard, M_last, M_used, M_sheets, M_nights, M_fleasOfGuests, M_fleasOfBeds, M_reason, M_row, M_bestRow, M_image, M_isKept)))))))
set_option maxHeartbeats 4000000 in
set_option maxRecDepth 100000 in
theorem c_X6_say (l : Launch) (D : va_G) (cI cZ : ClassId) (aM : Nat → Nat) (x1 : Int32) (tM : ModS) (rr : Int32 × ModS) (hf : f_X6_say x1 tM = some rr) : CT l D cI cZ yX6_say cX6_say 2 (some .int) 1 22 0 0 [.ref (aM 0), .int x1] ([mC cI cZ aM tM]) (gPost (some (.int rr.1)) ([mC cI cZ aM rr.2])) := by
  obtain ⟨M_beds, M_law, M_worths, M_sights, M_sight, M_signs, M_pad, M_lies, M_empty, M_list, M_waits, M_yard, M_last, M_used, M_sheets, M_nights, M_fleasOfGuests, M_fleasOfBeds, M_reason, M_row, M_bestRow, M_image, M_isKept⟩ := tM
  rw [f_X6_say] at hf
  refine CT.mkI (by decide) (Nat.le_of_ble_eq_true rfl) fun {p} {e} {R} {s} {m} {args} {below} {meth} {c} {A} {H0} {Q} C hA hR hret => ?_
  show G p l e R s m args below meth c 2 D A H0 0 0 Q [mC cI cZ aM (M_beds, M_law, M_worths, M_sights, M_sight, M_signs, M_pad, M_lies, M_empty, M_list, M_waits, M_yard, M_last, M_used, M_sheets, M_nights, M_fleasOfGuests, M_fleasOfBeds, M_reason, M_row, M_bestRow, M_image, M_isKept)] 0 [(0, .ref (aM 0)), (1, .int x1)] []
  refine gq_iload_n C 1 1 dX6_say_0 rfl rfl ?_
  refine gq_bipush C (nI 33) 3 dX6_say_1 (by decide) rfl ?_
  refine gq_bipush C (nI 126) 5 dX6_say_3 (by decide) rfl ?_
  obtain ⟨r_5, hc, hf⟩ := gq_bd hf
  refine gq_callS C hA gm_X6_60 (c_X6_in l D cI cZ  x1 (nI 33) (nI 126) _ hc) rfl ⟨Nat.le_trans (Nat.le_of_ble_eq_true rfl) hR.1, Nat.le_trans (Nat.le_of_ble_eq_true rfl) hR.2.1⟩ ⟨Nat.zero_le _, Nat.zero_le _⟩ rfl (Nat.le_of_ble_eq_true rfl) dX6_say_5 [] [mC cI cZ aM (M_beds, M_law, M_worths, M_sights, M_sight, M_signs, M_pad, M_lies, M_empty, M_list, M_waits, M_yard, M_last, M_used, M_sheets, M_nights, M_fleasOfGuests, M_fleasOfBeds, M_reason, M_row, M_bestRow, M_image, M_isKept)] 8 rfl (by decide) rfl rfl rfl [.int r_5] rfl ?_
  refine gq_if_ne C 14 11 dX6_say_8 (by decide) rfl (fun h8 => ?_) (fun h8 => ?_)
  · replace hf := gq_ifn h8 hf
    refine gq_aload_n C 0 15 dX6_say_14 rfl rfl ?_
    refine gq_get C fo_X6_5 fw_X6_74 0 0 18 rfl rfl rfl dX6_say_15 rfl ?_
    refine gq_bipush C (nI 48) 20 dX6_say_18 (by decide) rfl ?_
    refine gq_icmp_ne C 26 23 dX6_say_20 (by decide) rfl (fun h20 => ?_) (fun h20 => ?_)
    · replace hf := gq_ifn h20 hf
      refine gq_aload_n C 0 27 dX6_say_26 rfl rfl ?_
      refine gq_get C fo_X6_6 fw_X6_20 0 0 30 rfl rfl rfl dX6_say_27 rfl ?_
      refine gq_aload_n C 0 31 dX6_say_30 rfl rfl ?_
      refine gq_get C fo_X6_5 fw_X6_74 0 0 34 rfl rfl rfl dX6_say_31 rfl ?_
      refine gq_iload_n C 1 35 dX6_say_34 rfl rfl ?_
      obtain ⟨h35, hf⟩ := gq_ok hf
      refine gq_iast C 0 3 36 [mC cI cZ aM (M_beds, M_law, M_worths, M_sights, M_sight, M_signs, (upd M_pad M_signs.toNatClampNeg x1), M_lies, M_empty, M_list, M_waits, M_yard, M_last, M_used, M_sheets, M_nights, M_fleasOfGuests, M_fleasOfBeds, M_reason, M_row, M_bestRow, M_image, M_isKept)] rfl rfl h35 rfl dX6_say_35 rfl ?_
      refine gq_aload_n C 0 37 dX6_say_36 rfl rfl ?_
      refine gq_dup C 38 dX6_say_37 rfl rfl ?_
      refine gq_get C fo_X6_5 fw_X6_74 0 0 41 rfl rfl rfl dX6_say_38 rfl ?_
      refine gq_iconst C (nI 1) 42 dX6_say_41 (by decide) rfl ?_
      refine gq_iadd C 43 dX6_say_42 rfl ?_
      refine gq_put C fo_X6_5 fp_X6_5 rfl fw_X6_74 0 0 46 [mC cI cZ aM (M_beds, M_law, M_worths, M_sights, M_sight, (M_signs + (nI 1)), (upd M_pad M_signs.toNatClampNeg x1), M_lies, M_empty, M_list, M_waits, M_yard, M_last, M_used, M_sheets, M_nights, M_fleasOfGuests, M_fleasOfBeds, M_reason, M_row, M_bestRow, M_image, M_isKept)] rfl rfl rfl rfl (Nat.le_of_ble_eq_true rfl) rfl dX6_say_43 rfl ?_
      refine gq_aload_n C 0 47 dX6_say_46 rfl rfl ?_
      refine gq_get C fo_X6_5 fw_X6_74 0 0 50 rfl rfl rfl dX6_say_47 rfl ?_
      obtain rfl := gq_lf hf
      exact hret dX6_say_50 gPost.rf
    · replace hf := gq_ifp h20 hf
      refine gq_bipush C (-4 : Int32) 25 dX6_say_23 (by decide) rfl ?_
      obtain rfl := gq_lf hf
      exact hret dX6_say_25 gPost.rf
  · replace hf := gq_ifp h8 hf
    refine gq_bipush C (-2 : Int32) 13 dX6_say_11 (by decide) rfl ?_
    obtain rfl := gq_lf hf
    exact hret dX6_say_13 gPost.rf

def f_X6_wipe : ModS → Option (Int32 × ModS)
  | (M_beds, M_law, M_worths, M_sights, M_sight, M_signs, M_pad, M_lies, M_empty, M_list, M_waits, M_yard, M_last, M_used, M_sheets, M_nights, M_fleasOfGuests, M_fleasOfBeds, M_reason, M_row, M_bestRow, M_image, M_isKept) => some (M_signs, (M_beds, M_law, M_worths, M_sights, M_sight, (nI 0), M_pad, M_lies, M_empty, M_list, M_waits, M_yard, M_last, M_used, M_sheets, M_nights, M_fleasOfGuests, M_fleasOfBeds, M_reason, M_row, M_bestRow, M_image, M_isKept))
set_option maxHeartbeats 4000000 in
set_option maxRecDepth 100000 in
theorem c_X6_wipe (l : Launch) (D : va_G) (cI cZ : ClassId) (aM : Nat → Nat) (tM : ModS) (rr : Int32 × ModS) (hf : f_X6_wipe tM = some rr) : CT l D cI cZ yX6_wipe cX6_wipe 2 (some .int) 0 0 0 0 [.ref (aM 0)] ([mC cI cZ aM tM]) (gPost (some (.int rr.1)) ([mC cI cZ aM rr.2])) := by
  obtain ⟨M_beds, M_law, M_worths, M_sights, M_sight, M_signs, M_pad, M_lies, M_empty, M_list, M_waits, M_yard, M_last, M_used, M_sheets, M_nights, M_fleasOfGuests, M_fleasOfBeds, M_reason, M_row, M_bestRow, M_image, M_isKept⟩ := tM
  rw [f_X6_wipe] at hf
  refine CT.mkI (by decide) (Nat.le_of_ble_eq_true rfl) fun {p} {e} {R} {s} {m} {args} {below} {meth} {c} {A} {H0} {Q} C hA hR hret => ?_
  show G p l e R s m args below meth c 2 D A H0 0 0 Q [mC cI cZ aM (M_beds, M_law, M_worths, M_sights, M_sight, M_signs, M_pad, M_lies, M_empty, M_list, M_waits, M_yard, M_last, M_used, M_sheets, M_nights, M_fleasOfGuests, M_fleasOfBeds, M_reason, M_row, M_bestRow, M_image, M_isKept)] 0 [(0, .ref (aM 0))] []
  refine gq_aload_n C 0 1 dX6_wipe_0 rfl rfl ?_
  refine gq_get C fo_X6_5 fw_X6_74 0 0 4 rfl rfl rfl dX6_wipe_1 rfl ?_
  refine gq_istore_n C [(1, .int M_signs), (0, .ref (aM 0))] 5 dX6_wipe_4 (by decide) rfl rfl ?_
  refine gq_aload_n C 1 6 dX6_wipe_5 rfl rfl ?_
  refine gq_iconst C (nI 0) 7 dX6_wipe_6 (by decide) rfl ?_
  refine gq_put C fo_X6_5 fp_X6_5 rfl fw_X6_74 0 0 10 [mC cI cZ aM (M_beds, M_law, M_worths, M_sights, M_sight, (nI 0), M_pad, M_lies, M_empty, M_list, M_waits, M_yard, M_last, M_used, M_sheets, M_nights, M_fleasOfGuests, M_fleasOfBeds, M_reason, M_row, M_bestRow, M_image, M_isKept)] rfl rfl rfl rfl (Nat.le_of_ble_eq_true rfl) rfl dX6_wipe_7 rfl ?_
  refine gq_iload_n C 0 11 dX6_wipe_10 rfl rfl ?_
  obtain rfl := gq_lf hf
  exact hret dX6_wipe_11 gPost.rf

def f_X6_faultOf_L4 (c_M_signs : Int32) (c_M_pad : (Nat → Int32)) : Nat → Int32 → Int32 → (Int32 → Int32 → Option (Int32)) → Option (Int32)
  | 0, _, _, _ => none
  | nL4 + 1, x1_L4, x2_L4, kL4 => (if c_M_signs ≤ x2_L4 then kL4 x1_L4 x2_L4 else (if x2_L4 < 0 ∨ 48 ≤ x2_L4.toNatClampNeg then none else gJn (fun (z0_J31 : Int32) => (Option.bind (f_X6_in (c_M_pad x2_L4.toNatClampNeg) (nI 65) (nI 72)) (fun r_38 => gJn (fun (z0_J77 : Int32) => (if z0_J77 = 0 then some x2_L4 else f_X6_faultOf_L4 c_M_signs c_M_pad nL4 (x1_L4 + z0_J31) (x2_L4 + (nI 1)) kL4)) (fun kJ77 => (if r_38 = 0 then (Option.bind (f_X6_in (c_M_pad x2_L4.toNatClampNeg) (nI 97) (nI 104)) (fun r_49 => (if r_49 = 0 then (if (c_M_pad x2_L4.toNatClampNeg) = (nI 46) then kJ77 (nI 1) else (if (c_M_pad x2_L4.toNatClampNeg) = (nI 63) then (if (nI 4) ≤ (x1_L4 + z0_J31) then kJ77 (nI 0) else kJ77 (nI 1)) else kJ77 (nI 0))) else kJ77 (nI 1)))) else kJ77 (nI 1)))))) (fun kJ31 => (if (c_M_pad x2_L4.toNatClampNeg) = (nI 63) then kJ31 (nI 1) else kJ31 (nI 0)))))
def f_X6_faultOf : ModS → Option (Int32)
  | (M_beds, M_law, M_worths, M_sights, M_sight, M_signs, M_pad, M_lies, M_empty, M_list, M_waits, M_yard, M_last, M_used, M_sheets, M_nights, M_fleasOfGuests, M_fleasOfBeds, M_reason, M_row, M_bestRow, M_image, M_isKept) => f_X6_faultOf_L4 M_signs M_pad FU (nI 0) (nI 0) (fun x1_L4 x2_L4 => some (-6 : Int32))
set_option maxHeartbeats 4000000 in
set_option maxRecDepth 100000 in
theorem c_X6_faultOf (l : Launch) (D : va_G) (cI cZ : ClassId) (aM : Nat → Nat) (tM : ModS) (rr : Int32) (hf : f_X6_faultOf tM = some rr) : CT l D cI cZ yX6_faultOf cX6_faultOf 5 (some .int) 1 22 0 0 [.ref (aM 0)] ([mC cI cZ aM tM]) (gPost (some (.int rr)) ([mC cI cZ aM tM])) := by
  obtain ⟨M_beds, M_law, M_worths, M_sights, M_sight, M_signs, M_pad, M_lies, M_empty, M_list, M_waits, M_yard, M_last, M_used, M_sheets, M_nights, M_fleasOfGuests, M_fleasOfBeds, M_reason, M_row, M_bestRow, M_image, M_isKept⟩ := tM
  rw [f_X6_faultOf] at hf
  refine CT.mkI (by decide) (Nat.le_of_ble_eq_true rfl) fun {p} {e} {R} {s} {m} {args} {below} {meth} {c} {A} {H0} {Q} C hA hR hret => ?_
  show G p l e R s m args below meth c 5 D A H0 0 0 Q [mC cI cZ aM (M_beds, M_law, M_worths, M_sights, M_sight, M_signs, M_pad, M_lies, M_empty, M_list, M_waits, M_yard, M_last, M_used, M_sheets, M_nights, M_fleasOfGuests, M_fleasOfBeds, M_reason, M_row, M_bestRow, M_image, M_isKept)] 0 [(0, .ref (aM 0))] []
  refine gq_iconst C (nI 0) 1 dX6_faultOf_0 (by decide) rfl ?_
  refine gq_istore_n C [(1, .int (nI 0)), (0, .ref (aM 0))] 2 dX6_faultOf_1 (by decide) rfl rfl ?_
  refine gq_iconst C (nI 0) 3 dX6_faultOf_2 (by decide) rfl ?_
  refine gq_istore_n C [(2, .int (nI 0)), (1, .int (nI 0)), (0, .ref (aM 0))] 4 dX6_faultOf_3 (by decide) rfl rfl ?_
  have L4 : ∀ (kL : Int32 → Int32 → Option (Int32)), (∀ (x1_L4 : Int32) (x2_L4 : Int32), kL x1_L4 x2_L4 = some rr → G p l e R s m args below meth c 5 D A H0 0 0 Q [mC cI cZ aM (M_beds, M_law, M_worths, M_sights, M_sight, M_signs, M_pad, M_lies, M_empty, M_list, M_waits, M_yard, M_last, M_used, M_sheets, M_nights, M_fleasOfGuests, M_fleasOfBeds, M_reason, M_row, M_bestRow, M_image, M_isKept)] 92 [(2, .int x2_L4), (1, .int x1_L4), (0, .ref (aM 0))] []) → ∀ (n : Nat) (x1_L4 : Int32) (x2_L4 : Int32), f_X6_faultOf_L4 M_signs M_pad n x1_L4 x2_L4 kL = some rr → G p l e R s m args below meth c 5 D A H0 0 0 Q [mC cI cZ aM (M_beds, M_law, M_worths, M_sights, M_sight, M_signs, M_pad, M_lies, M_empty, M_list, M_waits, M_yard, M_last, M_used, M_sheets, M_nights, M_fleasOfGuests, M_fleasOfBeds, M_reason, M_row, M_bestRow, M_image, M_isKept)] 4 [(2, .int x2_L4), (1, .int x1_L4), (0, .ref (aM 0))] [] := by
    intro kL hkL4 n
    induction n with
    | zero =>
      intro x1_L4 x2_L4 hf
      rw [f_X6_faultOf_L4] at hf
      cases hf
    | succ n ihL4 =>
      intro x1_L4 x2_L4 hf
      rw [f_X6_faultOf_L4] at hf
      refine gq_iload_n C 0 5 dX6_faultOf_4 rfl rfl ?_
      refine gq_aload_n C 2 6 dX6_faultOf_5 rfl rfl ?_
      refine gq_get C fo_X6_5 fw_X6_74 0 0 9 rfl rfl rfl dX6_faultOf_6 rfl ?_
      refine gq_icmp_ge C 92 12 dX6_faultOf_9 (by decide) rfl (fun h9 => ?_) (fun h9 => ?_)
      · replace hf := gq_ifp h9 hf
        exact hkL4 _ _ hf
      · replace hf := gq_ifn h9 hf
        refine gq_aload_n C 2 13 dX6_faultOf_12 rfl rfl ?_
        refine gq_get C fo_X6_6 fw_X6_20 0 0 16 rfl rfl rfl dX6_faultOf_13 rfl ?_
        refine gq_iload_n C 0 17 dX6_faultOf_16 rfl rfl ?_
        obtain ⟨h17, hf⟩ := gq_ok hf
        refine gq_iald C 0 3 18 rfl rfl h17 dX6_faultOf_17 rfl ?_
        refine gq_istore_n C [(3, .int (M_pad x2_L4.toNatClampNeg)), (2, .int x2_L4), (1, .int x1_L4), (0, .ref (aM 0))] 19 dX6_faultOf_18 (by decide) rfl rfl ?_
        refine gq_iload_n C 2 20 dX6_faultOf_19 rfl rfl ?_
        refine gq_iload_n C 0 21 dX6_faultOf_20 rfl rfl ?_
        refine gq_bipush C (nI 63) 23 dX6_faultOf_21 (by decide) rfl ?_
        refine gq_jn (P := fun k => ∀ (z0_J31 : Int32), k z0_J31 = some rr → G p l e R s m args below meth c 5 D A H0 0 0 Q [mC cI cZ aM (M_beds, M_law, M_worths, M_sights, M_sight, M_signs, M_pad, M_lies, M_empty, M_list, M_waits, M_yard, M_last, M_used, M_sheets, M_nights, M_fleasOfGuests, M_fleasOfBeds, M_reason, M_row, M_bestRow, M_image, M_isKept)] 31 [(3, .int (M_pad x2_L4.toNatClampNeg)), (2, .int x2_L4), (1, .int x1_L4), (0, .ref (aM 0))] [.int z0_J31, .int x1_L4]) hf (fun z0_J31 hf => ?_) (fun kJ31 hJ31 hf => ?_)
        · refine gq_iadd C 32 dX6_faultOf_31 rfl ?_
          refine gq_istore_n C [(1, .int (x1_L4 + z0_J31)), (3, .int (M_pad x2_L4.toNatClampNeg)), (2, .int x2_L4), (0, .ref (aM 0))] 33 dX6_faultOf_32 (by decide) rfl rfl ?_
          refine gq_iload_n C 1 34 dX6_faultOf_33 rfl rfl ?_
          refine gq_bipush C (nI 65) 36 dX6_faultOf_34 (by decide) rfl ?_
          refine gq_bipush C (nI 72) 38 dX6_faultOf_36 (by decide) rfl ?_
          obtain ⟨r_38, hc, hf⟩ := gq_bd hf
          refine gq_callS C hA gm_X6_60 (c_X6_in l D cI cZ  (M_pad x2_L4.toNatClampNeg) (nI 65) (nI 72) _ hc) rfl ⟨Nat.le_trans (Nat.le_of_ble_eq_true rfl) hR.1, Nat.le_trans (Nat.le_of_ble_eq_true rfl) hR.2.1⟩ ⟨Nat.zero_le _, Nat.zero_le _⟩ rfl (Nat.le_of_ble_eq_true rfl) dX6_faultOf_38 [] [mC cI cZ aM (M_beds, M_law, M_worths, M_sights, M_sight, M_signs, M_pad, M_lies, M_empty, M_list, M_waits, M_yard, M_last, M_used, M_sheets, M_nights, M_fleasOfGuests, M_fleasOfBeds, M_reason, M_row, M_bestRow, M_image, M_isKept)] 41 rfl (by decide) rfl rfl rfl [.int r_38] rfl ?_
          refine gq_jn (P := fun k => ∀ (z0_J77 : Int32), k z0_J77 = some rr → G p l e R s m args below meth c 5 D A H0 0 0 Q [mC cI cZ aM (M_beds, M_law, M_worths, M_sights, M_sight, M_signs, M_pad, M_lies, M_empty, M_list, M_waits, M_yard, M_last, M_used, M_sheets, M_nights, M_fleasOfGuests, M_fleasOfBeds, M_reason, M_row, M_bestRow, M_image, M_isKept)] 77 [(1, .int (x1_L4 + z0_J31)), (3, .int (M_pad x2_L4.toNatClampNeg)), (2, .int x2_L4), (0, .ref (aM 0))] [.int z0_J77]) hf (fun z0_J77 hf => ?_) (fun kJ77 hJ77 hf => ?_)
          · refine gq_istore C [(4, .int z0_J77), (1, .int (x1_L4 + z0_J31)), (3, .int (M_pad x2_L4.toNatClampNeg)), (2, .int x2_L4), (0, .ref (aM 0))] 79 dX6_faultOf_77 (by decide) rfl rfl ?_
            refine gq_iload C 0 81 dX6_faultOf_79 rfl rfl ?_
            refine gq_if_ne C 86 84 dX6_faultOf_81 (by decide) rfl (fun h81 => ?_) (fun h81 => ?_)
            · replace hf := gq_ifn h81 hf
              refine gq_iinc C 3 [(2, .int (x2_L4 + (nI 1))), (4, .int z0_J77), (1, .int (x1_L4 + z0_J31)), (3, .int (M_pad x2_L4.toNatClampNeg)), (0, .ref (aM 0))] 89 dX6_faultOf_86 rfl rfl (by decide) rfl rfl ?_
              refine gq_goto C 4 dX6_faultOf_89 (by decide) ?_
              refine gq_lv [0, 2, 4] rfl ?_
              exact ihL4 _ _ hf
            · replace hf := gq_ifp h81 hf
              refine gq_iload_n C 3 85 dX6_faultOf_84 rfl rfl ?_
              obtain rfl := gq_lf hf
              exact hret dX6_faultOf_85 gPost.rf
          · refine gq_if_ne C 72 44 dX6_faultOf_41 (by decide) rfl (fun h41 => ?_) (fun h41 => ?_)
            · replace hf := gq_ifn h41 hf
              refine gq_iconst C (nI 1) 73 dX6_faultOf_72 (by decide) rfl ?_
              refine gq_goto C 77 dX6_faultOf_73 (by decide) ?_
              exact hJ77 _ hf
            · replace hf := gq_ifp h41 hf
              refine gq_iload_n C 1 45 dX6_faultOf_44 rfl rfl ?_
              refine gq_bipush C (nI 97) 47 dX6_faultOf_45 (by decide) rfl ?_
              refine gq_bipush C (nI 104) 49 dX6_faultOf_47 (by decide) rfl ?_
              obtain ⟨r_49, hc, hf⟩ := gq_bd hf
              refine gq_callS C hA gm_X6_60 (c_X6_in l D cI cZ  (M_pad x2_L4.toNatClampNeg) (nI 97) (nI 104) _ hc) rfl ⟨Nat.le_trans (Nat.le_of_ble_eq_true rfl) hR.1, Nat.le_trans (Nat.le_of_ble_eq_true rfl) hR.2.1⟩ ⟨Nat.zero_le _, Nat.zero_le _⟩ rfl (Nat.le_of_ble_eq_true rfl) dX6_faultOf_49 [] [mC cI cZ aM (M_beds, M_law, M_worths, M_sights, M_sight, M_signs, M_pad, M_lies, M_empty, M_list, M_waits, M_yard, M_last, M_used, M_sheets, M_nights, M_fleasOfGuests, M_fleasOfBeds, M_reason, M_row, M_bestRow, M_image, M_isKept)] 52 rfl (by decide) rfl rfl rfl [.int r_49] rfl ?_
              refine gq_if_ne C 72 55 dX6_faultOf_52 (by decide) rfl (fun h52 => ?_) (fun h52 => ?_)
              · replace hf := gq_ifn h52 hf
                refine gq_iconst C (nI 1) 73 dX6_faultOf_72 (by decide) rfl ?_
                refine gq_goto C 77 dX6_faultOf_73 (by decide) ?_
                exact hJ77 _ hf
              · replace hf := gq_ifp h52 hf
                refine gq_iload_n C 1 56 dX6_faultOf_55 rfl rfl ?_
                refine gq_bipush C (nI 46) 58 dX6_faultOf_56 (by decide) rfl ?_
                refine gq_icmp_eq C 72 61 dX6_faultOf_58 (by decide) rfl (fun h58 => ?_) (fun h58 => ?_)
                · replace hf := gq_ifp h58 hf
                  refine gq_iconst C (nI 1) 73 dX6_faultOf_72 (by decide) rfl ?_
                  refine gq_goto C 77 dX6_faultOf_73 (by decide) ?_
                  exact hJ77 _ hf
                · replace hf := gq_ifn h58 hf
                  refine gq_iload_n C 1 62 dX6_faultOf_61 rfl rfl ?_
                  refine gq_bipush C (nI 63) 64 dX6_faultOf_62 (by decide) rfl ?_
                  refine gq_icmp_ne C 76 67 dX6_faultOf_64 (by decide) rfl (fun h64 => ?_) (fun h64 => ?_)
                  · replace hf := gq_ifn h64 hf
                    refine gq_iconst C (nI 0) 77 dX6_faultOf_76 (by decide) rfl ?_
                    exact hJ77 _ hf
                  · replace hf := gq_ifp h64 hf
                    refine gq_iload_n C 0 68 dX6_faultOf_67 rfl rfl ?_
                    refine gq_iconst C (nI 4) 69 dX6_faultOf_68 (by decide) rfl ?_
                    refine gq_icmp_ge C 76 72 dX6_faultOf_69 (by decide) rfl (fun h69 => ?_) (fun h69 => ?_)
                    · replace hf := gq_ifp h69 hf
                      refine gq_iconst C (nI 0) 77 dX6_faultOf_76 (by decide) rfl ?_
                      exact hJ77 _ hf
                    · replace hf := gq_ifn h69 hf
                      refine gq_iconst C (nI 1) 73 dX6_faultOf_72 (by decide) rfl ?_
                      refine gq_goto C 77 dX6_faultOf_73 (by decide) ?_
                      exact hJ77 _ hf
        · refine gq_icmp_ne C 30 26 dX6_faultOf_23 (by decide) rfl (fun h23 => ?_) (fun h23 => ?_)
          · replace hf := gq_ifn h23 hf
            refine gq_iconst C (nI 0) 31 dX6_faultOf_30 (by decide) rfl ?_
            exact hJ31 _ hf
          · replace hf := gq_ifp h23 hf
            refine gq_iconst C (nI 1) 27 dX6_faultOf_26 (by decide) rfl ?_
            refine gq_goto C 31 dX6_faultOf_27 (by decide) ?_
            exact hJ31 _ hf
  refine L4 _ (fun x1_L4 x2_L4 hf => ?_) _ _ _ hf
  refine gq_bipush C (-6 : Int32) 94 dX6_faultOf_92 (by decide) rfl ?_
  obtain rfl := gq_lf hf
  exact hret dX6_faultOf_94 gPost.rf

def f_X6_fault : ModS → Option (Int32)
  | (M_beds, M_law, M_worths, M_sights, M_sight, M_signs, M_pad, M_lies, M_empty, M_list, M_waits, M_yard, M_last, M_used, M_sheets, M_nights, M_fleasOfGuests, M_fleasOfBeds, M_reason, M_row, M_bestRow, M_image, M_isKept) => (Option.bind (f_X6_faultOf (M_beds, M_law, M_worths, M_sights, M_sight, M_signs, M_pad, M_lies, M_empty, M_list, M_waits, M_yard, M_last, M_used, M_sheets, M_nights, M_fleasOfGuests, M_fleasOfBeds, M_reason, M_row, M_bestRow, M_image, M_isKept)) (fun r_1 => some r_1))
set_option maxHeartbeats 4000000 in
set_option maxRecDepth 100000 in
theorem c_X6_fault (l : Launch) (D : va_G) (cI cZ : ClassId) (aM : Nat → Nat) (tM : ModS) (rr : Int32) (hf : f_X6_fault tM = some rr) : CT l D cI cZ yX6_fault cX6_fault 1 (some .int) 2 46 0 0 [.ref (aM 0)] ([mC cI cZ aM tM]) (gPost (some (.int rr)) ([mC cI cZ aM tM])) := by
  obtain ⟨M_beds, M_law, M_worths, M_sights, M_sight, M_signs, M_pad, M_lies, M_empty, M_list, M_waits, M_yard, M_last, M_used, M_sheets, M_nights, M_fleasOfGuests, M_fleasOfBeds, M_reason, M_row, M_bestRow, M_image, M_isKept⟩ := tM
  rw [f_X6_fault] at hf
  refine CT.mkI (by decide) (Nat.le_of_ble_eq_true rfl) fun {p} {e} {R} {s} {m} {args} {below} {meth} {c} {A} {H0} {Q} C hA hR hret => ?_
  show G p l e R s m args below meth c 1 D A H0 0 0 Q [mC cI cZ aM (M_beds, M_law, M_worths, M_sights, M_sight, M_signs, M_pad, M_lies, M_empty, M_list, M_waits, M_yard, M_last, M_used, M_sheets, M_nights, M_fleasOfGuests, M_fleasOfBeds, M_reason, M_row, M_bestRow, M_image, M_isKept)] 0 [(0, .ref (aM 0))] []
  refine gq_aload_n C 0 1 dX6_fault_0 rfl rfl ?_
  obtain ⟨r_1, hc, hf⟩ := gq_bd hf
  refine gq_callV C hA gm_X6_77 (c_X6_faultOf l D cI cZ aM (M_beds, M_law, M_worths, M_sights, M_sight, M_signs, M_pad, M_lies, M_empty, M_list, M_waits, M_yard, M_last, M_used, M_sheets, M_nights, M_fleasOfGuests, M_fleasOfBeds, M_reason, M_row, M_bestRow, M_image, M_isKept) _ hc) rfl 0 0 rfl rfl rfl ⟨Nat.le_trans (Nat.le_of_ble_eq_true rfl) hR.1, Nat.le_trans (Nat.le_of_ble_eq_true rfl) hR.2.1⟩ ⟨Nat.zero_le _, Nat.zero_le _⟩ rfl (Nat.le_of_ble_eq_true rfl) dX6_fault_1 [0] [mC cI cZ aM (M_beds, M_law, M_worths, M_sights, M_sight, M_signs, M_pad, M_lies, M_empty, M_list, M_waits, M_yard, M_last, M_used, M_sheets, M_nights, M_fleasOfGuests, M_fleasOfBeds, M_reason, M_row, M_bestRow, M_image, M_isKept)] 4 rfl (by decide) rfl rfl rfl [.int r_1] rfl ?_
  obtain rfl := gq_lf hf
  exact hret dX6_fault_4 gPost.rf

def f_X6_opens_L4 (c_x1 : Int32) (c_M_pad : (Nat → Int32)) : Nat → Int32 → Int32 → (Int32 → Int32 → Option (Int32)) → Option (Int32)
  | 0, _, _, _ => none
  | nL4 + 1, x2_L4, x3_L4, kL4 => (if c_x1 ≤ x3_L4 then kL4 x2_L4 x3_L4 else (if x3_L4 < 0 ∨ 48 ≤ x3_L4.toNatClampNeg then none else (if (c_M_pad x3_L4.toNatClampNeg) = (nI 63) then f_X6_opens_L4 c_x1 c_M_pad nL4 (x2_L4 + (nI 1)) (x3_L4 + (nI 1)) kL4 else f_X6_opens_L4 c_x1 c_M_pad nL4 (x2_L4 + (nI 0)) (x3_L4 + (nI 1)) kL4)))
def f_X6_opens : Int32 → ModS → Option (Int32)
  | x1, (M_beds, M_law, M_worths, M_sights, M_sight, M_signs, M_pad, M_lies, M_empty, M_list, M_waits, M_yard, M_last, M_used, M_sheets, M_nights, M_fleasOfGuests, M_fleasOfBeds, M_reason, M_row, M_bestRow, M_image, M_isKept) => f_X6_opens_L4 x1 M_pad FU (nI 0) (nI 0) (fun x2_L4 x3_L4 => some x2_L4)
set_option maxHeartbeats 4000000 in
set_option maxRecDepth 100000 in
theorem c_X6_opens (l : Launch) (D : va_G) (cI cZ : ClassId) (aM : Nat → Nat) (x1 : Int32) (tM : ModS) (rr : Int32) (hf : f_X6_opens x1 tM = some rr) : CT l D cI cZ yX6_opens cX6_opens 4 (some .int) 0 0 0 0 [.ref (aM 0), .int x1] ([mC cI cZ aM tM]) (gPost (some (.int rr)) ([mC cI cZ aM tM])) := by
  obtain ⟨M_beds, M_law, M_worths, M_sights, M_sight, M_signs, M_pad, M_lies, M_empty, M_list, M_waits, M_yard, M_last, M_used, M_sheets, M_nights, M_fleasOfGuests, M_fleasOfBeds, M_reason, M_row, M_bestRow, M_image, M_isKept⟩ := tM
  rw [f_X6_opens] at hf
  refine CT.mkI (by decide) (Nat.le_of_ble_eq_true rfl) fun {p} {e} {R} {s} {m} {args} {below} {meth} {c} {A} {H0} {Q} C hA hR hret => ?_
  show G p l e R s m args below meth c 4 D A H0 0 0 Q [mC cI cZ aM (M_beds, M_law, M_worths, M_sights, M_sight, M_signs, M_pad, M_lies, M_empty, M_list, M_waits, M_yard, M_last, M_used, M_sheets, M_nights, M_fleasOfGuests, M_fleasOfBeds, M_reason, M_row, M_bestRow, M_image, M_isKept)] 0 [(0, .ref (aM 0)), (1, .int x1)] []
  refine gq_iconst C (nI 0) 1 dX6_opens_0 (by decide) rfl ?_
  refine gq_istore_n C [(2, .int (nI 0)), (0, .ref (aM 0)), (1, .int x1)] 2 dX6_opens_1 (by decide) rfl rfl ?_
  refine gq_iconst C (nI 0) 3 dX6_opens_2 (by decide) rfl ?_
  refine gq_istore_n C [(3, .int (nI 0)), (2, .int (nI 0)), (0, .ref (aM 0)), (1, .int x1)] 4 dX6_opens_3 (by decide) rfl rfl ?_
  have L4 : ∀ (kL : Int32 → Int32 → Option (Int32)), (∀ (x2_L4 : Int32) (x3_L4 : Int32), kL x2_L4 x3_L4 = some rr → G p l e R s m args below meth c 4 D A H0 0 0 Q [mC cI cZ aM (M_beds, M_law, M_worths, M_sights, M_sight, M_signs, M_pad, M_lies, M_empty, M_list, M_waits, M_yard, M_last, M_used, M_sheets, M_nights, M_fleasOfGuests, M_fleasOfBeds, M_reason, M_row, M_bestRow, M_image, M_isKept)] 34 [(3, .int x3_L4), (2, .int x2_L4), (0, .ref (aM 0)), (1, .int x1)] []) → ∀ (n : Nat) (x2_L4 : Int32) (x3_L4 : Int32), f_X6_opens_L4 x1 M_pad n x2_L4 x3_L4 kL = some rr → G p l e R s m args below meth c 4 D A H0 0 0 Q [mC cI cZ aM (M_beds, M_law, M_worths, M_sights, M_sight, M_signs, M_pad, M_lies, M_empty, M_list, M_waits, M_yard, M_last, M_used, M_sheets, M_nights, M_fleasOfGuests, M_fleasOfBeds, M_reason, M_row, M_bestRow, M_image, M_isKept)] 4 [(3, .int x3_L4), (2, .int x2_L4), (0, .ref (aM 0)), (1, .int x1)] [] := by
    intro kL hkL4 n
    induction n with
    | zero =>
      intro x2_L4 x3_L4 hf
      rw [f_X6_opens_L4] at hf
      cases hf
    | succ n ihL4 =>
      intro x2_L4 x3_L4 hf
      rw [f_X6_opens_L4] at hf
      refine gq_iload_n C 0 5 dX6_opens_4 rfl rfl ?_
      refine gq_iload_n C 3 6 dX6_opens_5 rfl rfl ?_
      refine gq_icmp_ge C 34 9 dX6_opens_6 (by decide) rfl (fun h6 => ?_) (fun h6 => ?_)
      · replace hf := gq_ifp h6 hf
        exact hkL4 _ _ hf
      · replace hf := gq_ifn h6 hf
        refine gq_iload_n C 1 10 dX6_opens_9 rfl rfl ?_
        refine gq_aload_n C 2 11 dX6_opens_10 rfl rfl ?_
        refine gq_get C fo_X6_6 fw_X6_20 0 0 14 rfl rfl rfl dX6_opens_11 rfl ?_
        refine gq_iload_n C 0 15 dX6_opens_14 rfl rfl ?_
        obtain ⟨h15, hf⟩ := gq_ok hf
        refine gq_iald C 0 3 16 rfl rfl h15 dX6_opens_15 rfl ?_
        refine gq_bipush C (nI 63) 18 dX6_opens_16 (by decide) rfl ?_
        refine gq_icmp_ne C 25 21 dX6_opens_18 (by decide) rfl (fun h18 => ?_) (fun h18 => ?_)
        · replace hf := gq_ifn h18 hf
          refine gq_iconst C (nI 0) 26 dX6_opens_25 (by decide) rfl ?_
          refine gq_iadd C 27 dX6_opens_26 rfl ?_
          refine gq_istore_n C [(2, .int (x2_L4 + (nI 0))), (3, .int x3_L4), (0, .ref (aM 0)), (1, .int x1)] 28 dX6_opens_27 (by decide) rfl rfl ?_
          refine gq_iinc C 1 [(3, .int (x3_L4 + (nI 1))), (2, .int (x2_L4 + (nI 0))), (0, .ref (aM 0)), (1, .int x1)] 31 dX6_opens_28 rfl rfl (by decide) rfl rfl ?_
          refine gq_goto C 4 dX6_opens_31 (by decide) ?_
          exact ihL4 _ _ hf
        · replace hf := gq_ifp h18 hf
          refine gq_iconst C (nI 1) 22 dX6_opens_21 (by decide) rfl ?_
          refine gq_goto C 26 dX6_opens_22 (by decide) ?_
          refine gq_iadd C 27 dX6_opens_26 rfl ?_
          refine gq_istore_n C [(2, .int (x2_L4 + (nI 1))), (3, .int x3_L4), (0, .ref (aM 0)), (1, .int x1)] 28 dX6_opens_27 (by decide) rfl rfl ?_
          refine gq_iinc C 1 [(3, .int (x3_L4 + (nI 1))), (2, .int (x2_L4 + (nI 1))), (0, .ref (aM 0)), (1, .int x1)] 31 dX6_opens_28 rfl rfl (by decide) rfl rfl ?_
          refine gq_goto C 4 dX6_opens_31 (by decide) ?_
          exact ihL4 _ _ hf
  refine L4 _ (fun x2_L4 x3_L4 hf => ?_) _ _ _ hf
  refine gq_iload_n C 1 35 dX6_opens_34 rfl rfl ?_
  obtain rfl := gq_lf hf
  exact hret dX6_opens_35 gPost.rf

def f_X6_begin_L15  : Nat → Int32 → (Nat → Int32) → (Nat → Int32) → (Nat → Int32) → (Nat → Int32) → (Nat → Int32) → (Nat → Int32) → (Int32 → (Nat → Int32) → (Nat → Int32) → (Nat → Int32) → (Nat → Int32) → (Nat → Int32) → (Nat → Int32) → Option (ModS)) → Option (ModS)
  | 0, _, _, _, _, _, _, _, _ => none
  | nL15 + 1, x1_L15, M_lies_L15, M_list_L15, M_last_L15, M_used_L15, M_sheets_L15, M_nights_L15, kL15 => (if (nI 8) ≤ x1_L15 then kL15 x1_L15 M_lies_L15 M_list_L15 M_last_L15 M_used_L15 M_sheets_L15 M_nights_L15 else (if x1_L15 < 0 ∨ 8 ≤ x1_L15.toNatClampNeg then none else (if x1_L15 < 0 ∨ 8 ≤ x1_L15.toNatClampNeg then none else (if x1_L15 < 0 ∨ 8 ≤ x1_L15.toNatClampNeg then none else (if x1_L15 < 0 ∨ 8 ≤ x1_L15.toNatClampNeg then none else (if x1_L15 < 0 ∨ 8 ≤ x1_L15.toNatClampNeg then none else (if x1_L15 < 0 ∨ 8 ≤ x1_L15.toNatClampNeg then none else f_X6_begin_L15  nL15 (x1_L15 + (nI 1)) (upd M_lies_L15 x1_L15.toNatClampNeg (-6 : Int32)) (upd M_list_L15 x1_L15.toNatClampNeg x1_L15) (upd M_last_L15 x1_L15.toNatClampNeg (-6 : Int32)) (upd M_used_L15 x1_L15.toNatClampNeg (nI 0)) (upd M_sheets_L15 x1_L15.toNatClampNeg (nI 0)) (upd M_nights_L15 x1_L15.toNatClampNeg (nI 0)) kL15)))))))
def f_X6_begin : ModS → Option (ModS)
  | (M_beds, M_law, M_worths, M_sights, M_sight, M_signs, M_pad, M_lies, M_empty, M_list, M_waits, M_yard, M_last, M_used, M_sheets, M_nights, M_fleasOfGuests, M_fleasOfBeds, M_reason, M_row, M_bestRow, M_image, M_isKept) => f_X6_begin_L15  FU (nI 0) M_lies M_list M_last M_used M_sheets M_nights (fun x1_L15 M_lies_L15 M_list_L15 M_last_L15 M_used_L15 M_sheets_L15 M_nights_L15 => some (M_beds, M_law, M_worths, M_sights, M_sight, M_signs, M_pad, M_lies_L15, M_beds, M_list_L15, (nI 0), M_yard, M_last_L15, M_used_L15, M_sheets_L15, M_nights_L15, M_fleasOfGuests, M_fleasOfBeds, M_reason, M_row, M_bestRow, M_image, M_isKept))
set_option maxHeartbeats 4000000 in
set_option maxRecDepth 100000 in
theorem c_X6_begin (l : Launch) (D : va_G) (cI cZ : ClassId) (aM : Nat → Nat) (tM : ModS) (rr : ModS) (hf : f_X6_begin tM = some rr) : CT l D cI cZ yX6_begin cX6_begin 2 none 0 0 0 0 [.ref (aM 0)] ([mC cI cZ aM tM]) (gPost none ([mC cI cZ aM rr])) := by
  obtain ⟨M_beds, M_law, M_worths, M_sights, M_sight, M_signs, M_pad, M_lies, M_empty, M_list, M_waits, M_yard, M_last, M_used, M_sheets, M_nights, M_fleasOfGuests, M_fleasOfBeds, M_reason, M_row, M_bestRow, M_image, M_isKept⟩ := tM
  rw [f_X6_begin] at hf
  refine CT.mkV (by decide) (Nat.le_of_ble_eq_true rfl) fun {p} {e} {R} {s} {m} {args} {below} {meth} {c} {A} {H0} {Q} C hA hR hnm hret => ?_
  show G p l e R s m args below meth c 2 D A H0 0 0 Q [mC cI cZ aM (M_beds, M_law, M_worths, M_sights, M_sight, M_signs, M_pad, M_lies, M_empty, M_list, M_waits, M_yard, M_last, M_used, M_sheets, M_nights, M_fleasOfGuests, M_fleasOfBeds, M_reason, M_row, M_bestRow, M_image, M_isKept)] 0 [(0, .ref (aM 0))] []
  refine gq_aload_n C 0 1 dX6_begin_0 rfl rfl ?_
  refine gq_aload_n C 0 2 dX6_begin_1 rfl rfl ?_
  refine gq_get C fo_X6_0 fw_X6_7 0 0 5 rfl rfl rfl dX6_begin_2 rfl ?_
  refine gq_put C fo_X6_8 fp_X6_8 rfl fw_X6_81 0 0 8 [mC cI cZ aM (M_beds, M_law, M_worths, M_sights, M_sight, M_signs, M_pad, M_lies, M_beds, M_list, M_waits, M_yard, M_last, M_used, M_sheets, M_nights, M_fleasOfGuests, M_fleasOfBeds, M_reason, M_row, M_bestRow, M_image, M_isKept)] rfl rfl rfl rfl (Nat.le_of_ble_eq_true rfl) rfl dX6_begin_5 rfl ?_
  refine gq_aload_n C 0 9 dX6_begin_8 rfl rfl ?_
  refine gq_iconst C (nI 0) 10 dX6_begin_9 (by decide) rfl ?_
  refine gq_put C fo_X6_10 fp_X6_10 rfl fw_X6_84 0 0 13 [mC cI cZ aM (M_beds, M_law, M_worths, M_sights, M_sight, M_signs, M_pad, M_lies, M_beds, M_list, (nI 0), M_yard, M_last, M_used, M_sheets, M_nights, M_fleasOfGuests, M_fleasOfBeds, M_reason, M_row, M_bestRow, M_image, M_isKept)] rfl rfl rfl rfl (Nat.le_of_ble_eq_true rfl) rfl dX6_begin_10 rfl ?_
  refine gq_iconst C (nI 0) 14 dX6_begin_13 (by decide) rfl ?_
  refine gq_istore_n C [(1, .int (nI 0)), (0, .ref (aM 0))] 15 dX6_begin_14 (by decide) rfl rfl ?_
  have L15 : ∀ (kL : Int32 → (Nat → Int32) → (Nat → Int32) → (Nat → Int32) → (Nat → Int32) → (Nat → Int32) → (Nat → Int32) → Option (ModS)), (∀ (x1_L15 : Int32) (M_lies_L15 : (Nat → Int32)) (M_list_L15 : (Nat → Int32)) (M_last_L15 : (Nat → Int32)) (M_used_L15 : (Nat → Int32)) (M_sheets_L15 : (Nat → Int32)) (M_nights_L15 : (Nat → Int32)), kL x1_L15 M_lies_L15 M_list_L15 M_last_L15 M_used_L15 M_sheets_L15 M_nights_L15 = some rr → G p l e R s m args below meth c 2 D A H0 0 0 Q [mC cI cZ aM (M_beds, M_law, M_worths, M_sights, M_sight, M_signs, M_pad, M_lies_L15, M_beds, M_list_L15, (nI 0), M_yard, M_last_L15, M_used_L15, M_sheets_L15, M_nights_L15, M_fleasOfGuests, M_fleasOfBeds, M_reason, M_row, M_bestRow, M_image, M_isKept)] 71 [(1, .int x1_L15), (0, .ref (aM 0))] []) → ∀ (n : Nat) (x1_L15 : Int32) (M_lies_L15 : (Nat → Int32)) (M_list_L15 : (Nat → Int32)) (M_last_L15 : (Nat → Int32)) (M_used_L15 : (Nat → Int32)) (M_sheets_L15 : (Nat → Int32)) (M_nights_L15 : (Nat → Int32)), f_X6_begin_L15  n x1_L15 M_lies_L15 M_list_L15 M_last_L15 M_used_L15 M_sheets_L15 M_nights_L15 kL = some rr → G p l e R s m args below meth c 2 D A H0 0 0 Q [mC cI cZ aM (M_beds, M_law, M_worths, M_sights, M_sight, M_signs, M_pad, M_lies_L15, M_beds, M_list_L15, (nI 0), M_yard, M_last_L15, M_used_L15, M_sheets_L15, M_nights_L15, M_fleasOfGuests, M_fleasOfBeds, M_reason, M_row, M_bestRow, M_image, M_isKept)] 15 [(1, .int x1_L15), (0, .ref (aM 0))] [] := by
    intro kL hkL15 n
    induction n with
    | zero =>
      intro x1_L15 M_lies_L15 M_list_L15 M_last_L15 M_used_L15 M_sheets_L15 M_nights_L15 hf
      rw [f_X6_begin_L15] at hf
      cases hf
    | succ n ihL15 =>
      intro x1_L15 M_lies_L15 M_list_L15 M_last_L15 M_used_L15 M_sheets_L15 M_nights_L15 hf
      rw [f_X6_begin_L15] at hf
      refine gq_iload_n C 0 16 dX6_begin_15 rfl rfl ?_
      refine gq_bipush C (nI 8) 18 dX6_begin_16 (by decide) rfl ?_
      refine gq_icmp_ge C 71 21 dX6_begin_18 (by decide) rfl (fun h18 => ?_) (fun h18 => ?_)
      · replace hf := gq_ifp h18 hf
        exact hkL15 _ _ _ _ _ _ _ hf
      · replace hf := gq_ifn h18 hf
        refine gq_aload_n C 1 22 dX6_begin_21 rfl rfl ?_
        refine gq_get C fo_X6_7 fw_X6_23 0 0 25 rfl rfl rfl dX6_begin_22 rfl ?_
        refine gq_iload_n C 0 26 dX6_begin_25 rfl rfl ?_
        refine gq_bipush C (-6 : Int32) 28 dX6_begin_26 (by decide) rfl ?_
        obtain ⟨h28, hf⟩ := gq_ok hf
        refine gq_iast C 0 4 29 [mC cI cZ aM (M_beds, M_law, M_worths, M_sights, M_sight, M_signs, M_pad, (upd M_lies_L15 x1_L15.toNatClampNeg (-6 : Int32)), M_beds, M_list_L15, (nI 0), M_yard, M_last_L15, M_used_L15, M_sheets_L15, M_nights_L15, M_fleasOfGuests, M_fleasOfBeds, M_reason, M_row, M_bestRow, M_image, M_isKept)] rfl rfl h28 rfl dX6_begin_28 rfl ?_
        refine gq_aload_n C 1 30 dX6_begin_29 rfl rfl ?_
        refine gq_get C fo_X6_9 fw_X6_26 0 0 33 rfl rfl rfl dX6_begin_30 rfl ?_
        refine gq_iload_n C 0 34 dX6_begin_33 rfl rfl ?_
        refine gq_iload_n C 0 35 dX6_begin_34 rfl rfl ?_
        obtain ⟨h35, hf⟩ := gq_ok hf
        refine gq_iast C 0 5 36 [mC cI cZ aM (M_beds, M_law, M_worths, M_sights, M_sight, M_signs, M_pad, (upd M_lies_L15 x1_L15.toNatClampNeg (-6 : Int32)), M_beds, (upd M_list_L15 x1_L15.toNatClampNeg x1_L15), (nI 0), M_yard, M_last_L15, M_used_L15, M_sheets_L15, M_nights_L15, M_fleasOfGuests, M_fleasOfBeds, M_reason, M_row, M_bestRow, M_image, M_isKept)] rfl rfl h35 rfl dX6_begin_35 rfl ?_
        refine gq_aload_n C 1 37 dX6_begin_36 rfl rfl ?_
        refine gq_get C fo_X6_12 fw_X6_32 0 0 40 rfl rfl rfl dX6_begin_37 rfl ?_
        refine gq_iload_n C 0 41 dX6_begin_40 rfl rfl ?_
        refine gq_bipush C (-6 : Int32) 43 dX6_begin_41 (by decide) rfl ?_
        obtain ⟨h43, hf⟩ := gq_ok hf
        refine gq_iast C 0 7 44 [mC cI cZ aM (M_beds, M_law, M_worths, M_sights, M_sight, M_signs, M_pad, (upd M_lies_L15 x1_L15.toNatClampNeg (-6 : Int32)), M_beds, (upd M_list_L15 x1_L15.toNatClampNeg x1_L15), (nI 0), M_yard, (upd M_last_L15 x1_L15.toNatClampNeg (-6 : Int32)), M_used_L15, M_sheets_L15, M_nights_L15, M_fleasOfGuests, M_fleasOfBeds, M_reason, M_row, M_bestRow, M_image, M_isKept)] rfl rfl h43 rfl dX6_begin_43 rfl ?_
        refine gq_aload_n C 1 45 dX6_begin_44 rfl rfl ?_
        refine gq_get C fo_X6_13 fw_X6_35 0 0 48 rfl rfl rfl dX6_begin_45 rfl ?_
        refine gq_iload_n C 0 49 dX6_begin_48 rfl rfl ?_
        refine gq_iconst C (nI 0) 50 dX6_begin_49 (by decide) rfl ?_
        obtain ⟨h50, hf⟩ := gq_ok hf
        refine gq_iast C 0 8 51 [mC cI cZ aM (M_beds, M_law, M_worths, M_sights, M_sight, M_signs, M_pad, (upd M_lies_L15 x1_L15.toNatClampNeg (-6 : Int32)), M_beds, (upd M_list_L15 x1_L15.toNatClampNeg x1_L15), (nI 0), M_yard, (upd M_last_L15 x1_L15.toNatClampNeg (-6 : Int32)), (upd M_used_L15 x1_L15.toNatClampNeg (nI 0)), M_sheets_L15, M_nights_L15, M_fleasOfGuests, M_fleasOfBeds, M_reason, M_row, M_bestRow, M_image, M_isKept)] rfl rfl h50 rfl dX6_begin_50 rfl ?_
        refine gq_aload_n C 1 52 dX6_begin_51 rfl rfl ?_
        refine gq_get C fo_X6_14 fw_X6_38 0 0 55 rfl rfl rfl dX6_begin_52 rfl ?_
        refine gq_iload_n C 0 56 dX6_begin_55 rfl rfl ?_
        refine gq_iconst C (nI 0) 57 dX6_begin_56 (by decide) rfl ?_
        obtain ⟨h57, hf⟩ := gq_ok hf
        refine gq_iast C 0 9 58 [mC cI cZ aM (M_beds, M_law, M_worths, M_sights, M_sight, M_signs, M_pad, (upd M_lies_L15 x1_L15.toNatClampNeg (-6 : Int32)), M_beds, (upd M_list_L15 x1_L15.toNatClampNeg x1_L15), (nI 0), M_yard, (upd M_last_L15 x1_L15.toNatClampNeg (-6 : Int32)), (upd M_used_L15 x1_L15.toNatClampNeg (nI 0)), (upd M_sheets_L15 x1_L15.toNatClampNeg (nI 0)), M_nights_L15, M_fleasOfGuests, M_fleasOfBeds, M_reason, M_row, M_bestRow, M_image, M_isKept)] rfl rfl h57 rfl dX6_begin_57 rfl ?_
        refine gq_aload_n C 1 59 dX6_begin_58 rfl rfl ?_
        refine gq_get C fo_X6_15 fw_X6_41 0 0 62 rfl rfl rfl dX6_begin_59 rfl ?_
        refine gq_iload_n C 0 63 dX6_begin_62 rfl rfl ?_
        refine gq_iconst C (nI 0) 64 dX6_begin_63 (by decide) rfl ?_
        obtain ⟨h64, hf⟩ := gq_ok hf
        refine gq_iast C 0 10 65 [mC cI cZ aM (M_beds, M_law, M_worths, M_sights, M_sight, M_signs, M_pad, (upd M_lies_L15 x1_L15.toNatClampNeg (-6 : Int32)), M_beds, (upd M_list_L15 x1_L15.toNatClampNeg x1_L15), (nI 0), M_yard, (upd M_last_L15 x1_L15.toNatClampNeg (-6 : Int32)), (upd M_used_L15 x1_L15.toNatClampNeg (nI 0)), (upd M_sheets_L15 x1_L15.toNatClampNeg (nI 0)), (upd M_nights_L15 x1_L15.toNatClampNeg (nI 0)), M_fleasOfGuests, M_fleasOfBeds, M_reason, M_row, M_bestRow, M_image, M_isKept)] rfl rfl h64 rfl dX6_begin_64 rfl ?_
        refine gq_iinc C 0 [(1, .int (x1_L15 + (nI 1))), (0, .ref (aM 0))] 68 dX6_begin_65 rfl rfl (by decide) rfl rfl ?_
        refine gq_goto C 15 dX6_begin_68 (by decide) ?_
        exact ihL15 _ _ _ _ _ _ _ hf
  refine L15 _ (fun x1_L15 M_lies_L15 M_list_L15 M_last_L15 M_used_L15 M_sheets_L15 M_nights_L15 hf => ?_) _ _ _ _ _ _ _ _ hf
  obtain rfl := gq_lf hf
  exact hret dX6_begin_71 gPost.rf

def f_X6_bedOf_L5 (c_x1 : Int32) (c_M_beds : Int32) (c_M_lies : (Nat → Int32)) : Nat → Int32 → Int32 → (Int32 → Int32 → Option (Int32)) → Option (Int32)
  | 0, _, _, _ => none
  | nL5 + 1, x2_L5, x3_L5, kL5 => (if c_M_beds ≤ x3_L5 then kL5 x2_L5 x3_L5 else (if x3_L5 < 0 ∨ 8 ≤ x3_L5.toNatClampNeg then none else (if (c_M_lies x3_L5.toNatClampNeg) = c_x1 then f_X6_bedOf_L5 c_x1 c_M_beds c_M_lies nL5 x3_L5 (x3_L5 + (nI 1)) kL5 else f_X6_bedOf_L5 c_x1 c_M_beds c_M_lies nL5 x2_L5 (x3_L5 + (nI 1)) kL5)))
def f_X6_bedOf : Int32 → ModS → Option (Int32)
  | x1, (M_beds, M_law, M_worths, M_sights, M_sight, M_signs, M_pad, M_lies, M_empty, M_list, M_waits, M_yard, M_last, M_used, M_sheets, M_nights, M_fleasOfGuests, M_fleasOfBeds, M_reason, M_row, M_bestRow, M_image, M_isKept) => f_X6_bedOf_L5 x1 M_beds M_lies FU (-6 : Int32) (nI 0) (fun x2_L5 x3_L5 => some x2_L5)
set_option maxHeartbeats 4000000 in
set_option maxRecDepth 100000 in
theorem c_X6_bedOf (l : Launch) (D : va_G) (cI cZ : ClassId) (aM : Nat → Nat) (x1 : Int32) (tM : ModS) (rr : Int32) (hf : f_X6_bedOf x1 tM = some rr) : CT l D cI cZ yX6_bedOf cX6_bedOf 4 (some .int) 0 0 0 0 [.ref (aM 0), .int x1] ([mC cI cZ aM tM]) (gPost (some (.int rr)) ([mC cI cZ aM tM])) := by
  obtain ⟨M_beds, M_law, M_worths, M_sights, M_sight, M_signs, M_pad, M_lies, M_empty, M_list, M_waits, M_yard, M_last, M_used, M_sheets, M_nights, M_fleasOfGuests, M_fleasOfBeds, M_reason, M_row, M_bestRow, M_image, M_isKept⟩ := tM
  rw [f_X6_bedOf] at hf
  refine CT.mkI (by decide) (Nat.le_of_ble_eq_true rfl) fun {p} {e} {R} {s} {m} {args} {below} {meth} {c} {A} {H0} {Q} C hA hR hret => ?_
  show G p l e R s m args below meth c 4 D A H0 0 0 Q [mC cI cZ aM (M_beds, M_law, M_worths, M_sights, M_sight, M_signs, M_pad, M_lies, M_empty, M_list, M_waits, M_yard, M_last, M_used, M_sheets, M_nights, M_fleasOfGuests, M_fleasOfBeds, M_reason, M_row, M_bestRow, M_image, M_isKept)] 0 [(0, .ref (aM 0)), (1, .int x1)] []
  refine gq_bipush C (-6 : Int32) 2 dX6_bedOf_0 (by decide) rfl ?_
  refine gq_istore_n C [(2, .int (-6 : Int32)), (0, .ref (aM 0)), (1, .int x1)] 3 dX6_bedOf_2 (by decide) rfl rfl ?_
  refine gq_iconst C (nI 0) 4 dX6_bedOf_3 (by decide) rfl ?_
  refine gq_istore_n C [(3, .int (nI 0)), (2, .int (-6 : Int32)), (0, .ref (aM 0)), (1, .int x1)] 5 dX6_bedOf_4 (by decide) rfl rfl ?_
  have L5 : ∀ (kL : Int32 → Int32 → Option (Int32)), (∀ (x2_L5 : Int32) (x3_L5 : Int32), kL x2_L5 x3_L5 = some rr → G p l e R s m args below meth c 4 D A H0 0 0 Q [mC cI cZ aM (M_beds, M_law, M_worths, M_sights, M_sight, M_signs, M_pad, M_lies, M_empty, M_list, M_waits, M_yard, M_last, M_used, M_sheets, M_nights, M_fleasOfGuests, M_fleasOfBeds, M_reason, M_row, M_bestRow, M_image, M_isKept)] 35 [(3, .int x3_L5), (2, .int x2_L5), (0, .ref (aM 0)), (1, .int x1)] []) → ∀ (n : Nat) (x2_L5 : Int32) (x3_L5 : Int32), f_X6_bedOf_L5 x1 M_beds M_lies n x2_L5 x3_L5 kL = some rr → G p l e R s m args below meth c 4 D A H0 0 0 Q [mC cI cZ aM (M_beds, M_law, M_worths, M_sights, M_sight, M_signs, M_pad, M_lies, M_empty, M_list, M_waits, M_yard, M_last, M_used, M_sheets, M_nights, M_fleasOfGuests, M_fleasOfBeds, M_reason, M_row, M_bestRow, M_image, M_isKept)] 5 [(3, .int x3_L5), (2, .int x2_L5), (0, .ref (aM 0)), (1, .int x1)] [] := by
    intro kL hkL5 n
    induction n with
    | zero =>
      intro x2_L5 x3_L5 hf
      rw [f_X6_bedOf_L5] at hf
      cases hf
    | succ n ihL5 =>
      intro x2_L5 x3_L5 hf
      rw [f_X6_bedOf_L5] at hf
      refine gq_iload_n C 0 6 dX6_bedOf_5 rfl rfl ?_
      refine gq_aload_n C 2 7 dX6_bedOf_6 rfl rfl ?_
      refine gq_get C fo_X6_0 fw_X6_7 0 0 10 rfl rfl rfl dX6_bedOf_7 rfl ?_
      refine gq_icmp_ge C 35 13 dX6_bedOf_10 (by decide) rfl (fun h10 => ?_) (fun h10 => ?_)
      · replace hf := gq_ifp h10 hf
        exact hkL5 _ _ hf
      · replace hf := gq_ifn h10 hf
        refine gq_aload_n C 2 14 dX6_bedOf_13 rfl rfl ?_
        refine gq_get C fo_X6_7 fw_X6_23 0 0 17 rfl rfl rfl dX6_bedOf_14 rfl ?_
        refine gq_iload_n C 0 18 dX6_bedOf_17 rfl rfl ?_
        obtain ⟨h18, hf⟩ := gq_ok hf
        refine gq_iald C 0 4 19 rfl rfl h18 dX6_bedOf_18 rfl ?_
        refine gq_iload_n C 3 20 dX6_bedOf_19 rfl rfl ?_
        refine gq_icmp_ne C 27 23 dX6_bedOf_20 (by decide) rfl (fun h20 => ?_) (fun h20 => ?_)
        · replace hf := gq_ifn h20 hf
          refine gq_iload_n C 1 28 dX6_bedOf_27 rfl rfl ?_
          refine gq_istore_n C [(2, .int x2_L5), (3, .int x3_L5), (0, .ref (aM 0)), (1, .int x1)] 29 dX6_bedOf_28 (by decide) rfl rfl ?_
          refine gq_iinc C 1 [(3, .int (x3_L5 + (nI 1))), (2, .int x2_L5), (0, .ref (aM 0)), (1, .int x1)] 32 dX6_bedOf_29 rfl rfl (by decide) rfl rfl ?_
          refine gq_goto C 5 dX6_bedOf_32 (by decide) ?_
          exact ihL5 _ _ hf
        · replace hf := gq_ifp h20 hf
          refine gq_iload_n C 0 24 dX6_bedOf_23 rfl rfl ?_
          refine gq_goto C 28 dX6_bedOf_24 (by decide) ?_
          refine gq_istore_n C [(2, .int x3_L5), (3, .int x3_L5), (0, .ref (aM 0)), (1, .int x1)] 29 dX6_bedOf_28 (by decide) rfl rfl ?_
          refine gq_iinc C 1 [(3, .int (x3_L5 + (nI 1))), (2, .int x3_L5), (0, .ref (aM 0)), (1, .int x1)] 32 dX6_bedOf_29 rfl rfl (by decide) rfl rfl ?_
          refine gq_goto C 5 dX6_bedOf_32 (by decide) ?_
          exact ihL5 _ _ hf
  refine L5 _ (fun x2_L5 x3_L5 hf => ?_) _ _ _ hf
  refine gq_iload_n C 1 36 dX6_bedOf_35 rfl rfl ?_
  obtain rfl := gq_lf hf
  exact hret dX6_bedOf_36 gPost.rf

def f_X6_isWaiting_L4 (c_x1 : Int32) (c_M_waits : Int32) (c_M_yard : (Nat → Int32)) : Nat → Int32 → Int32 → (Int32 → Int32 → Option (Int32)) → Option (Int32)
  | 0, _, _, _ => none
  | nL4 + 1, x2_L4, x3_L4, kL4 => (if c_M_waits ≤ x3_L4 then kL4 x2_L4 x3_L4 else (if x2_L4 = 0 then (if x3_L4 < 0 ∨ 64 ≤ x3_L4.toNatClampNeg then none else (if (c_M_yard x3_L4.toNatClampNeg) = c_x1 then f_X6_isWaiting_L4 c_x1 c_M_waits c_M_yard nL4 (nI 1) (x3_L4 + (nI 1)) kL4 else f_X6_isWaiting_L4 c_x1 c_M_waits c_M_yard nL4 (nI 0) (x3_L4 + (nI 1)) kL4)) else f_X6_isWaiting_L4 c_x1 c_M_waits c_M_yard nL4 (nI 1) (x3_L4 + (nI 1)) kL4))
def f_X6_isWaiting : Int32 → ModS → Option (Int32)
  | x1, (M_beds, M_law, M_worths, M_sights, M_sight, M_signs, M_pad, M_lies, M_empty, M_list, M_waits, M_yard, M_last, M_used, M_sheets, M_nights, M_fleasOfGuests, M_fleasOfBeds, M_reason, M_row, M_bestRow, M_image, M_isKept) => f_X6_isWaiting_L4 x1 M_waits M_yard FU (nI 0) (nI 0) (fun x2_L4 x3_L4 => (if x2_L4 = 0 ∨ x2_L4 = 1 then some x2_L4 else none))
set_option maxHeartbeats 4000000 in
set_option maxRecDepth 100000 in
theorem c_X6_isWaiting (l : Launch) (D : va_G) (cI cZ : ClassId) (aM : Nat → Nat) (x1 : Int32) (tM : ModS) (rr : Int32) (hf : f_X6_isWaiting x1 tM = some rr) : CT l D cI cZ yX6_isWaiting cX6_isWaiting 4 (some .boolean) 0 0 0 0 [.ref (aM 0), .int x1] ([mC cI cZ aM tM]) (gPost (some (.int rr)) ([mC cI cZ aM tM])) := by
  obtain ⟨M_beds, M_law, M_worths, M_sights, M_sight, M_signs, M_pad, M_lies, M_empty, M_list, M_waits, M_yard, M_last, M_used, M_sheets, M_nights, M_fleasOfGuests, M_fleasOfBeds, M_reason, M_row, M_bestRow, M_image, M_isKept⟩ := tM
  rw [f_X6_isWaiting] at hf
  refine CT.mkZ (by decide) (Nat.le_of_ble_eq_true rfl) fun {p} {e} {R} {s} {m} {args} {below} {meth} {c} {A} {H0} {Q} C hA hR hret => ?_
  show G p l e R s m args below meth c 4 D A H0 0 0 Q [mC cI cZ aM (M_beds, M_law, M_worths, M_sights, M_sight, M_signs, M_pad, M_lies, M_empty, M_list, M_waits, M_yard, M_last, M_used, M_sheets, M_nights, M_fleasOfGuests, M_fleasOfBeds, M_reason, M_row, M_bestRow, M_image, M_isKept)] 0 [(0, .ref (aM 0)), (1, .int x1)] []
  refine gq_iconst C (nI 0) 1 dX6_isWaiting_0 (by decide) rfl ?_
  refine gq_istore_n C [(2, .int (nI 0)), (0, .ref (aM 0)), (1, .int x1)] 2 dX6_isWaiting_1 (by decide) rfl rfl ?_
  refine gq_iconst C (nI 0) 3 dX6_isWaiting_2 (by decide) rfl ?_
  refine gq_istore_n C [(3, .int (nI 0)), (2, .int (nI 0)), (0, .ref (aM 0)), (1, .int x1)] 4 dX6_isWaiting_3 (by decide) rfl rfl ?_
  have L4 : ∀ (kL : Int32 → Int32 → Option (Int32)), (∀ (x2_L4 : Int32) (x3_L4 : Int32), kL x2_L4 x3_L4 = some rr → G p l e R s m args below meth c 4 D A H0 0 0 Q [mC cI cZ aM (M_beds, M_law, M_worths, M_sights, M_sight, M_signs, M_pad, M_lies, M_empty, M_list, M_waits, M_yard, M_last, M_used, M_sheets, M_nights, M_fleasOfGuests, M_fleasOfBeds, M_reason, M_row, M_bestRow, M_image, M_isKept)] 38 [(3, .int x3_L4), (2, .int x2_L4), (0, .ref (aM 0)), (1, .int x1)] []) → ∀ (n : Nat) (x2_L4 : Int32) (x3_L4 : Int32), f_X6_isWaiting_L4 x1 M_waits M_yard n x2_L4 x3_L4 kL = some rr → G p l e R s m args below meth c 4 D A H0 0 0 Q [mC cI cZ aM (M_beds, M_law, M_worths, M_sights, M_sight, M_signs, M_pad, M_lies, M_empty, M_list, M_waits, M_yard, M_last, M_used, M_sheets, M_nights, M_fleasOfGuests, M_fleasOfBeds, M_reason, M_row, M_bestRow, M_image, M_isKept)] 4 [(3, .int x3_L4), (2, .int x2_L4), (0, .ref (aM 0)), (1, .int x1)] [] := by
    intro kL hkL4 n
    induction n with
    | zero =>
      intro x2_L4 x3_L4 hf
      rw [f_X6_isWaiting_L4] at hf
      cases hf
    | succ n ihL4 =>
      intro x2_L4 x3_L4 hf
      rw [f_X6_isWaiting_L4] at hf
      refine gq_iload_n C 0 5 dX6_isWaiting_4 rfl rfl ?_
      refine gq_aload_n C 2 6 dX6_isWaiting_5 rfl rfl ?_
      refine gq_get C fo_X6_10 fw_X6_84 0 0 9 rfl rfl rfl dX6_isWaiting_6 rfl ?_
      refine gq_icmp_ge C 38 12 dX6_isWaiting_9 (by decide) rfl (fun h9 => ?_) (fun h9 => ?_)
      · replace hf := gq_ifp h9 hf
        exact hkL4 _ _ hf
      · replace hf := gq_ifn h9 hf
        refine gq_iload_n C 1 13 dX6_isWaiting_12 rfl rfl ?_
        refine gq_if_ne C 26 16 dX6_isWaiting_13 (by decide) rfl (fun h13 => ?_) (fun h13 => ?_)
        · replace hf := gq_ifn h13 hf
          refine gq_iconst C (nI 1) 27 dX6_isWaiting_26 (by decide) rfl ?_
          refine gq_goto C 31 dX6_isWaiting_27 (by decide) ?_
          refine gq_istore_n C [(2, .int (nI 1)), (3, .int x3_L4), (0, .ref (aM 0)), (1, .int x1)] 32 dX6_isWaiting_31 (by decide) rfl rfl ?_
          refine gq_iinc C 1 [(3, .int (x3_L4 + (nI 1))), (2, .int (nI 1)), (0, .ref (aM 0)), (1, .int x1)] 35 dX6_isWaiting_32 rfl rfl (by decide) rfl rfl ?_
          refine gq_goto C 4 dX6_isWaiting_35 (by decide) ?_
          exact ihL4 _ _ hf
        · replace hf := gq_ifp h13 hf
          refine gq_aload_n C 2 17 dX6_isWaiting_16 rfl rfl ?_
          refine gq_get C fo_X6_11 fw_X6_29 0 0 20 rfl rfl rfl dX6_isWaiting_17 rfl ?_
          refine gq_iload_n C 0 21 dX6_isWaiting_20 rfl rfl ?_
          obtain ⟨h21, hf⟩ := gq_ok hf
          refine gq_iald C 0 6 22 rfl rfl h21 dX6_isWaiting_21 rfl ?_
          refine gq_iload_n C 3 23 dX6_isWaiting_22 rfl rfl ?_
          refine gq_icmp_ne C 30 26 dX6_isWaiting_23 (by decide) rfl (fun h23 => ?_) (fun h23 => ?_)
          · replace hf := gq_ifn h23 hf
            refine gq_iconst C (nI 0) 31 dX6_isWaiting_30 (by decide) rfl ?_
            refine gq_istore_n C [(2, .int (nI 0)), (3, .int x3_L4), (0, .ref (aM 0)), (1, .int x1)] 32 dX6_isWaiting_31 (by decide) rfl rfl ?_
            refine gq_iinc C 1 [(3, .int (x3_L4 + (nI 1))), (2, .int (nI 0)), (0, .ref (aM 0)), (1, .int x1)] 35 dX6_isWaiting_32 rfl rfl (by decide) rfl rfl ?_
            refine gq_goto C 4 dX6_isWaiting_35 (by decide) ?_
            exact ihL4 _ _ hf
          · replace hf := gq_ifp h23 hf
            refine gq_iconst C (nI 1) 27 dX6_isWaiting_26 (by decide) rfl ?_
            refine gq_goto C 31 dX6_isWaiting_27 (by decide) ?_
            refine gq_istore_n C [(2, .int (nI 1)), (3, .int x3_L4), (0, .ref (aM 0)), (1, .int x1)] 32 dX6_isWaiting_31 (by decide) rfl rfl ?_
            refine gq_iinc C 1 [(3, .int (x3_L4 + (nI 1))), (2, .int (nI 1)), (0, .ref (aM 0)), (1, .int x1)] 35 dX6_isWaiting_32 rfl rfl (by decide) rfl rfl ?_
            refine gq_goto C 4 dX6_isWaiting_35 (by decide) ?_
            exact ihL4 _ _ hf
  refine L4 _ (fun x2_L4 x3_L4 hf => ?_) _ _ _ hf
  refine gq_iload_n C 1 39 dX6_isWaiting_38 rfl rfl ?_
  obtain ⟨hb, hf⟩ := gq_gd hf
  obtain rfl := gq_lf hf
  exact hret dX6_isWaiting_39 (gq_bool hb) gPost.rf

def f_X6_isThere : Int32 → ModS → Option (Int32)
  | x1, (M_beds, M_law, M_worths, M_sights, M_sight, M_signs, M_pad, M_lies, M_empty, M_list, M_waits, M_yard, M_last, M_used, M_sheets, M_nights, M_fleasOfGuests, M_fleasOfBeds, M_reason, M_row, M_bestRow, M_image, M_isKept) => (Option.bind (f_X6_bedOf x1 (M_beds, M_law, M_worths, M_sights, M_sight, M_signs, M_pad, M_lies, M_empty, M_list, M_waits, M_yard, M_last, M_used, M_sheets, M_nights, M_fleasOfGuests, M_fleasOfBeds, M_reason, M_row, M_bestRow, M_image, M_isKept)) (fun r_2 => (if 0 ≤ r_2 then some (nI 1) else (Option.bind (f_X6_isWaiting x1 (M_beds, M_law, M_worths, M_sights, M_sight, M_signs, M_pad, M_lies, M_empty, M_list, M_waits, M_yard, M_last, M_used, M_sheets, M_nights, M_fleasOfGuests, M_fleasOfBeds, M_reason, M_row, M_bestRow, M_image, M_isKept)) (fun r_10 => (if r_10 = 0 then some (nI 0) else some (nI 1)))))))
set_option maxHeartbeats 4000000 in
set_option maxRecDepth 100000 in
theorem c_X6_isThere (l : Launch) (D : va_G) (cI cZ : ClassId) (aM : Nat → Nat) (x1 : Int32) (tM : ModS) (rr : Int32) (hf : f_X6_isThere x1 tM = some rr) : CT l D cI cZ yX6_isThere cX6_isThere 2 (some .boolean) 1 23 0 0 [.ref (aM 0), .int x1] ([mC cI cZ aM tM]) (gPost (some (.int rr)) ([mC cI cZ aM tM])) := by
  obtain ⟨M_beds, M_law, M_worths, M_sights, M_sight, M_signs, M_pad, M_lies, M_empty, M_list, M_waits, M_yard, M_last, M_used, M_sheets, M_nights, M_fleasOfGuests, M_fleasOfBeds, M_reason, M_row, M_bestRow, M_image, M_isKept⟩ := tM
  rw [f_X6_isThere] at hf
  refine CT.mkZ (by decide) (Nat.le_of_ble_eq_true rfl) fun {p} {e} {R} {s} {m} {args} {below} {meth} {c} {A} {H0} {Q} C hA hR hret => ?_
  show G p l e R s m args below meth c 2 D A H0 0 0 Q [mC cI cZ aM (M_beds, M_law, M_worths, M_sights, M_sight, M_signs, M_pad, M_lies, M_empty, M_list, M_waits, M_yard, M_last, M_used, M_sheets, M_nights, M_fleasOfGuests, M_fleasOfBeds, M_reason, M_row, M_bestRow, M_image, M_isKept)] 0 [(0, .ref (aM 0)), (1, .int x1)] []
  refine gq_aload_n C 0 1 dX6_isThere_0 rfl rfl ?_
  refine gq_iload_n C 1 2 dX6_isThere_1 rfl rfl ?_
  obtain ⟨r_2, hc, hf⟩ := gq_bd hf
  refine gq_callV C hA gm_X6_87 (c_X6_bedOf l D cI cZ aM x1 (M_beds, M_law, M_worths, M_sights, M_sight, M_signs, M_pad, M_lies, M_empty, M_list, M_waits, M_yard, M_last, M_used, M_sheets, M_nights, M_fleasOfGuests, M_fleasOfBeds, M_reason, M_row, M_bestRow, M_image, M_isKept) _ hc) rfl 0 0 rfl rfl rfl ⟨Nat.le_trans (Nat.le_of_ble_eq_true rfl) hR.1, Nat.le_trans (Nat.le_of_ble_eq_true rfl) hR.2.1⟩ ⟨Nat.zero_le _, Nat.zero_le _⟩ rfl (Nat.le_of_ble_eq_true rfl) dX6_isThere_2 [0] [mC cI cZ aM (M_beds, M_law, M_worths, M_sights, M_sight, M_signs, M_pad, M_lies, M_empty, M_list, M_waits, M_yard, M_last, M_used, M_sheets, M_nights, M_fleasOfGuests, M_fleasOfBeds, M_reason, M_row, M_bestRow, M_image, M_isKept)] 5 rfl (by decide) rfl rfl rfl [.int r_2] rfl ?_
  refine gq_if_ge C 16 8 dX6_isThere_5 (by decide) rfl (fun h5 => ?_) (fun h5 => ?_)
  · replace hf := gq_ifp h5 hf
    refine gq_iconst C (nI 1) 17 dX6_isThere_16 (by decide) rfl ?_
    refine gq_goto C 21 dX6_isThere_17 (by decide) ?_
    obtain rfl := gq_lf hf
    exact hret dX6_isThere_21 rfl gPost.rf
  · replace hf := gq_ifn h5 hf
    refine gq_aload_n C 0 9 dX6_isThere_8 rfl rfl ?_
    refine gq_iload_n C 1 10 dX6_isThere_9 rfl rfl ?_
    obtain ⟨r_10, hc, hf⟩ := gq_bd hf
    refine gq_callV C hA gm_X6_91 (c_X6_isWaiting l D cI cZ aM x1 (M_beds, M_law, M_worths, M_sights, M_sight, M_signs, M_pad, M_lies, M_empty, M_list, M_waits, M_yard, M_last, M_used, M_sheets, M_nights, M_fleasOfGuests, M_fleasOfBeds, M_reason, M_row, M_bestRow, M_image, M_isKept) _ hc) rfl 0 0 rfl rfl rfl ⟨Nat.le_trans (Nat.le_of_ble_eq_true rfl) hR.1, Nat.le_trans (Nat.le_of_ble_eq_true rfl) hR.2.1⟩ ⟨Nat.zero_le _, Nat.zero_le _⟩ rfl (Nat.le_of_ble_eq_true rfl) dX6_isThere_10 [0] [mC cI cZ aM (M_beds, M_law, M_worths, M_sights, M_sight, M_signs, M_pad, M_lies, M_empty, M_list, M_waits, M_yard, M_last, M_used, M_sheets, M_nights, M_fleasOfGuests, M_fleasOfBeds, M_reason, M_row, M_bestRow, M_image, M_isKept)] 13 rfl (by decide) rfl rfl rfl [.int r_10] rfl ?_
    refine gq_if_eq C 20 16 dX6_isThere_13 (by decide) rfl (fun h13 => ?_) (fun h13 => ?_)
    · replace hf := gq_ifp h13 hf
      refine gq_iconst C (nI 0) 21 dX6_isThere_20 (by decide) rfl ?_
      obtain rfl := gq_lf hf
      exact hret dX6_isThere_21 rfl gPost.rf
    · replace hf := gq_ifn h13 hf
      refine gq_iconst C (nI 1) 17 dX6_isThere_16 (by decide) rfl ?_
      refine gq_goto C 21 dX6_isThere_17 (by decide) ?_
      obtain rfl := gq_lf hf
      exact hret dX6_isThere_21 rfl gPost.rf

def f_X6_take : Int32 → Int32 → ModS → Option (ModS)
  | x1, x2, (M_beds, M_law, M_worths, M_sights, M_sight, M_signs, M_pad, M_lies, M_empty, M_list, M_waits, M_yard, M_last, M_used, M_sheets, M_nights, M_fleasOfGuests, M_fleasOfBeds, M_reason, M_row, M_bestRow, M_image, M_isKept) => (if x1 < 0 ∨ 8 ≤ x1.toNatClampNeg then none else (if x1 < 0 ∨ 8 ≤ x1.toNatClampNeg then none else (if x1 < 0 ∨ 8 ≤ x1.toNatClampNeg then none else (if x1 < 0 ∨ 8 ≤ x1.toNatClampNeg then none else (if x1 < 0 ∨ 8 ≤ x1.toNatClampNeg then none else gJn (fun (z0_J39 : Int32) => (if x1 < 0 ∨ 8 ≤ x1.toNatClampNeg then none else (if x1 < 0 ∨ 8 ≤ x1.toNatClampNeg then none else some (M_beds, M_law, M_worths, M_sights, M_sight, M_signs, M_pad, (upd M_lies x1.toNatClampNeg x2), M_empty, M_list, M_waits, M_yard, (upd M_last x1.toNatClampNeg x2), (upd M_used x1.toNatClampNeg ((M_used x1.toNatClampNeg) + (nI 1))), (upd M_sheets x1.toNatClampNeg ((M_sheets x1.toNatClampNeg) + z0_J39)), M_nights, M_fleasOfGuests, M_fleasOfBeds, M_reason, M_row, M_bestRow, M_image, M_isKept)))) (fun kJ39 => (if (M_last x1.toNatClampNeg) = x2 then kJ39 (nI 0) else kJ39 (nI 1))))))))
set_option maxHeartbeats 4000000 in
set_option maxRecDepth 100000 in
theorem c_X6_take (l : Launch) (D : va_G) (cI cZ : ClassId) (aM : Nat → Nat) (x1 : Int32) (x2 : Int32) (tM : ModS) (rr : ModS) (hf : f_X6_take x1 x2 tM = some rr) : CT l D cI cZ yX6_take cX6_take 3 none 0 0 0 0 [.ref (aM 0), .int x1, .int x2] ([mC cI cZ aM tM]) (gPost none ([mC cI cZ aM rr])) := by
  obtain ⟨M_beds, M_law, M_worths, M_sights, M_sight, M_signs, M_pad, M_lies, M_empty, M_list, M_waits, M_yard, M_last, M_used, M_sheets, M_nights, M_fleasOfGuests, M_fleasOfBeds, M_reason, M_row, M_bestRow, M_image, M_isKept⟩ := tM
  rw [f_X6_take] at hf
  refine CT.mkV (by decide) (Nat.le_of_ble_eq_true rfl) fun {p} {e} {R} {s} {m} {args} {below} {meth} {c} {A} {H0} {Q} C hA hR hnm hret => ?_
  show G p l e R s m args below meth c 3 D A H0 0 0 Q [mC cI cZ aM (M_beds, M_law, M_worths, M_sights, M_sight, M_signs, M_pad, M_lies, M_empty, M_list, M_waits, M_yard, M_last, M_used, M_sheets, M_nights, M_fleasOfGuests, M_fleasOfBeds, M_reason, M_row, M_bestRow, M_image, M_isKept)] 0 [(0, .ref (aM 0)), (1, .int x1), (2, .int x2)] []
  refine gq_aload_n C 0 1 dX6_take_0 rfl rfl ?_
  refine gq_get C fo_X6_7 fw_X6_23 0 0 4 rfl rfl rfl dX6_take_1 rfl ?_
  refine gq_iload_n C 1 5 dX6_take_4 rfl rfl ?_
  refine gq_iload_n C 2 6 dX6_take_5 rfl rfl ?_
  obtain ⟨h6, hf⟩ := gq_ok hf
  refine gq_iast C 0 4 7 [mC cI cZ aM (M_beds, M_law, M_worths, M_sights, M_sight, M_signs, M_pad, (upd M_lies x1.toNatClampNeg x2), M_empty, M_list, M_waits, M_yard, M_last, M_used, M_sheets, M_nights, M_fleasOfGuests, M_fleasOfBeds, M_reason, M_row, M_bestRow, M_image, M_isKept)] rfl rfl h6 rfl dX6_take_6 rfl ?_
  refine gq_aload_n C 0 8 dX6_take_7 rfl rfl ?_
  refine gq_get C fo_X6_13 fw_X6_35 0 0 11 rfl rfl rfl dX6_take_8 rfl ?_
  refine gq_iload_n C 1 12 dX6_take_11 rfl rfl ?_
  refine gq_dup2 C 13 dX6_take_12 rfl rfl rfl ?_
  obtain ⟨h13, hf⟩ := gq_ok hf
  refine gq_iald C 0 8 14 rfl rfl h13 dX6_take_13 rfl ?_
  refine gq_iconst C (nI 1) 15 dX6_take_14 (by decide) rfl ?_
  refine gq_iadd C 16 dX6_take_15 rfl ?_
  obtain ⟨h16, hf⟩ := gq_ok hf
  refine gq_iast C 0 8 17 [mC cI cZ aM (M_beds, M_law, M_worths, M_sights, M_sight, M_signs, M_pad, (upd M_lies x1.toNatClampNeg x2), M_empty, M_list, M_waits, M_yard, M_last, (upd M_used x1.toNatClampNeg ((M_used x1.toNatClampNeg) + (nI 1))), M_sheets, M_nights, M_fleasOfGuests, M_fleasOfBeds, M_reason, M_row, M_bestRow, M_image, M_isKept)] rfl rfl h16 rfl dX6_take_16 rfl ?_
  refine gq_aload_n C 0 18 dX6_take_17 rfl rfl ?_
  refine gq_get C fo_X6_14 fw_X6_38 0 0 21 rfl rfl rfl dX6_take_18 rfl ?_
  refine gq_iload_n C 1 22 dX6_take_21 rfl rfl ?_
  refine gq_dup2 C 23 dX6_take_22 rfl rfl rfl ?_
  obtain ⟨h23, hf⟩ := gq_ok hf
  refine gq_iald C 0 9 24 rfl rfl h23 dX6_take_23 rfl ?_
  refine gq_aload_n C 0 25 dX6_take_24 rfl rfl ?_
  refine gq_get C fo_X6_12 fw_X6_32 0 0 28 rfl rfl rfl dX6_take_25 rfl ?_
  refine gq_iload_n C 1 29 dX6_take_28 rfl rfl ?_
  obtain ⟨h29, hf⟩ := gq_ok hf
  refine gq_iald C 0 7 30 rfl rfl h29 dX6_take_29 rfl ?_
  refine gq_iload_n C 2 31 dX6_take_30 rfl rfl ?_
  refine gq_jn (P := fun k => ∀ (z0_J39 : Int32), k z0_J39 = some rr → G p l e R s m args below meth c 3 D A H0 0 0 Q [mC cI cZ aM (M_beds, M_law, M_worths, M_sights, M_sight, M_signs, M_pad, (upd M_lies x1.toNatClampNeg x2), M_empty, M_list, M_waits, M_yard, M_last, (upd M_used x1.toNatClampNeg ((M_used x1.toNatClampNeg) + (nI 1))), M_sheets, M_nights, M_fleasOfGuests, M_fleasOfBeds, M_reason, M_row, M_bestRow, M_image, M_isKept)] 39 [(0, .ref (aM 0)), (1, .int x1), (2, .int x2)] [.int z0_J39, .int (M_sheets x1.toNatClampNeg), .int x1, .ref (aM 9)]) hf (fun z0_J39 hf => ?_) (fun kJ39 hJ39 hf => ?_)
  · refine gq_iadd C 40 dX6_take_39 rfl ?_
    obtain ⟨h40, hf⟩ := gq_ok hf
    refine gq_iast C 0 9 41 [mC cI cZ aM (M_beds, M_law, M_worths, M_sights, M_sight, M_signs, M_pad, (upd M_lies x1.toNatClampNeg x2), M_empty, M_list, M_waits, M_yard, M_last, (upd M_used x1.toNatClampNeg ((M_used x1.toNatClampNeg) + (nI 1))), (upd M_sheets x1.toNatClampNeg ((M_sheets x1.toNatClampNeg) + z0_J39)), M_nights, M_fleasOfGuests, M_fleasOfBeds, M_reason, M_row, M_bestRow, M_image, M_isKept)] rfl rfl h40 rfl dX6_take_40 rfl ?_
    refine gq_aload_n C 0 42 dX6_take_41 rfl rfl ?_
    refine gq_get C fo_X6_12 fw_X6_32 0 0 45 rfl rfl rfl dX6_take_42 rfl ?_
    refine gq_iload_n C 1 46 dX6_take_45 rfl rfl ?_
    refine gq_iload_n C 2 47 dX6_take_46 rfl rfl ?_
    obtain ⟨h47, hf⟩ := gq_ok hf
    refine gq_iast C 0 7 48 [mC cI cZ aM (M_beds, M_law, M_worths, M_sights, M_sight, M_signs, M_pad, (upd M_lies x1.toNatClampNeg x2), M_empty, M_list, M_waits, M_yard, (upd M_last x1.toNatClampNeg x2), (upd M_used x1.toNatClampNeg ((M_used x1.toNatClampNeg) + (nI 1))), (upd M_sheets x1.toNatClampNeg ((M_sheets x1.toNatClampNeg) + z0_J39)), M_nights, M_fleasOfGuests, M_fleasOfBeds, M_reason, M_row, M_bestRow, M_image, M_isKept)] rfl rfl h47 rfl dX6_take_47 rfl ?_
    obtain rfl := gq_lf hf
    exact hret dX6_take_48 gPost.rf
  · refine gq_icmp_ne C 38 34 dX6_take_31 (by decide) rfl (fun h31 => ?_) (fun h31 => ?_)
    · replace hf := gq_ifn h31 hf
      refine gq_iconst C (nI 1) 39 dX6_take_38 (by decide) rfl ?_
      exact hJ39 _ hf
    · replace hf := gq_ifp h31 hf
      refine gq_iconst C (nI 0) 35 dX6_take_34 (by decide) rfl ?_
      refine gq_goto C 39 dX6_take_35 (by decide) ?_
      exact hJ39 _ hf

def f_X6_worthTo : Int32 → Int32 → ModS → Option (Int32)
  | x1, x2, (M_beds, M_law, M_worths, M_sights, M_sight, M_signs, M_pad, M_lies, M_empty, M_list, M_waits, M_yard, M_last, M_used, M_sheets, M_nights, M_fleasOfGuests, M_fleasOfBeds, M_reason, M_row, M_bestRow, M_image, M_isKept) => (if (nI 8) ≤ x1 then some (nI 0) else (if (((nI 8) * x1) + x2) < 0 ∨ 64 ≤ (((nI 8) * x1) + x2).toNatClampNeg then none else some (M_worths (((nI 8) * x1) + x2).toNatClampNeg)))
set_option maxHeartbeats 4000000 in
set_option maxRecDepth 100000 in
theorem c_X6_worthTo (l : Launch) (D : va_G) (cI cZ : ClassId) (aM : Nat → Nat) (x1 : Int32) (x2 : Int32) (tM : ModS) (rr : Int32) (hf : f_X6_worthTo x1 x2 tM = some rr) : CT l D cI cZ yX6_worthTo cX6_worthTo 3 (some .int) 0 0 0 0 [.ref (aM 0), .int x1, .int x2] ([mC cI cZ aM tM]) (gPost (some (.int rr)) ([mC cI cZ aM tM])) := by
  obtain ⟨M_beds, M_law, M_worths, M_sights, M_sight, M_signs, M_pad, M_lies, M_empty, M_list, M_waits, M_yard, M_last, M_used, M_sheets, M_nights, M_fleasOfGuests, M_fleasOfBeds, M_reason, M_row, M_bestRow, M_image, M_isKept⟩ := tM
  rw [f_X6_worthTo] at hf
  refine CT.mkI (by decide) (Nat.le_of_ble_eq_true rfl) fun {p} {e} {R} {s} {m} {args} {below} {meth} {c} {A} {H0} {Q} C hA hR hret => ?_
  show G p l e R s m args below meth c 3 D A H0 0 0 Q [mC cI cZ aM (M_beds, M_law, M_worths, M_sights, M_sight, M_signs, M_pad, M_lies, M_empty, M_list, M_waits, M_yard, M_last, M_used, M_sheets, M_nights, M_fleasOfGuests, M_fleasOfBeds, M_reason, M_row, M_bestRow, M_image, M_isKept)] 0 [(0, .ref (aM 0)), (1, .int x1), (2, .int x2)] []
  refine gq_iload_n C 1 1 dX6_worthTo_0 rfl rfl ?_
  refine gq_bipush C (nI 8) 3 dX6_worthTo_1 (by decide) rfl ?_
  refine gq_icmp_ge C 20 6 dX6_worthTo_3 (by decide) rfl (fun h3 => ?_) (fun h3 => ?_)
  · replace hf := gq_ifp h3 hf
    refine gq_iconst C (nI 0) 21 dX6_worthTo_20 (by decide) rfl ?_
    obtain rfl := gq_lf hf
    exact hret dX6_worthTo_21 gPost.rf
  · replace hf := gq_ifn h3 hf
    refine gq_aload_n C 0 7 dX6_worthTo_6 rfl rfl ?_
    refine gq_get C fo_X6_2 fw_X6_13 0 0 10 rfl rfl rfl dX6_worthTo_7 rfl ?_
    refine gq_bipush C (nI 8) 12 dX6_worthTo_10 (by decide) rfl ?_
    refine gq_iload_n C 1 13 dX6_worthTo_12 rfl rfl ?_
    refine gq_imul C 14 dX6_worthTo_13 rfl ?_
    refine gq_iload_n C 2 15 dX6_worthTo_14 rfl rfl ?_
    refine gq_iadd C 16 dX6_worthTo_15 rfl ?_
    obtain ⟨h16, hf⟩ := gq_ok hf
    refine gq_iald C 0 1 17 rfl rfl h16 dX6_worthTo_16 rfl ?_
    refine gq_goto C 21 dX6_worthTo_17 (by decide) ?_
    obtain rfl := gq_lf hf
    exact hret dX6_worthTo_21 gPost.rf

def f_X6_chosen_L20 (c_x1 : Int32) (c_M_beds : Int32) (c_M_law : Int32) (c_M_worths : (Nat → Int32)) (c_M_sights : Int32) (c_M_sight : (Nat → Int32)) (c_M_signs : Int32) (c_M_pad : (Nat → Int32)) (c_M_lies : (Nat → Int32)) (c_M_empty : Int32) (c_M_list : (Nat → Int32)) (c_M_waits : Int32) (c_M_yard : (Nat → Int32)) (c_M_last : (Nat → Int32)) (c_M_used : (Nat → Int32)) (c_M_sheets : (Nat → Int32)) (c_M_nights : (Nat → Int32)) (c_M_fleasOfGuests : Int32) (c_M_fleasOfBeds : Int32) (c_M_reason : Int32) (c_M_row : (Nat → Int32)) (c_M_bestRow : (Nat → Int32)) (c_M_image : (Nat → Int32)) (c_M_isKept : (Nat → Int32)) : Nat → Int32 → Int32 → (Int32 → Int32 → Option (Int32)) → Option (Int32)
  | 0, _, _, _ => none
  | nL20 + 1, x2_L20, x3_L20, kL20 => (if c_M_empty ≤ x3_L20 then kL20 x2_L20 x3_L20 else (if c_M_law ≤ (nI 1) then kL20 x2_L20 x3_L20 else gJn (fun (z0_J97 : Int32) => (if z0_J97 = 0 then f_X6_chosen_L20 c_x1 c_M_beds c_M_law c_M_worths c_M_sights c_M_sight c_M_signs c_M_pad c_M_lies c_M_empty c_M_list c_M_waits c_M_yard c_M_last c_M_used c_M_sheets c_M_nights c_M_fleasOfGuests c_M_fleasOfBeds c_M_reason c_M_row c_M_bestRow c_M_image c_M_isKept nL20 x2_L20 (x3_L20 + (nI 1)) kL20 else f_X6_chosen_L20 c_x1 c_M_beds c_M_law c_M_worths c_M_sights c_M_sight c_M_signs c_M_pad c_M_lies c_M_empty c_M_list c_M_waits c_M_yard c_M_last c_M_used c_M_sheets c_M_nights c_M_fleasOfGuests c_M_fleasOfBeds c_M_reason c_M_row c_M_bestRow c_M_image c_M_isKept nL20 x3_L20 (x3_L20 + (nI 1)) kL20)) (fun kJ97 => (if c_M_law = (nI 2) then (if x3_L20 < 0 ∨ 8 ≤ x3_L20.toNatClampNeg then none else (if x2_L20 < 0 ∨ 8 ≤ x2_L20.toNatClampNeg then none else (if (c_M_list x2_L20.toNatClampNeg) ≤ (c_M_list x3_L20.toNatClampNeg) then kJ97 (nI 0) else kJ97 (nI 1)))) else (if x3_L20 < 0 ∨ 8 ≤ x3_L20.toNatClampNeg then none else (Option.bind (f_X6_worthTo c_x1 (c_M_list x3_L20.toNatClampNeg) (c_M_beds, c_M_law, c_M_worths, c_M_sights, c_M_sight, c_M_signs, c_M_pad, c_M_lies, c_M_empty, c_M_list, c_M_waits, c_M_yard, c_M_last, c_M_used, c_M_sheets, c_M_nights, c_M_fleasOfGuests, c_M_fleasOfBeds, c_M_reason, c_M_row, c_M_bestRow, c_M_image, c_M_isKept)) (fun r_75 => (if x2_L20 < 0 ∨ 8 ≤ x2_L20.toNatClampNeg then none else (Option.bind (f_X6_worthTo c_x1 (c_M_list x2_L20.toNatClampNeg) (c_M_beds, c_M_law, c_M_worths, c_M_sights, c_M_sight, c_M_signs, c_M_pad, c_M_lies, c_M_empty, c_M_list, c_M_waits, c_M_yard, c_M_last, c_M_used, c_M_sheets, c_M_nights, c_M_fleasOfGuests, c_M_fleasOfBeds, c_M_reason, c_M_row, c_M_bestRow, c_M_image, c_M_isKept)) (fun r_86 => (if r_75 < r_86 then kJ97 (nI 0) else kJ97 (nI 1))))))))))))
def f_X6_chosen : Int32 → ModS → Option (Int32)
  | x1, (M_beds, M_law, M_worths, M_sights, M_sight, M_signs, M_pad, M_lies, M_empty, M_list, M_waits, M_yard, M_last, M_used, M_sheets, M_nights, M_fleasOfGuests, M_fleasOfBeds, M_reason, M_row, M_bestRow, M_image, M_isKept) => gJn (fun (z0_J17 : Int32) => f_X6_chosen_L20 x1 M_beds M_law M_worths M_sights M_sight M_signs M_pad M_lies M_empty M_list M_waits M_yard M_last M_used M_sheets M_nights M_fleasOfGuests M_fleasOfBeds M_reason M_row M_bestRow M_image M_isKept FU z0_J17 (nI 1) (fun x2_L20 x3_L20 => some x2_L20)) (fun kJ17 => (if M_law = 0 then kJ17 (M_empty - (nI 1)) else kJ17 (nI 0)))
set_option maxHeartbeats 4000000 in
set_option maxRecDepth 100000 in
theorem c_X6_chosen (l : Launch) (D : va_G) (cI cZ : ClassId) (aM : Nat → Nat) (x1 : Int32) (tM : ModS) (rr : Int32) (hf : f_X6_chosen x1 tM = some rr) : CT l D cI cZ yX6_chosen cX6_chosen 5 (some .int) 1 22 0 0 [.ref (aM 0), .int x1] ([mC cI cZ aM tM]) (gPost (some (.int rr)) ([mC cI cZ aM tM])) := by
  obtain ⟨M_beds, M_law, M_worths, M_sights, M_sight, M_signs, M_pad, M_lies, M_empty, M_list, M_waits, M_yard, M_last, M_used, M_sheets, M_nights, M_fleasOfGuests, M_fleasOfBeds, M_reason, M_row, M_bestRow, M_image, M_isKept⟩ := tM
  rw [f_X6_chosen] at hf
  refine CT.mkI (by decide) (Nat.le_of_ble_eq_true rfl) fun {p} {e} {R} {s} {m} {args} {below} {meth} {c} {A} {H0} {Q} C hA hR hret => ?_
  show G p l e R s m args below meth c 5 D A H0 0 0 Q [mC cI cZ aM (M_beds, M_law, M_worths, M_sights, M_sight, M_signs, M_pad, M_lies, M_empty, M_list, M_waits, M_yard, M_last, M_used, M_sheets, M_nights, M_fleasOfGuests, M_fleasOfBeds, M_reason, M_row, M_bestRow, M_image, M_isKept)] 0 [(0, .ref (aM 0)), (1, .int x1)] []
  refine gq_aload_n C 0 1 dX6_chosen_0 rfl rfl ?_
  refine gq_get C fo_X6_1 fw_X6_57 0 0 4 rfl rfl rfl dX6_chosen_1 rfl ?_
  refine gq_jn (P := fun k => ∀ (z0_J17 : Int32), k z0_J17 = some rr → G p l e R s m args below meth c 5 D A H0 0 0 Q [mC cI cZ aM (M_beds, M_law, M_worths, M_sights, M_sight, M_signs, M_pad, M_lies, M_empty, M_list, M_waits, M_yard, M_last, M_used, M_sheets, M_nights, M_fleasOfGuests, M_fleasOfBeds, M_reason, M_row, M_bestRow, M_image, M_isKept)] 17 [(0, .ref (aM 0)), (1, .int x1)] [.int z0_J17]) hf (fun z0_J17 hf => ?_) (fun kJ17 hJ17 hf => ?_)
  · refine gq_istore_n C [(2, .int z0_J17), (0, .ref (aM 0)), (1, .int x1)] 18 dX6_chosen_17 (by decide) rfl rfl ?_
    refine gq_iconst C (nI 1) 19 dX6_chosen_18 (by decide) rfl ?_
    refine gq_istore_n C [(3, .int (nI 1)), (2, .int z0_J17), (0, .ref (aM 0)), (1, .int x1)] 20 dX6_chosen_19 (by decide) rfl rfl ?_
    have L20 : ∀ (kL : Int32 → Int32 → Option (Int32)), (∀ (x2_L20 : Int32) (x3_L20 : Int32), kL x2_L20 x3_L20 = some rr → G p l e R s m args below meth c 5 D A H0 0 0 Q [mC cI cZ aM (M_beds, M_law, M_worths, M_sights, M_sight, M_signs, M_pad, M_lies, M_empty, M_list, M_waits, M_yard, M_last, M_used, M_sheets, M_nights, M_fleasOfGuests, M_fleasOfBeds, M_reason, M_row, M_bestRow, M_image, M_isKept)] 116 [(3, .int x3_L20), (2, .int x2_L20), (0, .ref (aM 0)), (1, .int x1)] []) → ∀ (n : Nat) (x2_L20 : Int32) (x3_L20 : Int32), f_X6_chosen_L20 x1 M_beds M_law M_worths M_sights M_sight M_signs M_pad M_lies M_empty M_list M_waits M_yard M_last M_used M_sheets M_nights M_fleasOfGuests M_fleasOfBeds M_reason M_row M_bestRow M_image M_isKept n x2_L20 x3_L20 kL = some rr → G p l e R s m args below meth c 5 D A H0 0 0 Q [mC cI cZ aM (M_beds, M_law, M_worths, M_sights, M_sight, M_signs, M_pad, M_lies, M_empty, M_list, M_waits, M_yard, M_last, M_used, M_sheets, M_nights, M_fleasOfGuests, M_fleasOfBeds, M_reason, M_row, M_bestRow, M_image, M_isKept)] 20 [(3, .int x3_L20), (2, .int x2_L20), (0, .ref (aM 0)), (1, .int x1)] [] := by
      intro kL hkL20 n
      induction n with
      | zero =>
        intro x2_L20 x3_L20 hf
        rw [f_X6_chosen_L20] at hf
        cases hf
      | succ n ihL20 =>
        intro x2_L20 x3_L20 hf
        rw [f_X6_chosen_L20] at hf
        refine gq_iload_n C 0 21 dX6_chosen_20 rfl rfl ?_
        refine gq_aload_n C 2 22 dX6_chosen_21 rfl rfl ?_
        refine gq_get C fo_X6_8 fw_X6_81 0 0 25 rfl rfl rfl dX6_chosen_22 rfl ?_
        refine gq_icmp_ge C 116 28 dX6_chosen_25 (by decide) rfl (fun h25 => ?_) (fun h25 => ?_)
        · replace hf := gq_ifp h25 hf
          exact hkL20 _ _ hf
        · replace hf := gq_ifn h25 hf
          refine gq_aload_n C 2 29 dX6_chosen_28 rfl rfl ?_
          refine gq_get C fo_X6_1 fw_X6_57 0 0 32 rfl rfl rfl dX6_chosen_29 rfl ?_
          refine gq_iconst C (nI 1) 33 dX6_chosen_32 (by decide) rfl ?_
          refine gq_icmp_le C 116 36 dX6_chosen_33 (by decide) rfl (fun h33 => ?_) (fun h33 => ?_)
          · replace hf := gq_ifp h33 hf
            exact hkL20 _ _ hf
          · replace hf := gq_ifn h33 hf
            refine gq_aload_n C 2 37 dX6_chosen_36 rfl rfl ?_
            refine gq_get C fo_X6_1 fw_X6_57 0 0 40 rfl rfl rfl dX6_chosen_37 rfl ?_
            refine gq_iconst C (nI 2) 41 dX6_chosen_40 (by decide) rfl ?_
            refine gq_jn (P := fun k => ∀ (z0_J97 : Int32), k z0_J97 = some rr → G p l e R s m args below meth c 5 D A H0 0 0 Q [mC cI cZ aM (M_beds, M_law, M_worths, M_sights, M_sight, M_signs, M_pad, M_lies, M_empty, M_list, M_waits, M_yard, M_last, M_used, M_sheets, M_nights, M_fleasOfGuests, M_fleasOfBeds, M_reason, M_row, M_bestRow, M_image, M_isKept)] 97 [(3, .int x3_L20), (2, .int x2_L20), (0, .ref (aM 0)), (1, .int x1)] [.int z0_J97]) hf (fun z0_J97 hf => ?_) (fun kJ97 hJ97 hf => ?_)
            · refine gq_istore C [(4, .int z0_J97), (3, .int x3_L20), (2, .int x2_L20), (0, .ref (aM 0)), (1, .int x1)] 99 dX6_chosen_97 (by decide) rfl rfl ?_
              refine gq_iload C 0 101 dX6_chosen_99 rfl rfl ?_
              refine gq_if_eq C 108 104 dX6_chosen_101 (by decide) rfl (fun h101 => ?_) (fun h101 => ?_)
              · replace hf := gq_ifp h101 hf
                refine gq_iload_n C 2 109 dX6_chosen_108 rfl rfl ?_
                refine gq_istore_n C [(2, .int x2_L20), (4, .int z0_J97), (3, .int x3_L20), (0, .ref (aM 0)), (1, .int x1)] 110 dX6_chosen_109 (by decide) rfl rfl ?_
                refine gq_iinc C 2 [(3, .int (x3_L20 + (nI 1))), (2, .int x2_L20), (4, .int z0_J97), (0, .ref (aM 0)), (1, .int x1)] 113 dX6_chosen_110 rfl rfl (by decide) rfl rfl ?_
                refine gq_goto C 20 dX6_chosen_113 (by decide) ?_
                refine gq_lv [0, 1, 3, 4] rfl ?_
                exact ihL20 _ _ hf
              · replace hf := gq_ifn h101 hf
                refine gq_iload_n C 1 105 dX6_chosen_104 rfl rfl ?_
                refine gq_goto C 109 dX6_chosen_105 (by decide) ?_
                refine gq_istore_n C [(2, .int x3_L20), (4, .int z0_J97), (3, .int x3_L20), (0, .ref (aM 0)), (1, .int x1)] 110 dX6_chosen_109 (by decide) rfl rfl ?_
                refine gq_iinc C 2 [(3, .int (x3_L20 + (nI 1))), (2, .int x3_L20), (4, .int z0_J97), (0, .ref (aM 0)), (1, .int x1)] 113 dX6_chosen_110 rfl rfl (by decide) rfl rfl ?_
                refine gq_goto C 20 dX6_chosen_113 (by decide) ?_
                refine gq_lv [0, 1, 3, 4] rfl ?_
                exact ihL20 _ _ hf
            · refine gq_icmp_ne C 67 44 dX6_chosen_41 (by decide) rfl (fun h41 => ?_) (fun h41 => ?_)
              · replace hf := gq_ifn h41 hf
                refine gq_aload_n C 2 68 dX6_chosen_67 rfl rfl ?_
                refine gq_iload_n C 3 69 dX6_chosen_68 rfl rfl ?_
                refine gq_aload_n C 2 70 dX6_chosen_69 rfl rfl ?_
                refine gq_get C fo_X6_9 fw_X6_26 0 0 73 rfl rfl rfl dX6_chosen_70 rfl ?_
                refine gq_iload_n C 0 74 dX6_chosen_73 rfl rfl ?_
                obtain ⟨h74, hf⟩ := gq_ok hf
                refine gq_iald C 0 5 75 rfl rfl h74 dX6_chosen_74 rfl ?_
                obtain ⟨r_75, hc, hf⟩ := gq_bd hf
                refine gq_callV C hA gm_X6_94 (c_X6_worthTo l D cI cZ aM x1 (M_list x3_L20.toNatClampNeg) (M_beds, M_law, M_worths, M_sights, M_sight, M_signs, M_pad, M_lies, M_empty, M_list, M_waits, M_yard, M_last, M_used, M_sheets, M_nights, M_fleasOfGuests, M_fleasOfBeds, M_reason, M_row, M_bestRow, M_image, M_isKept) _ hc) rfl 0 0 rfl rfl rfl ⟨Nat.le_trans (Nat.le_of_ble_eq_true rfl) hR.1, Nat.le_trans (Nat.le_of_ble_eq_true rfl) hR.2.1⟩ ⟨Nat.zero_le _, Nat.zero_le _⟩ rfl (Nat.le_of_ble_eq_true rfl) dX6_chosen_75 [0] [mC cI cZ aM (M_beds, M_law, M_worths, M_sights, M_sight, M_signs, M_pad, M_lies, M_empty, M_list, M_waits, M_yard, M_last, M_used, M_sheets, M_nights, M_fleasOfGuests, M_fleasOfBeds, M_reason, M_row, M_bestRow, M_image, M_isKept)] 78 rfl (by decide) rfl rfl rfl [.int r_75] rfl ?_
                refine gq_aload_n C 2 79 dX6_chosen_78 rfl rfl ?_
                refine gq_iload_n C 3 80 dX6_chosen_79 rfl rfl ?_
                refine gq_aload_n C 2 81 dX6_chosen_80 rfl rfl ?_
                refine gq_get C fo_X6_9 fw_X6_26 0 0 84 rfl rfl rfl dX6_chosen_81 rfl ?_
                refine gq_iload_n C 1 85 dX6_chosen_84 rfl rfl ?_
                obtain ⟨h85, hf⟩ := gq_ok hf
                refine gq_iald C 0 5 86 rfl rfl h85 dX6_chosen_85 rfl ?_
                obtain ⟨r_86, hc, hf⟩ := gq_bd hf
                refine gq_callV C hA gm_X6_94 (c_X6_worthTo l D cI cZ aM x1 (M_list x2_L20.toNatClampNeg) (M_beds, M_law, M_worths, M_sights, M_sight, M_signs, M_pad, M_lies, M_empty, M_list, M_waits, M_yard, M_last, M_used, M_sheets, M_nights, M_fleasOfGuests, M_fleasOfBeds, M_reason, M_row, M_bestRow, M_image, M_isKept) _ hc) rfl 0 0 rfl rfl rfl ⟨Nat.le_trans (Nat.le_of_ble_eq_true rfl) hR.1, Nat.le_trans (Nat.le_of_ble_eq_true rfl) hR.2.1⟩ ⟨Nat.zero_le _, Nat.zero_le _⟩ rfl (Nat.le_of_ble_eq_true rfl) dX6_chosen_86 [0] [mC cI cZ aM (M_beds, M_law, M_worths, M_sights, M_sight, M_signs, M_pad, M_lies, M_empty, M_list, M_waits, M_yard, M_last, M_used, M_sheets, M_nights, M_fleasOfGuests, M_fleasOfBeds, M_reason, M_row, M_bestRow, M_image, M_isKept)] 89 rfl (by decide) rfl rfl rfl [.int r_86, .int r_75] rfl ?_
                refine gq_icmp_lt C 96 92 dX6_chosen_89 (by decide) rfl (fun h89 => ?_) (fun h89 => ?_)
                · replace hf := gq_ifp h89 hf
                  refine gq_iconst C (nI 0) 97 dX6_chosen_96 (by decide) rfl ?_
                  exact hJ97 _ hf
                · replace hf := gq_ifn h89 hf
                  refine gq_iconst C (nI 1) 93 dX6_chosen_92 (by decide) rfl ?_
                  refine gq_goto C 97 dX6_chosen_93 (by decide) ?_
                  exact hJ97 _ hf
              · replace hf := gq_ifp h41 hf
                refine gq_aload_n C 2 45 dX6_chosen_44 rfl rfl ?_
                refine gq_get C fo_X6_9 fw_X6_26 0 0 48 rfl rfl rfl dX6_chosen_45 rfl ?_
                refine gq_iload_n C 0 49 dX6_chosen_48 rfl rfl ?_
                obtain ⟨h49, hf⟩ := gq_ok hf
                refine gq_iald C 0 5 50 rfl rfl h49 dX6_chosen_49 rfl ?_
                refine gq_aload_n C 2 51 dX6_chosen_50 rfl rfl ?_
                refine gq_get C fo_X6_9 fw_X6_26 0 0 54 rfl rfl rfl dX6_chosen_51 rfl ?_
                refine gq_iload_n C 1 55 dX6_chosen_54 rfl rfl ?_
                obtain ⟨h55, hf⟩ := gq_ok hf
                refine gq_iald C 0 5 56 rfl rfl h55 dX6_chosen_55 rfl ?_
                refine gq_icmp_ge C 63 59 dX6_chosen_56 (by decide) rfl (fun h56 => ?_) (fun h56 => ?_)
                · replace hf := gq_ifp h56 hf
                  refine gq_iconst C (nI 0) 64 dX6_chosen_63 (by decide) rfl ?_
                  refine gq_goto C 97 dX6_chosen_64 (by decide) ?_
                  exact hJ97 _ hf
                · replace hf := gq_ifn h56 hf
                  refine gq_iconst C (nI 1) 60 dX6_chosen_59 (by decide) rfl ?_
                  refine gq_goto C 97 dX6_chosen_60 (by decide) ?_
                  exact hJ97 _ hf
    refine L20 _ (fun x2_L20 x3_L20 hf => ?_) _ _ _ hf
    refine gq_iload_n C 1 117 dX6_chosen_116 rfl rfl ?_
    obtain rfl := gq_lf hf
    exact hret dX6_chosen_117 gPost.rf
  · refine gq_if_ne C 16 7 dX6_chosen_4 (by decide) rfl (fun h4 => ?_) (fun h4 => ?_)
    · replace hf := gq_ifn h4 hf
      refine gq_iconst C (nI 0) 17 dX6_chosen_16 (by decide) rfl ?_
      exact hJ17 _ hf
    · replace hf := gq_ifp h4 hf
      refine gq_aload_n C 0 8 dX6_chosen_7 rfl rfl ?_
      refine gq_get C fo_X6_8 fw_X6_81 0 0 11 rfl rfl rfl dX6_chosen_8 rfl ?_
      refine gq_iconst C (nI 1) 12 dX6_chosen_11 (by decide) rfl ?_
      refine gq_isub C 13 dX6_chosen_12 rfl ?_
      refine gq_goto C 17 dX6_chosen_13 (by decide) ?_
      exact hJ17 _ hf

def f_X6_comeIn_L54 (c_M_empty : Int32) : Nat → Int32 → (Nat → Int32) → (Int32 → (Nat → Int32) → Option (ModS)) → Option (ModS)
  | 0, _, _, _ => none
  | nL54 + 1, x4_L54, M_list_L54, kL54 => (if c_M_empty ≤ x4_L54 then kL54 x4_L54 M_list_L54 else (if (x4_L54 + (nI 1)) < 0 ∨ 8 ≤ (x4_L54 + (nI 1)).toNatClampNeg then none else (if x4_L54 < 0 ∨ 8 ≤ x4_L54.toNatClampNeg then none else f_X6_comeIn_L54 c_M_empty nL54 (x4_L54 + (nI 1)) (upd M_list_L54 x4_L54.toNatClampNeg (M_list_L54 (x4_L54 + (nI 1)).toNatClampNeg)) kL54)))
def f_X6_comeIn : Int32 → ModS → Option (ModS)
  | x1, (M_beds, M_law, M_worths, M_sights, M_sight, M_signs, M_pad, M_lies, M_empty, M_list, M_waits, M_yard, M_last, M_used, M_sheets, M_nights, M_fleasOfGuests, M_fleasOfBeds, M_reason, M_row, M_bestRow, M_image, M_isKept) => (if M_empty = 0 then (if M_waits < 0 ∨ 64 ≤ M_waits.toNatClampNeg then none else some (M_beds, M_law, M_worths, M_sights, M_sight, M_signs, M_pad, M_lies, M_empty, M_list, (M_waits + (nI 1)), (upd M_yard M_waits.toNatClampNeg x1), M_last, M_used, M_sheets, M_nights, M_fleasOfGuests, M_fleasOfBeds, M_reason, M_row, M_bestRow, M_image, M_isKept)) else (Option.bind (f_X6_chosen x1 (M_beds, M_law, M_worths, M_sights, M_sight, M_signs, M_pad, M_lies, M_empty, M_list, M_waits, M_yard, M_last, M_used, M_sheets, M_nights, M_fleasOfGuests, M_fleasOfBeds, M_reason, M_row, M_bestRow, M_image, M_isKept)) (fun r_30 => (if r_30 < 0 ∨ 8 ≤ r_30.toNatClampNeg then none else f_X6_comeIn_L54 (M_empty - (nI 1)) FU r_30 M_list (fun x4_L54 M_list_L54 => (Option.bind (f_X6_take (M_list r_30.toNatClampNeg) x1 (M_beds, M_law, M_worths, M_sights, M_sight, M_signs, M_pad, M_lies, (M_empty - (nI 1)), M_list_L54, M_waits, M_yard, M_last, M_used, M_sheets, M_nights, M_fleasOfGuests, M_fleasOfBeds, M_reason, M_row, M_bestRow, M_image, M_isKept)) (fun (M_beds_88, M_law_88, M_worths_88, M_sights_88, M_sight_88, M_signs_88, M_pad_88, M_lies_88, M_empty_88, M_list_88, M_waits_88, M_yard_88, M_last_88, M_used_88, M_sheets_88, M_nights_88, M_fleasOfGuests_88, M_fleasOfBeds_88, M_reason_88, M_row_88, M_bestRow_88, M_image_88, M_isKept_88) => some (M_beds_88, M_law_88, M_worths_88, M_sights_88, M_sight_88, M_signs_88, M_pad_88, M_lies_88, M_empty_88, M_list_88, M_waits_88, M_yard_88, M_last_88, M_used_88, M_sheets_88, M_nights_88, M_fleasOfGuests_88, M_fleasOfBeds_88, M_reason_88, M_row_88, M_bestRow_88, M_image_88, M_isKept_88))))))))
set_option maxHeartbeats 4000000 in
set_option maxRecDepth 100000 in
theorem c_X6_comeIn (l : Launch) (D : va_G) (cI cZ : ClassId) (aM : Nat → Nat) (x1 : Int32) (tM : ModS) (rr : ModS) (hf : f_X6_comeIn x1 tM = some rr) : CT l D cI cZ yX6_comeIn cX6_comeIn 5 none 2 46 0 0 [.ref (aM 0), .int x1] ([mC cI cZ aM tM]) (gPost none ([mC cI cZ aM rr])) := by
  obtain ⟨M_beds, M_law, M_worths, M_sights, M_sight, M_signs, M_pad, M_lies, M_empty, M_list, M_waits, M_yard, M_last, M_used, M_sheets, M_nights, M_fleasOfGuests, M_fleasOfBeds, M_reason, M_row, M_bestRow, M_image, M_isKept⟩ := tM
  rw [f_X6_comeIn] at hf
  refine CT.mkV (by decide) (Nat.le_of_ble_eq_true rfl) fun {p} {e} {R} {s} {m} {args} {below} {meth} {c} {A} {H0} {Q} C hA hR hnm hret => ?_
  show G p l e R s m args below meth c 5 D A H0 0 0 Q [mC cI cZ aM (M_beds, M_law, M_worths, M_sights, M_sight, M_signs, M_pad, M_lies, M_empty, M_list, M_waits, M_yard, M_last, M_used, M_sheets, M_nights, M_fleasOfGuests, M_fleasOfBeds, M_reason, M_row, M_bestRow, M_image, M_isKept)] 0 [(0, .ref (aM 0)), (1, .int x1)] []
  refine gq_aload_n C 0 1 dX6_comeIn_0 rfl rfl ?_
  refine gq_get C fo_X6_8 fw_X6_81 0 0 4 rfl rfl rfl dX6_comeIn_1 rfl ?_
  refine gq_if_ne C 28 7 dX6_comeIn_4 (by decide) rfl (fun h4 => ?_) (fun h4 => ?_)
  · replace hf := gq_ifn h4 hf
    refine gq_aload_n C 0 29 dX6_comeIn_28 rfl rfl ?_
    refine gq_iload_n C 1 30 dX6_comeIn_29 rfl rfl ?_
    obtain ⟨r_30, hc, hf⟩ := gq_bd hf
    refine gq_callV C hA gm_X6_98 (c_X6_chosen l D cI cZ aM x1 (M_beds, M_law, M_worths, M_sights, M_sight, M_signs, M_pad, M_lies, M_empty, M_list, M_waits, M_yard, M_last, M_used, M_sheets, M_nights, M_fleasOfGuests, M_fleasOfBeds, M_reason, M_row, M_bestRow, M_image, M_isKept) _ hc) rfl 0 0 rfl rfl rfl ⟨Nat.le_trans (Nat.le_of_ble_eq_true rfl) hR.1, Nat.le_trans (Nat.le_of_ble_eq_true rfl) hR.2.1⟩ ⟨Nat.zero_le _, Nat.zero_le _⟩ rfl (Nat.le_of_ble_eq_true rfl) dX6_comeIn_30 [0] [mC cI cZ aM (M_beds, M_law, M_worths, M_sights, M_sight, M_signs, M_pad, M_lies, M_empty, M_list, M_waits, M_yard, M_last, M_used, M_sheets, M_nights, M_fleasOfGuests, M_fleasOfBeds, M_reason, M_row, M_bestRow, M_image, M_isKept)] 33 rfl (by decide) rfl rfl rfl [.int r_30] rfl ?_
    refine gq_istore_n C [(2, .int r_30), (0, .ref (aM 0)), (1, .int x1)] 34 dX6_comeIn_33 (by decide) rfl rfl ?_
    refine gq_aload_n C 1 35 dX6_comeIn_34 rfl rfl ?_
    refine gq_get C fo_X6_9 fw_X6_26 0 0 38 rfl rfl rfl dX6_comeIn_35 rfl ?_
    refine gq_iload_n C 0 39 dX6_comeIn_38 rfl rfl ?_
    obtain ⟨h39, hf⟩ := gq_ok hf
    refine gq_iald C 0 5 40 rfl rfl h39 dX6_comeIn_39 rfl ?_
    refine gq_istore_n C [(3, .int (M_list r_30.toNatClampNeg)), (2, .int r_30), (0, .ref (aM 0)), (1, .int x1)] 41 dX6_comeIn_40 (by decide) rfl rfl ?_
    refine gq_aload_n C 2 42 dX6_comeIn_41 rfl rfl ?_
    refine gq_dup C 43 dX6_comeIn_42 rfl rfl ?_
    refine gq_get C fo_X6_8 fw_X6_81 0 0 46 rfl rfl rfl dX6_comeIn_43 rfl ?_
    refine gq_iconst C (nI 1) 47 dX6_comeIn_46 (by decide) rfl ?_
    refine gq_isub C 48 dX6_comeIn_47 rfl ?_
    refine gq_put C fo_X6_8 fp_X6_8 rfl fw_X6_81 0 0 51 [mC cI cZ aM (M_beds, M_law, M_worths, M_sights, M_sight, M_signs, M_pad, M_lies, (M_empty - (nI 1)), M_list, M_waits, M_yard, M_last, M_used, M_sheets, M_nights, M_fleasOfGuests, M_fleasOfBeds, M_reason, M_row, M_bestRow, M_image, M_isKept)] rfl rfl rfl rfl (Nat.le_of_ble_eq_true rfl) rfl dX6_comeIn_48 rfl ?_
    refine gq_iload_n C 1 52 dX6_comeIn_51 rfl rfl ?_
    refine gq_istore C [(4, .int r_30), (3, .int (M_list r_30.toNatClampNeg)), (2, .int r_30), (0, .ref (aM 0)), (1, .int x1)] 54 dX6_comeIn_52 (by decide) rfl rfl ?_
    have L54 : ∀ (kL : Int32 → (Nat → Int32) → Option (ModS)), (∀ (x4_L54 : Int32) (M_list_L54 : (Nat → Int32)), kL x4_L54 M_list_L54 = some rr → G p l e R s m args below meth c 5 D A H0 0 0 Q [mC cI cZ aM (M_beds, M_law, M_worths, M_sights, M_sight, M_signs, M_pad, M_lies, (M_empty - (nI 1)), M_list_L54, M_waits, M_yard, M_last, M_used, M_sheets, M_nights, M_fleasOfGuests, M_fleasOfBeds, M_reason, M_row, M_bestRow, M_image, M_isKept)] 85 [(4, .int x4_L54), (3, .int (M_list r_30.toNatClampNeg)), (2, .int r_30), (0, .ref (aM 0)), (1, .int x1)] []) → ∀ (n : Nat) (x4_L54 : Int32) (M_list_L54 : (Nat → Int32)), f_X6_comeIn_L54 (M_empty - (nI 1)) n x4_L54 M_list_L54 kL = some rr → G p l e R s m args below meth c 5 D A H0 0 0 Q [mC cI cZ aM (M_beds, M_law, M_worths, M_sights, M_sight, M_signs, M_pad, M_lies, (M_empty - (nI 1)), M_list_L54, M_waits, M_yard, M_last, M_used, M_sheets, M_nights, M_fleasOfGuests, M_fleasOfBeds, M_reason, M_row, M_bestRow, M_image, M_isKept)] 54 [(4, .int x4_L54), (3, .int (M_list r_30.toNatClampNeg)), (2, .int r_30), (0, .ref (aM 0)), (1, .int x1)] [] := by
      intro kL hkL54 n
      induction n with
      | zero =>
        intro x4_L54 M_list_L54 hf
        rw [f_X6_comeIn_L54] at hf
        cases hf
      | succ n ihL54 =>
        intro x4_L54 M_list_L54 hf
        rw [f_X6_comeIn_L54] at hf
        refine gq_iload C 0 56 dX6_comeIn_54 rfl rfl ?_
        refine gq_aload_n C 3 57 dX6_comeIn_56 rfl rfl ?_
        refine gq_get C fo_X6_8 fw_X6_81 0 0 60 rfl rfl rfl dX6_comeIn_57 rfl ?_
        refine gq_icmp_ge C 85 63 dX6_comeIn_60 (by decide) rfl (fun h60 => ?_) (fun h60 => ?_)
        · replace hf := gq_ifp h60 hf
          exact hkL54 _ _ hf
        · replace hf := gq_ifn h60 hf
          refine gq_aload_n C 3 64 dX6_comeIn_63 rfl rfl ?_
          refine gq_get C fo_X6_9 fw_X6_26 0 0 67 rfl rfl rfl dX6_comeIn_64 rfl ?_
          refine gq_iload C 0 69 dX6_comeIn_67 rfl rfl ?_
          refine gq_aload_n C 3 70 dX6_comeIn_69 rfl rfl ?_
          refine gq_get C fo_X6_9 fw_X6_26 0 0 73 rfl rfl rfl dX6_comeIn_70 rfl ?_
          refine gq_iload C 0 75 dX6_comeIn_73 rfl rfl ?_
          refine gq_iconst C (nI 1) 76 dX6_comeIn_75 (by decide) rfl ?_
          refine gq_iadd C 77 dX6_comeIn_76 rfl ?_
          obtain ⟨h77, hf⟩ := gq_ok hf
          refine gq_iald C 0 5 78 rfl rfl h77 dX6_comeIn_77 rfl ?_
          obtain ⟨h78, hf⟩ := gq_ok hf
          refine gq_iast C 0 5 79 [mC cI cZ aM (M_beds, M_law, M_worths, M_sights, M_sight, M_signs, M_pad, M_lies, (M_empty - (nI 1)), (upd M_list_L54 x4_L54.toNatClampNeg (M_list_L54 (x4_L54 + (nI 1)).toNatClampNeg)), M_waits, M_yard, M_last, M_used, M_sheets, M_nights, M_fleasOfGuests, M_fleasOfBeds, M_reason, M_row, M_bestRow, M_image, M_isKept)] rfl rfl h78 rfl dX6_comeIn_78 rfl ?_
          refine gq_iinc C 0 [(4, .int (x4_L54 + (nI 1))), (3, .int (M_list r_30.toNatClampNeg)), (2, .int r_30), (0, .ref (aM 0)), (1, .int x1)] 82 dX6_comeIn_79 rfl rfl (by decide) rfl rfl ?_
          refine gq_goto C 54 dX6_comeIn_82 (by decide) ?_
          exact ihL54 _ _ hf
    refine L54 _ (fun x4_L54 M_list_L54 hf => ?_) _ _ _ hf
    refine gq_aload_n C 3 86 dX6_comeIn_85 rfl rfl ?_
    refine gq_iload_n C 1 87 dX6_comeIn_86 rfl rfl ?_
    refine gq_iload_n C 4 88 dX6_comeIn_87 rfl rfl ?_
    obtain ⟨⟨M_beds_88, M_law_88, M_worths_88, M_sights_88, M_sight_88, M_signs_88, M_pad_88, M_lies_88, M_empty_88, M_list_88, M_waits_88, M_yard_88, M_last_88, M_used_88, M_sheets_88, M_nights_88, M_fleasOfGuests_88, M_fleasOfBeds_88, M_reason_88, M_row_88, M_bestRow_88, M_image_88, M_isKept_88⟩, hc, hf⟩ := gq_bd hf
    refine gq_callV C hA gm_X6_101 (c_X6_take l D cI cZ aM (M_list r_30.toNatClampNeg) x1 (M_beds, M_law, M_worths, M_sights, M_sight, M_signs, M_pad, M_lies, (M_empty - (nI 1)), M_list_L54, M_waits, M_yard, M_last, M_used, M_sheets, M_nights, M_fleasOfGuests, M_fleasOfBeds, M_reason, M_row, M_bestRow, M_image, M_isKept) _ hc) rfl 0 0 rfl rfl rfl ⟨Nat.le_trans (Nat.le_of_ble_eq_true rfl) hR.1, Nat.le_trans (Nat.le_of_ble_eq_true rfl) hR.2.1⟩ ⟨Nat.zero_le _, Nat.zero_le _⟩ rfl (Nat.le_of_ble_eq_true rfl) dX6_comeIn_88 [0] [mC cI cZ aM (M_beds_88, M_law_88, M_worths_88, M_sights_88, M_sight_88, M_signs_88, M_pad_88, M_lies_88, M_empty_88, M_list_88, M_waits_88, M_yard_88, M_last_88, M_used_88, M_sheets_88, M_nights_88, M_fleasOfGuests_88, M_fleasOfBeds_88, M_reason_88, M_row_88, M_bestRow_88, M_image_88, M_isKept_88)] 91 rfl (by decide) rfl rfl rfl [] rfl ?_
    obtain rfl := gq_lf hf
    exact hret dX6_comeIn_91 gPost.rf
  · replace hf := gq_ifp h4 hf
    refine gq_aload_n C 0 8 dX6_comeIn_7 rfl rfl ?_
    refine gq_get C fo_X6_11 fw_X6_29 0 0 11 rfl rfl rfl dX6_comeIn_8 rfl ?_
    refine gq_aload_n C 0 12 dX6_comeIn_11 rfl rfl ?_
    refine gq_get C fo_X6_10 fw_X6_84 0 0 15 rfl rfl rfl dX6_comeIn_12 rfl ?_
    refine gq_iload_n C 1 16 dX6_comeIn_15 rfl rfl ?_
    obtain ⟨h16, hf⟩ := gq_ok hf
    refine gq_iast C 0 6 17 [mC cI cZ aM (M_beds, M_law, M_worths, M_sights, M_sight, M_signs, M_pad, M_lies, M_empty, M_list, M_waits, (upd M_yard M_waits.toNatClampNeg x1), M_last, M_used, M_sheets, M_nights, M_fleasOfGuests, M_fleasOfBeds, M_reason, M_row, M_bestRow, M_image, M_isKept)] rfl rfl h16 rfl dX6_comeIn_16 rfl ?_
    refine gq_aload_n C 0 18 dX6_comeIn_17 rfl rfl ?_
    refine gq_dup C 19 dX6_comeIn_18 rfl rfl ?_
    refine gq_get C fo_X6_10 fw_X6_84 0 0 22 rfl rfl rfl dX6_comeIn_19 rfl ?_
    refine gq_iconst C (nI 1) 23 dX6_comeIn_22 (by decide) rfl ?_
    refine gq_iadd C 24 dX6_comeIn_23 rfl ?_
    refine gq_put C fo_X6_10 fp_X6_10 rfl fw_X6_84 0 0 27 [mC cI cZ aM (M_beds, M_law, M_worths, M_sights, M_sight, M_signs, M_pad, M_lies, M_empty, M_list, (M_waits + (nI 1)), (upd M_yard M_waits.toNatClampNeg x1), M_last, M_used, M_sheets, M_nights, M_fleasOfGuests, M_fleasOfBeds, M_reason, M_row, M_bestRow, M_image, M_isKept)] rfl rfl rfl rfl (Nat.le_of_ble_eq_true rfl) rfl dX6_comeIn_24 rfl ?_
    obtain rfl := gq_lf hf
    exact hret dX6_comeIn_27 gPost.rf

def f_X6_outOfYard_L12 (c_M_waits : Int32) : Nat → Int32 → (Nat → Int32) → (Int32 → (Nat → Int32) → Option (ModS)) → Option (ModS)
  | 0, _, _, _ => none
  | nL12 + 1, x2_L12, M_yard_L12, kL12 => (if c_M_waits ≤ x2_L12 then kL12 x2_L12 M_yard_L12 else (if (x2_L12 + (nI 1)) < 0 ∨ 64 ≤ (x2_L12 + (nI 1)).toNatClampNeg then none else (if x2_L12 < 0 ∨ 64 ≤ x2_L12.toNatClampNeg then none else f_X6_outOfYard_L12 c_M_waits nL12 (x2_L12 + (nI 1)) (upd M_yard_L12 x2_L12.toNatClampNeg (M_yard_L12 (x2_L12 + (nI 1)).toNatClampNeg)) kL12)))
def f_X6_outOfYard : Int32 → ModS → Option (ModS)
  | x1, (M_beds, M_law, M_worths, M_sights, M_sight, M_signs, M_pad, M_lies, M_empty, M_list, M_waits, M_yard, M_last, M_used, M_sheets, M_nights, M_fleasOfGuests, M_fleasOfBeds, M_reason, M_row, M_bestRow, M_image, M_isKept) => f_X6_outOfYard_L12 (M_waits - (nI 1)) FU x1 M_yard (fun x2_L12 M_yard_L12 => some (M_beds, M_law, M_worths, M_sights, M_sight, M_signs, M_pad, M_lies, M_empty, M_list, (M_waits - (nI 1)), M_yard_L12, M_last, M_used, M_sheets, M_nights, M_fleasOfGuests, M_fleasOfBeds, M_reason, M_row, M_bestRow, M_image, M_isKept))
set_option maxHeartbeats 4000000 in
set_option maxRecDepth 100000 in
theorem c_X6_outOfYard (l : Launch) (D : va_G) (cI cZ : ClassId) (aM : Nat → Nat) (x1 : Int32) (tM : ModS) (rr : ModS) (hf : f_X6_outOfYard x1 tM = some rr) : CT l D cI cZ yX6_outOfYard cX6_outOfYard 3 none 0 0 0 0 [.ref (aM 0), .int x1] ([mC cI cZ aM tM]) (gPost none ([mC cI cZ aM rr])) := by
  obtain ⟨M_beds, M_law, M_worths, M_sights, M_sight, M_signs, M_pad, M_lies, M_empty, M_list, M_waits, M_yard, M_last, M_used, M_sheets, M_nights, M_fleasOfGuests, M_fleasOfBeds, M_reason, M_row, M_bestRow, M_image, M_isKept⟩ := tM
  rw [f_X6_outOfYard] at hf
  refine CT.mkV (by decide) (Nat.le_of_ble_eq_true rfl) fun {p} {e} {R} {s} {m} {args} {below} {meth} {c} {A} {H0} {Q} C hA hR hnm hret => ?_
  show G p l e R s m args below meth c 3 D A H0 0 0 Q [mC cI cZ aM (M_beds, M_law, M_worths, M_sights, M_sight, M_signs, M_pad, M_lies, M_empty, M_list, M_waits, M_yard, M_last, M_used, M_sheets, M_nights, M_fleasOfGuests, M_fleasOfBeds, M_reason, M_row, M_bestRow, M_image, M_isKept)] 0 [(0, .ref (aM 0)), (1, .int x1)] []
  refine gq_aload_n C 0 1 dX6_outOfYard_0 rfl rfl ?_
  refine gq_dup C 2 dX6_outOfYard_1 rfl rfl ?_
  refine gq_get C fo_X6_10 fw_X6_84 0 0 5 rfl rfl rfl dX6_outOfYard_2 rfl ?_
  refine gq_iconst C (nI 1) 6 dX6_outOfYard_5 (by decide) rfl ?_
  refine gq_isub C 7 dX6_outOfYard_6 rfl ?_
  refine gq_put C fo_X6_10 fp_X6_10 rfl fw_X6_84 0 0 10 [mC cI cZ aM (M_beds, M_law, M_worths, M_sights, M_sight, M_signs, M_pad, M_lies, M_empty, M_list, (M_waits - (nI 1)), M_yard, M_last, M_used, M_sheets, M_nights, M_fleasOfGuests, M_fleasOfBeds, M_reason, M_row, M_bestRow, M_image, M_isKept)] rfl rfl rfl rfl (Nat.le_of_ble_eq_true rfl) rfl dX6_outOfYard_7 rfl ?_
  refine gq_iload_n C 1 11 dX6_outOfYard_10 rfl rfl ?_
  refine gq_istore_n C [(2, .int x1), (0, .ref (aM 0)), (1, .int x1)] 12 dX6_outOfYard_11 (by decide) rfl rfl ?_
  have L12 : ∀ (kL : Int32 → (Nat → Int32) → Option (ModS)), (∀ (x2_L12 : Int32) (M_yard_L12 : (Nat → Int32)), kL x2_L12 M_yard_L12 = some rr → G p l e R s m args below meth c 3 D A H0 0 0 Q [mC cI cZ aM (M_beds, M_law, M_worths, M_sights, M_sight, M_signs, M_pad, M_lies, M_empty, M_list, (M_waits - (nI 1)), M_yard_L12, M_last, M_used, M_sheets, M_nights, M_fleasOfGuests, M_fleasOfBeds, M_reason, M_row, M_bestRow, M_image, M_isKept)] 40 [(2, .int x2_L12), (0, .ref (aM 0)), (1, .int x1)] []) → ∀ (n : Nat) (x2_L12 : Int32) (M_yard_L12 : (Nat → Int32)), f_X6_outOfYard_L12 (M_waits - (nI 1)) n x2_L12 M_yard_L12 kL = some rr → G p l e R s m args below meth c 3 D A H0 0 0 Q [mC cI cZ aM (M_beds, M_law, M_worths, M_sights, M_sight, M_signs, M_pad, M_lies, M_empty, M_list, (M_waits - (nI 1)), M_yard_L12, M_last, M_used, M_sheets, M_nights, M_fleasOfGuests, M_fleasOfBeds, M_reason, M_row, M_bestRow, M_image, M_isKept)] 12 [(2, .int x2_L12), (0, .ref (aM 0)), (1, .int x1)] [] := by
    intro kL hkL12 n
    induction n with
    | zero =>
      intro x2_L12 M_yard_L12 hf
      rw [f_X6_outOfYard_L12] at hf
      cases hf
    | succ n ihL12 =>
      intro x2_L12 M_yard_L12 hf
      rw [f_X6_outOfYard_L12] at hf
      refine gq_iload_n C 0 13 dX6_outOfYard_12 rfl rfl ?_
      refine gq_aload_n C 1 14 dX6_outOfYard_13 rfl rfl ?_
      refine gq_get C fo_X6_10 fw_X6_84 0 0 17 rfl rfl rfl dX6_outOfYard_14 rfl ?_
      refine gq_icmp_ge C 40 20 dX6_outOfYard_17 (by decide) rfl (fun h17 => ?_) (fun h17 => ?_)
      · replace hf := gq_ifp h17 hf
        exact hkL12 _ _ hf
      · replace hf := gq_ifn h17 hf
        refine gq_aload_n C 1 21 dX6_outOfYard_20 rfl rfl ?_
        refine gq_get C fo_X6_11 fw_X6_29 0 0 24 rfl rfl rfl dX6_outOfYard_21 rfl ?_
        refine gq_iload_n C 0 25 dX6_outOfYard_24 rfl rfl ?_
        refine gq_aload_n C 1 26 dX6_outOfYard_25 rfl rfl ?_
        refine gq_get C fo_X6_11 fw_X6_29 0 0 29 rfl rfl rfl dX6_outOfYard_26 rfl ?_
        refine gq_iload_n C 0 30 dX6_outOfYard_29 rfl rfl ?_
        refine gq_iconst C (nI 1) 31 dX6_outOfYard_30 (by decide) rfl ?_
        refine gq_iadd C 32 dX6_outOfYard_31 rfl ?_
        obtain ⟨h32, hf⟩ := gq_ok hf
        refine gq_iald C 0 6 33 rfl rfl h32 dX6_outOfYard_32 rfl ?_
        obtain ⟨h33, hf⟩ := gq_ok hf
        refine gq_iast C 0 6 34 [mC cI cZ aM (M_beds, M_law, M_worths, M_sights, M_sight, M_signs, M_pad, M_lies, M_empty, M_list, (M_waits - (nI 1)), (upd M_yard_L12 x2_L12.toNatClampNeg (M_yard_L12 (x2_L12 + (nI 1)).toNatClampNeg)), M_last, M_used, M_sheets, M_nights, M_fleasOfGuests, M_fleasOfBeds, M_reason, M_row, M_bestRow, M_image, M_isKept)] rfl rfl h33 rfl dX6_outOfYard_33 rfl ?_
        refine gq_iinc C 0 [(2, .int (x2_L12 + (nI 1))), (0, .ref (aM 0)), (1, .int x1)] 37 dX6_outOfYard_34 rfl rfl (by decide) rfl rfl ?_
        refine gq_goto C 12 dX6_outOfYard_37 (by decide) ?_
        exact ihL12 _ _ hf
  refine L12 _ (fun x2_L12 M_yard_L12 hf => ?_) _ _ _ hf
  obtain rfl := gq_lf hf
  exact hret dX6_outOfYard_40 gPost.rf

def f_X6_goOut_L12 (c_x1 : Int32) (c_M_yard : (Nat → Int32)) : Nat → Int32 → (Int32 → Option (ModS)) → Option (ModS)
  | 0, _, _ => none
  | nL12 + 1, x3_L12, kL12 => (if x3_L12 < 0 ∨ 64 ≤ x3_L12.toNatClampNeg then none else (if (c_M_yard x3_L12.toNatClampNeg) = c_x1 then kL12 x3_L12 else f_X6_goOut_L12 c_x1 c_M_yard nL12 (x3_L12 + (nI 1)) kL12))
def f_X6_goOut : Int32 → ModS → Option (ModS)
  | x1, (M_beds, M_law, M_worths, M_sights, M_sight, M_signs, M_pad, M_lies, M_empty, M_list, M_waits, M_yard, M_last, M_used, M_sheets, M_nights, M_fleasOfGuests, M_fleasOfBeds, M_reason, M_row, M_bestRow, M_image, M_isKept) => (Option.bind (f_X6_bedOf x1 (M_beds, M_law, M_worths, M_sights, M_sight, M_signs, M_pad, M_lies, M_empty, M_list, M_waits, M_yard, M_last, M_used, M_sheets, M_nights, M_fleasOfGuests, M_fleasOfBeds, M_reason, M_row, M_bestRow, M_image, M_isKept)) (fun r_2 => (if 0 ≤ r_2 then (if M_waits ≤ 0 then (if r_2 < 0 ∨ 8 ≤ r_2.toNatClampNeg then none else (if M_empty < 0 ∨ 8 ≤ M_empty.toNatClampNeg then none else some (M_beds, M_law, M_worths, M_sights, M_sight, M_signs, M_pad, (upd M_lies r_2.toNatClampNeg (-6 : Int32)), (M_empty + (nI 1)), (upd M_list M_empty.toNatClampNeg r_2), M_waits, M_yard, M_last, M_used, M_sheets, M_nights, M_fleasOfGuests, M_fleasOfBeds, M_reason, M_row, M_bestRow, M_image, M_isKept))) else (Option.bind (f_X6_outOfYard (nI 0) (M_beds, M_law, M_worths, M_sights, M_sight, M_signs, M_pad, M_lies, M_empty, M_list, M_waits, M_yard, M_last, M_used, M_sheets, M_nights, M_fleasOfGuests, M_fleasOfBeds, M_reason, M_row, M_bestRow, M_image, M_isKept)) (fun (M_beds_52, M_law_52, M_worths_52, M_sights_52, M_sight_52, M_signs_52, M_pad_52, M_lies_52, M_empty_52, M_list_52, M_waits_52, M_yard_52, M_last_52, M_used_52, M_sheets_52, M_nights_52, M_fleasOfGuests_52, M_fleasOfBeds_52, M_reason_52, M_row_52, M_bestRow_52, M_image_52, M_isKept_52) => (Option.bind (f_X6_take r_2 (M_yard (nI 0).toNatClampNeg) (M_beds_52, M_law_52, M_worths_52, M_sights_52, M_sight_52, M_signs_52, M_pad_52, M_lies_52, M_empty_52, M_list_52, M_waits_52, M_yard_52, M_last_52, M_used_52, M_sheets_52, M_nights_52, M_fleasOfGuests_52, M_fleasOfBeds_52, M_reason_52, M_row_52, M_bestRow_52, M_image_52, M_isKept_52)) (fun (M_beds_58, M_law_58, M_worths_58, M_sights_58, M_sight_58, M_signs_58, M_pad_58, M_lies_58, M_empty_58, M_list_58, M_waits_58, M_yard_58, M_last_58, M_used_58, M_sheets_58, M_nights_58, M_fleasOfGuests_58, M_fleasOfBeds_58, M_reason_58, M_row_58, M_bestRow_58, M_image_58, M_isKept_58) => some (M_beds_58, M_law_58, M_worths_58, M_sights_58, M_sight_58, M_signs_58, M_pad_58, M_lies_58, M_empty_58, M_list_58, M_waits_58, M_yard_58, M_last_58, M_used_58, M_sheets_58, M_nights_58, M_fleasOfGuests_58, M_fleasOfBeds_58, M_reason_58, M_row_58, M_bestRow_58, M_image_58, M_isKept_58)))))) else f_X6_goOut_L12 x1 M_yard FU (nI 0) (fun x3_L12 => (Option.bind (f_X6_outOfYard x3_L12 (M_beds, M_law, M_worths, M_sights, M_sight, M_signs, M_pad, M_lies, M_empty, M_list, M_waits, M_yard, M_last, M_used, M_sheets, M_nights, M_fleasOfGuests, M_fleasOfBeds, M_reason, M_row, M_bestRow, M_image, M_isKept)) (fun (M_beds_30, M_law_30, M_worths_30, M_sights_30, M_sight_30, M_signs_30, M_pad_30, M_lies_30, M_empty_30, M_list_30, M_waits_30, M_yard_30, M_last_30, M_used_30, M_sheets_30, M_nights_30, M_fleasOfGuests_30, M_fleasOfBeds_30, M_reason_30, M_row_30, M_bestRow_30, M_image_30, M_isKept_30) => some (M_beds_30, M_law_30, M_worths_30, M_sights_30, M_sight_30, M_signs_30, M_pad_30, M_lies_30, M_empty_30, M_list_30, M_waits_30, M_yard_30, M_last_30, M_used_30, M_sheets_30, M_nights_30, M_fleasOfGuests_30, M_fleasOfBeds_30, M_reason_30, M_row_30, M_bestRow_30, M_image_30, M_isKept_30)))))))
set_option maxHeartbeats 4000000 in
set_option maxRecDepth 100000 in
theorem c_X6_goOut (l : Launch) (D : va_G) (cI cZ : ClassId) (aM : Nat → Nat) (x1 : Int32) (tM : ModS) (rr : ModS) (hf : f_X6_goOut x1 tM = some rr) : CT l D cI cZ yX6_goOut cX6_goOut 4 none 1 23 0 0 [.ref (aM 0), .int x1] ([mC cI cZ aM tM]) (gPost none ([mC cI cZ aM rr])) := by
  obtain ⟨M_beds, M_law, M_worths, M_sights, M_sight, M_signs, M_pad, M_lies, M_empty, M_list, M_waits, M_yard, M_last, M_used, M_sheets, M_nights, M_fleasOfGuests, M_fleasOfBeds, M_reason, M_row, M_bestRow, M_image, M_isKept⟩ := tM
  rw [f_X6_goOut] at hf
  refine CT.mkV (by decide) (Nat.le_of_ble_eq_true rfl) fun {p} {e} {R} {s} {m} {args} {below} {meth} {c} {A} {H0} {Q} C hA hR hnm hret => ?_
  show G p l e R s m args below meth c 4 D A H0 0 0 Q [mC cI cZ aM (M_beds, M_law, M_worths, M_sights, M_sight, M_signs, M_pad, M_lies, M_empty, M_list, M_waits, M_yard, M_last, M_used, M_sheets, M_nights, M_fleasOfGuests, M_fleasOfBeds, M_reason, M_row, M_bestRow, M_image, M_isKept)] 0 [(0, .ref (aM 0)), (1, .int x1)] []
  refine gq_aload_n C 0 1 dX6_goOut_0 rfl rfl ?_
  refine gq_iload_n C 1 2 dX6_goOut_1 rfl rfl ?_
  obtain ⟨r_2, hc, hf⟩ := gq_bd hf
  refine gq_callV C hA gm_X6_87 (c_X6_bedOf l D cI cZ aM x1 (M_beds, M_law, M_worths, M_sights, M_sight, M_signs, M_pad, M_lies, M_empty, M_list, M_waits, M_yard, M_last, M_used, M_sheets, M_nights, M_fleasOfGuests, M_fleasOfBeds, M_reason, M_row, M_bestRow, M_image, M_isKept) _ hc) rfl 0 0 rfl rfl rfl ⟨Nat.le_trans (Nat.le_of_ble_eq_true rfl) hR.1, Nat.le_trans (Nat.le_of_ble_eq_true rfl) hR.2.1⟩ ⟨Nat.zero_le _, Nat.zero_le _⟩ rfl (Nat.le_of_ble_eq_true rfl) dX6_goOut_2 [0] [mC cI cZ aM (M_beds, M_law, M_worths, M_sights, M_sight, M_signs, M_pad, M_lies, M_empty, M_list, M_waits, M_yard, M_last, M_used, M_sheets, M_nights, M_fleasOfGuests, M_fleasOfBeds, M_reason, M_row, M_bestRow, M_image, M_isKept)] 5 rfl (by decide) rfl rfl rfl [.int r_2] rfl ?_
  refine gq_istore_n C [(2, .int r_2), (0, .ref (aM 0)), (1, .int x1)] 6 dX6_goOut_5 (by decide) rfl rfl ?_
  refine gq_iload_n C 0 7 dX6_goOut_6 rfl rfl ?_
  refine gq_if_ge C 36 10 dX6_goOut_7 (by decide) rfl (fun h7 => ?_) (fun h7 => ?_)
  · replace hf := gq_ifp h7 hf
    refine gq_aload_n C 1 37 dX6_goOut_36 rfl rfl ?_
    refine gq_get C fo_X6_10 fw_X6_84 0 0 40 rfl rfl rfl dX6_goOut_37 rfl ?_
    refine gq_if_le C 64 43 dX6_goOut_40 (by decide) rfl (fun h40 => ?_) (fun h40 => ?_)
    · replace hf := gq_ifp h40 hf
      refine gq_aload_n C 1 65 dX6_goOut_64 rfl rfl ?_
      refine gq_get C fo_X6_7 fw_X6_23 0 0 68 rfl rfl rfl dX6_goOut_65 rfl ?_
      refine gq_iload_n C 0 69 dX6_goOut_68 rfl rfl ?_
      refine gq_bipush C (-6 : Int32) 71 dX6_goOut_69 (by decide) rfl ?_
      obtain ⟨h71, hf⟩ := gq_ok hf
      refine gq_iast C 0 4 72 [mC cI cZ aM (M_beds, M_law, M_worths, M_sights, M_sight, M_signs, M_pad, (upd M_lies r_2.toNatClampNeg (-6 : Int32)), M_empty, M_list, M_waits, M_yard, M_last, M_used, M_sheets, M_nights, M_fleasOfGuests, M_fleasOfBeds, M_reason, M_row, M_bestRow, M_image, M_isKept)] rfl rfl h71 rfl dX6_goOut_71 rfl ?_
      refine gq_aload_n C 1 73 dX6_goOut_72 rfl rfl ?_
      refine gq_get C fo_X6_9 fw_X6_26 0 0 76 rfl rfl rfl dX6_goOut_73 rfl ?_
      refine gq_aload_n C 1 77 dX6_goOut_76 rfl rfl ?_
      refine gq_get C fo_X6_8 fw_X6_81 0 0 80 rfl rfl rfl dX6_goOut_77 rfl ?_
      refine gq_iload_n C 0 81 dX6_goOut_80 rfl rfl ?_
      obtain ⟨h81, hf⟩ := gq_ok hf
      refine gq_iast C 0 5 82 [mC cI cZ aM (M_beds, M_law, M_worths, M_sights, M_sight, M_signs, M_pad, (upd M_lies r_2.toNatClampNeg (-6 : Int32)), M_empty, (upd M_list M_empty.toNatClampNeg r_2), M_waits, M_yard, M_last, M_used, M_sheets, M_nights, M_fleasOfGuests, M_fleasOfBeds, M_reason, M_row, M_bestRow, M_image, M_isKept)] rfl rfl h81 rfl dX6_goOut_81 rfl ?_
      refine gq_aload_n C 1 83 dX6_goOut_82 rfl rfl ?_
      refine gq_dup C 84 dX6_goOut_83 rfl rfl ?_
      refine gq_get C fo_X6_8 fw_X6_81 0 0 87 rfl rfl rfl dX6_goOut_84 rfl ?_
      refine gq_iconst C (nI 1) 88 dX6_goOut_87 (by decide) rfl ?_
      refine gq_iadd C 89 dX6_goOut_88 rfl ?_
      refine gq_put C fo_X6_8 fp_X6_8 rfl fw_X6_81 0 0 92 [mC cI cZ aM (M_beds, M_law, M_worths, M_sights, M_sight, M_signs, M_pad, (upd M_lies r_2.toNatClampNeg (-6 : Int32)), (M_empty + (nI 1)), (upd M_list M_empty.toNatClampNeg r_2), M_waits, M_yard, M_last, M_used, M_sheets, M_nights, M_fleasOfGuests, M_fleasOfBeds, M_reason, M_row, M_bestRow, M_image, M_isKept)] rfl rfl rfl rfl (Nat.le_of_ble_eq_true rfl) rfl dX6_goOut_89 rfl ?_
      obtain rfl := gq_lf hf
      exact hret dX6_goOut_92 gPost.rf
    · replace hf := gq_ifn h40 hf
      refine gq_aload_n C 1 44 dX6_goOut_43 rfl rfl ?_
      refine gq_get C fo_X6_11 fw_X6_29 0 0 47 rfl rfl rfl dX6_goOut_44 rfl ?_
      refine gq_iconst C (nI 0) 48 dX6_goOut_47 (by decide) rfl ?_
      refine gq_iald C 0 6 49 rfl rfl (by decide) dX6_goOut_48 rfl ?_
      refine gq_istore_n C [(3, .int (M_yard (nI 0).toNatClampNeg)), (2, .int r_2), (0, .ref (aM 0)), (1, .int x1)] 50 dX6_goOut_49 (by decide) rfl rfl ?_
      refine gq_aload_n C 2 51 dX6_goOut_50 rfl rfl ?_
      refine gq_iconst C (nI 0) 52 dX6_goOut_51 (by decide) rfl ?_
      obtain ⟨⟨M_beds_52, M_law_52, M_worths_52, M_sights_52, M_sight_52, M_signs_52, M_pad_52, M_lies_52, M_empty_52, M_list_52, M_waits_52, M_yard_52, M_last_52, M_used_52, M_sheets_52, M_nights_52, M_fleasOfGuests_52, M_fleasOfBeds_52, M_reason_52, M_row_52, M_bestRow_52, M_image_52, M_isKept_52⟩, hc, hf⟩ := gq_bd hf
      refine gq_callV C hA gm_X6_105 (c_X6_outOfYard l D cI cZ aM (nI 0) (M_beds, M_law, M_worths, M_sights, M_sight, M_signs, M_pad, M_lies, M_empty, M_list, M_waits, M_yard, M_last, M_used, M_sheets, M_nights, M_fleasOfGuests, M_fleasOfBeds, M_reason, M_row, M_bestRow, M_image, M_isKept) _ hc) rfl 0 0 rfl rfl rfl ⟨Nat.le_trans (Nat.le_of_ble_eq_true rfl) hR.1, Nat.le_trans (Nat.le_of_ble_eq_true rfl) hR.2.1⟩ ⟨Nat.zero_le _, Nat.zero_le _⟩ rfl (Nat.le_of_ble_eq_true rfl) dX6_goOut_52 [0] [mC cI cZ aM (M_beds_52, M_law_52, M_worths_52, M_sights_52, M_sight_52, M_signs_52, M_pad_52, M_lies_52, M_empty_52, M_list_52, M_waits_52, M_yard_52, M_last_52, M_used_52, M_sheets_52, M_nights_52, M_fleasOfGuests_52, M_fleasOfBeds_52, M_reason_52, M_row_52, M_bestRow_52, M_image_52, M_isKept_52)] 55 rfl (by decide) rfl rfl rfl [] rfl ?_
      refine gq_aload_n C 2 56 dX6_goOut_55 rfl rfl ?_
      refine gq_iload_n C 1 57 dX6_goOut_56 rfl rfl ?_
      refine gq_iload_n C 0 58 dX6_goOut_57 rfl rfl ?_
      obtain ⟨⟨M_beds_58, M_law_58, M_worths_58, M_sights_58, M_sight_58, M_signs_58, M_pad_58, M_lies_58, M_empty_58, M_list_58, M_waits_58, M_yard_58, M_last_58, M_used_58, M_sheets_58, M_nights_58, M_fleasOfGuests_58, M_fleasOfBeds_58, M_reason_58, M_row_58, M_bestRow_58, M_image_58, M_isKept_58⟩, hc, hf⟩ := gq_bd hf
      refine gq_callV C hA gm_X6_101 (c_X6_take l D cI cZ aM r_2 (M_yard (nI 0).toNatClampNeg) (M_beds_52, M_law_52, M_worths_52, M_sights_52, M_sight_52, M_signs_52, M_pad_52, M_lies_52, M_empty_52, M_list_52, M_waits_52, M_yard_52, M_last_52, M_used_52, M_sheets_52, M_nights_52, M_fleasOfGuests_52, M_fleasOfBeds_52, M_reason_52, M_row_52, M_bestRow_52, M_image_52, M_isKept_52) _ hc) rfl 0 0 rfl rfl rfl ⟨Nat.le_trans (Nat.le_of_ble_eq_true rfl) hR.1, Nat.le_trans (Nat.le_of_ble_eq_true rfl) hR.2.1⟩ ⟨Nat.zero_le _, Nat.zero_le _⟩ rfl (Nat.le_of_ble_eq_true rfl) dX6_goOut_58 [0] [mC cI cZ aM (M_beds_58, M_law_58, M_worths_58, M_sights_58, M_sight_58, M_signs_58, M_pad_58, M_lies_58, M_empty_58, M_list_58, M_waits_58, M_yard_58, M_last_58, M_used_58, M_sheets_58, M_nights_58, M_fleasOfGuests_58, M_fleasOfBeds_58, M_reason_58, M_row_58, M_bestRow_58, M_image_58, M_isKept_58)] 61 rfl (by decide) rfl rfl rfl [] rfl ?_
      refine gq_goto C 92 dX6_goOut_61 (by decide) ?_
      obtain rfl := gq_lf hf
      exact hret dX6_goOut_92 gPost.rf
  · replace hf := gq_ifn h7 hf
    refine gq_iconst C (nI 0) 11 dX6_goOut_10 (by decide) rfl ?_
    refine gq_istore_n C [(3, .int (nI 0)), (2, .int r_2), (0, .ref (aM 0)), (1, .int x1)] 12 dX6_goOut_11 (by decide) rfl rfl ?_
    have L12 : ∀ (kL : Int32 → Option (ModS)), (∀ (x3_L12 : Int32), kL x3_L12 = some rr → G p l e R s m args below meth c 4 D A H0 0 0 Q [mC cI cZ aM (M_beds, M_law, M_worths, M_sights, M_sight, M_signs, M_pad, M_lies, M_empty, M_list, M_waits, M_yard, M_last, M_used, M_sheets, M_nights, M_fleasOfGuests, M_fleasOfBeds, M_reason, M_row, M_bestRow, M_image, M_isKept)] 28 [(3, .int x3_L12), (2, .int r_2), (0, .ref (aM 0)), (1, .int x1)] []) → ∀ (n : Nat) (x3_L12 : Int32), f_X6_goOut_L12 x1 M_yard n x3_L12 kL = some rr → G p l e R s m args below meth c 4 D A H0 0 0 Q [mC cI cZ aM (M_beds, M_law, M_worths, M_sights, M_sight, M_signs, M_pad, M_lies, M_empty, M_list, M_waits, M_yard, M_last, M_used, M_sheets, M_nights, M_fleasOfGuests, M_fleasOfBeds, M_reason, M_row, M_bestRow, M_image, M_isKept)] 12 [(3, .int x3_L12), (2, .int r_2), (0, .ref (aM 0)), (1, .int x1)] [] := by
      intro kL hkL12 n
      induction n with
      | zero =>
        intro x3_L12 hf
        rw [f_X6_goOut_L12] at hf
        cases hf
      | succ n ihL12 =>
        intro x3_L12 hf
        rw [f_X6_goOut_L12] at hf
        refine gq_aload_n C 2 13 dX6_goOut_12 rfl rfl ?_
        refine gq_get C fo_X6_11 fw_X6_29 0 0 16 rfl rfl rfl dX6_goOut_13 rfl ?_
        refine gq_iload_n C 0 17 dX6_goOut_16 rfl rfl ?_
        obtain ⟨h17, hf⟩ := gq_ok hf
        refine gq_iald C 0 6 18 rfl rfl h17 dX6_goOut_17 rfl ?_
        refine gq_iload_n C 3 19 dX6_goOut_18 rfl rfl ?_
        refine gq_icmp_eq C 28 22 dX6_goOut_19 (by decide) rfl (fun h19 => ?_) (fun h19 => ?_)
        · replace hf := gq_ifp h19 hf
          exact hkL12 _ hf
        · replace hf := gq_ifn h19 hf
          refine gq_iinc C 0 [(3, .int (x3_L12 + (nI 1))), (2, .int r_2), (0, .ref (aM 0)), (1, .int x1)] 25 dX6_goOut_22 rfl rfl (by decide) rfl rfl ?_
          refine gq_goto C 12 dX6_goOut_25 (by decide) ?_
          exact ihL12 _ hf
    refine L12 _ (fun x3_L12 hf => ?_) _ _ hf
    refine gq_aload_n C 2 29 dX6_goOut_28 rfl rfl ?_
    refine gq_iload_n C 0 30 dX6_goOut_29 rfl rfl ?_
    obtain ⟨⟨M_beds_30, M_law_30, M_worths_30, M_sights_30, M_sight_30, M_signs_30, M_pad_30, M_lies_30, M_empty_30, M_list_30, M_waits_30, M_yard_30, M_last_30, M_used_30, M_sheets_30, M_nights_30, M_fleasOfGuests_30, M_fleasOfBeds_30, M_reason_30, M_row_30, M_bestRow_30, M_image_30, M_isKept_30⟩, hc, hf⟩ := gq_bd hf
    refine gq_callV C hA gm_X6_105 (c_X6_outOfYard l D cI cZ aM x3_L12 (M_beds, M_law, M_worths, M_sights, M_sight, M_signs, M_pad, M_lies, M_empty, M_list, M_waits, M_yard, M_last, M_used, M_sheets, M_nights, M_fleasOfGuests, M_fleasOfBeds, M_reason, M_row, M_bestRow, M_image, M_isKept) _ hc) rfl 0 0 rfl rfl rfl ⟨Nat.le_trans (Nat.le_of_ble_eq_true rfl) hR.1, Nat.le_trans (Nat.le_of_ble_eq_true rfl) hR.2.1⟩ ⟨Nat.zero_le _, Nat.zero_le _⟩ rfl (Nat.le_of_ble_eq_true rfl) dX6_goOut_30 [0] [mC cI cZ aM (M_beds_30, M_law_30, M_worths_30, M_sights_30, M_sight_30, M_signs_30, M_pad_30, M_lies_30, M_empty_30, M_list_30, M_waits_30, M_yard_30, M_last_30, M_used_30, M_sheets_30, M_nights_30, M_fleasOfGuests_30, M_fleasOfBeds_30, M_reason_30, M_row_30, M_bestRow_30, M_image_30, M_isKept_30)] 33 rfl (by decide) rfl rfl rfl [] rfl ?_
    refine gq_goto C 92 dX6_goOut_33 (by decide) ?_
    obtain rfl := gq_lf hf
    exact hret dX6_goOut_92 gPost.rf

def f_X6_pass_L2 (c_M_beds : Int32) (c_M_lies : (Nat → Int32)) : Nat → Int32 → (Nat → Int32) → Int32 → Int32 → (Int32 → (Nat → Int32) → Int32 → Int32 → Option (ModS)) → Option (ModS)
  | 0, _, _, _, _, _ => none
  | nL2 + 1, x1_L2, M_nights_L2, M_fleasOfGuests_L2, M_fleasOfBeds_L2, kL2 => (if c_M_beds ≤ x1_L2 then kL2 x1_L2 M_nights_L2 M_fleasOfGuests_L2 M_fleasOfBeds_L2 else (if x1_L2 < 0 ∨ 8 ≤ x1_L2.toNatClampNeg then none else (if (c_M_lies x1_L2.toNatClampNeg) < 0 then f_X6_pass_L2 c_M_beds c_M_lies nL2 (x1_L2 + (nI 1)) M_nights_L2 M_fleasOfGuests_L2 M_fleasOfBeds_L2 kL2 else (if x1_L2 < 0 ∨ 8 ≤ x1_L2.toNatClampNeg then none else (if x1_L2 < 0 ∨ 8 ≤ x1_L2.toNatClampNeg then none else (Option.bind (f_X6_has M_fleasOfBeds_L2 x1_L2) (fun r_34 => gJn (fun (z0_J72 : Int32) => gJn (fun (z0_J89 : Int32) => (if z0_J72 = 0 then f_X6_pass_L2 c_M_beds c_M_lies nL2 (x1_L2 + (nI 1)) (upd M_nights_L2 x1_L2.toNatClampNeg ((M_nights_L2 x1_L2.toNatClampNeg) + (nI 1))) (M_fleasOfGuests_L2 ||| (nI 0)) (M_fleasOfBeds_L2 ||| z0_J89) kL2 else (if x1_L2 < 0 ∨ 8 ≤ x1_L2.toNatClampNeg then none else (if (nI 8) ≤ (c_M_lies x1_L2.toNatClampNeg) then f_X6_pass_L2 c_M_beds c_M_lies nL2 (x1_L2 + (nI 1)) (upd M_nights_L2 x1_L2.toNatClampNeg ((M_nights_L2 x1_L2.toNatClampNeg) + (nI 1))) (M_fleasOfGuests_L2 ||| (nI 0)) (M_fleasOfBeds_L2 ||| z0_J89) kL2 else (if x1_L2 < 0 ∨ 8 ≤ x1_L2.toNatClampNeg then none else f_X6_pass_L2 c_M_beds c_M_lies nL2 (x1_L2 + (nI 1)) (upd M_nights_L2 x1_L2.toNatClampNeg ((M_nights_L2 x1_L2.toNatClampNeg) + (nI 1))) (M_fleasOfGuests_L2 ||| ((nI 1) <<< ((c_M_lies x1_L2.toNatClampNeg) &&& 31))) (M_fleasOfBeds_L2 ||| z0_J89) kL2))))) (fun kJ89 => (if z0_J72 = 0 then kJ89 (nI 0) else kJ89 ((nI 1) <<< (x1_L2 &&& 31))))) (fun kJ72 => (if r_34 = 0 then (if x1_L2 < 0 ∨ 8 ≤ x1_L2.toNatClampNeg then none else (if (nI 8) ≤ (c_M_lies x1_L2.toNatClampNeg) then kJ72 (nI 0) else (if x1_L2 < 0 ∨ 8 ≤ x1_L2.toNatClampNeg then none else (Option.bind (f_X6_has M_fleasOfGuests_L2 (c_M_lies x1_L2.toNatClampNeg)) (fun r_61 => (if r_61 = 0 then kJ72 (nI 0) else kJ72 (nI 1))))))) else kJ72 (nI 1))))))))))
def f_X6_pass : ModS → Option (ModS)
  | (M_beds, M_law, M_worths, M_sights, M_sight, M_signs, M_pad, M_lies, M_empty, M_list, M_waits, M_yard, M_last, M_used, M_sheets, M_nights, M_fleasOfGuests, M_fleasOfBeds, M_reason, M_row, M_bestRow, M_image, M_isKept) => f_X6_pass_L2 M_beds M_lies FU (nI 0) M_nights M_fleasOfGuests M_fleasOfBeds (fun x1_L2 M_nights_L2 M_fleasOfGuests_L2 M_fleasOfBeds_L2 => some (M_beds, M_law, M_worths, M_sights, M_sight, M_signs, M_pad, M_lies, M_empty, M_list, M_waits, M_yard, M_last, M_used, M_sheets, M_nights_L2, M_fleasOfGuests_L2, M_fleasOfBeds_L2, M_reason, M_row, M_bestRow, M_image, M_isKept))
set_option maxHeartbeats 4000000 in
set_option maxRecDepth 100000 in
theorem c_X6_pass (l : Launch) (D : va_G) (cI cZ : ClassId) (aM : Nat → Nat) (tM : ModS) (rr : ModS) (hf : f_X6_pass tM = some rr) : CT l D cI cZ yX6_pass cX6_pass 3 none 1 21 0 0 [.ref (aM 0)] ([mC cI cZ aM tM]) (gPost none ([mC cI cZ aM rr])) := by
  obtain ⟨M_beds, M_law, M_worths, M_sights, M_sight, M_signs, M_pad, M_lies, M_empty, M_list, M_waits, M_yard, M_last, M_used, M_sheets, M_nights, M_fleasOfGuests, M_fleasOfBeds, M_reason, M_row, M_bestRow, M_image, M_isKept⟩ := tM
  rw [f_X6_pass] at hf
  refine CT.mkV (by decide) (Nat.le_of_ble_eq_true rfl) fun {p} {e} {R} {s} {m} {args} {below} {meth} {c} {A} {H0} {Q} C hA hR hnm hret => ?_
  show G p l e R s m args below meth c 3 D A H0 0 0 Q [mC cI cZ aM (M_beds, M_law, M_worths, M_sights, M_sight, M_signs, M_pad, M_lies, M_empty, M_list, M_waits, M_yard, M_last, M_used, M_sheets, M_nights, M_fleasOfGuests, M_fleasOfBeds, M_reason, M_row, M_bestRow, M_image, M_isKept)] 0 [(0, .ref (aM 0))] []
  refine gq_iconst C (nI 0) 1 dX6_pass_0 (by decide) rfl ?_
  refine gq_istore_n C [(1, .int (nI 0)), (0, .ref (aM 0))] 2 dX6_pass_1 (by decide) rfl rfl ?_
  have L2 : ∀ (kL : Int32 → (Nat → Int32) → Int32 → Int32 → Option (ModS)), (∀ (x1_L2 : Int32) (M_nights_L2 : (Nat → Int32)) (M_fleasOfGuests_L2 : Int32) (M_fleasOfBeds_L2 : Int32), kL x1_L2 M_nights_L2 M_fleasOfGuests_L2 M_fleasOfBeds_L2 = some rr → G p l e R s m args below meth c 3 D A H0 0 0 Q [mC cI cZ aM (M_beds, M_law, M_worths, M_sights, M_sight, M_signs, M_pad, M_lies, M_empty, M_list, M_waits, M_yard, M_last, M_used, M_sheets, M_nights_L2, M_fleasOfGuests_L2, M_fleasOfBeds_L2, M_reason, M_row, M_bestRow, M_image, M_isKept)] 135 [(1, .int x1_L2), (0, .ref (aM 0))] []) → ∀ (n : Nat) (x1_L2 : Int32) (M_nights_L2 : (Nat → Int32)) (M_fleasOfGuests_L2 : Int32) (M_fleasOfBeds_L2 : Int32), f_X6_pass_L2 M_beds M_lies n x1_L2 M_nights_L2 M_fleasOfGuests_L2 M_fleasOfBeds_L2 kL = some rr → G p l e R s m args below meth c 3 D A H0 0 0 Q [mC cI cZ aM (M_beds, M_law, M_worths, M_sights, M_sight, M_signs, M_pad, M_lies, M_empty, M_list, M_waits, M_yard, M_last, M_used, M_sheets, M_nights_L2, M_fleasOfGuests_L2, M_fleasOfBeds_L2, M_reason, M_row, M_bestRow, M_image, M_isKept)] 2 [(1, .int x1_L2), (0, .ref (aM 0))] [] := by
    intro kL hkL2 n
    induction n with
    | zero =>
      intro x1_L2 M_nights_L2 M_fleasOfGuests_L2 M_fleasOfBeds_L2 hf
      rw [f_X6_pass_L2] at hf
      cases hf
    | succ n ihL2 =>
      intro x1_L2 M_nights_L2 M_fleasOfGuests_L2 M_fleasOfBeds_L2 hf
      rw [f_X6_pass_L2] at hf
      refine gq_iload_n C 0 3 dX6_pass_2 rfl rfl ?_
      refine gq_aload_n C 1 4 dX6_pass_3 rfl rfl ?_
      refine gq_get C fo_X6_0 fw_X6_7 0 0 7 rfl rfl rfl dX6_pass_4 rfl ?_
      refine gq_icmp_ge C 135 10 dX6_pass_7 (by decide) rfl (fun h7 => ?_) (fun h7 => ?_)
      · replace hf := gq_ifp h7 hf
        exact hkL2 _ _ _ _ hf
      · replace hf := gq_ifn h7 hf
        refine gq_aload_n C 1 11 dX6_pass_10 rfl rfl ?_
        refine gq_get C fo_X6_7 fw_X6_23 0 0 14 rfl rfl rfl dX6_pass_11 rfl ?_
        refine gq_iload_n C 0 15 dX6_pass_14 rfl rfl ?_
        obtain ⟨h15, hf⟩ := gq_ok hf
        refine gq_iald C 0 4 16 rfl rfl h15 dX6_pass_15 rfl ?_
        refine gq_if_lt C 129 19 dX6_pass_16 (by decide) rfl (fun h16 => ?_) (fun h16 => ?_)
        · replace hf := gq_ifp h16 hf
          refine gq_iinc C 0 [(1, .int (x1_L2 + (nI 1))), (0, .ref (aM 0))] 132 dX6_pass_129 rfl rfl (by decide) rfl rfl ?_
          refine gq_goto C 2 dX6_pass_132 (by decide) ?_
          exact ihL2 _ _ _ _ hf
        · replace hf := gq_ifn h16 hf
          refine gq_aload_n C 1 20 dX6_pass_19 rfl rfl ?_
          refine gq_get C fo_X6_15 fw_X6_41 0 0 23 rfl rfl rfl dX6_pass_20 rfl ?_
          refine gq_iload_n C 0 24 dX6_pass_23 rfl rfl ?_
          refine gq_dup2 C 25 dX6_pass_24 rfl rfl rfl ?_
          obtain ⟨h25, hf⟩ := gq_ok hf
          refine gq_iald C 0 10 26 rfl rfl h25 dX6_pass_25 rfl ?_
          refine gq_iconst C (nI 1) 27 dX6_pass_26 (by decide) rfl ?_
          refine gq_iadd C 28 dX6_pass_27 rfl ?_
          obtain ⟨h28, hf⟩ := gq_ok hf
          refine gq_iast C 0 10 29 [mC cI cZ aM (M_beds, M_law, M_worths, M_sights, M_sight, M_signs, M_pad, M_lies, M_empty, M_list, M_waits, M_yard, M_last, M_used, M_sheets, (upd M_nights_L2 x1_L2.toNatClampNeg ((M_nights_L2 x1_L2.toNatClampNeg) + (nI 1))), M_fleasOfGuests_L2, M_fleasOfBeds_L2, M_reason, M_row, M_bestRow, M_image, M_isKept)] rfl rfl h28 rfl dX6_pass_28 rfl ?_
          refine gq_aload_n C 1 30 dX6_pass_29 rfl rfl ?_
          refine gq_get C fo_X6_17 fw_X6_109 0 0 33 rfl rfl rfl dX6_pass_30 rfl ?_
          refine gq_iload_n C 0 34 dX6_pass_33 rfl rfl ?_
          obtain ⟨r_34, hc, hf⟩ := gq_bd hf
          refine gq_callS C hA gm_X6_112 (c_X6_has l D cI cZ  M_fleasOfBeds_L2 x1_L2 _ hc) rfl ⟨Nat.le_trans (Nat.le_of_ble_eq_true rfl) hR.1, Nat.le_trans (Nat.le_of_ble_eq_true rfl) hR.2.1⟩ ⟨Nat.zero_le _, Nat.zero_le _⟩ rfl (Nat.le_of_ble_eq_true rfl) dX6_pass_34 [] [mC cI cZ aM (M_beds, M_law, M_worths, M_sights, M_sight, M_signs, M_pad, M_lies, M_empty, M_list, M_waits, M_yard, M_last, M_used, M_sheets, (upd M_nights_L2 x1_L2.toNatClampNeg ((M_nights_L2 x1_L2.toNatClampNeg) + (nI 1))), M_fleasOfGuests_L2, M_fleasOfBeds_L2, M_reason, M_row, M_bestRow, M_image, M_isKept)] 37 rfl (by decide) rfl rfl rfl [.int r_34] rfl ?_
          refine gq_jn (P := fun k => ∀ (z0_J72 : Int32), k z0_J72 = some rr → G p l e R s m args below meth c 3 D A H0 0 0 Q [mC cI cZ aM (M_beds, M_law, M_worths, M_sights, M_sight, M_signs, M_pad, M_lies, M_empty, M_list, M_waits, M_yard, M_last, M_used, M_sheets, (upd M_nights_L2 x1_L2.toNatClampNeg ((M_nights_L2 x1_L2.toNatClampNeg) + (nI 1))), M_fleasOfGuests_L2, M_fleasOfBeds_L2, M_reason, M_row, M_bestRow, M_image, M_isKept)] 72 [(1, .int x1_L2), (0, .ref (aM 0))] [.int z0_J72]) hf (fun z0_J72 hf => ?_) (fun kJ72 hJ72 hf => ?_)
          · refine gq_istore_n C [(2, .int z0_J72), (1, .int x1_L2), (0, .ref (aM 0))] 73 dX6_pass_72 (by decide) rfl rfl ?_
            refine gq_aload_n C 2 74 dX6_pass_73 rfl rfl ?_
            refine gq_dup C 75 dX6_pass_74 rfl rfl ?_
            refine gq_get C fo_X6_17 fw_X6_109 0 0 78 rfl rfl rfl dX6_pass_75 rfl ?_
            refine gq_iload_n C 0 79 dX6_pass_78 rfl rfl ?_
            refine gq_jn (P := fun k => ∀ (z0_J89 : Int32), k z0_J89 = some rr → G p l e R s m args below meth c 3 D A H0 0 0 Q [mC cI cZ aM (M_beds, M_law, M_worths, M_sights, M_sight, M_signs, M_pad, M_lies, M_empty, M_list, M_waits, M_yard, M_last, M_used, M_sheets, (upd M_nights_L2 x1_L2.toNatClampNeg ((M_nights_L2 x1_L2.toNatClampNeg) + (nI 1))), M_fleasOfGuests_L2, M_fleasOfBeds_L2, M_reason, M_row, M_bestRow, M_image, M_isKept)] 89 [(2, .int z0_J72), (1, .int x1_L2), (0, .ref (aM 0))] [.int z0_J89, .int M_fleasOfBeds_L2, .ref (aM 0)]) hf (fun z0_J89 hf => ?_) (fun kJ89 hJ89 hf => ?_)
            · refine gq_ior C 90 dX6_pass_89 rfl ?_
              refine gq_put C fo_X6_17 fp_X6_17 rfl fw_X6_109 0 0 93 [mC cI cZ aM (M_beds, M_law, M_worths, M_sights, M_sight, M_signs, M_pad, M_lies, M_empty, M_list, M_waits, M_yard, M_last, M_used, M_sheets, (upd M_nights_L2 x1_L2.toNatClampNeg ((M_nights_L2 x1_L2.toNatClampNeg) + (nI 1))), M_fleasOfGuests_L2, (M_fleasOfBeds_L2 ||| z0_J89), M_reason, M_row, M_bestRow, M_image, M_isKept)] rfl rfl rfl rfl (Nat.le_of_ble_eq_true rfl) rfl dX6_pass_90 rfl ?_
              refine gq_aload_n C 2 94 dX6_pass_93 rfl rfl ?_
              refine gq_dup C 95 dX6_pass_94 rfl rfl ?_
              refine gq_get C fo_X6_16 fw_X6_116 0 0 98 rfl rfl rfl dX6_pass_95 rfl ?_
              refine gq_iload_n C 0 99 dX6_pass_98 rfl rfl ?_
              refine gq_if_eq C 124 102 dX6_pass_99 (by decide) rfl (fun h99 => ?_) (fun h99 => ?_)
              · replace hf := gq_ifp h99 hf
                refine gq_iconst C (nI 0) 125 dX6_pass_124 (by decide) rfl ?_
                refine gq_ior C 126 dX6_pass_125 rfl ?_
                refine gq_put C fo_X6_16 fp_X6_16 rfl fw_X6_116 0 0 129 [mC cI cZ aM (M_beds, M_law, M_worths, M_sights, M_sight, M_signs, M_pad, M_lies, M_empty, M_list, M_waits, M_yard, M_last, M_used, M_sheets, (upd M_nights_L2 x1_L2.toNatClampNeg ((M_nights_L2 x1_L2.toNatClampNeg) + (nI 1))), (M_fleasOfGuests_L2 ||| (nI 0)), (M_fleasOfBeds_L2 ||| z0_J89), M_reason, M_row, M_bestRow, M_image, M_isKept)] rfl rfl rfl rfl (Nat.le_of_ble_eq_true rfl) rfl dX6_pass_126 rfl ?_
                refine gq_iinc C 1 [(1, .int (x1_L2 + (nI 1))), (2, .int z0_J72), (0, .ref (aM 0))] 132 dX6_pass_129 rfl rfl (by decide) rfl rfl ?_
                refine gq_goto C 2 dX6_pass_132 (by decide) ?_
                refine gq_lv [0, 2] rfl ?_
                exact ihL2 _ _ _ _ hf
              · replace hf := gq_ifn h99 hf
                refine gq_aload_n C 2 103 dX6_pass_102 rfl rfl ?_
                refine gq_get C fo_X6_7 fw_X6_23 0 0 106 rfl rfl rfl dX6_pass_103 rfl ?_
                refine gq_iload_n C 1 107 dX6_pass_106 rfl rfl ?_
                obtain ⟨h107, hf⟩ := gq_ok hf
                refine gq_iald C 0 4 108 rfl rfl h107 dX6_pass_107 rfl ?_
                refine gq_bipush C (nI 8) 110 dX6_pass_108 (by decide) rfl ?_
                refine gq_icmp_ge C 124 113 dX6_pass_110 (by decide) rfl (fun h110 => ?_) (fun h110 => ?_)
                · replace hf := gq_ifp h110 hf
                  refine gq_iconst C (nI 0) 125 dX6_pass_124 (by decide) rfl ?_
                  refine gq_ior C 126 dX6_pass_125 rfl ?_
                  refine gq_put C fo_X6_16 fp_X6_16 rfl fw_X6_116 0 0 129 [mC cI cZ aM (M_beds, M_law, M_worths, M_sights, M_sight, M_signs, M_pad, M_lies, M_empty, M_list, M_waits, M_yard, M_last, M_used, M_sheets, (upd M_nights_L2 x1_L2.toNatClampNeg ((M_nights_L2 x1_L2.toNatClampNeg) + (nI 1))), (M_fleasOfGuests_L2 ||| (nI 0)), (M_fleasOfBeds_L2 ||| z0_J89), M_reason, M_row, M_bestRow, M_image, M_isKept)] rfl rfl rfl rfl (Nat.le_of_ble_eq_true rfl) rfl dX6_pass_126 rfl ?_
                  refine gq_iinc C 1 [(1, .int (x1_L2 + (nI 1))), (2, .int z0_J72), (0, .ref (aM 0))] 132 dX6_pass_129 rfl rfl (by decide) rfl rfl ?_
                  refine gq_goto C 2 dX6_pass_132 (by decide) ?_
                  refine gq_lv [0, 2] rfl ?_
                  exact ihL2 _ _ _ _ hf
                · replace hf := gq_ifn h110 hf
                  refine gq_iconst C (nI 1) 114 dX6_pass_113 (by decide) rfl ?_
                  refine gq_aload_n C 2 115 dX6_pass_114 rfl rfl ?_
                  refine gq_get C fo_X6_7 fw_X6_23 0 0 118 rfl rfl rfl dX6_pass_115 rfl ?_
                  refine gq_iload_n C 1 119 dX6_pass_118 rfl rfl ?_
                  obtain ⟨h119, hf⟩ := gq_ok hf
                  refine gq_iald C 0 4 120 rfl rfl h119 dX6_pass_119 rfl ?_
                  refine gq_ishl C 121 dX6_pass_120 rfl ?_
                  refine gq_goto C 125 dX6_pass_121 (by decide) ?_
                  refine gq_ior C 126 dX6_pass_125 rfl ?_
                  refine gq_put C fo_X6_16 fp_X6_16 rfl fw_X6_116 0 0 129 [mC cI cZ aM (M_beds, M_law, M_worths, M_sights, M_sight, M_signs, M_pad, M_lies, M_empty, M_list, M_waits, M_yard, M_last, M_used, M_sheets, (upd M_nights_L2 x1_L2.toNatClampNeg ((M_nights_L2 x1_L2.toNatClampNeg) + (nI 1))), (M_fleasOfGuests_L2 ||| ((nI 1) <<< ((M_lies x1_L2.toNatClampNeg) &&& 31))), (M_fleasOfBeds_L2 ||| z0_J89), M_reason, M_row, M_bestRow, M_image, M_isKept)] rfl rfl rfl rfl (Nat.le_of_ble_eq_true rfl) rfl dX6_pass_126 rfl ?_
                  refine gq_iinc C 1 [(1, .int (x1_L2 + (nI 1))), (2, .int z0_J72), (0, .ref (aM 0))] 132 dX6_pass_129 rfl rfl (by decide) rfl rfl ?_
                  refine gq_goto C 2 dX6_pass_132 (by decide) ?_
                  refine gq_lv [0, 2] rfl ?_
                  exact ihL2 _ _ _ _ hf
            · refine gq_if_eq C 88 82 dX6_pass_79 (by decide) rfl (fun h79 => ?_) (fun h79 => ?_)
              · replace hf := gq_ifp h79 hf
                refine gq_iconst C (nI 0) 89 dX6_pass_88 (by decide) rfl ?_
                exact hJ89 _ hf
              · replace hf := gq_ifn h79 hf
                refine gq_iconst C (nI 1) 83 dX6_pass_82 (by decide) rfl ?_
                refine gq_iload_n C 1 84 dX6_pass_83 rfl rfl ?_
                refine gq_ishl C 85 dX6_pass_84 rfl ?_
                refine gq_goto C 89 dX6_pass_85 (by decide) ?_
                exact hJ89 _ hf
          · refine gq_if_ne C 67 40 dX6_pass_37 (by decide) rfl (fun h37 => ?_) (fun h37 => ?_)
            · replace hf := gq_ifn h37 hf
              refine gq_iconst C (nI 1) 68 dX6_pass_67 (by decide) rfl ?_
              refine gq_goto C 72 dX6_pass_68 (by decide) ?_
              exact hJ72 _ hf
            · replace hf := gq_ifp h37 hf
              refine gq_aload_n C 1 41 dX6_pass_40 rfl rfl ?_
              refine gq_get C fo_X6_7 fw_X6_23 0 0 44 rfl rfl rfl dX6_pass_41 rfl ?_
              refine gq_iload_n C 0 45 dX6_pass_44 rfl rfl ?_
              obtain ⟨h45, hf⟩ := gq_ok hf
              refine gq_iald C 0 4 46 rfl rfl h45 dX6_pass_45 rfl ?_
              refine gq_bipush C (nI 8) 48 dX6_pass_46 (by decide) rfl ?_
              refine gq_icmp_ge C 71 51 dX6_pass_48 (by decide) rfl (fun h48 => ?_) (fun h48 => ?_)
              · replace hf := gq_ifp h48 hf
                refine gq_iconst C (nI 0) 72 dX6_pass_71 (by decide) rfl ?_
                exact hJ72 _ hf
              · replace hf := gq_ifn h48 hf
                refine gq_aload_n C 1 52 dX6_pass_51 rfl rfl ?_
                refine gq_get C fo_X6_16 fw_X6_116 0 0 55 rfl rfl rfl dX6_pass_52 rfl ?_
                refine gq_aload_n C 1 56 dX6_pass_55 rfl rfl ?_
                refine gq_get C fo_X6_7 fw_X6_23 0 0 59 rfl rfl rfl dX6_pass_56 rfl ?_
                refine gq_iload_n C 0 60 dX6_pass_59 rfl rfl ?_
                obtain ⟨h60, hf⟩ := gq_ok hf
                refine gq_iald C 0 4 61 rfl rfl h60 dX6_pass_60 rfl ?_
                obtain ⟨r_61, hc, hf⟩ := gq_bd hf
                refine gq_callS C hA gm_X6_112 (c_X6_has l D cI cZ  M_fleasOfGuests_L2 (M_lies x1_L2.toNatClampNeg) _ hc) rfl ⟨Nat.le_trans (Nat.le_of_ble_eq_true rfl) hR.1, Nat.le_trans (Nat.le_of_ble_eq_true rfl) hR.2.1⟩ ⟨Nat.zero_le _, Nat.zero_le _⟩ rfl (Nat.le_of_ble_eq_true rfl) dX6_pass_61 [] [mC cI cZ aM (M_beds, M_law, M_worths, M_sights, M_sight, M_signs, M_pad, M_lies, M_empty, M_list, M_waits, M_yard, M_last, M_used, M_sheets, (upd M_nights_L2 x1_L2.toNatClampNeg ((M_nights_L2 x1_L2.toNatClampNeg) + (nI 1))), M_fleasOfGuests_L2, M_fleasOfBeds_L2, M_reason, M_row, M_bestRow, M_image, M_isKept)] 64 rfl (by decide) rfl rfl rfl [.int r_61] rfl ?_
                refine gq_if_eq C 71 67 dX6_pass_64 (by decide) rfl (fun h64 => ?_) (fun h64 => ?_)
                · replace hf := gq_ifp h64 hf
                  refine gq_iconst C (nI 0) 72 dX6_pass_71 (by decide) rfl ?_
                  exact hJ72 _ hf
                · replace hf := gq_ifn h64 hf
                  refine gq_iconst C (nI 1) 68 dX6_pass_67 (by decide) rfl ?_
                  refine gq_goto C 72 dX6_pass_68 (by decide) ?_
                  exact hJ72 _ hf
  refine L2 _ (fun x1_L2 M_nights_L2 M_fleasOfGuests_L2 M_fleasOfBeds_L2 hf => ?_) _ _ _ _ _ hf
  obtain rfl := gq_lf hf
  exact hret dX6_pass_135 gPost.rf

def f_X6_happen : Int32 → ModS → Option (Int32 × ModS)
  | x1, (M_beds, M_law, M_worths, M_sights, M_sight, M_signs, M_pad, M_lies, M_empty, M_list, M_waits, M_yard, M_last, M_used, M_sheets, M_nights, M_fleasOfGuests, M_fleasOfBeds, M_reason, M_row, M_bestRow, M_image, M_isKept) => (if x1 = (nI 100) then (Option.bind (f_X6_pass (M_beds, M_law, M_worths, M_sights, M_sight, M_signs, M_pad, M_lies, M_empty, M_list, M_waits, M_yard, M_last, M_used, M_sheets, M_nights, M_fleasOfGuests, M_fleasOfBeds, M_reason, M_row, M_bestRow, M_image, M_isKept)) (fun (M_beds_7, M_law_7, M_worths_7, M_sights_7, M_sight_7, M_signs_7, M_pad_7, M_lies_7, M_empty_7, M_list_7, M_waits_7, M_yard_7, M_last_7, M_used_7, M_sheets_7, M_nights_7, M_fleasOfGuests_7, M_fleasOfBeds_7, M_reason_7, M_row_7, M_bestRow_7, M_image_7, M_isKept_7) => some ((nI 0), (M_beds_7, M_law_7, M_worths_7, M_sights_7, M_sight_7, M_signs_7, M_pad_7, M_lies_7, M_empty_7, M_list_7, M_waits_7, M_yard_7, M_last_7, M_used_7, M_sheets_7, M_nights_7, M_fleasOfGuests_7, M_fleasOfBeds_7, M_reason_7, M_row_7, M_bestRow_7, M_image_7, M_isKept_7)))) else (if (nI 8) ≤ x1 then (Option.bind (f_X6_isThere (x1 - x1 / (nI 8) * (nI 8)) (M_beds, M_law, M_worths, M_sights, M_sight, M_signs, M_pad, M_lies, M_empty, M_list, M_waits, M_yard, M_last, M_used, M_sheets, M_nights, M_fleasOfGuests, M_fleasOfBeds, M_reason, M_row, M_bestRow, M_image, M_isKept)) (fun r_43 => (if r_43 = 0 then some ((nI 2), (M_beds, M_law, M_worths, M_sights, M_sight, M_signs, M_pad, M_lies, M_empty, M_list, M_waits, M_yard, M_last, M_used, M_sheets, M_nights, M_fleasOfGuests, M_fleasOfBeds, M_reason, M_row, M_bestRow, M_image, M_isKept)) else (Option.bind (f_X6_goOut (x1 - x1 / (nI 8) * (nI 8)) (M_beds, M_law, M_worths, M_sights, M_sight, M_signs, M_pad, M_lies, M_empty, M_list, M_waits, M_yard, M_last, M_used, M_sheets, M_nights, M_fleasOfGuests, M_fleasOfBeds, M_reason, M_row, M_bestRow, M_image, M_isKept)) (fun (M_beds_53, M_law_53, M_worths_53, M_sights_53, M_sight_53, M_signs_53, M_pad_53, M_lies_53, M_empty_53, M_list_53, M_waits_53, M_yard_53, M_last_53, M_used_53, M_sheets_53, M_nights_53, M_fleasOfGuests_53, M_fleasOfBeds_53, M_reason_53, M_row_53, M_bestRow_53, M_image_53, M_isKept_53) => some ((nI 0), (M_beds_53, M_law_53, M_worths_53, M_sights_53, M_sight_53, M_signs_53, M_pad_53, M_lies_53, M_empty_53, M_list_53, M_waits_53, M_yard_53, M_last_53, M_used_53, M_sheets_53, M_nights_53, M_fleasOfGuests_53, M_fleasOfBeds_53, M_reason_53, M_row_53, M_bestRow_53, M_image_53, M_isKept_53))))))) else (Option.bind (f_X6_isThere (x1 - x1 / (nI 8) * (nI 8)) (M_beds, M_law, M_worths, M_sights, M_sight, M_signs, M_pad, M_lies, M_empty, M_list, M_waits, M_yard, M_last, M_used, M_sheets, M_nights, M_fleasOfGuests, M_fleasOfBeds, M_reason, M_row, M_bestRow, M_image, M_isKept)) (fun r_25 => (if r_25 = 0 then (Option.bind (f_X6_comeIn (x1 - x1 / (nI 8) * (nI 8)) (M_beds, M_law, M_worths, M_sights, M_sight, M_signs, M_pad, M_lies, M_empty, M_list, M_waits, M_yard, M_last, M_used, M_sheets, M_nights, M_fleasOfGuests, M_fleasOfBeds, M_reason, M_row, M_bestRow, M_image, M_isKept)) (fun (M_beds_35, M_law_35, M_worths_35, M_sights_35, M_sight_35, M_signs_35, M_pad_35, M_lies_35, M_empty_35, M_list_35, M_waits_35, M_yard_35, M_last_35, M_used_35, M_sheets_35, M_nights_35, M_fleasOfGuests_35, M_fleasOfBeds_35, M_reason_35, M_row_35, M_bestRow_35, M_image_35, M_isKept_35) => some ((nI 0), (M_beds_35, M_law_35, M_worths_35, M_sights_35, M_sight_35, M_signs_35, M_pad_35, M_lies_35, M_empty_35, M_list_35, M_waits_35, M_yard_35, M_last_35, M_used_35, M_sheets_35, M_nights_35, M_fleasOfGuests_35, M_fleasOfBeds_35, M_reason_35, M_row_35, M_bestRow_35, M_image_35, M_isKept_35)))) else some ((nI 1), (M_beds, M_law, M_worths, M_sights, M_sight, M_signs, M_pad, M_lies, M_empty, M_list, M_waits, M_yard, M_last, M_used, M_sheets, M_nights, M_fleasOfGuests, M_fleasOfBeds, M_reason, M_row, M_bestRow, M_image, M_isKept)))))))
set_option maxHeartbeats 4000000 in
set_option maxRecDepth 100000 in
theorem c_X6_happen (l : Launch) (D : va_G) (cI cZ : ClassId) (aM : Nat → Nat) (x1 : Int32) (tM : ModS) (rr : Int32 × ModS) (hf : f_X6_happen x1 tM = some rr) : CT l D cI cZ yX6_happen cX6_happen 3 (some .int) 3 70 0 0 [.ref (aM 0), .int x1] ([mC cI cZ aM tM]) (gPost (some (.int rr.1)) ([mC cI cZ aM rr.2])) := by
  obtain ⟨M_beds, M_law, M_worths, M_sights, M_sight, M_signs, M_pad, M_lies, M_empty, M_list, M_waits, M_yard, M_last, M_used, M_sheets, M_nights, M_fleasOfGuests, M_fleasOfBeds, M_reason, M_row, M_bestRow, M_image, M_isKept⟩ := tM
  rw [f_X6_happen] at hf
  refine CT.mkI (by decide) (Nat.le_of_ble_eq_true rfl) fun {p} {e} {R} {s} {m} {args} {below} {meth} {c} {A} {H0} {Q} C hA hR hret => ?_
  show G p l e R s m args below meth c 3 D A H0 0 0 Q [mC cI cZ aM (M_beds, M_law, M_worths, M_sights, M_sight, M_signs, M_pad, M_lies, M_empty, M_list, M_waits, M_yard, M_last, M_used, M_sheets, M_nights, M_fleasOfGuests, M_fleasOfBeds, M_reason, M_row, M_bestRow, M_image, M_isKept)] 0 [(0, .ref (aM 0)), (1, .int x1)] []
  refine gq_iload_n C 1 1 dX6_happen_0 rfl rfl ?_
  refine gq_bipush C (nI 100) 3 dX6_happen_1 (by decide) rfl ?_
  refine gq_icmp_ne C 12 6 dX6_happen_3 (by decide) rfl (fun h3 => ?_) (fun h3 => ?_)
  · replace hf := gq_ifn h3 hf
    refine gq_iload_n C 1 13 dX6_happen_12 rfl rfl ?_
    refine gq_bipush C (nI 8) 15 dX6_happen_13 (by decide) rfl ?_
    refine gq_irem C 16 dX6_happen_15 (by decide) rfl ?_
    refine gq_istore_n C [(2, .int (x1 - x1 / (nI 8) * (nI 8))), (0, .ref (aM 0)), (1, .int x1)] 17 dX6_happen_16 (by decide) rfl rfl ?_
    refine gq_iload_n C 2 18 dX6_happen_17 rfl rfl ?_
    refine gq_bipush C (nI 8) 20 dX6_happen_18 (by decide) rfl ?_
    refine gq_icmp_ge C 41 23 dX6_happen_20 (by decide) rfl (fun h20 => ?_) (fun h20 => ?_)
    · replace hf := gq_ifp h20 hf
      refine gq_aload_n C 1 42 dX6_happen_41 rfl rfl ?_
      refine gq_iload_n C 0 43 dX6_happen_42 rfl rfl ?_
      obtain ⟨r_43, hc, hf⟩ := gq_bd hf
      refine gq_callV C hA gm_X6_122 (c_X6_isThere l D cI cZ aM (x1 - x1 / (nI 8) * (nI 8)) (M_beds, M_law, M_worths, M_sights, M_sight, M_signs, M_pad, M_lies, M_empty, M_list, M_waits, M_yard, M_last, M_used, M_sheets, M_nights, M_fleasOfGuests, M_fleasOfBeds, M_reason, M_row, M_bestRow, M_image, M_isKept) _ hc) rfl 0 0 rfl rfl rfl ⟨Nat.le_trans (Nat.le_of_ble_eq_true rfl) hR.1, Nat.le_trans (Nat.le_of_ble_eq_true rfl) hR.2.1⟩ ⟨Nat.zero_le _, Nat.zero_le _⟩ rfl (Nat.le_of_ble_eq_true rfl) dX6_happen_43 [0] [mC cI cZ aM (M_beds, M_law, M_worths, M_sights, M_sight, M_signs, M_pad, M_lies, M_empty, M_list, M_waits, M_yard, M_last, M_used, M_sheets, M_nights, M_fleasOfGuests, M_fleasOfBeds, M_reason, M_row, M_bestRow, M_image, M_isKept)] 46 rfl (by decide) rfl rfl rfl [.int r_43] rfl ?_
      refine gq_if_ne C 51 49 dX6_happen_46 (by decide) rfl (fun h46 => ?_) (fun h46 => ?_)
      · replace hf := gq_ifn h46 hf
        refine gq_aload_n C 1 52 dX6_happen_51 rfl rfl ?_
        refine gq_iload_n C 0 53 dX6_happen_52 rfl rfl ?_
        obtain ⟨⟨M_beds_53, M_law_53, M_worths_53, M_sights_53, M_sight_53, M_signs_53, M_pad_53, M_lies_53, M_empty_53, M_list_53, M_waits_53, M_yard_53, M_last_53, M_used_53, M_sheets_53, M_nights_53, M_fleasOfGuests_53, M_fleasOfBeds_53, M_reason_53, M_row_53, M_bestRow_53, M_image_53, M_isKept_53⟩, hc, hf⟩ := gq_bd hf
        refine gq_callV C hA gm_X6_128 (c_X6_goOut l D cI cZ aM (x1 - x1 / (nI 8) * (nI 8)) (M_beds, M_law, M_worths, M_sights, M_sight, M_signs, M_pad, M_lies, M_empty, M_list, M_waits, M_yard, M_last, M_used, M_sheets, M_nights, M_fleasOfGuests, M_fleasOfBeds, M_reason, M_row, M_bestRow, M_image, M_isKept) _ hc) rfl 0 0 rfl rfl rfl ⟨Nat.le_trans (Nat.le_of_ble_eq_true rfl) hR.1, Nat.le_trans (Nat.le_of_ble_eq_true rfl) hR.2.1⟩ ⟨Nat.zero_le _, Nat.zero_le _⟩ rfl (Nat.le_of_ble_eq_true rfl) dX6_happen_53 [0] [mC cI cZ aM (M_beds_53, M_law_53, M_worths_53, M_sights_53, M_sight_53, M_signs_53, M_pad_53, M_lies_53, M_empty_53, M_list_53, M_waits_53, M_yard_53, M_last_53, M_used_53, M_sheets_53, M_nights_53, M_fleasOfGuests_53, M_fleasOfBeds_53, M_reason_53, M_row_53, M_bestRow_53, M_image_53, M_isKept_53)] 56 rfl (by decide) rfl rfl rfl [] rfl ?_
        refine gq_iconst C (nI 0) 57 dX6_happen_56 (by decide) rfl ?_
        obtain rfl := gq_lf hf
        exact hret dX6_happen_57 gPost.rf
      · replace hf := gq_ifp h46 hf
        refine gq_iconst C (nI 2) 50 dX6_happen_49 (by decide) rfl ?_
        obtain rfl := gq_lf hf
        exact hret dX6_happen_50 gPost.rf
    · replace hf := gq_ifn h20 hf
      refine gq_aload_n C 1 24 dX6_happen_23 rfl rfl ?_
      refine gq_iload_n C 0 25 dX6_happen_24 rfl rfl ?_
      obtain ⟨r_25, hc, hf⟩ := gq_bd hf
      refine gq_callV C hA gm_X6_122 (c_X6_isThere l D cI cZ aM (x1 - x1 / (nI 8) * (nI 8)) (M_beds, M_law, M_worths, M_sights, M_sight, M_signs, M_pad, M_lies, M_empty, M_list, M_waits, M_yard, M_last, M_used, M_sheets, M_nights, M_fleasOfGuests, M_fleasOfBeds, M_reason, M_row, M_bestRow, M_image, M_isKept) _ hc) rfl 0 0 rfl rfl rfl ⟨Nat.le_trans (Nat.le_of_ble_eq_true rfl) hR.1, Nat.le_trans (Nat.le_of_ble_eq_true rfl) hR.2.1⟩ ⟨Nat.zero_le _, Nat.zero_le _⟩ rfl (Nat.le_of_ble_eq_true rfl) dX6_happen_25 [0] [mC cI cZ aM (M_beds, M_law, M_worths, M_sights, M_sight, M_signs, M_pad, M_lies, M_empty, M_list, M_waits, M_yard, M_last, M_used, M_sheets, M_nights, M_fleasOfGuests, M_fleasOfBeds, M_reason, M_row, M_bestRow, M_image, M_isKept)] 28 rfl (by decide) rfl rfl rfl [.int r_25] rfl ?_
      refine gq_if_eq C 33 31 dX6_happen_28 (by decide) rfl (fun h28 => ?_) (fun h28 => ?_)
      · replace hf := gq_ifp h28 hf
        refine gq_aload_n C 1 34 dX6_happen_33 rfl rfl ?_
        refine gq_iload_n C 0 35 dX6_happen_34 rfl rfl ?_
        obtain ⟨⟨M_beds_35, M_law_35, M_worths_35, M_sights_35, M_sight_35, M_signs_35, M_pad_35, M_lies_35, M_empty_35, M_list_35, M_waits_35, M_yard_35, M_last_35, M_used_35, M_sheets_35, M_nights_35, M_fleasOfGuests_35, M_fleasOfBeds_35, M_reason_35, M_row_35, M_bestRow_35, M_image_35, M_isKept_35⟩, hc, hf⟩ := gq_bd hf
        refine gq_callV C hA gm_X6_125 (c_X6_comeIn l D cI cZ aM (x1 - x1 / (nI 8) * (nI 8)) (M_beds, M_law, M_worths, M_sights, M_sight, M_signs, M_pad, M_lies, M_empty, M_list, M_waits, M_yard, M_last, M_used, M_sheets, M_nights, M_fleasOfGuests, M_fleasOfBeds, M_reason, M_row, M_bestRow, M_image, M_isKept) _ hc) rfl 0 0 rfl rfl rfl ⟨Nat.le_trans (Nat.le_of_ble_eq_true rfl) hR.1, Nat.le_trans (Nat.le_of_ble_eq_true rfl) hR.2.1⟩ ⟨Nat.zero_le _, Nat.zero_le _⟩ rfl (Nat.le_of_ble_eq_true rfl) dX6_happen_35 [0] [mC cI cZ aM (M_beds_35, M_law_35, M_worths_35, M_sights_35, M_sight_35, M_signs_35, M_pad_35, M_lies_35, M_empty_35, M_list_35, M_waits_35, M_yard_35, M_last_35, M_used_35, M_sheets_35, M_nights_35, M_fleasOfGuests_35, M_fleasOfBeds_35, M_reason_35, M_row_35, M_bestRow_35, M_image_35, M_isKept_35)] 38 rfl (by decide) rfl rfl rfl [] rfl ?_
        refine gq_goto C 56 dX6_happen_38 (by decide) ?_
        refine gq_iconst C (nI 0) 57 dX6_happen_56 (by decide) rfl ?_
        obtain rfl := gq_lf hf
        exact hret dX6_happen_57 gPost.rf
      · replace hf := gq_ifn h28 hf
        refine gq_iconst C (nI 1) 32 dX6_happen_31 (by decide) rfl ?_
        obtain rfl := gq_lf hf
        exact hret dX6_happen_32 gPost.rf
  · replace hf := gq_ifp h3 hf
    refine gq_aload_n C 0 7 dX6_happen_6 rfl rfl ?_
    obtain ⟨⟨M_beds_7, M_law_7, M_worths_7, M_sights_7, M_sight_7, M_signs_7, M_pad_7, M_lies_7, M_empty_7, M_list_7, M_waits_7, M_yard_7, M_last_7, M_used_7, M_sheets_7, M_nights_7, M_fleasOfGuests_7, M_fleasOfBeds_7, M_reason_7, M_row_7, M_bestRow_7, M_image_7, M_isKept_7⟩, hc, hf⟩ := gq_bd hf
    refine gq_callV C hA gm_X6_119 (c_X6_pass l D cI cZ aM (M_beds, M_law, M_worths, M_sights, M_sight, M_signs, M_pad, M_lies, M_empty, M_list, M_waits, M_yard, M_last, M_used, M_sheets, M_nights, M_fleasOfGuests, M_fleasOfBeds, M_reason, M_row, M_bestRow, M_image, M_isKept) _ hc) rfl 0 0 rfl rfl rfl ⟨Nat.le_trans (Nat.le_of_ble_eq_true rfl) hR.1, Nat.le_trans (Nat.le_of_ble_eq_true rfl) hR.2.1⟩ ⟨Nat.zero_le _, Nat.zero_le _⟩ rfl (Nat.le_of_ble_eq_true rfl) dX6_happen_7 [0] [mC cI cZ aM (M_beds_7, M_law_7, M_worths_7, M_sights_7, M_sight_7, M_signs_7, M_pad_7, M_lies_7, M_empty_7, M_list_7, M_waits_7, M_yard_7, M_last_7, M_used_7, M_sheets_7, M_nights_7, M_fleasOfGuests_7, M_fleasOfBeds_7, M_reason_7, M_row_7, M_bestRow_7, M_image_7, M_isKept_7)] 10 rfl (by decide) rfl rfl rfl [] rfl ?_
    refine gq_iconst C (nI 0) 11 dX6_happen_10 (by decide) rfl ?_
    obtain rfl := gq_lf hf
    exact hret dX6_happen_11 gPost.rf

def f_X6_eventOf : Int32 → Option (Int32)
  | x1 => (if x1 = (nI 46) then some (nI 100) else (Option.bind (f_X6_in x1 (nI 65) (nI 72)) (fun r_16 => (if r_16 = 0 then some (((nI 8) + x1) - (nI 97)) else some (x1 - (nI 65))))))
set_option maxHeartbeats 4000000 in
set_option maxRecDepth 100000 in
theorem c_X6_eventOf (l : Launch) (D : va_G) (cI cZ : ClassId) (aM : Nat → Nat) (x1 : Int32) (rr : Int32) (hf : f_X6_eventOf x1 = some rr) : CT l D cI cZ yX6_eventOf cX6_eventOf 2 (some .int) 1 22 0 0 [.ref (aM 0), .int x1] ([]) (gPost (some (.int rr)) ([])) := by
  rw [f_X6_eventOf] at hf
  refine CT.mkI (by decide) (Nat.le_of_ble_eq_true rfl) fun {p} {e} {R} {s} {m} {args} {below} {meth} {c} {A} {H0} {Q} C hA hR hret => ?_
  show G p l e R s m args below meth c 2 D A H0 0 0 Q [] 0 [(0, .ref (aM 0)), (1, .int x1)] []
  refine gq_iload_n C 1 1 dX6_eventOf_0 rfl rfl ?_
  refine gq_bipush C (nI 46) 3 dX6_eventOf_1 (by decide) rfl ?_
  refine gq_icmp_ne C 11 6 dX6_eventOf_3 (by decide) rfl (fun h3 => ?_) (fun h3 => ?_)
  · replace hf := gq_ifn h3 hf
    refine gq_iload_n C 1 12 dX6_eventOf_11 rfl rfl ?_
    refine gq_bipush C (nI 65) 14 dX6_eventOf_12 (by decide) rfl ?_
    refine gq_bipush C (nI 72) 16 dX6_eventOf_14 (by decide) rfl ?_
    obtain ⟨r_16, hc, hf⟩ := gq_bd hf
    refine gq_callS C hA gm_X6_60 (c_X6_in l D cI cZ  x1 (nI 65) (nI 72) _ hc) rfl ⟨Nat.le_trans (Nat.le_of_ble_eq_true rfl) hR.1, Nat.le_trans (Nat.le_of_ble_eq_true rfl) hR.2.1⟩ ⟨Nat.zero_le _, Nat.zero_le _⟩ rfl (Nat.le_of_ble_eq_true rfl) dX6_eventOf_16 [] [] 19 rfl (by decide) rfl rfl rfl [.int r_16] rfl ?_
    refine gq_if_eq C 29 22 dX6_eventOf_19 (by decide) rfl (fun h19 => ?_) (fun h19 => ?_)
    · replace hf := gq_ifp h19 hf
      refine gq_bipush C (nI 8) 31 dX6_eventOf_29 (by decide) rfl ?_
      refine gq_iload_n C 1 32 dX6_eventOf_31 rfl rfl ?_
      refine gq_iadd C 33 dX6_eventOf_32 rfl ?_
      refine gq_bipush C (nI 97) 35 dX6_eventOf_33 (by decide) rfl ?_
      refine gq_isub C 36 dX6_eventOf_35 rfl ?_
      obtain rfl := gq_lf hf
      exact hret dX6_eventOf_36 gPost.rf
    · replace hf := gq_ifn h19 hf
      refine gq_iload_n C 1 23 dX6_eventOf_22 rfl rfl ?_
      refine gq_bipush C (nI 65) 25 dX6_eventOf_23 (by decide) rfl ?_
      refine gq_isub C 26 dX6_eventOf_25 rfl ?_
      refine gq_goto C 36 dX6_eventOf_26 (by decide) ?_
      obtain rfl := gq_lf hf
      exact hret dX6_eventOf_36 gPost.rf
  · replace hf := gq_ifp h3 hf
    refine gq_bipush C (nI 100) 8 dX6_eventOf_6 (by decide) rfl ?_
    refine gq_goto C 36 dX6_eventOf_8 (by decide) ?_
    obtain rfl := gq_lf hf
    exact hret dX6_eventOf_36 gPost.rf

def f_X6_go_L15 (c_M_beds : Int32) (c_M_law : Int32) (c_M_worths : (Nat → Int32)) (c_M_sights : Int32) (c_M_sight : (Nat → Int32)) (c_M_signs : Int32) (c_M_pad : (Nat → Int32)) (c_M_lies : (Nat → Int32)) (c_M_empty : Int32) (c_M_list : (Nat → Int32)) (c_M_waits : Int32) (c_M_yard : (Nat → Int32)) (c_M_last : (Nat → Int32)) (c_M_used : (Nat → Int32)) (c_M_sheets : (Nat → Int32)) (c_M_nights : (Nat → Int32)) (c_M_fleasOfGuests : Int32) (c_M_fleasOfBeds : Int32) (c_M_reason : Int32) (c_M_row : (Nat → Int32)) (c_M_bestRow : (Nat → Int32)) (c_M_image : (Nat → Int32)) (c_M_isKept : (Nat → Int32)) : Nat → Int32 → Int32 → (Int32 → Int32 → Option (Int32 × ModS)) → Option (Int32 × ModS)
  | 0, _, _, _ => none
  | nL15 + 1, x5_L15, x6_L15, kL15 => (Option.bind (f_X6_opens c_M_signs (c_M_beds, c_M_law, c_M_worths, c_M_sights, c_M_sight, c_M_signs, c_M_pad, c_M_lies, c_M_empty, c_M_list, c_M_waits, c_M_yard, c_M_last, c_M_used, c_M_sheets, c_M_nights, c_M_fleasOfGuests, c_M_fleasOfBeds, c_M_reason, c_M_row, c_M_bestRow, c_M_image, c_M_isKept)) (fun r_22 => (if r_22 ≤ x6_L15 then kL15 x5_L15 x6_L15 else f_X6_go_L15 c_M_beds c_M_law c_M_worths c_M_sights c_M_sight c_M_signs c_M_pad c_M_lies c_M_empty c_M_list c_M_waits c_M_yard c_M_last c_M_used c_M_sheets c_M_nights c_M_fleasOfGuests c_M_fleasOfBeds c_M_reason c_M_row c_M_bestRow c_M_image c_M_isKept nL15 (x5_L15 * (nI 8)) (x6_L15 + (nI 1)) kL15)))
def f_X6_go_L44 (c_x1 : Int32) (c_x2 : Int32) (c_x3 : Int32) (c_x4 : Int32) : Nat → Int32 → Int32 → Int32 → Int32 → (Nat → Int32) → Int32 → (Nat → Int32) → Int32 → (Nat → Int32) → (Nat → Int32) → Int32 → (Nat → Int32) → Int32 → (Nat → Int32) → (Nat → Int32) → (Nat → Int32) → (Nat → Int32) → (Nat → Int32) → Int32 → Int32 → Int32 → (Nat → Int32) → (Nat → Int32) → (Nat → Int32) → (Nat → Int32) → (Int32 → Int32 → Int32 → Int32 → (Nat → Int32) → Int32 → (Nat → Int32) → Int32 → (Nat → Int32) → (Nat → Int32) → Int32 → (Nat → Int32) → Int32 → (Nat → Int32) → (Nat → Int32) → (Nat → Int32) → (Nat → Int32) → (Nat → Int32) → Int32 → Int32 → Int32 → (Nat → Int32) → (Nat → Int32) → (Nat → Int32) → (Nat → Int32) → Option (Int32 × ModS)) → Option (Int32 × ModS)
  | 0, _, _, _, _, _, _, _, _, _, _, _, _, _, _, _, _, _, _, _, _, _, _, _, _, _, _ => none
  | nL44 + 1, x5_L44, x6_L44, M_beds_L44, M_law_L44, M_worths_L44, M_sights_L44, M_sight_L44, M_signs_L44, M_pad_L44, M_lies_L44, M_empty_L44, M_list_L44, M_waits_L44, M_yard_L44, M_last_L44, M_used_L44, M_sheets_L44, M_nights_L44, M_fleasOfGuests_L44, M_fleasOfBeds_L44, M_reason_L44, M_row_L44, M_bestRow_L44, M_image_L44, M_isKept_L44, kL44 => (if c_x1 < x6_L44 then kL44 x5_L44 x6_L44 M_beds_L44 M_law_L44 M_worths_L44 M_sights_L44 M_sight_L44 M_signs_L44 M_pad_L44 M_lies_L44 M_empty_L44 M_list_L44 M_waits_L44 M_yard_L44 M_last_L44 M_used_L44 M_sheets_L44 M_nights_L44 M_fleasOfGuests_L44 M_fleasOfBeds_L44 M_reason_L44 M_row_L44 M_bestRow_L44 M_image_L44 M_isKept_L44 else gJn (fun (M_beds_J66 : Int32) (M_law_J66 : Int32) (M_worths_J66 : (Nat → Int32)) (M_sights_J66 : Int32) (M_sight_J66 : (Nat → Int32)) (M_signs_J66 : Int32) (M_pad_J66 : (Nat → Int32)) (M_lies_J66 : (Nat → Int32)) (M_empty_J66 : Int32) (M_list_J66 : (Nat → Int32)) (M_waits_J66 : Int32) (M_yard_J66 : (Nat → Int32)) (M_last_J66 : (Nat → Int32)) (M_used_J66 : (Nat → Int32)) (M_sheets_J66 : (Nat → Int32)) (M_nights_J66 : (Nat → Int32)) (M_fleasOfGuests_J66 : Int32) (M_fleasOfBeds_J66 : Int32) (M_reason_J66 : Int32) (M_row_J66 : (Nat → Int32)) (M_bestRow_J66 : (Nat → Int32)) (M_image_J66 : (Nat → Int32)) (M_isKept_J66 : (Nat → Int32)) => gJn (fun (x5_J146 : Int32) (M_beds_J146 : Int32) (M_law_J146 : Int32) (M_worths_J146 : (Nat → Int32)) (M_sights_J146 : Int32) (M_sight_J146 : (Nat → Int32)) (M_signs_J146 : Int32) (M_pad_J146 : (Nat → Int32)) (M_lies_J146 : (Nat → Int32)) (M_empty_J146 : Int32) (M_list_J146 : (Nat → Int32)) (M_waits_J146 : Int32) (M_yard_J146 : (Nat → Int32)) (M_last_J146 : (Nat → Int32)) (M_used_J146 : (Nat → Int32)) (M_sheets_J146 : (Nat → Int32)) (M_nights_J146 : (Nat → Int32)) (M_fleasOfGuests_J146 : Int32) (M_fleasOfBeds_J146 : Int32) (M_reason_J146 : Int32) (M_row_J146 : (Nat → Int32)) (M_bestRow_J146 : (Nat → Int32)) (M_image_J146 : (Nat → Int32)) (M_isKept_J146 : (Nat → Int32)) => (if M_reason_J146 ≤ 0 then f_X6_go_L44 c_x1 c_x2 c_x3 c_x4 nL44 x5_J146 (x6_L44 + (nI 1)) M_beds_J146 M_law_J146 M_worths_J146 M_sights_J146 M_sight_J146 M_signs_J146 M_pad_J146 M_lies_J146 M_empty_J146 M_list_J146 M_waits_J146 M_yard_J146 M_last_J146 M_used_J146 M_sheets_J146 M_nights_J146 M_fleasOfGuests_J146 M_fleasOfBeds_J146 M_reason_J146 M_row_J146 M_bestRow_J146 M_image_J146 M_isKept_J146 kL44 else some (x6_L44, (M_beds_J146, M_law_J146, M_worths_J146, M_sights_J146, M_sight_J146, M_signs_J146, M_pad_J146, M_lies_J146, M_empty_J146, M_list_J146, M_waits_J146, M_yard_J146, M_last_J146, M_used_J146, M_sheets_J146, M_nights_J146, M_fleasOfGuests_J146, M_fleasOfBeds_J146, M_reason_J146, M_row_J146, M_bestRow_J146, M_image_J146, M_isKept_J146)))) (fun kJ146 => (if c_x1 ≤ x6_L44 then kJ146 x5_L44 M_beds_J66 M_law_J66 M_worths_J66 M_sights_J66 M_sight_J66 M_signs_J66 M_pad_J66 M_lies_J66 M_empty_J66 M_list_J66 M_waits_J66 M_yard_J66 M_last_J66 M_used_J66 M_sheets_J66 M_nights_J66 M_fleasOfGuests_J66 M_fleasOfBeds_J66 M_reason_J66 M_row_J66 M_bestRow_J66 M_image_J66 M_isKept_J66 else (if M_reason_J66 = 0 then (if x6_L44 < 0 ∨ 48 ≤ x6_L44.toNatClampNeg then none else (if (M_pad_J66 x6_L44.toNatClampNeg) = (nI 63) then (if x5_L44 = 0 then none else (Option.bind (f_X6_happen ((c_x2 / x5_L44) - (c_x2 / x5_L44) / (nI 8) * (nI 8)) (M_beds_J66, M_law_J66, M_worths_J66, M_sights_J66, M_sight_J66, M_signs_J66, M_pad_J66, M_lies_J66, M_empty_J66, M_list_J66, M_waits_J66, M_yard_J66, M_last_J66, M_used_J66, M_sheets_J66, M_nights_J66, M_fleasOfGuests_J66, M_fleasOfBeds_J66, M_reason_J66, M_row_J66, M_bestRow_J66, M_image_J66, M_isKept_J66)) (fun (r_100, (M_beds_100, M_law_100, M_worths_100, M_sights_100, M_sight_100, M_signs_100, M_pad_100, M_lies_100, M_empty_100, M_list_100, M_waits_100, M_yard_100, M_last_100, M_used_100, M_sheets_100, M_nights_100, M_fleasOfGuests_100, M_fleasOfBeds_100, M_reason_100, M_row_100, M_bestRow_100, M_image_100, M_isKept_100)) => gJn (fun (z0_J122 : Int32) => kJ146 z0_J122 M_beds_100 M_law_100 M_worths_100 M_sights_100 M_sight_100 M_signs_100 M_pad_100 M_lies_100 M_empty_100 M_list_100 M_waits_100 M_yard_100 M_last_100 M_used_100 M_sheets_100 M_nights_100 M_fleasOfGuests_100 M_fleasOfBeds_100 r_100 M_row_100 M_bestRow_100 M_image_100 M_isKept_100) (fun kJ122 => (if x5_L44 ≤ (nI 1) then kJ122 x5_L44 else kJ122 (x5_L44 / (nI 8))))))) else (if x6_L44 < 0 ∨ 48 ≤ x6_L44.toNatClampNeg then none else (Option.bind (f_X6_eventOf (M_pad_J66 x6_L44.toNatClampNeg)) (fun r_137 => (Option.bind (f_X6_happen r_137 (M_beds_J66, M_law_J66, M_worths_J66, M_sights_J66, M_sight_J66, M_signs_J66, M_pad_J66, M_lies_J66, M_empty_J66, M_list_J66, M_waits_J66, M_yard_J66, M_last_J66, M_used_J66, M_sheets_J66, M_nights_J66, M_fleasOfGuests_J66, M_fleasOfBeds_J66, M_reason_J66, M_row_J66, M_bestRow_J66, M_image_J66, M_isKept_J66)) (fun (r_140, (M_beds_140, M_law_140, M_worths_140, M_sights_140, M_sight_140, M_signs_140, M_pad_140, M_lies_140, M_empty_140, M_list_140, M_waits_140, M_yard_140, M_last_140, M_used_140, M_sheets_140, M_nights_140, M_fleasOfGuests_140, M_fleasOfBeds_140, M_reason_140, M_row_140, M_bestRow_140, M_image_140, M_isKept_140)) => kJ146 x5_L44 M_beds_140 M_law_140 M_worths_140 M_sights_140 M_sight_140 M_signs_140 M_pad_140 M_lies_140 M_empty_140 M_list_140 M_waits_140 M_yard_140 M_last_140 M_used_140 M_sheets_140 M_nights_140 M_fleasOfGuests_140 M_fleasOfBeds_140 r_140 M_row_140 M_bestRow_140 M_image_140 M_isKept_140))))))) else kJ146 x5_L44 M_beds_J66 M_law_J66 M_worths_J66 M_sights_J66 M_sight_J66 M_signs_J66 M_pad_J66 M_lies_J66 M_empty_J66 M_list_J66 M_waits_J66 M_yard_J66 M_last_J66 M_used_J66 M_sheets_J66 M_nights_J66 M_fleasOfGuests_J66 M_fleasOfBeds_J66 M_reason_J66 M_row_J66 M_bestRow_J66 M_image_J66 M_isKept_J66)))) (fun kJ66 => (if x6_L44 = c_x3 then (Option.bind (f_X6_happen c_x4 (M_beds_L44, M_law_L44, M_worths_L44, M_sights_L44, M_sight_L44, M_signs_L44, M_pad_L44, M_lies_L44, M_empty_L44, M_list_L44, M_waits_L44, M_yard_L44, M_last_L44, M_used_L44, M_sheets_L44, M_nights_L44, M_fleasOfGuests_L44, M_fleasOfBeds_L44, M_reason_L44, M_row_L44, M_bestRow_L44, M_image_L44, M_isKept_L44)) (fun (r_60, (M_beds_60, M_law_60, M_worths_60, M_sights_60, M_sight_60, M_signs_60, M_pad_60, M_lies_60, M_empty_60, M_list_60, M_waits_60, M_yard_60, M_last_60, M_used_60, M_sheets_60, M_nights_60, M_fleasOfGuests_60, M_fleasOfBeds_60, M_reason_60, M_row_60, M_bestRow_60, M_image_60, M_isKept_60)) => kJ66 M_beds_60 M_law_60 M_worths_60 M_sights_60 M_sight_60 M_signs_60 M_pad_60 M_lies_60 M_empty_60 M_list_60 M_waits_60 M_yard_60 M_last_60 M_used_60 M_sheets_60 M_nights_60 M_fleasOfGuests_60 M_fleasOfBeds_60 r_60 M_row_60 M_bestRow_60 M_image_60 M_isKept_60)) else kJ66 M_beds_L44 M_law_L44 M_worths_L44 M_sights_L44 M_sight_L44 M_signs_L44 M_pad_L44 M_lies_L44 M_empty_L44 M_list_L44 M_waits_L44 M_yard_L44 M_last_L44 M_used_L44 M_sheets_L44 M_nights_L44 M_fleasOfGuests_L44 M_fleasOfBeds_L44 M_reason_L44 M_row_L44 M_bestRow_L44 M_image_L44 M_isKept_L44)))
def f_X6_go : Int32 → Int32 → Int32 → Int32 → ModS → Option (Int32 × ModS)
  | x1, x2, x3, x4, (M_beds, M_law, M_worths, M_sights, M_sight, M_signs, M_pad, M_lies, M_empty, M_list, M_waits, M_yard, M_last, M_used, M_sheets, M_nights, M_fleasOfGuests, M_fleasOfBeds, M_reason, M_row, M_bestRow, M_image, M_isKept) => (Option.bind (f_X6_begin (M_beds, M_law, M_worths, M_sights, M_sight, M_signs, M_pad, M_lies, M_empty, M_list, M_waits, M_yard, M_last, M_used, M_sheets, M_nights, M_fleasOfGuests, M_fleasOfBeds, M_reason, M_row, M_bestRow, M_image, M_isKept)) (fun (M_beds_1, M_law_1, M_worths_1, M_sights_1, M_sight_1, M_signs_1, M_pad_1, M_lies_1, M_empty_1, M_list_1, M_waits_1, M_yard_1, M_last_1, M_used_1, M_sheets_1, M_nights_1, M_fleasOfGuests_1, M_fleasOfBeds_1, M_reason_1, M_row_1, M_bestRow_1, M_image_1, M_isKept_1) => f_X6_go_L15 M_beds_1 M_law_1 M_worths_1 M_sights_1 M_sight_1 M_signs_1 M_pad_1 M_lies_1 M_empty_1 M_list_1 M_waits_1 M_yard_1 M_last_1 M_used_1 M_sheets_1 M_nights_1 M_fleasOfGuests_1 M_fleasOfBeds_1 (nI 0) M_row_1 M_bestRow_1 M_image_1 M_isKept_1 FU (nI 1) (nI 1) (fun x5_L15 x6_L15 => f_X6_go_L44 x1 x2 x3 x4 FU x5_L15 (nI 0) M_beds_1 M_law_1 M_worths_1 M_sights_1 M_sight_1 M_signs_1 M_pad_1 M_lies_1 M_empty_1 M_list_1 M_waits_1 M_yard_1 M_last_1 M_used_1 M_sheets_1 M_nights_1 M_fleasOfGuests_1 M_fleasOfBeds_1 (nI 0) M_row_1 M_bestRow_1 M_image_1 M_isKept_1 (fun x5_L44 x6_L44 M_beds_L44 M_law_L44 M_worths_L44 M_sights_L44 M_sight_L44 M_signs_L44 M_pad_L44 M_lies_L44 M_empty_L44 M_list_L44 M_waits_L44 M_yard_L44 M_last_L44 M_used_L44 M_sheets_L44 M_nights_L44 M_fleasOfGuests_L44 M_fleasOfBeds_L44 M_reason_L44 M_row_L44 M_bestRow_L44 M_image_L44 M_isKept_L44 => some ((-6 : Int32), (M_beds_L44, M_law_L44, M_worths_L44, M_sights_L44, M_sight_L44, M_signs_L44, M_pad_L44, M_lies_L44, M_empty_L44, M_list_L44, M_waits_L44, M_yard_L44, M_last_L44, M_used_L44, M_sheets_L44, M_nights_L44, M_fleasOfGuests_L44, M_fleasOfBeds_L44, M_reason_L44, M_row_L44, M_bestRow_L44, M_image_L44, M_isKept_L44))))))
set_option maxHeartbeats 4000000 in
set_option maxRecDepth 100000 in
theorem c_X6_go (l : Launch) (D : va_G) (cI cZ : ClassId) (aM : Nat → Nat) (x1 : Int32) (x2 : Int32) (x3 : Int32) (x4 : Int32) (tM : ModS) (rr : Int32 × ModS) (hf : f_X6_go x1 x2 x3 x4 tM = some rr) : CT l D cI cZ yX6_go cX6_go 7 (some .int) 4 92 0 0 [.ref (aM 0), .int x1, .int x2, .int x3, .int x4] ([mC cI cZ aM tM]) (gPost (some (.int rr.1)) ([mC cI cZ aM rr.2])) := by
  obtain ⟨M_beds, M_law, M_worths, M_sights, M_sight, M_signs, M_pad, M_lies, M_empty, M_list, M_waits, M_yard, M_last, M_used, M_sheets, M_nights, M_fleasOfGuests, M_fleasOfBeds, M_reason, M_row, M_bestRow, M_image, M_isKept⟩ := tM
  rw [f_X6_go] at hf
  refine CT.mkI (by decide) (Nat.le_of_ble_eq_true rfl) fun {p} {e} {R} {s} {m} {args} {below} {meth} {c} {A} {H0} {Q} C hA hR hret => ?_
  show G p l e R s m args below meth c 7 D A H0 0 0 Q [mC cI cZ aM (M_beds, M_law, M_worths, M_sights, M_sight, M_signs, M_pad, M_lies, M_empty, M_list, M_waits, M_yard, M_last, M_used, M_sheets, M_nights, M_fleasOfGuests, M_fleasOfBeds, M_reason, M_row, M_bestRow, M_image, M_isKept)] 0 [(0, .ref (aM 0)), (1, .int x1), (2, .int x2), (3, .int x3), (4, .int x4)] []
  refine gq_aload_n C 0 1 dX6_go_0 rfl rfl ?_
  obtain ⟨⟨M_beds_1, M_law_1, M_worths_1, M_sights_1, M_sight_1, M_signs_1, M_pad_1, M_lies_1, M_empty_1, M_list_1, M_waits_1, M_yard_1, M_last_1, M_used_1, M_sheets_1, M_nights_1, M_fleasOfGuests_1, M_fleasOfBeds_1, M_reason_1, M_row_1, M_bestRow_1, M_image_1, M_isKept_1⟩, hc, hf⟩ := gq_bd hf
  refine gq_callV C hA gm_X6_131 (c_X6_begin l D cI cZ aM (M_beds, M_law, M_worths, M_sights, M_sight, M_signs, M_pad, M_lies, M_empty, M_list, M_waits, M_yard, M_last, M_used, M_sheets, M_nights, M_fleasOfGuests, M_fleasOfBeds, M_reason, M_row, M_bestRow, M_image, M_isKept) _ hc) rfl 0 0 rfl rfl rfl ⟨Nat.le_trans (Nat.le_of_ble_eq_true rfl) hR.1, Nat.le_trans (Nat.le_of_ble_eq_true rfl) hR.2.1⟩ ⟨Nat.zero_le _, Nat.zero_le _⟩ rfl (Nat.le_of_ble_eq_true rfl) dX6_go_1 [0] [mC cI cZ aM (M_beds_1, M_law_1, M_worths_1, M_sights_1, M_sight_1, M_signs_1, M_pad_1, M_lies_1, M_empty_1, M_list_1, M_waits_1, M_yard_1, M_last_1, M_used_1, M_sheets_1, M_nights_1, M_fleasOfGuests_1, M_fleasOfBeds_1, M_reason_1, M_row_1, M_bestRow_1, M_image_1, M_isKept_1)] 4 rfl (by decide) rfl rfl rfl [] rfl ?_
  refine gq_aload_n C 0 5 dX6_go_4 rfl rfl ?_
  refine gq_iconst C (nI 0) 6 dX6_go_5 (by decide) rfl ?_
  refine gq_put C fo_X6_18 fp_X6_18 rfl fw_X6_134 0 0 9 [mC cI cZ aM (M_beds_1, M_law_1, M_worths_1, M_sights_1, M_sight_1, M_signs_1, M_pad_1, M_lies_1, M_empty_1, M_list_1, M_waits_1, M_yard_1, M_last_1, M_used_1, M_sheets_1, M_nights_1, M_fleasOfGuests_1, M_fleasOfBeds_1, (nI 0), M_row_1, M_bestRow_1, M_image_1, M_isKept_1)] rfl rfl rfl rfl (Nat.le_of_ble_eq_true rfl) rfl dX6_go_6 rfl ?_
  refine gq_iconst C (nI 1) 10 dX6_go_9 (by decide) rfl ?_
  refine gq_istore C [(5, .int (nI 1)), (0, .ref (aM 0)), (1, .int x1), (2, .int x2), (3, .int x3), (4, .int x4)] 12 dX6_go_10 (by decide) rfl rfl ?_
  refine gq_iconst C (nI 1) 13 dX6_go_12 (by decide) rfl ?_
  refine gq_istore C [(6, .int (nI 1)), (5, .int (nI 1)), (0, .ref (aM 0)), (1, .int x1), (2, .int x2), (3, .int x3), (4, .int x4)] 15 dX6_go_13 (by decide) rfl rfl ?_
  have L15 : ∀ (kL : Int32 → Int32 → Option (Int32 × ModS)), (∀ (x5_L15 : Int32) (x6_L15 : Int32), kL x5_L15 x6_L15 = some rr → G p l e R s m args below meth c 7 D A H0 0 0 Q [mC cI cZ aM (M_beds_1, M_law_1, M_worths_1, M_sights_1, M_sight_1, M_signs_1, M_pad_1, M_lies_1, M_empty_1, M_list_1, M_waits_1, M_yard_1, M_last_1, M_used_1, M_sheets_1, M_nights_1, M_fleasOfGuests_1, M_fleasOfBeds_1, (nI 0), M_row_1, M_bestRow_1, M_image_1, M_isKept_1)] 41 [(6, .int x6_L15), (5, .int x5_L15), (0, .ref (aM 0)), (1, .int x1), (2, .int x2), (3, .int x3), (4, .int x4)] []) → ∀ (n : Nat) (x5_L15 : Int32) (x6_L15 : Int32), f_X6_go_L15 M_beds_1 M_law_1 M_worths_1 M_sights_1 M_sight_1 M_signs_1 M_pad_1 M_lies_1 M_empty_1 M_list_1 M_waits_1 M_yard_1 M_last_1 M_used_1 M_sheets_1 M_nights_1 M_fleasOfGuests_1 M_fleasOfBeds_1 (nI 0) M_row_1 M_bestRow_1 M_image_1 M_isKept_1 n x5_L15 x6_L15 kL = some rr → G p l e R s m args below meth c 7 D A H0 0 0 Q [mC cI cZ aM (M_beds_1, M_law_1, M_worths_1, M_sights_1, M_sight_1, M_signs_1, M_pad_1, M_lies_1, M_empty_1, M_list_1, M_waits_1, M_yard_1, M_last_1, M_used_1, M_sheets_1, M_nights_1, M_fleasOfGuests_1, M_fleasOfBeds_1, (nI 0), M_row_1, M_bestRow_1, M_image_1, M_isKept_1)] 15 [(6, .int x6_L15), (5, .int x5_L15), (0, .ref (aM 0)), (1, .int x1), (2, .int x2), (3, .int x3), (4, .int x4)] [] := by
    intro kL hkL15 n
    induction n with
    | zero =>
      intro x5_L15 x6_L15 hf
      rw [f_X6_go_L15] at hf
      cases hf
    | succ n ihL15 =>
      intro x5_L15 x6_L15 hf
      rw [f_X6_go_L15] at hf
      refine gq_iload C 0 17 dX6_go_15 rfl rfl ?_
      refine gq_aload_n C 2 18 dX6_go_17 rfl rfl ?_
      refine gq_aload_n C 2 19 dX6_go_18 rfl rfl ?_
      refine gq_get C fo_X6_5 fw_X6_74 0 0 22 rfl rfl rfl dX6_go_19 rfl ?_
      obtain ⟨r_22, hc, hf⟩ := gq_bd hf
      refine gq_callV C hA gm_X6_137 (c_X6_opens l D cI cZ aM M_signs_1 (M_beds_1, M_law_1, M_worths_1, M_sights_1, M_sight_1, M_signs_1, M_pad_1, M_lies_1, M_empty_1, M_list_1, M_waits_1, M_yard_1, M_last_1, M_used_1, M_sheets_1, M_nights_1, M_fleasOfGuests_1, M_fleasOfBeds_1, (nI 0), M_row_1, M_bestRow_1, M_image_1, M_isKept_1) _ hc) rfl 0 0 rfl rfl rfl ⟨Nat.le_trans (Nat.le_of_ble_eq_true rfl) hR.1, Nat.le_trans (Nat.le_of_ble_eq_true rfl) hR.2.1⟩ ⟨Nat.zero_le _, Nat.zero_le _⟩ rfl (Nat.le_of_ble_eq_true rfl) dX6_go_22 [0] [mC cI cZ aM (M_beds_1, M_law_1, M_worths_1, M_sights_1, M_sight_1, M_signs_1, M_pad_1, M_lies_1, M_empty_1, M_list_1, M_waits_1, M_yard_1, M_last_1, M_used_1, M_sheets_1, M_nights_1, M_fleasOfGuests_1, M_fleasOfBeds_1, (nI 0), M_row_1, M_bestRow_1, M_image_1, M_isKept_1)] 25 rfl (by decide) rfl rfl rfl [.int r_22, .int x6_L15] rfl ?_
      refine gq_icmp_ge C 41 28 dX6_go_25 (by decide) rfl (fun h25 => ?_) (fun h25 => ?_)
      · replace hf := gq_ifp h25 hf
        exact hkL15 _ _ hf
      · replace hf := gq_ifn h25 hf
        refine gq_iload C 1 30 dX6_go_28 rfl rfl ?_
        refine gq_bipush C (nI 8) 32 dX6_go_30 (by decide) rfl ?_
        refine gq_imul C 33 dX6_go_32 rfl ?_
        refine gq_istore C [(5, .int (x5_L15 * (nI 8))), (6, .int x6_L15), (0, .ref (aM 0)), (1, .int x1), (2, .int x2), (3, .int x3), (4, .int x4)] 35 dX6_go_33 (by decide) rfl rfl ?_
        refine gq_iinc C 1 [(6, .int (x6_L15 + (nI 1))), (5, .int (x5_L15 * (nI 8))), (0, .ref (aM 0)), (1, .int x1), (2, .int x2), (3, .int x3), (4, .int x4)] 38 dX6_go_35 rfl rfl (by decide) rfl rfl ?_
        refine gq_goto C 15 dX6_go_38 (by decide) ?_
        exact ihL15 _ _ hf
  refine L15 _ (fun x5_L15 x6_L15 hf => ?_) _ _ _ hf
  refine gq_iconst C (nI 0) 42 dX6_go_41 (by decide) rfl ?_
  refine gq_istore C [(6, .int (nI 0)), (5, .int x5_L15), (0, .ref (aM 0)), (1, .int x1), (2, .int x2), (3, .int x3), (4, .int x4)] 44 dX6_go_42 (by decide) rfl rfl ?_
  have L44 : ∀ (kL : Int32 → Int32 → Int32 → Int32 → (Nat → Int32) → Int32 → (Nat → Int32) → Int32 → (Nat → Int32) → (Nat → Int32) → Int32 → (Nat → Int32) → Int32 → (Nat → Int32) → (Nat → Int32) → (Nat → Int32) → (Nat → Int32) → (Nat → Int32) → Int32 → Int32 → Int32 → (Nat → Int32) → (Nat → Int32) → (Nat → Int32) → (Nat → Int32) → Option (Int32 × ModS)), (∀ (x5_L44 : Int32) (x6_L44 : Int32) (M_beds_L44 : Int32) (M_law_L44 : Int32) (M_worths_L44 : (Nat → Int32)) (M_sights_L44 : Int32) (M_sight_L44 : (Nat → Int32)) (M_signs_L44 : Int32) (M_pad_L44 : (Nat → Int32)) (M_lies_L44 : (Nat → Int32)) (M_empty_L44 : Int32) (M_list_L44 : (Nat → Int32)) (M_waits_L44 : Int32) (M_yard_L44 : (Nat → Int32)) (M_last_L44 : (Nat → Int32)) (M_used_L44 : (Nat → Int32)) (M_sheets_L44 : (Nat → Int32)) (M_nights_L44 : (Nat → Int32)) (M_fleasOfGuests_L44 : Int32) (M_fleasOfBeds_L44 : Int32) (M_reason_L44 : Int32) (M_row_L44 : (Nat → Int32)) (M_bestRow_L44 : (Nat → Int32)) (M_image_L44 : (Nat → Int32)) (M_isKept_L44 : (Nat → Int32)), kL x5_L44 x6_L44 M_beds_L44 M_law_L44 M_worths_L44 M_sights_L44 M_sight_L44 M_signs_L44 M_pad_L44 M_lies_L44 M_empty_L44 M_list_L44 M_waits_L44 M_yard_L44 M_last_L44 M_used_L44 M_sheets_L44 M_nights_L44 M_fleasOfGuests_L44 M_fleasOfBeds_L44 M_reason_L44 M_row_L44 M_bestRow_L44 M_image_L44 M_isKept_L44 = some rr → G p l e R s m args below meth c 7 D A H0 0 0 Q [mC cI cZ aM (M_beds_L44, M_law_L44, M_worths_L44, M_sights_L44, M_sight_L44, M_signs_L44, M_pad_L44, M_lies_L44, M_empty_L44, M_list_L44, M_waits_L44, M_yard_L44, M_last_L44, M_used_L44, M_sheets_L44, M_nights_L44, M_fleasOfGuests_L44, M_fleasOfBeds_L44, M_reason_L44, M_row_L44, M_bestRow_L44, M_image_L44, M_isKept_L44)] 162 [(6, .int x6_L44), (5, .int x5_L44), (0, .ref (aM 0)), (1, .int x1), (2, .int x2), (3, .int x3), (4, .int x4)] []) → ∀ (n : Nat) (x5_L44 : Int32) (x6_L44 : Int32) (M_beds_L44 : Int32) (M_law_L44 : Int32) (M_worths_L44 : (Nat → Int32)) (M_sights_L44 : Int32) (M_sight_L44 : (Nat → Int32)) (M_signs_L44 : Int32) (M_pad_L44 : (Nat → Int32)) (M_lies_L44 : (Nat → Int32)) (M_empty_L44 : Int32) (M_list_L44 : (Nat → Int32)) (M_waits_L44 : Int32) (M_yard_L44 : (Nat → Int32)) (M_last_L44 : (Nat → Int32)) (M_used_L44 : (Nat → Int32)) (M_sheets_L44 : (Nat → Int32)) (M_nights_L44 : (Nat → Int32)) (M_fleasOfGuests_L44 : Int32) (M_fleasOfBeds_L44 : Int32) (M_reason_L44 : Int32) (M_row_L44 : (Nat → Int32)) (M_bestRow_L44 : (Nat → Int32)) (M_image_L44 : (Nat → Int32)) (M_isKept_L44 : (Nat → Int32)), f_X6_go_L44 x1 x2 x3 x4 n x5_L44 x6_L44 M_beds_L44 M_law_L44 M_worths_L44 M_sights_L44 M_sight_L44 M_signs_L44 M_pad_L44 M_lies_L44 M_empty_L44 M_list_L44 M_waits_L44 M_yard_L44 M_last_L44 M_used_L44 M_sheets_L44 M_nights_L44 M_fleasOfGuests_L44 M_fleasOfBeds_L44 M_reason_L44 M_row_L44 M_bestRow_L44 M_image_L44 M_isKept_L44 kL = some rr → G p l e R s m args below meth c 7 D A H0 0 0 Q [mC cI cZ aM (M_beds_L44, M_law_L44, M_worths_L44, M_sights_L44, M_sight_L44, M_signs_L44, M_pad_L44, M_lies_L44, M_empty_L44, M_list_L44, M_waits_L44, M_yard_L44, M_last_L44, M_used_L44, M_sheets_L44, M_nights_L44, M_fleasOfGuests_L44, M_fleasOfBeds_L44, M_reason_L44, M_row_L44, M_bestRow_L44, M_image_L44, M_isKept_L44)] 44 [(6, .int x6_L44), (5, .int x5_L44), (0, .ref (aM 0)), (1, .int x1), (2, .int x2), (3, .int x3), (4, .int x4)] [] := by
    intro kL hkL44 n
    induction n with
    | zero =>
      intro x5_L44 x6_L44 M_beds_L44 M_law_L44 M_worths_L44 M_sights_L44 M_sight_L44 M_signs_L44 M_pad_L44 M_lies_L44 M_empty_L44 M_list_L44 M_waits_L44 M_yard_L44 M_last_L44 M_used_L44 M_sheets_L44 M_nights_L44 M_fleasOfGuests_L44 M_fleasOfBeds_L44 M_reason_L44 M_row_L44 M_bestRow_L44 M_image_L44 M_isKept_L44 hf
      rw [f_X6_go_L44] at hf
      cases hf
    | succ n ihL44 =>
      intro x5_L44 x6_L44 M_beds_L44 M_law_L44 M_worths_L44 M_sights_L44 M_sight_L44 M_signs_L44 M_pad_L44 M_lies_L44 M_empty_L44 M_list_L44 M_waits_L44 M_yard_L44 M_last_L44 M_used_L44 M_sheets_L44 M_nights_L44 M_fleasOfGuests_L44 M_fleasOfBeds_L44 M_reason_L44 M_row_L44 M_bestRow_L44 M_image_L44 M_isKept_L44 hf
      rw [f_X6_go_L44] at hf
      refine gq_iload C 0 46 dX6_go_44 rfl rfl ?_
      refine gq_iload_n C 3 47 dX6_go_46 rfl rfl ?_
      refine gq_icmp_gt C 162 50 dX6_go_47 (by decide) rfl (fun h47 => ?_) (fun h47 => ?_)
      · replace hf := gq_ifp h47 hf
        exact hkL44 _ _ _ _ _ _ _ _ _ _ _ _ _ _ _ _ _ _ _ _ _ _ _ _ _ hf
      · replace hf := gq_ifn h47 hf
        refine gq_iload C 0 52 dX6_go_50 rfl rfl ?_
        refine gq_iload_n C 5 53 dX6_go_52 rfl rfl ?_
        refine gq_jn (P := fun k => ∀ (M_beds_J66 : Int32) (M_law_J66 : Int32) (M_worths_J66 : (Nat → Int32)) (M_sights_J66 : Int32) (M_sight_J66 : (Nat → Int32)) (M_signs_J66 : Int32) (M_pad_J66 : (Nat → Int32)) (M_lies_J66 : (Nat → Int32)) (M_empty_J66 : Int32) (M_list_J66 : (Nat → Int32)) (M_waits_J66 : Int32) (M_yard_J66 : (Nat → Int32)) (M_last_J66 : (Nat → Int32)) (M_used_J66 : (Nat → Int32)) (M_sheets_J66 : (Nat → Int32)) (M_nights_J66 : (Nat → Int32)) (M_fleasOfGuests_J66 : Int32) (M_fleasOfBeds_J66 : Int32) (M_reason_J66 : Int32) (M_row_J66 : (Nat → Int32)) (M_bestRow_J66 : (Nat → Int32)) (M_image_J66 : (Nat → Int32)) (M_isKept_J66 : (Nat → Int32)), k M_beds_J66 M_law_J66 M_worths_J66 M_sights_J66 M_sight_J66 M_signs_J66 M_pad_J66 M_lies_J66 M_empty_J66 M_list_J66 M_waits_J66 M_yard_J66 M_last_J66 M_used_J66 M_sheets_J66 M_nights_J66 M_fleasOfGuests_J66 M_fleasOfBeds_J66 M_reason_J66 M_row_J66 M_bestRow_J66 M_image_J66 M_isKept_J66 = some rr → G p l e R s m args below meth c 7 D A H0 0 0 Q [mC cI cZ aM (M_beds_J66, M_law_J66, M_worths_J66, M_sights_J66, M_sight_J66, M_signs_J66, M_pad_J66, M_lies_J66, M_empty_J66, M_list_J66, M_waits_J66, M_yard_J66, M_last_J66, M_used_J66, M_sheets_J66, M_nights_J66, M_fleasOfGuests_J66, M_fleasOfBeds_J66, M_reason_J66, M_row_J66, M_bestRow_J66, M_image_J66, M_isKept_J66)] 66 [(6, .int x6_L44), (5, .int x5_L44), (0, .ref (aM 0)), (1, .int x1), (2, .int x2), (3, .int x3), (4, .int x4)] []) hf (fun M_beds_J66 M_law_J66 M_worths_J66 M_sights_J66 M_sight_J66 M_signs_J66 M_pad_J66 M_lies_J66 M_empty_J66 M_list_J66 M_waits_J66 M_yard_J66 M_last_J66 M_used_J66 M_sheets_J66 M_nights_J66 M_fleasOfGuests_J66 M_fleasOfBeds_J66 M_reason_J66 M_row_J66 M_bestRow_J66 M_image_J66 M_isKept_J66 hf => ?_) (fun kJ66 hJ66 hf => ?_)
        · refine gq_iload C 0 68 dX6_go_66 rfl rfl ?_
          refine gq_iload_n C 3 69 dX6_go_68 rfl rfl ?_
          refine gq_jn (P := fun k => ∀ (x5_J146 : Int32) (M_beds_J146 : Int32) (M_law_J146 : Int32) (M_worths_J146 : (Nat → Int32)) (M_sights_J146 : Int32) (M_sight_J146 : (Nat → Int32)) (M_signs_J146 : Int32) (M_pad_J146 : (Nat → Int32)) (M_lies_J146 : (Nat → Int32)) (M_empty_J146 : Int32) (M_list_J146 : (Nat → Int32)) (M_waits_J146 : Int32) (M_yard_J146 : (Nat → Int32)) (M_last_J146 : (Nat → Int32)) (M_used_J146 : (Nat → Int32)) (M_sheets_J146 : (Nat → Int32)) (M_nights_J146 : (Nat → Int32)) (M_fleasOfGuests_J146 : Int32) (M_fleasOfBeds_J146 : Int32) (M_reason_J146 : Int32) (M_row_J146 : (Nat → Int32)) (M_bestRow_J146 : (Nat → Int32)) (M_image_J146 : (Nat → Int32)) (M_isKept_J146 : (Nat → Int32)), k x5_J146 M_beds_J146 M_law_J146 M_worths_J146 M_sights_J146 M_sight_J146 M_signs_J146 M_pad_J146 M_lies_J146 M_empty_J146 M_list_J146 M_waits_J146 M_yard_J146 M_last_J146 M_used_J146 M_sheets_J146 M_nights_J146 M_fleasOfGuests_J146 M_fleasOfBeds_J146 M_reason_J146 M_row_J146 M_bestRow_J146 M_image_J146 M_isKept_J146 = some rr → G p l e R s m args below meth c 7 D A H0 0 0 Q [mC cI cZ aM (M_beds_J146, M_law_J146, M_worths_J146, M_sights_J146, M_sight_J146, M_signs_J146, M_pad_J146, M_lies_J146, M_empty_J146, M_list_J146, M_waits_J146, M_yard_J146, M_last_J146, M_used_J146, M_sheets_J146, M_nights_J146, M_fleasOfGuests_J146, M_fleasOfBeds_J146, M_reason_J146, M_row_J146, M_bestRow_J146, M_image_J146, M_isKept_J146)] 146 [(6, .int x6_L44), (5, .int x5_J146), (0, .ref (aM 0)), (1, .int x1), (2, .int x2), (3, .int x3), (4, .int x4)] []) hf (fun x5_J146 M_beds_J146 M_law_J146 M_worths_J146 M_sights_J146 M_sight_J146 M_signs_J146 M_pad_J146 M_lies_J146 M_empty_J146 M_list_J146 M_waits_J146 M_yard_J146 M_last_J146 M_used_J146 M_sheets_J146 M_nights_J146 M_fleasOfGuests_J146 M_fleasOfBeds_J146 M_reason_J146 M_row_J146 M_bestRow_J146 M_image_J146 M_isKept_J146 hf => ?_) (fun kJ146 hJ146 hf => ?_)
          · refine gq_aload_n C 2 147 dX6_go_146 rfl rfl ?_
            refine gq_get C fo_X6_18 fw_X6_134 0 0 150 rfl rfl rfl dX6_go_147 rfl ?_
            refine gq_if_le C 156 153 dX6_go_150 (by decide) rfl (fun h150 => ?_) (fun h150 => ?_)
            · replace hf := gq_ifp h150 hf
              refine gq_iinc C 0 [(6, .int (x6_L44 + (nI 1))), (5, .int x5_J146), (0, .ref (aM 0)), (1, .int x1), (2, .int x2), (3, .int x3), (4, .int x4)] 159 dX6_go_156 rfl rfl (by decide) rfl rfl ?_
              refine gq_goto C 44 dX6_go_159 (by decide) ?_
              exact ihL44 _ _ _ _ _ _ _ _ _ _ _ _ _ _ _ _ _ _ _ _ _ _ _ _ _ hf
            · replace hf := gq_ifn h150 hf
              refine gq_iload C 0 155 dX6_go_153 rfl rfl ?_
              obtain rfl := gq_lf hf
              exact hret dX6_go_155 gPost.rf
          · refine gq_icmp_ge C 146 72 dX6_go_69 (by decide) rfl (fun h69 => ?_) (fun h69 => ?_)
            · replace hf := gq_ifp h69 hf
              exact hJ146 _ _ _ _ _ _ _ _ _ _ _ _ _ _ _ _ _ _ _ _ _ _ _ _ hf
            · replace hf := gq_ifn h69 hf
              refine gq_aload_n C 2 73 dX6_go_72 rfl rfl ?_
              refine gq_get C fo_X6_18 fw_X6_134 0 0 76 rfl rfl rfl dX6_go_73 rfl ?_
              refine gq_if_ne C 146 79 dX6_go_76 (by decide) rfl (fun h76 => ?_) (fun h76 => ?_)
              · replace hf := gq_ifn h76 hf
                exact hJ146 _ _ _ _ _ _ _ _ _ _ _ _ _ _ _ _ _ _ _ _ _ _ _ _ hf
              · replace hf := gq_ifp h76 hf
                refine gq_aload_n C 2 80 dX6_go_79 rfl rfl ?_
                refine gq_get C fo_X6_6 fw_X6_20 0 0 83 rfl rfl rfl dX6_go_80 rfl ?_
                refine gq_iload C 0 85 dX6_go_83 rfl rfl ?_
                obtain ⟨h85, hf⟩ := gq_ok hf
                refine gq_iald C 0 3 86 rfl rfl h85 dX6_go_85 rfl ?_
                refine gq_bipush C (nI 63) 88 dX6_go_86 (by decide) rfl ?_
                refine gq_icmp_ne C 127 91 dX6_go_88 (by decide) rfl (fun h88 => ?_) (fun h88 => ?_)
                · replace hf := gq_ifn h88 hf
                  refine gq_aload_n C 2 128 dX6_go_127 rfl rfl ?_
                  refine gq_aload_n C 2 129 dX6_go_128 rfl rfl ?_
                  refine gq_aload_n C 2 130 dX6_go_129 rfl rfl ?_
                  refine gq_aload_n C 2 131 dX6_go_130 rfl rfl ?_
                  refine gq_get C fo_X6_6 fw_X6_20 0 0 134 rfl rfl rfl dX6_go_131 rfl ?_
                  refine gq_iload C 0 136 dX6_go_134 rfl rfl ?_
                  obtain ⟨h136, hf⟩ := gq_ok hf
                  refine gq_iald C 0 3 137 rfl rfl h136 dX6_go_136 rfl ?_
                  obtain ⟨r_137, hc, hf⟩ := gq_bd hf
                  refine gq_callV C hA gm_X6_143 (c_X6_eventOf l D cI cZ aM (M_pad_J66 x6_L44.toNatClampNeg) _ hc) rfl 0 0 rfl rfl rfl ⟨Nat.le_trans (Nat.le_of_ble_eq_true rfl) hR.1, Nat.le_trans (Nat.le_of_ble_eq_true rfl) hR.2.1⟩ ⟨Nat.zero_le _, Nat.zero_le _⟩ rfl (Nat.le_of_ble_eq_true rfl) dX6_go_137 [] [mC cI cZ aM (M_beds_J66, M_law_J66, M_worths_J66, M_sights_J66, M_sight_J66, M_signs_J66, M_pad_J66, M_lies_J66, M_empty_J66, M_list_J66, M_waits_J66, M_yard_J66, M_last_J66, M_used_J66, M_sheets_J66, M_nights_J66, M_fleasOfGuests_J66, M_fleasOfBeds_J66, M_reason_J66, M_row_J66, M_bestRow_J66, M_image_J66, M_isKept_J66)] 140 rfl (by decide) rfl rfl rfl [.int r_137, .ref (aM 0), .ref (aM 0)] rfl ?_
                  obtain ⟨⟨r_140, ⟨M_beds_140, M_law_140, M_worths_140, M_sights_140, M_sight_140, M_signs_140, M_pad_140, M_lies_140, M_empty_140, M_list_140, M_waits_140, M_yard_140, M_last_140, M_used_140, M_sheets_140, M_nights_140, M_fleasOfGuests_140, M_fleasOfBeds_140, M_reason_140, M_row_140, M_bestRow_140, M_image_140, M_isKept_140⟩⟩, hc, hf⟩ := gq_bd hf
                  refine gq_callV C hA gm_X6_140 (c_X6_happen l D cI cZ aM r_137 (M_beds_J66, M_law_J66, M_worths_J66, M_sights_J66, M_sight_J66, M_signs_J66, M_pad_J66, M_lies_J66, M_empty_J66, M_list_J66, M_waits_J66, M_yard_J66, M_last_J66, M_used_J66, M_sheets_J66, M_nights_J66, M_fleasOfGuests_J66, M_fleasOfBeds_J66, M_reason_J66, M_row_J66, M_bestRow_J66, M_image_J66, M_isKept_J66) _ hc) rfl 0 0 rfl rfl rfl ⟨Nat.le_trans (Nat.le_of_ble_eq_true rfl) hR.1, Nat.le_trans (Nat.le_of_ble_eq_true rfl) hR.2.1⟩ ⟨Nat.zero_le _, Nat.zero_le _⟩ rfl (Nat.le_of_ble_eq_true rfl) dX6_go_140 [0] [mC cI cZ aM (M_beds_140, M_law_140, M_worths_140, M_sights_140, M_sight_140, M_signs_140, M_pad_140, M_lies_140, M_empty_140, M_list_140, M_waits_140, M_yard_140, M_last_140, M_used_140, M_sheets_140, M_nights_140, M_fleasOfGuests_140, M_fleasOfBeds_140, M_reason_140, M_row_140, M_bestRow_140, M_image_140, M_isKept_140)] 143 rfl (by decide) rfl rfl rfl [.int r_140, .ref (aM 0)] rfl ?_
                  refine gq_put C fo_X6_18 fp_X6_18 rfl fw_X6_134 0 0 146 [mC cI cZ aM (M_beds_140, M_law_140, M_worths_140, M_sights_140, M_sight_140, M_signs_140, M_pad_140, M_lies_140, M_empty_140, M_list_140, M_waits_140, M_yard_140, M_last_140, M_used_140, M_sheets_140, M_nights_140, M_fleasOfGuests_140, M_fleasOfBeds_140, r_140, M_row_140, M_bestRow_140, M_image_140, M_isKept_140)] rfl rfl rfl rfl (Nat.le_of_ble_eq_true rfl) rfl dX6_go_143 rfl ?_
                  exact hJ146 _ _ _ _ _ _ _ _ _ _ _ _ _ _ _ _ _ _ _ _ _ _ _ _ hf
                · replace hf := gq_ifp h88 hf
                  refine gq_aload_n C 2 92 dX6_go_91 rfl rfl ?_
                  refine gq_aload_n C 2 93 dX6_go_92 rfl rfl ?_
                  refine gq_iload_n C 4 94 dX6_go_93 rfl rfl ?_
                  refine gq_iload C 1 96 dX6_go_94 rfl rfl ?_
                  obtain ⟨h96, hf⟩ := gq_ok hf
                  refine gq_idiv C 97 dX6_go_96 h96 rfl ?_
                  refine gq_bipush C (nI 8) 99 dX6_go_97 (by decide) rfl ?_
                  refine gq_irem C 100 dX6_go_99 (by decide) rfl ?_
                  obtain ⟨⟨r_100, ⟨M_beds_100, M_law_100, M_worths_100, M_sights_100, M_sight_100, M_signs_100, M_pad_100, M_lies_100, M_empty_100, M_list_100, M_waits_100, M_yard_100, M_last_100, M_used_100, M_sheets_100, M_nights_100, M_fleasOfGuests_100, M_fleasOfBeds_100, M_reason_100, M_row_100, M_bestRow_100, M_image_100, M_isKept_100⟩⟩, hc, hf⟩ := gq_bd hf
                  refine gq_callV C hA gm_X6_140 (c_X6_happen l D cI cZ aM ((x2 / x5_L44) - (x2 / x5_L44) / (nI 8) * (nI 8)) (M_beds_J66, M_law_J66, M_worths_J66, M_sights_J66, M_sight_J66, M_signs_J66, M_pad_J66, M_lies_J66, M_empty_J66, M_list_J66, M_waits_J66, M_yard_J66, M_last_J66, M_used_J66, M_sheets_J66, M_nights_J66, M_fleasOfGuests_J66, M_fleasOfBeds_J66, M_reason_J66, M_row_J66, M_bestRow_J66, M_image_J66, M_isKept_J66) _ hc) rfl 0 0 rfl rfl rfl ⟨Nat.le_trans (Nat.le_of_ble_eq_true rfl) hR.1, Nat.le_trans (Nat.le_of_ble_eq_true rfl) hR.2.1⟩ ⟨Nat.zero_le _, Nat.zero_le _⟩ rfl (Nat.le_of_ble_eq_true rfl) dX6_go_100 [0] [mC cI cZ aM (M_beds_100, M_law_100, M_worths_100, M_sights_100, M_sight_100, M_signs_100, M_pad_100, M_lies_100, M_empty_100, M_list_100, M_waits_100, M_yard_100, M_last_100, M_used_100, M_sheets_100, M_nights_100, M_fleasOfGuests_100, M_fleasOfBeds_100, M_reason_100, M_row_100, M_bestRow_100, M_image_100, M_isKept_100)] 103 rfl (by decide) rfl rfl rfl [.int r_100, .ref (aM 0)] rfl ?_
                  refine gq_put C fo_X6_18 fp_X6_18 rfl fw_X6_134 0 0 106 [mC cI cZ aM (M_beds_100, M_law_100, M_worths_100, M_sights_100, M_sight_100, M_signs_100, M_pad_100, M_lies_100, M_empty_100, M_list_100, M_waits_100, M_yard_100, M_last_100, M_used_100, M_sheets_100, M_nights_100, M_fleasOfGuests_100, M_fleasOfBeds_100, r_100, M_row_100, M_bestRow_100, M_image_100, M_isKept_100)] rfl rfl rfl rfl (Nat.le_of_ble_eq_true rfl) rfl dX6_go_103 rfl ?_
                  refine gq_iload C 1 108 dX6_go_106 rfl rfl ?_
                  refine gq_iconst C (nI 1) 109 dX6_go_108 (by decide) rfl ?_
                  refine gq_jn (P := fun k => ∀ (z0_J122 : Int32), k z0_J122 = some rr → G p l e R s m args below meth c 7 D A H0 0 0 Q [mC cI cZ aM (M_beds_100, M_law_100, M_worths_100, M_sights_100, M_sight_100, M_signs_100, M_pad_100, M_lies_100, M_empty_100, M_list_100, M_waits_100, M_yard_100, M_last_100, M_used_100, M_sheets_100, M_nights_100, M_fleasOfGuests_100, M_fleasOfBeds_100, r_100, M_row_100, M_bestRow_100, M_image_100, M_isKept_100)] 122 [(6, .int x6_L44), (5, .int x5_L44), (0, .ref (aM 0)), (1, .int x1), (2, .int x2), (3, .int x3), (4, .int x4)] [.int z0_J122]) hf (fun z0_J122 hf => ?_) (fun kJ122 hJ122 hf => ?_)
                  · refine gq_istore C [(5, .int z0_J122), (6, .int x6_L44), (0, .ref (aM 0)), (1, .int x1), (2, .int x2), (3, .int x3), (4, .int x4)] 124 dX6_go_122 (by decide) rfl rfl ?_
                    refine gq_goto C 146 dX6_go_124 (by decide) ?_
                    refine gq_lv [1, 0, 2, 3, 4, 5, 6] rfl ?_
                    exact hJ146 _ _ _ _ _ _ _ _ _ _ _ _ _ _ _ _ _ _ _ _ _ _ _ _ hf
                  · refine gq_icmp_le C 120 112 dX6_go_109 (by decide) rfl (fun h109 => ?_) (fun h109 => ?_)
                    · replace hf := gq_ifp h109 hf
                      refine gq_iload C 1 122 dX6_go_120 rfl rfl ?_
                      exact hJ122 _ hf
                    · replace hf := gq_ifn h109 hf
                      refine gq_iload C 1 114 dX6_go_112 rfl rfl ?_
                      refine gq_bipush C (nI 8) 116 dX6_go_114 (by decide) rfl ?_
                      refine gq_idiv C 117 dX6_go_116 (by decide) rfl ?_
                      refine gq_goto C 122 dX6_go_117 (by decide) ?_
                      exact hJ122 _ hf
        · refine gq_icmp_ne C 66 56 dX6_go_53 (by decide) rfl (fun h53 => ?_) (fun h53 => ?_)
          · replace hf := gq_ifn h53 hf
            exact hJ66 _ _ _ _ _ _ _ _ _ _ _ _ _ _ _ _ _ _ _ _ _ _ _ hf
          · replace hf := gq_ifp h53 hf
            refine gq_aload_n C 2 57 dX6_go_56 rfl rfl ?_
            refine gq_aload_n C 2 58 dX6_go_57 rfl rfl ?_
            refine gq_iload C 6 60 dX6_go_58 rfl rfl ?_
            obtain ⟨⟨r_60, ⟨M_beds_60, M_law_60, M_worths_60, M_sights_60, M_sight_60, M_signs_60, M_pad_60, M_lies_60, M_empty_60, M_list_60, M_waits_60, M_yard_60, M_last_60, M_used_60, M_sheets_60, M_nights_60, M_fleasOfGuests_60, M_fleasOfBeds_60, M_reason_60, M_row_60, M_bestRow_60, M_image_60, M_isKept_60⟩⟩, hc, hf⟩ := gq_bd hf
            refine gq_callV C hA gm_X6_140 (c_X6_happen l D cI cZ aM x4 (M_beds_L44, M_law_L44, M_worths_L44, M_sights_L44, M_sight_L44, M_signs_L44, M_pad_L44, M_lies_L44, M_empty_L44, M_list_L44, M_waits_L44, M_yard_L44, M_last_L44, M_used_L44, M_sheets_L44, M_nights_L44, M_fleasOfGuests_L44, M_fleasOfBeds_L44, M_reason_L44, M_row_L44, M_bestRow_L44, M_image_L44, M_isKept_L44) _ hc) rfl 0 0 rfl rfl rfl ⟨Nat.le_trans (Nat.le_of_ble_eq_true rfl) hR.1, Nat.le_trans (Nat.le_of_ble_eq_true rfl) hR.2.1⟩ ⟨Nat.zero_le _, Nat.zero_le _⟩ rfl (Nat.le_of_ble_eq_true rfl) dX6_go_60 [0] [mC cI cZ aM (M_beds_60, M_law_60, M_worths_60, M_sights_60, M_sight_60, M_signs_60, M_pad_60, M_lies_60, M_empty_60, M_list_60, M_waits_60, M_yard_60, M_last_60, M_used_60, M_sheets_60, M_nights_60, M_fleasOfGuests_60, M_fleasOfBeds_60, M_reason_60, M_row_60, M_bestRow_60, M_image_60, M_isKept_60)] 63 rfl (by decide) rfl rfl rfl [.int r_60, .ref (aM 0)] rfl ?_
            refine gq_put C fo_X6_18 fp_X6_18 rfl fw_X6_134 0 0 66 [mC cI cZ aM (M_beds_60, M_law_60, M_worths_60, M_sights_60, M_sight_60, M_signs_60, M_pad_60, M_lies_60, M_empty_60, M_list_60, M_waits_60, M_yard_60, M_last_60, M_used_60, M_sheets_60, M_nights_60, M_fleasOfGuests_60, M_fleasOfBeds_60, r_60, M_row_60, M_bestRow_60, M_image_60, M_isKept_60)] rfl rfl rfl rfl (Nat.le_of_ble_eq_true rfl) rfl dX6_go_63 rfl ?_
            exact hJ66 _ _ _ _ _ _ _ _ _ _ _ _ _ _ _ _ _ _ _ _ _ _ _ hf
  refine L44 _ (fun x5_L44 x6_L44 M_beds_L44 M_law_L44 M_worths_L44 M_sights_L44 M_sight_L44 M_signs_L44 M_pad_L44 M_lies_L44 M_empty_L44 M_list_L44 M_waits_L44 M_yard_L44 M_last_L44 M_used_L44 M_sheets_L44 M_nights_L44 M_fleasOfGuests_L44 M_fleasOfBeds_L44 M_reason_L44 M_row_L44 M_bestRow_L44 M_image_L44 M_isKept_L44 hf => ?_) _ _ _ _ _ _ _ _ _ _ _ _ _ _ _ _ _ _ _ _ _ _ _ _ _ _ hf
  refine gq_bipush C (-6 : Int32) 164 dX6_go_162 (by decide) rfl ?_
  obtain rfl := gq_lf hf
  exact hret dX6_go_164 gPost.rf
