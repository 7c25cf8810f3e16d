def f_X5_beds : Int32 → WbS → HouS → Option (Int32 × HouS)
  | x1, B_bedsByPlace, (H_beds, H_law, H_sights, H_isKept, H_worths, H_sightGuests, H_sightBeds) => (if x1 < (nI 2) then some ((-2 : Int32), (H_beds, H_law, H_sights, H_isKept, H_worths, H_sightGuests, H_sightBeds)) else (if x1 ≤ (nI 8) then (Option.bind (f_X2_furnish x1 (H_beds, H_law, H_sights, H_isKept, H_worths, H_sightGuests, H_sightBeds)) (fun (H_beds_27, H_law_27, H_sights_27, H_isKept_27, H_worths_27, H_sightGuests_27, H_sightBeds_27) => some (H_beds, (H_beds_27, H_law_27, H_sights_27, H_isKept_27, H_worths_27, H_sightGuests_27, H_sightBeds_27)))) else some ((-2 : Int32), (H_beds, H_law, H_sights, H_isKept, H_worths, H_sightGuests, H_sightBeds))))
set_option maxHeartbeats 4000000 in
set_option maxRecDepth 100000 in
theorem c_X5_beds (l : Launch) (D : va_G) (cI cZ : ClassId) (aB : Nat → Nat) (rB1 : Nat) (rB2 : Nat) (rB3 : Nat) (rB4 : Nat) (rB5 : Nat) (rB6 : Nat) (aH : Nat → Nat) (x1 : Int32) (tB : WbS) (tH : HouS) (rr : Int32 × HouS) (hf : f_X5_beds x1 tB tH = some rr) : CT l D cI cZ yX5_beds cX5_beds 3 (some .int) 1 22 0 0 [.ref (aB 0), .int x1] ([bC cI aB (aH 0) rB1 rB2 rB3 rB4 rB5 rB6 tB, hC cI aH tH]) (gPost (some (.int rr.1)) ([bC cI aB (aH 0) rB1 rB2 rB3 rB4 rB5 rB6 tB, hC cI aH rr.2])) := by
  obtain ⟨B_bedsByPlace, rfl⟩ : ∃ z, z = tB := ⟨_, rfl⟩
  obtain ⟨H_beds, H_law, H_sights, H_isKept, H_worths, H_sightGuests, H_sightBeds⟩ := tH
  rw [f_X5_beds] at hf
  refine CT.mkI (by decide) (Nat.le_of_ble_eq_true rfl) fun {p} {e} {R} {s} {m} {args} {below} {meth} {c} {A} {H0} {Q} C hA hR hret => ?_
  show G p l e R s m args below meth c 3 D A H0 0 0 Q [bC cI aB (aH 0) rB1 rB2 rB3 rB4 rB5 rB6 B_bedsByPlace, hC cI aH (H_beds, H_law, H_sights, H_isKept, H_worths, H_sightGuests, H_sightBeds)] 0 [(0, .ref (aB 0)), (1, .int x1)] []
  refine gq_iload_n C 1 1 dX5_beds_0 rfl rfl ?_
  refine gq_iconst C (nI 2) 2 dX5_beds_1 (by decide) rfl ?_
  refine gq_icmp_lt C 11 5 dX5_beds_2 (by decide) rfl (fun h2 => ?_) (fun h2 => ?_)
  · replace hf := gq_ifp h2 hf
    refine gq_bipush C (-2 : Int32) 13 dX5_beds_11 (by decide) rfl ?_
    obtain rfl := gq_lf hf
    exact hret dX5_beds_13 gPost.rf
  · replace hf := gq_ifn h2 hf
    refine gq_iload_n C 1 6 dX5_beds_5 rfl rfl ?_
    refine gq_bipush C (nI 8) 8 dX5_beds_6 (by decide) rfl ?_
    refine gq_icmp_le C 14 11 dX5_beds_8 (by decide) rfl (fun h8 => ?_) (fun h8 => ?_)
    · replace hf := gq_ifp h8 hf
      refine gq_aload_n C 0 15 dX5_beds_14 rfl rfl ?_
      refine gq_get C fo_X5_0 fw_X5_12 0 0 18 rfl rfl rfl dX5_beds_15 rfl ?_
      refine gq_getN C fo_X2_0 fw_X5_56 1 0 21 rfl rfl rfl dX5_beds_18 rfl ?_
      refine gq_istore_n C [(2, .int H_beds), (0, .ref (aB 0)), (1, .int x1)] 22 dX5_beds_21 (by decide) rfl rfl ?_
      refine gq_aload_n C 1 23 dX5_beds_22 rfl rfl ?_
      refine gq_get C fo_X5_0 fw_X5_12 0 0 26 rfl rfl rfl dX5_beds_23 rfl ?_
      refine gq_iload_n C 2 27 dX5_beds_26 rfl rfl ?_
      obtain ⟨⟨H_beds_27, H_law_27, H_sights_27, H_isKept_27, H_worths_27, H_sightGuests_27, H_sightBeds_27⟩, hc, hf⟩ := gq_bd hf
      refine gq_callN C hA gm_X5_60 (c_X2_furnish l D cI cZ aH x1 (H_beds, H_law, H_sights, H_isKept, H_worths, H_sightGuests, H_sightBeds) _ hc) rfl 1 0 rfl rfl rfl ⟨Nat.le_trans (Nat.le_of_ble_eq_true rfl) hR.1, Nat.le_trans (Nat.le_of_ble_eq_true rfl) hR.2.1⟩ ⟨Nat.zero_le _, Nat.zero_le _⟩ rfl (Nat.le_of_ble_eq_true rfl) dX5_beds_27 [1] [bC cI aB (aH 0) rB1 rB2 rB3 rB4 rB5 rB6 B_bedsByPlace, hC cI aH (H_beds_27, H_law_27, H_sights_27, H_isKept_27, H_worths_27, H_sightGuests_27, H_sightBeds_27)] 30 rfl (by decide) rfl rfl rfl [] rfl ?_
      refine gq_iload_n C 0 31 dX5_beds_30 rfl rfl ?_
      obtain rfl := gq_lf hf
      exact hret dX5_beds_31 gPost.rf
    · replace hf := gq_ifn h8 hf
      refine gq_bipush C (-2 : Int32) 13 dX5_beds_11 (by decide) rfl ?_
      obtain rfl := gq_lf hf
      exact hret dX5_beds_13 gPost.rf

def f_X5_worth : Int32 → Int32 → Int32 → WbS → HouS → Option (Int32 × HouS)
  | x1, x2, x3, B_bedsByPlace, (H_beds, H_law, H_sights, H_isKept, H_worths, H_sightGuests, H_sightBeds) => (Option.bind (f_X5_isGuest x1) (fun r_1 => (if r_1 = 0 then some ((-1 : Int32), (H_beds, H_law, H_sights, H_isKept, H_worths, H_sightGuests, H_sightBeds)) else (Option.bind (f_X5_isBed x2 B_bedsByPlace (H_beds, H_law, H_sights, H_isKept, H_worths, H_sightGuests, H_sightBeds)) (fun r_9 => (if r_9 = 0 then some ((-1 : Int32), (H_beds, H_law, H_sights, H_isKept, H_worths, H_sightGuests, H_sightBeds)) else (if x3 < 0 then some ((-2 : Int32), (H_beds, H_law, H_sights, H_isKept, H_worths, H_sightGuests, H_sightBeds)) else (if x3 ≤ (nI 99) then (Option.bind (f_X2_worthOf x1 x2 (H_beds, H_law, H_sights, H_isKept, H_worths, H_sightGuests, H_sightBeds)) (fun r_36 => (Option.bind (f_X2_setWorth x1 x2 x3 (H_beds, H_law, H_sights, H_isKept, H_worths, H_sightGuests, H_sightBeds)) (fun (H_beds_48, H_law_48, H_sights_48, H_isKept_48, H_worths_48, H_sightGuests_48, H_sightBeds_48) => some (r_36, (H_beds_48, H_law_48, H_sights_48, H_isKept_48, H_worths_48, H_sightGuests_48, H_sightBeds_48)))))) else some ((-2 : Int32), (H_beds, H_law, H_sights, H_isKept, H_worths, H_sightGuests, H_sightBeds))))))))))
set_option maxHeartbeats 4000000 in
set_option maxRecDepth 100000 in
theorem c_X5_worth (l : Launch) (D : va_G) (cI cZ : ClassId) (aB : Nat → Nat) (rB1 : Nat) (rB2 : Nat) (rB3 : Nat) (rB4 : Nat) (rB5 : Nat) (rB6 : Nat) (aH : Nat → Nat) (x1 : Int32) (x2 : Int32) (x3 : Int32) (tB : WbS) (tH : HouS) (rr : Int32 × HouS) (hf : f_X5_worth x1 x2 x3 tB tH = some rr) : CT l D cI cZ yX5_worth cX5_worth 5 (some .int) 2 43 0 0 [.ref (aB 0), .int x1, .int x2, .int x3] ([bC cI aB (aH 0) rB1 rB2 rB3 rB4 rB5 rB6 tB, hC cI aH tH]) (gPost (some (.int rr.1)) ([bC cI aB (aH 0) rB1 rB2 rB3 rB4 rB5 rB6 tB, hC cI aH rr.2])) := by
  obtain ⟨B_bedsByPlace, rfl⟩ : ∃ z, z = tB := ⟨_, rfl⟩
  obtain ⟨H_beds, H_law, H_sights, H_isKept, H_worths, H_sightGuests, H_sightBeds⟩ := tH
  rw [f_X5_worth] at hf
  refine CT.mkI (by decide) (Nat.le_of_ble_eq_true rfl) fun {p} {e} {R} {s} {m} {args} {below} {meth} {c} {A} {H0} {Q} C hA hR hret => ?_
  show G p l e R s m args below meth c 5 D A H0 0 0 Q [bC cI aB (aH 0) rB1 rB2 rB3 rB4 rB5 rB6 B_bedsByPlace, hC cI aH (H_beds, H_law, H_sights, H_isKept, H_worths, H_sightGuests, H_sightBeds)] 0 [(0, .ref (aB 0)), (1, .int x1), (2, .int x2), (3, .int x3)] []
  refine gq_iload_n C 1 1 dX5_worth_0 rfl rfl ?_
  obtain ⟨r_1, hc, hf⟩ := gq_bd hf
  refine gq_callS C hA gm_X5_64 (c_X5_isGuest l D cI cZ  x1 _ hc) rfl ⟨Nat.le_trans (Nat.le_of_ble_eq_true rfl) hR.1, Nat.le_trans (Nat.le_of_ble_eq_true rfl) hR.2.1⟩ ⟨Nat.zero_le _, Nat.zero_le _⟩ rfl (Nat.le_of_ble_eq_true rfl) dX5_worth_1 [] [bC cI aB (aH 0) rB1 rB2 rB3 rB4 rB5 rB6 B_bedsByPlace, hC cI aH (H_beds, H_law, H_sights, H_isKept, H_worths, H_sightGuests, H_sightBeds)] 4 rfl (by decide) rfl rfl rfl [.int r_1] rfl ?_
  refine gq_if_eq C 15 7 dX5_worth_4 (by decide) rfl (fun h4 => ?_) (fun h4 => ?_)
  · replace hf := gq_ifp h4 hf
    refine gq_iconst C (-1 : Int32) 16 dX5_worth_15 (by decide) rfl ?_
    obtain rfl := gq_lf hf
    exact hret dX5_worth_16 gPost.rf
  · replace hf := gq_ifn h4 hf
    refine gq_aload_n C 0 8 dX5_worth_7 rfl rfl ?_
    refine gq_iload_n C 2 9 dX5_worth_8 rfl rfl ?_
    obtain ⟨r_9, hc, hf⟩ := gq_bd hf
    refine gq_callV C hA gm_X5_68 (c_X5_isBed l D cI cZ aB rB1 rB2 rB3 rB4 rB5 rB6 aH x2 B_bedsByPlace (H_beds, H_law, H_sights, H_isKept, H_worths, H_sightGuests, H_sightBeds) _ hc) rfl 0 0 rfl rfl rfl ⟨Nat.le_trans (Nat.le_of_ble_eq_true rfl) hR.1, Nat.le_trans (Nat.le_of_ble_eq_true rfl) hR.2.1⟩ ⟨Nat.zero_le _, Nat.zero_le _⟩ rfl (Nat.le_of_ble_eq_true rfl) dX5_worth_9 [0, 1] [bC cI aB (aH 0) rB1 rB2 rB3 rB4 rB5 rB6 B_bedsByPlace, hC cI aH (H_beds, H_law, H_sights, H_isKept, H_worths, H_sightGuests, H_sightBeds)] 12 rfl (by decide) rfl rfl rfl [.int r_9] rfl ?_
    refine gq_if_ne C 17 15 dX5_worth_12 (by decide) rfl (fun h12 => ?_) (fun h12 => ?_)
    · replace hf := gq_ifn h12 hf
      refine gq_iload_n C 3 18 dX5_worth_17 rfl rfl ?_
      refine gq_if_lt C 27 21 dX5_worth_18 (by decide) rfl (fun h18 => ?_) (fun h18 => ?_)
      · replace hf := gq_ifp h18 hf
        refine gq_bipush C (-2 : Int32) 29 dX5_worth_27 (by decide) rfl ?_
        obtain rfl := gq_lf hf
        exact hret dX5_worth_29 gPost.rf
      · replace hf := gq_ifn h18 hf
        refine gq_iload_n C 3 22 dX5_worth_21 rfl rfl ?_
        refine gq_bipush C (nI 99) 24 dX5_worth_22 (by decide) rfl ?_
        refine gq_icmp_le C 30 27 dX5_worth_24 (by decide) rfl (fun h24 => ?_) (fun h24 => ?_)
        · replace hf := gq_ifp h24 hf
          refine gq_aload_n C 0 31 dX5_worth_30 rfl rfl ?_
          refine gq_get C fo_X5_0 fw_X5_12 0 0 34 rfl rfl rfl dX5_worth_31 rfl ?_
          refine gq_iload_n C 1 35 dX5_worth_34 rfl rfl ?_
          refine gq_iload_n C 2 36 dX5_worth_35 rfl rfl ?_
          obtain ⟨r_36, hc, hf⟩ := gq_bd hf
          refine gq_callN C hA gm_X5_71 (c_X2_worthOf l D cI cZ aH x1 x2 (H_beds, H_law, H_sights, H_isKept, H_worths, H_sightGuests, H_sightBeds) _ hc) rfl 1 0 rfl rfl rfl ⟨Nat.le_trans (Nat.le_of_ble_eq_true rfl) hR.1, Nat.le_trans (Nat.le_of_ble_eq_true rfl) hR.2.1⟩ ⟨Nat.zero_le _, Nat.zero_le _⟩ rfl (Nat.le_of_ble_eq_true rfl) dX5_worth_36 [1] [bC cI aB (aH 0) rB1 rB2 rB3 rB4 rB5 rB6 B_bedsByPlace, hC cI aH (H_beds, H_law, H_sights, H_isKept, H_worths, H_sightGuests, H_sightBeds)] 39 rfl (by decide) rfl rfl rfl [.int r_36] rfl ?_
          refine gq_istore C [(4, .int r_36), (0, .ref (aB 0)), (1, .int x1), (2, .int x2), (3, .int x3)] 41 dX5_worth_39 (by decide) rfl rfl ?_
          refine gq_aload_n C 1 42 dX5_worth_41 rfl rfl ?_
          refine gq_get C fo_X5_0 fw_X5_12 0 0 45 rfl rfl rfl dX5_worth_42 rfl ?_
          refine gq_iload_n C 2 46 dX5_worth_45 rfl rfl ?_
          refine gq_iload_n C 3 47 dX5_worth_46 rfl rfl ?_
          refine gq_iload_n C 4 48 dX5_worth_47 rfl rfl ?_
          obtain ⟨⟨H_beds_48, H_law_48, H_sights_48, H_isKept_48, H_worths_48, H_sightGuests_48, H_sightBeds_48⟩, hc, hf⟩ := gq_bd hf
          refine gq_callN C hA gm_X5_75 (c_X2_setWorth l D cI cZ aH x1 x2 x3 (H_beds, H_law, H_sights, H_isKept, H_worths, H_sightGuests, H_sightBeds) _ hc) rfl 1 0 rfl rfl rfl ⟨Nat.le_trans (Nat.le_of_ble_eq_true rfl) hR.1, Nat.le_trans (Nat.le_of_ble_eq_true rfl) hR.2.1⟩ ⟨Nat.zero_le _, Nat.zero_le _⟩ rfl (Nat.le_of_ble_eq_true rfl) dX5_worth_48 [1] [bC cI aB (aH 0) rB1 rB2 rB3 rB4 rB5 rB6 B_bedsByPlace, hC cI aH (H_beds_48, H_law_48, H_sights_48, H_isKept_48, H_worths_48, H_sightGuests_48, H_sightBeds_48)] 51 rfl (by decide) rfl rfl rfl [] rfl ?_
          refine gq_iload C 0 53 dX5_worth_51 rfl rfl ?_
          obtain rfl := gq_lf hf
          exact hret dX5_worth_53 gPost.rf
        · replace hf := gq_ifn h24 hf
          refine gq_bipush C (-2 : Int32) 29 dX5_worth_27 (by decide) rfl ?_
          obtain rfl := gq_lf hf
          exact hret dX5_worth_29 gPost.rf
    · replace hf := gq_ifp h12 hf
      refine gq_iconst C (-1 : Int32) 16 dX5_worth_15 (by decide) rfl ?_
      obtain rfl := gq_lf hf
      exact hret dX5_worth_16 gPost.rf

def f_X5_rule : Int32 → WbS → HouS → Option (Int32 × HouS)
  | x1, B_bedsByPlace, (H_beds, H_law, H_sights, H_isKept, H_worths, H_sightGuests, H_sightBeds) => (if x1 < 0 then some ((-2 : Int32), (H_beds, H_law, H_sights, H_isKept, H_worths, H_sightGuests, H_sightBeds)) else (if x1 < (nI 4) then some (H_law, (H_beds, x1, H_sights, H_isKept, H_worths, H_sightGuests, H_sightBeds)) else some ((-2 : Int32), (H_beds, H_law, H_sights, H_isKept, H_worths, H_sightGuests, H_sightBeds))))
set_option maxHeartbeats 4000000 in
set_option maxRecDepth 100000 in
theorem c_X5_rule (l : Launch) (D : va_G) (cI cZ : ClassId) (aB : Nat → Nat) (rB1 : Nat) (rB2 : Nat) (rB3 : Nat) (rB4 : Nat) (rB5 : Nat) (rB6 : Nat) (aH : Nat → Nat) (x1 : Int32) (tB : WbS) (tH : HouS) (rr : Int32 × HouS) (hf : f_X5_rule x1 tB tH = some rr) : CT l D cI cZ yX5_rule cX5_rule 3 (some .int) 0 0 0 0 [.ref (aB 0), .int x1] ([bC cI aB (aH 0) rB1 rB2 rB3 rB4 rB5 rB6 tB, hC cI aH tH]) (gPost (some (.int rr.1)) ([bC cI aB (aH 0) rB1 rB2 rB3 rB4 rB5 rB6 tB, hC cI aH rr.2])) := by
  obtain ⟨B_bedsByPlace, rfl⟩ : ∃ z, z = tB := ⟨_, rfl⟩
  obtain ⟨H_beds, H_law, H_sights, H_isKept, H_worths, H_sightGuests, H_sightBeds⟩ := tH
  rw [f_X5_rule] at hf
  refine CT.mkI (by decide) (Nat.le_of_ble_eq_true rfl) fun {p} {e} {R} {s} {m} {args} {below} {meth} {c} {A} {H0} {Q} C hA hR hret => ?_
  show G p l e R s m args below meth c 3 D A H0 0 0 Q [bC cI aB (aH 0) rB1 rB2 rB3 rB4 rB5 rB6 B_bedsByPlace, hC cI aH (H_beds, H_law, H_sights, H_isKept, H_worths, H_sightGuests, H_sightBeds)] 0 [(0, .ref (aB 0)), (1, .int x1)] []
  refine gq_iload_n C 1 1 dX5_rule_0 rfl rfl ?_
  refine gq_if_lt C 9 4 dX5_rule_1 (by decide) rfl (fun h1 => ?_) (fun h1 => ?_)
  · replace hf := gq_ifp h1 hf
    refine gq_bipush C (-2 : Int32) 11 dX5_rule_9 (by decide) rfl ?_
    obtain rfl := gq_lf hf
    exact hret dX5_rule_11 gPost.rf
  · replace hf := gq_ifn h1 hf
    refine gq_iload_n C 1 5 dX5_rule_4 rfl rfl ?_
    refine gq_iconst C (nI 4) 6 dX5_rule_5 (by decide) rfl ?_
    refine gq_icmp_lt C 12 9 dX5_rule_6 (by decide) rfl (fun h6 => ?_) (fun h6 => ?_)
    · replace hf := gq_ifp h6 hf
      refine gq_aload_n C 0 13 dX5_rule_12 rfl rfl ?_
      refine gq_get C fo_X5_0 fw_X5_12 0 0 16 rfl rfl rfl dX5_rule_13 rfl ?_
      refine gq_getN C fo_X2_1 fw_X5_79 1 0 19 rfl rfl rfl dX5_rule_16 rfl ?_
      refine gq_istore_n C [(2, .int H_law), (0, .ref (aB 0)), (1, .int x1)] 20 dX5_rule_19 (by decide) rfl rfl ?_
      refine gq_aload_n C 1 21 dX5_rule_20 rfl rfl ?_
      refine gq_get C fo_X5_0 fw_X5_12 0 0 24 rfl rfl rfl dX5_rule_21 rfl ?_
      refine gq_iload_n C 2 25 dX5_rule_24 rfl rfl ?_
      refine gq_putN C fo_X2_1 fp_X2_1 rfl fw_X5_79 1 0 28 [bC cI aB (aH 0) rB1 rB2 rB3 rB4 rB5 rB6 B_bedsByPlace, hC cI aH (H_beds, x1, H_sights, H_isKept, H_worths, H_sightGuests, H_sightBeds)] rfl rfl rfl rfl (Nat.le_of_ble_eq_true rfl) rfl dX5_rule_25 rfl ?_
      refine gq_iload_n C 0 29 dX5_rule_28 rfl rfl ?_
      obtain rfl := gq_lf hf
      exact hret dX5_rule_29 gPost.rf
    · replace hf := gq_ifn h6 hf
      refine gq_bipush C (-2 : Int32) 11 dX5_rule_9 (by decide) rfl ?_
      obtain rfl := gq_lf hf
      exact hret dX5_rule_11 gPost.rf

def f_X5_say : Int32 → WbS → DayS → Option (Int32 × DayS)
  | x1, B_bedsByPlace, (D_length, D_signs) => (if x1 < (nI 33) then some ((-2 : Int32), (D_length, D_signs)) else (if x1 ≤ (nI 126) then (Option.bind (f_X0_isFull (D_length, D_signs)) (fun r_19 => (if r_19 = 0 then (Option.bind (f_X0_write x1 (D_length, D_signs)) (fun (D_length_33, D_signs_33) => some (D_length_33, (D_length_33, D_signs_33)))) else some ((-4 : Int32), (D_length, D_signs))))) else some ((-2 : Int32), (D_length, D_signs))))
set_option maxHeartbeats 4000000 in
set_option maxRecDepth 100000 in
theorem c_X5_say (l : Launch) (D : va_G) (cI cZ : ClassId) (aB : Nat → Nat) (rB0 : Nat) (rB1 : Nat) (rB2 : Nat) (rB4 : Nat) (rB5 : Nat) (rB6 : Nat) (aD : Nat → Nat) (x1 : Int32) (tB : WbS) (tD : DayS) (rr : Int32 × DayS) (hf : f_X5_say x1 tB tD = some rr) : CT l D cI cZ yX5_say cX5_say 2 (some .int) 1 21 0 0 [.ref (aB 0), .int x1] ([bC cI aB rB0 rB1 rB2 (aD 0) rB4 rB5 rB6 tB, dC cI aD tD]) (gPost (some (.int rr.1)) ([bC cI aB rB0 rB1 rB2 (aD 0) rB4 rB5 rB6 tB, dC cI aD rr.2])) := by
  obtain ⟨B_bedsByPlace, rfl⟩ : ∃ z, z = tB := ⟨_, rfl⟩
  obtain ⟨D_length, D_signs⟩ := tD
  rw [f_X5_say] at hf
  refine CT.mkI (by decide) (Nat.le_of_ble_eq_true rfl) fun {p} {e} {R} {s} {m} {args} {below} {meth} {c} {A} {H0} {Q} C hA hR hret => ?_
  show G p l e R s m args below meth c 2 D A H0 0 0 Q [bC cI aB rB0 rB1 rB2 (aD 0) rB4 rB5 rB6 B_bedsByPlace, dC cI aD (D_length, D_signs)] 0 [(0, .ref (aB 0)), (1, .int x1)] []
  refine gq_iload_n C 1 1 dX5_say_0 rfl rfl ?_
  refine gq_bipush C (nI 33) 3 dX5_say_1 (by decide) rfl ?_
  refine gq_icmp_lt C 12 6 dX5_say_3 (by decide) rfl (fun h3 => ?_) (fun h3 => ?_)
  · replace hf := gq_ifp h3 hf
    refine gq_bipush C (-2 : Int32) 14 dX5_say_12 (by decide) rfl ?_
    obtain rfl := gq_lf hf
    exact hret dX5_say_14 gPost.rf
  · replace hf := gq_ifn h3 hf
    refine gq_iload_n C 1 7 dX5_say_6 rfl rfl ?_
    refine gq_bipush C (nI 126) 9 dX5_say_7 (by decide) rfl ?_
    refine gq_icmp_le C 15 12 dX5_say_9 (by decide) rfl (fun h9 => ?_) (fun h9 => ?_)
    · replace hf := gq_ifp h9 hf
      refine gq_aload_n C 0 16 dX5_say_15 rfl rfl ?_
      refine gq_get C fo_X5_3 fw_X5_25 0 0 19 rfl rfl rfl dX5_say_16 rfl ?_
      obtain ⟨r_19, hc, hf⟩ := gq_bd hf
      refine gq_callN C hA gm_X5_82 (c_X0_isFull l D cI cZ aD (D_length, D_signs) _ hc) rfl 1 0 rfl rfl rfl ⟨Nat.le_trans (Nat.le_of_ble_eq_true rfl) hR.1, Nat.le_trans (Nat.le_of_ble_eq_true rfl) hR.2.1⟩ ⟨Nat.zero_le _, Nat.zero_le _⟩ rfl (Nat.le_of_ble_eq_true rfl) dX5_say_19 [1] [bC cI aB rB0 rB1 rB2 (aD 0) rB4 rB5 rB6 B_bedsByPlace, dC cI aD (D_length, D_signs)] 22 rfl (by decide) rfl rfl rfl [.int r_19] rfl ?_
      refine gq_if_eq C 28 25 dX5_say_22 (by decide) rfl (fun h22 => ?_) (fun h22 => ?_)
      · replace hf := gq_ifp h22 hf
        refine gq_aload_n C 0 29 dX5_say_28 rfl rfl ?_
        refine gq_get C fo_X5_3 fw_X5_25 0 0 32 rfl rfl rfl dX5_say_29 rfl ?_
        refine gq_iload_n C 1 33 dX5_say_32 rfl rfl ?_
        obtain ⟨⟨D_length_33, D_signs_33⟩, hc, hf⟩ := gq_bd hf
        refine gq_callN C hA gm_X5_86 (c_X0_write l D cI cZ aD x1 (D_length, D_signs) _ hc) rfl 1 0 rfl rfl rfl ⟨Nat.le_trans (Nat.le_of_ble_eq_true rfl) hR.1, Nat.le_trans (Nat.le_of_ble_eq_true rfl) hR.2.1⟩ ⟨Nat.zero_le _, Nat.zero_le _⟩ rfl (Nat.le_of_ble_eq_true rfl) dX5_say_33 [1] [bC cI aB rB0 rB1 rB2 (aD 0) rB4 rB5 rB6 B_bedsByPlace, dC cI aD (D_length_33, D_signs_33)] 36 rfl (by decide) rfl rfl rfl [] rfl ?_
        refine gq_aload_n C 0 37 dX5_say_36 rfl rfl ?_
        refine gq_get C fo_X5_3 fw_X5_25 0 0 40 rfl rfl rfl dX5_say_37 rfl ?_
        refine gq_getN C fo_X0_0 fw_X5_89 1 0 43 rfl rfl rfl dX5_say_40 rfl ?_
        obtain rfl := gq_lf hf
        exact hret dX5_say_43 gPost.rf
      · replace hf := gq_ifn h22 hf
        refine gq_bipush C (-4 : Int32) 27 dX5_say_25 (by decide) rfl ?_
        obtain rfl := gq_lf hf
        exact hret dX5_say_27 gPost.rf
    · replace hf := gq_ifn h9 hf
      refine gq_bipush C (-2 : Int32) 14 dX5_say_12 (by decide) rfl ?_
      obtain rfl := gq_lf hf
      exact hret dX5_say_14 gPost.rf

def f_X5_wipe : WbS → DayS → Option (Int32 × DayS)
  | B_bedsByPlace, (D_length, D_signs) => some (D_length, ((nI 0), D_signs))
set_option maxHeartbeats 4000000 in
set_option maxRecDepth 100000 in
theorem c_X5_wipe (l : Launch) (D : va_G) (cI cZ : ClassId) (aB : Nat → Nat) (rB0 : Nat) (rB1 : Nat) (rB2 : Nat) (rB4 : Nat) (rB5 : Nat) (rB6 : Nat) (aD : Nat → Nat) (tB : WbS) (tD : DayS) (rr : Int32 × DayS) (hf : f_X5_wipe tB tD = some rr) : CT l D cI cZ yX5_wipe cX5_wipe 2 (some .int) 0 0 0 0 [.ref (aB 0)] ([bC cI aB rB0 rB1 rB2 (aD 0) rB4 rB5 rB6 tB, dC cI aD tD]) (gPost (some (.int rr.1)) ([bC cI aB rB0 rB1 rB2 (aD 0) rB4 rB5 rB6 tB, dC cI aD rr.2])) := by
  obtain ⟨B_bedsByPlace, rfl⟩ : ∃ z, z = tB := ⟨_, rfl⟩
  obtain ⟨D_length, D_signs⟩ := tD
  rw [f_X5_wipe] at hf
  refine CT.mkI (by decide) (Nat.le_of_ble_eq_true rfl) fun {p} {e} {R} {s} {m} {args} {below} {meth} {c} {A} {H0} {Q} C hA hR hret => ?_
  show G p l e R s m args below meth c 2 D A H0 0 0 Q [bC cI aB rB0 rB1 rB2 (aD 0) rB4 rB5 rB6 B_bedsByPlace, dC cI aD (D_length, D_signs)] 0 [(0, .ref (aB 0))] []
  refine gq_aload_n C 0 1 dX5_wipe_0 rfl rfl ?_
  refine gq_get C fo_X5_3 fw_X5_25 0 0 4 rfl rfl rfl dX5_wipe_1 rfl ?_
  refine gq_getN C fo_X0_0 fw_X5_89 1 0 7 rfl rfl rfl dX5_wipe_4 rfl ?_
  refine gq_istore_n C [(1, .int D_length), (0, .ref (aB 0))] 8 dX5_wipe_7 (by decide) rfl rfl ?_
  refine gq_aload_n C 1 9 dX5_wipe_8 rfl rfl ?_
  refine gq_get C fo_X5_3 fw_X5_25 0 0 12 rfl rfl rfl dX5_wipe_9 rfl ?_
  refine gq_iconst C (nI 0) 13 dX5_wipe_12 (by decide) rfl ?_
  refine gq_putN C fo_X0_0 fp_X0_0 rfl fw_X5_89 1 0 16 [bC cI aB rB0 rB1 rB2 (aD 0) rB4 rB5 rB6 B_bedsByPlace, dC cI aD ((nI 0), D_signs)] rfl rfl rfl rfl (Nat.le_of_ble_eq_true rfl) rfl dX5_wipe_13 rfl ?_
  refine gq_iload_n C 0 17 dX5_wipe_16 rfl rfl ?_
  obtain rfl := gq_lf hf
  exact hret dX5_wipe_17 gPost.rf

def f_X5_fault : WbS → DayS → Option (Int32)
  | B_bedsByPlace, (D_length, D_signs) => (Option.bind (f_X0_firstFault (D_length, D_signs)) (fun r_4 => some r_4))
set_option maxHeartbeats 4000000 in
set_option maxRecDepth 100000 in
theorem c_X5_fault (l : Launch) (D : va_G) (cI cZ : ClassId) (aB : Nat → Nat) (rB0 : Nat) (rB1 : Nat) (rB2 : Nat) (rB4 : Nat) (rB5 : Nat) (rB6 : Nat) (aD : Nat → Nat) (tB : WbS) (tD : DayS) (rr : Int32) (hf : f_X5_fault tB tD = some rr) : CT l D cI cZ yX5_fault cX5_fault 1 (some .int) 2 44 0 0 [.ref (aB 0)] ([bC cI aB rB0 rB1 rB2 (aD 0) rB4 rB5 rB6 tB, dC cI aD tD]) (gPost (some (.int rr)) ([bC cI aB rB0 rB1 rB2 (aD 0) rB4 rB5 rB6 tB, dC cI aD tD])) := by
  obtain ⟨B_bedsByPlace, rfl⟩ : ∃ z, z = tB := ⟨_, rfl⟩
  obtain ⟨D_length, D_signs⟩ := tD
  rw [f_X5_fault] at hf
  refine CT.mkI (by decide) (Nat.le_of_ble_eq_true rfl) fun {p} {e} {R} {s} {m} {args} {below} {meth} {c} {A} {H0} {Q} C hA hR hret => ?_
  show G p l e R s m args below meth c 1 D A H0 0 0 Q [bC cI aB rB0 rB1 rB2 (aD 0) rB4 rB5 rB6 B_bedsByPlace, dC cI aD (D_length, D_signs)] 0 [(0, .ref (aB 0))] []
  refine gq_aload_n C 0 1 dX5_fault_0 rfl rfl ?_
  refine gq_get C fo_X5_3 fw_X5_25 0 0 4 rfl rfl rfl dX5_fault_1 rfl ?_
  obtain ⟨r_4, hc, hf⟩ := gq_bd hf
  refine gq_callN C hA gm_X5_92 (c_X0_firstFault l D cI cZ aD (D_length, D_signs) _ hc) rfl 1 0 rfl rfl rfl ⟨Nat.le_trans (Nat.le_of_ble_eq_true rfl) hR.1, Nat.le_trans (Nat.le_of_ble_eq_true rfl) hR.2.1⟩ ⟨Nat.zero_le _, Nat.zero_le _⟩ rfl (Nat.le_of_ble_eq_true rfl) dX5_fault_4 [1] [bC cI aB rB0 rB1 rB2 (aD 0) rB4 rB5 rB6 B_bedsByPlace, dC cI aD (D_length, D_signs)] 7 rfl (by decide) rfl rfl rfl [.int r_4] rfl ?_
  obtain rfl := gq_lf hf
  exact hret dX5_fault_7 gPost.rf

def f_X5_judge : Int32 → WbS → HouS → DayS → InnS → Option (Int32 × InnS)
  | x1, B_bedsByPlace, (H_beds, H_law, H_sights, H_isKept, H_worths, H_sightGuests, H_sightBeds), (D_length, D_signs), (I_law, I_there, I_sleepers, I_empty, I_empties, I_yard, I_waiting, I_nights, I_used, I_sheets, I_lastOnes, I_guestsWithFleas, I_bedsWithFleas, I_isCounting) => (Option.bind (f_X5_isEither x1) (fun r_1 => (if r_1 = 0 then some ((-2 : Int32), (I_law, I_there, I_sleepers, I_empty, I_empties, I_yard, I_waiting, I_nights, I_used, I_sheets, I_lastOnes, I_guestsWithFleas, I_bedsWithFleas, I_isCounting)) else (Option.bind (f_X0_firstFault (D_length, D_signs)) (fun r_14 => (if r_14 = (-6 : Int32) then (Option.bind (f_X0_isUntold D_length (D_length, D_signs)) (fun r_36 => (if r_36 = 0 then (Option.bind (f_X3_open H_law (H_beds, H_law, H_sights, H_isKept, H_worths, H_sightGuests, H_sightBeds) (I_law, I_there, I_sleepers, I_empty, I_empties, I_yard, I_waiting, I_nights, I_used, I_sheets, I_lastOnes, I_guestsWithFleas, I_bedsWithFleas, I_isCounting)) (fun (I_law_56, I_there_56, I_sleepers_56, I_empty_56, I_empties_56, I_yard_56, I_waiting_56, I_nights_56, I_used_56, I_sheets_56, I_lastOnes_56, I_guestsWithFleas_56, I_bedsWithFleas_56, I_isCounting_56) => (Option.bind (f_X3_live (nI 0) D_length (H_beds, H_law, H_sights, H_isKept, H_worths, H_sightGuests, H_sightBeds) (D_length, D_signs) (I_law_56, I_there_56, I_sleepers_56, I_empty_56, I_empties_56, I_yard_56, I_waiting_56, I_nights_56, I_used_56, I_sheets_56, I_lastOnes_56, I_guestsWithFleas_56, I_bedsWithFleas_56, I_isCounting_56)) (fun (r_75, (I_law_75, I_there_75, I_sleepers_75, I_empty_75, I_empties_75, I_yard_75, I_waiting_75, I_nights_75, I_used_75, I_sheets_75, I_lastOnes_75, I_guestsWithFleas_75, I_bedsWithFleas_75, I_isCounting_75)) => (if r_75 = (-6 : Int32) then some ((-6 : Int32), (I_law_75, I_there_75, I_sleepers_75, I_empty_75, I_empties_75, I_yard_75, I_waiting_75, I_nights_75, I_used_75, I_sheets_75, I_lastOnes_75, I_guestsWithFleas_75, I_bedsWithFleas_75, I_isCounting_75)) else (if x1 = 0 then some (r_75, (I_law_75, I_there_75, I_sleepers_75, I_empty_75, I_empties_75, I_yard_75, I_waiting_75, I_nights_75, I_used_75, I_sheets_75, I_lastOnes_75, I_guestsWithFleas_75, I_bedsWithFleas_75, I_isCounting_75)) else (Option.bind (f_X0_signAt r_75 (D_length, D_signs)) (fun r_105 => (Option.bind (f_X3_whyNot r_105 (I_law_75, I_there_75, I_sleepers_75, I_empty_75, I_empties_75, I_yard_75, I_waiting_75, I_nights_75, I_used_75, I_sheets_75, I_lastOnes_75, I_guestsWithFleas_75, I_bedsWithFleas_75, I_isCounting_75)) (fun r_108 => some (r_108, (I_law_75, I_there_75, I_sleepers_75, I_empty_75, I_empties_75, I_yard_75, I_waiting_75, I_nights_75, I_used_75, I_sheets_75, I_lastOnes_75, I_guestsWithFleas_75, I_bedsWithFleas_75, I_isCounting_75)))))))))))) else some ((-3 : Int32), (I_law, I_there, I_sleepers, I_empty, I_empties, I_yard, I_waiting, I_nights, I_used, I_sheets, I_lastOnes, I_guestsWithFleas, I_bedsWithFleas, I_isCounting))))) else some ((-5 : Int32), (I_law, I_there, I_sleepers, I_empty, I_empties, I_yard, I_waiting, I_nights, I_used, I_sheets, I_lastOnes, I_guestsWithFleas, I_bedsWithFleas, I_isCounting))))))))
set_option maxHeartbeats 4000000 in
set_option maxRecDepth 100000 in
theorem c_X5_judge (l : Launch) (D : va_G) (cI cZ : ClassId) (aB : Nat → Nat) (rB1 : Nat) (rB2 : Nat) (rB4 : Nat) (rB5 : Nat) (aH : Nat → Nat) (aD : Nat → Nat) (aI : Nat → Nat) (dI : Option Nat) (x1 : Int32) (tB : WbS) (tH : HouS) (tD : DayS) (tI : InnS) (rr : Int32 × InnS) (hf : f_X5_judge x1 tB tH tD tI = some rr) : CT l D cI cZ yX5_judge cX5_judge 3 (some .int) 5 113 0 0 [.ref (aB 0), .int x1] ([bC cI aB (aH 0) rB1 rB2 (aD 0) rB4 rB5 (aI 0) tB, hC cI aH tH, dC cI aD tD, iC cI aI (aH 0) dI tI]) (gPost (some (.int rr.1)) ([bC cI aB (aH 0) rB1 rB2 (aD 0) rB4 rB5 (aI 0) tB, hC cI aH tH, dC cI aD tD, iC cI aI (aH 0) dI rr.2])) := by
  obtain ⟨B_bedsByPlace, rfl⟩ : ∃ z, z = tB := ⟨_, rfl⟩
  obtain ⟨H_beds, H_law, H_sights, H_isKept, H_worths, H_sightGuests, H_sightBeds⟩ := tH
  obtain ⟨D_length, D_signs⟩ := tD
  obtain ⟨I_law, I_there, I_sleepers, I_empty, I_empties, I_yard, I_waiting, I_nights, I_used, I_sheets, I_lastOnes, I_guestsWithFleas, I_bedsWithFleas, I_isCounting⟩ := tI
  rw [f_X5_judge] at hf
  refine CT.mkI (by decide) (Nat.le_of_ble_eq_true rfl) fun {p} {e} {R} {s} {m} {args} {below} {meth} {c} {A} {H0} {Q} C hA hR hret => ?_
  show G p l e R s m args below meth c 3 D A H0 0 0 Q [bC cI aB (aH 0) rB1 rB2 (aD 0) rB4 rB5 (aI 0) B_bedsByPlace, hC cI aH (H_beds, H_law, H_sights, H_isKept, H_worths, H_sightGuests, H_sightBeds), dC cI aD (D_length, D_signs), iC cI aI (aH 0) dI (I_law, I_there, I_sleepers, I_empty, I_empties, I_yard, I_waiting, I_nights, I_used, I_sheets, I_lastOnes, I_guestsWithFleas, I_bedsWithFleas, I_isCounting)] 0 [(0, .ref (aB 0)), (1, .int x1)] []
  refine gq_iload_n C 1 1 dX5_judge_0 rfl rfl ?_
  obtain ⟨r_1, hc, hf⟩ := gq_bd hf
  refine gq_callS C hA gm_X5_96 (c_X5_isEither l D cI cZ  x1 _ hc) rfl ⟨Nat.le_trans (Nat.le_of_ble_eq_true rfl) hR.1, Nat.le_trans (Nat.le_of_ble_eq_true rfl) hR.2.1⟩ ⟨Nat.zero_le _, Nat.zero_le _⟩ rfl (Nat.le_of_ble_eq_true rfl) dX5_judge_1 [] [bC cI aB (aH 0) rB1 rB2 (aD 0) rB4 rB5 (aI 0) B_bedsByPlace, hC cI aH (H_beds, H_law, H_sights, H_isKept, H_worths, H_sightGuests, H_sightBeds), dC cI aD (D_length, D_signs), iC cI aI (aH 0) dI (I_law, I_there, I_sleepers, I_empty, I_empties, I_yard, I_waiting, I_nights, I_used, I_sheets, I_lastOnes, I_guestsWithFleas, I_bedsWithFleas, I_isCounting)] 4 rfl (by decide) rfl rfl rfl [.int r_1] rfl ?_
  refine gq_if_ne C 10 7 dX5_judge_4 (by decide) rfl (fun h4 => ?_) (fun h4 => ?_)
  · replace hf := gq_ifn h4 hf
    refine gq_aload_n C 0 11 dX5_judge_10 rfl rfl ?_
    refine gq_get C fo_X5_3 fw_X5_25 0 0 14 rfl rfl rfl dX5_judge_11 rfl ?_
    obtain ⟨r_14, hc, hf⟩ := gq_bd hf
    refine gq_callN C hA gm_X5_92 (c_X0_firstFault l D cI cZ aD (D_length, D_signs) _ hc) rfl 2 0 rfl rfl rfl ⟨Nat.le_trans (Nat.le_of_ble_eq_true rfl) hR.1, Nat.le_trans (Nat.le_of_ble_eq_true rfl) hR.2.1⟩ ⟨Nat.zero_le _, Nat.zero_le _⟩ rfl (Nat.le_of_ble_eq_true rfl) dX5_judge_14 [2] [bC cI aB (aH 0) rB1 rB2 (aD 0) rB4 rB5 (aI 0) B_bedsByPlace, hC cI aH (H_beds, H_law, H_sights, H_isKept, H_worths, H_sightGuests, H_sightBeds), dC cI aD (D_length, D_signs), iC cI aI (aH 0) dI (I_law, I_there, I_sleepers, I_empty, I_empties, I_yard, I_waiting, I_nights, I_used, I_sheets, I_lastOnes, I_guestsWithFleas, I_bedsWithFleas, I_isCounting)] 17 rfl (by decide) rfl rfl rfl [.int r_14] rfl ?_
    refine gq_bipush C (-6 : Int32) 19 dX5_judge_17 (by decide) rfl ?_
    refine gq_icmp_eq C 25 22 dX5_judge_19 (by decide) rfl (fun h19 => ?_) (fun h19 => ?_)
    · replace hf := gq_ifp h19 hf
      refine gq_aload_n C 0 26 dX5_judge_25 rfl rfl ?_
      refine gq_get C fo_X5_3 fw_X5_25 0 0 29 rfl rfl rfl dX5_judge_26 rfl ?_
      refine gq_aload_n C 0 30 dX5_judge_29 rfl rfl ?_
      refine gq_get C fo_X5_3 fw_X5_25 0 0 33 rfl rfl rfl dX5_judge_30 rfl ?_
      refine gq_getN C fo_X0_0 fw_X5_89 2 0 36 rfl rfl rfl dX5_judge_33 rfl ?_
      obtain ⟨r_36, hc, hf⟩ := gq_bd hf
      refine gq_callN C hA gm_X5_99 (c_X0_isUntold l D cI cZ aD D_length (D_length, D_signs) _ hc) rfl 2 0 rfl rfl rfl ⟨Nat.le_trans (Nat.le_of_ble_eq_true rfl) hR.1, Nat.le_trans (Nat.le_of_ble_eq_true rfl) hR.2.1⟩ ⟨Nat.zero_le _, Nat.zero_le _⟩ rfl (Nat.le_of_ble_eq_true rfl) dX5_judge_36 [2] [bC cI aB (aH 0) rB1 rB2 (aD 0) rB4 rB5 (aI 0) B_bedsByPlace, hC cI aH (H_beds, H_law, H_sights, H_isKept, H_worths, H_sightGuests, H_sightBeds), dC cI aD (D_length, D_signs), iC cI aI (aH 0) dI (I_law, I_there, I_sleepers, I_empty, I_empties, I_yard, I_waiting, I_nights, I_used, I_sheets, I_lastOnes, I_guestsWithFleas, I_bedsWithFleas, I_isCounting)] 39 rfl (by decide) rfl rfl rfl [.int r_36] rfl ?_
      refine gq_if_eq C 45 42 dX5_judge_39 (by decide) rfl (fun h39 => ?_) (fun h39 => ?_)
      · replace hf := gq_ifp h39 hf
        refine gq_aload_n C 0 46 dX5_judge_45 rfl rfl ?_
        refine gq_get C fo_X5_6 fw_X5_52 0 0 49 rfl rfl rfl dX5_judge_46 rfl ?_
        refine gq_aload_n C 0 50 dX5_judge_49 rfl rfl ?_
        refine gq_get C fo_X5_0 fw_X5_12 0 0 53 rfl rfl rfl dX5_judge_50 rfl ?_
        refine gq_getN C fo_X2_1 fw_X5_79 1 0 56 rfl rfl rfl dX5_judge_53 rfl ?_
        obtain ⟨⟨I_law_56, I_there_56, I_sleepers_56, I_empty_56, I_empties_56, I_yard_56, I_waiting_56, I_nights_56, I_used_56, I_sheets_56, I_lastOnes_56, I_guestsWithFleas_56, I_bedsWithFleas_56, I_isCounting_56⟩, hc, hf⟩ := gq_bd hf
        refine gq_callN C hA gm_X5_102 (c_X3_open l D cI cZ aH aI dI H_law (H_beds, H_law, H_sights, H_isKept, H_worths, H_sightGuests, H_sightBeds) (I_law, I_there, I_sleepers, I_empty, I_empties, I_yard, I_waiting, I_nights, I_used, I_sheets, I_lastOnes, I_guestsWithFleas, I_bedsWithFleas, I_isCounting) _ hc) rfl 3 0 rfl rfl rfl ⟨Nat.le_trans (Nat.le_of_ble_eq_true rfl) hR.1, Nat.le_trans (Nat.le_of_ble_eq_true rfl) hR.2.1⟩ ⟨Nat.zero_le _, Nat.zero_le _⟩ rfl (Nat.le_of_ble_eq_true rfl) dX5_judge_56 [1, 3] [bC cI aB (aH 0) rB1 rB2 (aD 0) rB4 rB5 (aI 0) B_bedsByPlace, hC cI aH (H_beds, H_law, H_sights, H_isKept, H_worths, H_sightGuests, H_sightBeds), dC cI aD (D_length, D_signs), iC cI aI (aH 0) dI (I_law_56, I_there_56, I_sleepers_56, I_empty_56, I_empties_56, I_yard_56, I_waiting_56, I_nights_56, I_used_56, I_sheets_56, I_lastOnes_56, I_guestsWithFleas_56, I_bedsWithFleas_56, I_isCounting_56)] 59 rfl (by decide) rfl rfl rfl [] rfl ?_
        refine gq_aload_n C 0 60 dX5_judge_59 rfl rfl ?_
        refine gq_get C fo_X5_6 fw_X5_52 0 0 63 rfl rfl rfl dX5_judge_60 rfl ?_
        refine gq_aload_n C 0 64 dX5_judge_63 rfl rfl ?_
        refine gq_get C fo_X5_3 fw_X5_25 0 0 67 rfl rfl rfl dX5_judge_64 rfl ?_
        refine gq_iconst C (nI 0) 68 dX5_judge_67 (by decide) rfl ?_
        refine gq_aload_n C 0 69 dX5_judge_68 rfl rfl ?_
        refine gq_get C fo_X5_3 fw_X5_25 0 0 72 rfl rfl rfl dX5_judge_69 rfl ?_
        refine gq_getN C fo_X0_0 fw_X5_89 2 0 75 rfl rfl rfl dX5_judge_72 rfl ?_
        obtain ⟨⟨r_75, ⟨I_law_75, I_there_75, I_sleepers_75, I_empty_75, I_empties_75, I_yard_75, I_waiting_75, I_nights_75, I_used_75, I_sheets_75, I_lastOnes_75, I_guestsWithFleas_75, I_bedsWithFleas_75, I_isCounting_75⟩⟩, hc, hf⟩ := gq_bd hf
        refine gq_callN C hA gm_X5_105 (c_X3_live l D cI cZ aH aD aI dI (nI 0) D_length (H_beds, H_law, H_sights, H_isKept, H_worths, H_sightGuests, H_sightBeds) (D_length, D_signs) (I_law_56, I_there_56, I_sleepers_56, I_empty_56, I_empties_56, I_yard_56, I_waiting_56, I_nights_56, I_used_56, I_sheets_56, I_lastOnes_56, I_guestsWithFleas_56, I_bedsWithFleas_56, I_isCounting_56) _ hc) rfl 3 0 rfl rfl rfl ⟨Nat.le_trans (Nat.le_of_ble_eq_true rfl) hR.1, Nat.le_trans (Nat.le_of_ble_eq_true rfl) hR.2.1⟩ ⟨Nat.zero_le _, Nat.zero_le _⟩ rfl (Nat.le_of_ble_eq_true rfl) dX5_judge_75 [1, 2, 3] [bC cI aB (aH 0) rB1 rB2 (aD 0) rB4 rB5 (aI 0) B_bedsByPlace, hC cI aH (H_beds, H_law, H_sights, H_isKept, H_worths, H_sightGuests, H_sightBeds), dC cI aD (D_length, D_signs), iC cI aI (aH 0) dI (I_law_75, I_there_75, I_sleepers_75, I_empty_75, I_empties_75, I_yard_75, I_waiting_75, I_nights_75, I_used_75, I_sheets_75, I_lastOnes_75, I_guestsWithFleas_75, I_bedsWithFleas_75, I_isCounting_75)] 78 rfl (by decide) rfl rfl rfl [.int r_75] rfl ?_
        refine gq_istore_n C [(2, .int r_75), (0, .ref (aB 0)), (1, .int x1)] 79 dX5_judge_78 (by decide) rfl rfl ?_
        refine gq_iload_n C 0 80 dX5_judge_79 rfl rfl ?_
        refine gq_bipush C (-6 : Int32) 82 dX5_judge_80 (by decide) rfl ?_
        refine gq_icmp_ne C 88 85 dX5_judge_82 (by decide) rfl (fun h82 => ?_) (fun h82 => ?_)
        · replace hf := gq_ifn h82 hf
          refine gq_iload_n C 2 89 dX5_judge_88 rfl rfl ?_
          refine gq_if_ne C 96 92 dX5_judge_89 (by decide) rfl (fun h89 => ?_) (fun h89 => ?_)
          · replace hf := gq_ifn h89 hf
            refine gq_aload_n C 1 97 dX5_judge_96 rfl rfl ?_
            refine gq_get C fo_X5_6 fw_X5_52 0 0 100 rfl rfl rfl dX5_judge_97 rfl ?_
            refine gq_aload_n C 1 101 dX5_judge_100 rfl rfl ?_
            refine gq_get C fo_X5_3 fw_X5_25 0 0 104 rfl rfl rfl dX5_judge_101 rfl ?_
            refine gq_iload_n C 0 105 dX5_judge_104 rfl rfl ?_
            obtain ⟨r_105, hc, hf⟩ := gq_bd hf
            refine gq_callN C hA gm_X5_109 (c_X0_signAt l D cI cZ aD r_75 (D_length, D_signs) _ hc) rfl 2 0 rfl rfl rfl ⟨Nat.le_trans (Nat.le_of_ble_eq_true rfl) hR.1, Nat.le_trans (Nat.le_of_ble_eq_true rfl) hR.2.1⟩ ⟨Nat.zero_le _, Nat.zero_le _⟩ rfl (Nat.le_of_ble_eq_true rfl) dX5_judge_105 [2] [bC cI aB (aH 0) rB1 rB2 (aD 0) rB4 rB5 (aI 0) B_bedsByPlace, hC cI aH (H_beds, H_law, H_sights, H_isKept, H_worths, H_sightGuests, H_sightBeds), dC cI aD (D_length, D_signs), iC cI aI (aH 0) dI (I_law_75, I_there_75, I_sleepers_75, I_empty_75, I_empties_75, I_yard_75, I_waiting_75, I_nights_75, I_used_75, I_sheets_75, I_lastOnes_75, I_guestsWithFleas_75, I_bedsWithFleas_75, I_isCounting_75)] 108 rfl (by decide) rfl rfl rfl [.int r_105, .ref (aI 0)] rfl ?_
            obtain ⟨r_108, hc, hf⟩ := gq_bd hf
            refine gq_callN C hA gm_X5_113 (c_X3_whyNot l D cI cZ aI (aH 0) dI r_105 (I_law_75, I_there_75, I_sleepers_75, I_empty_75, I_empties_75, I_yard_75, I_waiting_75, I_nights_75, I_used_75, I_sheets_75, I_lastOnes_75, I_guestsWithFleas_75, I_bedsWithFleas_75, I_isCounting_75) _ hc) rfl 3 0 rfl rfl rfl ⟨Nat.le_trans (Nat.le_of_ble_eq_true rfl) hR.1, Nat.le_trans (Nat.le_of_ble_eq_true rfl) hR.2.1⟩ ⟨Nat.zero_le _, Nat.zero_le _⟩ rfl (Nat.le_of_ble_eq_true rfl) dX5_judge_108 [3] [bC cI aB (aH 0) rB1 rB2 (aD 0) rB4 rB5 (aI 0) B_bedsByPlace, hC cI aH (H_beds, H_law, H_sights, H_isKept, H_worths, H_sightGuests, H_sightBeds), dC cI aD (D_length, D_signs), iC cI aI (aH 0) dI (I_law_75, I_there_75, I_sleepers_75, I_empty_75, I_empties_75, I_yard_75, I_waiting_75, I_nights_75, I_used_75, I_sheets_75, I_lastOnes_75, I_guestsWithFleas_75, I_bedsWithFleas_75, I_isCounting_75)] 111 rfl (by decide) rfl rfl rfl [.int r_108] rfl ?_
            obtain rfl := gq_lf hf
            exact hret dX5_judge_111 gPost.rf
          · replace hf := gq_ifp h89 hf
            refine gq_iload_n C 0 93 dX5_judge_92 rfl rfl ?_
            refine gq_goto C 111 dX5_judge_93 (by decide) ?_
            obtain rfl := gq_lf hf
            exact hret dX5_judge_111 gPost.rf
        · replace hf := gq_ifp h82 hf
          refine gq_bipush C (-6 : Int32) 87 dX5_judge_85 (by decide) rfl ?_
          obtain rfl := gq_lf hf
          exact hret dX5_judge_87 gPost.rf
      · replace hf := gq_ifn h39 hf
        refine gq_bipush C (-3 : Int32) 44 dX5_judge_42 (by decide) rfl ?_
        obtain rfl := gq_lf hf
        exact hret dX5_judge_44 gPost.rf
    · replace hf := gq_ifn h19 hf
      refine gq_bipush C (-5 : Int32) 24 dX5_judge_22 (by decide) rfl ?_
      obtain rfl := gq_lf hf
      exact hret dX5_judge_24 gPost.rf
  · replace hf := gq_ifp h4 hf
    refine gq_bipush C (-2 : Int32) 9 dX5_judge_7 (by decide) rfl ?_
    obtain rfl := gq_lf hf
    exact hret dX5_judge_9 gPost.rf

def f_X5_bed : Int32 → Int32 → WbS → HouS → DayS → InnS → Option (Int32 × InnS)
  | x1, x2, B_bedsByPlace, (H_beds, H_law, H_sights, H_isKept, H_worths, H_sightGuests, H_sightBeds), (D_length, D_signs), (I_law, I_there, I_sleepers, I_empty, I_empties, I_yard, I_waiting, I_nights, I_used, I_sheets, I_lastOnes, I_guestsWithFleas, I_bedsWithFleas, I_isCounting) => (Option.bind (f_X5_isGuest x1) (fun r_1 => (if r_1 = 0 then some ((-1 : Int32), (I_law, I_there, I_sleepers, I_empty, I_empties, I_yard, I_waiting, I_nights, I_used, I_sheets, I_lastOnes, I_guestsWithFleas, I_bedsWithFleas, I_isCounting)) else (Option.bind (f_X5_isCountOfEvents x2 B_bedsByPlace (D_length, D_signs)) (fun r_11 => (if r_11 = 0 then some ((-2 : Int32), (I_law, I_there, I_sleepers, I_empty, I_empties, I_yard, I_waiting, I_nights, I_used, I_sheets, I_lastOnes, I_guestsWithFleas, I_bedsWithFleas, I_isCounting)) else (Option.bind (f_X5_liveThrough x2 B_bedsByPlace (H_beds, H_law, H_sights, H_isKept, H_worths, H_sightGuests, H_sightBeds) (D_length, D_signs) (I_law, I_there, I_sleepers, I_empty, I_empties, I_yard, I_waiting, I_nights, I_used, I_sheets, I_lastOnes, I_guestsWithFleas, I_bedsWithFleas, I_isCounting)) (fun (r_22, (I_law_22, I_there_22, I_sleepers_22, I_empty_22, I_empties_22, I_yard_22, I_waiting_22, I_nights_22, I_used_22, I_sheets_22, I_lastOnes_22, I_guestsWithFleas_22, I_bedsWithFleas_22, I_isCounting_22)) => (if r_22 = 0 then (Option.bind (f_X3_bedOf x1 (I_law_22, I_there_22, I_sleepers_22, I_empty_22, I_empties_22, I_yard_22, I_waiting_22, I_nights_22, I_used_22, I_sheets_22, I_lastOnes_22, I_guestsWithFleas_22, I_bedsWithFleas_22, I_isCounting_22)) (fun r_37 => (if r_37 = (-1 : Int32) then some ((-6 : Int32), (I_law_22, I_there_22, I_sleepers_22, I_empty_22, I_empties_22, I_yard_22, I_waiting_22, I_nights_22, I_used_22, I_sheets_22, I_lastOnes_22, I_guestsWithFleas_22, I_bedsWithFleas_22, I_isCounting_22)) else some (r_37, (I_law_22, I_there_22, I_sleepers_22, I_empty_22, I_empties_22, I_yard_22, I_waiting_22, I_nights_22, I_used_22, I_sheets_22, I_lastOnes_22, I_guestsWithFleas_22, I_bedsWithFleas_22, I_isCounting_22))))) else some (r_22, (I_law_22, I_there_22, I_sleepers_22, I_empty_22, I_empties_22, I_yard_22, I_waiting_22, I_nights_22, I_used_22, I_sheets_22, I_lastOnes_22, I_guestsWithFleas_22, I_bedsWithFleas_22, I_isCounting_22)))))))))))
set_option maxHeartbeats 4000000 in
set_option maxRecDepth 100000 in
theorem c_X5_bed (l : Launch) (D : va_G) (cI cZ : ClassId) (aB : Nat → Nat) (rB1 : Nat) (rB2 : Nat) (rB4 : Nat) (rB5 : Nat) (aH : Nat → Nat) (aD : Nat → Nat) (aI : Nat → Nat) (dI : Option Nat) (x1 : Int32) (x2 : Int32) (tB : WbS) (tH : HouS) (tD : DayS) (tI : InnS) (rr : Int32 × InnS) (hf : f_X5_bed x1 x2 tB tH tD tI = some rr) : CT l D cI cZ yX5_bed cX5_bed 5 (some .int) 6 135 0 0 [.ref (aB 0), .int x1, .int x2] ([bC cI aB (aH 0) rB1 rB2 (aD 0) rB4 rB5 (aI 0) tB, hC cI aH tH, dC cI aD tD, iC cI aI (aH 0) dI tI]) (gPost (some (.int rr.1)) ([bC cI aB (aH 0) rB1 rB2 (aD 0) rB4 rB5 (aI 0) tB, hC cI aH tH, dC cI aD tD, iC cI aI (aH 0) dI rr.2])) := by
  obtain ⟨B_bedsByPlace, rfl⟩ : ∃ z, z = tB := ⟨_, rfl⟩
  obtain ⟨H_beds, H_law, H_sights, H_isKept, H_worths, H_sightGuests, H_sightBeds⟩ := tH
  obtain ⟨D_length, D_signs⟩ := tD
  obtain ⟨I_law, I_there, I_sleepers, I_empty, I_empties, I_yard, I_waiting, I_nights, I_used, I_sheets, I_lastOnes, I_guestsWithFleas, I_bedsWithFleas, I_isCounting⟩ := tI
  rw [f_X5_bed] at hf
  refine CT.mkI (by decide) (Nat.le_of_ble_eq_true rfl) fun {p} {e} {R} {s} {m} {args} {below} {meth} {c} {A} {H0} {Q} C hA hR hret => ?_
  show G p l e R s m args below meth c 5 D A H0 0 0 Q [bC cI aB (aH 0) rB1 rB2 (aD 0) rB4 rB5 (aI 0) B_bedsByPlace, hC cI aH (H_beds, H_law, H_sights, H_isKept, H_worths, H_sightGuests, H_sightBeds), dC cI aD (D_length, D_signs), iC cI aI (aH 0) dI (I_law, I_there, I_sleepers, I_empty, I_empties, I_yard, I_waiting, I_nights, I_used, I_sheets, I_lastOnes, I_guestsWithFleas, I_bedsWithFleas, I_isCounting)] 0 [(0, .ref (aB 0)), (1, .int x1), (2, .int x2)] []
  refine gq_iload_n C 1 1 dX5_bed_0 rfl rfl ?_
  obtain ⟨r_1, hc, hf⟩ := gq_bd hf
  refine gq_callS C hA gm_X5_64 (c_X5_isGuest l D cI cZ  x1 _ hc) rfl ⟨Nat.le_trans (Nat.le_of_ble_eq_true rfl) hR.1, Nat.le_trans (Nat.le_of_ble_eq_true rfl) hR.2.1⟩ ⟨Nat.zero_le _, Nat.zero_le _⟩ rfl (Nat.le_of_ble_eq_true rfl) dX5_bed_1 [] [bC cI aB (aH 0) rB1 rB2 (aD 0) rB4 rB5 (aI 0) B_bedsByPlace, hC cI aH (H_beds, H_law, H_sights, H_isKept, H_worths, H_sightGuests, H_sightBeds), dC cI aD (D_length, D_signs), iC cI aI (aH 0) dI (I_law, I_there, I_sleepers, I_empty, I_empties, I_yard, I_waiting, I_nights, I_used, I_sheets, I_lastOnes, I_guestsWithFleas, I_bedsWithFleas, I_isCounting)] 4 rfl (by decide) rfl rfl rfl [.int r_1] rfl ?_
  refine gq_if_ne C 9 7 dX5_bed_4 (by decide) rfl (fun h4 => ?_) (fun h4 => ?_)
  · replace hf := gq_ifn h4 hf
    refine gq_aload_n C 0 10 dX5_bed_9 rfl rfl ?_
    refine gq_iload_n C 2 11 dX5_bed_10 rfl rfl ?_
    obtain ⟨r_11, hc, hf⟩ := gq_bd hf
    refine gq_callV C hA gm_X5_116 (c_X5_isCountOfEvents l D cI cZ aB (aH 0) rB1 rB2 rB4 rB5 (aI 0) aD x2 B_bedsByPlace (D_length, D_signs) _ hc) rfl 0 0 rfl rfl rfl ⟨Nat.le_trans (Nat.le_of_ble_eq_true rfl) hR.1, Nat.le_trans (Nat.le_of_ble_eq_true rfl) hR.2.1⟩ ⟨Nat.zero_le _, Nat.zero_le _⟩ rfl (Nat.le_of_ble_eq_true rfl) dX5_bed_11 [0, 2] [bC cI aB (aH 0) rB1 rB2 (aD 0) rB4 rB5 (aI 0) B_bedsByPlace, hC cI aH (H_beds, H_law, H_sights, H_isKept, H_worths, H_sightGuests, H_sightBeds), dC cI aD (D_length, D_signs), iC cI aI (aH 0) dI (I_law, I_there, I_sleepers, I_empty, I_empties, I_yard, I_waiting, I_nights, I_used, I_sheets, I_lastOnes, I_guestsWithFleas, I_bedsWithFleas, I_isCounting)] 14 rfl (by decide) rfl rfl rfl [.int r_11] rfl ?_
    refine gq_if_ne C 20 17 dX5_bed_14 (by decide) rfl (fun h14 => ?_) (fun h14 => ?_)
    · replace hf := gq_ifn h14 hf
      refine gq_aload_n C 0 21 dX5_bed_20 rfl rfl ?_
      refine gq_iload_n C 2 22 dX5_bed_21 rfl rfl ?_
      obtain ⟨⟨r_22, ⟨I_law_22, I_there_22, I_sleepers_22, I_empty_22, I_empties_22, I_yard_22, I_waiting_22, I_nights_22, I_used_22, I_sheets_22, I_lastOnes_22, I_guestsWithFleas_22, I_bedsWithFleas_22, I_isCounting_22⟩⟩, hc, hf⟩ := gq_bd hf
      refine gq_callV C hA gm_X5_119 (c_X5_liveThrough l D cI cZ aB rB1 rB2 rB4 rB5 aH aD aI dI x2 B_bedsByPlace (H_beds, H_law, H_sights, H_isKept, H_worths, H_sightGuests, H_sightBeds) (D_length, D_signs) (I_law, I_there, I_sleepers, I_empty, I_empties, I_yard, I_waiting, I_nights, I_used, I_sheets, I_lastOnes, I_guestsWithFleas, I_bedsWithFleas, I_isCounting) _ hc) rfl 0 0 rfl rfl rfl ⟨Nat.le_trans (Nat.le_of_ble_eq_true rfl) hR.1, Nat.le_trans (Nat.le_of_ble_eq_true rfl) hR.2.1⟩ ⟨Nat.zero_le _, Nat.zero_le _⟩ rfl (Nat.le_of_ble_eq_true rfl) dX5_bed_22 [0, 1, 2, 3] [bC cI aB (aH 0) rB1 rB2 (aD 0) rB4 rB5 (aI 0) B_bedsByPlace, hC cI aH (H_beds, H_law, H_sights, H_isKept, H_worths, H_sightGuests, H_sightBeds), dC cI aD (D_length, D_signs), iC cI aI (aH 0) dI (I_law_22, I_there_22, I_sleepers_22, I_empty_22, I_empties_22, I_yard_22, I_waiting_22, I_nights_22, I_used_22, I_sheets_22, I_lastOnes_22, I_guestsWithFleas_22, I_bedsWithFleas_22, I_isCounting_22)] 25 rfl (by decide) rfl rfl rfl [.int r_22] rfl ?_
      refine gq_istore_n C [(3, .int r_22), (0, .ref (aB 0)), (1, .int x1), (2, .int x2)] 26 dX5_bed_25 (by decide) rfl rfl ?_
      refine gq_iload_n C 0 27 dX5_bed_26 rfl rfl ?_
      refine gq_if_eq C 32 30 dX5_bed_27 (by decide) rfl (fun h27 => ?_) (fun h27 => ?_)
      · replace hf := gq_ifp h27 hf
        refine gq_aload_n C 1 33 dX5_bed_32 rfl rfl ?_
        refine gq_get C fo_X5_6 fw_X5_52 0 0 36 rfl rfl rfl dX5_bed_33 rfl ?_
        refine gq_iload_n C 2 37 dX5_bed_36 rfl rfl ?_
        obtain ⟨r_37, hc, hf⟩ := gq_bd hf
        refine gq_callN C hA gm_X5_122 (c_X3_bedOf l D cI cZ aI (aH 0) dI x1 (I_law_22, I_there_22, I_sleepers_22, I_empty_22, I_empties_22, I_yard_22, I_waiting_22, I_nights_22, I_used_22, I_sheets_22, I_lastOnes_22, I_guestsWithFleas_22, I_bedsWithFleas_22, I_isCounting_22) _ hc) rfl 3 0 rfl rfl rfl ⟨Nat.le_trans (Nat.le_of_ble_eq_true rfl) hR.1, Nat.le_trans (Nat.le_of_ble_eq_true rfl) hR.2.1⟩ ⟨Nat.zero_le _, Nat.zero_le _⟩ rfl (Nat.le_of_ble_eq_true rfl) dX5_bed_37 [3] [bC cI aB (aH 0) rB1 rB2 (aD 0) rB4 rB5 (aI 0) B_bedsByPlace, hC cI aH (H_beds, H_law, H_sights, H_isKept, H_worths, H_sightGuests, H_sightBeds), dC cI aD (D_length, D_signs), iC cI aI (aH 0) dI (I_law_22, I_there_22, I_sleepers_22, I_empty_22, I_empties_22, I_yard_22, I_waiting_22, I_nights_22, I_used_22, I_sheets_22, I_lastOnes_22, I_guestsWithFleas_22, I_bedsWithFleas_22, I_isCounting_22)] 40 rfl (by decide) rfl rfl rfl [.int r_37] rfl ?_
        refine gq_istore C [(4, .int r_37), (3, .int r_22), (0, .ref (aB 0)), (1, .int x1), (2, .int x2)] 42 dX5_bed_40 (by decide) rfl rfl ?_
        refine gq_iload C 0 44 dX5_bed_42 rfl rfl ?_
        refine gq_iconst C (-1 : Int32) 45 dX5_bed_44 (by decide) rfl ?_
        refine gq_icmp_ne C 53 48 dX5_bed_45 (by decide) rfl (fun h45 => ?_) (fun h45 => ?_)
        · replace hf := gq_ifn h45 hf
          refine gq_iload C 0 55 dX5_bed_53 rfl rfl ?_
          obtain rfl := gq_lf hf
          exact hret dX5_bed_55 gPost.rf
        · replace hf := gq_ifp h45 hf
          refine gq_bipush C (-6 : Int32) 50 dX5_bed_48 (by decide) rfl ?_
          refine gq_goto C 55 dX5_bed_50 (by decide) ?_
          obtain rfl := gq_lf hf
          exact hret dX5_bed_55 gPost.rf
      · replace hf := gq_ifn h27 hf
        refine gq_iload_n C 0 31 dX5_bed_30 rfl rfl ?_
        obtain rfl := gq_lf hf
        exact hret dX5_bed_31 gPost.rf
    · replace hf := gq_ifp h14 hf
      refine gq_bipush C (-2 : Int32) 19 dX5_bed_17 (by decide) rfl ?_
      obtain rfl := gq_lf hf
      exact hret dX5_bed_19 gPost.rf
  · replace hf := gq_ifp h4 hf
    refine gq_iconst C (-1 : Int32) 8 dX5_bed_7 (by decide) rfl ?_
    obtain rfl := gq_lf hf
    exact hret dX5_bed_8 gPost.rf

def f_X5_who : Int32 → Int32 → WbS → HouS → DayS → InnS → Option (Int32 × InnS)
  | x1, x2, B_bedsByPlace, (H_beds, H_law, H_sights, H_isKept, H_worths, H_sightGuests, H_sightBeds), (D_length, D_signs), (I_law, I_there, I_sleepers, I_empty, I_empties, I_yard, I_waiting, I_nights, I_used, I_sheets, I_lastOnes, I_guestsWithFleas, I_bedsWithFleas, I_isCounting) => (Option.bind (f_X5_isBed x1 B_bedsByPlace (H_beds, H_law, H_sights, H_isKept, H_worths, H_sightGuests, H_sightBeds)) (fun r_2 => (if r_2 = 0 then some ((-1 : Int32), (I_law, I_there, I_sleepers, I_empty, I_empties, I_yard, I_waiting, I_nights, I_used, I_sheets, I_lastOnes, I_guestsWithFleas, I_bedsWithFleas, I_isCounting)) else (Option.bind (f_X5_isCountOfEvents x2 B_bedsByPlace (D_length, D_signs)) (fun r_12 => (if r_12 = 0 then some ((-2 : Int32), (I_law, I_there, I_sleepers, I_empty, I_empties, I_yard, I_waiting, I_nights, I_used, I_sheets, I_lastOnes, I_guestsWithFleas, I_bedsWithFleas, I_isCounting)) else (Option.bind (f_X5_liveThrough x2 B_bedsByPlace (H_beds, H_law, H_sights, H_isKept, H_worths, H_sightGuests, H_sightBeds) (D_length, D_signs) (I_law, I_there, I_sleepers, I_empty, I_empties, I_yard, I_waiting, I_nights, I_used, I_sheets, I_lastOnes, I_guestsWithFleas, I_bedsWithFleas, I_isCounting)) (fun (r_23, (I_law_23, I_there_23, I_sleepers_23, I_empty_23, I_empties_23, I_yard_23, I_waiting_23, I_nights_23, I_used_23, I_sheets_23, I_lastOnes_23, I_guestsWithFleas_23, I_bedsWithFleas_23, I_isCounting_23)) => (if r_23 = 0 then (Option.bind (f_X3_sleeperOf x1 (I_law_23, I_there_23, I_sleepers_23, I_empty_23, I_empties_23, I_yard_23, I_waiting_23, I_nights_23, I_used_23, I_sheets_23, I_lastOnes_23, I_guestsWithFleas_23, I_bedsWithFleas_23, I_isCounting_23)) (fun r_38 => (if r_38 = (-1 : Int32) then some ((-6 : Int32), (I_law_23, I_there_23, I_sleepers_23, I_empty_23, I_empties_23, I_yard_23, I_waiting_23, I_nights_23, I_used_23, I_sheets_23, I_lastOnes_23, I_guestsWithFleas_23, I_bedsWithFleas_23, I_isCounting_23)) else some (r_38, (I_law_23, I_there_23, I_sleepers_23, I_empty_23, I_empties_23, I_yard_23, I_waiting_23, I_nights_23, I_used_23, I_sheets_23, I_lastOnes_23, I_guestsWithFleas_23, I_bedsWithFleas_23, I_isCounting_23))))) else some (r_23, (I_law_23, I_there_23, I_sleepers_23, I_empty_23, I_empties_23, I_yard_23, I_waiting_23, I_nights_23, I_used_23, I_sheets_23, I_lastOnes_23, I_guestsWithFleas_23, I_bedsWithFleas_23, I_isCounting_23)))))))))))
set_option maxHeartbeats 4000000 in
set_option maxRecDepth 100000 in
theorem c_X5_who (l : Launch) (D : va_G) (cI cZ : ClassId) (aB : Nat → Nat) (rB1 : Nat) (rB2 : Nat) (rB4 : Nat) (rB5 : Nat) (aH : Nat → Nat) (aD : Nat → Nat) (aI : Nat → Nat) (dI : Option Nat) (x1 : Int32) (x2 : Int32) (tB : WbS) (tH : HouS) (tD : DayS) (tI : InnS) (rr : Int32 × InnS) (hf : f_X5_who x1 x2 tB tH tD tI = some rr) : CT l D cI cZ yX5_who cX5_who 5 (some .int) 6 135 0 0 [.ref (aB 0), .int x1, .int x2] ([bC cI aB (aH 0) rB1 rB2 (aD 0) rB4 rB5 (aI 0) tB, hC cI aH tH, dC cI aD tD, iC cI aI (aH 0) dI tI]) (gPost (some (.int rr.1)) ([bC cI aB (aH 0) rB1 rB2 (aD 0) rB4 rB5 (aI 0) tB, hC cI aH tH, dC cI aD tD, iC cI aI (aH 0) dI rr.2])) := by
  obtain ⟨B_bedsByPlace, rfl⟩ : ∃ z, z = tB := ⟨_, rfl⟩
  obtain ⟨H_beds, H_law, H_sights, H_isKept, H_worths, H_sightGuests, H_sightBeds⟩ := tH
  obtain ⟨D_length, D_signs⟩ := tD
  obtain ⟨I_law, I_there, I_sleepers, I_empty, I_empties, I_yard, I_waiting, I_nights, I_used, I_sheets, I_lastOnes, I_guestsWithFleas, I_bedsWithFleas, I_isCounting⟩ := tI
  rw [f_X5_who] at hf
  refine CT.mkI (by decide) (Nat.le_of_ble_eq_true rfl) fun {p} {e} {R} {s} {m} {args} {below} {meth} {c} {A} {H0} {Q} C hA hR hret => ?_
  show G p l e R s m args below meth c 5 D A H0 0 0 Q [bC cI aB (aH 0) rB1 rB2 (aD 0) rB4 rB5 (aI 0) B_bedsByPlace, hC cI aH (H_beds, H_law, H_sights, H_isKept, H_worths, H_sightGuests, H_sightBeds), dC cI aD (D_length, D_signs), iC cI aI (aH 0) dI (I_law, I_there, I_sleepers, I_empty, I_empties, I_yard, I_waiting, I_nights, I_used, I_sheets, I_lastOnes, I_guestsWithFleas, I_bedsWithFleas, I_isCounting)] 0 [(0, .ref (aB 0)), (1, .int x1), (2, .int x2)] []
  refine gq_aload_n C 0 1 dX5_who_0 rfl rfl ?_
  refine gq_iload_n C 1 2 dX5_who_1 rfl rfl ?_
  obtain ⟨r_2, hc, hf⟩ := gq_bd hf
  refine gq_callV C hA gm_X5_68 (c_X5_isBed l D cI cZ aB rB1 rB2 (aD 0) rB4 rB5 (aI 0) aH x1 B_bedsByPlace (H_beds, H_law, H_sights, H_isKept, H_worths, H_sightGuests, H_sightBeds) _ hc) rfl 0 0 rfl rfl rfl ⟨Nat.le_trans (Nat.le_of_ble_eq_true rfl) hR.1, Nat.le_trans (Nat.le_of_ble_eq_true rfl) hR.2.1⟩ ⟨Nat.zero_le _, Nat.zero_le _⟩ rfl (Nat.le_of_ble_eq_true rfl) dX5_who_2 [0, 1] [bC cI aB (aH 0) rB1 rB2 (aD 0) rB4 rB5 (aI 0) B_bedsByPlace, hC cI aH (H_beds, H_law, H_sights, H_isKept, H_worths, H_sightGuests, H_sightBeds), dC cI aD (D_length, D_signs), iC cI aI (aH 0) dI (I_law, I_there, I_sleepers, I_empty, I_empties, I_yard, I_waiting, I_nights, I_used, I_sheets, I_lastOnes, I_guestsWithFleas, I_bedsWithFleas, I_isCounting)] 5 rfl (by decide) rfl rfl rfl [.int r_2] rfl ?_
  refine gq_if_ne C 10 8 dX5_who_5 (by decide) rfl (fun h5 => ?_) (fun h5 => ?_)
  · replace hf := gq_ifn h5 hf
    refine gq_aload_n C 0 11 dX5_who_10 rfl rfl ?_
    refine gq_iload_n C 2 12 dX5_who_11 rfl rfl ?_
    obtain ⟨r_12, hc, hf⟩ := gq_bd hf
    refine gq_callV C hA gm_X5_116 (c_X5_isCountOfEvents l D cI cZ aB (aH 0) rB1 rB2 rB4 rB5 (aI 0) aD x2 B_bedsByPlace (D_length, D_signs) _ hc) rfl 0 0 rfl rfl rfl ⟨Nat.le_trans (Nat.le_of_ble_eq_true rfl) hR.1, Nat.le_trans (Nat.le_of_ble_eq_true rfl) hR.2.1⟩ ⟨Nat.zero_le _, Nat.zero_le _⟩ rfl (Nat.le_of_ble_eq_true rfl) dX5_who_12 [0, 2] [bC cI aB (aH 0) rB1 rB2 (aD 0) rB4 rB5 (aI 0) B_bedsByPlace, hC cI aH (H_beds, H_law, H_sights, H_isKept, H_worths, H_sightGuests, H_sightBeds), dC cI aD (D_length, D_signs), iC cI aI (aH 0) dI (I_law, I_there, I_sleepers, I_empty, I_empties, I_yard, I_waiting, I_nights, I_used, I_sheets, I_lastOnes, I_guestsWithFleas, I_bedsWithFleas, I_isCounting)] 15 rfl (by decide) rfl rfl rfl [.int r_12] rfl ?_
    refine gq_if_ne C 21 18 dX5_who_15 (by decide) rfl (fun h15 => ?_) (fun h15 => ?_)
    · replace hf := gq_ifn h15 hf
      refine gq_aload_n C 0 22 dX5_who_21 rfl rfl ?_
      refine gq_iload_n C 2 23 dX5_who_22 rfl rfl ?_
      obtain ⟨⟨r_23, ⟨I_law_23, I_there_23, I_sleepers_23, I_empty_23, I_empties_23, I_yard_23, I_waiting_23, I_nights_23, I_used_23, I_sheets_23, I_lastOnes_23, I_guestsWithFleas_23, I_bedsWithFleas_23, I_isCounting_23⟩⟩, hc, hf⟩ := gq_bd hf
      refine gq_callV C hA gm_X5_119 (c_X5_liveThrough l D cI cZ aB rB1 rB2 rB4 rB5 aH aD aI dI x2 B_bedsByPlace (H_beds, H_law, H_sights, H_isKept, H_worths, H_sightGuests, H_sightBeds) (D_length, D_signs) (I_law, I_there, I_sleepers, I_empty, I_empties, I_yard, I_waiting, I_nights, I_used, I_sheets, I_lastOnes, I_guestsWithFleas, I_bedsWithFleas, I_isCounting) _ hc) rfl 0 0 rfl rfl rfl ⟨Nat.le_trans (Nat.le_of_ble_eq_true rfl) hR.1, Nat.le_trans (Nat.le_of_ble_eq_true rfl) hR.2.1⟩ ⟨Nat.zero_le _, Nat.zero_le _⟩ rfl (Nat.le_of_ble_eq_true rfl) dX5_who_23 [0, 1, 2, 3] [bC cI aB (aH 0) rB1 rB2 (aD 0) rB4 rB5 (aI 0) B_bedsByPlace, hC cI aH (H_beds, H_law, H_sights, H_isKept, H_worths, H_sightGuests, H_sightBeds), dC cI aD (D_length, D_signs), iC cI aI (aH 0) dI (I_law_23, I_there_23, I_sleepers_23, I_empty_23, I_empties_23, I_yard_23, I_waiting_23, I_nights_23, I_used_23, I_sheets_23, I_lastOnes_23, I_guestsWithFleas_23, I_bedsWithFleas_23, I_isCounting_23)] 26 rfl (by decide) rfl rfl rfl [.int r_23] rfl ?_
      refine gq_istore_n C [(3, .int r_23), (0, .ref (aB 0)), (1, .int x1), (2, .int x2)] 27 dX5_who_26 (by decide) rfl rfl ?_
      refine gq_iload_n C 0 28 dX5_who_27 rfl rfl ?_
      refine gq_if_eq C 33 31 dX5_who_28 (by decide) rfl (fun h28 => ?_) (fun h28 => ?_)
      · replace hf := gq_ifp h28 hf
        refine gq_aload_n C 1 34 dX5_who_33 rfl rfl ?_
        refine gq_get C fo_X5_6 fw_X5_52 0 0 37 rfl rfl rfl dX5_who_34 rfl ?_
        refine gq_iload_n C 2 38 dX5_who_37 rfl rfl ?_
        obtain ⟨r_38, hc, hf⟩ := gq_bd hf
        refine gq_callN C hA gm_X5_125 (c_X3_sleeperOf l D cI cZ aI (aH 0) dI x1 (I_law_23, I_there_23, I_sleepers_23, I_empty_23, I_empties_23, I_yard_23, I_waiting_23, I_nights_23, I_used_23, I_sheets_23, I_lastOnes_23, I_guestsWithFleas_23, I_bedsWithFleas_23, I_isCounting_23) _ hc) rfl 3 0 rfl rfl rfl ⟨Nat.le_trans (Nat.le_of_ble_eq_true rfl) hR.1, Nat.le_trans (Nat.le_of_ble_eq_true rfl) hR.2.1⟩ ⟨Nat.zero_le _, Nat.zero_le _⟩ rfl (Nat.le_of_ble_eq_true rfl) dX5_who_38 [3] [bC cI aB (aH 0) rB1 rB2 (aD 0) rB4 rB5 (aI 0) B_bedsByPlace, hC cI aH (H_beds, H_law, H_sights, H_isKept, H_worths, H_sightGuests, H_sightBeds), dC cI aD (D_length, D_signs), iC cI aI (aH 0) dI (I_law_23, I_there_23, I_sleepers_23, I_empty_23, I_empties_23, I_yard_23, I_waiting_23, I_nights_23, I_used_23, I_sheets_23, I_lastOnes_23, I_guestsWithFleas_23, I_bedsWithFleas_23, I_isCounting_23)] 41 rfl (by decide) rfl rfl rfl [.int r_38] rfl ?_
        refine gq_istore C [(4, .int r_38), (3, .int r_23), (0, .ref (aB 0)), (1, .int x1), (2, .int x2)] 43 dX5_who_41 (by decide) rfl rfl ?_
        refine gq_iload C 0 45 dX5_who_43 rfl rfl ?_
        refine gq_iconst C (-1 : Int32) 46 dX5_who_45 (by decide) rfl ?_
        refine gq_icmp_ne C 54 49 dX5_who_46 (by decide) rfl (fun h46 => ?_) (fun h46 => ?_)
        · replace hf := gq_ifn h46 hf
          refine gq_iload C 0 56 dX5_who_54 rfl rfl ?_
          obtain rfl := gq_lf hf
          exact hret dX5_who_56 gPost.rf
        · replace hf := gq_ifp h46 hf
          refine gq_bipush C (-6 : Int32) 51 dX5_who_49 (by decide) rfl ?_
          refine gq_goto C 56 dX5_who_51 (by decide) ?_
          obtain rfl := gq_lf hf
          exact hret dX5_who_56 gPost.rf
      · replace hf := gq_ifn h28 hf
        refine gq_iload_n C 0 32 dX5_who_31 rfl rfl ?_
        obtain rfl := gq_lf hf
        exact hret dX5_who_32 gPost.rf
    · replace hf := gq_ifp h15 hf
      refine gq_bipush C (-2 : Int32) 20 dX5_who_18 (by decide) rfl ?_
      obtain rfl := gq_lf hf
      exact hret dX5_who_20 gPost.rf
  · replace hf := gq_ifp h5 hf
    refine gq_iconst C (-1 : Int32) 9 dX5_who_8 (by decide) rfl ?_
    obtain rfl := gq_lf hf
    exact hret dX5_who_9 gPost.rf

def f_X5_left : Int32 → Int32 → WbS → HouS → DayS → InnS → Option (Int32 × InnS)
  | x1, x2, B_bedsByPlace, (H_beds, H_law, H_sights, H_isKept, H_worths, H_sightGuests, H_sightBeds), (D_length, D_signs), (I_law, I_there, I_sleepers, I_empty, I_empties, I_yard, I_waiting, I_nights, I_used, I_sheets, I_lastOnes, I_guestsWithFleas, I_bedsWithFleas, I_isCounting) => (Option.bind (f_X5_isCountOfEvents x1 B_bedsByPlace (D_length, D_signs)) (fun r_2 => (if r_2 = 0 then some ((-2 : Int32), (I_law, I_there, I_sleepers, I_empty, I_empties, I_yard, I_waiting, I_nights, I_used, I_sheets, I_lastOnes, I_guestsWithFleas, I_bedsWithFleas, I_isCounting)) else (Option.bind (f_X5_liveThrough x1 B_bedsByPlace (H_beds, H_law, H_sights, H_isKept, H_worths, H_sightGuests, H_sightBeds) (D_length, D_signs) (I_law, I_there, I_sleepers, I_empty, I_empties, I_yard, I_waiting, I_nights, I_used, I_sheets, I_lastOnes, I_guestsWithFleas, I_bedsWithFleas, I_isCounting)) (fun (r_13, (I_law_13, I_there_13, I_sleepers_13, I_empty_13, I_empties_13, I_yard_13, I_waiting_13, I_nights_13, I_used_13, I_sheets_13, I_lastOnes_13, I_guestsWithFleas_13, I_bedsWithFleas_13, I_isCounting_13)) => (if r_13 = 0 then (if x2 = (-1 : Int32) then some (I_waiting_13, (I_law_13, I_there_13, I_sleepers_13, I_empty_13, I_empties_13, I_yard_13, I_waiting_13, I_nights_13, I_used_13, I_sheets_13, I_lastOnes_13, I_guestsWithFleas_13, I_bedsWithFleas_13, I_isCounting_13)) else (Option.bind (f_X3_emptyBed x2 (I_law_13, I_there_13, I_sleepers_13, I_empty_13, I_empties_13, I_yard_13, I_waiting_13, I_nights_13, I_used_13, I_sheets_13, I_lastOnes_13, I_guestsWithFleas_13, I_bedsWithFleas_13, I_isCounting_13)) (fun r_43 => some (r_43, (I_law_13, I_there_13, I_sleepers_13, I_empty_13, I_empties_13, I_yard_13, I_waiting_13, I_nights_13, I_used_13, I_sheets_13, I_lastOnes_13, I_guestsWithFleas_13, I_bedsWithFleas_13, I_isCounting_13))))) else some (r_13, (I_law_13, I_there_13, I_sleepers_13, I_empty_13, I_empties_13, I_yard_13, I_waiting_13, I_nights_13, I_used_13, I_sheets_13, I_lastOnes_13, I_guestsWithFleas_13, I_bedsWithFleas_13, I_isCounting_13))))))))
set_option maxHeartbeats 4000000 in
set_option maxRecDepth 100000 in
theorem c_X5_left (l : Launch) (D : va_G) (cI cZ : ClassId) (aB : Nat → Nat) (rB1 : Nat) (rB2 : Nat) (rB4 : Nat) (rB5 : Nat) (aH : Nat → Nat) (aD : Nat → Nat) (aI : Nat → Nat) (dI : Option Nat) (x1 : Int32) (x2 : Int32) (tB : WbS) (tH : HouS) (tD : DayS) (tI : InnS) (rr : Int32 × InnS) (hf : f_X5_left x1 x2 tB tH tD tI = some rr) : CT l D cI cZ yX5_left cX5_left 4 (some .int) 6 135 0 0 [.ref (aB 0), .int x1, .int x2] ([bC cI aB (aH 0) rB1 rB2 (aD 0) rB4 rB5 (aI 0) tB, hC cI aH tH, dC cI aD tD, iC cI aI (aH 0) dI tI]) (gPost (some (.int rr.1)) ([bC cI aB (aH 0) rB1 rB2 (aD 0) rB4 rB5 (aI 0) tB, hC cI aH tH, dC cI aD tD, iC cI aI (aH 0) dI rr.2])) := by
  obtain ⟨B_bedsByPlace, rfl⟩ : ∃ z, z = tB := ⟨_, rfl⟩
  obtain ⟨H_beds, H_law, H_sights, H_isKept, H_worths, H_sightGuests, H_sightBeds⟩ := tH
  obtain ⟨D_length, D_signs⟩ := tD
  obtain ⟨I_law, I_there, I_sleepers, I_empty, I_empties, I_yard, I_waiting, I_nights, I_used, I_sheets, I_lastOnes, I_guestsWithFleas, I_bedsWithFleas, I_isCounting⟩ := tI
  rw [f_X5_left] at hf
  refine CT.mkI (by decide) (Nat.le_of_ble_eq_true rfl) fun {p} {e} {R} {s} {m} {args} {below} {meth} {c} {A} {H0} {Q} C hA hR hret => ?_
  show G p l e R s m args below meth c 4 D A H0 0 0 Q [bC cI aB (aH 0) rB1 rB2 (aD 0) rB4 rB5 (aI 0) B_bedsByPlace, hC cI aH (H_beds, H_law, H_sights, H_isKept, H_worths, H_sightGuests, H_sightBeds), dC cI aD (D_length, D_signs), iC cI aI (aH 0) dI (I_law, I_there, I_sleepers, I_empty, I_empties, I_yard, I_waiting, I_nights, I_used, I_sheets, I_lastOnes, I_guestsWithFleas, I_bedsWithFleas, I_isCounting)] 0 [(0, .ref (aB 0)), (1, .int x1), (2, .int x2)] []
  refine gq_aload_n C 0 1 dX5_left_0 rfl rfl ?_
  refine gq_iload_n C 1 2 dX5_left_1 rfl rfl ?_
  obtain ⟨r_2, hc, hf⟩ := gq_bd hf
  refine gq_callV C hA gm_X5_116 (c_X5_isCountOfEvents l D cI cZ aB (aH 0) rB1 rB2 rB4 rB5 (aI 0) aD x1 B_bedsByPlace (D_length, D_signs) _ hc) rfl 0 0 rfl rfl rfl ⟨Nat.le_trans (Nat.le_of_ble_eq_true rfl) hR.1, Nat.le_trans (Nat.le_of_ble_eq_true rfl) hR.2.1⟩ ⟨Nat.zero_le _, Nat.zero_le _⟩ rfl (Nat.le_of_ble_eq_true rfl) dX5_left_2 [0, 2] [bC cI aB (aH 0) rB1 rB2 (aD 0) rB4 rB5 (aI 0) B_bedsByPlace, hC cI aH (H_beds, H_law, H_sights, H_isKept, H_worths, H_sightGuests, H_sightBeds), dC cI aD (D_length, D_signs), iC cI aI (aH 0) dI (I_law, I_there, I_sleepers, I_empty, I_empties, I_yard, I_waiting, I_nights, I_used, I_sheets, I_lastOnes, I_guestsWithFleas, I_bedsWithFleas, I_isCounting)] 5 rfl (by decide) rfl rfl rfl [.int r_2] rfl ?_
  refine gq_if_ne C 11 8 dX5_left_5 (by decide) rfl (fun h5 => ?_) (fun h5 => ?_)
  · replace hf := gq_ifn h5 hf
    refine gq_aload_n C 0 12 dX5_left_11 rfl rfl ?_
    refine gq_iload_n C 1 13 dX5_left_12 rfl rfl ?_
    obtain ⟨⟨r_13, ⟨I_law_13, I_there_13, I_sleepers_13, I_empty_13, I_empties_13, I_yard_13, I_waiting_13, I_nights_13, I_used_13, I_sheets_13, I_lastOnes_13, I_guestsWithFleas_13, I_bedsWithFleas_13, I_isCounting_13⟩⟩, hc, hf⟩ := gq_bd hf
    refine gq_callV C hA gm_X5_119 (c_X5_liveThrough l D cI cZ aB rB1 rB2 rB4 rB5 aH aD aI dI x1 B_bedsByPlace (H_beds, H_law, H_sights, H_isKept, H_worths, H_sightGuests, H_sightBeds) (D_length, D_signs) (I_law, I_there, I_sleepers, I_empty, I_empties, I_yard, I_waiting, I_nights, I_used, I_sheets, I_lastOnes, I_guestsWithFleas, I_bedsWithFleas, I_isCounting) _ hc) rfl 0 0 rfl rfl rfl ⟨Nat.le_trans (Nat.le_of_ble_eq_true rfl) hR.1, Nat.le_trans (Nat.le_of_ble_eq_true rfl) hR.2.1⟩ ⟨Nat.zero_le _, Nat.zero_le _⟩ rfl (Nat.le_of_ble_eq_true rfl) dX5_left_13 [0, 1, 2, 3] [bC cI aB (aH 0) rB1 rB2 (aD 0) rB4 rB5 (aI 0) B_bedsByPlace, hC cI aH (H_beds, H_law, H_sights, H_isKept, H_worths, H_sightGuests, H_sightBeds), dC cI aD (D_length, D_signs), iC cI aI (aH 0) dI (I_law_13, I_there_13, I_sleepers_13, I_empty_13, I_empties_13, I_yard_13, I_waiting_13, I_nights_13, I_used_13, I_sheets_13, I_lastOnes_13, I_guestsWithFleas_13, I_bedsWithFleas_13, I_isCounting_13)] 16 rfl (by decide) rfl rfl rfl [.int r_13] rfl ?_
    refine gq_istore_n C [(3, .int r_13), (0, .ref (aB 0)), (1, .int x1), (2, .int x2)] 17 dX5_left_16 (by decide) rfl rfl ?_
    refine gq_iload_n C 0 18 dX5_left_17 rfl rfl ?_
    refine gq_if_eq C 23 21 dX5_left_18 (by decide) rfl (fun h18 => ?_) (fun h18 => ?_)
    · replace hf := gq_ifp h18 hf
      refine gq_iload_n C 3 24 dX5_left_23 rfl rfl ?_
      refine gq_iconst C (-1 : Int32) 25 dX5_left_24 (by decide) rfl ?_
      refine gq_icmp_ne C 38 28 dX5_left_25 (by decide) rfl (fun h25 => ?_) (fun h25 => ?_)
      · replace hf := gq_ifn h25 hf
        refine gq_aload_n C 1 39 dX5_left_38 rfl rfl ?_
        refine gq_get C fo_X5_6 fw_X5_52 0 0 42 rfl rfl rfl dX5_left_39 rfl ?_
        refine gq_iload_n C 3 43 dX5_left_42 rfl rfl ?_
        obtain ⟨r_43, hc, hf⟩ := gq_bd hf
        refine gq_callN C hA gm_X5_131 (c_X3_emptyBed l D cI cZ aI (aH 0) dI x2 (I_law_13, I_there_13, I_sleepers_13, I_empty_13, I_empties_13, I_yard_13, I_waiting_13, I_nights_13, I_used_13, I_sheets_13, I_lastOnes_13, I_guestsWithFleas_13, I_bedsWithFleas_13, I_isCounting_13) _ hc) rfl 3 0 rfl rfl rfl ⟨Nat.le_trans (Nat.le_of_ble_eq_true rfl) hR.1, Nat.le_trans (Nat.le_of_ble_eq_true rfl) hR.2.1⟩ ⟨Nat.zero_le _, Nat.zero_le _⟩ rfl (Nat.le_of_ble_eq_true rfl) dX5_left_43 [3] [bC cI aB (aH 0) rB1 rB2 (aD 0) rB4 rB5 (aI 0) B_bedsByPlace, hC cI aH (H_beds, H_law, H_sights, H_isKept, H_worths, H_sightGuests, H_sightBeds), dC cI aD (D_length, D_signs), iC cI aI (aH 0) dI (I_law_13, I_there_13, I_sleepers_13, I_empty_13, I_empties_13, I_yard_13, I_waiting_13, I_nights_13, I_used_13, I_sheets_13, I_lastOnes_13, I_guestsWithFleas_13, I_bedsWithFleas_13, I_isCounting_13)] 46 rfl (by decide) rfl rfl rfl [.int r_43] rfl ?_
        obtain rfl := gq_lf hf
        exact hret dX5_left_46 gPost.rf
      · replace hf := gq_ifp h25 hf
        refine gq_aload_n C 1 29 dX5_left_28 rfl rfl ?_
        refine gq_get C fo_X5_6 fw_X5_52 0 0 32 rfl rfl rfl dX5_left_29 rfl ?_
        refine gq_getN C fo_X3_8 fw_X5_128 3 0 35 rfl rfl rfl dX5_left_32 rfl ?_
        refine gq_goto C 46 dX5_left_35 (by decide) ?_
        obtain rfl := gq_lf hf
        exact hret dX5_left_46 gPost.rf
    · replace hf := gq_ifn h18 hf
      refine gq_iload_n C 0 22 dX5_left_21 rfl rfl ?_
      obtain rfl := gq_lf hf
      exact hret dX5_left_22 gPost.rf
  · replace hf := gq_ifp h5 hf
    refine gq_bipush C (-2 : Int32) 10 dX5_left_8 (by decide) rfl ?_
    obtain rfl := gq_lf hf
    exact hret dX5_left_10 gPost.rf

def f_X5_slept : Int32 → Int32 → WbS → HouS → DayS → InnS → Option (Int32 × InnS)
  | x1, x2, B_bedsByPlace, (H_beds, H_law, H_sights, H_isKept, H_worths, H_sightGuests, H_sightBeds), (D_length, D_signs), (I_law, I_there, I_sleepers, I_empty, I_empties, I_yard, I_waiting, I_nights, I_used, I_sheets, I_lastOnes, I_guestsWithFleas, I_bedsWithFleas, I_isCounting) => (Option.bind (f_X5_isBed x1 B_bedsByPlace (H_beds, H_law, H_sights, H_isKept, H_worths, H_sightGuests, H_sightBeds)) (fun r_2 => (if r_2 = 0 then some ((-1 : Int32), (I_law, I_there, I_sleepers, I_empty, I_empties, I_yard, I_waiting, I_nights, I_used, I_sheets, I_lastOnes, I_guestsWithFleas, I_bedsWithFleas, I_isCounting)) else (if x2 < 0 then some ((-2 : Int32), (I_law, I_there, I_sleepers, I_empty, I_empties, I_yard, I_waiting, I_nights, I_used, I_sheets, I_lastOnes, I_guestsWithFleas, I_bedsWithFleas, I_isCounting)) else (if x2 ≤ (nI 2) then (Option.bind (f_X5_liveThrough (-1 : Int32) B_bedsByPlace (H_beds, H_law, H_sights, H_isKept, H_worths, H_sightGuests, H_sightBeds) (D_length, D_signs) (I_law, I_there, I_sleepers, I_empty, I_empties, I_yard, I_waiting, I_nights, I_used, I_sheets, I_lastOnes, I_guestsWithFleas, I_bedsWithFleas, I_isCounting)) (fun (r_24, (I_law_24, I_there_24, I_sleepers_24, I_empty_24, I_empties_24, I_yard_24, I_waiting_24, I_nights_24, I_used_24, I_sheets_24, I_lastOnes_24, I_guestsWithFleas_24, I_bedsWithFleas_24, I_isCounting_24)) => (if r_24 = 0 then (Option.bind (f_X3_countOf x1 x2 (I_law_24, I_there_24, I_sleepers_24, I_empty_24, I_empties_24, I_yard_24, I_waiting_24, I_nights_24, I_used_24, I_sheets_24, I_lastOnes_24, I_guestsWithFleas_24, I_bedsWithFleas_24, I_isCounting_24)) (fun r_42 => some (r_42, (I_law_24, I_there_24, I_sleepers_24, I_empty_24, I_empties_24, I_yard_24, I_waiting_24, I_nights_24, I_used_24, I_sheets_24, I_lastOnes_24, I_guestsWithFleas_24, I_bedsWithFleas_24, I_isCounting_24)))) else some (r_24, (I_law_24, I_there_24, I_sleepers_24, I_empty_24, I_empties_24, I_yard_24, I_waiting_24, I_nights_24, I_used_24, I_sheets_24, I_lastOnes_24, I_guestsWithFleas_24, I_bedsWithFleas_24, I_isCounting_24))))) else some ((-2 : Int32), (I_law, I_there, I_sleepers, I_empty, I_empties, I_yard, I_waiting, I_nights, I_used, I_sheets, I_lastOnes, I_guestsWithFleas, I_bedsWithFleas, I_isCounting)))))))
set_option maxHeartbeats 4000000 in
set_option maxRecDepth 100000 in
theorem c_X5_slept (l : Launch) (D : va_G) (cI cZ : ClassId) (aB : Nat → Nat) (rB1 : Nat) (rB2 : Nat) (rB4 : Nat) (rB5 : Nat) (aH : Nat → Nat) (aD : Nat → Nat) (aI : Nat → Nat) (dI : Option Nat) (x1 : Int32) (x2 : Int32) (tB : WbS) (tH : HouS) (tD : DayS) (tI : InnS) (rr : Int32 × InnS) (hf : f_X5_slept x1 x2 tB tH tD tI = some rr) : CT l D cI cZ yX5_slept cX5_slept 4 (some .int) 6 135 0 0 [.ref (aB 0), .int x1, .int x2] ([bC cI aB (aH 0) rB1 rB2 (aD 0) rB4 rB5 (aI 0) tB, hC cI aH tH, dC cI aD tD, iC cI aI (aH 0) dI tI]) (gPost (some (.int rr.1)) ([bC cI aB (aH 0) rB1 rB2 (aD 0) rB4 rB5 (aI 0) tB, hC cI aH tH, dC cI aD tD, iC cI aI (aH 0) dI rr.2])) := by
  obtain ⟨B_bedsByPlace, rfl⟩ : ∃ z, z = tB := ⟨_, rfl⟩
  obtain ⟨H_beds, H_law, H_sights, H_isKept, H_worths, H_sightGuests, H_sightBeds⟩ := tH
  obtain ⟨D_length, D_signs⟩ := tD
  obtain ⟨I_law, I_there, I_sleepers, I_empty, I_empties, I_yard, I_waiting, I_nights, I_used, I_sheets, I_lastOnes, I_guestsWithFleas, I_bedsWithFleas, I_isCounting⟩ := tI
  rw [f_X5_slept] at hf
  refine CT.mkI (by decide) (Nat.le_of_ble_eq_true rfl) fun {p} {e} {R} {s} {m} {args} {below} {meth} {c} {A} {H0} {Q} C hA hR hret => ?_
  show G p l e R s m args below meth c 4 D A H0 0 0 Q [bC cI aB (aH 0) rB1 rB2 (aD 0) rB4 rB5 (aI 0) B_bedsByPlace, hC cI aH (H_beds, H_law, H_sights, H_isKept, H_worths, H_sightGuests, H_sightBeds), dC cI aD (D_length, D_signs), iC cI aI (aH 0) dI (I_law, I_there, I_sleepers, I_empty, I_empties, I_yard, I_waiting, I_nights, I_used, I_sheets, I_lastOnes, I_guestsWithFleas, I_bedsWithFleas, I_isCounting)] 0 [(0, .ref (aB 0)), (1, .int x1), (2, .int x2)] []
  refine gq_aload_n C 0 1 dX5_slept_0 rfl rfl ?_
  refine gq_iload_n C 1 2 dX5_slept_1 rfl rfl ?_
  obtain ⟨r_2, hc, hf⟩ := gq_bd hf
  refine gq_callV C hA gm_X5_68 (c_X5_isBed l D cI cZ aB rB1 rB2 (aD 0) rB4 rB5 (aI 0) aH x1 B_bedsByPlace (H_beds, H_law, H_sights, H_isKept, H_worths, H_sightGuests, H_sightBeds) _ hc) rfl 0 0 rfl rfl rfl ⟨Nat.le_trans (Nat.le_of_ble_eq_true rfl) hR.1, Nat.le_trans (Nat.le_of_ble_eq_true rfl) hR.2.1⟩ ⟨Nat.zero_le _, Nat.zero_le _⟩ rfl (Nat.le_of_ble_eq_true rfl) dX5_slept_2 [0, 1] [bC cI aB (aH 0) rB1 rB2 (aD 0) rB4 rB5 (aI 0) B_bedsByPlace, hC cI aH (H_beds, H_law, H_sights, H_isKept, H_worths, H_sightGuests, H_sightBeds), dC cI aD (D_length, D_signs), iC cI aI (aH 0) dI (I_law, I_there, I_sleepers, I_empty, I_empties, I_yard, I_waiting, I_nights, I_used, I_sheets, I_lastOnes, I_guestsWithFleas, I_bedsWithFleas, I_isCounting)] 5 rfl (by decide) rfl rfl rfl [.int r_2] rfl ?_
  refine gq_if_ne C 10 8 dX5_slept_5 (by decide) rfl (fun h5 => ?_) (fun h5 => ?_)
  · replace hf := gq_ifn h5 hf
    refine gq_iload_n C 2 11 dX5_slept_10 rfl rfl ?_
    refine gq_if_lt C 19 14 dX5_slept_11 (by decide) rfl (fun h11 => ?_) (fun h11 => ?_)
    · replace hf := gq_ifp h11 hf
      refine gq_bipush C (-2 : Int32) 21 dX5_slept_19 (by decide) rfl ?_
      obtain rfl := gq_lf hf
      exact hret dX5_slept_21 gPost.rf
    · replace hf := gq_ifn h11 hf
      refine gq_iload_n C 2 15 dX5_slept_14 rfl rfl ?_
      refine gq_iconst C (nI 2) 16 dX5_slept_15 (by decide) rfl ?_
      refine gq_icmp_le C 22 19 dX5_slept_16 (by decide) rfl (fun h16 => ?_) (fun h16 => ?_)
      · replace hf := gq_ifp h16 hf
        refine gq_aload_n C 0 23 dX5_slept_22 rfl rfl ?_
        refine gq_iconst C (-1 : Int32) 24 dX5_slept_23 (by decide) rfl ?_
        obtain ⟨⟨r_24, ⟨I_law_24, I_there_24, I_sleepers_24, I_empty_24, I_empties_24, I_yard_24, I_waiting_24, I_nights_24, I_used_24, I_sheets_24, I_lastOnes_24, I_guestsWithFleas_24, I_bedsWithFleas_24, I_isCounting_24⟩⟩, hc, hf⟩ := gq_bd hf
        refine gq_callV C hA gm_X5_119 (c_X5_liveThrough l D cI cZ aB rB1 rB2 rB4 rB5 aH aD aI dI (-1 : Int32) B_bedsByPlace (H_beds, H_law, H_sights, H_isKept, H_worths, H_sightGuests, H_sightBeds) (D_length, D_signs) (I_law, I_there, I_sleepers, I_empty, I_empties, I_yard, I_waiting, I_nights, I_used, I_sheets, I_lastOnes, I_guestsWithFleas, I_bedsWithFleas, I_isCounting) _ hc) rfl 0 0 rfl rfl rfl ⟨Nat.le_trans (Nat.le_of_ble_eq_true rfl) hR.1, Nat.le_trans (Nat.le_of_ble_eq_true rfl) hR.2.1⟩ ⟨Nat.zero_le _, Nat.zero_le _⟩ rfl (Nat.le_of_ble_eq_true rfl) dX5_slept_24 [0, 1, 2, 3] [bC cI aB (aH 0) rB1 rB2 (aD 0) rB4 rB5 (aI 0) B_bedsByPlace, hC cI aH (H_beds, H_law, H_sights, H_isKept, H_worths, H_sightGuests, H_sightBeds), dC cI aD (D_length, D_signs), iC cI aI (aH 0) dI (I_law_24, I_there_24, I_sleepers_24, I_empty_24, I_empties_24, I_yard_24, I_waiting_24, I_nights_24, I_used_24, I_sheets_24, I_lastOnes_24, I_guestsWithFleas_24, I_bedsWithFleas_24, I_isCounting_24)] 27 rfl (by decide) rfl rfl rfl [.int r_24] rfl ?_
        refine gq_istore_n C [(3, .int r_24), (0, .ref (aB 0)), (1, .int x1), (2, .int x2)] 28 dX5_slept_27 (by decide) rfl rfl ?_
        refine gq_iload_n C 0 29 dX5_slept_28 rfl rfl ?_
        refine gq_if_eq C 36 32 dX5_slept_29 (by decide) rfl (fun h29 => ?_) (fun h29 => ?_)
        · replace hf := gq_ifp h29 hf
          refine gq_aload_n C 1 37 dX5_slept_36 rfl rfl ?_
          refine gq_get C fo_X5_6 fw_X5_52 0 0 40 rfl rfl rfl dX5_slept_37 rfl ?_
          refine gq_iload_n C 2 41 dX5_slept_40 rfl rfl ?_
          refine gq_iload_n C 3 42 dX5_slept_41 rfl rfl ?_
          obtain ⟨r_42, hc, hf⟩ := gq_bd hf
          refine gq_callN C hA gm_X5_134 (c_X3_countOf l D cI cZ aI (aH 0) dI x1 x2 (I_law_24, I_there_24, I_sleepers_24, I_empty_24, I_empties_24, I_yard_24, I_waiting_24, I_nights_24, I_used_24, I_sheets_24, I_lastOnes_24, I_guestsWithFleas_24, I_bedsWithFleas_24, I_isCounting_24) _ hc) rfl 3 0 rfl rfl rfl ⟨Nat.le_trans (Nat.le_of_ble_eq_true rfl) hR.1, Nat.le_trans (Nat.le_of_ble_eq_true rfl) hR.2.1⟩ ⟨Nat.zero_le _, Nat.zero_le _⟩ rfl (Nat.le_of_ble_eq_true rfl) dX5_slept_42 [3] [bC cI aB (aH 0) rB1 rB2 (aD 0) rB4 rB5 (aI 0) B_bedsByPlace, hC cI aH (H_beds, H_law, H_sights, H_isKept, H_worths, H_sightGuests, H_sightBeds), dC cI aD (D_length, D_signs), iC cI aI (aH 0) dI (I_law_24, I_there_24, I_sleepers_24, I_empty_24, I_empties_24, I_yard_24, I_waiting_24, I_nights_24, I_used_24, I_sheets_24, I_lastOnes_24, I_guestsWithFleas_24, I_bedsWithFleas_24, I_isCounting_24)] 45 rfl (by decide) rfl rfl rfl [.int r_42] rfl ?_
          obtain rfl := gq_lf hf
          exact hret dX5_slept_45 gPost.rf
        · replace hf := gq_ifn h29 hf
          refine gq_iload_n C 0 33 dX5_slept_32 rfl rfl ?_
          refine gq_goto C 45 dX5_slept_33 (by decide) ?_
          obtain rfl := gq_lf hf
          exact hret dX5_slept_45 gPost.rf
      · replace hf := gq_ifn h16 hf
        refine gq_bipush C (-2 : Int32) 21 dX5_slept_19 (by decide) rfl ?_
        obtain rfl := gq_lf hf
        exact hret dX5_slept_21 gPost.rf
  · replace hf := gq_ifp h5 hf
    refine gq_iconst C (-1 : Int32) 9 dX5_slept_8 (by decide) rfl ?_
    obtain rfl := gq_lf hf
    exact hret dX5_slept_9 gPost.rf

def f_X5_fewest_L34 (c_B_bedsByPlace : (Nat → Int32)) (c_H_beds : Int32) (c_H_law : Int32) (c_H_sights : Int32) (c_H_isKept : Int32) (c_H_worths : (Nat → Int32)) (c_H_sightGuests : (Nat → Int32)) (c_H_sightBeds : (Nat → Int32)) (c_D_length : Int32) (c_D_signs : (Nat → Int32)) : Nat → Int32 → Int32 → Int32 → Int32 → Int32 → (Nat → Int32) → (Nat → Int32) → Int32 → (Nat → Int32) → Int32 → (Nat → Int32) → (Nat → Int32) → (Nat → Int32) → (Nat → Int32) → Int32 → Int32 → Int32 → (Int32 → Int32 → Int32 → Int32 → Int32 → (Nat → Int32) → (Nat → Int32) → Int32 → (Nat → Int32) → Int32 → (Nat → Int32) → (Nat → Int32) → (Nat → Int32) → (Nat → Int32) → Int32 → Int32 → Int32 → Option (Int32 × InnS)) → Option (Int32 × InnS)
  | 0, _, _, _, _, _, _, _, _, _, _, _, _, _, _, _, _, _, _ => none
  | nL34 + 1, x3_L34, x4_L34, x5_L34, I_law_L34, I_there_L34, I_sleepers_L34, I_empty_L34, I_empties_L34, I_yard_L34, I_waiting_L34, I_nights_L34, I_used_L34, I_sheets_L34, I_lastOnes_L34, I_guestsWithFleas_L34, I_bedsWithFleas_L34, I_isCounting_L34, kL34 => (if (nI 4) ≤ x5_L34 then kL34 x3_L34 x4_L34 x5_L34 I_law_L34 I_there_L34 I_sleepers_L34 I_empty_L34 I_empties_L34 I_yard_L34 I_waiting_L34 I_nights_L34 I_used_L34 I_sheets_L34 I_lastOnes_L34 I_guestsWithFleas_L34 I_bedsWithFleas_L34 I_isCounting_L34 else (Option.bind (f_X5_sheetsBy x5_L34 c_B_bedsByPlace (c_H_beds, c_H_law, c_H_sights, c_H_isKept, c_H_worths, c_H_sightGuests, c_H_sightBeds) (c_D_length, c_D_signs) (I_law_L34, I_there_L34, I_sleepers_L34, I_empty_L34, I_empties_L34, I_yard_L34, I_waiting_L34, I_nights_L34, I_used_L34, I_sheets_L34, I_lastOnes_L34, I_guestsWithFleas_L34, I_bedsWithFleas_L34, I_isCounting_L34)) (fun (r_43, (I_law_43, I_there_43, I_sleepers_43, I_empty_43, I_empties_43, I_yard_43, I_waiting_43, I_nights_43, I_used_43, I_sheets_43, I_lastOnes_43, I_guestsWithFleas_43, I_bedsWithFleas_43, I_isCounting_43)) => (if x4_L34 ≤ r_43 then f_X5_fewest_L34 c_B_bedsByPlace c_H_beds c_H_law c_H_sights c_H_isKept c_H_worths c_H_sightGuests c_H_sightBeds c_D_length c_D_signs nL34 x3_L34 x4_L34 (x5_L34 + (nI 1)) I_law_43 I_there_43 I_sleepers_43 I_empty_43 I_empties_43 I_yard_43 I_waiting_43 I_nights_43 I_used_43 I_sheets_43 I_lastOnes_43 I_guestsWithFleas_43 I_bedsWithFleas_43 I_isCounting_43 kL34 else f_X5_fewest_L34 c_B_bedsByPlace c_H_beds c_H_law c_H_sights c_H_isKept c_H_worths c_H_sightGuests c_H_sightBeds c_D_length c_D_signs nL34 x5_L34 r_43 (x5_L34 + (nI 1)) I_law_43 I_there_43 I_sleepers_43 I_empty_43 I_empties_43 I_yard_43 I_waiting_43 I_nights_43 I_used_43 I_sheets_43 I_lastOnes_43 I_guestsWithFleas_43 I_bedsWithFleas_43 I_isCounting_43 kL34))))
def f_X5_fewest : Int32 → WbS → HouS → DayS → InnS → Option (Int32 × InnS)
  | x1, B_bedsByPlace, (H_beds, H_law, H_sights, H_isKept, H_worths, H_sightGuests, H_sightBeds), (D_length, D_signs), (I_law, I_there, I_sleepers, I_empty, I_empties, I_yard, I_waiting, I_nights, I_used, I_sheets, I_lastOnes, I_guestsWithFleas, I_bedsWithFleas, I_isCounting) => (Option.bind (f_X5_isEither x1) (fun r_1 => (if r_1 = 0 then some ((-2 : Int32), (I_law, I_there, I_sleepers, I_empty, I_empties, I_yard, I_waiting, I_nights, I_used, I_sheets, I_lastOnes, I_guestsWithFleas, I_bedsWithFleas, I_isCounting)) else (Option.bind (f_X5_liveThrough (-1 : Int32) B_bedsByPlace (H_beds, H_law, H_sights, H_isKept, H_worths, H_sightGuests, H_sightBeds) (D_length, D_signs) (I_law, I_there, I_sleepers, I_empty, I_empties, I_yard, I_waiting, I_nights, I_used, I_sheets, I_lastOnes, I_guestsWithFleas, I_bedsWithFleas, I_isCounting)) (fun (r_12, (I_law_12, I_there_12, I_sleepers_12, I_empty_12, I_empties_12, I_yard_12, I_waiting_12, I_nights_12, I_used_12, I_sheets_12, I_lastOnes_12, I_guestsWithFleas_12, I_bedsWithFleas_12, I_isCounting_12)) => (if r_12 = 0 then (Option.bind (f_X5_sheetsBy (nI 0) B_bedsByPlace (H_beds, H_law, H_sights, H_isKept, H_worths, H_sightGuests, H_sightBeds) (D_length, D_signs) (I_law_12, I_there_12, I_sleepers_12, I_empty_12, I_empties_12, I_yard_12, I_waiting_12, I_nights_12, I_used_12, I_sheets_12, I_lastOnes_12, I_guestsWithFleas_12, I_bedsWithFleas_12, I_isCounting_12)) (fun (r_26, (I_law_26, I_there_26, I_sleepers_26, I_empty_26, I_empties_26, I_yard_26, I_waiting_26, I_nights_26, I_used_26, I_sheets_26, I_lastOnes_26, I_guestsWithFleas_26, I_bedsWithFleas_26, I_isCounting_26)) => f_X5_fewest_L34 B_bedsByPlace H_beds H_law H_sights H_isKept H_worths H_sightGuests H_sightBeds D_length D_signs FU (nI 0) r_26 (nI 1) I_law_26 I_there_26 I_sleepers_26 I_empty_26 I_empties_26 I_yard_26 I_waiting_26 I_nights_26 I_used_26 I_sheets_26 I_lastOnes_26 I_guestsWithFleas_26 I_bedsWithFleas_26 I_isCounting_26 (fun x3_L34 x4_L34 x5_L34 I_law_L34 I_there_L34 I_sleepers_L34 I_empty_L34 I_empties_L34 I_yard_L34 I_waiting_L34 I_nights_L34 I_used_L34 I_sheets_L34 I_lastOnes_L34 I_guestsWithFleas_L34 I_bedsWithFleas_L34 I_isCounting_L34 => (if x1 = 0 then some (x3_L34, (I_law_L34, I_there_L34, I_sleepers_L34, I_empty_L34, I_empties_L34, I_yard_L34, I_waiting_L34, I_nights_L34, I_used_L34, I_sheets_L34, I_lastOnes_L34, I_guestsWithFleas_L34, I_bedsWithFleas_L34, I_isCounting_L34)) else some (x4_L34, (I_law_L34, I_there_L34, I_sleepers_L34, I_empty_L34, I_empties_L34, I_yard_L34, I_waiting_L34, I_nights_L34, I_used_L34, I_sheets_L34, I_lastOnes_L34, I_guestsWithFleas_L34, I_bedsWithFleas_L34, I_isCounting_L34)))))) else some (r_12, (I_law_12, I_there_12, I_sleepers_12, I_empty_12, I_empties_12, I_yard_12, I_waiting_12, I_nights_12, I_used_12, I_sheets_12, I_lastOnes_12, I_guestsWithFleas_12, I_bedsWithFleas_12, I_isCounting_12))))))))
set_option maxHeartbeats 4000000 in
set_option maxRecDepth 100000 in
theorem c_X5_fewest (l : Launch) (D : va_G) (cI cZ : ClassId) (aB : Nat → Nat) (rB1 : Nat) (rB2 : Nat) (rB4 : Nat) (rB5 : Nat) (aH : Nat → Nat) (aD : Nat → Nat) (aI : Nat → Nat) (dI : Option Nat) (x1 : Int32) (tB : WbS) (tH : HouS) (tD : DayS) (tI : InnS) (rr : Int32 × InnS) (hf : f_X5_fewest x1 tB tH tD tI = some rr) : CT l D cI cZ yX5_fewest cX5_fewest 7 (some .int) 6 135 0 0 [.ref (aB 0), .int x1] ([bC cI aB (aH 0) rB1 rB2 (aD 0) rB4 rB5 (aI 0) tB, hC cI aH tH, dC cI aD tD, iC cI aI (aH 0) dI tI]) (gPost (some (.int rr.1)) ([bC cI aB (aH 0) rB1 rB2 (aD 0) rB4 rB5 (aI 0) tB, hC cI aH tH, dC cI aD tD, iC cI aI (aH 0) dI rr.2])) := by
  obtain ⟨B_bedsByPlace, rfl⟩ : ∃ z, z = tB := ⟨_, rfl⟩
  obtain ⟨H_beds, H_law, H_sights, H_isKept, H_worths, H_sightGuests, H_sightBeds⟩ := tH
  obtain ⟨D_length, D_signs⟩ := tD
  obtain ⟨I_law, I_there, I_sleepers, I_empty, I_empties, I_yard, I_waiting, I_nights, I_used, I_sheets, I_lastOnes, I_guestsWithFleas, I_bedsWithFleas, I_isCounting⟩ := tI
  rw [f_X5_fewest] at hf
  refine CT.mkI (by decide) (Nat.le_of_ble_eq_true rfl) fun {p} {e} {R} {s} {m} {args} {below} {meth} {c} {A} {H0} {Q} C hA hR hret => ?_
  show G p l e R s m args below meth c 7 D A H0 0 0 Q [bC cI aB (aH 0) rB1 rB2 (aD 0) rB4 rB5 (aI 0) B_bedsByPlace, hC cI aH (H_beds, H_law, H_sights, H_isKept, H_worths, H_sightGuests, H_sightBeds), dC cI aD (D_length, D_signs), iC cI aI (aH 0) dI (I_law, I_there, I_sleepers, I_empty, I_empties, I_yard, I_waiting, I_nights, I_used, I_sheets, I_lastOnes, I_guestsWithFleas, I_bedsWithFleas, I_isCounting)] 0 [(0, .ref (aB 0)), (1, .int x1)] []
  refine gq_iload_n C 1 1 dX5_fewest_0 rfl rfl ?_
  obtain ⟨r_1, hc, hf⟩ := gq_bd hf
  refine gq_callS C hA gm_X5_96 (c_X5_isEither l D cI cZ  x1 _ hc) rfl ⟨Nat.le_trans (Nat.le_of_ble_eq_true rfl) hR.1, Nat.le_trans (Nat.le_of_ble_eq_true rfl) hR.2.1⟩ ⟨Nat.zero_le _, Nat.zero_le _⟩ rfl (Nat.le_of_ble_eq_true rfl) dX5_fewest_1 [] [bC cI aB (aH 0) rB1 rB2 (aD 0) rB4 rB5 (aI 0) B_bedsByPlace, hC cI aH (H_beds, H_law, H_sights, H_isKept, H_worths, H_sightGuests, H_sightBeds), dC cI aD (D_length, D_signs), iC cI aI (aH 0) dI (I_law, I_there, I_sleepers, I_empty, I_empties, I_yard, I_waiting, I_nights, I_used, I_sheets, I_lastOnes, I_guestsWithFleas, I_bedsWithFleas, I_isCounting)] 4 rfl (by decide) rfl rfl rfl [.int r_1] rfl ?_
  refine gq_if_ne C 10 7 dX5_fewest_4 (by decide) rfl (fun h4 => ?_) (fun h4 => ?_)
  · replace hf := gq_ifn h4 hf
    refine gq_aload_n C 0 11 dX5_fewest_10 rfl rfl ?_
    refine gq_iconst C (-1 : Int32) 12 dX5_fewest_11 (by decide) rfl ?_
    obtain ⟨⟨r_12, ⟨I_law_12, I_there_12, I_sleepers_12, I_empty_12, I_empties_12, I_yard_12, I_waiting_12, I_nights_12, I_used_12, I_sheets_12, I_lastOnes_12, I_guestsWithFleas_12, I_bedsWithFleas_12, I_isCounting_12⟩⟩, hc, hf⟩ := gq_bd hf
    refine gq_callV C hA gm_X5_119 (c_X5_liveThrough l D cI cZ aB rB1 rB2 rB4 rB5 aH aD aI dI (-1 : Int32) B_bedsByPlace (H_beds, H_law, H_sights, H_isKept, H_worths, H_sightGuests, H_sightBeds) (D_length, D_signs) (I_law, I_there, I_sleepers, I_empty, I_empties, I_yard, I_waiting, I_nights, I_used, I_sheets, I_lastOnes, I_guestsWithFleas, I_bedsWithFleas, I_isCounting) _ hc) rfl 0 0 rfl rfl rfl ⟨Nat.le_trans (Nat.le_of_ble_eq_true rfl) hR.1, Nat.le_trans (Nat.le_of_ble_eq_true rfl) hR.2.1⟩ ⟨Nat.zero_le _, Nat.zero_le _⟩ rfl (Nat.le_of_ble_eq_true rfl) dX5_fewest_12 [0, 1, 2, 3] [bC cI aB (aH 0) rB1 rB2 (aD 0) rB4 rB5 (aI 0) B_bedsByPlace, hC cI aH (H_beds, H_law, H_sights, H_isKept, H_worths, H_sightGuests, H_sightBeds), dC cI aD (D_length, D_signs), iC cI aI (aH 0) dI (I_law_12, I_there_12, I_sleepers_12, I_empty_12, I_empties_12, I_yard_12, I_waiting_12, I_nights_12, I_used_12, I_sheets_12, I_lastOnes_12, I_guestsWithFleas_12, I_bedsWithFleas_12, I_isCounting_12)] 15 rfl (by decide) rfl rfl rfl [.int r_12] rfl ?_
    refine gq_istore_n C [(2, .int r_12), (0, .ref (aB 0)), (1, .int x1)] 16 dX5_fewest_15 (by decide) rfl rfl ?_
    refine gq_iload_n C 0 17 dX5_fewest_16 rfl rfl ?_
    refine gq_if_eq C 22 20 dX5_fewest_17 (by decide) rfl (fun h17 => ?_) (fun h17 => ?_)
    · replace hf := gq_ifp h17 hf
      refine gq_iconst C (nI 0) 23 dX5_fewest_22 (by decide) rfl ?_
      refine gq_istore_n C [(3, .int (nI 0)), (2, .int r_12), (0, .ref (aB 0)), (1, .int x1)] 24 dX5_fewest_23 (by decide) rfl rfl ?_
      refine gq_aload_n C 2 25 dX5_fewest_24 rfl rfl ?_
      refine gq_iconst C (nI 0) 26 dX5_fewest_25 (by decide) rfl ?_
      obtain ⟨⟨r_26, ⟨I_law_26, I_there_26, I_sleepers_26, I_empty_26, I_empties_26, I_yard_26, I_waiting_26, I_nights_26, I_used_26, I_sheets_26, I_lastOnes_26, I_guestsWithFleas_26, I_bedsWithFleas_26, I_isCounting_26⟩⟩, hc, hf⟩ := gq_bd hf
      refine gq_callV C hA gm_X5_137 (c_X5_sheetsBy l D cI cZ aB rB1 rB2 rB4 rB5 aH aD aI dI (nI 0) B_bedsByPlace (H_beds, H_law, H_sights, H_isKept, H_worths, H_sightGuests, H_sightBeds) (D_length, D_signs) (I_law_12, I_there_12, I_sleepers_12, I_empty_12, I_empties_12, I_yard_12, I_waiting_12, I_nights_12, I_used_12, I_sheets_12, I_lastOnes_12, I_guestsWithFleas_12, I_bedsWithFleas_12, I_isCounting_12) _ hc) rfl 0 0 rfl rfl rfl ⟨Nat.le_trans (Nat.le_of_ble_eq_true rfl) hR.1, Nat.le_trans (Nat.le_of_ble_eq_true rfl) hR.2.1⟩ ⟨Nat.zero_le _, Nat.zero_le _⟩ rfl (Nat.le_of_ble_eq_true rfl) dX5_fewest_26 [0, 1, 2, 3] [bC cI aB (aH 0) rB1 rB2 (aD 0) rB4 rB5 (aI 0) B_bedsByPlace, hC cI aH (H_beds, H_law, H_sights, H_isKept, H_worths, H_sightGuests, H_sightBeds), dC cI aD (D_length, D_signs), iC cI aI (aH 0) dI (I_law_26, I_there_26, I_sleepers_26, I_empty_26, I_empties_26, I_yard_26, I_waiting_26, I_nights_26, I_used_26, I_sheets_26, I_lastOnes_26, I_guestsWithFleas_26, I_bedsWithFleas_26, I_isCounting_26)] 29 rfl (by decide) rfl rfl rfl [.int r_26] rfl ?_
      refine gq_istore C [(4, .int r_26), (3, .int (nI 0)), (2, .int r_12), (0, .ref (aB 0)), (1, .int x1)] 31 dX5_fewest_29 (by decide) rfl rfl ?_
      refine gq_iconst C (nI 1) 32 dX5_fewest_31 (by decide) rfl ?_
      refine gq_istore C [(5, .int (nI 1)), (4, .int r_26), (3, .int (nI 0)), (2, .int r_12), (0, .ref (aB 0)), (1, .int x1)] 34 dX5_fewest_32 (by decide) rfl rfl ?_
      have L34 : ∀ (kL : Int32 → Int32 → Int32 → Int32 → Int32 → (Nat → Int32) → (Nat → Int32) → Int32 → (Nat → Int32) → Int32 → (Nat → Int32) → (Nat → Int32) → (Nat → Int32) → (Nat → Int32) → Int32 → Int32 → Int32 → Option (Int32 × InnS)), (∀ (x3_L34 : Int32) (x4_L34 : Int32) (x5_L34 : Int32) (I_law_L34 : Int32) (I_there_L34 : Int32) (I_sleepers_L34 : (Nat → Int32)) (I_empty_L34 : (Nat → Int32)) (I_empties_L34 : Int32) (I_yard_L34 : (Nat → Int32)) (I_waiting_L34 : Int32) (I_nights_L34 : (Nat → Int32)) (I_used_L34 : (Nat → Int32)) (I_sheets_L34 : (Nat → Int32)) (I_lastOnes_L34 : (Nat → Int32)) (I_guestsWithFleas_L34 : Int32) (I_bedsWithFleas_L34 : Int32) (I_isCounting_L34 : Int32), kL x3_L34 x4_L34 x5_L34 I_law_L34 I_there_L34 I_sleepers_L34 I_empty_L34 I_empties_L34 I_yard_L34 I_waiting_L34 I_nights_L34 I_used_L34 I_sheets_L34 I_lastOnes_L34 I_guestsWithFleas_L34 I_bedsWithFleas_L34 I_isCounting_L34 = some rr → G p l e R s m args below meth c 7 D A H0 0 0 Q [bC cI aB (aH 0) rB1 rB2 (aD 0) rB4 rB5 (aI 0) B_bedsByPlace, hC cI aH (H_beds, H_law, H_sights, H_isKept, H_worths, H_sightGuests, H_sightBeds), dC cI aD (D_length, D_signs), iC cI aI (aH 0) dI (I_law_L34, I_there_L34, I_sleepers_L34, I_empty_L34, I_empties_L34, I_yard_L34, I_waiting_L34, I_nights_L34, I_used_L34, I_sheets_L34, I_lastOnes_L34, I_guestsWithFleas_L34, I_bedsWithFleas_L34, I_isCounting_L34)] 68 [(5, .int x5_L34), (4, .int x4_L34), (3, .int x3_L34), (2, .int r_12), (0, .ref (aB 0)), (1, .int x1)] []) → ∀ (n : Nat) (x3_L34 : Int32) (x4_L34 : Int32) (x5_L34 : Int32) (I_law_L34 : Int32) (I_there_L34 : Int32) (I_sleepers_L34 : (Nat → Int32)) (I_empty_L34 : (Nat → Int32)) (I_empties_L34 : Int32) (I_yard_L34 : (Nat → Int32)) (I_waiting_L34 : Int32) (I_nights_L34 : (Nat → Int32)) (I_used_L34 : (Nat → Int32)) (I_sheets_L34 : (Nat → Int32)) (I_lastOnes_L34 : (Nat → Int32)) (I_guestsWithFleas_L34 : Int32) (I_bedsWithFleas_L34 : Int32) (I_isCounting_L34 : Int32), f_X5_fewest_L34 B_bedsByPlace H_beds H_law H_sights H_isKept H_worths H_sightGuests H_sightBeds D_length D_signs n x3_L34 x4_L34 x5_L34 I_law_L34 I_there_L34 I_sleepers_L34 I_empty_L34 I_empties_L34 I_yard_L34 I_waiting_L34 I_nights_L34 I_used_L34 I_sheets_L34 I_lastOnes_L34 I_guestsWithFleas_L34 I_bedsWithFleas_L34 I_isCounting_L34 kL = some rr → G p l e R s m args below meth c 7 D A H0 0 0 Q [bC cI aB (aH 0) rB1 rB2 (aD 0) rB4 rB5 (aI 0) B_bedsByPlace, hC cI aH (H_beds, H_law, H_sights, H_isKept, H_worths, H_sightGuests, H_sightBeds), dC cI aD (D_length, D_signs), iC cI aI (aH 0) dI (I_law_L34, I_there_L34, I_sleepers_L34, I_empty_L34, I_empties_L34, I_yard_L34, I_waiting_L34, I_nights_L34, I_used_L34, I_sheets_L34, I_lastOnes_L34, I_guestsWithFleas_L34, I_bedsWithFleas_L34, I_isCounting_L34)] 34 [(5, .int x5_L34), (4, .int x4_L34), (3, .int x3_L34), (2, .int r_12), (0, .ref (aB 0)), (1, .int x1)] [] := by
        intro kL hkL34 n
        induction n with
        | zero =>
          intro x3_L34 x4_L34 x5_L34 I_law_L34 I_there_L34 I_sleepers_L34 I_empty_L34 I_empties_L34 I_yard_L34 I_waiting_L34 I_nights_L34 I_used_L34 I_sheets_L34 I_lastOnes_L34 I_guestsWithFleas_L34 I_bedsWithFleas_L34 I_isCounting_L34 hf
          rw [f_X5_fewest_L34] at hf
          cases hf
        | succ n ihL34 =>
          intro x3_L34 x4_L34 x5_L34 I_law_L34 I_there_L34 I_sleepers_L34 I_empty_L34 I_empties_L34 I_yard_L34 I_waiting_L34 I_nights_L34 I_used_L34 I_sheets_L34 I_lastOnes_L34 I_guestsWithFleas_L34 I_bedsWithFleas_L34 I_isCounting_L34 hf
          rw [f_X5_fewest_L34] at hf
          refine gq_iload C 0 36 dX5_fewest_34 rfl rfl ?_
          refine gq_iconst C (nI 4) 37 dX5_fewest_36 (by decide) rfl ?_
          refine gq_icmp_ge C 68 40 dX5_fewest_37 (by decide) rfl (fun h37 => ?_) (fun h37 => ?_)
          · replace hf := gq_ifp h37 hf
            exact hkL34 _ _ _ _ _ _ _ _ _ _ _ _ _ _ _ _ _ hf
          · replace hf := gq_ifn h37 hf
            refine gq_aload_n C 4 41 dX5_fewest_40 rfl rfl ?_
            refine gq_iload C 0 43 dX5_fewest_41 rfl rfl ?_
            obtain ⟨⟨r_43, ⟨I_law_43, I_there_43, I_sleepers_43, I_empty_43, I_empties_43, I_yard_43, I_waiting_43, I_nights_43, I_used_43, I_sheets_43, I_lastOnes_43, I_guestsWithFleas_43, I_bedsWithFleas_43, I_isCounting_43⟩⟩, hc, hf⟩ := gq_bd hf
            refine gq_callV C hA gm_X5_137 (c_X5_sheetsBy l D cI cZ aB rB1 rB2 rB4 rB5 aH aD aI dI x5_L34 B_bedsByPlace (H_beds, H_law, H_sights, H_isKept, H_worths, H_sightGuests, H_sightBeds) (D_length, D_signs) (I_law_L34, I_there_L34, I_sleepers_L34, I_empty_L34, I_empties_L34, I_yard_L34, I_waiting_L34, I_nights_L34, I_used_L34, I_sheets_L34, I_lastOnes_L34, I_guestsWithFleas_L34, I_bedsWithFleas_L34, I_isCounting_L34) _ hc) rfl 0 0 rfl rfl rfl ⟨Nat.le_trans (Nat.le_of_ble_eq_true rfl) hR.1, Nat.le_trans (Nat.le_of_ble_eq_true rfl) hR.2.1⟩ ⟨Nat.zero_le _, Nat.zero_le _⟩ rfl (Nat.le_of_ble_eq_true rfl) dX5_fewest_43 [0, 1, 2, 3] [bC cI aB (aH 0) rB1 rB2 (aD 0) rB4 rB5 (aI 0) B_bedsByPlace, hC cI aH (H_beds, H_law, H_sights, H_isKept, H_worths, H_sightGuests, H_sightBeds), dC cI aD (D_length, D_signs), iC cI aI (aH 0) dI (I_law_43, I_there_43, I_sleepers_43, I_empty_43, I_empties_43, I_yard_43, I_waiting_43, I_nights_43, I_used_43, I_sheets_43, I_lastOnes_43, I_guestsWithFleas_43, I_bedsWithFleas_43, I_isCounting_43)] 46 rfl (by decide) rfl rfl rfl [.int r_43] rfl ?_
            refine gq_istore C [(6, .int r_43), (5, .int x5_L34), (4, .int x4_L34), (3, .int x3_L34), (2, .int r_12), (0, .ref (aB 0)), (1, .int x1)] 48 dX5_fewest_46 (by decide) rfl rfl ?_
            refine gq_iload C 0 50 dX5_fewest_48 rfl rfl ?_
            refine gq_iload C 2 52 dX5_fewest_50 rfl rfl ?_
            refine gq_icmp_ge C 62 55 dX5_fewest_52 (by decide) rfl (fun h52 => ?_) (fun h52 => ?_)
            · replace hf := gq_ifp h52 hf
              refine gq_iinc C 1 [(5, .int (x5_L34 + (nI 1))), (6, .int r_43), (4, .int x4_L34), (3, .int x3_L34), (2, .int r_12), (0, .ref (aB 0)), (1, .int x1)] 65 dX5_fewest_62 rfl rfl (by decide) rfl rfl ?_
              refine gq_goto C 34 dX5_fewest_65 (by decide) ?_
              refine gq_lv [0, 2, 3, 4, 5, 6] rfl ?_
              exact ihL34 _ _ _ _ _ _ _ _ _ _ _ _ _ _ _ _ _ hf
            · replace hf := gq_ifn h52 hf
              refine gq_iload C 1 57 dX5_fewest_55 rfl rfl ?_
              refine gq_istore_n C [(3, .int x5_L34), (6, .int r_43), (5, .int x5_L34), (4, .int x4_L34), (2, .int r_12), (0, .ref (aB 0)), (1, .int x1)] 58 dX5_fewest_57 (by decide) rfl rfl ?_
              refine gq_iload C 1 60 dX5_fewest_58 rfl rfl ?_
              refine gq_istore C [(4, .int r_43), (3, .int x5_L34), (6, .int r_43), (5, .int x5_L34), (2, .int r_12), (0, .ref (aB 0)), (1, .int x1)] 62 dX5_fewest_60 (by decide) rfl rfl ?_
              refine gq_iinc C 3 [(5, .int (x5_L34 + (nI 1))), (4, .int r_43), (3, .int x5_L34), (6, .int r_43), (2, .int r_12), (0, .ref (aB 0)), (1, .int x1)] 65 dX5_fewest_62 rfl rfl (by decide) rfl rfl ?_
              refine gq_goto C 34 dX5_fewest_65 (by decide) ?_
              refine gq_lv [0, 1, 2, 4, 5, 6] rfl ?_
              exact ihL34 _ _ _ _ _ _ _ _ _ _ _ _ _ _ _ _ _ hf
      refine L34 _ (fun x3_L34 x4_L34 x5_L34 I_law_L34 I_there_L34 I_sleepers_L34 I_empty_L34 I_empties_L34 I_yard_L34 I_waiting_L34 I_nights_L34 I_used_L34 I_sheets_L34 I_lastOnes_L34 I_guestsWithFleas_L34 I_bedsWithFleas_L34 I_isCounting_L34 hf => ?_) _ _ _ _ _ _ _ _ _ _ _ _ _ _ _ _ _ _ hf
      refine gq_iload_n C 5 69 dX5_fewest_68 rfl rfl ?_
      refine gq_if_ne C 76 72 dX5_fewest_69 (by decide) rfl (fun h69 => ?_) (fun h69 => ?_)
      · replace hf := gq_ifn h69 hf
        refine gq_iload C 1 78 dX5_fewest_76 rfl rfl ?_
        obtain rfl := gq_lf hf
        exact hret dX5_fewest_78 gPost.rf
      · replace hf := gq_ifp h69 hf
        refine gq_iload_n C 2 73 dX5_fewest_72 rfl rfl ?_
        refine gq_goto C 78 dX5_fewest_73 (by decide) ?_
        obtain rfl := gq_lf hf
        exact hret dX5_fewest_78 gPost.rf
    · replace hf := gq_ifn h17 hf
      refine gq_iload_n C 0 21 dX5_fewest_20 rfl rfl ?_
      obtain rfl := gq_lf hf
      exact hret dX5_fewest_21 gPost.rf
  · replace hf := gq_ifp h4 hf
    refine gq_bipush C (-2 : Int32) 9 dX5_fewest_7 (by decide) rfl ?_
    obtain rfl := gq_lf hf
    exact hret dX5_fewest_9 gPost.rf

def f_X5_when_L58 (c_x2 : Int32) (c_B_bedsByPlace : (Nat → Int32)) (c_D_length : Int32) : Nat → Int32 → Int32 → Int32 → (Int32 → Int32 → Int32 → Option (Int32 × WbS × InnS × InnS)) → Option (Int32 × WbS × InnS × InnS)
  | 0, _, _, _, _ => none
  | nL58 + 1, x5_L58, x6_L58, x7_L58, kL58 => (if c_D_length < x7_L58 then kL58 x5_L58 x6_L58 x7_L58 else (Option.bind (f_X5_bedComingAt x7_L58 c_B_bedsByPlace) (fun r_73 => (if r_73 = c_x2 then (if x5_L58 = 0 then f_X5_when_L58 c_x2 c_B_bedsByPlace c_D_length nL58 (x5_L58 + (nI 1)) x7_L58 (x7_L58 + (nI 1)) kL58 else f_X5_when_L58 c_x2 c_B_bedsByPlace c_D_length nL58 (x5_L58 + (nI 1)) x6_L58 (x7_L58 + (nI 1)) kL58) else f_X5_when_L58 c_x2 c_B_bedsByPlace c_D_length nL58 x5_L58 x6_L58 (x7_L58 + (nI 1)) kL58))))
def f_X5_when : Int32 → Int32 → Int32 → WbS → HouS → DayS → InnS → InnS → Option (Int32 × WbS × InnS × InnS)
  | x1, x2, x3, B_bedsByPlace, (H_beds, H_law, H_sights, H_isKept, H_worths, H_sightGuests, H_sightBeds), (D_length, D_signs), (I_law, I_there, I_sleepers, I_empty, I_empties, I_yard, I_waiting, I_nights, I_used, I_sheets, I_lastOnes, I_guestsWithFleas, I_bedsWithFleas, I_isCounting), (J_law, J_there, J_sleepers, J_empty, J_empties, J_yard, J_waiting, J_nights, J_used, J_sheets, J_lastOnes, J_guestsWithFleas, J_bedsWithFleas, J_isCounting) => (Option.bind (f_X5_isGuest x1) (fun r_1 => (if r_1 = 0 then some ((-1 : Int32), B_bedsByPlace, (I_law, I_there, I_sleepers, I_empty, I_empties, I_yard, I_waiting, I_nights, I_used, I_sheets, I_lastOnes, I_guestsWithFleas, I_bedsWithFleas, I_isCounting), (J_law, J_there, J_sleepers, J_empty, J_empties, J_yard, J_waiting, J_nights, J_used, J_sheets, J_lastOnes, J_guestsWithFleas, J_bedsWithFleas, J_isCounting)) else (Option.bind (f_X5_isBed x2 B_bedsByPlace (H_beds, H_law, H_sights, H_isKept, H_worths, H_sightGuests, H_sightBeds)) (fun r_9 => (if r_9 = 0 then some ((-1 : Int32), B_bedsByPlace, (I_law, I_there, I_sleepers, I_empty, I_empties, I_yard, I_waiting, I_nights, I_used, I_sheets, I_lastOnes, I_guestsWithFleas, I_bedsWithFleas, I_isCounting), (J_law, J_there, J_sleepers, J_empty, J_empties, J_yard, J_waiting, J_nights, J_used, J_sheets, J_lastOnes, J_guestsWithFleas, J_bedsWithFleas, J_isCounting)) else (Option.bind (f_X0_names x1 (D_length, D_signs)) (fun r_20 => (if r_20 = 0 then (Option.bind (f_X5_refusalOfComing x3 B_bedsByPlace (H_beds, H_law, H_sights, H_isKept, H_worths, H_sightGuests, H_sightBeds) (D_length, D_signs) (I_law, I_there, I_sleepers, I_empty, I_empties, I_yard, I_waiting, I_nights, I_used, I_sheets, I_lastOnes, I_guestsWithFleas, I_bedsWithFleas, I_isCounting)) (fun (r_30, (I_law_30, I_there_30, I_sleepers_30, I_empty_30, I_empties_30, I_yard_30, I_waiting_30, I_nights_30, I_used_30, I_sheets_30, I_lastOnes_30, I_guestsWithFleas_30, I_bedsWithFleas_30, I_isCounting_30)) => (if r_30 = 0 then (Option.bind (f_X5_tryAllPlaces x1 B_bedsByPlace (H_beds, H_law, H_sights, H_isKept, H_worths, H_sightGuests, H_sightBeds) (D_length, D_signs) (I_law_30, I_there_30, I_sleepers_30, I_empty_30, I_empties_30, I_yard_30, I_waiting_30, I_nights_30, I_used_30, I_sheets_30, I_lastOnes_30, I_guestsWithFleas_30, I_bedsWithFleas_30, I_isCounting_30) (J_law, J_there, J_sleepers, J_empty, J_empties, J_yard, J_waiting, J_nights, J_used, J_sheets, J_lastOnes, J_guestsWithFleas, J_bedsWithFleas, J_isCounting)) (fun (B_bedsByPlace_45, (I_law_45, I_there_45, I_sleepers_45, I_empty_45, I_empties_45, I_yard_45, I_waiting_45, I_nights_45, I_used_45, I_sheets_45, I_lastOnes_45, I_guestsWithFleas_45, I_bedsWithFleas_45, I_isCounting_45), (J_law_45, J_there_45, J_sleepers_45, J_empty_45, J_empties_45, J_yard_45, J_waiting_45, J_nights_45, J_used_45, J_sheets_45, J_lastOnes_45, J_guestsWithFleas_45, J_bedsWithFleas_45, J_isCounting_45)) => f_X5_when_L58 x2 B_bedsByPlace_45 D_length FU (nI 0) (-6 : Int32) (nI 0) (fun x5_L58 x6_L58 x7_L58 => (if x3 = 0 then some (x5_L58, B_bedsByPlace_45, (I_law_45, I_there_45, I_sleepers_45, I_empty_45, I_empties_45, I_yard_45, I_waiting_45, I_nights_45, I_used_45, I_sheets_45, I_lastOnes_45, I_guestsWithFleas_45, I_bedsWithFleas_45, I_isCounting_45), (J_law_45, J_there_45, J_sleepers_45, J_empty_45, J_empties_45, J_yard_45, J_waiting_45, J_nights_45, J_used_45, J_sheets_45, J_lastOnes_45, J_guestsWithFleas_45, J_bedsWithFleas_45, J_isCounting_45)) else some (x6_L58, B_bedsByPlace_45, (I_law_45, I_there_45, I_sleepers_45, I_empty_45, I_empties_45, I_yard_45, I_waiting_45, I_nights_45, I_used_45, I_sheets_45, I_lastOnes_45, I_guestsWithFleas_45, I_bedsWithFleas_45, I_isCounting_45), (J_law_45, J_there_45, J_sleepers_45, J_empty_45, J_empties_45, J_yard_45, J_waiting_45, J_nights_45, J_used_45, J_sheets_45, J_lastOnes_45, J_guestsWithFleas_45, J_bedsWithFleas_45, J_isCounting_45)))))) else some (r_30, B_bedsByPlace, (I_law_30, I_there_30, I_sleepers_30, I_empty_30, I_empties_30, I_yard_30, I_waiting_30, I_nights_30, I_used_30, I_sheets_30, I_lastOnes_30, I_guestsWithFleas_30, I_bedsWithFleas_30, I_isCounting_30), (J_law, J_there, J_sleepers, J_empty, J_empties, J_yard, J_waiting, J_nights, J_used, J_sheets, J_lastOnes, J_guestsWithFleas, J_bedsWithFleas, J_isCounting))))) else some ((-1 : Int32), B_bedsByPlace, (I_law, I_there, I_sleepers, I_empty, I_empties, I_yard, I_waiting, I_nights, I_used, I_sheets, I_lastOnes, I_guestsWithFleas, I_bedsWithFleas, I_isCounting), (J_law, J_there, J_sleepers, J_empty, J_empties, J_yard, J_waiting, J_nights, J_used, J_sheets, J_lastOnes, J_guestsWithFleas, J_bedsWithFleas, J_isCounting)))))))))))
set_option maxHeartbeats 4000000 in
set_option maxRecDepth 100000 in
theorem c_X5_when (l : Launch) (D : va_G) (cI cZ : ClassId) (aB : Nat → Nat) (rB1 : Nat) (rB2 : Nat) (rB4 : Nat) (rB5 : Nat) (aH : Nat → Nat) (aD : Nat → Nat) (aI : Nat → Nat) (aJ : Nat → Nat) (dJ : Option Nat) (x1 : Int32) (x2 : Int32) (x3 : Int32) (tB : WbS) (tH : HouS) (tD : DayS) (tI : InnS) (tJ : InnS) (rr : Int32 × WbS × InnS × InnS) (hf : f_X5_when x1 x2 x3 tB tH tD tI tJ = some rr) : CT l D cI cZ yX5_when cX5_when 8 (some .int) 7 157 0 0 [.ref (aB 0), .int x1, .int x2, .int x3] ([bC cI aB (aH 0) rB1 rB2 (aD 0) rB4 rB5 (aI 0) tB, hC cI aH tH, dC cI aD tD, iC cI aI (aH 0) (some (aJ 0)) tI, iC cI aJ (aH 0) dJ tJ]) (gPost (some (.int rr.1)) ([bC cI aB (aH 0) rB1 rB2 (aD 0) rB4 rB5 (aI 0) rr.2.1, hC cI aH tH, dC cI aD tD, iC cI aI (aH 0) (some (aJ 0)) rr.2.2.1, iC cI aJ (aH 0) dJ rr.2.2.2])) := by
  obtain ⟨B_bedsByPlace, rfl⟩ : ∃ z, z = tB := ⟨_, rfl⟩
  obtain ⟨H_beds, H_law, H_sights, H_isKept, H_worths, H_sightGuests, H_sightBeds⟩ := tH
  obtain ⟨D_length, D_signs⟩ := tD
  obtain ⟨I_law, I_there, I_sleepers, I_empty, I_empties, I_yard, I_waiting, I_nights, I_used, I_sheets, I_lastOnes, I_guestsWithFleas, I_bedsWithFleas, I_isCounting⟩ := tI
  obtain ⟨J_law, J_there, J_sleepers, J_empty, J_empties, J_yard, J_waiting, J_nights, J_used, J_sheets, J_lastOnes, J_guestsWithFleas, J_bedsWithFleas, J_isCounting⟩ := tJ
  rw [f_X5_when] at hf
  refine CT.mkI (by decide) (Nat.le_of_ble_eq_true rfl) fun {p} {e} {R} {s} {m} {args} {below} {meth} {c} {A} {H0} {Q} C hA hR hret => ?_
  show G p l e R s m args below meth c 8 D A H0 0 0 Q [bC cI aB (aH 0) rB1 rB2 (aD 0) rB4 rB5 (aI 0) B_bedsByPlace, hC cI aH (H_beds, H_law, H_sights, H_isKept, H_worths, H_sightGuests, H_sightBeds), dC cI aD (D_length, D_signs), iC cI aI (aH 0) (some (aJ 0)) (I_law, I_there, I_sleepers, I_empty, I_empties, I_yard, I_waiting, I_nights, I_used, I_sheets, I_lastOnes, I_guestsWithFleas, I_bedsWithFleas, I_isCounting), iC cI aJ (aH 0) dJ (J_law, J_there, J_sleepers, J_empty, J_empties, J_yard, J_waiting, J_nights, J_used, J_sheets, J_lastOnes, J_guestsWithFleas, J_bedsWithFleas, J_isCounting)] 0 [(0, .ref (aB 0)), (1, .int x1), (2, .int x2), (3, .int x3)] []
  refine gq_iload_n C 1 1 dX5_when_0 rfl rfl ?_
  obtain ⟨r_1, hc, hf⟩ := gq_bd hf
  refine gq_callS C hA gm_X5_64 (c_X5_isGuest l D cI cZ  x1 _ hc) rfl ⟨Nat.le_trans (Nat.le_of_ble_eq_true rfl) hR.1, Nat.le_trans (Nat.le_of_ble_eq_true rfl) hR.2.1⟩ ⟨Nat.zero_le _, Nat.zero_le _⟩ rfl (Nat.le_of_ble_eq_true rfl) dX5_when_1 [] [bC cI aB (aH 0) rB1 rB2 (aD 0) rB4 rB5 (aI 0) B_bedsByPlace, hC cI aH (H_beds, H_law, H_sights, H_isKept, H_worths, H_sightGuests, H_sightBeds), dC cI aD (D_length, D_signs), iC cI aI (aH 0) (some (aJ 0)) (I_law, I_there, I_sleepers, I_empty, I_empties, I_yard, I_waiting, I_nights, I_used, I_sheets, I_lastOnes, I_guestsWithFleas, I_bedsWithFleas, I_isCounting), iC cI aJ (aH 0) dJ (J_law, J_there, J_sleepers, J_empty, J_empties, J_yard, J_waiting, J_nights, J_used, J_sheets, J_lastOnes, J_guestsWithFleas, J_bedsWithFleas, J_isCounting)] 4 rfl (by decide) rfl rfl rfl [.int r_1] rfl ?_
  refine gq_if_eq C 26 7 dX5_when_4 (by decide) rfl (fun h4 => ?_) (fun h4 => ?_)
  · replace hf := gq_ifp h4 hf
    refine gq_iconst C (-1 : Int32) 27 dX5_when_26 (by decide) rfl ?_
    obtain rfl := gq_lf hf
    exact hret dX5_when_27 gPost.rf
  · replace hf := gq_ifn h4 hf
    refine gq_aload_n C 0 8 dX5_when_7 rfl rfl ?_
    refine gq_iload_n C 2 9 dX5_when_8 rfl rfl ?_
    obtain ⟨r_9, hc, hf⟩ := gq_bd hf
    refine gq_callV C hA gm_X5_68 (c_X5_isBed l D cI cZ aB rB1 rB2 (aD 0) rB4 rB5 (aI 0) aH x2 B_bedsByPlace (H_beds, H_law, H_sights, H_isKept, H_worths, H_sightGuests, H_sightBeds) _ hc) rfl 0 0 rfl rfl rfl ⟨Nat.le_trans (Nat.le_of_ble_eq_true rfl) hR.1, Nat.le_trans (Nat.le_of_ble_eq_true rfl) hR.2.1⟩ ⟨Nat.zero_le _, Nat.zero_le _⟩ rfl (Nat.le_of_ble_eq_true rfl) dX5_when_9 [0, 1] [bC cI aB (aH 0) rB1 rB2 (aD 0) rB4 rB5 (aI 0) B_bedsByPlace, hC cI aH (H_beds, H_law, H_sights, H_isKept, H_worths, H_sightGuests, H_sightBeds), dC cI aD (D_length, D_signs), iC cI aI (aH 0) (some (aJ 0)) (I_law, I_there, I_sleepers, I_empty, I_empties, I_yard, I_waiting, I_nights, I_used, I_sheets, I_lastOnes, I_guestsWithFleas, I_bedsWithFleas, I_isCounting), iC cI aJ (aH 0) dJ (J_law, J_there, J_sleepers, J_empty, J_empties, J_yard, J_waiting, J_nights, J_used, J_sheets, J_lastOnes, J_guestsWithFleas, J_bedsWithFleas, J_isCounting)] 12 rfl (by decide) rfl rfl rfl [.int r_9] rfl ?_
    refine gq_if_eq C 26 15 dX5_when_12 (by decide) rfl (fun h12 => ?_) (fun h12 => ?_)
    · replace hf := gq_ifp h12 hf
      refine gq_iconst C (-1 : Int32) 27 dX5_when_26 (by decide) rfl ?_
      obtain rfl := gq_lf hf
      exact hret dX5_when_27 gPost.rf
    · replace hf := gq_ifn h12 hf
      refine gq_aload_n C 0 16 dX5_when_15 rfl rfl ?_
      refine gq_get C fo_X5_3 fw_X5_25 0 0 19 rfl rfl rfl dX5_when_16 rfl ?_
      refine gq_iload_n C 1 20 dX5_when_19 rfl rfl ?_
      obtain ⟨r_20, hc, hf⟩ := gq_bd hf
      refine gq_callN C hA gm_X5_140 (c_X0_names l D cI cZ aD x1 (D_length, D_signs) _ hc) rfl 2 0 rfl rfl rfl ⟨Nat.le_trans (Nat.le_of_ble_eq_true rfl) hR.1, Nat.le_trans (Nat.le_of_ble_eq_true rfl) hR.2.1⟩ ⟨Nat.zero_le _, Nat.zero_le _⟩ rfl (Nat.le_of_ble_eq_true rfl) dX5_when_20 [2] [bC cI aB (aH 0) rB1 rB2 (aD 0) rB4 rB5 (aI 0) B_bedsByPlace, hC cI aH (H_beds, H_law, H_sights, H_isKept, H_worths, H_sightGuests, H_sightBeds), dC cI aD (D_length, D_signs), iC cI aI (aH 0) (some (aJ 0)) (I_law, I_there, I_sleepers, I_empty, I_empties, I_yard, I_waiting, I_nights, I_used, I_sheets, I_lastOnes, I_guestsWithFleas, I_bedsWithFleas, I_isCounting), iC cI aJ (aH 0) dJ (J_law, J_there, J_sleepers, J_empty, J_empties, J_yard, J_waiting, J_nights, J_used, J_sheets, J_lastOnes, J_guestsWithFleas, J_bedsWithFleas, J_isCounting)] 23 rfl (by decide) rfl rfl rfl [.int r_20] rfl ?_
      refine gq_if_eq C 28 26 dX5_when_23 (by decide) rfl (fun h23 => ?_) (fun h23 => ?_)
      · replace hf := gq_ifp h23 hf
        refine gq_aload_n C 0 29 dX5_when_28 rfl rfl ?_
        refine gq_iload_n C 3 30 dX5_when_29 rfl rfl ?_
        obtain ⟨⟨r_30, ⟨I_law_30, I_there_30, I_sleepers_30, I_empty_30, I_empties_30, I_yard_30, I_waiting_30, I_nights_30, I_used_30, I_sheets_30, I_lastOnes_30, I_guestsWithFleas_30, I_bedsWithFleas_30, I_isCounting_30⟩⟩, hc, hf⟩ := gq_bd hf
        refine gq_callV C hA gm_X5_143 (c_X5_refusalOfComing l D cI cZ aB rB1 rB2 rB4 rB5 aH aD aI (some (aJ 0)) x3 B_bedsByPlace (H_beds, H_law, H_sights, H_isKept, H_worths, H_sightGuests, H_sightBeds) (D_length, D_signs) (I_law, I_there, I_sleepers, I_empty, I_empties, I_yard, I_waiting, I_nights, I_used, I_sheets, I_lastOnes, I_guestsWithFleas, I_bedsWithFleas, I_isCounting) _ hc) rfl 0 0 rfl rfl rfl ⟨Nat.le_trans (Nat.le_of_ble_eq_true rfl) hR.1, Nat.le_trans (Nat.le_of_ble_eq_true rfl) hR.2.1⟩ ⟨Nat.zero_le _, Nat.zero_le _⟩ rfl (Nat.le_of_ble_eq_true rfl) dX5_when_30 [0, 1, 2, 3] [bC cI aB (aH 0) rB1 rB2 (aD 0) rB4 rB5 (aI 0) B_bedsByPlace, hC cI aH (H_beds, H_law, H_sights, H_isKept, H_worths, H_sightGuests, H_sightBeds), dC cI aD (D_length, D_signs), iC cI aI (aH 0) (some (aJ 0)) (I_law_30, I_there_30, I_sleepers_30, I_empty_30, I_empties_30, I_yard_30, I_waiting_30, I_nights_30, I_used_30, I_sheets_30, I_lastOnes_30, I_guestsWithFleas_30, I_bedsWithFleas_30, I_isCounting_30), iC cI aJ (aH 0) dJ (J_law, J_there, J_sleepers, J_empty, J_empties, J_yard, J_waiting, J_nights, J_used, J_sheets, J_lastOnes, J_guestsWithFleas, J_bedsWithFleas, J_isCounting)] 33 rfl (by decide) rfl rfl rfl [.int r_30] rfl ?_
        refine gq_istore C [(4, .int r_30), (0, .ref (aB 0)), (1, .int x1), (2, .int x2), (3, .int x3)] 35 dX5_when_33 (by decide) rfl rfl ?_
        refine gq_iload C 0 37 dX5_when_35 rfl rfl ?_
        refine gq_if_eq C 43 40 dX5_when_37 (by decide) rfl (fun h37 => ?_) (fun h37 => ?_)
        · replace hf := gq_ifp h37 hf
          refine gq_aload_n C 1 44 dX5_when_43 rfl rfl ?_
          refine gq_iload_n C 2 45 dX5_when_44 rfl rfl ?_
          obtain ⟨⟨B_bedsByPlace_45, ⟨I_law_45, I_there_45, I_sleepers_45, I_empty_45, I_empties_45, I_yard_45, I_waiting_45, I_nights_45, I_used_45, I_sheets_45, I_lastOnes_45, I_guestsWithFleas_45, I_bedsWithFleas_45, I_isCounting_45⟩, ⟨J_law_45, J_there_45, J_sleepers_45, J_empty_45, J_empties_45, J_yard_45, J_waiting_45, J_nights_45, J_used_45, J_sheets_45, J_lastOnes_45, J_guestsWithFleas_45, J_bedsWithFleas_45, J_isCounting_45⟩⟩, hc, hf⟩ := gq_bd hf
          refine gq_callV C hA gm_X5_146 (c_X5_tryAllPlaces l D cI cZ aB rB1 rB2 rB4 rB5 aH aD aI aJ dJ x1 B_bedsByPlace (H_beds, H_law, H_sights, H_isKept, H_worths, H_sightGuests, H_sightBeds) (D_length, D_signs) (I_law_30, I_there_30, I_sleepers_30, I_empty_30, I_empties_30, I_yard_30, I_waiting_30, I_nights_30, I_used_30, I_sheets_30, I_lastOnes_30, I_guestsWithFleas_30, I_bedsWithFleas_30, I_isCounting_30) (J_law, J_there, J_sleepers, J_empty, J_empties, J_yard, J_waiting, J_nights, J_used, J_sheets, J_lastOnes, J_guestsWithFleas, J_bedsWithFleas, J_isCounting) _ hc) rfl 0 0 rfl rfl rfl ⟨Nat.le_trans (Nat.le_of_ble_eq_true rfl) hR.1, Nat.le_trans (Nat.le_of_ble_eq_true rfl) hR.2.1⟩ ⟨Nat.zero_le _, Nat.zero_le _⟩ rfl (Nat.le_of_ble_eq_true rfl) dX5_when_45 [0, 1, 2, 3, 4] [bC cI aB (aH 0) rB1 rB2 (aD 0) rB4 rB5 (aI 0) B_bedsByPlace_45, hC cI aH (H_beds, H_law, H_sights, H_isKept, H_worths, H_sightGuests, H_sightBeds), dC cI aD (D_length, D_signs), iC cI aI (aH 0) (some (aJ 0)) (I_law_45, I_there_45, I_sleepers_45, I_empty_45, I_empties_45, I_yard_45, I_waiting_45, I_nights_45, I_used_45, I_sheets_45, I_lastOnes_45, I_guestsWithFleas_45, I_bedsWithFleas_45, I_isCounting_45), iC cI aJ (aH 0) dJ (J_law_45, J_there_45, J_sleepers_45, J_empty_45, J_empties_45, J_yard_45, J_waiting_45, J_nights_45, J_used_45, J_sheets_45, J_lastOnes_45, J_guestsWithFleas_45, J_bedsWithFleas_45, J_isCounting_45)] 48 rfl (by decide) rfl rfl rfl [] rfl ?_
          refine gq_iconst C (nI 0) 49 dX5_when_48 (by decide) rfl ?_
          refine gq_istore C [(5, .int (nI 0)), (4, .int r_30), (0, .ref (aB 0)), (1, .int x1), (2, .int x2), (3, .int x3)] 51 dX5_when_49 (by decide) rfl rfl ?_
          refine gq_bipush C (-6 : Int32) 53 dX5_when_51 (by decide) rfl ?_
          refine gq_istore C [(6, .int (-6 : Int32)), (5, .int (nI 0)), (4, .int r_30), (0, .ref (aB 0)), (1, .int x1), (2, .int x2), (3, .int x3)] 55 dX5_when_53 (by decide) rfl rfl ?_
          refine gq_iconst C (nI 0) 56 dX5_when_55 (by decide) rfl ?_
          refine gq_istore C [(7, .int (nI 0)), (6, .int (-6 : Int32)), (5, .int (nI 0)), (4, .int r_30), (0, .ref (aB 0)), (1, .int x1), (2, .int x2), (3, .int x3)] 58 dX5_when_56 (by decide) rfl rfl ?_
          have L58 : ∀ (kL : Int32 → Int32 → Int32 → Option (Int32 × WbS × InnS × InnS)), (∀ (x5_L58 : Int32) (x6_L58 : Int32) (x7_L58 : Int32), kL x5_L58 x6_L58 x7_L58 = some rr → G p l e R s m args below meth c 8 D A H0 0 0 Q [bC cI aB (aH 0) rB1 rB2 (aD 0) rB4 rB5 (aI 0) B_bedsByPlace_45, hC cI aH (H_beds, H_law, H_sights, H_isKept, H_worths, H_sightGuests, H_sightBeds), dC cI aD (D_length, D_signs), iC cI aI (aH 0) (some (aJ 0)) (I_law_45, I_there_45, I_sleepers_45, I_empty_45, I_empties_45, I_yard_45, I_waiting_45, I_nights_45, I_used_45, I_sheets_45, I_lastOnes_45, I_guestsWithFleas_45, I_bedsWithFleas_45, I_isCounting_45), iC cI aJ (aH 0) dJ (J_law_45, J_there_45, J_sleepers_45, J_empty_45, J_empties_45, J_yard_45, J_waiting_45, J_nights_45, J_used_45, J_sheets_45, J_lastOnes_45, J_guestsWithFleas_45, J_bedsWithFleas_45, J_isCounting_45)] 103 [(7, .int x7_L58), (6, .int x6_L58), (5, .int x5_L58), (4, .int r_30), (0, .ref (aB 0)), (1, .int x1), (2, .int x2), (3, .int x3)] []) → ∀ (n : Nat) (x5_L58 : Int32) (x6_L58 : Int32) (x7_L58 : Int32), f_X5_when_L58 x2 B_bedsByPlace_45 D_length n x5_L58 x6_L58 x7_L58 kL = some rr → G p l e R s m args below meth c 8 D A H0 0 0 Q [bC cI aB (aH 0) rB1 rB2 (aD 0) rB4 rB5 (aI 0) B_bedsByPlace_45, hC cI aH (H_beds, H_law, H_sights, H_isKept, H_worths, H_sightGuests, H_sightBeds), dC cI aD (D_length, D_signs), iC cI aI (aH 0) (some (aJ 0)) (I_law_45, I_there_45, I_sleepers_45, I_empty_45, I_empties_45, I_yard_45, I_waiting_45, I_nights_45, I_used_45, I_sheets_45, I_lastOnes_45, I_guestsWithFleas_45, I_bedsWithFleas_45, I_isCounting_45), iC cI aJ (aH 0) dJ (J_law_45, J_there_45, J_sleepers_45, J_empty_45, J_empties_45, J_yard_45, J_waiting_45, J_nights_45, J_used_45, J_sheets_45, J_lastOnes_45, J_guestsWithFleas_45, J_bedsWithFleas_45, J_isCounting_45)] 58 [(7, .int x7_L58), (6, .int x6_L58), (5, .int x5_L58), (4, .int r_30), (0, .ref (aB 0)), (1, .int x1), (2, .int x2), (3, .int x3)] [] := by
            intro kL hkL58 n
            induction n with
            | zero =>
              intro x5_L58 x6_L58 x7_L58 hf
              rw [f_X5_when_L58] at hf
              cases hf
            | succ n ihL58 =>
              intro x5_L58 x6_L58 x7_L58 hf
              rw [f_X5_when_L58] at hf
              refine gq_iload C 0 60 dX5_when_58 rfl rfl ?_
              refine gq_aload_n C 4 61 dX5_when_60 rfl rfl ?_
              refine gq_get C fo_X5_3 fw_X5_25 0 0 64 rfl rfl rfl dX5_when_61 rfl ?_
              refine gq_getN C fo_X0_0 fw_X5_89 2 0 67 rfl rfl rfl dX5_when_64 rfl ?_
              refine gq_icmp_gt C 103 70 dX5_when_67 (by decide) rfl (fun h67 => ?_) (fun h67 => ?_)
              · replace hf := gq_ifp h67 hf
                exact hkL58 _ _ _ hf
              · replace hf := gq_ifn h67 hf
                refine gq_aload_n C 4 71 dX5_when_70 rfl rfl ?_
                refine gq_iload C 0 73 dX5_when_71 rfl rfl ?_
                obtain ⟨r_73, hc, hf⟩ := gq_bd hf
                refine gq_callV C hA gm_X5_149 (c_X5_bedComingAt l D cI cZ aB (aH 0) rB1 rB2 (aD 0) rB4 rB5 (aI 0) x7_L58 B_bedsByPlace_45 _ hc) rfl 0 0 rfl rfl rfl ⟨Nat.le_trans (Nat.le_of_ble_eq_true rfl) hR.1, Nat.le_trans (Nat.le_of_ble_eq_true rfl) hR.2.1⟩ ⟨Nat.zero_le _, Nat.zero_le _⟩ rfl (Nat.le_of_ble_eq_true rfl) dX5_when_73 [0] [bC cI aB (aH 0) rB1 rB2 (aD 0) rB4 rB5 (aI 0) B_bedsByPlace_45, hC cI aH (H_beds, H_law, H_sights, H_isKept, H_worths, H_sightGuests, H_sightBeds), dC cI aD (D_length, D_signs), iC cI aI (aH 0) (some (aJ 0)) (I_law_45, I_there_45, I_sleepers_45, I_empty_45, I_empties_45, I_yard_45, I_waiting_45, I_nights_45, I_used_45, I_sheets_45, I_lastOnes_45, I_guestsWithFleas_45, I_bedsWithFleas_45, I_isCounting_45), iC cI aJ (aH 0) dJ (J_law_45, J_there_45, J_sleepers_45, J_empty_45, J_empties_45, J_yard_45, J_waiting_45, J_nights_45, J_used_45, J_sheets_45, J_lastOnes_45, J_guestsWithFleas_45, J_bedsWithFleas_45, J_isCounting_45)] 76 rfl (by decide) rfl rfl rfl [.int r_73] rfl ?_
                refine gq_iload_n C 6 77 dX5_when_76 rfl rfl ?_
                refine gq_icmp_ne C 97 80 dX5_when_77 (by decide) rfl (fun h77 => ?_) (fun h77 => ?_)
                · replace hf := gq_ifn h77 hf
                  refine gq_iinc C 0 [(7, .int (x7_L58 + (nI 1))), (6, .int x6_L58), (5, .int x5_L58), (4, .int r_30), (0, .ref (aB 0)), (1, .int x1), (2, .int x2), (3, .int x3)] 100 dX5_when_97 rfl rfl (by decide) rfl rfl ?_
                  refine gq_goto C 58 dX5_when_100 (by decide) ?_
                  exact ihL58 _ _ _ hf
                · replace hf := gq_ifp h77 hf
                  refine gq_iload C 2 82 dX5_when_80 rfl rfl ?_
                  refine gq_if_ne C 90 85 dX5_when_82 (by decide) rfl (fun h82 => ?_) (fun h82 => ?_)
                  · replace hf := gq_ifn h82 hf
                    refine gq_iload C 1 92 dX5_when_90 rfl rfl ?_
                    refine gq_istore C [(6, .int x6_L58), (7, .int x7_L58), (5, .int x5_L58), (4, .int r_30), (0, .ref (aB 0)), (1, .int x1), (2, .int x2), (3, .int x3)] 94 dX5_when_92 (by decide) rfl rfl ?_
                    refine gq_iinc C 2 [(5, .int (x5_L58 + (nI 1))), (6, .int x6_L58), (7, .int x7_L58), (4, .int r_30), (0, .ref (aB 0)), (1, .int x1), (2, .int x2), (3, .int x3)] 97 dX5_when_94 rfl rfl (by decide) rfl rfl ?_
                    refine gq_iinc C 2 [(7, .int (x7_L58 + (nI 1))), (5, .int (x5_L58 + (nI 1))), (6, .int x6_L58), (4, .int r_30), (0, .ref (aB 0)), (1, .int x1), (2, .int x2), (3, .int x3)] 100 dX5_when_97 rfl rfl (by decide) rfl rfl ?_
                    refine gq_goto C 58 dX5_when_100 (by decide) ?_
                    refine gq_lv [0, 2, 1, 3, 4, 5, 6, 7] rfl ?_
                    exact ihL58 _ _ _ hf
                  · replace hf := gq_ifp h82 hf
                    refine gq_iload C 0 87 dX5_when_85 rfl rfl ?_
                    refine gq_goto C 92 dX5_when_87 (by decide) ?_
                    refine gq_istore C [(6, .int x7_L58), (7, .int x7_L58), (5, .int x5_L58), (4, .int r_30), (0, .ref (aB 0)), (1, .int x1), (2, .int x2), (3, .int x3)] 94 dX5_when_92 (by decide) rfl rfl ?_
                    refine gq_iinc C 2 [(5, .int (x5_L58 + (nI 1))), (6, .int x7_L58), (7, .int x7_L58), (4, .int r_30), (0, .ref (aB 0)), (1, .int x1), (2, .int x2), (3, .int x3)] 97 dX5_when_94 rfl rfl (by decide) rfl rfl ?_
                    refine gq_iinc C 2 [(7, .int (x7_L58 + (nI 1))), (5, .int (x5_L58 + (nI 1))), (6, .int x7_L58), (4, .int r_30), (0, .ref (aB 0)), (1, .int x1), (2, .int x2), (3, .int x3)] 100 dX5_when_97 rfl rfl (by decide) rfl rfl ?_
                    refine gq_goto C 58 dX5_when_100 (by decide) ?_
                    refine gq_lv [0, 2, 1, 3, 4, 5, 6, 7] rfl ?_
                    exact ihL58 _ _ _ hf
          refine L58 _ (fun x5_L58 x6_L58 x7_L58 hf => ?_) _ _ _ _ hf
          refine gq_iload_n C 7 104 dX5_when_103 rfl rfl ?_
          refine gq_if_ne C 112 107 dX5_when_104 (by decide) rfl (fun h104 => ?_) (fun h104 => ?_)
          · replace hf := gq_ifn h104 hf
            refine gq_iload C 1 114 dX5_when_112 rfl rfl ?_
            obtain rfl := gq_lf hf
            exact hret dX5_when_114 gPost.rf
          · replace hf := gq_ifp h104 hf
            refine gq_iload C 2 109 dX5_when_107 rfl rfl ?_
            refine gq_goto C 114 dX5_when_109 (by decide) ?_
            obtain rfl := gq_lf hf
            exact hret dX5_when_114 gPost.rf
        · replace hf := gq_ifn h37 hf
          refine gq_iload C 0 42 dX5_when_40 rfl rfl ?_
          obtain rfl := gq_lf hf
          exact hret dX5_when_42 gPost.rf
      · replace hf := gq_ifn h23 hf
        refine gq_iconst C (-1 : Int32) 27 dX5_when_26 (by decide) rfl ?_
        obtain rfl := gq_lf hf
        exact hret dX5_when_27 gPost.rf

def f_X5_best_L51 (c_x1 : Int32) (c_B_bedsByPlace : (Nat → Int32)) (c_H_beds : Int32) (c_H_law : Int32) (c_H_sights : Int32) (c_H_isKept : Int32) (c_H_worths : (Nat → Int32)) (c_H_sightGuests : (Nat → Int32)) (c_H_sightBeds : (Nat → Int32)) (c_D_length : Int32) : Nat → Int32 → Int32 → Int32 → (Int32 → Int32 → Int32 → Option (Int32 × WbS × InnS × InnS)) → Option (Int32 × WbS × InnS × InnS)
  | 0, _, _, _, _ => none
  | nL51 + 1, x4_L51, x5_L51, x6_L51, kL51 => (if c_D_length < x6_L51 then kL51 x4_L51 x5_L51 x6_L51 else (Option.bind (f_X5_worthComingAt c_x1 x6_L51 c_B_bedsByPlace (c_H_beds, c_H_law, c_H_sights, c_H_isKept, c_H_worths, c_H_sightGuests, c_H_sightBeds)) (fun r_67 => (if r_67 ≤ x5_L51 then f_X5_best_L51 c_x1 c_B_bedsByPlace c_H_beds c_H_law c_H_sights c_H_isKept c_H_worths c_H_sightGuests c_H_sightBeds c_D_length nL51 x4_L51 x5_L51 (x6_L51 + (nI 1)) kL51 else f_X5_best_L51 c_x1 c_B_bedsByPlace c_H_beds c_H_law c_H_sights c_H_isKept c_H_worths c_H_sightGuests c_H_sightBeds c_D_length nL51 x6_L51 r_67 (x6_L51 + (nI 1)) kL51))))
def f_X5_best : Int32 → Int32 → WbS → HouS → DayS → InnS → InnS → Option (Int32 × WbS × InnS × InnS)
  | x1, x2, B_bedsByPlace, (H_beds, H_law, H_sights, H_isKept, H_worths, H_sightGuests, H_sightBeds), (D_length, D_signs), (I_law, I_there, I_sleepers, I_empty, I_empties, I_yard, I_waiting, I_nights, I_used, I_sheets, I_lastOnes, I_guestsWithFleas, I_bedsWithFleas, I_isCounting), (J_law, J_there, J_sleepers, J_empty, J_empties, J_yard, J_waiting, J_nights, J_used, J_sheets, J_lastOnes, J_guestsWithFleas, J_bedsWithFleas, J_isCounting) => (Option.bind (f_X5_isGuest x1) (fun r_1 => (if r_1 = 0 then some ((-1 : Int32), B_bedsByPlace, (I_law, I_there, I_sleepers, I_empty, I_empties, I_yard, I_waiting, I_nights, I_used, I_sheets, I_lastOnes, I_guestsWithFleas, I_bedsWithFleas, I_isCounting), (J_law, J_there, J_sleepers, J_empty, J_empties, J_yard, J_waiting, J_nights, J_used, J_sheets, J_lastOnes, J_guestsWithFleas, J_bedsWithFleas, J_isCounting)) else (Option.bind (f_X0_names x1 (D_length, D_signs)) (fun r_12 => (if r_12 = 0 then (Option.bind (f_X5_refusalOfComing x2 B_bedsByPlace (H_beds, H_law, H_sights, H_isKept, H_worths, H_sightGuests, H_sightBeds) (D_length, D_signs) (I_law, I_there, I_sleepers, I_empty, I_empties, I_yard, I_waiting, I_nights, I_used, I_sheets, I_lastOnes, I_guestsWithFleas, I_bedsWithFleas, I_isCounting)) (fun (r_22, (I_law_22, I_there_22, I_sleepers_22, I_empty_22, I_empties_22, I_yard_22, I_waiting_22, I_nights_22, I_used_22, I_sheets_22, I_lastOnes_22, I_guestsWithFleas_22, I_bedsWithFleas_22, I_isCounting_22)) => (if r_22 = 0 then (Option.bind (f_X5_tryAllPlaces x1 B_bedsByPlace (H_beds, H_law, H_sights, H_isKept, H_worths, H_sightGuests, H_sightBeds) (D_length, D_signs) (I_law_22, I_there_22, I_sleepers_22, I_empty_22, I_empties_22, I_yard_22, I_waiting_22, I_nights_22, I_used_22, I_sheets_22, I_lastOnes_22, I_guestsWithFleas_22, I_bedsWithFleas_22, I_isCounting_22) (J_law, J_there, J_sleepers, J_empty, J_empties, J_yard, J_waiting, J_nights, J_used, J_sheets, J_lastOnes, J_guestsWithFleas, J_bedsWithFleas, J_isCounting)) (fun (B_bedsByPlace_34, (I_law_34, I_there_34, I_sleepers_34, I_empty_34, I_empties_34, I_yard_34, I_waiting_34, I_nights_34, I_used_34, I_sheets_34, I_lastOnes_34, I_guestsWithFleas_34, I_bedsWithFleas_34, I_isCounting_34), (J_law_34, J_there_34, J_sleepers_34, J_empty_34, J_empties_34, J_yard_34, J_waiting_34, J_nights_34, J_used_34, J_sheets_34, J_lastOnes_34, J_guestsWithFleas_34, J_bedsWithFleas_34, J_isCounting_34)) => (Option.bind (f_X5_worthComingAt x1 (nI 0) B_bedsByPlace_34 (H_beds, H_law, H_sights, H_isKept, H_worths, H_sightGuests, H_sightBeds)) (fun r_43 => f_X5_best_L51 x1 B_bedsByPlace_34 H_beds H_law H_sights H_isKept H_worths H_sightGuests H_sightBeds D_length FU (nI 0) r_43 (nI 1) (fun x4_L51 x5_L51 x6_L51 => (if x2 = 0 then some (x4_L51, B_bedsByPlace_34, (I_law_34, I_there_34, I_sleepers_34, I_empty_34, I_empties_34, I_yard_34, I_waiting_34, I_nights_34, I_used_34, I_sheets_34, I_lastOnes_34, I_guestsWithFleas_34, I_bedsWithFleas_34, I_isCounting_34), (J_law_34, J_there_34, J_sleepers_34, J_empty_34, J_empties_34, J_yard_34, J_waiting_34, J_nights_34, J_used_34, J_sheets_34, J_lastOnes_34, J_guestsWithFleas_34, J_bedsWithFleas_34, J_isCounting_34)) else some (x5_L51, B_bedsByPlace_34, (I_law_34, I_there_34, I_sleepers_34, I_empty_34, I_empties_34, I_yard_34, I_waiting_34, I_nights_34, I_used_34, I_sheets_34, I_lastOnes_34, I_guestsWithFleas_34, I_bedsWithFleas_34, I_isCounting_34), (J_law_34, J_there_34, J_sleepers_34, J_empty_34, J_empties_34, J_yard_34, J_waiting_34, J_nights_34, J_used_34, J_sheets_34, J_lastOnes_34, J_guestsWithFleas_34, J_bedsWithFleas_34, J_isCounting_34)))))))) else some (r_22, B_bedsByPlace, (I_law_22, I_there_22, I_sleepers_22, I_empty_22, I_empties_22, I_yard_22, I_waiting_22, I_nights_22, I_used_22, I_sheets_22, I_lastOnes_22, I_guestsWithFleas_22, I_bedsWithFleas_22, I_isCounting_22), (J_law, J_there, J_sleepers, J_empty, J_empties, J_yard, J_waiting, J_nights, J_used, J_sheets, J_lastOnes, J_guestsWithFleas, J_bedsWithFleas, J_isCounting))))) else some ((-1 : Int32), B_bedsByPlace, (I_law, I_there, I_sleepers, I_empty, I_empties, I_yard, I_waiting, I_nights, I_used, I_sheets, I_lastOnes, I_guestsWithFleas, I_bedsWithFleas, I_isCounting), (J_law, J_there, J_sleepers, J_empty, J_empties, J_yard, J_waiting, J_nights, J_used, J_sheets, J_lastOnes, J_guestsWithFleas, J_bedsWithFleas, J_isCounting))))))))
set_option maxHeartbeats 4000000 in
set_option maxRecDepth 100000 in
theorem c_X5_best (l : Launch) (D : va_G) (cI cZ : ClassId) (aB : Nat → Nat) (rB1 : Nat) (rB2 : Nat) (rB4 : Nat) (rB5 : Nat) (aH : Nat → Nat) (aD : Nat → Nat) (aI : Nat → Nat) (aJ : Nat → Nat) (dJ : Option Nat) (x1 : Int32) (x2 : Int32) (tB : WbS) (tH : HouS) (tD : DayS) (tI : InnS) (tJ : InnS) (rr : Int32 × WbS × InnS × InnS) (hf : f_X5_best x1 x2 tB tH tD tI tJ = some rr) : CT l D cI cZ yX5_best cX5_best 8 (some .int) 7 157 0 0 [.ref (aB 0), .int x1, .int x2] ([bC cI aB (aH 0) rB1 rB2 (aD 0) rB4 rB5 (aI 0) tB, hC cI aH tH, dC cI aD tD, iC cI aI (aH 0) (some (aJ 0)) tI, iC cI aJ (aH 0) dJ tJ]) (gPost (some (.int rr.1)) ([bC cI aB (aH 0) rB1 rB2 (aD 0) rB4 rB5 (aI 0) rr.2.1, hC cI aH tH, dC cI aD tD, iC cI aI (aH 0) (some (aJ 0)) rr.2.2.1, iC cI aJ (aH 0) dJ rr.2.2.2])) := by
  obtain ⟨B_bedsByPlace, rfl⟩ : ∃ z, z = tB := ⟨_, rfl⟩
  obtain ⟨H_beds, H_law, H_sights, H_isKept, H_worths, H_sightGuests, H_sightBeds⟩ := tH
  obtain ⟨D_length, D_signs⟩ := tD
  obtain ⟨I_law, I_there, I_sleepers, I_empty, I_empties, I_yard, I_waiting, I_nights, I_used, I_sheets, I_lastOnes, I_guestsWithFleas, I_bedsWithFleas, I_isCounting⟩ := tI
  obtain ⟨J_law, J_there, J_sleepers, J_empty, J_empties, J_yard, J_waiting, J_nights, J_used, J_sheets, J_lastOnes, J_guestsWithFleas, J_bedsWithFleas, J_isCounting⟩ := tJ
  rw [f_X5_best] at hf
  refine CT.mkI (by decide) (Nat.le_of_ble_eq_true rfl) fun {p} {e} {R} {s} {m} {args} {below} {meth} {c} {A} {H0} {Q} C hA hR hret => ?_
  show G p l e R s m args below meth c 8 D A H0 0 0 Q [bC cI aB (aH 0) rB1 rB2 (aD 0) rB4 rB5 (aI 0) B_bedsByPlace, hC cI aH (H_beds, H_law, H_sights, H_isKept, H_worths, H_sightGuests, H_sightBeds), dC cI aD (D_length, D_signs), iC cI aI (aH 0) (some (aJ 0)) (I_law, I_there, I_sleepers, I_empty, I_empties, I_yard, I_waiting, I_nights, I_used, I_sheets, I_lastOnes, I_guestsWithFleas, I_bedsWithFleas, I_isCounting), iC cI aJ (aH 0) dJ (J_law, J_there, J_sleepers, J_empty, J_empties, J_yard, J_waiting, J_nights, J_used, J_sheets, J_lastOnes, J_guestsWithFleas, J_bedsWithFleas, J_isCounting)] 0 [(0, .ref (aB 0)), (1, .int x1), (2, .int x2)] []
  refine gq_iload_n C 1 1 dX5_best_0 rfl rfl ?_
  obtain ⟨r_1, hc, hf⟩ := gq_bd hf
  refine gq_callS C hA gm_X5_64 (c_X5_isGuest l D cI cZ  x1 _ hc) rfl ⟨Nat.le_trans (Nat.le_of_ble_eq_true rfl) hR.1, Nat.le_trans (Nat.le_of_ble_eq_true rfl) hR.2.1⟩ ⟨Nat.zero_le _, Nat.zero_le _⟩ rfl (Nat.le_of_ble_eq_true rfl) dX5_best_1 [] [bC cI aB (aH 0) rB1 rB2 (aD 0) rB4 rB5 (aI 0) B_bedsByPlace, hC cI aH (H_beds, H_law, H_sights, H_isKept, H_worths, H_sightGuests, H_sightBeds), dC cI aD (D_length, D_signs), iC cI aI (aH 0) (some (aJ 0)) (I_law, I_there, I_sleepers, I_empty, I_empties, I_yard, I_waiting, I_nights, I_used, I_sheets, I_lastOnes, I_guestsWithFleas, I_bedsWithFleas, I_isCounting), iC cI aJ (aH 0) dJ (J_law, J_there, J_sleepers, J_empty, J_empties, J_yard, J_waiting, J_nights, J_used, J_sheets, J_lastOnes, J_guestsWithFleas, J_bedsWithFleas, J_isCounting)] 4 rfl (by decide) rfl rfl rfl [.int r_1] rfl ?_
  refine gq_if_eq C 18 7 dX5_best_4 (by decide) rfl (fun h4 => ?_) (fun h4 => ?_)
  · replace hf := gq_ifp h4 hf
    refine gq_iconst C (-1 : Int32) 19 dX5_best_18 (by decide) rfl ?_
    obtain rfl := gq_lf hf
    exact hret dX5_best_19 gPost.rf
  · replace hf := gq_ifn h4 hf
    refine gq_aload_n C 0 8 dX5_best_7 rfl rfl ?_
    refine gq_get C fo_X5_3 fw_X5_25 0 0 11 rfl rfl rfl dX5_best_8 rfl ?_
    refine gq_iload_n C 1 12 dX5_best_11 rfl rfl ?_
    obtain ⟨r_12, hc, hf⟩ := gq_bd hf
    refine gq_callN C hA gm_X5_140 (c_X0_names l D cI cZ aD x1 (D_length, D_signs) _ hc) rfl 2 0 rfl rfl rfl ⟨Nat.le_trans (Nat.le_of_ble_eq_true rfl) hR.1, Nat.le_trans (Nat.le_of_ble_eq_true rfl) hR.2.1⟩ ⟨Nat.zero_le _, Nat.zero_le _⟩ rfl (Nat.le_of_ble_eq_true rfl) dX5_best_12 [2] [bC cI aB (aH 0) rB1 rB2 (aD 0) rB4 rB5 (aI 0) B_bedsByPlace, hC cI aH (H_beds, H_law, H_sights, H_isKept, H_worths, H_sightGuests, H_sightBeds), dC cI aD (D_length, D_signs), iC cI aI (aH 0) (some (aJ 0)) (I_law, I_there, I_sleepers, I_empty, I_empties, I_yard, I_waiting, I_nights, I_used, I_sheets, I_lastOnes, I_guestsWithFleas, I_bedsWithFleas, I_isCounting), iC cI aJ (aH 0) dJ (J_law, J_there, J_sleepers, J_empty, J_empties, J_yard, J_waiting, J_nights, J_used, J_sheets, J_lastOnes, J_guestsWithFleas, J_bedsWithFleas, J_isCounting)] 15 rfl (by decide) rfl rfl rfl [.int r_12] rfl ?_
    refine gq_if_eq C 20 18 dX5_best_15 (by decide) rfl (fun h15 => ?_) (fun h15 => ?_)
    · replace hf := gq_ifp h15 hf
      refine gq_aload_n C 0 21 dX5_best_20 rfl rfl ?_
      refine gq_iload_n C 2 22 dX5_best_21 rfl rfl ?_
      obtain ⟨⟨r_22, ⟨I_law_22, I_there_22, I_sleepers_22, I_empty_22, I_empties_22, I_yard_22, I_waiting_22, I_nights_22, I_used_22, I_sheets_22, I_lastOnes_22, I_guestsWithFleas_22, I_bedsWithFleas_22, I_isCounting_22⟩⟩, hc, hf⟩ := gq_bd hf
      refine gq_callV C hA gm_X5_143 (c_X5_refusalOfComing l D cI cZ aB rB1 rB2 rB4 rB5 aH aD aI (some (aJ 0)) x2 B_bedsByPlace (H_beds, H_law, H_sights, H_isKept, H_worths, H_sightGuests, H_sightBeds) (D_length, D_signs) (I_law, I_there, I_sleepers, I_empty, I_empties, I_yard, I_waiting, I_nights, I_used, I_sheets, I_lastOnes, I_guestsWithFleas, I_bedsWithFleas, I_isCounting) _ hc) rfl 0 0 rfl rfl rfl ⟨Nat.le_trans (Nat.le_of_ble_eq_true rfl) hR.1, Nat.le_trans (Nat.le_of_ble_eq_true rfl) hR.2.1⟩ ⟨Nat.zero_le _, Nat.zero_le _⟩ rfl (Nat.le_of_ble_eq_true rfl) dX5_best_22 [0, 1, 2, 3] [bC cI aB (aH 0) rB1 rB2 (aD 0) rB4 rB5 (aI 0) B_bedsByPlace, hC cI aH (H_beds, H_law, H_sights, H_isKept, H_worths, H_sightGuests, H_sightBeds), dC cI aD (D_length, D_signs), iC cI aI (aH 0) (some (aJ 0)) (I_law_22, I_there_22, I_sleepers_22, I_empty_22, I_empties_22, I_yard_22, I_waiting_22, I_nights_22, I_used_22, I_sheets_22, I_lastOnes_22, I_guestsWithFleas_22, I_bedsWithFleas_22, I_isCounting_22), iC cI aJ (aH 0) dJ (J_law, J_there, J_sleepers, J_empty, J_empties, J_yard, J_waiting, J_nights, J_used, J_sheets, J_lastOnes, J_guestsWithFleas, J_bedsWithFleas, J_isCounting)] 25 rfl (by decide) rfl rfl rfl [.int r_22] rfl ?_
      refine gq_istore_n C [(3, .int r_22), (0, .ref (aB 0)), (1, .int x1), (2, .int x2)] 26 dX5_best_25 (by decide) rfl rfl ?_
      refine gq_iload_n C 0 27 dX5_best_26 rfl rfl ?_
      refine gq_if_eq C 32 30 dX5_best_27 (by decide) rfl (fun h27 => ?_) (fun h27 => ?_)
      · replace hf := gq_ifp h27 hf
        refine gq_aload_n C 1 33 dX5_best_32 rfl rfl ?_
        refine gq_iload_n C 2 34 dX5_best_33 rfl rfl ?_
        obtain ⟨⟨B_bedsByPlace_34, ⟨I_law_34, I_there_34, I_sleepers_34, I_empty_34, I_empties_34, I_yard_34, I_waiting_34, I_nights_34, I_used_34, I_sheets_34, I_lastOnes_34, I_guestsWithFleas_34, I_bedsWithFleas_34, I_isCounting_34⟩, ⟨J_law_34, J_there_34, J_sleepers_34, J_empty_34, J_empties_34, J_yard_34, J_waiting_34, J_nights_34, J_used_34, J_sheets_34, J_lastOnes_34, J_guestsWithFleas_34, J_bedsWithFleas_34, J_isCounting_34⟩⟩, hc, hf⟩ := gq_bd hf
        refine gq_callV C hA gm_X5_146 (c_X5_tryAllPlaces l D cI cZ aB rB1 rB2 rB4 rB5 aH aD aI aJ dJ x1 B_bedsByPlace (H_beds, H_law, H_sights, H_isKept, H_worths, H_sightGuests, H_sightBeds) (D_length, D_signs) (I_law_22, I_there_22, I_sleepers_22, I_empty_22, I_empties_22, I_yard_22, I_waiting_22, I_nights_22, I_used_22, I_sheets_22, I_lastOnes_22, I_guestsWithFleas_22, I_bedsWithFleas_22, I_isCounting_22) (J_law, J_there, J_sleepers, J_empty, J_empties, J_yard, J_waiting, J_nights, J_used, J_sheets, J_lastOnes, J_guestsWithFleas, J_bedsWithFleas, J_isCounting) _ hc) rfl 0 0 rfl rfl rfl ⟨Nat.le_trans (Nat.le_of_ble_eq_true rfl) hR.1, Nat.le_trans (Nat.le_of_ble_eq_true rfl) hR.2.1⟩ ⟨Nat.zero_le _, Nat.zero_le _⟩ rfl (Nat.le_of_ble_eq_true rfl) dX5_best_34 [0, 1, 2, 3, 4] [bC cI aB (aH 0) rB1 rB2 (aD 0) rB4 rB5 (aI 0) B_bedsByPlace_34, hC cI aH (H_beds, H_law, H_sights, H_isKept, H_worths, H_sightGuests, H_sightBeds), dC cI aD (D_length, D_signs), iC cI aI (aH 0) (some (aJ 0)) (I_law_34, I_there_34, I_sleepers_34, I_empty_34, I_empties_34, I_yard_34, I_waiting_34, I_nights_34, I_used_34, I_sheets_34, I_lastOnes_34, I_guestsWithFleas_34, I_bedsWithFleas_34, I_isCounting_34), iC cI aJ (aH 0) dJ (J_law_34, J_there_34, J_sleepers_34, J_empty_34, J_empties_34, J_yard_34, J_waiting_34, J_nights_34, J_used_34, J_sheets_34, J_lastOnes_34, J_guestsWithFleas_34, J_bedsWithFleas_34, J_isCounting_34)] 37 rfl (by decide) rfl rfl rfl [] rfl ?_
        refine gq_iconst C (nI 0) 38 dX5_best_37 (by decide) rfl ?_
        refine gq_istore C [(4, .int (nI 0)), (3, .int r_22), (0, .ref (aB 0)), (1, .int x1), (2, .int x2)] 40 dX5_best_38 (by decide) rfl rfl ?_
        refine gq_aload_n C 2 41 dX5_best_40 rfl rfl ?_
        refine gq_iload_n C 3 42 dX5_best_41 rfl rfl ?_
        refine gq_iconst C (nI 0) 43 dX5_best_42 (by decide) rfl ?_
        obtain ⟨r_43, hc, hf⟩ := gq_bd hf
        refine gq_callV C hA gm_X5_152 (c_X5_worthComingAt l D cI cZ aB rB1 rB2 (aD 0) rB4 rB5 (aI 0) aH x1 (nI 0) B_bedsByPlace_34 (H_beds, H_law, H_sights, H_isKept, H_worths, H_sightGuests, H_sightBeds) _ hc) rfl 0 0 rfl rfl rfl ⟨Nat.le_trans (Nat.le_of_ble_eq_true rfl) hR.1, Nat.le_trans (Nat.le_of_ble_eq_true rfl) hR.2.1⟩ ⟨Nat.zero_le _, Nat.zero_le _⟩ rfl (Nat.le_of_ble_eq_true rfl) dX5_best_43 [0, 1] [bC cI aB (aH 0) rB1 rB2 (aD 0) rB4 rB5 (aI 0) B_bedsByPlace_34, hC cI aH (H_beds, H_law, H_sights, H_isKept, H_worths, H_sightGuests, H_sightBeds), dC cI aD (D_length, D_signs), iC cI aI (aH 0) (some (aJ 0)) (I_law_34, I_there_34, I_sleepers_34, I_empty_34, I_empties_34, I_yard_34, I_waiting_34, I_nights_34, I_used_34, I_sheets_34, I_lastOnes_34, I_guestsWithFleas_34, I_bedsWithFleas_34, I_isCounting_34), iC cI aJ (aH 0) dJ (J_law_34, J_there_34, J_sleepers_34, J_empty_34, J_empties_34, J_yard_34, J_waiting_34, J_nights_34, J_used_34, J_sheets_34, J_lastOnes_34, J_guestsWithFleas_34, J_bedsWithFleas_34, J_isCounting_34)] 46 rfl (by decide) rfl rfl rfl [.int r_43] rfl ?_
        refine gq_istore C [(5, .int r_43), (4, .int (nI 0)), (3, .int r_22), (0, .ref (aB 0)), (1, .int x1), (2, .int x2)] 48 dX5_best_46 (by decide) rfl rfl ?_
        refine gq_iconst C (nI 1) 49 dX5_best_48 (by decide) rfl ?_
        refine gq_istore C [(6, .int (nI 1)), (5, .int r_43), (4, .int (nI 0)), (3, .int r_22), (0, .ref (aB 0)), (1, .int x1), (2, .int x2)] 51 dX5_best_49 (by decide) rfl rfl ?_
        have L51 : ∀ (kL : Int32 → Int32 → Int32 → Option (Int32 × WbS × InnS × InnS)), (∀ (x4_L51 : Int32) (x5_L51 : Int32) (x6_L51 : Int32), kL x4_L51 x5_L51 x6_L51 = some rr → G p l e R s m args below meth c 8 D A H0 0 0 Q [bC cI aB (aH 0) rB1 rB2 (aD 0) rB4 rB5 (aI 0) B_bedsByPlace_34, hC cI aH (H_beds, H_law, H_sights, H_isKept, H_worths, H_sightGuests, H_sightBeds), dC cI aD (D_length, D_signs), iC cI aI (aH 0) (some (aJ 0)) (I_law_34, I_there_34, I_sleepers_34, I_empty_34, I_empties_34, I_yard_34, I_waiting_34, I_nights_34, I_used_34, I_sheets_34, I_lastOnes_34, I_guestsWithFleas_34, I_bedsWithFleas_34, I_isCounting_34), iC cI aJ (aH 0) dJ (J_law_34, J_there_34, J_sleepers_34, J_empty_34, J_empties_34, J_yard_34, J_waiting_34, J_nights_34, J_used_34, J_sheets_34, J_lastOnes_34, J_guestsWithFleas_34, J_bedsWithFleas_34, J_isCounting_34)] 93 [(6, .int x6_L51), (5, .int x5_L51), (4, .int x4_L51), (3, .int r_22), (0, .ref (aB 0)), (1, .int x1), (2, .int x2)] []) → ∀ (n : Nat) (x4_L51 : Int32) (x5_L51 : Int32) (x6_L51 : Int32), f_X5_best_L51 x1 B_bedsByPlace_34 H_beds H_law H_sights H_isKept H_worths H_sightGuests H_sightBeds D_length n x4_L51 x5_L51 x6_L51 kL = some rr → G p l e R s m args below meth c 8 D A H0 0 0 Q [bC cI aB (aH 0) rB1 rB2 (aD 0) rB4 rB5 (aI 0) B_bedsByPlace_34, hC cI aH (H_beds, H_law, H_sights, H_isKept, H_worths, H_sightGuests, H_sightBeds), dC cI aD (D_length, D_signs), iC cI aI (aH 0) (some (aJ 0)) (I_law_34, I_there_34, I_sleepers_34, I_empty_34, I_empties_34, I_yard_34, I_waiting_34, I_nights_34, I_used_34, I_sheets_34, I_lastOnes_34, I_guestsWithFleas_34, I_bedsWithFleas_34, I_isCounting_34), iC cI aJ (aH 0) dJ (J_law_34, J_there_34, J_sleepers_34, J_empty_34, J_empties_34, J_yard_34, J_waiting_34, J_nights_34, J_used_34, J_sheets_34, J_lastOnes_34, J_guestsWithFleas_34, J_bedsWithFleas_34, J_isCounting_34)] 51 [(6, .int x6_L51), (5, .int x5_L51), (4, .int x4_L51), (3, .int r_22), (0, .ref (aB 0)), (1, .int x1), (2, .int x2)] [] := by
          intro kL hkL51 n
          induction n with
          | zero =>
            intro x4_L51 x5_L51 x6_L51 hf
            rw [f_X5_best_L51] at hf
            cases hf
          | succ n ihL51 =>
            intro x4_L51 x5_L51 x6_L51 hf
            rw [f_X5_best_L51] at hf
            refine gq_iload C 0 53 dX5_best_51 rfl rfl ?_
            refine gq_aload_n C 4 54 dX5_best_53 rfl rfl ?_
            refine gq_get C fo_X5_3 fw_X5_25 0 0 57 rfl rfl rfl dX5_best_54 rfl ?_
            refine gq_getN C fo_X0_0 fw_X5_89 2 0 60 rfl rfl rfl dX5_best_57 rfl ?_
            refine gq_icmp_gt C 93 63 dX5_best_60 (by decide) rfl (fun h60 => ?_) (fun h60 => ?_)
            · replace hf := gq_ifp h60 hf
              exact hkL51 _ _ _ hf
            · replace hf := gq_ifn h60 hf
              refine gq_aload_n C 4 64 dX5_best_63 rfl rfl ?_
              refine gq_iload_n C 5 65 dX5_best_64 rfl rfl ?_
              refine gq_iload C 0 67 dX5_best_65 rfl rfl ?_
              obtain ⟨r_67, hc, hf⟩ := gq_bd hf
              refine gq_callV C hA gm_X5_152 (c_X5_worthComingAt l D cI cZ aB rB1 rB2 (aD 0) rB4 rB5 (aI 0) aH x1 x6_L51 B_bedsByPlace_34 (H_beds, H_law, H_sights, H_isKept, H_worths, H_sightGuests, H_sightBeds) _ hc) rfl 0 0 rfl rfl rfl ⟨Nat.le_trans (Nat.le_of_ble_eq_true rfl) hR.1, Nat.le_trans (Nat.le_of_ble_eq_true rfl) hR.2.1⟩ ⟨Nat.zero_le _, Nat.zero_le _⟩ rfl (Nat.le_of_ble_eq_true rfl) dX5_best_67 [0, 1] [bC cI aB (aH 0) rB1 rB2 (aD 0) rB4 rB5 (aI 0) B_bedsByPlace_34, hC cI aH (H_beds, H_law, H_sights, H_isKept, H_worths, H_sightGuests, H_sightBeds), dC cI aD (D_length, D_signs), iC cI aI (aH 0) (some (aJ 0)) (I_law_34, I_there_34, I_sleepers_34, I_empty_34, I_empties_34, I_yard_34, I_waiting_34, I_nights_34, I_used_34, I_sheets_34, I_lastOnes_34, I_guestsWithFleas_34, I_bedsWithFleas_34, I_isCounting_34), iC cI aJ (aH 0) dJ (J_law_34, J_there_34, J_sleepers_34, J_empty_34, J_empties_34, J_yard_34, J_waiting_34, J_nights_34, J_used_34, J_sheets_34, J_lastOnes_34, J_guestsWithFleas_34, J_bedsWithFleas_34, J_isCounting_34)] 70 rfl (by decide) rfl rfl rfl [.int r_67] rfl ?_
              refine gq_istore C [(7, .int r_67), (6, .int x6_L51), (5, .int x5_L51), (4, .int x4_L51), (3, .int r_22), (0, .ref (aB 0)), (1, .int x1), (2, .int x2)] 72 dX5_best_70 (by decide) rfl rfl ?_
              refine gq_iload C 0 74 dX5_best_72 rfl rfl ?_
              refine gq_iload C 2 76 dX5_best_74 rfl rfl ?_
              refine gq_icmp_le C 87 79 dX5_best_76 (by decide) rfl (fun h76 => ?_) (fun h76 => ?_)
              · replace hf := gq_ifp h76 hf
                refine gq_iinc C 1 [(6, .int (x6_L51 + (nI 1))), (7, .int r_67), (5, .int x5_L51), (4, .int x4_L51), (3, .int r_22), (0, .ref (aB 0)), (1, .int x1), (2, .int x2)] 90 dX5_best_87 rfl rfl (by decide) rfl rfl ?_
                refine gq_goto C 51 dX5_best_90 (by decide) ?_
                refine gq_lv [0, 2, 3, 4, 5, 6, 7] rfl ?_
                exact ihL51 _ _ _ hf
              · replace hf := gq_ifn h76 hf
                refine gq_iload C 1 81 dX5_best_79 rfl rfl ?_
                refine gq_istore C [(4, .int x6_L51), (7, .int r_67), (6, .int x6_L51), (5, .int x5_L51), (3, .int r_22), (0, .ref (aB 0)), (1, .int x1), (2, .int x2)] 83 dX5_best_81 (by decide) rfl rfl ?_
                refine gq_iload C 1 85 dX5_best_83 rfl rfl ?_
                refine gq_istore C [(5, .int r_67), (4, .int x6_L51), (7, .int r_67), (6, .int x6_L51), (3, .int r_22), (0, .ref (aB 0)), (1, .int x1), (2, .int x2)] 87 dX5_best_85 (by decide) rfl rfl ?_
                refine gq_iinc C 3 [(6, .int (x6_L51 + (nI 1))), (5, .int r_67), (4, .int x6_L51), (7, .int r_67), (3, .int r_22), (0, .ref (aB 0)), (1, .int x1), (2, .int x2)] 90 dX5_best_87 rfl rfl (by decide) rfl rfl ?_
                refine gq_goto C 51 dX5_best_90 (by decide) ?_
                refine gq_lv [0, 1, 2, 4, 5, 6, 7] rfl ?_
                exact ihL51 _ _ _ hf
        refine L51 _ (fun x4_L51 x5_L51 x6_L51 hf => ?_) _ _ _ _ hf
        refine gq_iload_n C 6 94 dX5_best_93 rfl rfl ?_
        refine gq_if_ne C 102 97 dX5_best_94 (by decide) rfl (fun h94 => ?_) (fun h94 => ?_)
        · replace hf := gq_ifn h94 hf
          refine gq_iload C 1 104 dX5_best_102 rfl rfl ?_
          obtain rfl := gq_lf hf
          exact hret dX5_best_104 gPost.rf
        · replace hf := gq_ifp h94 hf
          refine gq_iload C 2 99 dX5_best_97 rfl rfl ?_
          refine gq_goto C 104 dX5_best_99 (by decide) ?_
          obtain rfl := gq_lf hf
          exact hret dX5_best_104 gPost.rf
      · replace hf := gq_ifn h27 hf
        refine gq_iload_n C 0 31 dX5_best_30 rfl rfl ?_
        obtain rfl := gq_lf hf
        exact hret dX5_best_31 gPost.rf
    · replace hf := gq_ifn h15 hf
      refine gq_iconst C (-1 : Int32) 19 dX5_best_18 (by decide) rfl ?_
      obtain rfl := gq_lf hf
      exact hret dX5_best_19 gPost.rf

def f_X5_reach_L24 (c_x1 : Int32) (c_H_beds : Int32) (c_H_law : Int32) (c_H_sights : Int32) (c_H_isKept : Int32) (c_H_worths : (Nat → Int32)) (c_H_sightGuests : (Nat → Int32)) (c_H_sightBeds : (Nat → Int32)) : Nat → Int32 → Int32 → Int32 → (Nat → Int32) → (Nat → Int32) → Int32 → (Nat → Int32) → Int32 → (Nat → Int32) → (Nat → Int32) → (Nat → Int32) → (Nat → Int32) → Int32 → Int32 → Int32 → (Int32 → Int32 → Int32 → (Nat → Int32) → (Nat → Int32) → Int32 → (Nat → Int32) → Int32 → (Nat → Int32) → (Nat → Int32) → (Nat → Int32) → (Nat → Int32) → Int32 → Int32 → Int32 → Option (Int32 × InnS)) → Option (Int32 × InnS)
  | 0, _, _, _, _, _, _, _, _, _, _, _, _, _, _, _, _ => none
  | nL24 + 1, x3_L24, I_law_L24, I_there_L24, I_sleepers_L24, I_empty_L24, I_empties_L24, I_yard_L24, I_waiting_L24, I_nights_L24, I_used_L24, I_sheets_L24, I_lastOnes_L24, I_guestsWithFleas_L24, I_bedsWithFleas_L24, I_isCounting_L24, kL24 => (if (nI 8) ≤ x3_L24 then kL24 x3_L24 I_law_L24 I_there_L24 I_sleepers_L24 I_empty_L24 I_empties_L24 I_yard_L24 I_waiting_L24 I_nights_L24 I_used_L24 I_sheets_L24 I_lastOnes_L24 I_guestsWithFleas_L24 I_bedsWithFleas_L24 I_isCounting_L24 else (Option.bind (f_X3_sleeperOf c_x1 (I_law_L24, I_there_L24, I_sleepers_L24, I_empty_L24, I_empties_L24, I_yard_L24, I_waiting_L24, I_nights_L24, I_used_L24, I_sheets_L24, I_lastOnes_L24, I_guestsWithFleas_L24, I_bedsWithFleas_L24, I_isCounting_L24)) (fun r_35 => (if r_35 = (-1 : Int32) then (Option.bind (f_X3_takeIn (nI 8) (c_H_beds, c_H_law, c_H_sights, c_H_isKept, c_H_worths, c_H_sightGuests, c_H_sightBeds) (I_law_L24, I_there_L24, I_sleepers_L24, I_empty_L24, I_empties_L24, I_yard_L24, I_waiting_L24, I_nights_L24, I_used_L24, I_sheets_L24, I_lastOnes_L24, I_guestsWithFleas_L24, I_bedsWithFleas_L24, I_isCounting_L24)) (fun (I_law_48, I_there_48, I_sleepers_48, I_empty_48, I_empties_48, I_yard_48, I_waiting_48, I_nights_48, I_used_48, I_sheets_48, I_lastOnes_48, I_guestsWithFleas_48, I_bedsWithFleas_48, I_isCounting_48) => f_X5_reach_L24 c_x1 c_H_beds c_H_law c_H_sights c_H_isKept c_H_worths c_H_sightGuests c_H_sightBeds nL24 (x3_L24 + (nI 1)) I_law_48 I_there_48 I_sleepers_48 I_empty_48 I_empties_48 I_yard_48 I_waiting_48 I_nights_48 I_used_48 I_sheets_48 I_lastOnes_48 I_guestsWithFleas_48 I_bedsWithFleas_48 I_isCounting_48 kL24)) else kL24 x3_L24 I_law_L24 I_there_L24 I_sleepers_L24 I_empty_L24 I_empties_L24 I_yard_L24 I_waiting_L24 I_nights_L24 I_used_L24 I_sheets_L24 I_lastOnes_L24 I_guestsWithFleas_L24 I_bedsWithFleas_L24 I_isCounting_L24))))
def f_X5_reach : Int32 → WbS → HouS → DayS → InnS → Option (Int32 × InnS)
  | x1, B_bedsByPlace, (H_beds, H_law, H_sights, H_isKept, H_worths, H_sightGuests, H_sightBeds), (D_length, D_signs), (I_law, I_there, I_sleepers, I_empty, I_empties, I_yard, I_waiting, I_nights, I_used, I_sheets, I_lastOnes, I_guestsWithFleas, I_bedsWithFleas, I_isCounting) => (Option.bind (f_X5_isBed x1 B_bedsByPlace (H_beds, H_law, H_sights, H_isKept, H_worths, H_sightGuests, H_sightBeds)) (fun r_2 => (if r_2 = 0 then some ((-1 : Int32), (I_law, I_there, I_sleepers, I_empty, I_empties, I_yard, I_waiting, I_nights, I_used, I_sheets, I_lastOnes, I_guestsWithFleas, I_bedsWithFleas, I_isCounting)) else (Option.bind (f_X5_liveThrough (-1 : Int32) B_bedsByPlace (H_beds, H_law, H_sights, H_isKept, H_worths, H_sightGuests, H_sightBeds) (D_length, D_signs) (I_law, I_there, I_sleepers, I_empty, I_empties, I_yard, I_waiting, I_nights, I_used, I_sheets, I_lastOnes, I_guestsWithFleas, I_bedsWithFleas, I_isCounting)) (fun (r_12, (I_law_12, I_there_12, I_sleepers_12, I_empty_12, I_empties_12, I_yard_12, I_waiting_12, I_nights_12, I_used_12, I_sheets_12, I_lastOnes_12, I_guestsWithFleas_12, I_bedsWithFleas_12, I_isCounting_12)) => (if r_12 = 0 then f_X5_reach_L24 x1 H_beds H_law H_sights H_isKept H_worths H_sightGuests H_sightBeds FU (nI 0) I_law_12 I_there_12 I_sleepers_12 I_empty_12 I_empties_12 I_yard_12 I_waiting_12 I_nights_12 I_used_12 I_sheets_12 I_lastOnes_12 I_guestsWithFleas_12 I_bedsWithFleas_12 I_isCounting_12 (fun x3_L24 I_law_L24 I_there_L24 I_sleepers_L24 I_empty_L24 I_empties_L24 I_yard_L24 I_waiting_L24 I_nights_L24 I_used_L24 I_sheets_L24 I_lastOnes_L24 I_guestsWithFleas_L24 I_bedsWithFleas_L24 I_isCounting_L24 => some (x3_L24, (I_law_L24, I_there_L24, I_sleepers_L24, I_empty_L24, I_empties_L24, I_yard_L24, I_waiting_L24, I_nights_L24, I_used_L24, I_sheets_L24, I_lastOnes_L24, I_guestsWithFleas_L24, I_bedsWithFleas_L24, I_isCounting_L24))) else some (r_12, (I_law_12, I_there_12, I_sleepers_12, I_empty_12, I_empties_12, I_yard_12, I_waiting_12, I_nights_12, I_used_12, I_sheets_12, I_lastOnes_12, I_guestsWithFleas_12, I_bedsWithFleas_12, I_isCounting_12))))))))
set_option maxHeartbeats 4000000 in
set_option maxRecDepth 100000 in
theorem c_X5_reach (l : Launch) (D : va_G) (cI cZ : ClassId) (aB : Nat → Nat) (rB1 : Nat) (rB2 : Nat) (rB4 : Nat) (rB5 : Nat) (aH : Nat → Nat) (aD : Nat → Nat) (aI : Nat → Nat) (dI : Option Nat) (x1 : Int32) (tB : WbS) (tH : HouS) (tD : DayS) (tI : InnS) (rr : Int32 × InnS) (hf : f_X5_reach x1 tB tH tD tI = some rr) : CT l D cI cZ yX5_reach cX5_reach 4 (some .int) 6 135 0 0 [.ref (aB 0), .int x1] ([bC cI aB (aH 0) rB1 rB2 (aD 0) rB4 rB5 (aI 0) tB, hC cI aH tH, dC cI aD tD, iC cI aI (aH 0) dI tI]) (gPost (some (.int rr.1)) ([bC cI aB (aH 0) rB1 rB2 (aD 0) rB4 rB5 (aI 0) tB, hC cI aH tH, dC cI aD tD, iC cI aI (aH 0) dI rr.2])) := by
  obtain ⟨B_bedsByPlace, rfl⟩ : ∃ z, z = tB := ⟨_, rfl⟩
  obtain ⟨H_beds, H_law, H_sights, H_isKept, H_worths, H_sightGuests, H_sightBeds⟩ := tH
  obtain ⟨D_length, D_signs⟩ := tD
  obtain ⟨I_law, I_there, I_sleepers, I_empty, I_empties, I_yard, I_waiting, I_nights, I_used, I_sheets, I_lastOnes, I_guestsWithFleas, I_bedsWithFleas, I_isCounting⟩ := tI
  rw [f_X5_reach] at hf
  refine CT.mkI (by decide) (Nat.le_of_ble_eq_true rfl) fun {p} {e} {R} {s} {m} {args} {below} {meth} {c} {A} {H0} {Q} C hA hR hret => ?_
  show G p l e R s m args below meth c 4 D A H0 0 0 Q [bC cI aB (aH 0) rB1 rB2 (aD 0) rB4 rB5 (aI 0) B_bedsByPlace, hC cI aH (H_beds, H_law, H_sights, H_isKept, H_worths, H_sightGuests, H_sightBeds), dC cI aD (D_length, D_signs), iC cI aI (aH 0) dI (I_law, I_there, I_sleepers, I_empty, I_empties, I_yard, I_waiting, I_nights, I_used, I_sheets, I_lastOnes, I_guestsWithFleas, I_bedsWithFleas, I_isCounting)] 0 [(0, .ref (aB 0)), (1, .int x1)] []
  refine gq_aload_n C 0 1 dX5_reach_0 rfl rfl ?_
  refine gq_iload_n C 1 2 dX5_reach_1 rfl rfl ?_
  obtain ⟨r_2, hc, hf⟩ := gq_bd hf
  refine gq_callV C hA gm_X5_68 (c_X5_isBed l D cI cZ aB rB1 rB2 (aD 0) rB4 rB5 (aI 0) aH x1 B_bedsByPlace (H_beds, H_law, H_sights, H_isKept, H_worths, H_sightGuests, H_sightBeds) _ hc) rfl 0 0 rfl rfl rfl ⟨Nat.le_trans (Nat.le_of_ble_eq_true rfl) hR.1, Nat.le_trans (Nat.le_of_ble_eq_true rfl) hR.2.1⟩ ⟨Nat.zero_le _, Nat.zero_le _⟩ rfl (Nat.le_of_ble_eq_true rfl) dX5_reach_2 [0, 1] [bC cI aB (aH 0) rB1 rB2 (aD 0) rB4 rB5 (aI 0) B_bedsByPlace, hC cI aH (H_beds, H_law, H_sights, H_isKept, H_worths, H_sightGuests, H_sightBeds), dC cI aD (D_length, D_signs), iC cI aI (aH 0) dI (I_law, I_there, I_sleepers, I_empty, I_empties, I_yard, I_waiting, I_nights, I_used, I_sheets, I_lastOnes, I_guestsWithFleas, I_bedsWithFleas, I_isCounting)] 5 rfl (by decide) rfl rfl rfl [.int r_2] rfl ?_
  refine gq_if_ne C 10 8 dX5_reach_5 (by decide) rfl (fun h5 => ?_) (fun h5 => ?_)
  · replace hf := gq_ifn h5 hf
    refine gq_aload_n C 0 11 dX5_reach_10 rfl rfl ?_
    refine gq_iconst C (-1 : Int32) 12 dX5_reach_11 (by decide) rfl ?_
    obtain ⟨⟨r_12, ⟨I_law_12, I_there_12, I_sleepers_12, I_empty_12, I_empties_12, I_yard_12, I_waiting_12, I_nights_12, I_used_12, I_sheets_12, I_lastOnes_12, I_guestsWithFleas_12, I_bedsWithFleas_12, I_isCounting_12⟩⟩, hc, hf⟩ := gq_bd hf
    refine gq_callV C hA gm_X5_119 (c_X5_liveThrough l D cI cZ aB rB1 rB2 rB4 rB5 aH aD aI dI (-1 : Int32) B_bedsByPlace (H_beds, H_law, H_sights, H_isKept, H_worths, H_sightGuests, H_sightBeds) (D_length, D_signs) (I_law, I_there, I_sleepers, I_empty, I_empties, I_yard, I_waiting, I_nights, I_used, I_sheets, I_lastOnes, I_guestsWithFleas, I_bedsWithFleas, I_isCounting) _ hc) rfl 0 0 rfl rfl rfl ⟨Nat.le_trans (Nat.le_of_ble_eq_true rfl) hR.1, Nat.le_trans (Nat.le_of_ble_eq_true rfl) hR.2.1⟩ ⟨Nat.zero_le _, Nat.zero_le _⟩ rfl (Nat.le_of_ble_eq_true rfl) dX5_reach_12 [0, 1, 2, 3] [bC cI aB (aH 0) rB1 rB2 (aD 0) rB4 rB5 (aI 0) B_bedsByPlace, hC cI aH (H_beds, H_law, H_sights, H_isKept, H_worths, H_sightGuests, H_sightBeds), dC cI aD (D_length, D_signs), iC cI aI (aH 0) dI (I_law_12, I_there_12, I_sleepers_12, I_empty_12, I_empties_12, I_yard_12, I_waiting_12, I_nights_12, I_used_12, I_sheets_12, I_lastOnes_12, I_guestsWithFleas_12, I_bedsWithFleas_12, I_isCounting_12)] 15 rfl (by decide) rfl rfl rfl [.int r_12] rfl ?_
    refine gq_istore_n C [(2, .int r_12), (0, .ref (aB 0)), (1, .int x1)] 16 dX5_reach_15 (by decide) rfl rfl ?_
    refine gq_iload_n C 0 17 dX5_reach_16 rfl rfl ?_
    refine gq_if_eq C 22 20 dX5_reach_17 (by decide) rfl (fun h17 => ?_) (fun h17 => ?_)
    · replace hf := gq_ifp h17 hf
      refine gq_iconst C (nI 0) 23 dX5_reach_22 (by decide) rfl ?_
      refine gq_istore_n C [(3, .int (nI 0)), (2, .int r_12), (0, .ref (aB 0)), (1, .int x1)] 24 dX5_reach_23 (by decide) rfl rfl ?_
      have L24 : ∀ (kL : Int32 → Int32 → Int32 → (Nat → Int32) → (Nat → Int32) → Int32 → (Nat → Int32) → Int32 → (Nat → Int32) → (Nat → Int32) → (Nat → Int32) → (Nat → Int32) → Int32 → Int32 → Int32 → Option (Int32 × InnS)), (∀ (x3_L24 : Int32) (I_law_L24 : Int32) (I_there_L24 : Int32) (I_sleepers_L24 : (Nat → Int32)) (I_empty_L24 : (Nat → Int32)) (I_empties_L24 : Int32) (I_yard_L24 : (Nat → Int32)) (I_waiting_L24 : Int32) (I_nights_L24 : (Nat → Int32)) (I_used_L24 : (Nat → Int32)) (I_sheets_L24 : (Nat → Int32)) (I_lastOnes_L24 : (Nat → Int32)) (I_guestsWithFleas_L24 : Int32) (I_bedsWithFleas_L24 : Int32) (I_isCounting_L24 : Int32), kL x3_L24 I_law_L24 I_there_L24 I_sleepers_L24 I_empty_L24 I_empties_L24 I_yard_L24 I_waiting_L24 I_nights_L24 I_used_L24 I_sheets_L24 I_lastOnes_L24 I_guestsWithFleas_L24 I_bedsWithFleas_L24 I_isCounting_L24 = some rr → G p l e R s m args below meth c 4 D A H0 0 0 Q [bC cI aB (aH 0) rB1 rB2 (aD 0) rB4 rB5 (aI 0) B_bedsByPlace, hC cI aH (H_beds, H_law, H_sights, H_isKept, H_worths, H_sightGuests, H_sightBeds), dC cI aD (D_length, D_signs), iC cI aI (aH 0) dI (I_law_L24, I_there_L24, I_sleepers_L24, I_empty_L24, I_empties_L24, I_yard_L24, I_waiting_L24, I_nights_L24, I_used_L24, I_sheets_L24, I_lastOnes_L24, I_guestsWithFleas_L24, I_bedsWithFleas_L24, I_isCounting_L24)] 57 [(3, .int x3_L24), (2, .int r_12), (0, .ref (aB 0)), (1, .int x1)] []) → ∀ (n : Nat) (x3_L24 : Int32) (I_law_L24 : Int32) (I_there_L24 : Int32) (I_sleepers_L24 : (Nat → Int32)) (I_empty_L24 : (Nat → Int32)) (I_empties_L24 : Int32) (I_yard_L24 : (Nat → Int32)) (I_waiting_L24 : Int32) (I_nights_L24 : (Nat → Int32)) (I_used_L24 : (Nat → Int32)) (I_sheets_L24 : (Nat → Int32)) (I_lastOnes_L24 : (Nat → Int32)) (I_guestsWithFleas_L24 : Int32) (I_bedsWithFleas_L24 : Int32) (I_isCounting_L24 : Int32), f_X5_reach_L24 x1 H_beds H_law H_sights H_isKept H_worths H_sightGuests H_sightBeds n x3_L24 I_law_L24 I_there_L24 I_sleepers_L24 I_empty_L24 I_empties_L24 I_yard_L24 I_waiting_L24 I_nights_L24 I_used_L24 I_sheets_L24 I_lastOnes_L24 I_guestsWithFleas_L24 I_bedsWithFleas_L24 I_isCounting_L24 kL = some rr → G p l e R s m args below meth c 4 D A H0 0 0 Q [bC cI aB (aH 0) rB1 rB2 (aD 0) rB4 rB5 (aI 0) B_bedsByPlace, hC cI aH (H_beds, H_law, H_sights, H_isKept, H_worths, H_sightGuests, H_sightBeds), dC cI aD (D_length, D_signs), iC cI aI (aH 0) dI (I_law_L24, I_there_L24, I_sleepers_L24, I_empty_L24, I_empties_L24, I_yard_L24, I_waiting_L24, I_nights_L24, I_used_L24, I_sheets_L24, I_lastOnes_L24, I_guestsWithFleas_L24, I_bedsWithFleas_L24, I_isCounting_L24)] 24 [(3, .int x3_L24), (2, .int r_12), (0, .ref (aB 0)), (1, .int x1)] [] := by
        intro kL hkL24 n
        induction n with
        | zero =>
          intro x3_L24 I_law_L24 I_there_L24 I_sleepers_L24 I_empty_L24 I_empties_L24 I_yard_L24 I_waiting_L24 I_nights_L24 I_used_L24 I_sheets_L24 I_lastOnes_L24 I_guestsWithFleas_L24 I_bedsWithFleas_L24 I_isCounting_L24 hf
          rw [f_X5_reach_L24] at hf
          cases hf
        | succ n ihL24 =>
          intro x3_L24 I_law_L24 I_there_L24 I_sleepers_L24 I_empty_L24 I_empties_L24 I_yard_L24 I_waiting_L24 I_nights_L24 I_used_L24 I_sheets_L24 I_lastOnes_L24 I_guestsWithFleas_L24 I_bedsWithFleas_L24 I_isCounting_L24 hf
          rw [f_X5_reach_L24] at hf
          refine gq_iload_n C 0 25 dX5_reach_24 rfl rfl ?_
          refine gq_bipush C (nI 8) 27 dX5_reach_25 (by decide) rfl ?_
          refine gq_icmp_ge C 57 30 dX5_reach_27 (by decide) rfl (fun h27 => ?_) (fun h27 => ?_)
          · replace hf := gq_ifp h27 hf
            exact hkL24 _ _ _ _ _ _ _ _ _ _ _ _ _ _ _ hf
          · replace hf := gq_ifn h27 hf
            refine gq_aload_n C 2 31 dX5_reach_30 rfl rfl ?_
            refine gq_get C fo_X5_6 fw_X5_52 0 0 34 rfl rfl rfl dX5_reach_31 rfl ?_
            refine gq_iload_n C 3 35 dX5_reach_34 rfl rfl ?_
            obtain ⟨r_35, hc, hf⟩ := gq_bd hf
            refine gq_callN C hA gm_X5_125 (c_X3_sleeperOf l D cI cZ aI (aH 0) dI x1 (I_law_L24, I_there_L24, I_sleepers_L24, I_empty_L24, I_empties_L24, I_yard_L24, I_waiting_L24, I_nights_L24, I_used_L24, I_sheets_L24, I_lastOnes_L24, I_guestsWithFleas_L24, I_bedsWithFleas_L24, I_isCounting_L24) _ hc) rfl 3 0 rfl rfl rfl ⟨Nat.le_trans (Nat.le_of_ble_eq_true rfl) hR.1, Nat.le_trans (Nat.le_of_ble_eq_true rfl) hR.2.1⟩ ⟨Nat.zero_le _, Nat.zero_le _⟩ rfl (Nat.le_of_ble_eq_true rfl) dX5_reach_35 [3] [bC cI aB (aH 0) rB1 rB2 (aD 0) rB4 rB5 (aI 0) B_bedsByPlace, hC cI aH (H_beds, H_law, H_sights, H_isKept, H_worths, H_sightGuests, H_sightBeds), dC cI aD (D_length, D_signs), iC cI aI (aH 0) dI (I_law_L24, I_there_L24, I_sleepers_L24, I_empty_L24, I_empties_L24, I_yard_L24, I_waiting_L24, I_nights_L24, I_used_L24, I_sheets_L24, I_lastOnes_L24, I_guestsWithFleas_L24, I_bedsWithFleas_L24, I_isCounting_L24)] 38 rfl (by decide) rfl rfl rfl [.int r_35] rfl ?_
            refine gq_iconst C (-1 : Int32) 39 dX5_reach_38 (by decide) rfl ?_
            refine gq_icmp_ne C 57 42 dX5_reach_39 (by decide) rfl (fun h39 => ?_) (fun h39 => ?_)
            · replace hf := gq_ifn h39 hf
              exact hkL24 _ _ _ _ _ _ _ _ _ _ _ _ _ _ _ hf
            · replace hf := gq_ifp h39 hf
              refine gq_aload_n C 2 43 dX5_reach_42 rfl rfl ?_
              refine gq_get C fo_X5_6 fw_X5_52 0 0 46 rfl rfl rfl dX5_reach_43 rfl ?_
              refine gq_bipush C (nI 8) 48 dX5_reach_46 (by decide) rfl ?_
              obtain ⟨⟨I_law_48, I_there_48, I_sleepers_48, I_empty_48, I_empties_48, I_yard_48, I_waiting_48, I_nights_48, I_used_48, I_sheets_48, I_lastOnes_48, I_guestsWithFleas_48, I_bedsWithFleas_48, I_isCounting_48⟩, hc, hf⟩ := gq_bd hf
              refine gq_callN C hA gm_X5_155 (c_X3_takeIn l D cI cZ aH aI dI (nI 8) (H_beds, H_law, H_sights, H_isKept, H_worths, H_sightGuests, H_sightBeds) (I_law_L24, I_there_L24, I_sleepers_L24, I_empty_L24, I_empties_L24, I_yard_L24, I_waiting_L24, I_nights_L24, I_used_L24, I_sheets_L24, I_lastOnes_L24, I_guestsWithFleas_L24, I_bedsWithFleas_L24, I_isCounting_L24) _ hc) rfl 3 0 rfl rfl rfl ⟨Nat.le_trans (Nat.le_of_ble_eq_true rfl) hR.1, Nat.le_trans (Nat.le_of_ble_eq_true rfl) hR.2.1⟩ ⟨Nat.zero_le _, Nat.zero_le _⟩ rfl (Nat.le_of_ble_eq_true rfl) dX5_reach_48 [1, 3] [bC cI aB (aH 0) rB1 rB2 (aD 0) rB4 rB5 (aI 0) B_bedsByPlace, hC cI aH (H_beds, H_law, H_sights, H_isKept, H_worths, H_sightGuests, H_sightBeds), dC cI aD (D_length, D_signs), iC cI aI (aH 0) dI (I_law_48, I_there_48, I_sleepers_48, I_empty_48, I_empties_48, I_yard_48, I_waiting_48, I_nights_48, I_used_48, I_sheets_48, I_lastOnes_48, I_guestsWithFleas_48, I_bedsWithFleas_48, I_isCounting_48)] 51 rfl (by decide) rfl rfl rfl [] rfl ?_
              refine gq_iinc C 0 [(3, .int (x3_L24 + (nI 1))), (2, .int r_12), (0, .ref (aB 0)), (1, .int x1)] 54 dX5_reach_51 rfl rfl (by decide) rfl rfl ?_
              refine gq_goto C 24 dX5_reach_54 (by decide) ?_
              exact ihL24 _ _ _ _ _ _ _ _ _ _ _ _ _ _ _ hf
      refine L24 _ (fun x3_L24 I_law_L24 I_there_L24 I_sleepers_L24 I_empty_L24 I_empties_L24 I_yard_L24 I_waiting_L24 I_nights_L24 I_used_L24 I_sheets_L24 I_lastOnes_L24 I_guestsWithFleas_L24 I_bedsWithFleas_L24 I_isCounting_L24 hf => ?_) _ _ _ _ _ _ _ _ _ _ _ _ _ _ _ _ hf
      refine gq_iload_n C 0 58 dX5_reach_57 rfl rfl ?_
      obtain rfl := gq_lf hf
      exact hret dX5_reach_58 gPost.rf
    · replace hf := gq_ifn h17 hf
      refine gq_iload_n C 0 21 dX5_reach_20 rfl rfl ?_
      obtain rfl := gq_lf hf
      exact hret dX5_reach_21 gPost.rf
  · replace hf := gq_ifp h5 hf
    refine gq_iconst C (-1 : Int32) 9 dX5_reach_8 (by decide) rfl ?_
    obtain rfl := gq_lf hf
    exact hret dX5_reach_9 gPost.rf

def f_X5_fleas : Int32 → Int32 → WbS → HouS → DayS → InnS → Option (Int32 × InnS)
  | x1, x2, B_bedsByPlace, (H_beds, H_law, H_sights, H_isKept, H_worths, H_sightGuests, H_sightBeds), (D_length, D_signs), (I_law, I_there, I_sleepers, I_empty, I_empties, I_yard, I_waiting, I_nights, I_used, I_sheets, I_lastOnes, I_guestsWithFleas, I_bedsWithFleas, I_isCounting) => (if x1 < 0 then some ((-1 : Int32), (I_law, I_there, I_sleepers, I_empty, I_empties, I_yard, I_waiting, I_nights, I_used, I_sheets, I_lastOnes, I_guestsWithFleas, I_bedsWithFleas, I_isCounting)) else (if x1 < ((nI 8) + H_beds) then (Option.bind (f_X5_isEither x2) (fun r_21 => (if r_21 = 0 then some ((-2 : Int32), (I_law, I_there, I_sleepers, I_empty, I_empties, I_yard, I_waiting, I_nights, I_used, I_sheets, I_lastOnes, I_guestsWithFleas, I_bedsWithFleas, I_isCounting)) else (Option.bind (f_X5_liveThrough (-1 : Int32) B_bedsByPlace (H_beds, H_law, H_sights, H_isKept, H_worths, H_sightGuests, H_sightBeds) (D_length, D_signs) (I_law, I_there, I_sleepers, I_empty, I_empties, I_yard, I_waiting, I_nights, I_used, I_sheets, I_lastOnes, I_guestsWithFleas, I_bedsWithFleas, I_isCounting)) (fun (r_32, (I_law_32, I_there_32, I_sleepers_32, I_empty_32, I_empties_32, I_yard_32, I_waiting_32, I_nights_32, I_used_32, I_sheets_32, I_lastOnes_32, I_guestsWithFleas_32, I_bedsWithFleas_32, I_isCounting_32)) => (if r_32 = 0 then (Option.bind (f_X5_spreadFrom x1 B_bedsByPlace (H_beds, H_law, H_sights, H_isKept, H_worths, H_sightGuests, H_sightBeds) (D_length, D_signs) (I_law_32, I_there_32, I_sleepers_32, I_empty_32, I_empties_32, I_yard_32, I_waiting_32, I_nights_32, I_used_32, I_sheets_32, I_lastOnes_32, I_guestsWithFleas_32, I_bedsWithFleas_32, I_isCounting_32)) (fun (I_law_44, I_there_44, I_sleepers_44, I_empty_44, I_empties_44, I_yard_44, I_waiting_44, I_nights_44, I_used_44, I_sheets_44, I_lastOnes_44, I_guestsWithFleas_44, I_bedsWithFleas_44, I_isCounting_44) => (if x2 = 0 then some (I_guestsWithFleas_44, (I_law_44, I_there_44, I_sleepers_44, I_empty_44, I_empties_44, I_yard_44, I_waiting_44, I_nights_44, I_used_44, I_sheets_44, I_lastOnes_44, I_guestsWithFleas_44, I_bedsWithFleas_44, I_isCounting_44)) else some (I_bedsWithFleas_44, (I_law_44, I_there_44, I_sleepers_44, I_empty_44, I_empties_44, I_yard_44, I_waiting_44, I_nights_44, I_used_44, I_sheets_44, I_lastOnes_44, I_guestsWithFleas_44, I_bedsWithFleas_44, I_isCounting_44))))) else some (r_32, (I_law_32, I_there_32, I_sleepers_32, I_empty_32, I_empties_32, I_yard_32, I_waiting_32, I_nights_32, I_used_32, I_sheets_32, I_lastOnes_32, I_guestsWithFleas_32, I_bedsWithFleas_32, I_isCounting_32)))))))) else some ((-1 : Int32), (I_law, I_there, I_sleepers, I_empty, I_empties, I_yard, I_waiting, I_nights, I_used, I_sheets, I_lastOnes, I_guestsWithFleas, I_bedsWithFleas, I_isCounting))))
set_option maxHeartbeats 4000000 in
set_option maxRecDepth 100000 in
theorem c_X5_fleas (l : Launch) (D : va_G) (cI cZ : ClassId) (aB : Nat → Nat) (rB1 : Nat) (rB2 : Nat) (rB4 : Nat) (rB5 : Nat) (aH : Nat → Nat) (aD : Nat → Nat) (aI : Nat → Nat) (dI : Option Nat) (x1 : Int32) (x2 : Int32) (tB : WbS) (tH : HouS) (tD : DayS) (tI : InnS) (rr : Int32 × InnS) (hf : f_X5_fleas x1 x2 tB tH tD tI = some rr) : CT l D cI cZ yX5_fleas cX5_fleas 4 (some .int) 6 135 0 0 [.ref (aB 0), .int x1, .int x2] ([bC cI aB (aH 0) rB1 rB2 (aD 0) rB4 rB5 (aI 0) tB, hC cI aH tH, dC cI aD tD, iC cI aI (aH 0) dI tI]) (gPost (some (.int rr.1)) ([bC cI aB (aH 0) rB1 rB2 (aD 0) rB4 rB5 (aI 0) tB, hC cI aH tH, dC cI aD tD, iC cI aI (aH 0) dI rr.2])) := by
  obtain ⟨B_bedsByPlace, rfl⟩ : ∃ z, z = tB := ⟨_, rfl⟩
  obtain ⟨H_beds, H_law, H_sights, H_isKept, H_worths, H_sightGuests, H_sightBeds⟩ := tH
  obtain ⟨D_length, D_signs⟩ := tD
  obtain ⟨I_law, I_there, I_sleepers, I_empty, I_empties, I_yard, I_waiting, I_nights, I_used, I_sheets, I_lastOnes, I_guestsWithFleas, I_bedsWithFleas, I_isCounting⟩ := tI
  rw [f_X5_fleas] at hf
  refine CT.mkI (by decide) (Nat.le_of_ble_eq_true rfl) fun {p} {e} {R} {s} {m} {args} {below} {meth} {c} {A} {H0} {Q} C hA hR hret => ?_
  show G p l e R s m args below meth c 4 D A H0 0 0 Q [bC cI aB (aH 0) rB1 rB2 (aD 0) rB4 rB5 (aI 0) B_bedsByPlace, hC cI aH (H_beds, H_law, H_sights, H_isKept, H_worths, H_sightGuests, H_sightBeds), dC cI aD (D_length, D_signs), iC cI aI (aH 0) dI (I_law, I_there, I_sleepers, I_empty, I_empties, I_yard, I_waiting, I_nights, I_used, I_sheets, I_lastOnes, I_guestsWithFleas, I_bedsWithFleas, I_isCounting)] 0 [(0, .ref (aB 0)), (1, .int x1), (2, .int x2)] []
  refine gq_iload_n C 1 1 dX5_fleas_0 rfl rfl ?_
  refine gq_if_lt C 18 4 dX5_fleas_1 (by decide) rfl (fun h1 => ?_) (fun h1 => ?_)
  · replace hf := gq_ifp h1 hf
    refine gq_iconst C (-1 : Int32) 19 dX5_fleas_18 (by decide) rfl ?_
    obtain rfl := gq_lf hf
    exact hret dX5_fleas_19 gPost.rf
  · replace hf := gq_ifn h1 hf
    refine gq_iload_n C 1 5 dX5_fleas_4 rfl rfl ?_
    refine gq_bipush C (nI 8) 7 dX5_fleas_5 (by decide) rfl ?_
    refine gq_aload_n C 0 8 dX5_fleas_7 rfl rfl ?_
    refine gq_get C fo_X5_0 fw_X5_12 0 0 11 rfl rfl rfl dX5_fleas_8 rfl ?_
    refine gq_getN C fo_X2_0 fw_X5_56 1 0 14 rfl rfl rfl dX5_fleas_11 rfl ?_
    refine gq_iadd C 15 dX5_fleas_14 rfl ?_
    refine gq_icmp_lt C 20 18 dX5_fleas_15 (by decide) rfl (fun h15 => ?_) (fun h15 => ?_)
    · replace hf := gq_ifp h15 hf
      refine gq_iload_n C 2 21 dX5_fleas_20 rfl rfl ?_
      obtain ⟨r_21, hc, hf⟩ := gq_bd hf
      refine gq_callS C hA gm_X5_96 (c_X5_isEither l D cI cZ  x2 _ hc) rfl ⟨Nat.le_trans (Nat.le_of_ble_eq_true rfl) hR.1, Nat.le_trans (Nat.le_of_ble_eq_true rfl) hR.2.1⟩ ⟨Nat.zero_le _, Nat.zero_le _⟩ rfl (Nat.le_of_ble_eq_true rfl) dX5_fleas_21 [] [bC cI aB (aH 0) rB1 rB2 (aD 0) rB4 rB5 (aI 0) B_bedsByPlace, hC cI aH (H_beds, H_law, H_sights, H_isKept, H_worths, H_sightGuests, H_sightBeds), dC cI aD (D_length, D_signs), iC cI aI (aH 0) dI (I_law, I_there, I_sleepers, I_empty, I_empties, I_yard, I_waiting, I_nights, I_used, I_sheets, I_lastOnes, I_guestsWithFleas, I_bedsWithFleas, I_isCounting)] 24 rfl (by decide) rfl rfl rfl [.int r_21] rfl ?_
      refine gq_if_ne C 30 27 dX5_fleas_24 (by decide) rfl (fun h24 => ?_) (fun h24 => ?_)
      · replace hf := gq_ifn h24 hf
        refine gq_aload_n C 0 31 dX5_fleas_30 rfl rfl ?_
        refine gq_iconst C (-1 : Int32) 32 dX5_fleas_31 (by decide) rfl ?_
        obtain ⟨⟨r_32, ⟨I_law_32, I_there_32, I_sleepers_32, I_empty_32, I_empties_32, I_yard_32, I_waiting_32, I_nights_32, I_used_32, I_sheets_32, I_lastOnes_32, I_guestsWithFleas_32, I_bedsWithFleas_32, I_isCounting_32⟩⟩, hc, hf⟩ := gq_bd hf
        refine gq_callV C hA gm_X5_119 (c_X5_liveThrough l D cI cZ aB rB1 rB2 rB4 rB5 aH aD aI dI (-1 : Int32) B_bedsByPlace (H_beds, H_law, H_sights, H_isKept, H_worths, H_sightGuests, H_sightBeds) (D_length, D_signs) (I_law, I_there, I_sleepers, I_empty, I_empties, I_yard, I_waiting, I_nights, I_used, I_sheets, I_lastOnes, I_guestsWithFleas, I_bedsWithFleas, I_isCounting) _ hc) rfl 0 0 rfl rfl rfl ⟨Nat.le_trans (Nat.le_of_ble_eq_true rfl) hR.1, Nat.le_trans (Nat.le_of_ble_eq_true rfl) hR.2.1⟩ ⟨Nat.zero_le _, Nat.zero_le _⟩ rfl (Nat.le_of_ble_eq_true rfl) dX5_fleas_32 [0, 1, 2, 3] [bC cI aB (aH 0) rB1 rB2 (aD 0) rB4 rB5 (aI 0) B_bedsByPlace, hC cI aH (H_beds, H_law, H_sights, H_isKept, H_worths, H_sightGuests, H_sightBeds), dC cI aD (D_length, D_signs), iC cI aI (aH 0) dI (I_law_32, I_there_32, I_sleepers_32, I_empty_32, I_empties_32, I_yard_32, I_waiting_32, I_nights_32, I_used_32, I_sheets_32, I_lastOnes_32, I_guestsWithFleas_32, I_bedsWithFleas_32, I_isCounting_32)] 35 rfl (by decide) rfl rfl rfl [.int r_32] rfl ?_
        refine gq_istore_n C [(3, .int r_32), (0, .ref (aB 0)), (1, .int x1), (2, .int x2)] 36 dX5_fleas_35 (by decide) rfl rfl ?_
        refine gq_iload_n C 0 37 dX5_fleas_36 rfl rfl ?_
        refine gq_if_eq C 42 40 dX5_fleas_37 (by decide) rfl (fun h37 => ?_) (fun h37 => ?_)
        · replace hf := gq_ifp h37 hf
          refine gq_aload_n C 1 43 dX5_fleas_42 rfl rfl ?_
          refine gq_iload_n C 2 44 dX5_fleas_43 rfl rfl ?_
          obtain ⟨⟨I_law_44, I_there_44, I_sleepers_44, I_empty_44, I_empties_44, I_yard_44, I_waiting_44, I_nights_44, I_used_44, I_sheets_44, I_lastOnes_44, I_guestsWithFleas_44, I_bedsWithFleas_44, I_isCounting_44⟩, hc, hf⟩ := gq_bd hf
          refine gq_callV C hA gm_X5_176 (c_X5_spreadFrom l D cI cZ aB rB1 rB2 rB4 rB5 aH aD aI dI x1 B_bedsByPlace (H_beds, H_law, H_sights, H_isKept, H_worths, H_sightGuests, H_sightBeds) (D_length, D_signs) (I_law_32, I_there_32, I_sleepers_32, I_empty_32, I_empties_32, I_yard_32, I_waiting_32, I_nights_32, I_used_32, I_sheets_32, I_lastOnes_32, I_guestsWithFleas_32, I_bedsWithFleas_32, I_isCounting_32) _ hc) rfl 0 0 rfl rfl rfl ⟨Nat.le_trans (Nat.le_of_ble_eq_true rfl) hR.1, Nat.le_trans (Nat.le_of_ble_eq_true rfl) hR.2.1⟩ ⟨Nat.zero_le _, Nat.zero_le _⟩ rfl (Nat.le_of_ble_eq_true rfl) dX5_fleas_44 [0, 1, 2, 3] [bC cI aB (aH 0) rB1 rB2 (aD 0) rB4 rB5 (aI 0) B_bedsByPlace, hC cI aH (H_beds, H_law, H_sights, H_isKept, H_worths, H_sightGuests, H_sightBeds), dC cI aD (D_length, D_signs), iC cI aI (aH 0) dI (I_law_44, I_there_44, I_sleepers_44, I_empty_44, I_empties_44, I_yard_44, I_waiting_44, I_nights_44, I_used_44, I_sheets_44, I_lastOnes_44, I_guestsWithFleas_44, I_bedsWithFleas_44, I_isCounting_44)] 47 rfl (by decide) rfl rfl rfl [] rfl ?_
          refine gq_iload_n C 3 48 dX5_fleas_47 rfl rfl ?_
          refine gq_if_ne C 61 51 dX5_fleas_48 (by decide) rfl (fun h48 => ?_) (fun h48 => ?_)
          · replace hf := gq_ifn h48 hf
            refine gq_aload_n C 1 62 dX5_fleas_61 rfl rfl ?_
            refine gq_get C fo_X5_6 fw_X5_52 0 0 65 rfl rfl rfl dX5_fleas_62 rfl ?_
            refine gq_getN C fo_X3_14 fw_X5_182 3 0 68 rfl rfl rfl dX5_fleas_65 rfl ?_
            obtain rfl := gq_lf hf
            exact hret dX5_fleas_68 gPost.rf
          · replace hf := gq_ifp h48 hf
            refine gq_aload_n C 1 52 dX5_fleas_51 rfl rfl ?_
            refine gq_get C fo_X5_6 fw_X5_52 0 0 55 rfl rfl rfl dX5_fleas_52 rfl ?_
            refine gq_getN C fo_X3_13 fw_X5_179 3 0 58 rfl rfl rfl dX5_fleas_55 rfl ?_
            refine gq_goto C 68 dX5_fleas_58 (by decide) ?_
            obtain rfl := gq_lf hf
            exact hret dX5_fleas_68 gPost.rf
        · replace hf := gq_ifn h37 hf
          refine gq_iload_n C 0 41 dX5_fleas_40 rfl rfl ?_
          obtain rfl := gq_lf hf
          exact hret dX5_fleas_41 gPost.rf
      · replace hf := gq_ifp h24 hf
        refine gq_bipush C (-2 : Int32) 29 dX5_fleas_27 (by decide) rfl ?_
        obtain rfl := gq_lf hf
        exact hret dX5_fleas_29 gPost.rf
    · replace hf := gq_ifn h15 hf
      refine gq_iconst C (-1 : Int32) 19 dX5_fleas_18 (by decide) rfl ?_
      obtain rfl := gq_lf hf
      exact hret dX5_fleas_19 gPost.rf

def f_X5_brought_L31 (c_x1 : Int32) (c_B_bedsByPlace : (Nat → Int32)) (c_H_beds : Int32) (c_H_law : Int32) (c_H_sights : Int32) (c_H_isKept : Int32) (c_H_worths : (Nat → Int32)) (c_H_sightGuests : (Nat → Int32)) (c_H_sightBeds : (Nat → Int32)) (c_D_length : Int32) (c_D_signs : (Nat → Int32)) : Nat → Int32 → Int32 → Int32 → Int32 → (Nat → Int32) → (Nat → Int32) → Int32 → (Nat → Int32) → Int32 → (Nat → Int32) → (Nat → Int32) → (Nat → Int32) → (Nat → Int32) → Int32 → Int32 → Int32 → (Int32 → Int32 → Int32 → Int32 → (Nat → Int32) → (Nat → Int32) → Int32 → (Nat → Int32) → Int32 → (Nat → Int32) → (Nat → Int32) → (Nat → Int32) → (Nat → Int32) → Int32 → Int32 → Int32 → Option (Int32 × InnS)) → Option (Int32 × InnS)
  | 0, _, _, _, _, _, _, _, _, _, _, _, _, _, _, _, _, _ => none
  | nL31 + 1, x3_L31, x4_L31, I_law_L31, I_there_L31, I_sleepers_L31, I_empty_L31, I_empties_L31, I_yard_L31, I_waiting_L31, I_nights_L31, I_used_L31, I_sheets_L31, I_lastOnes_L31, I_guestsWithFleas_L31, I_bedsWithFleas_L31, I_isCounting_L31, kL31 => (if (nI 8) ≤ x4_L31 then kL31 x3_L31 x4_L31 I_law_L31 I_there_L31 I_sleepers_L31 I_empty_L31 I_empties_L31 I_yard_L31 I_waiting_L31 I_nights_L31 I_used_L31 I_sheets_L31 I_lastOnes_L31 I_guestsWithFleas_L31 I_bedsWithFleas_L31 I_isCounting_L31 else (Option.bind (f_X5_spreadFrom x4_L31 c_B_bedsByPlace (c_H_beds, c_H_law, c_H_sights, c_H_isKept, c_H_worths, c_H_sightGuests, c_H_sightBeds) (c_D_length, c_D_signs) (I_law_L31, I_there_L31, I_sleepers_L31, I_empty_L31, I_empties_L31, I_yard_L31, I_waiting_L31, I_nights_L31, I_used_L31, I_sheets_L31, I_lastOnes_L31, I_guestsWithFleas_L31, I_bedsWithFleas_L31, I_isCounting_L31)) (fun (I_law_41, I_there_41, I_sleepers_41, I_empty_41, I_empties_41, I_yard_41, I_waiting_41, I_nights_41, I_used_41, I_sheets_41, I_lastOnes_41, I_guestsWithFleas_41, I_bedsWithFleas_41, I_isCounting_41) => (if I_guestsWithFleas_41 = c_x1 then f_X5_brought_L31 c_x1 c_B_bedsByPlace c_H_beds c_H_law c_H_sights c_H_isKept c_H_worths c_H_sightGuests c_H_sightBeds c_D_length c_D_signs nL31 (x3_L31 ||| ((nI 1) <<< (x4_L31 &&& 31))) (x4_L31 + (nI 1)) I_law_41 I_there_41 I_sleepers_41 I_empty_41 I_empties_41 I_yard_41 I_waiting_41 I_nights_41 I_used_41 I_sheets_41 I_lastOnes_41 I_guestsWithFleas_41 I_bedsWithFleas_41 I_isCounting_41 kL31 else f_X5_brought_L31 c_x1 c_B_bedsByPlace c_H_beds c_H_law c_H_sights c_H_isKept c_H_worths c_H_sightGuests c_H_sightBeds c_D_length c_D_signs nL31 x3_L31 (x4_L31 + (nI 1)) I_law_41 I_there_41 I_sleepers_41 I_empty_41 I_empties_41 I_yard_41 I_waiting_41 I_nights_41 I_used_41 I_sheets_41 I_lastOnes_41 I_guestsWithFleas_41 I_bedsWithFleas_41 I_isCounting_41 kL31))))
def f_X5_brought : Int32 → WbS → HouS → DayS → InnS → Option (Int32 × InnS)
  | x1, B_bedsByPlace, (H_beds, H_law, H_sights, H_isKept, H_worths, H_sightGuests, H_sightBeds), (D_length, D_signs), (I_law, I_there, I_sleepers, I_empty, I_empties, I_yard, I_waiting, I_nights, I_used, I_sheets, I_lastOnes, I_guestsWithFleas, I_bedsWithFleas, I_isCounting) => (if x1 < 0 then some ((-2 : Int32), (I_law, I_there, I_sleepers, I_empty, I_empties, I_yard, I_waiting, I_nights, I_used, I_sheets, I_lastOnes, I_guestsWithFleas, I_bedsWithFleas, I_isCounting)) else (if x1 ≤ (nI 255) then (Option.bind (f_X5_liveThrough (-1 : Int32) B_bedsByPlace (H_beds, H_law, H_sights, H_isKept, H_worths, H_sightGuests, H_sightBeds) (D_length, D_signs) (I_law, I_there, I_sleepers, I_empty, I_empties, I_yard, I_waiting, I_nights, I_used, I_sheets, I_lastOnes, I_guestsWithFleas, I_bedsWithFleas, I_isCounting)) (fun (r_16, (I_law_16, I_there_16, I_sleepers_16, I_empty_16, I_empties_16, I_yard_16, I_waiting_16, I_nights_16, I_used_16, I_sheets_16, I_lastOnes_16, I_guestsWithFleas_16, I_bedsWithFleas_16, I_isCounting_16)) => (if r_16 = 0 then f_X5_brought_L31 x1 B_bedsByPlace H_beds H_law H_sights H_isKept H_worths H_sightGuests H_sightBeds D_length D_signs FU (nI 0) (nI 0) I_law_16 I_there_16 I_sleepers_16 I_empty_16 I_empties_16 I_yard_16 I_waiting_16 I_nights_16 I_used_16 I_sheets_16 I_lastOnes_16 I_guestsWithFleas_16 I_bedsWithFleas_16 I_isCounting_16 (fun x3_L31 x4_L31 I_law_L31 I_there_L31 I_sleepers_L31 I_empty_L31 I_empties_L31 I_yard_L31 I_waiting_L31 I_nights_L31 I_used_L31 I_sheets_L31 I_lastOnes_L31 I_guestsWithFleas_L31 I_bedsWithFleas_L31 I_isCounting_L31 => some (x3_L31, (I_law_L31, I_there_L31, I_sleepers_L31, I_empty_L31, I_empties_L31, I_yard_L31, I_waiting_L31, I_nights_L31, I_used_L31, I_sheets_L31, I_lastOnes_L31, I_guestsWithFleas_L31, I_bedsWithFleas_L31, I_isCounting_L31))) else some (r_16, (I_law_16, I_there_16, I_sleepers_16, I_empty_16, I_empties_16, I_yard_16, I_waiting_16, I_nights_16, I_used_16, I_sheets_16, I_lastOnes_16, I_guestsWithFleas_16, I_bedsWithFleas_16, I_isCounting_16))))) else some ((-2 : Int32), (I_law, I_there, I_sleepers, I_empty, I_empties, I_yard, I_waiting, I_nights, I_used, I_sheets, I_lastOnes, I_guestsWithFleas, I_bedsWithFleas, I_isCounting))))
set_option maxHeartbeats 4000000 in
set_option maxRecDepth 100000 in
theorem c_X5_brought (l : Launch) (D : va_G) (cI cZ : ClassId) (aB : Nat → Nat) (rB1 : Nat) (rB2 : Nat) (rB4 : Nat) (rB5 : Nat) (aH : Nat → Nat) (aD : Nat → Nat) (aI : Nat → Nat) (dI : Option Nat) (x1 : Int32) (tB : WbS) (tH : HouS) (tD : DayS) (tI : InnS) (rr : Int32 × InnS) (hf : f_X5_brought x1 tB tH tD tI = some rr) : CT l D cI cZ yX5_brought cX5_brought 5 (some .int) 6 135 0 0 [.ref (aB 0), .int x1] ([bC cI aB (aH 0) rB1 rB2 (aD 0) rB4 rB5 (aI 0) tB, hC cI aH tH, dC cI aD tD, iC cI aI (aH 0) dI tI]) (gPost (some (.int rr.1)) ([bC cI aB (aH 0) rB1 rB2 (aD 0) rB4 rB5 (aI 0) tB, hC cI aH tH, dC cI aD tD, iC cI aI (aH 0) dI rr.2])) := by
  obtain ⟨B_bedsByPlace, rfl⟩ : ∃ z, z = tB := ⟨_, rfl⟩
  obtain ⟨H_beds, H_law, H_sights, H_isKept, H_worths, H_sightGuests, H_sightBeds⟩ := tH
  obtain ⟨D_length, D_signs⟩ := tD
  obtain ⟨I_law, I_there, I_sleepers, I_empty, I_empties, I_yard, I_waiting, I_nights, I_used, I_sheets, I_lastOnes, I_guestsWithFleas, I_bedsWithFleas, I_isCounting⟩ := tI
  rw [f_X5_brought] at hf
  refine CT.mkI (by decide) (Nat.le_of_ble_eq_true rfl) fun {p} {e} {R} {s} {m} {args} {below} {meth} {c} {A} {H0} {Q} C hA hR hret => ?_
  show G p l e R s m args below meth c 5 D A H0 0 0 Q [bC cI aB (aH 0) rB1 rB2 (aD 0) rB4 rB5 (aI 0) B_bedsByPlace, hC cI aH (H_beds, H_law, H_sights, H_isKept, H_worths, H_sightGuests, H_sightBeds), dC cI aD (D_length, D_signs), iC cI aI (aH 0) dI (I_law, I_there, I_sleepers, I_empty, I_empties, I_yard, I_waiting, I_nights, I_used, I_sheets, I_lastOnes, I_guestsWithFleas, I_bedsWithFleas, I_isCounting)] 0 [(0, .ref (aB 0)), (1, .int x1)] []
  refine gq_iload_n C 1 1 dX5_brought_0 rfl rfl ?_
  refine gq_if_lt C 11 4 dX5_brought_1 (by decide) rfl (fun h1 => ?_) (fun h1 => ?_)
  · replace hf := gq_ifp h1 hf
    refine gq_bipush C (-2 : Int32) 13 dX5_brought_11 (by decide) rfl ?_
    obtain rfl := gq_lf hf
    exact hret dX5_brought_13 gPost.rf
  · replace hf := gq_ifn h1 hf
    refine gq_iload_n C 1 5 dX5_brought_4 rfl rfl ?_
    refine gq_sipush C (nI 255) 8 dX5_brought_5 (by decide) rfl ?_
    refine gq_icmp_le C 14 11 dX5_brought_8 (by decide) rfl (fun h8 => ?_) (fun h8 => ?_)
    · replace hf := gq_ifp h8 hf
      refine gq_aload_n C 0 15 dX5_brought_14 rfl rfl ?_
      refine gq_iconst C (-1 : Int32) 16 dX5_brought_15 (by decide) rfl ?_
      obtain ⟨⟨r_16, ⟨I_law_16, I_there_16, I_sleepers_16, I_empty_16, I_empties_16, I_yard_16, I_waiting_16, I_nights_16, I_used_16, I_sheets_16, I_lastOnes_16, I_guestsWithFleas_16, I_bedsWithFleas_16, I_isCounting_16⟩⟩, hc, hf⟩ := gq_bd hf
      refine gq_callV C hA gm_X5_119 (c_X5_liveThrough l D cI cZ aB rB1 rB2 rB4 rB5 aH aD aI dI (-1 : Int32) B_bedsByPlace (H_beds, H_law, H_sights, H_isKept, H_worths, H_sightGuests, H_sightBeds) (D_length, D_signs) (I_law, I_there, I_sleepers, I_empty, I_empties, I_yard, I_waiting, I_nights, I_used, I_sheets, I_lastOnes, I_guestsWithFleas, I_bedsWithFleas, I_isCounting) _ hc) rfl 0 0 rfl rfl rfl ⟨Nat.le_trans (Nat.le_of_ble_eq_true rfl) hR.1, Nat.le_trans (Nat.le_of_ble_eq_true rfl) hR.2.1⟩ ⟨Nat.zero_le _, Nat.zero_le _⟩ rfl (Nat.le_of_ble_eq_true rfl) dX5_brought_16 [0, 1, 2, 3] [bC cI aB (aH 0) rB1 rB2 (aD 0) rB4 rB5 (aI 0) B_bedsByPlace, hC cI aH (H_beds, H_law, H_sights, H_isKept, H_worths, H_sightGuests, H_sightBeds), dC cI aD (D_length, D_signs), iC cI aI (aH 0) dI (I_law_16, I_there_16, I_sleepers_16, I_empty_16, I_empties_16, I_yard_16, I_waiting_16, I_nights_16, I_used_16, I_sheets_16, I_lastOnes_16, I_guestsWithFleas_16, I_bedsWithFleas_16, I_isCounting_16)] 19 rfl (by decide) rfl rfl rfl [.int r_16] rfl ?_
      refine gq_istore_n C [(2, .int r_16), (0, .ref (aB 0)), (1, .int x1)] 20 dX5_brought_19 (by decide) rfl rfl ?_
      refine gq_iload_n C 0 21 dX5_brought_20 rfl rfl ?_
      refine gq_if_eq C 26 24 dX5_brought_21 (by decide) rfl (fun h21 => ?_) (fun h21 => ?_)
      · replace hf := gq_ifp h21 hf
        refine gq_iconst C (nI 0) 27 dX5_brought_26 (by decide) rfl ?_
        refine gq_istore_n C [(3, .int (nI 0)), (2, .int r_16), (0, .ref (aB 0)), (1, .int x1)] 28 dX5_brought_27 (by decide) rfl rfl ?_
        refine gq_iconst C (nI 0) 29 dX5_brought_28 (by decide) rfl ?_
        refine gq_istore C [(4, .int (nI 0)), (3, .int (nI 0)), (2, .int r_16), (0, .ref (aB 0)), (1, .int x1)] 31 dX5_brought_29 (by decide) rfl rfl ?_
        have L31 : ∀ (kL : Int32 → Int32 → Int32 → Int32 → (Nat → Int32) → (Nat → Int32) → Int32 → (Nat → Int32) → Int32 → (Nat → Int32) → (Nat → Int32) → (Nat → Int32) → (Nat → Int32) → Int32 → Int32 → Int32 → Option (Int32 × InnS)), (∀ (x3_L31 : Int32) (x4_L31 : Int32) (I_law_L31 : Int32) (I_there_L31 : Int32) (I_sleepers_L31 : (Nat → Int32)) (I_empty_L31 : (Nat → Int32)) (I_empties_L31 : Int32) (I_yard_L31 : (Nat → Int32)) (I_waiting_L31 : Int32) (I_nights_L31 : (Nat → Int32)) (I_used_L31 : (Nat → Int32)) (I_sheets_L31 : (Nat → Int32)) (I_lastOnes_L31 : (Nat → Int32)) (I_guestsWithFleas_L31 : Int32) (I_bedsWithFleas_L31 : Int32) (I_isCounting_L31 : Int32), kL x3_L31 x4_L31 I_law_L31 I_there_L31 I_sleepers_L31 I_empty_L31 I_empties_L31 I_yard_L31 I_waiting_L31 I_nights_L31 I_used_L31 I_sheets_L31 I_lastOnes_L31 I_guestsWithFleas_L31 I_bedsWithFleas_L31 I_isCounting_L31 = some rr → G p l e R s m args below meth c 5 D A H0 0 0 Q [bC cI aB (aH 0) rB1 rB2 (aD 0) rB4 rB5 (aI 0) B_bedsByPlace, hC cI aH (H_beds, H_law, H_sights, H_isKept, H_worths, H_sightGuests, H_sightBeds), dC cI aD (D_length, D_signs), iC cI aI (aH 0) dI (I_law_L31, I_there_L31, I_sleepers_L31, I_empty_L31, I_empties_L31, I_yard_L31, I_waiting_L31, I_nights_L31, I_used_L31, I_sheets_L31, I_lastOnes_L31, I_guestsWithFleas_L31, I_bedsWithFleas_L31, I_isCounting_L31)] 68 [(4, .int x4_L31), (3, .int x3_L31), (2, .int r_16), (0, .ref (aB 0)), (1, .int x1)] []) → ∀ (n : Nat) (x3_L31 : Int32) (x4_L31 : Int32) (I_law_L31 : Int32) (I_there_L31 : Int32) (I_sleepers_L31 : (Nat → Int32)) (I_empty_L31 : (Nat → Int32)) (I_empties_L31 : Int32) (I_yard_L31 : (Nat → Int32)) (I_waiting_L31 : Int32) (I_nights_L31 : (Nat → Int32)) (I_used_L31 : (Nat → Int32)) (I_sheets_L31 : (Nat → Int32)) (I_lastOnes_L31 : (Nat → Int32)) (I_guestsWithFleas_L31 : Int32) (I_bedsWithFleas_L31 : Int32) (I_isCounting_L31 : Int32), f_X5_brought_L31 x1 B_bedsByPlace H_beds H_law H_sights H_isKept H_worths H_sightGuests H_sightBeds D_length D_signs n x3_L31 x4_L31 I_law_L31 I_there_L31 I_sleepers_L31 I_empty_L31 I_empties_L31 I_yard_L31 I_waiting_L31 I_nights_L31 I_used_L31 I_sheets_L31 I_lastOnes_L31 I_guestsWithFleas_L31 I_bedsWithFleas_L31 I_isCounting_L31 kL = some rr → G p l e R s m args below meth c 5 D A H0 0 0 Q [bC cI aB (aH 0) rB1 rB2 (aD 0) rB4 rB5 (aI 0) B_bedsByPlace, hC cI aH (H_beds, H_law, H_sights, H_isKept, H_worths, H_sightGuests, H_sightBeds), dC cI aD (D_length, D_signs), iC cI aI (aH 0) dI (I_law_L31, I_there_L31, I_sleepers_L31, I_empty_L31, I_empties_L31, I_yard_L31, I_waiting_L31, I_nights_L31, I_used_L31, I_sheets_L31, I_lastOnes_L31, I_guestsWithFleas_L31, I_bedsWithFleas_L31, I_isCounting_L31)] 31 [(4, .int x4_L31), (3, .int x3_L31), (2, .int r_16), (0, .ref (aB 0)), (1, .int x1)] [] := by
          intro kL hkL31 n
          induction n with
          | zero =>
            intro x3_L31 x4_L31 I_law_L31 I_there_L31 I_sleepers_L31 I_empty_L31 I_empties_L31 I_yard_L31 I_waiting_L31 I_nights_L31 I_used_L31 I_sheets_L31 I_lastOnes_L31 I_guestsWithFleas_L31 I_bedsWithFleas_L31 I_isCounting_L31 hf
            rw [f_X5_brought_L31] at hf
            cases hf
          | succ n ihL31 =>
            intro x3_L31 x4_L31 I_law_L31 I_there_L31 I_sleepers_L31 I_empty_L31 I_empties_L31 I_yard_L31 I_waiting_L31 I_nights_L31 I_used_L31 I_sheets_L31 I_lastOnes_L31 I_guestsWithFleas_L31 I_bedsWithFleas_L31 I_isCounting_L31 hf
            rw [f_X5_brought_L31] at hf
            refine gq_iload C 0 33 dX5_brought_31 rfl rfl ?_
            refine gq_bipush C (nI 8) 35 dX5_brought_33 (by decide) rfl ?_
            refine gq_icmp_ge C 68 38 dX5_brought_35 (by decide) rfl (fun h35 => ?_) (fun h35 => ?_)
            · replace hf := gq_ifp h35 hf
              exact hkL31 _ _ _ _ _ _ _ _ _ _ _ _ _ _ _ _ hf
            · replace hf := gq_ifn h35 hf
              refine gq_aload_n C 3 39 dX5_brought_38 rfl rfl ?_
              refine gq_iload C 0 41 dX5_brought_39 rfl rfl ?_
              obtain ⟨⟨I_law_41, I_there_41, I_sleepers_41, I_empty_41, I_empties_41, I_yard_41, I_waiting_41, I_nights_41, I_used_41, I_sheets_41, I_lastOnes_41, I_guestsWithFleas_41, I_bedsWithFleas_41, I_isCounting_41⟩, hc, hf⟩ := gq_bd hf
              refine gq_callV C hA gm_X5_176 (c_X5_spreadFrom l D cI cZ aB rB1 rB2 rB4 rB5 aH aD aI dI x4_L31 B_bedsByPlace (H_beds, H_law, H_sights, H_isKept, H_worths, H_sightGuests, H_sightBeds) (D_length, D_signs) (I_law_L31, I_there_L31, I_sleepers_L31, I_empty_L31, I_empties_L31, I_yard_L31, I_waiting_L31, I_nights_L31, I_used_L31, I_sheets_L31, I_lastOnes_L31, I_guestsWithFleas_L31, I_bedsWithFleas_L31, I_isCounting_L31) _ hc) rfl 0 0 rfl rfl rfl ⟨Nat.le_trans (Nat.le_of_ble_eq_true rfl) hR.1, Nat.le_trans (Nat.le_of_ble_eq_true rfl) hR.2.1⟩ ⟨Nat.zero_le _, Nat.zero_le _⟩ rfl (Nat.le_of_ble_eq_true rfl) dX5_brought_41 [0, 1, 2, 3] [bC cI aB (aH 0) rB1 rB2 (aD 0) rB4 rB5 (aI 0) B_bedsByPlace, hC cI aH (H_beds, H_law, H_sights, H_isKept, H_worths, H_sightGuests, H_sightBeds), dC cI aD (D_length, D_signs), iC cI aI (aH 0) dI (I_law_41, I_there_41, I_sleepers_41, I_empty_41, I_empties_41, I_yard_41, I_waiting_41, I_nights_41, I_used_41, I_sheets_41, I_lastOnes_41, I_guestsWithFleas_41, I_bedsWithFleas_41, I_isCounting_41)] 44 rfl (by decide) rfl rfl rfl [] rfl ?_
              refine gq_aload_n C 3 45 dX5_brought_44 rfl rfl ?_
              refine gq_get C fo_X5_6 fw_X5_52 0 0 48 rfl rfl rfl dX5_brought_45 rfl ?_
              refine gq_getN C fo_X3_13 fw_X5_179 3 0 51 rfl rfl rfl dX5_brought_48 rfl ?_
              refine gq_iload_n C 4 52 dX5_brought_51 rfl rfl ?_
              refine gq_icmp_ne C 62 55 dX5_brought_52 (by decide) rfl (fun h52 => ?_) (fun h52 => ?_)
              · replace hf := gq_ifn h52 hf
                refine gq_iinc C 0 [(4, .int (x4_L31 + (nI 1))), (3, .int x3_L31), (2, .int r_16), (0, .ref (aB 0)), (1, .int x1)] 65 dX5_brought_62 rfl rfl (by decide) rfl rfl ?_
                refine gq_goto C 31 dX5_brought_65 (by decide) ?_
                exact ihL31 _ _ _ _ _ _ _ _ _ _ _ _ _ _ _ _ hf
              · replace hf := gq_ifp h52 hf
                refine gq_iload_n C 1 56 dX5_brought_55 rfl rfl ?_
                refine gq_iconst C (nI 1) 57 dX5_brought_56 (by decide) rfl ?_
                refine gq_iload C 0 59 dX5_brought_57 rfl rfl ?_
                refine gq_ishl C 60 dX5_brought_59 rfl ?_
                refine gq_ior C 61 dX5_brought_60 rfl ?_
                refine gq_istore_n C [(3, .int (x3_L31 ||| ((nI 1) <<< (x4_L31 &&& 31)))), (4, .int x4_L31), (2, .int r_16), (0, .ref (aB 0)), (1, .int x1)] 62 dX5_brought_61 (by decide) rfl rfl ?_
                refine gq_iinc C 1 [(4, .int (x4_L31 + (nI 1))), (3, .int (x3_L31 ||| ((nI 1) <<< (x4_L31 &&& 31)))), (2, .int r_16), (0, .ref (aB 0)), (1, .int x1)] 65 dX5_brought_62 rfl rfl (by decide) rfl rfl ?_
                refine gq_goto C 31 dX5_brought_65 (by decide) ?_
                exact ihL31 _ _ _ _ _ _ _ _ _ _ _ _ _ _ _ _ hf
        refine L31 _ (fun x3_L31 x4_L31 I_law_L31 I_there_L31 I_sleepers_L31 I_empty_L31 I_empties_L31 I_yard_L31 I_waiting_L31 I_nights_L31 I_used_L31 I_sheets_L31 I_lastOnes_L31 I_guestsWithFleas_L31 I_bedsWithFleas_L31 I_isCounting_L31 hf => ?_) _ _ _ _ _ _ _ _ _ _ _ _ _ _ _ _ _ hf
        refine gq_iload_n C 1 69 dX5_brought_68 rfl rfl ?_
        obtain rfl := gq_lf hf
        exact hret dX5_brought_69 gPost.rf
      · replace hf := gq_ifn h21 hf
        refine gq_iload_n C 0 25 dX5_brought_24 rfl rfl ?_
        obtain rfl := gq_lf hf
        exact hret dX5_brought_25 gPost.rf
    · replace hf := gq_ifn h8 hf
      refine gq_bipush C (-2 : Int32) 13 dX5_brought_11 (by decide) rfl ?_
      obtain rfl := gq_lf hf
      exact hret dX5_brought_13 gPost.rf

def f_X5_seen : Int32 → Int32 → WbS → HouS → Option (Int32 × HouS)
  | x1, x2, B_bedsByPlace, (H_beds, H_law, H_sights, H_isKept, H_worths, H_sightGuests, H_sightBeds) => (Option.bind (f_X5_isGuest x1) (fun r_1 => (if r_1 = 0 then some ((-1 : Int32), (H_beds, H_law, H_sights, H_isKept, H_worths, H_sightGuests, H_sightBeds)) else (Option.bind (f_X5_isBed x2 B_bedsByPlace (H_beds, H_law, H_sights, H_isKept, H_worths, H_sightGuests, H_sightBeds)) (fun r_9 => (if r_9 = 0 then some ((-1 : Int32), (H_beds, H_law, H_sights, H_isKept, H_worths, H_sightGuests, H_sightBeds)) else (if H_sights < (nI 6) then (Option.bind (f_X2_addSight x1 x2 (H_beds, H_law, H_sights, H_isKept, H_worths, H_sightGuests, H_sightBeds)) (fun (H_beds_38, H_law_38, H_sights_38, H_isKept_38, H_worths_38, H_sightGuests_38, H_sightBeds_38) => some (H_sights_38, (H_beds_38, H_law_38, H_sights_38, H_isKept_38, H_worths_38, H_sightGuests_38, H_sightBeds_38)))) else some ((-4 : Int32), (H_beds, H_law, H_sights, H_isKept, H_worths, H_sightGuests, H_sightBeds)))))))))
set_option maxHeartbeats 4000000 in
set_option maxRecDepth 100000 in
theorem c_X5_seen (l : Launch) (D : va_G) (cI cZ : ClassId) (aB : Nat → Nat) (rB1 : Nat) (rB2 : Nat) (rB3 : Nat) (rB4 : Nat) (rB5 : Nat) (rB6 : Nat) (aH : Nat → Nat) (x1 : Int32) (x2 : Int32) (tB : WbS) (tH : HouS) (rr : Int32 × HouS) (hf : f_X5_seen x1 x2 tB tH = some rr) : CT l D cI cZ yX5_seen cX5_seen 3 (some .int) 1 22 0 0 [.ref (aB 0), .int x1, .int x2] ([bC cI aB (aH 0) rB1 rB2 rB3 rB4 rB5 rB6 tB, hC cI aH tH]) (gPost (some (.int rr.1)) ([bC cI aB (aH 0) rB1 rB2 rB3 rB4 rB5 rB6 tB, hC cI aH rr.2])) := by
  obtain ⟨B_bedsByPlace, rfl⟩ : ∃ z, z = tB := ⟨_, rfl⟩
  obtain ⟨H_beds, H_law, H_sights, H_isKept, H_worths, H_sightGuests, H_sightBeds⟩ := tH
  rw [f_X5_seen] at hf
  refine CT.mkI (by decide) (Nat.le_of_ble_eq_true rfl) fun {p} {e} {R} {s} {m} {args} {below} {meth} {c} {A} {H0} {Q} C hA hR hret => ?_
  show G p l e R s m args below meth c 3 D A H0 0 0 Q [bC cI aB (aH 0) rB1 rB2 rB3 rB4 rB5 rB6 B_bedsByPlace, hC cI aH (H_beds, H_law, H_sights, H_isKept, H_worths, H_sightGuests, H_sightBeds)] 0 [(0, .ref (aB 0)), (1, .int x1), (2, .int x2)] []
  refine gq_iload_n C 1 1 dX5_seen_0 rfl rfl ?_
  obtain ⟨r_1, hc, hf⟩ := gq_bd hf
  refine gq_callS C hA gm_X5_64 (c_X5_isGuest l D cI cZ  x1 _ hc) rfl ⟨Nat.le_trans (Nat.le_of_ble_eq_true rfl) hR.1, Nat.le_trans (Nat.le_of_ble_eq_true rfl) hR.2.1⟩ ⟨Nat.zero_le _, Nat.zero_le _⟩ rfl (Nat.le_of_ble_eq_true rfl) dX5_seen_1 [] [bC cI aB (aH 0) rB1 rB2 rB3 rB4 rB5 rB6 B_bedsByPlace, hC cI aH (H_beds, H_law, H_sights, H_isKept, H_worths, H_sightGuests, H_sightBeds)] 4 rfl (by decide) rfl rfl rfl [.int r_1] rfl ?_
  refine gq_if_eq C 15 7 dX5_seen_4 (by decide) rfl (fun h4 => ?_) (fun h4 => ?_)
  · replace hf := gq_ifp h4 hf
    refine gq_iconst C (-1 : Int32) 16 dX5_seen_15 (by decide) rfl ?_
    obtain rfl := gq_lf hf
    exact hret dX5_seen_16 gPost.rf
  · replace hf := gq_ifn h4 hf
    refine gq_aload_n C 0 8 dX5_seen_7 rfl rfl ?_
    refine gq_iload_n C 2 9 dX5_seen_8 rfl rfl ?_
    obtain ⟨r_9, hc, hf⟩ := gq_bd hf
    refine gq_callV C hA gm_X5_68 (c_X5_isBed l D cI cZ aB rB1 rB2 rB3 rB4 rB5 rB6 aH x2 B_bedsByPlace (H_beds, H_law, H_sights, H_isKept, H_worths, H_sightGuests, H_sightBeds) _ hc) rfl 0 0 rfl rfl rfl ⟨Nat.le_trans (Nat.le_of_ble_eq_true rfl) hR.1, Nat.le_trans (Nat.le_of_ble_eq_true rfl) hR.2.1⟩ ⟨Nat.zero_le _, Nat.zero_le _⟩ rfl (Nat.le_of_ble_eq_true rfl) dX5_seen_9 [0, 1] [bC cI aB (aH 0) rB1 rB2 rB3 rB4 rB5 rB6 B_bedsByPlace, hC cI aH (H_beds, H_law, H_sights, H_isKept, H_worths, H_sightGuests, H_sightBeds)] 12 rfl (by decide) rfl rfl rfl [.int r_9] rfl ?_
    refine gq_if_ne C 17 15 dX5_seen_12 (by decide) rfl (fun h12 => ?_) (fun h12 => ?_)
    · replace hf := gq_ifn h12 hf
      refine gq_aload_n C 0 18 dX5_seen_17 rfl rfl ?_
      refine gq_get C fo_X5_0 fw_X5_12 0 0 21 rfl rfl rfl dX5_seen_18 rfl ?_
      refine gq_getN C fo_X2_2 fw_X5_185 1 0 24 rfl rfl rfl dX5_seen_21 rfl ?_
      refine gq_bipush C (nI 6) 26 dX5_seen_24 (by decide) rfl ?_
      refine gq_icmp_lt C 32 29 dX5_seen_26 (by decide) rfl (fun h26 => ?_) (fun h26 => ?_)
      · replace hf := gq_ifp h26 hf
        refine gq_aload_n C 0 33 dX5_seen_32 rfl rfl ?_
        refine gq_get C fo_X5_0 fw_X5_12 0 0 36 rfl rfl rfl dX5_seen_33 rfl ?_
        refine gq_iload_n C 1 37 dX5_seen_36 rfl rfl ?_
        refine gq_iload_n C 2 38 dX5_seen_37 rfl rfl ?_
        obtain ⟨⟨H_beds_38, H_law_38, H_sights_38, H_isKept_38, H_worths_38, H_sightGuests_38, H_sightBeds_38⟩, hc, hf⟩ := gq_bd hf
        refine gq_callN C hA gm_X5_188 (c_X2_addSight l D cI cZ aH x1 x2 (H_beds, H_law, H_sights, H_isKept, H_worths, H_sightGuests, H_sightBeds) _ hc) rfl 1 0 rfl rfl rfl ⟨Nat.le_trans (Nat.le_of_ble_eq_true rfl) hR.1, Nat.le_trans (Nat.le_of_ble_eq_true rfl) hR.2.1⟩ ⟨Nat.zero_le _, Nat.zero_le _⟩ rfl (Nat.le_of_ble_eq_true rfl) dX5_seen_38 [1] [bC cI aB (aH 0) rB1 rB2 rB3 rB4 rB5 rB6 B_bedsByPlace, hC cI aH (H_beds_38, H_law_38, H_sights_38, H_isKept_38, H_worths_38, H_sightGuests_38, H_sightBeds_38)] 41 rfl (by decide) rfl rfl rfl [] rfl ?_
        refine gq_aload_n C 0 42 dX5_seen_41 rfl rfl ?_
        refine gq_get C fo_X5_0 fw_X5_12 0 0 45 rfl rfl rfl dX5_seen_42 rfl ?_
        refine gq_getN C fo_X2_2 fw_X5_185 1 0 48 rfl rfl rfl dX5_seen_45 rfl ?_
        obtain rfl := gq_lf hf
        exact hret dX5_seen_48 gPost.rf
      · replace hf := gq_ifn h26 hf
        refine gq_bipush C (-4 : Int32) 31 dX5_seen_29 (by decide) rfl ?_
        obtain rfl := gq_lf hf
        exact hret dX5_seen_31 gPost.rf
    · replace hf := gq_ifp h12 hf
      refine gq_iconst C (-1 : Int32) 16 dX5_seen_15 (by decide) rfl ?_
      obtain rfl := gq_lf hf
      exact hret dX5_seen_16 gPost.rf

def f_X5_forget : WbS → HouS → Option (Int32 × HouS)
  | B_bedsByPlace, (H_beds, H_law, H_sights, H_isKept, H_worths, H_sightGuests, H_sightBeds) => some (H_sights, (H_beds, H_law, (nI 0), H_isKept, H_worths, H_sightGuests, H_sightBeds))
set_option maxHeartbeats 4000000 in
set_option maxRecDepth 100000 in
theorem c_X5_forget (l : Launch) (D : va_G) (cI cZ : ClassId) (aB : Nat → Nat) (rB1 : Nat) (rB2 : Nat) (rB3 : Nat) (rB4 : Nat) (rB5 : Nat) (rB6 : Nat) (aH : Nat → Nat) (tB : WbS) (tH : HouS) (rr : Int32 × HouS) (hf : f_X5_forget tB tH = some rr) : CT l D cI cZ yX5_forget cX5_forget 2 (some .int) 0 0 0 0 [.ref (aB 0)] ([bC cI aB (aH 0) rB1 rB2 rB3 rB4 rB5 rB6 tB, hC cI aH tH]) (gPost (some (.int rr.1)) ([bC cI aB (aH 0) rB1 rB2 rB3 rB4 rB5 rB6 tB, hC cI aH rr.2])) := by
  obtain ⟨B_bedsByPlace, rfl⟩ : ∃ z, z = tB := ⟨_, rfl⟩
  obtain ⟨H_beds, H_law, H_sights, H_isKept, H_worths, H_sightGuests, H_sightBeds⟩ := tH
  rw [f_X5_forget] at hf
  refine CT.mkI (by decide) (Nat.le_of_ble_eq_true rfl) fun {p} {e} {R} {s} {m} {args} {below} {meth} {c} {A} {H0} {Q} C hA hR hret => ?_
  show G p l e R s m args below meth c 2 D A H0 0 0 Q [bC cI aB (aH 0) rB1 rB2 rB3 rB4 rB5 rB6 B_bedsByPlace, hC cI aH (H_beds, H_law, H_sights, H_isKept, H_worths, H_sightGuests, H_sightBeds)] 0 [(0, .ref (aB 0))] []
  refine gq_aload_n C 0 1 dX5_forget_0 rfl rfl ?_
  refine gq_get C fo_X5_0 fw_X5_12 0 0 4 rfl rfl rfl dX5_forget_1 rfl ?_
  refine gq_getN C fo_X2_2 fw_X5_185 1 0 7 rfl rfl rfl dX5_forget_4 rfl ?_
  refine gq_istore_n C [(1, .int H_sights), (0, .ref (aB 0))] 8 dX5_forget_7 (by decide) rfl rfl ?_
  refine gq_aload_n C 1 9 dX5_forget_8 rfl rfl ?_
  refine gq_get C fo_X5_0 fw_X5_12 0 0 12 rfl rfl rfl dX5_forget_9 rfl ?_
  refine gq_iconst C (nI 0) 13 dX5_forget_12 (by decide) rfl ?_
  refine gq_putN C fo_X2_2 fp_X2_2 rfl fw_X5_185 1 0 16 [bC cI aB (aH 0) rB1 rB2 rB3 rB4 rB5 rB6 B_bedsByPlace, hC cI aH (H_beds, H_law, (nI 0), H_isKept, H_worths, H_sightGuests, H_sightBeds)] rfl rfl rfl rfl (Nat.le_of_ble_eq_true rfl) rfl dX5_forget_13 rfl ?_
  refine gq_iload_n C 0 17 dX5_forget_16 rfl rfl ?_
  obtain rfl := gq_lf hf
  exact hret dX5_forget_17 gPost.rf

def f_X5_year_L55 (c_x2 : Int32) (c_H_beds : Int32) (c_H_law : Int32) (c_H_sights : Int32) (c_H_isKept : Int32) (c_H_worths : (Nat → Int32)) (c_H_sightGuests : (Nat → Int32)) (c_H_sightBeds : (Nat → Int32)) : Nat → Int32 → Int32 → Int32 → Int32 → (Nat → Int32) → (Nat → Int32) → Int32 → (Nat → Int32) → Int32 → (Nat → Int32) → (Nat → Int32) → (Nat → Int32) → (Nat → Int32) → Int32 → Int32 → Int32 → (Int32 → Int32 → Int32 → Int32 → (Nat → Int32) → (Nat → Int32) → Int32 → (Nat → Int32) → Int32 → (Nat → Int32) → (Nat → Int32) → (Nat → Int32) → (Nat → Int32) → Int32 → Int32 → Int32 → Option (Int32 × InnS)) → Option (Int32 × InnS)
  | 0, _, _, _, _, _, _, _, _, _, _, _, _, _, _, _, _, _ => none
  | nL55 + 1, x4_L55, x5_L55, I_law_L55, I_there_L55, I_sleepers_L55, I_empty_L55, I_empties_L55, I_yard_L55, I_waiting_L55, I_nights_L55, I_used_L55, I_sheets_L55, I_lastOnes_L55, I_guestsWithFleas_L55, I_bedsWithFleas_L55, I_isCounting_L55, kL55 => (if c_x2 ≤ x5_L55 then kL55 x4_L55 x5_L55 I_law_L55 I_there_L55 I_sleepers_L55 I_empty_L55 I_empties_L55 I_yard_L55 I_waiting_L55 I_nights_L55 I_used_L55 I_sheets_L55 I_lastOnes_L55 I_guestsWithFleas_L55 I_bedsWithFleas_L55 I_isCounting_L55 else (Option.bind (f_X3_isThere (((((nI 75) * x4_L55) + (nI 74)) - (((nI 75) * x4_L55) + (nI 74)) / (nI 65537) * (nI 65537)) - ((((nI 75) * x4_L55) + (nI 74)) - (((nI 75) * x4_L55) + (nI 74)) / (nI 65537) * (nI 65537)) / (nI 8) * (nI 8)) (I_law_L55, I_there_L55, I_sleepers_L55, I_empty_L55, I_empties_L55, I_yard_L55, I_waiting_L55, I_nights_L55, I_used_L55, I_sheets_L55, I_lastOnes_L55, I_guestsWithFleas_L55, I_bedsWithFleas_L55, I_isCounting_L55)) (fun r_87 => (if r_87 = 0 then (Option.bind (f_X3_takeIn (((((nI 75) * x4_L55) + (nI 74)) - (((nI 75) * x4_L55) + (nI 74)) / (nI 65537) * (nI 65537)) - ((((nI 75) * x4_L55) + (nI 74)) - (((nI 75) * x4_L55) + (nI 74)) / (nI 65537) * (nI 65537)) / (nI 8) * (nI 8)) (c_H_beds, c_H_law, c_H_sights, c_H_isKept, c_H_worths, c_H_sightGuests, c_H_sightBeds) (I_law_L55, I_there_L55, I_sleepers_L55, I_empty_L55, I_empties_L55, I_yard_L55, I_waiting_L55, I_nights_L55, I_used_L55, I_sheets_L55, I_lastOnes_L55, I_guestsWithFleas_L55, I_bedsWithFleas_L55, I_isCounting_L55)) (fun (I_law_111, I_there_111, I_sleepers_111, I_empty_111, I_empties_111, I_yard_111, I_waiting_111, I_nights_111, I_used_111, I_sheets_111, I_lastOnes_111, I_guestsWithFleas_111, I_bedsWithFleas_111, I_isCounting_111) => f_X5_year_L55 c_x2 c_H_beds c_H_law c_H_sights c_H_isKept c_H_worths c_H_sightGuests c_H_sightBeds nL55 ((((nI 75) * x4_L55) + (nI 74)) - (((nI 75) * x4_L55) + (nI 74)) / (nI 65537) * (nI 65537)) (x5_L55 + (nI 1)) I_law_111 I_there_111 I_sleepers_111 I_empty_111 I_empties_111 I_yard_111 I_waiting_111 I_nights_111 I_used_111 I_sheets_111 I_lastOnes_111 I_guestsWithFleas_111 I_bedsWithFleas_111 I_isCounting_111 kL55)) else (Option.bind (f_X3_letGo (((((nI 75) * x4_L55) + (nI 74)) - (((nI 75) * x4_L55) + (nI 74)) / (nI 65537) * (nI 65537)) - ((((nI 75) * x4_L55) + (nI 74)) - (((nI 75) * x4_L55) + (nI 74)) / (nI 65537) * (nI 65537)) / (nI 8) * (nI 8)) (I_law_L55, I_there_L55, I_sleepers_L55, I_empty_L55, I_empties_L55, I_yard_L55, I_waiting_L55, I_nights_L55, I_used_L55, I_sheets_L55, I_lastOnes_L55, I_guestsWithFleas_L55, I_bedsWithFleas_L55, I_isCounting_L55)) (fun (I_law_99, I_there_99, I_sleepers_99, I_empty_99, I_empties_99, I_yard_99, I_waiting_99, I_nights_99, I_used_99, I_sheets_99, I_lastOnes_99, I_guestsWithFleas_99, I_bedsWithFleas_99, I_isCounting_99) => f_X5_year_L55 c_x2 c_H_beds c_H_law c_H_sights c_H_isKept c_H_worths c_H_sightGuests c_H_sightBeds nL55 ((((nI 75) * x4_L55) + (nI 74)) - (((nI 75) * x4_L55) + (nI 74)) / (nI 65537) * (nI 65537)) (x5_L55 + (nI 1)) I_law_99 I_there_99 I_sleepers_99 I_empty_99 I_empties_99 I_yard_99 I_waiting_99 I_nights_99 I_used_99 I_sheets_99 I_lastOnes_99 I_guestsWithFleas_99 I_bedsWithFleas_99 I_isCounting_99 kL55))))))
def f_X5_year : Int32 → Int32 → Int32 → WbS → HouS → InnS → Option (Int32 × InnS)
  | x1, x2, x3, B_bedsByPlace, (H_beds, H_law, H_sights, H_isKept, H_worths, H_sightGuests, H_sightBeds), (I_law, I_there, I_sleepers, I_empty, I_empties, I_yard, I_waiting, I_nights, I_used, I_sheets, I_lastOnes, I_guestsWithFleas, I_bedsWithFleas, I_isCounting) => (Option.bind (f_X5_isBed x3 B_bedsByPlace (H_beds, H_law, H_sights, H_isKept, H_worths, H_sightGuests, H_sightBeds)) (fun r_2 => (if r_2 = 0 then some ((-1 : Int32), (I_law, I_there, I_sleepers, I_empty, I_empties, I_yard, I_waiting, I_nights, I_used, I_sheets, I_lastOnes, I_guestsWithFleas, I_bedsWithFleas, I_isCounting)) else (if x1 < 0 then some ((-2 : Int32), (I_law, I_there, I_sleepers, I_empty, I_empties, I_yard, I_waiting, I_nights, I_used, I_sheets, I_lastOnes, I_guestsWithFleas, I_bedsWithFleas, I_isCounting)) else (if (nI 9999) < x1 then some ((-2 : Int32), (I_law, I_there, I_sleepers, I_empty, I_empties, I_yard, I_waiting, I_nights, I_used, I_sheets, I_lastOnes, I_guestsWithFleas, I_bedsWithFleas, I_isCounting)) else (if x2 < (nI 1) then some ((-2 : Int32), (I_law, I_there, I_sleepers, I_empty, I_empties, I_yard, I_waiting, I_nights, I_used, I_sheets, I_lastOnes, I_guestsWithFleas, I_bedsWithFleas, I_isCounting)) else (if x2 ≤ (nI 99) then (Option.bind (f_X3_open H_law (H_beds, H_law, H_sights, H_isKept, H_worths, H_sightGuests, H_sightBeds) (I_law, I_there, I_sleepers, I_empty, I_empties, I_yard, I_waiting, I_nights, I_used, I_sheets, I_lastOnes, I_guestsWithFleas, I_bedsWithFleas, I_isCounting)) (fun (I_law_46, I_there_46, I_sleepers_46, I_empty_46, I_empties_46, I_yard_46, I_waiting_46, I_nights_46, I_used_46, I_sheets_46, I_lastOnes_46, I_guestsWithFleas_46, I_bedsWithFleas_46, I_isCounting_46) => f_X5_year_L55 x2 H_beds H_law H_sights H_isKept H_worths H_sightGuests H_sightBeds FU x1 (nI 0) I_law_46 I_there_46 I_sleepers_46 I_empty_46 I_empties_46 I_yard_46 I_waiting_46 I_nights_46 I_used_46 I_sheets_46 I_lastOnes_46 I_guestsWithFleas_46 I_bedsWithFleas_46 I_isCounting_46 (fun x4_L55 x5_L55 I_law_L55 I_there_L55 I_sleepers_L55 I_empty_L55 I_empties_L55 I_yard_L55 I_waiting_L55 I_nights_L55 I_used_L55 I_sheets_L55 I_lastOnes_L55 I_guestsWithFleas_L55 I_bedsWithFleas_L55 I_isCounting_L55 => (Option.bind (f_X3_timesUsed x3 (I_law_L55, I_there_L55, I_sleepers_L55, I_empty_L55, I_empties_L55, I_yard_L55, I_waiting_L55, I_nights_L55, I_used_L55, I_sheets_L55, I_lastOnes_L55, I_guestsWithFleas_L55, I_bedsWithFleas_L55, I_isCounting_L55)) (fun r_125 => some (r_125, (I_law_L55, I_there_L55, I_sleepers_L55, I_empty_L55, I_empties_L55, I_yard_L55, I_waiting_L55, I_nights_L55, I_used_L55, I_sheets_L55, I_lastOnes_L55, I_guestsWithFleas_L55, I_bedsWithFleas_L55, I_isCounting_L55))))))) else some ((-2 : Int32), (I_law, I_there, I_sleepers, I_empty, I_empties, I_yard, I_waiting, I_nights, I_used, I_sheets, I_lastOnes, I_guestsWithFleas, I_bedsWithFleas, I_isCounting)))))))))
set_option maxHeartbeats 4000000 in
set_option maxRecDepth 100000 in
theorem c_X5_year (l : Launch) (D : va_G) (cI cZ : ClassId) (aB : Nat → Nat) (rB1 : Nat) (rB2 : Nat) (rB3 : Nat) (rB4 : Nat) (rB5 : Nat) (aH : Nat → Nat) (aI : Nat → Nat) (dI : Option Nat) (x1 : Int32) (x2 : Int32) (x3 : Int32) (tB : WbS) (tH : HouS) (tI : InnS) (rr : Int32 × InnS) (hf : f_X5_year x1 x2 x3 tB tH tI = some rr) : CT l D cI cZ yX5_year cX5_year 7 (some .int) 4 88 0 0 [.ref (aB 0), .int x1, .int x2, .int x3] ([bC cI aB (aH 0) rB1 rB2 rB3 rB4 rB5 (aI 0) tB, hC cI aH tH, iC cI aI (aH 0) dI tI]) (gPost (some (.int rr.1)) ([bC cI aB (aH 0) rB1 rB2 rB3 rB4 rB5 (aI 0) tB, hC cI aH tH, iC cI aI (aH 0) dI rr.2])) := by
  obtain ⟨B_bedsByPlace, rfl⟩ : ∃ z, z = tB := ⟨_, rfl⟩
  obtain ⟨H_beds, H_law, H_sights, H_isKept, H_worths, H_sightGuests, H_sightBeds⟩ := tH
  obtain ⟨I_law, I_there, I_sleepers, I_empty, I_empties, I_yard, I_waiting, I_nights, I_used, I_sheets, I_lastOnes, I_guestsWithFleas, I_bedsWithFleas, I_isCounting⟩ := tI
  rw [f_X5_year] at hf
  refine CT.mkI (by decide) (Nat.le_of_ble_eq_true rfl) fun {p} {e} {R} {s} {m} {args} {below} {meth} {c} {A} {H0} {Q} C hA hR hret => ?_
  show G p l e R s m args below meth c 7 D A H0 0 0 Q [bC cI aB (aH 0) rB1 rB2 rB3 rB4 rB5 (aI 0) B_bedsByPlace, hC cI aH (H_beds, H_law, H_sights, H_isKept, H_worths, H_sightGuests, H_sightBeds), iC cI aI (aH 0) dI (I_law, I_there, I_sleepers, I_empty, I_empties, I_yard, I_waiting, I_nights, I_used, I_sheets, I_lastOnes, I_guestsWithFleas, I_bedsWithFleas, I_isCounting)] 0 [(0, .ref (aB 0)), (1, .int x1), (2, .int x2), (3, .int x3)] []
  refine gq_aload_n C 0 1 dX5_year_0 rfl rfl ?_
  refine gq_iload_n C 3 2 dX5_year_1 rfl rfl ?_
  obtain ⟨r_2, hc, hf⟩ := gq_bd hf
  refine gq_callV C hA gm_X5_68 (c_X5_isBed l D cI cZ aB rB1 rB2 rB3 rB4 rB5 (aI 0) aH x3 B_bedsByPlace (H_beds, H_law, H_sights, H_isKept, H_worths, H_sightGuests, H_sightBeds) _ hc) rfl 0 0 rfl rfl rfl ⟨Nat.le_trans (Nat.le_of_ble_eq_true rfl) hR.1, Nat.le_trans (Nat.le_of_ble_eq_true rfl) hR.2.1⟩ ⟨Nat.zero_le _, Nat.zero_le _⟩ rfl (Nat.le_of_ble_eq_true rfl) dX5_year_2 [0, 1] [bC cI aB (aH 0) rB1 rB2 rB3 rB4 rB5 (aI 0) B_bedsByPlace, hC cI aH (H_beds, H_law, H_sights, H_isKept, H_worths, H_sightGuests, H_sightBeds), iC cI aI (aH 0) dI (I_law, I_there, I_sleepers, I_empty, I_empties, I_yard, I_waiting, I_nights, I_used, I_sheets, I_lastOnes, I_guestsWithFleas, I_bedsWithFleas, I_isCounting)] 5 rfl (by decide) rfl rfl rfl [.int r_2] rfl ?_
  refine gq_if_ne C 10 8 dX5_year_5 (by decide) rfl (fun h5 => ?_) (fun h5 => ?_)
  · replace hf := gq_ifn h5 hf
    refine gq_iload_n C 1 11 dX5_year_10 rfl rfl ?_
    refine gq_if_lt C 32 14 dX5_year_11 (by decide) rfl (fun h11 => ?_) (fun h11 => ?_)
    · replace hf := gq_ifp h11 hf
      refine gq_bipush C (-2 : Int32) 34 dX5_year_32 (by decide) rfl ?_
      obtain rfl := gq_lf hf
      exact hret dX5_year_34 gPost.rf
    · replace hf := gq_ifn h11 hf
      refine gq_iload_n C 1 15 dX5_year_14 rfl rfl ?_
      refine gq_sipush C (nI 9999) 18 dX5_year_15 (by decide) rfl ?_
      refine gq_icmp_gt C 32 21 dX5_year_18 (by decide) rfl (fun h18 => ?_) (fun h18 => ?_)
      · replace hf := gq_ifp h18 hf
        refine gq_bipush C (-2 : Int32) 34 dX5_year_32 (by decide) rfl ?_
        obtain rfl := gq_lf hf
        exact hret dX5_year_34 gPost.rf
      · replace hf := gq_ifn h18 hf
        refine gq_iload_n C 2 22 dX5_year_21 rfl rfl ?_
        refine gq_iconst C (nI 1) 23 dX5_year_22 (by decide) rfl ?_
        refine gq_icmp_lt C 32 26 dX5_year_23 (by decide) rfl (fun h23 => ?_) (fun h23 => ?_)
        · replace hf := gq_ifp h23 hf
          refine gq_bipush C (-2 : Int32) 34 dX5_year_32 (by decide) rfl ?_
          obtain rfl := gq_lf hf
          exact hret dX5_year_34 gPost.rf
        · replace hf := gq_ifn h23 hf
          refine gq_iload_n C 2 27 dX5_year_26 rfl rfl ?_
          refine gq_bipush C (nI 99) 29 dX5_year_27 (by decide) rfl ?_
          refine gq_icmp_le C 35 32 dX5_year_29 (by decide) rfl (fun h29 => ?_) (fun h29 => ?_)
          · replace hf := gq_ifp h29 hf
            refine gq_aload_n C 0 36 dX5_year_35 rfl rfl ?_
            refine gq_get C fo_X5_6 fw_X5_52 0 0 39 rfl rfl rfl dX5_year_36 rfl ?_
            refine gq_aload_n C 0 40 dX5_year_39 rfl rfl ?_
            refine gq_get C fo_X5_0 fw_X5_12 0 0 43 rfl rfl rfl dX5_year_40 rfl ?_
            refine gq_getN C fo_X2_1 fw_X5_79 1 0 46 rfl rfl rfl dX5_year_43 rfl ?_
            obtain ⟨⟨I_law_46, I_there_46, I_sleepers_46, I_empty_46, I_empties_46, I_yard_46, I_waiting_46, I_nights_46, I_used_46, I_sheets_46, I_lastOnes_46, I_guestsWithFleas_46, I_bedsWithFleas_46, I_isCounting_46⟩, hc, hf⟩ := gq_bd hf
            refine gq_callN C hA gm_X5_102 (c_X3_open l D cI cZ aH aI dI H_law (H_beds, H_law, H_sights, H_isKept, H_worths, H_sightGuests, H_sightBeds) (I_law, I_there, I_sleepers, I_empty, I_empties, I_yard, I_waiting, I_nights, I_used, I_sheets, I_lastOnes, I_guestsWithFleas, I_bedsWithFleas, I_isCounting) _ hc) rfl 2 0 rfl rfl rfl ⟨Nat.le_trans (Nat.le_of_ble_eq_true rfl) hR.1, Nat.le_trans (Nat.le_of_ble_eq_true rfl) hR.2.1⟩ ⟨Nat.zero_le _, Nat.zero_le _⟩ rfl (Nat.le_of_ble_eq_true rfl) dX5_year_46 [1, 2] [bC cI aB (aH 0) rB1 rB2 rB3 rB4 rB5 (aI 0) B_bedsByPlace, hC cI aH (H_beds, H_law, H_sights, H_isKept, H_worths, H_sightGuests, H_sightBeds), iC cI aI (aH 0) dI (I_law_46, I_there_46, I_sleepers_46, I_empty_46, I_empties_46, I_yard_46, I_waiting_46, I_nights_46, I_used_46, I_sheets_46, I_lastOnes_46, I_guestsWithFleas_46, I_bedsWithFleas_46, I_isCounting_46)] 49 rfl (by decide) rfl rfl rfl [] rfl ?_
            refine gq_iload_n C 1 50 dX5_year_49 rfl rfl ?_
            refine gq_istore C [(4, .int x1), (0, .ref (aB 0)), (1, .int x1), (2, .int x2), (3, .int x3)] 52 dX5_year_50 (by decide) rfl rfl ?_
            refine gq_iconst C (nI 0) 53 dX5_year_52 (by decide) rfl ?_
            refine gq_istore C [(5, .int (nI 0)), (4, .int x1), (0, .ref (aB 0)), (1, .int x1), (2, .int x2), (3, .int x3)] 55 dX5_year_53 (by decide) rfl rfl ?_
            have L55 : ∀ (kL : Int32 → Int32 → Int32 → Int32 → (Nat → Int32) → (Nat → Int32) → Int32 → (Nat → Int32) → Int32 → (Nat → Int32) → (Nat → Int32) → (Nat → Int32) → (Nat → Int32) → Int32 → Int32 → Int32 → Option (Int32 × InnS)), (∀ (x4_L55 : Int32) (x5_L55 : Int32) (I_law_L55 : Int32) (I_there_L55 : Int32) (I_sleepers_L55 : (Nat → Int32)) (I_empty_L55 : (Nat → Int32)) (I_empties_L55 : Int32) (I_yard_L55 : (Nat → Int32)) (I_waiting_L55 : Int32) (I_nights_L55 : (Nat → Int32)) (I_used_L55 : (Nat → Int32)) (I_sheets_L55 : (Nat → Int32)) (I_lastOnes_L55 : (Nat → Int32)) (I_guestsWithFleas_L55 : Int32) (I_bedsWithFleas_L55 : Int32) (I_isCounting_L55 : Int32), kL x4_L55 x5_L55 I_law_L55 I_there_L55 I_sleepers_L55 I_empty_L55 I_empties_L55 I_yard_L55 I_waiting_L55 I_nights_L55 I_used_L55 I_sheets_L55 I_lastOnes_L55 I_guestsWithFleas_L55 I_bedsWithFleas_L55 I_isCounting_L55 = some rr → G p l e R s m args below meth c 7 D A H0 0 0 Q [bC cI aB (aH 0) rB1 rB2 rB3 rB4 rB5 (aI 0) B_bedsByPlace, hC cI aH (H_beds, H_law, H_sights, H_isKept, H_worths, H_sightGuests, H_sightBeds), iC cI aI (aH 0) dI (I_law_L55, I_there_L55, I_sleepers_L55, I_empty_L55, I_empties_L55, I_yard_L55, I_waiting_L55, I_nights_L55, I_used_L55, I_sheets_L55, I_lastOnes_L55, I_guestsWithFleas_L55, I_bedsWithFleas_L55, I_isCounting_L55)] 120 [(5, .int x5_L55), (4, .int x4_L55), (0, .ref (aB 0)), (1, .int x1), (2, .int x2), (3, .int x3)] []) → ∀ (n : Nat) (x4_L55 : Int32) (x5_L55 : Int32) (I_law_L55 : Int32) (I_there_L55 : Int32) (I_sleepers_L55 : (Nat → Int32)) (I_empty_L55 : (Nat → Int32)) (I_empties_L55 : Int32) (I_yard_L55 : (Nat → Int32)) (I_waiting_L55 : Int32) (I_nights_L55 : (Nat → Int32)) (I_used_L55 : (Nat → Int32)) (I_sheets_L55 : (Nat → Int32)) (I_lastOnes_L55 : (Nat → Int32)) (I_guestsWithFleas_L55 : Int32) (I_bedsWithFleas_L55 : Int32) (I_isCounting_L55 : Int32), f_X5_year_L55 x2 H_beds H_law H_sights H_isKept H_worths H_sightGuests H_sightBeds n x4_L55 x5_L55 I_law_L55 I_there_L55 I_sleepers_L55 I_empty_L55 I_empties_L55 I_yard_L55 I_waiting_L55 I_nights_L55 I_used_L55 I_sheets_L55 I_lastOnes_L55 I_guestsWithFleas_L55 I_bedsWithFleas_L55 I_isCounting_L55 kL = some rr → G p l e R s m args below meth c 7 D A H0 0 0 Q [bC cI aB (aH 0) rB1 rB2 rB3 rB4 rB5 (aI 0) B_bedsByPlace, hC cI aH (H_beds, H_law, H_sights, H_isKept, H_worths, H_sightGuests, H_sightBeds), iC cI aI (aH 0) dI (I_law_L55, I_there_L55, I_sleepers_L55, I_empty_L55, I_empties_L55, I_yard_L55, I_waiting_L55, I_nights_L55, I_used_L55, I_sheets_L55, I_lastOnes_L55, I_guestsWithFleas_L55, I_bedsWithFleas_L55, I_isCounting_L55)] 55 [(5, .int x5_L55), (4, .int x4_L55), (0, .ref (aB 0)), (1, .int x1), (2, .int x2), (3, .int x3)] [] := by
              intro kL hkL55 n
              induction n with
              | zero =>
                intro x4_L55 x5_L55 I_law_L55 I_there_L55 I_sleepers_L55 I_empty_L55 I_empties_L55 I_yard_L55 I_waiting_L55 I_nights_L55 I_used_L55 I_sheets_L55 I_lastOnes_L55 I_guestsWithFleas_L55 I_bedsWithFleas_L55 I_isCounting_L55 hf
                rw [f_X5_year_L55] at hf
                cases hf
              | succ n ihL55 =>
                intro x4_L55 x5_L55 I_law_L55 I_there_L55 I_sleepers_L55 I_empty_L55 I_empties_L55 I_yard_L55 I_waiting_L55 I_nights_L55 I_used_L55 I_sheets_L55 I_lastOnes_L55 I_guestsWithFleas_L55 I_bedsWithFleas_L55 I_isCounting_L55 hf
                rw [f_X5_year_L55] at hf
                refine gq_iload C 0 57 dX5_year_55 rfl rfl ?_
                refine gq_iload_n C 4 58 dX5_year_57 rfl rfl ?_
                refine gq_icmp_ge C 120 61 dX5_year_58 (by decide) rfl (fun h58 => ?_) (fun h58 => ?_)
                · replace hf := gq_ifp h58 hf
                  exact hkL55 _ _ _ _ _ _ _ _ _ _ _ _ _ _ _ _ hf
                · replace hf := gq_ifn h58 hf
                  refine gq_bipush C (nI 75) 63 dX5_year_61 (by decide) rfl ?_
                  refine gq_iload C 1 65 dX5_year_63 rfl rfl ?_
                  refine gq_imul C 66 dX5_year_65 rfl ?_
                  refine gq_bipush C (nI 74) 68 dX5_year_66 (by decide) rfl ?_
                  refine gq_iadd C 69 dX5_year_68 rfl ?_
                  refine gq_ldc C (nI 65537) 71 cw_X5_219 dX5_year_69 rfl ?_
                  refine gq_irem C 72 dX5_year_71 (by decide) rfl ?_
                  refine gq_istore C [(4, .int ((((nI 75) * x4_L55) + (nI 74)) - (((nI 75) * x4_L55) + (nI 74)) / (nI 65537) * (nI 65537))), (5, .int x5_L55), (0, .ref (aB 0)), (1, .int x1), (2, .int x2), (3, .int x3)] 74 dX5_year_72 (by decide) rfl rfl ?_
                  refine gq_iload C 0 76 dX5_year_74 rfl rfl ?_
                  refine gq_bipush C (nI 8) 78 dX5_year_76 (by decide) rfl ?_
                  refine gq_irem C 79 dX5_year_78 (by decide) rfl ?_
                  refine gq_istore C [(6, .int (((((nI 75) * x4_L55) + (nI 74)) - (((nI 75) * x4_L55) + (nI 74)) / (nI 65537) * (nI 65537)) - ((((nI 75) * x4_L55) + (nI 74)) - (((nI 75) * x4_L55) + (nI 74)) / (nI 65537) * (nI 65537)) / (nI 8) * (nI 8))), (4, .int ((((nI 75) * x4_L55) + (nI 74)) - (((nI 75) * x4_L55) + (nI 74)) / (nI 65537) * (nI 65537))), (5, .int x5_L55), (0, .ref (aB 0)), (1, .int x1), (2, .int x2), (3, .int x3)] 81 dX5_year_79 (by decide) rfl rfl ?_
                  refine gq_aload_n C 3 82 dX5_year_81 rfl rfl ?_
                  refine gq_get C fo_X5_6 fw_X5_52 0 0 85 rfl rfl rfl dX5_year_82 rfl ?_
                  refine gq_iload C 0 87 dX5_year_85 rfl rfl ?_
                  obtain ⟨r_87, hc, hf⟩ := gq_bd hf
                  refine gq_callN C hA gm_X5_220 (c_X3_isThere l D cI cZ aI (aH 0) dI (((((nI 75) * x4_L55) + (nI 74)) - (((nI 75) * x4_L55) + (nI 74)) / (nI 65537) * (nI 65537)) - ((((nI 75) * x4_L55) + (nI 74)) - (((nI 75) * x4_L55) + (nI 74)) / (nI 65537) * (nI 65537)) / (nI 8) * (nI 8)) (I_law_L55, I_there_L55, I_sleepers_L55, I_empty_L55, I_empties_L55, I_yard_L55, I_waiting_L55, I_nights_L55, I_used_L55, I_sheets_L55, I_lastOnes_L55, I_guestsWithFleas_L55, I_bedsWithFleas_L55, I_isCounting_L55) _ hc) rfl 2 0 rfl rfl rfl ⟨Nat.le_trans (Nat.le_of_ble_eq_true rfl) hR.1, Nat.le_trans (Nat.le_of_ble_eq_true rfl) hR.2.1⟩ ⟨Nat.zero_le _, Nat.zero_le _⟩ rfl (Nat.le_of_ble_eq_true rfl) dX5_year_87 [2] [bC cI aB (aH 0) rB1 rB2 rB3 rB4 rB5 (aI 0) B_bedsByPlace, hC cI aH (H_beds, H_law, H_sights, H_isKept, H_worths, H_sightGuests, H_sightBeds), iC cI aI (aH 0) dI (I_law_L55, I_there_L55, I_sleepers_L55, I_empty_L55, I_empties_L55, I_yard_L55, I_waiting_L55, I_nights_L55, I_used_L55, I_sheets_L55, I_lastOnes_L55, I_guestsWithFleas_L55, I_bedsWithFleas_L55, I_isCounting_L55)] 90 rfl (by decide) rfl rfl rfl [.int r_87] rfl ?_
                  refine gq_if_eq C 105 93 dX5_year_90 (by decide) rfl (fun h90 => ?_) (fun h90 => ?_)
                  · replace hf := gq_ifp h90 hf
                    refine gq_aload_n C 3 106 dX5_year_105 rfl rfl ?_
                    refine gq_get C fo_X5_6 fw_X5_52 0 0 109 rfl rfl rfl dX5_year_106 rfl ?_
                    refine gq_iload C 0 111 dX5_year_109 rfl rfl ?_
                    obtain ⟨⟨I_law_111, I_there_111, I_sleepers_111, I_empty_111, I_empties_111, I_yard_111, I_waiting_111, I_nights_111, I_used_111, I_sheets_111, I_lastOnes_111, I_guestsWithFleas_111, I_bedsWithFleas_111, I_isCounting_111⟩, hc, hf⟩ := gq_bd hf
                    refine gq_callN C hA gm_X5_155 (c_X3_takeIn l D cI cZ aH aI dI (((((nI 75) * x4_L55) + (nI 74)) - (((nI 75) * x4_L55) + (nI 74)) / (nI 65537) * (nI 65537)) - ((((nI 75) * x4_L55) + (nI 74)) - (((nI 75) * x4_L55) + (nI 74)) / (nI 65537) * (nI 65537)) / (nI 8) * (nI 8)) (H_beds, H_law, H_sights, H_isKept, H_worths, H_sightGuests, H_sightBeds) (I_law_L55, I_there_L55, I_sleepers_L55, I_empty_L55, I_empties_L55, I_yard_L55, I_waiting_L55, I_nights_L55, I_used_L55, I_sheets_L55, I_lastOnes_L55, I_guestsWithFleas_L55, I_bedsWithFleas_L55, I_isCounting_L55) _ hc) rfl 2 0 rfl rfl rfl ⟨Nat.le_trans (Nat.le_of_ble_eq_true rfl) hR.1, Nat.le_trans (Nat.le_of_ble_eq_true rfl) hR.2.1⟩ ⟨Nat.zero_le _, Nat.zero_le _⟩ rfl (Nat.le_of_ble_eq_true rfl) dX5_year_111 [1, 2] [bC cI aB (aH 0) rB1 rB2 rB3 rB4 rB5 (aI 0) B_bedsByPlace, hC cI aH (H_beds, H_law, H_sights, H_isKept, H_worths, H_sightGuests, H_sightBeds), iC cI aI (aH 0) dI (I_law_111, I_there_111, I_sleepers_111, I_empty_111, I_empties_111, I_yard_111, I_waiting_111, I_nights_111, I_used_111, I_sheets_111, I_lastOnes_111, I_guestsWithFleas_111, I_bedsWithFleas_111, I_isCounting_111)] 114 rfl (by decide) rfl rfl rfl [] rfl ?_
                    refine gq_iinc C 2 [(5, .int (x5_L55 + (nI 1))), (6, .int (((((nI 75) * x4_L55) + (nI 74)) - (((nI 75) * x4_L55) + (nI 74)) / (nI 65537) * (nI 65537)) - ((((nI 75) * x4_L55) + (nI 74)) - (((nI 75) * x4_L55) + (nI 74)) / (nI 65537) * (nI 65537)) / (nI 8) * (nI 8))), (4, .int ((((nI 75) * x4_L55) + (nI 74)) - (((nI 75) * x4_L55) + (nI 74)) / (nI 65537) * (nI 65537))), (0, .ref (aB 0)), (1, .int x1), (2, .int x2), (3, .int x3)] 117 dX5_year_114 rfl rfl (by decide) rfl rfl ?_
                    refine gq_goto C 55 dX5_year_117 (by decide) ?_
                    refine gq_lv [0, 2, 3, 4, 5, 6] rfl ?_
                    exact ihL55 _ _ _ _ _ _ _ _ _ _ _ _ _ _ _ _ hf
                  · replace hf := gq_ifn h90 hf
                    refine gq_aload_n C 3 94 dX5_year_93 rfl rfl ?_
                    refine gq_get C fo_X5_6 fw_X5_52 0 0 97 rfl rfl rfl dX5_year_94 rfl ?_
                    refine gq_iload C 0 99 dX5_year_97 rfl rfl ?_
                    obtain ⟨⟨I_law_99, I_there_99, I_sleepers_99, I_empty_99, I_empties_99, I_yard_99, I_waiting_99, I_nights_99, I_used_99, I_sheets_99, I_lastOnes_99, I_guestsWithFleas_99, I_bedsWithFleas_99, I_isCounting_99⟩, hc, hf⟩ := gq_bd hf
                    refine gq_callN C hA gm_X5_223 (c_X3_letGo l D cI cZ aI (aH 0) dI (((((nI 75) * x4_L55) + (nI 74)) - (((nI 75) * x4_L55) + (nI 74)) / (nI 65537) * (nI 65537)) - ((((nI 75) * x4_L55) + (nI 74)) - (((nI 75) * x4_L55) + (nI 74)) / (nI 65537) * (nI 65537)) / (nI 8) * (nI 8)) (I_law_L55, I_there_L55, I_sleepers_L55, I_empty_L55, I_empties_L55, I_yard_L55, I_waiting_L55, I_nights_L55, I_used_L55, I_sheets_L55, I_lastOnes_L55, I_guestsWithFleas_L55, I_bedsWithFleas_L55, I_isCounting_L55) _ hc) rfl 2 0 rfl rfl rfl ⟨Nat.le_trans (Nat.le_of_ble_eq_true rfl) hR.1, Nat.le_trans (Nat.le_of_ble_eq_true rfl) hR.2.1⟩ ⟨Nat.zero_le _, Nat.zero_le _⟩ rfl (Nat.le_of_ble_eq_true rfl) dX5_year_99 [2] [bC cI aB (aH 0) rB1 rB2 rB3 rB4 rB5 (aI 0) B_bedsByPlace, hC cI aH (H_beds, H_law, H_sights, H_isKept, H_worths, H_sightGuests, H_sightBeds), iC cI aI (aH 0) dI (I_law_99, I_there_99, I_sleepers_99, I_empty_99, I_empties_99, I_yard_99, I_waiting_99, I_nights_99, I_used_99, I_sheets_99, I_lastOnes_99, I_guestsWithFleas_99, I_bedsWithFleas_99, I_isCounting_99)] 102 rfl (by decide) rfl rfl rfl [] rfl ?_
                    refine gq_goto C 114 dX5_year_102 (by decide) ?_
                    refine gq_iinc C 2 [(5, .int (x5_L55 + (nI 1))), (6, .int (((((nI 75) * x4_L55) + (nI 74)) - (((nI 75) * x4_L55) + (nI 74)) / (nI 65537) * (nI 65537)) - ((((nI 75) * x4_L55) + (nI 74)) - (((nI 75) * x4_L55) + (nI 74)) / (nI 65537) * (nI 65537)) / (nI 8) * (nI 8))), (4, .int ((((nI 75) * x4_L55) + (nI 74)) - (((nI 75) * x4_L55) + (nI 74)) / (nI 65537) * (nI 65537))), (0, .ref (aB 0)), (1, .int x1), (2, .int x2), (3, .int x3)] 117 dX5_year_114 rfl rfl (by decide) rfl rfl ?_
                    refine gq_goto C 55 dX5_year_117 (by decide) ?_
                    refine gq_lv [0, 2, 3, 4, 5, 6] rfl ?_
                    exact ihL55 _ _ _ _ _ _ _ _ _ _ _ _ _ _ _ _ hf
            refine L55 _ (fun x4_L55 x5_L55 I_law_L55 I_there_L55 I_sleepers_L55 I_empty_L55 I_empties_L55 I_yard_L55 I_waiting_L55 I_nights_L55 I_used_L55 I_sheets_L55 I_lastOnes_L55 I_guestsWithFleas_L55 I_bedsWithFleas_L55 I_isCounting_L55 hf => ?_) _ _ _ _ _ _ _ _ _ _ _ _ _ _ _ _ _ hf
            refine gq_aload_n C 2 121 dX5_year_120 rfl rfl ?_
            refine gq_get C fo_X5_6 fw_X5_52 0 0 124 rfl rfl rfl dX5_year_121 rfl ?_
            refine gq_iload_n C 5 125 dX5_year_124 rfl rfl ?_
            obtain ⟨r_125, hc, hf⟩ := gq_bd hf
            refine gq_callN C hA gm_X5_226 (c_X3_timesUsed l D cI cZ aI (aH 0) dI x3 (I_law_L55, I_there_L55, I_sleepers_L55, I_empty_L55, I_empties_L55, I_yard_L55, I_waiting_L55, I_nights_L55, I_used_L55, I_sheets_L55, I_lastOnes_L55, I_guestsWithFleas_L55, I_bedsWithFleas_L55, I_isCounting_L55) _ hc) rfl 2 0 rfl rfl rfl ⟨Nat.le_trans (Nat.le_of_ble_eq_true rfl) hR.1, Nat.le_trans (Nat.le_of_ble_eq_true rfl) hR.2.1⟩ ⟨Nat.zero_le _, Nat.zero_le _⟩ rfl (Nat.le_of_ble_eq_true rfl) dX5_year_125 [2] [bC cI aB (aH 0) rB1 rB2 rB3 rB4 rB5 (aI 0) B_bedsByPlace, hC cI aH (H_beds, H_law, H_sights, H_isKept, H_worths, H_sightGuests, H_sightBeds), iC cI aI (aH 0) dI (I_law_L55, I_there_L55, I_sleepers_L55, I_empty_L55, I_empties_L55, I_yard_L55, I_waiting_L55, I_nights_L55, I_used_L55, I_sheets_L55, I_lastOnes_L55, I_guestsWithFleas_L55, I_bedsWithFleas_L55, I_isCounting_L55)] 128 rfl (by decide) rfl rfl rfl [.int r_125] rfl ?_
            obtain rfl := gq_lf hf
            exact hret dX5_year_128 gPost.rf
          · replace hf := gq_ifn h29 hf
            refine gq_bipush C (-2 : Int32) 34 dX5_year_32 (by decide) rfl ?_
            obtain rfl := gq_lf hf
            exact hret dX5_year_34 gPost.rf
  · replace hf := gq_ifp h5 hf
    refine gq_iconst C (-1 : Int32) 9 dX5_year_8 (by decide) rfl ?_
    obtain rfl := gq_lf hf
    exact hret dX5_year_9 gPost.rf

def f_X5_image : Int32 → WbS → HouS → HouS → HouS → Option (Int32 × HouS × HouS)
  | x1, B_bedsByPlace, (H_beds, H_law, H_sights, H_isKept, H_worths, H_sightGuests, H_sightBeds), (Y_beds, Y_law, Y_sights, Y_isKept, Y_worths, Y_sightGuests, Y_sightBeds), (Z_beds, Z_law, Z_sights, Z_isKept, Z_worths, Z_sightGuests, Z_sightBeds) => (Option.bind (f_X5_isEither x1) (fun r_1 => (if r_1 = 0 then some ((-2 : Int32), (Y_beds, Y_law, Y_sights, Y_isKept, Y_worths, Y_sightGuests, Y_sightBeds), (Z_beds, Z_law, Z_sights, Z_isKept, Z_worths, Z_sightGuests, Z_sightBeds)) else (if x1 = 0 then (Option.bind (f_X2_copy (Y_beds, Y_law, Y_sights, Y_isKept, Y_worths, Y_sightGuests, Y_sightBeds) (H_beds, H_law, H_sights, H_isKept, H_worths, H_sightGuests, H_sightBeds)) (fun (Y_beds_31, Y_law_31, Y_sights_31, Y_isKept_31, Y_worths_31, Y_sightGuests_31, Y_sightBeds_31) => some ((nI 1), (Y_beds_31, Y_law_31, Y_sights_31, (nI 1), Y_worths_31, Y_sightGuests_31, Y_sightBeds_31), (Z_beds, Z_law, Z_sights, Z_isKept, Z_worths, Z_sightGuests, Z_sightBeds)))) else (Option.bind (f_X2_copy (Z_beds, Z_law, Z_sights, Z_isKept, Z_worths, Z_sightGuests, Z_sightBeds) (H_beds, H_law, H_sights, H_isKept, H_worths, H_sightGuests, H_sightBeds)) (fun (Z_beds_31, Z_law_31, Z_sights_31, Z_isKept_31, Z_worths_31, Z_sightGuests_31, Z_sightBeds_31) => some ((nI 1), (Y_beds, Y_law, Y_sights, Y_isKept, Y_worths, Y_sightGuests, Y_sightBeds), (Z_beds_31, Z_law_31, Z_sights_31, (nI 1), Z_worths_31, Z_sightGuests_31, Z_sightBeds_31))))))))
set_option maxHeartbeats 4000000 in
set_option maxRecDepth 100000 in
theorem c_X5_image (l : Launch) (D : va_G) (cI cZ : ClassId) (aB : Nat → Nat) (rB3 : Nat) (rB4 : Nat) (rB5 : Nat) (rB6 : Nat) (aH : Nat → Nat) (aY : Nat → Nat) (aZ : Nat → Nat) (x1 : Int32) (tB : WbS) (tH : HouS) (tY : HouS) (tZ : HouS) (rr : Int32 × HouS × HouS) (hf : f_X5_image x1 tB tH tY tZ = some rr) : CT l D cI cZ yX5_image cX5_image 3 (some .int) 2 81 0 0 [.ref (aB 0), .int x1] ([bC cI aB (aH 0) (aY 0) (aZ 0) rB3 rB4 rB5 rB6 tB, hC cI aH tH, hC cI aY tY, hC cI aZ tZ]) (gPost (some (.int rr.1)) ([bC cI aB (aH 0) (aY 0) (aZ 0) rB3 rB4 rB5 rB6 tB, hC cI aH tH, hC cI aY rr.2.1, hC cI aZ rr.2.2])) := by
  obtain ⟨B_bedsByPlace, rfl⟩ : ∃ z, z = tB := ⟨_, rfl⟩
  obtain ⟨H_beds, H_law, H_sights, H_isKept, H_worths, H_sightGuests, H_sightBeds⟩ := tH
  obtain ⟨Y_beds, Y_law, Y_sights, Y_isKept, Y_worths, Y_sightGuests, Y_sightBeds⟩ := tY
  obtain ⟨Z_beds, Z_law, Z_sights, Z_isKept, Z_worths, Z_sightGuests, Z_sightBeds⟩ := tZ
  rw [f_X5_image] at hf
  refine CT.mkI (by decide) (Nat.le_of_ble_eq_true rfl) fun {p} {e} {R} {s} {m} {args} {below} {meth} {c} {A} {H0} {Q} C hA hR hret => ?_
  show G p l e R s m args below meth c 3 D A H0 0 0 Q [bC cI aB (aH 0) (aY 0) (aZ 0) rB3 rB4 rB5 rB6 B_bedsByPlace, hC cI aH (H_beds, H_law, H_sights, H_isKept, H_worths, H_sightGuests, H_sightBeds), hC cI aY (Y_beds, Y_law, Y_sights, Y_isKept, Y_worths, Y_sightGuests, Y_sightBeds), hC cI aZ (Z_beds, Z_law, Z_sights, Z_isKept, Z_worths, Z_sightGuests, Z_sightBeds)] 0 [(0, .ref (aB 0)), (1, .int x1)] []
  refine gq_iload_n C 1 1 dX5_image_0 rfl rfl ?_
  obtain ⟨r_1, hc, hf⟩ := gq_bd hf
  refine gq_callS C hA gm_X5_96 (c_X5_isEither l D cI cZ  x1 _ hc) rfl ⟨Nat.le_trans (Nat.le_of_ble_eq_true rfl) hR.1, Nat.le_trans (Nat.le_of_ble_eq_true rfl) hR.2.1⟩ ⟨Nat.zero_le _, Nat.zero_le _⟩ rfl (Nat.le_of_ble_eq_true rfl) dX5_image_1 [] [bC cI aB (aH 0) (aY 0) (aZ 0) rB3 rB4 rB5 rB6 B_bedsByPlace, hC cI aH (H_beds, H_law, H_sights, H_isKept, H_worths, H_sightGuests, H_sightBeds), hC cI aY (Y_beds, Y_law, Y_sights, Y_isKept, Y_worths, Y_sightGuests, Y_sightBeds), hC cI aZ (Z_beds, Z_law, Z_sights, Z_isKept, Z_worths, Z_sightGuests, Z_sightBeds)] 4 rfl (by decide) rfl rfl rfl [.int r_1] rfl ?_
  refine gq_if_ne C 10 7 dX5_image_4 (by decide) rfl (fun h4 => ?_) (fun h4 => ?_)
  · replace hf := gq_ifn h4 hf
    refine gq_iload_n C 1 11 dX5_image_10 rfl rfl ?_
    refine gq_if_ne C 21 14 dX5_image_11 (by decide) rfl (fun h11 => ?_) (fun h11 => ?_)
    · replace hf := gq_ifn h11 hf
      refine gq_aload_n C 0 22 dX5_image_21 rfl rfl ?_
      refine gq_get C fo_X5_2 fw_X5_19 0 0 25 rfl rfl rfl dX5_image_22 rfl ?_
      refine gq_astore_n C [(2, .ref (aZ 0)), (0, .ref (aB 0)), (1, .int x1)] 26 dX5_image_25 (by decide) rfl rfl ?_
      refine gq_aload_n C 0 27 dX5_image_26 rfl rfl ?_
      refine gq_aload_n C 1 28 dX5_image_27 rfl rfl ?_
      refine gq_get C fo_X5_0 fw_X5_12 0 0 31 rfl rfl rfl dX5_image_28 rfl ?_
      obtain ⟨⟨Z_beds_31, Z_law_31, Z_sights_31, Z_isKept_31, Z_worths_31, Z_sightGuests_31, Z_sightBeds_31⟩, hc, hf⟩ := gq_bd hf
      refine gq_callN C hA gm_X5_229 (c_X2_copy l D cI cZ aZ aH (Z_beds, Z_law, Z_sights, Z_isKept, Z_worths, Z_sightGuests, Z_sightBeds) (H_beds, H_law, H_sights, H_isKept, H_worths, H_sightGuests, H_sightBeds) _ hc) rfl 3 0 rfl rfl rfl ⟨Nat.le_trans (Nat.le_of_ble_eq_true rfl) hR.1, Nat.le_trans (Nat.le_of_ble_eq_true rfl) hR.2.1⟩ ⟨Nat.zero_le _, Nat.zero_le _⟩ rfl (Nat.le_of_ble_eq_true rfl) dX5_image_31 [3, 1] [bC cI aB (aH 0) (aY 0) (aZ 0) rB3 rB4 rB5 rB6 B_bedsByPlace, hC cI aH (H_beds, H_law, H_sights, H_isKept, H_worths, H_sightGuests, H_sightBeds), hC cI aY (Y_beds, Y_law, Y_sights, Y_isKept, Y_worths, Y_sightGuests, Y_sightBeds), hC cI aZ (Z_beds_31, Z_law_31, Z_sights_31, Z_isKept_31, Z_worths_31, Z_sightGuests_31, Z_sightBeds_31)] 34 rfl (by decide) rfl rfl rfl [] rfl ?_
      refine gq_aload_n C 0 35 dX5_image_34 rfl rfl ?_
      refine gq_iconst C (nI 1) 36 dX5_image_35 (by decide) rfl ?_
      refine gq_putN C fo_X2_3 fp_X2_3 rfl fw_X5_233 3 0 39 [bC cI aB (aH 0) (aY 0) (aZ 0) rB3 rB4 rB5 rB6 B_bedsByPlace, hC cI aH (H_beds, H_law, H_sights, H_isKept, H_worths, H_sightGuests, H_sightBeds), hC cI aY (Y_beds, Y_law, Y_sights, Y_isKept, Y_worths, Y_sightGuests, Y_sightBeds), hC cI aZ (Z_beds_31, Z_law_31, Z_sights_31, (nI 1), Z_worths_31, Z_sightGuests_31, Z_sightBeds_31)] rfl rfl rfl rfl (Nat.le_of_ble_eq_true rfl) rfl dX5_image_36 rfl ?_
      refine gq_iconst C (nI 1) 40 dX5_image_39 (by decide) rfl ?_
      obtain rfl := gq_lf hf
      exact hret dX5_image_40 gPost.rf
    · replace hf := gq_ifp h11 hf
      refine gq_aload_n C 0 15 dX5_image_14 rfl rfl ?_
      refine gq_get C fo_X5_1 fw_X5_16 0 0 18 rfl rfl rfl dX5_image_15 rfl ?_
      refine gq_goto C 25 dX5_image_18 (by decide) ?_
      refine gq_astore_n C [(2, .ref (aY 0)), (0, .ref (aB 0)), (1, .int x1)] 26 dX5_image_25 (by decide) rfl rfl ?_
      refine gq_aload_n C 0 27 dX5_image_26 rfl rfl ?_
      refine gq_aload_n C 1 28 dX5_image_27 rfl rfl ?_
      refine gq_get C fo_X5_0 fw_X5_12 0 0 31 rfl rfl rfl dX5_image_28 rfl ?_
      obtain ⟨⟨Y_beds_31, Y_law_31, Y_sights_31, Y_isKept_31, Y_worths_31, Y_sightGuests_31, Y_sightBeds_31⟩, hc, hf⟩ := gq_bd hf
      refine gq_callN C hA gm_X5_229 (c_X2_copy l D cI cZ aY aH (Y_beds, Y_law, Y_sights, Y_isKept, Y_worths, Y_sightGuests, Y_sightBeds) (H_beds, H_law, H_sights, H_isKept, H_worths, H_sightGuests, H_sightBeds) _ hc) rfl 2 0 rfl rfl rfl ⟨Nat.le_trans (Nat.le_of_ble_eq_true rfl) hR.1, Nat.le_trans (Nat.le_of_ble_eq_true rfl) hR.2.1⟩ ⟨Nat.zero_le _, Nat.zero_le _⟩ rfl (Nat.le_of_ble_eq_true rfl) dX5_image_31 [2, 1] [bC cI aB (aH 0) (aY 0) (aZ 0) rB3 rB4 rB5 rB6 B_bedsByPlace, hC cI aH (H_beds, H_law, H_sights, H_isKept, H_worths, H_sightGuests, H_sightBeds), hC cI aY (Y_beds_31, Y_law_31, Y_sights_31, Y_isKept_31, Y_worths_31, Y_sightGuests_31, Y_sightBeds_31), hC cI aZ (Z_beds, Z_law, Z_sights, Z_isKept, Z_worths, Z_sightGuests, Z_sightBeds)] 34 rfl (by decide) rfl rfl rfl [] rfl ?_
      refine gq_aload_n C 0 35 dX5_image_34 rfl rfl ?_
      refine gq_iconst C (nI 1) 36 dX5_image_35 (by decide) rfl ?_
      refine gq_putN C fo_X2_3 fp_X2_3 rfl fw_X5_233 2 0 39 [bC cI aB (aH 0) (aY 0) (aZ 0) rB3 rB4 rB5 rB6 B_bedsByPlace, hC cI aH (H_beds, H_law, H_sights, H_isKept, H_worths, H_sightGuests, H_sightBeds), hC cI aY (Y_beds_31, Y_law_31, Y_sights_31, (nI 1), Y_worths_31, Y_sightGuests_31, Y_sightBeds_31), hC cI aZ (Z_beds, Z_law, Z_sights, Z_isKept, Z_worths, Z_sightGuests, Z_sightBeds)] rfl rfl rfl rfl (Nat.le_of_ble_eq_true rfl) rfl dX5_image_36 rfl ?_
      refine gq_iconst C (nI 1) 40 dX5_image_39 (by decide) rfl ?_
      obtain rfl := gq_lf hf
      exact hret dX5_image_40 gPost.rf
  · replace hf := gq_ifp h4 hf
    refine gq_bipush C (-2 : Int32) 9 dX5_image_7 (by decide) rfl ?_
    obtain rfl := gq_lf hf
    exact hret dX5_image_9 gPost.rf

def f_X5_restore : Int32 → WbS → HouS → HouS → HouS → Option (Int32 × HouS)
  | x1, B_bedsByPlace, (H_beds, H_law, H_sights, H_isKept, H_worths, H_sightGuests, H_sightBeds), (Y_beds, Y_law, Y_sights, Y_isKept, Y_worths, Y_sightGuests, Y_sightBeds), (Z_beds, Z_law, Z_sights, Z_isKept, Z_worths, Z_sightGuests, Z_sightBeds) => (Option.bind (f_X5_isEither x1) (fun r_1 => (if r_1 = 0 then some ((-2 : Int32), (H_beds, H_law, H_sights, H_isKept, H_worths, H_sightGuests, H_sightBeds)) else (if x1 = 0 then (if Y_isKept = 0 then some ((-3 : Int32), (H_beds, H_law, H_sights, H_isKept, H_worths, H_sightGuests, H_sightBeds)) else (Option.bind (f_X2_copy (H_beds, H_law, H_sights, H_isKept, H_worths, H_sightGuests, H_sightBeds) (Y_beds, Y_law, Y_sights, Y_isKept, Y_worths, Y_sightGuests, Y_sightBeds)) (fun (H_beds_41, H_law_41, H_sights_41, H_isKept_41, H_worths_41, H_sightGuests_41, H_sightBeds_41) => some ((nI 1), (H_beds_41, H_law_41, H_sights_41, H_isKept_41, H_worths_41, H_sightGuests_41, H_sightBeds_41))))) else (if Z_isKept = 0 then some ((-3 : Int32), (H_beds, H_law, H_sights, H_isKept, H_worths, H_sightGuests, H_sightBeds)) else (Option.bind (f_X2_copy (H_beds, H_law, H_sights, H_isKept, H_worths, H_sightGuests, H_sightBeds) (Z_beds, Z_law, Z_sights, Z_isKept, Z_worths, Z_sightGuests, Z_sightBeds)) (fun (H_beds_41, H_law_41, H_sights_41, H_isKept_41, H_worths_41, H_sightGuests_41, H_sightBeds_41) => some ((nI 1), (H_beds_41, H_law_41, H_sights_41, H_isKept_41, H_worths_41, H_sightGuests_41, H_sightBeds_41)))))))))
set_option maxHeartbeats 4000000 in
set_option maxRecDepth 100000 in
theorem c_X5_restore (l : Launch) (D : va_G) (cI cZ : ClassId) (aB : Nat → Nat) (rB3 : Nat) (rB4 : Nat) (rB5 : Nat) (rB6 : Nat) (aH : Nat → Nat) (aY : Nat → Nat) (aZ : Nat → Nat) (x1 : Int32) (tB : WbS) (tH : HouS) (tY : HouS) (tZ : HouS) (rr : Int32 × HouS) (hf : f_X5_restore x1 tB tH tY tZ = some rr) : CT l D cI cZ yX5_restore cX5_restore 3 (some .int) 2 81 0 0 [.ref (aB 0), .int x1] ([bC cI aB (aH 0) (aY 0) (aZ 0) rB3 rB4 rB5 rB6 tB, hC cI aH tH, hC cI aY tY, hC cI aZ tZ]) (gPost (some (.int rr.1)) ([bC cI aB (aH 0) (aY 0) (aZ 0) rB3 rB4 rB5 rB6 tB, hC cI aH rr.2, hC cI aY tY, hC cI aZ tZ])) := by
  obtain ⟨B_bedsByPlace, rfl⟩ : ∃ z, z = tB := ⟨_, rfl⟩
  obtain ⟨H_beds, H_law, H_sights, H_isKept, H_worths, H_sightGuests, H_sightBeds⟩ := tH
  obtain ⟨Y_beds, Y_law, Y_sights, Y_isKept, Y_worths, Y_sightGuests, Y_sightBeds⟩ := tY
  obtain ⟨Z_beds, Z_law, Z_sights, Z_isKept, Z_worths, Z_sightGuests, Z_sightBeds⟩ := tZ
  rw [f_X5_restore] at hf
  refine CT.mkI (by decide) (Nat.le_of_ble_eq_true rfl) fun {p} {e} {R} {s} {m} {args} {below} {meth} {c} {A} {H0} {Q} C hA hR hret => ?_
  show G p l e R s m args below meth c 3 D A H0 0 0 Q [bC cI aB (aH 0) (aY 0) (aZ 0) rB3 rB4 rB5 rB6 B_bedsByPlace, hC cI aH (H_beds, H_law, H_sights, H_isKept, H_worths, H_sightGuests, H_sightBeds), hC cI aY (Y_beds, Y_law, Y_sights, Y_isKept, Y_worths, Y_sightGuests, Y_sightBeds), hC cI aZ (Z_beds, Z_law, Z_sights, Z_isKept, Z_worths, Z_sightGuests, Z_sightBeds)] 0 [(0, .ref (aB 0)), (1, .int x1)] []
  refine gq_iload_n C 1 1 dX5_restore_0 rfl rfl ?_
  obtain ⟨r_1, hc, hf⟩ := gq_bd hf
  refine gq_callS C hA gm_X5_96 (c_X5_isEither l D cI cZ  x1 _ hc) rfl ⟨Nat.le_trans (Nat.le_of_ble_eq_true rfl) hR.1, Nat.le_trans (Nat.le_of_ble_eq_true rfl) hR.2.1⟩ ⟨Nat.zero_le _, Nat.zero_le _⟩ rfl (Nat.le_of_ble_eq_true rfl) dX5_restore_1 [] [bC cI aB (aH 0) (aY 0) (aZ 0) rB3 rB4 rB5 rB6 B_bedsByPlace, hC cI aH (H_beds, H_law, H_sights, H_isKept, H_worths, H_sightGuests, H_sightBeds), hC cI aY (Y_beds, Y_law, Y_sights, Y_isKept, Y_worths, Y_sightGuests, Y_sightBeds), hC cI aZ (Z_beds, Z_law, Z_sights, Z_isKept, Z_worths, Z_sightGuests, Z_sightBeds)] 4 rfl (by decide) rfl rfl rfl [.int r_1] rfl ?_
  refine gq_if_ne C 10 7 dX5_restore_4 (by decide) rfl (fun h4 => ?_) (fun h4 => ?_)
  · replace hf := gq_ifn h4 hf
    refine gq_iload_n C 1 11 dX5_restore_10 rfl rfl ?_
    refine gq_if_ne C 21 14 dX5_restore_11 (by decide) rfl (fun h11 => ?_) (fun h11 => ?_)
    · replace hf := gq_ifn h11 hf
      refine gq_aload_n C 0 22 dX5_restore_21 rfl rfl ?_
      refine gq_get C fo_X5_2 fw_X5_19 0 0 25 rfl rfl rfl dX5_restore_22 rfl ?_
      refine gq_astore_n C [(2, .ref (aZ 0)), (0, .ref (aB 0)), (1, .int x1)] 26 dX5_restore_25 (by decide) rfl rfl ?_
      refine gq_aload_n C 0 27 dX5_restore_26 rfl rfl ?_
      refine gq_getN C fo_X2_3 fw_X5_233 3 0 30 rfl rfl rfl dX5_restore_27 rfl ?_
      refine gq_if_ne C 36 33 dX5_restore_30 (by decide) rfl (fun h30 => ?_) (fun h30 => ?_)
      · replace hf := gq_ifn h30 hf
        refine gq_aload_n C 1 37 dX5_restore_36 rfl rfl ?_
        refine gq_get C fo_X5_0 fw_X5_12 0 0 40 rfl rfl rfl dX5_restore_37 rfl ?_
        refine gq_aload_n C 0 41 dX5_restore_40 rfl rfl ?_
        obtain ⟨⟨H_beds_41, H_law_41, H_sights_41, H_isKept_41, H_worths_41, H_sightGuests_41, H_sightBeds_41⟩, hc, hf⟩ := gq_bd hf
        refine gq_callN C hA gm_X5_229 (c_X2_copy l D cI cZ aH aZ (H_beds, H_law, H_sights, H_isKept, H_worths, H_sightGuests, H_sightBeds) (Z_beds, Z_law, Z_sights, Z_isKept, Z_worths, Z_sightGuests, Z_sightBeds) _ hc) rfl 1 0 rfl rfl rfl ⟨Nat.le_trans (Nat.le_of_ble_eq_true rfl) hR.1, Nat.le_trans (Nat.le_of_ble_eq_true rfl) hR.2.1⟩ ⟨Nat.zero_le _, Nat.zero_le _⟩ rfl (Nat.le_of_ble_eq_true rfl) dX5_restore_41 [1, 3] [bC cI aB (aH 0) (aY 0) (aZ 0) rB3 rB4 rB5 rB6 B_bedsByPlace, hC cI aH (H_beds_41, H_law_41, H_sights_41, H_isKept_41, H_worths_41, H_sightGuests_41, H_sightBeds_41), hC cI aY (Y_beds, Y_law, Y_sights, Y_isKept, Y_worths, Y_sightGuests, Y_sightBeds), hC cI aZ (Z_beds, Z_law, Z_sights, Z_isKept, Z_worths, Z_sightGuests, Z_sightBeds)] 44 rfl (by decide) rfl rfl rfl [] rfl ?_
        refine gq_iconst C (nI 1) 45 dX5_restore_44 (by decide) rfl ?_
        obtain rfl := gq_lf hf
        exact hret dX5_restore_45 gPost.rf
      · replace hf := gq_ifp h30 hf
        refine gq_bipush C (-3 : Int32) 35 dX5_restore_33 (by decide) rfl ?_
        obtain rfl := gq_lf hf
        exact hret dX5_restore_35 gPost.rf
    · replace hf := gq_ifp h11 hf
      refine gq_aload_n C 0 15 dX5_restore_14 rfl rfl ?_
      refine gq_get C fo_X5_1 fw_X5_16 0 0 18 rfl rfl rfl dX5_restore_15 rfl ?_
      refine gq_goto C 25 dX5_restore_18 (by decide) ?_
      refine gq_astore_n C [(2, .ref (aY 0)), (0, .ref (aB 0)), (1, .int x1)] 26 dX5_restore_25 (by decide) rfl rfl ?_
      refine gq_aload_n C 0 27 dX5_restore_26 rfl rfl ?_
      refine gq_getN C fo_X2_3 fw_X5_233 2 0 30 rfl rfl rfl dX5_restore_27 rfl ?_
      refine gq_if_ne C 36 33 dX5_restore_30 (by decide) rfl (fun h30 => ?_) (fun h30 => ?_)
      · replace hf := gq_ifn h30 hf
        refine gq_aload_n C 1 37 dX5_restore_36 rfl rfl ?_
        refine gq_get C fo_X5_0 fw_X5_12 0 0 40 rfl rfl rfl dX5_restore_37 rfl ?_
        refine gq_aload_n C 0 41 dX5_restore_40 rfl rfl ?_
        obtain ⟨⟨H_beds_41, H_law_41, H_sights_41, H_isKept_41, H_worths_41, H_sightGuests_41, H_sightBeds_41⟩, hc, hf⟩ := gq_bd hf
        refine gq_callN C hA gm_X5_229 (c_X2_copy l D cI cZ aH aY (H_beds, H_law, H_sights, H_isKept, H_worths, H_sightGuests, H_sightBeds) (Y_beds, Y_law, Y_sights, Y_isKept, Y_worths, Y_sightGuests, Y_sightBeds) _ hc) rfl 1 0 rfl rfl rfl ⟨Nat.le_trans (Nat.le_of_ble_eq_true rfl) hR.1, Nat.le_trans (Nat.le_of_ble_eq_true rfl) hR.2.1⟩ ⟨Nat.zero_le _, Nat.zero_le _⟩ rfl (Nat.le_of_ble_eq_true rfl) dX5_restore_41 [1, 2] [bC cI aB (aH 0) (aY 0) (aZ 0) rB3 rB4 rB5 rB6 B_bedsByPlace, hC cI aH (H_beds_41, H_law_41, H_sights_41, H_isKept_41, H_worths_41, H_sightGuests_41, H_sightBeds_41), hC cI aY (Y_beds, Y_law, Y_sights, Y_isKept, Y_worths, Y_sightGuests, Y_sightBeds), hC cI aZ (Z_beds, Z_law, Z_sights, Z_isKept, Z_worths, Z_sightGuests, Z_sightBeds)] 44 rfl (by decide) rfl rfl rfl [] rfl ?_
        refine gq_iconst C (nI 1) 45 dX5_restore_44 (by decide) rfl ?_
        obtain rfl := gq_lf hf
        exact hret dX5_restore_45 gPost.rf
      · replace hf := gq_ifp h30 hf
        refine gq_bipush C (-3 : Int32) 35 dX5_restore_33 (by decide) rfl ?_
        obtain rfl := gq_lf hf
        exact hret dX5_restore_35 gPost.rf
  · replace hf := gq_ifp h4 hf
    refine gq_bipush C (-2 : Int32) 9 dX5_restore_7 (by decide) rfl ?_
    obtain rfl := gq_lf hf
    exact hret dX5_restore_9 gPost.rf

def f_X5_told : Int32 → WbS → HouS → DayS → Option (Int32)
  | x1, B_bedsByPlace, (H_beds, H_law, H_sights, H_isKept, H_worths, H_sightGuests, H_sightBeds), (D_length, D_signs) => (if x1 = nI 0 then some D_length else (if x1 = nI 1 then some H_beds else (if x1 = nI 2 then some H_law else (if x1 = nI 3 then some H_sights else (Option.bind (f_X5_worthTold x1 B_bedsByPlace (H_beds, H_law, H_sights, H_isKept, H_worths, H_sightGuests, H_sightBeds)) (fun r_66 => some r_66))))))
set_option maxHeartbeats 4000000 in
set_option maxRecDepth 100000 in
theorem c_X5_told (l : Launch) (D : va_G) (cI cZ : ClassId) (aB : Nat → Nat) (rB1 : Nat) (rB2 : Nat) (rB4 : Nat) (rB5 : Nat) (rB6 : Nat) (aH : Nat → Nat) (aD : Nat → Nat) (x1 : Int32) (tB : WbS) (tH : HouS) (tD : DayS) (rr : Int32) (hf : f_X5_told x1 tB tH tD = some rr) : CT l D cI cZ yX5_told cX5_told 2 (some .int) 2 45 0 0 [.ref (aB 0), .int x1] ([bC cI aB (aH 0) rB1 rB2 (aD 0) rB4 rB5 rB6 tB, hC cI aH tH, dC cI aD tD]) (gPost (some (.int rr)) ([bC cI aB (aH 0) rB1 rB2 (aD 0) rB4 rB5 rB6 tB, hC cI aH tH, dC cI aD tD])) := by
  obtain ⟨B_bedsByPlace, rfl⟩ : ∃ z, z = tB := ⟨_, rfl⟩
  obtain ⟨H_beds, H_law, H_sights, H_isKept, H_worths, H_sightGuests, H_sightBeds⟩ := tH
  obtain ⟨D_length, D_signs⟩ := tD
  rw [f_X5_told] at hf
  refine CT.mkI (by decide) (Nat.le_of_ble_eq_true rfl) fun {p} {e} {R} {s} {m} {args} {below} {meth} {c} {A} {H0} {Q} C hA hR hret => ?_
  show G p l e R s m args below meth c 2 D A H0 0 0 Q [bC cI aB (aH 0) rB1 rB2 (aD 0) rB4 rB5 rB6 B_bedsByPlace, hC cI aH (H_beds, H_law, H_sights, H_isKept, H_worths, H_sightGuests, H_sightBeds), dC cI aD (D_length, D_signs)] 0 [(0, .ref (aB 0)), (1, .int x1)] []
  refine gq_iload_n C 1 1 dX5_told_0 rfl rfl ?_
  by_cases h1_0 : x1 = nI 0
  · replace hf := gq_ifp h1_0 hf
    refine gq_tableIn C 32 dX5_told_1 (by rw [h1_0]; decide) (by rw [h1_0]; decide) (by rw [h1_0]; rfl) (by decide) ?_
    refine gq_aload_n C 0 33 dX5_told_32 rfl rfl ?_
    refine gq_get C fo_X5_3 fw_X5_25 0 0 36 rfl rfl rfl dX5_told_33 rfl ?_
    refine gq_getN C fo_X0_0 fw_X5_89 2 0 39 rfl rfl rfl dX5_told_36 rfl ?_
    obtain rfl := gq_lf hf
    exact hret dX5_told_39 gPost.rf
  · replace hf := gq_ifn h1_0 hf
    by_cases h1_1 : x1 = nI 1
    · replace hf := gq_ifp h1_1 hf
      refine gq_tableIn C 40 dX5_told_1 (by rw [h1_1]; decide) (by rw [h1_1]; decide) (by rw [h1_1]; rfl) (by decide) ?_
      refine gq_aload_n C 0 41 dX5_told_40 rfl rfl ?_
      refine gq_get C fo_X5_0 fw_X5_12 0 0 44 rfl rfl rfl dX5_told_41 rfl ?_
      refine gq_getN C fo_X2_0 fw_X5_56 1 0 47 rfl rfl rfl dX5_told_44 rfl ?_
      obtain rfl := gq_lf hf
      exact hret dX5_told_47 gPost.rf
    · replace hf := gq_ifn h1_1 hf
      by_cases h1_2 : x1 = nI 2
      · replace hf := gq_ifp h1_2 hf
        refine gq_tableIn C 48 dX5_told_1 (by rw [h1_2]; decide) (by rw [h1_2]; decide) (by rw [h1_2]; rfl) (by decide) ?_
        refine gq_aload_n C 0 49 dX5_told_48 rfl rfl ?_
        refine gq_get C fo_X5_0 fw_X5_12 0 0 52 rfl rfl rfl dX5_told_49 rfl ?_
        refine gq_getN C fo_X2_1 fw_X5_79 1 0 55 rfl rfl rfl dX5_told_52 rfl ?_
        obtain rfl := gq_lf hf
        exact hret dX5_told_55 gPost.rf
      · replace hf := gq_ifn h1_2 hf
        by_cases h1_3 : x1 = nI 3
        · replace hf := gq_ifp h1_3 hf
          refine gq_tableIn C 56 dX5_told_1 (by rw [h1_3]; decide) (by rw [h1_3]; decide) (by rw [h1_3]; rfl) (by decide) ?_
          refine gq_aload_n C 0 57 dX5_told_56 rfl rfl ?_
          refine gq_get C fo_X5_0 fw_X5_12 0 0 60 rfl rfl rfl dX5_told_57 rfl ?_
          refine gq_getN C fo_X2_2 fw_X5_185 1 0 63 rfl rfl rfl dX5_told_60 rfl ?_
          obtain rfl := gq_lf hf
          exact hret dX5_told_63 gPost.rf
        · replace hf := gq_ifn h1_3 hf
          refine gq_tableOut C 64 dX5_told_1 (gq_out3 h1_0 h1_1 h1_2 h1_3) (by decide) ?_
          refine gq_aload_n C 0 65 dX5_told_64 rfl rfl ?_
          refine gq_iload_n C 1 66 dX5_told_65 rfl rfl ?_
          obtain ⟨r_66, hc, hf⟩ := gq_bd hf
          refine gq_callV C hA gm_X5_237 (c_X5_worthTold l D cI cZ aB rB1 rB2 (aD 0) rB4 rB5 rB6 aH x1 B_bedsByPlace (H_beds, H_law, H_sights, H_isKept, H_worths, H_sightGuests, H_sightBeds) _ hc) rfl 0 0 rfl rfl rfl ⟨Nat.le_trans (Nat.le_of_ble_eq_true rfl) hR.1, Nat.le_trans (Nat.le_of_ble_eq_true rfl) hR.2.1⟩ ⟨Nat.zero_le _, Nat.zero_le _⟩ rfl (Nat.le_of_ble_eq_true rfl) dX5_told_66 [0, 1] [bC cI aB (aH 0) rB1 rB2 (aD 0) rB4 rB5 rB6 B_bedsByPlace, hC cI aH (H_beds, H_law, H_sights, H_isKept, H_worths, H_sightGuests, H_sightBeds), dC cI aD (D_length, D_signs)] 69 rfl (by decide) rfl rfl rfl [.int r_66] rfl ?_
          obtain rfl := gq_lf hf
          exact hret dX5_told_69 gPost.rf
