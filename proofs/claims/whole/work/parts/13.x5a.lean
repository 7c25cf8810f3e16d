def f_X5_isBed : Int32 → WbS → HouS → Option (Int32)
  | x1, B_bedsByPlace, (H_beds, H_law, H_sights, H_isKept, H_worths, H_sightGuests, H_sightBeds) => (if x1 < 0 then some (nI 0) else (if H_beds ≤ x1 then some (nI 0) else some (nI 1)))
set_option maxHeartbeats 4000000 in
set_option maxRecDepth 100000 in
theorem c_X5_isBed (l : Launch) (D : va_G) (cI cZ : ClassId) (aB : Nat → Nat) (rB1 : Nat) (rB2 : Nat) (rB3 : Nat) (rB4 : Nat) (rB5 : Nat) (rB6 : Nat) (aH : Nat → Nat) (x1 : Int32) (tB : WbS) (tH : HouS) (rr : Int32) (hf : f_X5_isBed x1 tB tH = some rr) : CT l D cI cZ yX5_isBed cX5_isBed 2 (some .boolean) 0 0 0 0 [.ref (aB 0), .int x1] ([bC cI aB (aH 0) rB1 rB2 rB3 rB4 rB5 rB6 tB, hC cI aH tH]) (gPost (some (.int rr)) ([bC cI aB (aH 0) rB1 rB2 rB3 rB4 rB5 rB6 tB, hC cI aH tH])) := by
  obtain ⟨B_bedsByPlace, rfl⟩ : ∃ z, z = tB := ⟨_, rfl⟩
  obtain ⟨H_beds, H_law, H_sights, H_isKept, H_worths, H_sightGuests, H_sightBeds⟩ := tH
  rw [f_X5_isBed] at hf
  refine CT.mkZ (by decide) (Nat.le_of_ble_eq_true rfl) fun {p} {e} {R} {s} {m} {args} {below} {meth} {c} {A} {H0} {Q} C hA hR hret => ?_
  show G p l e R s m args below meth c 2 D A H0 0 0 Q [bC cI aB (aH 0) rB1 rB2 rB3 rB4 rB5 rB6 B_bedsByPlace, hC cI aH (H_beds, H_law, H_sights, H_isKept, H_worths, H_sightGuests, H_sightBeds)] 0 [(0, .ref (aB 0)), (1, .int x1)] []
  refine gq_iload_n C 1 1 dX5_isBed_0 rfl rfl ?_
  refine gq_if_lt C 19 4 dX5_isBed_1 (by decide) rfl (fun h1 => ?_) (fun h1 => ?_)
  · replace hf := gq_ifp h1 hf
    refine gq_iconst C (nI 0) 20 dX5_isBed_19 (by decide) rfl ?_
    obtain rfl := gq_lf hf
    exact hret dX5_isBed_20 rfl gPost.rf
  · replace hf := gq_ifn h1 hf
    refine gq_iload_n C 1 5 dX5_isBed_4 rfl rfl ?_
    refine gq_aload_n C 0 6 dX5_isBed_5 rfl rfl ?_
    refine gq_get C fo_X5_0 fw_X5_12 0 0 9 rfl rfl rfl dX5_isBed_6 rfl ?_
    refine gq_getN C fo_X2_0 fw_X5_56 1 0 12 rfl rfl rfl dX5_isBed_9 rfl ?_
    refine gq_icmp_ge C 19 15 dX5_isBed_12 (by decide) rfl (fun h12 => ?_) (fun h12 => ?_)
    · replace hf := gq_ifp h12 hf
      refine gq_iconst C (nI 0) 20 dX5_isBed_19 (by decide) rfl ?_
      obtain rfl := gq_lf hf
      exact hret dX5_isBed_20 rfl gPost.rf
    · replace hf := gq_ifn h12 hf
      refine gq_iconst C (nI 1) 16 dX5_isBed_15 (by decide) rfl ?_
      refine gq_goto C 20 dX5_isBed_16 (by decide) ?_
      obtain rfl := gq_lf hf
      exact hret dX5_isBed_20 rfl gPost.rf

def f_X5_isEither : Int32 → Option (Int32)
  | x0 => (if x0 = 0 then some (nI 1) else (if x0 = (nI 1) then some (nI 1) else some (nI 0)))
set_option maxHeartbeats 4000000 in
set_option maxRecDepth 100000 in
theorem c_X5_isEither (l : Launch) (D : va_G) (cI cZ : ClassId) (x0 : Int32) (rr : Int32) (hf : f_X5_isEither x0 = some rr) : CT l D cI cZ yX5_isEither cX5_isEither 1 (some .boolean) 0 0 0 0 [.int x0] ([]) (gPost (some (.int rr)) ([])) := by
  rw [f_X5_isEither] at hf
  refine CT.mkZ (by decide) (Nat.le_of_ble_eq_true rfl) fun {p} {e} {R} {s} {m} {args} {below} {meth} {c} {A} {H0} {Q} C hA hR hret => ?_
  show G p l e R s m args below meth c 1 D A H0 0 0 Q [] 0 [(0, .int x0)] []
  refine gq_iload_n C 0 1 dX5_isEither_0 rfl rfl ?_
  refine gq_if_eq C 9 4 dX5_isEither_1 (by decide) rfl (fun h1 => ?_) (fun h1 => ?_)
  · replace hf := gq_ifp h1 hf
    refine gq_iconst C (nI 1) 10 dX5_isEither_9 (by decide) rfl ?_
    refine gq_goto C 14 dX5_isEither_10 (by decide) ?_
    obtain rfl := gq_lf hf
    exact hret dX5_isEither_14 rfl gPost.rf
  · replace hf := gq_ifn h1 hf
    refine gq_iload_n C 0 5 dX5_isEither_4 rfl rfl ?_
    refine gq_iconst C (nI 1) 6 dX5_isEither_5 (by decide) rfl ?_
    refine gq_icmp_ne C 13 9 dX5_isEither_6 (by decide) rfl (fun h6 => ?_) (fun h6 => ?_)
    · replace hf := gq_ifn h6 hf
      refine gq_iconst C (nI 0) 14 dX5_isEither_13 (by decide) rfl ?_
      obtain rfl := gq_lf hf
      exact hret dX5_isEither_14 rfl gPost.rf
    · replace hf := gq_ifp h6 hf
      refine gq_iconst C (nI 1) 10 dX5_isEither_9 (by decide) rfl ?_
      refine gq_goto C 14 dX5_isEither_10 (by decide) ?_
      obtain rfl := gq_lf hf
      exact hret dX5_isEither_14 rfl gPost.rf

def f_X5_isCountOfEvents : Int32 → WbS → DayS → Option (Int32)
  | x1, B_bedsByPlace, (D_length, D_signs) => (if x1 < (-1 : Int32) then some (nI 0) else (if D_length < x1 then some (nI 0) else some (nI 1)))
set_option maxHeartbeats 4000000 in
set_option maxRecDepth 100000 in
theorem c_X5_isCountOfEvents (l : Launch) (D : va_G) (cI cZ : ClassId) (aB : Nat → Nat) (rB0 : Nat) (rB1 : Nat) (rB2 : Nat) (rB4 : Nat) (rB5 : Nat) (rB6 : Nat) (aD : Nat → Nat) (x1 : Int32) (tB : WbS) (tD : DayS) (rr : Int32) (hf : f_X5_isCountOfEvents x1 tB tD = some rr) : CT l D cI cZ yX5_isCountOfEvents cX5_isCountOfEvents 2 (some .boolean) 0 0 0 0 [.ref (aB 0), .int x1] ([bC cI aB rB0 rB1 rB2 (aD 0) rB4 rB5 rB6 tB, dC cI aD tD]) (gPost (some (.int rr)) ([bC cI aB rB0 rB1 rB2 (aD 0) rB4 rB5 rB6 tB, dC cI aD tD])) := by
  obtain ⟨B_bedsByPlace, rfl⟩ : ∃ z, z = tB := ⟨_, rfl⟩
  obtain ⟨D_length, D_signs⟩ := tD
  rw [f_X5_isCountOfEvents] at hf
  refine CT.mkZ (by decide) (Nat.le_of_ble_eq_true rfl) fun {p} {e} {R} {s} {m} {args} {below} {meth} {c} {A} {H0} {Q} C hA hR hret => ?_
  show G p l e R s m args below meth c 2 D A H0 0 0 Q [bC cI aB rB0 rB1 rB2 (aD 0) rB4 rB5 rB6 B_bedsByPlace, dC cI aD (D_length, D_signs)] 0 [(0, .ref (aB 0)), (1, .int x1)] []
  refine gq_iload_n C 1 1 dX5_isCountOfEvents_0 rfl rfl ?_
  refine gq_iconst C (-1 : Int32) 2 dX5_isCountOfEvents_1 (by decide) rfl ?_
  refine gq_icmp_lt C 20 5 dX5_isCountOfEvents_2 (by decide) rfl (fun h2 => ?_) (fun h2 => ?_)
  · replace hf := gq_ifp h2 hf
    refine gq_iconst C (nI 0) 21 dX5_isCountOfEvents_20 (by decide) rfl ?_
    obtain rfl := gq_lf hf
    exact hret dX5_isCountOfEvents_21 rfl gPost.rf
  · replace hf := gq_ifn h2 hf
    refine gq_iload_n C 1 6 dX5_isCountOfEvents_5 rfl rfl ?_
    refine gq_aload_n C 0 7 dX5_isCountOfEvents_6 rfl rfl ?_
    refine gq_get C fo_X5_3 fw_X5_25 0 0 10 rfl rfl rfl dX5_isCountOfEvents_7 rfl ?_
    refine gq_getN C fo_X0_0 fw_X5_89 1 0 13 rfl rfl rfl dX5_isCountOfEvents_10 rfl ?_
    refine gq_icmp_gt C 20 16 dX5_isCountOfEvents_13 (by decide) rfl (fun h13 => ?_) (fun h13 => ?_)
    · replace hf := gq_ifp h13 hf
      refine gq_iconst C (nI 0) 21 dX5_isCountOfEvents_20 (by decide) rfl ?_
      obtain rfl := gq_lf hf
      exact hret dX5_isCountOfEvents_21 rfl gPost.rf
    · replace hf := gq_ifn h13 hf
      refine gq_iconst C (nI 1) 17 dX5_isCountOfEvents_16 (by decide) rfl ?_
      refine gq_goto C 21 dX5_isCountOfEvents_17 (by decide) ?_
      obtain rfl := gq_lf hf
      exact hret dX5_isCountOfEvents_21 rfl gPost.rf

def f_X5_liveThrough : Int32 → WbS → HouS → DayS → InnS → Option (Int32 × InnS)
  | x1, B_bedsByPlace, (H_beds, H_law, H_sights, H_isKept, H_worths, H_sightGuests, H_sightBeds), (D_length, D_signs), (I_law, I_there, I_sleepers, I_empty, I_empties, I_yard, I_waiting, I_nights, I_used, I_sheets, I_lastOnes, I_guestsWithFleas, I_bedsWithFleas, I_isCounting) => gJn (fun (z0_J16 : Int32) => (Option.bind (f_X0_firstFault (D_length, D_signs)) (fun r_21 => (if r_21 = (-6 : Int32) then (Option.bind (f_X0_isUntold z0_J16 (D_length, D_signs)) (fun r_37 => (if r_37 = 0 then (Option.bind (f_X3_open H_law (H_beds, H_law, H_sights, H_isKept, H_worths, H_sightGuests, H_sightBeds) (I_law, I_there, I_sleepers, I_empty, I_empties, I_yard, I_waiting, I_nights, I_used, I_sheets, I_lastOnes, I_guestsWithFleas, I_bedsWithFleas, I_isCounting)) (fun (I_law_57, I_there_57, I_sleepers_57, I_empty_57, I_empties_57, I_yard_57, I_waiting_57, I_nights_57, I_used_57, I_sheets_57, I_lastOnes_57, I_guestsWithFleas_57, I_bedsWithFleas_57, I_isCounting_57) => (Option.bind (f_X3_live (nI 0) z0_J16 (H_beds, H_law, H_sights, H_isKept, H_worths, H_sightGuests, H_sightBeds) (D_length, D_signs) (I_law_57, I_there_57, I_sleepers_57, I_empty_57, I_empties_57, I_yard_57, I_waiting_57, I_nights_57, I_used_57, I_sheets_57, I_lastOnes_57, I_guestsWithFleas_57, I_bedsWithFleas_57, I_isCounting_57)) (fun (r_70, (I_law_70, I_there_70, I_sleepers_70, I_empty_70, I_empties_70, I_yard_70, I_waiting_70, I_nights_70, I_used_70, I_sheets_70, I_lastOnes_70, I_guestsWithFleas_70, I_bedsWithFleas_70, I_isCounting_70)) => (if r_70 = (-6 : Int32) then some ((nI 0), (I_law_70, I_there_70, I_sleepers_70, I_empty_70, I_empties_70, I_yard_70, I_waiting_70, I_nights_70, I_used_70, I_sheets_70, I_lastOnes_70, I_guestsWithFleas_70, I_bedsWithFleas_70, I_isCounting_70)) else some ((-5 : Int32), (I_law_70, I_there_70, I_sleepers_70, I_empty_70, I_empties_70, I_yard_70, I_waiting_70, I_nights_70, I_used_70, I_sheets_70, I_lastOnes_70, I_guestsWithFleas_70, I_bedsWithFleas_70, I_isCounting_70))))))) else some ((-3 : Int32), (I_law, I_there, I_sleepers, I_empty, I_empties, I_yard, I_waiting, I_nights, I_used, I_sheets, I_lastOnes, I_guestsWithFleas, I_bedsWithFleas, I_isCounting))))) else some ((-5 : Int32), (I_law, I_there, I_sleepers, I_empty, I_empties, I_yard, I_waiting, I_nights, I_used, I_sheets, I_lastOnes, I_guestsWithFleas, I_bedsWithFleas, I_isCounting)))))) (fun kJ16 => (if x1 = (-1 : Int32) then kJ16 D_length else kJ16 x1))
set_option maxHeartbeats 4000000 in
set_option maxRecDepth 100000 in
theorem c_X5_liveThrough (l : Launch) (D : va_G) (cI cZ : ClassId) (aB : Nat → Nat) (rB1 : Nat) (rB2 : Nat) (rB4 : Nat) (rB5 : Nat) (aH : Nat → Nat) (aD : Nat → Nat) (aI : Nat → Nat) (dI : Option Nat) (x1 : Int32) (tB : WbS) (tH : HouS) (tD : DayS) (tI : InnS) (rr : Int32 × InnS) (hf : f_X5_liveThrough x1 tB tH tD tI = some rr) : CT l D cI cZ yX5_liveThrough cX5_liveThrough 3 (some .int) 5 113 0 0 [.ref (aB 0), .int x1] ([bC cI aB (aH 0) rB1 rB2 (aD 0) rB4 rB5 (aI 0) tB, hC cI aH tH, dC cI aD tD, iC cI aI (aH 0) dI tI]) (gPost (some (.int rr.1)) ([bC cI aB (aH 0) rB1 rB2 (aD 0) rB4 rB5 (aI 0) tB, hC cI aH tH, dC cI aD tD, iC cI aI (aH 0) dI rr.2])) := by
  obtain ⟨B_bedsByPlace, rfl⟩ : ∃ z, z = tB := ⟨_, rfl⟩
  obtain ⟨H_beds, H_law, H_sights, H_isKept, H_worths, H_sightGuests, H_sightBeds⟩ := tH
  obtain ⟨D_length, D_signs⟩ := tD
  obtain ⟨I_law, I_there, I_sleepers, I_empty, I_empties, I_yard, I_waiting, I_nights, I_used, I_sheets, I_lastOnes, I_guestsWithFleas, I_bedsWithFleas, I_isCounting⟩ := tI
  rw [f_X5_liveThrough] at hf
  refine CT.mkI (by decide) (Nat.le_of_ble_eq_true rfl) fun {p} {e} {R} {s} {m} {args} {below} {meth} {c} {A} {H0} {Q} C hA hR hret => ?_
  show G p l e R s m args below meth c 3 D A H0 0 0 Q [bC cI aB (aH 0) rB1 rB2 (aD 0) rB4 rB5 (aI 0) B_bedsByPlace, hC cI aH (H_beds, H_law, H_sights, H_isKept, H_worths, H_sightGuests, H_sightBeds), dC cI aD (D_length, D_signs), iC cI aI (aH 0) dI (I_law, I_there, I_sleepers, I_empty, I_empties, I_yard, I_waiting, I_nights, I_used, I_sheets, I_lastOnes, I_guestsWithFleas, I_bedsWithFleas, I_isCounting)] 0 [(0, .ref (aB 0)), (1, .int x1)] []
  refine gq_iload_n C 1 1 dX5_liveThrough_0 rfl rfl ?_
  refine gq_iconst C (-1 : Int32) 2 dX5_liveThrough_1 (by decide) rfl ?_
  refine gq_jn (P := fun k => ∀ (z0_J16 : Int32), k z0_J16 = some rr → G p l e R s m args below meth c 3 D A H0 0 0 Q [bC cI aB (aH 0) rB1 rB2 (aD 0) rB4 rB5 (aI 0) B_bedsByPlace, hC cI aH (H_beds, H_law, H_sights, H_isKept, H_worths, H_sightGuests, H_sightBeds), dC cI aD (D_length, D_signs), iC cI aI (aH 0) dI (I_law, I_there, I_sleepers, I_empty, I_empties, I_yard, I_waiting, I_nights, I_used, I_sheets, I_lastOnes, I_guestsWithFleas, I_bedsWithFleas, I_isCounting)] 16 [(0, .ref (aB 0)), (1, .int x1)] [.int z0_J16]) hf (fun z0_J16 hf => ?_) (fun kJ16 hJ16 hf => ?_)
  · refine gq_istore_n C [(2, .int z0_J16), (0, .ref (aB 0)), (1, .int x1)] 17 dX5_liveThrough_16 (by decide) rfl rfl ?_
    refine gq_aload_n C 1 18 dX5_liveThrough_17 rfl rfl ?_
    refine gq_get C fo_X5_3 fw_X5_25 0 0 21 rfl rfl rfl dX5_liveThrough_18 rfl ?_
    obtain ⟨r_21, hc, hf⟩ := gq_bd hf
    refine gq_callN C hA gm_X5_92 (c_X0_firstFault l D cI cZ aD (D_length, D_signs) _ hc) rfl 2 0 rfl rfl rfl ⟨Nat.le_trans (Nat.le_of_ble_eq_true rfl) hR.1, Nat.le_trans (Nat.le_of_ble_eq_true rfl) hR.2.1⟩ ⟨Nat.zero_le _, Nat.zero_le _⟩ rfl (Nat.le_of_ble_eq_true rfl) dX5_liveThrough_21 [2] [bC cI aB (aH 0) rB1 rB2 (aD 0) rB4 rB5 (aI 0) B_bedsByPlace, hC cI aH (H_beds, H_law, H_sights, H_isKept, H_worths, H_sightGuests, H_sightBeds), dC cI aD (D_length, D_signs), iC cI aI (aH 0) dI (I_law, I_there, I_sleepers, I_empty, I_empties, I_yard, I_waiting, I_nights, I_used, I_sheets, I_lastOnes, I_guestsWithFleas, I_bedsWithFleas, I_isCounting)] 24 rfl (by decide) rfl rfl rfl [.int r_21] rfl ?_
    refine gq_bipush C (-6 : Int32) 26 dX5_liveThrough_24 (by decide) rfl ?_
    refine gq_icmp_eq C 32 29 dX5_liveThrough_26 (by decide) rfl (fun h26 => ?_) (fun h26 => ?_)
    · replace hf := gq_ifp h26 hf
      refine gq_aload_n C 1 33 dX5_liveThrough_32 rfl rfl ?_
      refine gq_get C fo_X5_3 fw_X5_25 0 0 36 rfl rfl rfl dX5_liveThrough_33 rfl ?_
      refine gq_iload_n C 0 37 dX5_liveThrough_36 rfl rfl ?_
      obtain ⟨r_37, hc, hf⟩ := gq_bd hf
      refine gq_callN C hA gm_X5_99 (c_X0_isUntold l D cI cZ aD z0_J16 (D_length, D_signs) _ hc) rfl 2 0 rfl rfl rfl ⟨Nat.le_trans (Nat.le_of_ble_eq_true rfl) hR.1, Nat.le_trans (Nat.le_of_ble_eq_true rfl) hR.2.1⟩ ⟨Nat.zero_le _, Nat.zero_le _⟩ rfl (Nat.le_of_ble_eq_true rfl) dX5_liveThrough_37 [2] [bC cI aB (aH 0) rB1 rB2 (aD 0) rB4 rB5 (aI 0) B_bedsByPlace, hC cI aH (H_beds, H_law, H_sights, H_isKept, H_worths, H_sightGuests, H_sightBeds), dC cI aD (D_length, D_signs), iC cI aI (aH 0) dI (I_law, I_there, I_sleepers, I_empty, I_empties, I_yard, I_waiting, I_nights, I_used, I_sheets, I_lastOnes, I_guestsWithFleas, I_bedsWithFleas, I_isCounting)] 40 rfl (by decide) rfl rfl rfl [.int r_37] rfl ?_
      refine gq_if_eq C 46 43 dX5_liveThrough_40 (by decide) rfl (fun h40 => ?_) (fun h40 => ?_)
      · replace hf := gq_ifp h40 hf
        refine gq_aload_n C 1 47 dX5_liveThrough_46 rfl rfl ?_
        refine gq_get C fo_X5_6 fw_X5_52 0 0 50 rfl rfl rfl dX5_liveThrough_47 rfl ?_
        refine gq_aload_n C 1 51 dX5_liveThrough_50 rfl rfl ?_
        refine gq_get C fo_X5_0 fw_X5_12 0 0 54 rfl rfl rfl dX5_liveThrough_51 rfl ?_
        refine gq_getN C fo_X2_1 fw_X5_79 1 0 57 rfl rfl rfl dX5_liveThrough_54 rfl ?_
        obtain ⟨⟨I_law_57, I_there_57, I_sleepers_57, I_empty_57, I_empties_57, I_yard_57, I_waiting_57, I_nights_57, I_used_57, I_sheets_57, I_lastOnes_57, I_guestsWithFleas_57, I_bedsWithFleas_57, I_isCounting_57⟩, hc, hf⟩ := gq_bd hf
        refine gq_callN C hA gm_X5_102 (c_X3_open l D cI cZ aH aI dI H_law (H_beds, H_law, H_sights, H_isKept, H_worths, H_sightGuests, H_sightBeds) (I_law, I_there, I_sleepers, I_empty, I_empties, I_yard, I_waiting, I_nights, I_used, I_sheets, I_lastOnes, I_guestsWithFleas, I_bedsWithFleas, I_isCounting) _ hc) rfl 3 0 rfl rfl rfl ⟨Nat.le_trans (Nat.le_of_ble_eq_true rfl) hR.1, Nat.le_trans (Nat.le_of_ble_eq_true rfl) hR.2.1⟩ ⟨Nat.zero_le _, Nat.zero_le _⟩ rfl (Nat.le_of_ble_eq_true rfl) dX5_liveThrough_57 [1, 3] [bC cI aB (aH 0) rB1 rB2 (aD 0) rB4 rB5 (aI 0) B_bedsByPlace, hC cI aH (H_beds, H_law, H_sights, H_isKept, H_worths, H_sightGuests, H_sightBeds), dC cI aD (D_length, D_signs), iC cI aI (aH 0) dI (I_law_57, I_there_57, I_sleepers_57, I_empty_57, I_empties_57, I_yard_57, I_waiting_57, I_nights_57, I_used_57, I_sheets_57, I_lastOnes_57, I_guestsWithFleas_57, I_bedsWithFleas_57, I_isCounting_57)] 60 rfl (by decide) rfl rfl rfl [] rfl ?_
        refine gq_aload_n C 1 61 dX5_liveThrough_60 rfl rfl ?_
        refine gq_get C fo_X5_6 fw_X5_52 0 0 64 rfl rfl rfl dX5_liveThrough_61 rfl ?_
        refine gq_aload_n C 1 65 dX5_liveThrough_64 rfl rfl ?_
        refine gq_get C fo_X5_3 fw_X5_25 0 0 68 rfl rfl rfl dX5_liveThrough_65 rfl ?_
        refine gq_iconst C (nI 0) 69 dX5_liveThrough_68 (by decide) rfl ?_
        refine gq_iload_n C 0 70 dX5_liveThrough_69 rfl rfl ?_
        obtain ⟨⟨r_70, ⟨I_law_70, I_there_70, I_sleepers_70, I_empty_70, I_empties_70, I_yard_70, I_waiting_70, I_nights_70, I_used_70, I_sheets_70, I_lastOnes_70, I_guestsWithFleas_70, I_bedsWithFleas_70, I_isCounting_70⟩⟩, hc, hf⟩ := gq_bd hf
        refine gq_callN C hA gm_X5_105 (c_X3_live l D cI cZ aH aD aI dI (nI 0) z0_J16 (H_beds, H_law, H_sights, H_isKept, H_worths, H_sightGuests, H_sightBeds) (D_length, D_signs) (I_law_57, I_there_57, I_sleepers_57, I_empty_57, I_empties_57, I_yard_57, I_waiting_57, I_nights_57, I_used_57, I_sheets_57, I_lastOnes_57, I_guestsWithFleas_57, I_bedsWithFleas_57, I_isCounting_57) _ hc) rfl 3 0 rfl rfl rfl ⟨Nat.le_trans (Nat.le_of_ble_eq_true rfl) hR.1, Nat.le_trans (Nat.le_of_ble_eq_true rfl) hR.2.1⟩ ⟨Nat.zero_le _, Nat.zero_le _⟩ rfl (Nat.le_of_ble_eq_true rfl) dX5_liveThrough_70 [1, 2, 3] [bC cI aB (aH 0) rB1 rB2 (aD 0) rB4 rB5 (aI 0) B_bedsByPlace, hC cI aH (H_beds, H_law, H_sights, H_isKept, H_worths, H_sightGuests, H_sightBeds), dC cI aD (D_length, D_signs), iC cI aI (aH 0) dI (I_law_70, I_there_70, I_sleepers_70, I_empty_70, I_empties_70, I_yard_70, I_waiting_70, I_nights_70, I_used_70, I_sheets_70, I_lastOnes_70, I_guestsWithFleas_70, I_bedsWithFleas_70, I_isCounting_70)] 73 rfl (by decide) rfl rfl rfl [.int r_70] rfl ?_
        refine gq_bipush C (-6 : Int32) 75 dX5_liveThrough_73 (by decide) rfl ?_
        refine gq_icmp_ne C 82 78 dX5_liveThrough_75 (by decide) rfl (fun h75 => ?_) (fun h75 => ?_)
        · replace hf := gq_ifn h75 hf
          refine gq_bipush C (-5 : Int32) 84 dX5_liveThrough_82 (by decide) rfl ?_
          obtain rfl := gq_lf hf
          exact hret dX5_liveThrough_84 gPost.rf
        · replace hf := gq_ifp h75 hf
          refine gq_iconst C (nI 0) 79 dX5_liveThrough_78 (by decide) rfl ?_
          refine gq_goto C 84 dX5_liveThrough_79 (by decide) ?_
          obtain rfl := gq_lf hf
          exact hret dX5_liveThrough_84 gPost.rf
      · replace hf := gq_ifn h40 hf
        refine gq_bipush C (-3 : Int32) 45 dX5_liveThrough_43 (by decide) rfl ?_
        obtain rfl := gq_lf hf
        exact hret dX5_liveThrough_45 gPost.rf
    · replace hf := gq_ifn h26 hf
      refine gq_bipush C (-5 : Int32) 31 dX5_liveThrough_29 (by decide) rfl ?_
      obtain rfl := gq_lf hf
      exact hret dX5_liveThrough_31 gPost.rf
  · refine gq_icmp_ne C 15 5 dX5_liveThrough_2 (by decide) rfl (fun h2 => ?_) (fun h2 => ?_)
    · replace hf := gq_ifn h2 hf
      refine gq_iload_n C 1 16 dX5_liveThrough_15 rfl rfl ?_
      exact hJ16 _ hf
    · replace hf := gq_ifp h2 hf
      refine gq_aload_n C 0 6 dX5_liveThrough_5 rfl rfl ?_
      refine gq_get C fo_X5_3 fw_X5_25 0 0 9 rfl rfl rfl dX5_liveThrough_6 rfl ?_
      refine gq_getN C fo_X0_0 fw_X5_89 2 0 12 rfl rfl rfl dX5_liveThrough_9 rfl ?_
      refine gq_goto C 16 dX5_liveThrough_12 (by decide) ?_
      exact hJ16 _ hf

def f_X5_sheetsBy : Int32 → WbS → HouS → DayS → InnS → Option (Int32 × InnS)
  | x1, B_bedsByPlace, (H_beds, H_law, H_sights, H_isKept, H_worths, H_sightGuests, H_sightBeds), (D_length, D_signs), (I_law, I_there, I_sleepers, I_empty, I_empties, I_yard, I_waiting, I_nights, I_used, I_sheets, I_lastOnes, I_guestsWithFleas, I_bedsWithFleas, I_isCounting) => (Option.bind (f_X3_open x1 (H_beds, H_law, H_sights, H_isKept, H_worths, H_sightGuests, H_sightBeds) (I_law, I_there, I_sleepers, I_empty, I_empties, I_yard, I_waiting, I_nights, I_used, I_sheets, I_lastOnes, I_guestsWithFleas, I_bedsWithFleas, I_isCounting)) (fun (I_law_5, I_there_5, I_sleepers_5, I_empty_5, I_empties_5, I_yard_5, I_waiting_5, I_nights_5, I_used_5, I_sheets_5, I_lastOnes_5, I_guestsWithFleas_5, I_bedsWithFleas_5, I_isCounting_5) => (Option.bind (f_X3_live (nI 0) D_length (H_beds, H_law, H_sights, H_isKept, H_worths, H_sightGuests, H_sightBeds) (D_length, D_signs) (I_law_5, I_there_5, I_sleepers_5, I_empty_5, I_empties_5, I_yard_5, I_waiting_5, I_nights_5, I_used_5, I_sheets_5, I_lastOnes_5, I_guestsWithFleas_5, I_bedsWithFleas_5, I_isCounting_5)) (fun (r_24, (I_law_24, I_there_24, I_sleepers_24, I_empty_24, I_empties_24, I_yard_24, I_waiting_24, I_nights_24, I_used_24, I_sheets_24, I_lastOnes_24, I_guestsWithFleas_24, I_bedsWithFleas_24, I_isCounting_24)) => (Option.bind (f_X3_allSheets (I_law_24, I_there_24, I_sleepers_24, I_empty_24, I_empties_24, I_yard_24, I_waiting_24, I_nights_24, I_used_24, I_sheets_24, I_lastOnes_24, I_guestsWithFleas_24, I_bedsWithFleas_24, I_isCounting_24)) (fun r_32 => some (r_32, (I_law_24, I_there_24, I_sleepers_24, I_empty_24, I_empties_24, I_yard_24, I_waiting_24, I_nights_24, I_used_24, I_sheets_24, I_lastOnes_24, I_guestsWithFleas_24, I_bedsWithFleas_24, I_isCounting_24))))))))
set_option maxHeartbeats 4000000 in
set_option maxRecDepth 100000 in
theorem c_X5_sheetsBy (l : Launch) (D : va_G) (cI cZ : ClassId) (aB : Nat → Nat) (rB1 : Nat) (rB2 : Nat) (rB4 : Nat) (rB5 : Nat) (aH : Nat → Nat) (aD : Nat → Nat) (aI : Nat → Nat) (dI : Option Nat) (x1 : Int32) (tB : WbS) (tH : HouS) (tD : DayS) (tI : InnS) (rr : Int32 × InnS) (hf : f_X5_sheetsBy x1 tB tH tD tI = some rr) : CT l D cI cZ yX5_sheetsBy cX5_sheetsBy 2 (some .int) 5 113 0 0 [.ref (aB 0), .int x1] ([bC cI aB (aH 0) rB1 rB2 (aD 0) rB4 rB5 (aI 0) tB, hC cI aH tH, dC cI aD tD, iC cI aI (aH 0) dI tI]) (gPost (some (.int rr.1)) ([bC cI aB (aH 0) rB1 rB2 (aD 0) rB4 rB5 (aI 0) tB, hC cI aH tH, dC cI aD tD, iC cI aI (aH 0) dI rr.2])) := by
  obtain ⟨B_bedsByPlace, rfl⟩ : ∃ z, z = tB := ⟨_, rfl⟩
  obtain ⟨H_beds, H_law, H_sights, H_isKept, H_worths, H_sightGuests, H_sightBeds⟩ := tH
  obtain ⟨D_length, D_signs⟩ := tD
  obtain ⟨I_law, I_there, I_sleepers, I_empty, I_empties, I_yard, I_waiting, I_nights, I_used, I_sheets, I_lastOnes, I_guestsWithFleas, I_bedsWithFleas, I_isCounting⟩ := tI
  rw [f_X5_sheetsBy] at hf
  refine CT.mkI (by decide) (Nat.le_of_ble_eq_true rfl) fun {p} {e} {R} {s} {m} {args} {below} {meth} {c} {A} {H0} {Q} C hA hR hret => ?_
  show G p l e R s m args below meth c 2 D A H0 0 0 Q [bC cI aB (aH 0) rB1 rB2 (aD 0) rB4 rB5 (aI 0) B_bedsByPlace, hC cI aH (H_beds, H_law, H_sights, H_isKept, H_worths, H_sightGuests, H_sightBeds), dC cI aD (D_length, D_signs), iC cI aI (aH 0) dI (I_law, I_there, I_sleepers, I_empty, I_empties, I_yard, I_waiting, I_nights, I_used, I_sheets, I_lastOnes, I_guestsWithFleas, I_bedsWithFleas, I_isCounting)] 0 [(0, .ref (aB 0)), (1, .int x1)] []
  refine gq_aload_n C 0 1 dX5_sheetsBy_0 rfl rfl ?_
  refine gq_get C fo_X5_6 fw_X5_52 0 0 4 rfl rfl rfl dX5_sheetsBy_1 rfl ?_
  refine gq_iload_n C 1 5 dX5_sheetsBy_4 rfl rfl ?_
  obtain ⟨⟨I_law_5, I_there_5, I_sleepers_5, I_empty_5, I_empties_5, I_yard_5, I_waiting_5, I_nights_5, I_used_5, I_sheets_5, I_lastOnes_5, I_guestsWithFleas_5, I_bedsWithFleas_5, I_isCounting_5⟩, hc, hf⟩ := gq_bd hf
  refine gq_callN C hA gm_X5_102 (c_X3_open l D cI cZ aH aI dI x1 (H_beds, H_law, H_sights, H_isKept, H_worths, H_sightGuests, H_sightBeds) (I_law, I_there, I_sleepers, I_empty, I_empties, I_yard, I_waiting, I_nights, I_used, I_sheets, I_lastOnes, I_guestsWithFleas, I_bedsWithFleas, I_isCounting) _ hc) rfl 3 0 rfl rfl rfl ⟨Nat.le_trans (Nat.le_of_ble_eq_true rfl) hR.1, Nat.le_trans (Nat.le_of_ble_eq_true rfl) hR.2.1⟩ ⟨Nat.zero_le _, Nat.zero_le _⟩ rfl (Nat.le_of_ble_eq_true rfl) dX5_sheetsBy_5 [1, 3] [bC cI aB (aH 0) rB1 rB2 (aD 0) rB4 rB5 (aI 0) B_bedsByPlace, hC cI aH (H_beds, H_law, H_sights, H_isKept, H_worths, H_sightGuests, H_sightBeds), dC cI aD (D_length, D_signs), iC cI aI (aH 0) dI (I_law_5, I_there_5, I_sleepers_5, I_empty_5, I_empties_5, I_yard_5, I_waiting_5, I_nights_5, I_used_5, I_sheets_5, I_lastOnes_5, I_guestsWithFleas_5, I_bedsWithFleas_5, I_isCounting_5)] 8 rfl (by decide) rfl rfl rfl [] rfl ?_
  refine gq_aload_n C 0 9 dX5_sheetsBy_8 rfl rfl ?_
  refine gq_get C fo_X5_6 fw_X5_52 0 0 12 rfl rfl rfl dX5_sheetsBy_9 rfl ?_
  refine gq_aload_n C 0 13 dX5_sheetsBy_12 rfl rfl ?_
  refine gq_get C fo_X5_3 fw_X5_25 0 0 16 rfl rfl rfl dX5_sheetsBy_13 rfl ?_
  refine gq_iconst C (nI 0) 17 dX5_sheetsBy_16 (by decide) rfl ?_
  refine gq_aload_n C 0 18 dX5_sheetsBy_17 rfl rfl ?_
  refine gq_get C fo_X5_3 fw_X5_25 0 0 21 rfl rfl rfl dX5_sheetsBy_18 rfl ?_
  refine gq_getN C fo_X0_0 fw_X5_89 2 0 24 rfl rfl rfl dX5_sheetsBy_21 rfl ?_
  obtain ⟨⟨r_24, ⟨I_law_24, I_there_24, I_sleepers_24, I_empty_24, I_empties_24, I_yard_24, I_waiting_24, I_nights_24, I_used_24, I_sheets_24, I_lastOnes_24, I_guestsWithFleas_24, I_bedsWithFleas_24, I_isCounting_24⟩⟩, hc, hf⟩ := gq_bd hf
  refine gq_callN C hA gm_X5_105 (c_X3_live l D cI cZ aH aD aI dI (nI 0) D_length (H_beds, H_law, H_sights, H_isKept, H_worths, H_sightGuests, H_sightBeds) (D_length, D_signs) (I_law_5, I_there_5, I_sleepers_5, I_empty_5, I_empties_5, I_yard_5, I_waiting_5, I_nights_5, I_used_5, I_sheets_5, I_lastOnes_5, I_guestsWithFleas_5, I_bedsWithFleas_5, I_isCounting_5) _ hc) rfl 3 0 rfl rfl rfl ⟨Nat.le_trans (Nat.le_of_ble_eq_true rfl) hR.1, Nat.le_trans (Nat.le_of_ble_eq_true rfl) hR.2.1⟩ ⟨Nat.zero_le _, Nat.zero_le _⟩ rfl (Nat.le_of_ble_eq_true rfl) dX5_sheetsBy_24 [1, 2, 3] [bC cI aB (aH 0) rB1 rB2 (aD 0) rB4 rB5 (aI 0) B_bedsByPlace, hC cI aH (H_beds, H_law, H_sights, H_isKept, H_worths, H_sightGuests, H_sightBeds), dC cI aD (D_length, D_signs), iC cI aI (aH 0) dI (I_law_24, I_there_24, I_sleepers_24, I_empty_24, I_empties_24, I_yard_24, I_waiting_24, I_nights_24, I_used_24, I_sheets_24, I_lastOnes_24, I_guestsWithFleas_24, I_bedsWithFleas_24, I_isCounting_24)] 27 rfl (by decide) rfl rfl rfl [.int r_24] rfl ?_
  refine gq_pop C 28 dX5_sheetsBy_27 rfl rfl ?_
  refine gq_aload_n C 0 29 dX5_sheetsBy_28 rfl rfl ?_
  refine gq_get C fo_X5_6 fw_X5_52 0 0 32 rfl rfl rfl dX5_sheetsBy_29 rfl ?_
  obtain ⟨r_32, hc, hf⟩ := gq_bd hf
  refine gq_callN C hA gm_X5_240 (c_X3_allSheets l D cI cZ aI (aH 0) dI (I_law_24, I_there_24, I_sleepers_24, I_empty_24, I_empties_24, I_yard_24, I_waiting_24, I_nights_24, I_used_24, I_sheets_24, I_lastOnes_24, I_guestsWithFleas_24, I_bedsWithFleas_24, I_isCounting_24) _ hc) rfl 3 0 rfl rfl rfl ⟨Nat.le_trans (Nat.le_of_ble_eq_true rfl) hR.1, Nat.le_trans (Nat.le_of_ble_eq_true rfl) hR.2.1⟩ ⟨Nat.zero_le _, Nat.zero_le _⟩ rfl (Nat.le_of_ble_eq_true rfl) dX5_sheetsBy_32 [3] [bC cI aB (aH 0) rB1 rB2 (aD 0) rB4 rB5 (aI 0) B_bedsByPlace, hC cI aH (H_beds, H_law, H_sights, H_isKept, H_worths, H_sightGuests, H_sightBeds), dC cI aD (D_length, D_signs), iC cI aI (aH 0) dI (I_law_24, I_there_24, I_sleepers_24, I_empty_24, I_empties_24, I_yard_24, I_waiting_24, I_nights_24, I_used_24, I_sheets_24, I_lastOnes_24, I_guestsWithFleas_24, I_bedsWithFleas_24, I_isCounting_24)] 35 rfl (by decide) rfl rfl rfl [.int r_32] rfl ?_
  obtain rfl := gq_lf hf
  exact hret dX5_sheetsBy_35 gPost.rf

def f_X5_refusalOfComing : Int32 → WbS → HouS → DayS → InnS → Option (Int32 × InnS)
  | x1, B_bedsByPlace, (H_beds, H_law, H_sights, H_isKept, H_worths, H_sightGuests, H_sightBeds), (D_length, D_signs), (I_law, I_there, I_sleepers, I_empty, I_empties, I_yard, I_waiting, I_nights, I_used, I_sheets, I_lastOnes, I_guestsWithFleas, I_bedsWithFleas, I_isCounting) => (Option.bind (f_X5_isEither x1) (fun r_1 => (if r_1 = 0 then some ((-2 : Int32), (I_law, I_there, I_sleepers, I_empty, I_empties, I_yard, I_waiting, I_nights, I_used, I_sheets, I_lastOnes, I_guestsWithFleas, I_bedsWithFleas, I_isCounting)) else (Option.bind (f_X5_liveThrough (-1 : Int32) B_bedsByPlace (H_beds, H_law, H_sights, H_isKept, H_worths, H_sightGuests, H_sightBeds) (D_length, D_signs) (I_law, I_there, I_sleepers, I_empty, I_empties, I_yard, I_waiting, I_nights, I_used, I_sheets, I_lastOnes, I_guestsWithFleas, I_bedsWithFleas, I_isCounting)) (fun (r_12, (I_law_12, I_there_12, I_sleepers_12, I_empty_12, I_empties_12, I_yard_12, I_waiting_12, I_nights_12, I_used_12, I_sheets_12, I_lastOnes_12, I_guestsWithFleas_12, I_bedsWithFleas_12, I_isCounting_12)) => (if r_12 = 0 then (Option.bind (f_X0_isFull (D_length, D_signs)) (fun r_26 => (if r_26 = 0 then some ((nI 0), (I_law_12, I_there_12, I_sleepers_12, I_empty_12, I_empties_12, I_yard_12, I_waiting_12, I_nights_12, I_used_12, I_sheets_12, I_lastOnes_12, I_guestsWithFleas_12, I_bedsWithFleas_12, I_isCounting_12)) else some ((-4 : Int32), (I_law_12, I_there_12, I_sleepers_12, I_empty_12, I_empties_12, I_yard_12, I_waiting_12, I_nights_12, I_used_12, I_sheets_12, I_lastOnes_12, I_guestsWithFleas_12, I_bedsWithFleas_12, I_isCounting_12))))) else some (r_12, (I_law_12, I_there_12, I_sleepers_12, I_empty_12, I_empties_12, I_yard_12, I_waiting_12, I_nights_12, I_used_12, I_sheets_12, I_lastOnes_12, I_guestsWithFleas_12, I_bedsWithFleas_12, I_isCounting_12))))))))
set_option maxHeartbeats 4000000 in
set_option maxRecDepth 100000 in
theorem c_X5_refusalOfComing (l : Launch) (D : va_G) (cI cZ : ClassId) (aB : Nat → Nat) (rB1 : Nat) (rB2 : Nat) (rB4 : Nat) (rB5 : Nat) (aH : Nat → Nat) (aD : Nat → Nat) (aI : Nat → Nat) (dI : Option Nat) (x1 : Int32) (tB : WbS) (tH : HouS) (tD : DayS) (tI : InnS) (rr : Int32 × InnS) (hf : f_X5_refusalOfComing x1 tB tH tD tI = some rr) : CT l D cI cZ yX5_refusalOfComing cX5_refusalOfComing 3 (some .int) 6 135 0 0 [.ref (aB 0), .int x1] ([bC cI aB (aH 0) rB1 rB2 (aD 0) rB4 rB5 (aI 0) tB, hC cI aH tH, dC cI aD tD, iC cI aI (aH 0) dI tI]) (gPost (some (.int rr.1)) ([bC cI aB (aH 0) rB1 rB2 (aD 0) rB4 rB5 (aI 0) tB, hC cI aH tH, dC cI aD tD, iC cI aI (aH 0) dI rr.2])) := by
  obtain ⟨B_bedsByPlace, rfl⟩ : ∃ z, z = tB := ⟨_, rfl⟩
  obtain ⟨H_beds, H_law, H_sights, H_isKept, H_worths, H_sightGuests, H_sightBeds⟩ := tH
  obtain ⟨D_length, D_signs⟩ := tD
  obtain ⟨I_law, I_there, I_sleepers, I_empty, I_empties, I_yard, I_waiting, I_nights, I_used, I_sheets, I_lastOnes, I_guestsWithFleas, I_bedsWithFleas, I_isCounting⟩ := tI
  rw [f_X5_refusalOfComing] at hf
  refine CT.mkI (by decide) (Nat.le_of_ble_eq_true rfl) fun {p} {e} {R} {s} {m} {args} {below} {meth} {c} {A} {H0} {Q} C hA hR hret => ?_
  show G p l e R s m args below meth c 3 D A H0 0 0 Q [bC cI aB (aH 0) rB1 rB2 (aD 0) rB4 rB5 (aI 0) B_bedsByPlace, hC cI aH (H_beds, H_law, H_sights, H_isKept, H_worths, H_sightGuests, H_sightBeds), dC cI aD (D_length, D_signs), iC cI aI (aH 0) dI (I_law, I_there, I_sleepers, I_empty, I_empties, I_yard, I_waiting, I_nights, I_used, I_sheets, I_lastOnes, I_guestsWithFleas, I_bedsWithFleas, I_isCounting)] 0 [(0, .ref (aB 0)), (1, .int x1)] []
  refine gq_iload_n C 1 1 dX5_refusalOfComing_0 rfl rfl ?_
  obtain ⟨r_1, hc, hf⟩ := gq_bd hf
  refine gq_callS C hA gm_X5_96 (c_X5_isEither l D cI cZ  x1 _ hc) rfl ⟨Nat.le_trans (Nat.le_of_ble_eq_true rfl) hR.1, Nat.le_trans (Nat.le_of_ble_eq_true rfl) hR.2.1⟩ ⟨Nat.zero_le _, Nat.zero_le _⟩ rfl (Nat.le_of_ble_eq_true rfl) dX5_refusalOfComing_1 [] [bC cI aB (aH 0) rB1 rB2 (aD 0) rB4 rB5 (aI 0) B_bedsByPlace, hC cI aH (H_beds, H_law, H_sights, H_isKept, H_worths, H_sightGuests, H_sightBeds), dC cI aD (D_length, D_signs), iC cI aI (aH 0) dI (I_law, I_there, I_sleepers, I_empty, I_empties, I_yard, I_waiting, I_nights, I_used, I_sheets, I_lastOnes, I_guestsWithFleas, I_bedsWithFleas, I_isCounting)] 4 rfl (by decide) rfl rfl rfl [.int r_1] rfl ?_
  refine gq_if_ne C 10 7 dX5_refusalOfComing_4 (by decide) rfl (fun h4 => ?_) (fun h4 => ?_)
  · replace hf := gq_ifn h4 hf
    refine gq_aload_n C 0 11 dX5_refusalOfComing_10 rfl rfl ?_
    refine gq_iconst C (-1 : Int32) 12 dX5_refusalOfComing_11 (by decide) rfl ?_
    obtain ⟨⟨r_12, ⟨I_law_12, I_there_12, I_sleepers_12, I_empty_12, I_empties_12, I_yard_12, I_waiting_12, I_nights_12, I_used_12, I_sheets_12, I_lastOnes_12, I_guestsWithFleas_12, I_bedsWithFleas_12, I_isCounting_12⟩⟩, hc, hf⟩ := gq_bd hf
    refine gq_callV C hA gm_X5_119 (c_X5_liveThrough l D cI cZ aB rB1 rB2 rB4 rB5 aH aD aI dI (-1 : Int32) B_bedsByPlace (H_beds, H_law, H_sights, H_isKept, H_worths, H_sightGuests, H_sightBeds) (D_length, D_signs) (I_law, I_there, I_sleepers, I_empty, I_empties, I_yard, I_waiting, I_nights, I_used, I_sheets, I_lastOnes, I_guestsWithFleas, I_bedsWithFleas, I_isCounting) _ hc) rfl 0 0 rfl rfl rfl ⟨Nat.le_trans (Nat.le_of_ble_eq_true rfl) hR.1, Nat.le_trans (Nat.le_of_ble_eq_true rfl) hR.2.1⟩ ⟨Nat.zero_le _, Nat.zero_le _⟩ rfl (Nat.le_of_ble_eq_true rfl) dX5_refusalOfComing_12 [0, 1, 2, 3] [bC cI aB (aH 0) rB1 rB2 (aD 0) rB4 rB5 (aI 0) B_bedsByPlace, hC cI aH (H_beds, H_law, H_sights, H_isKept, H_worths, H_sightGuests, H_sightBeds), dC cI aD (D_length, D_signs), iC cI aI (aH 0) dI (I_law_12, I_there_12, I_sleepers_12, I_empty_12, I_empties_12, I_yard_12, I_waiting_12, I_nights_12, I_used_12, I_sheets_12, I_lastOnes_12, I_guestsWithFleas_12, I_bedsWithFleas_12, I_isCounting_12)] 15 rfl (by decide) rfl rfl rfl [.int r_12] rfl ?_
    refine gq_istore_n C [(2, .int r_12), (0, .ref (aB 0)), (1, .int x1)] 16 dX5_refusalOfComing_15 (by decide) rfl rfl ?_
    refine gq_iload_n C 0 17 dX5_refusalOfComing_16 rfl rfl ?_
    refine gq_if_eq C 22 20 dX5_refusalOfComing_17 (by decide) rfl (fun h17 => ?_) (fun h17 => ?_)
    · replace hf := gq_ifp h17 hf
      refine gq_aload_n C 1 23 dX5_refusalOfComing_22 rfl rfl ?_
      refine gq_get C fo_X5_3 fw_X5_25 0 0 26 rfl rfl rfl dX5_refusalOfComing_23 rfl ?_
      obtain ⟨r_26, hc, hf⟩ := gq_bd hf
      refine gq_callN C hA gm_X5_82 (c_X0_isFull l D cI cZ aD (D_length, D_signs) _ hc) rfl 2 0 rfl rfl rfl ⟨Nat.le_trans (Nat.le_of_ble_eq_true rfl) hR.1, Nat.le_trans (Nat.le_of_ble_eq_true rfl) hR.2.1⟩ ⟨Nat.zero_le _, Nat.zero_le _⟩ rfl (Nat.le_of_ble_eq_true rfl) dX5_refusalOfComing_26 [2] [bC cI aB (aH 0) rB1 rB2 (aD 0) rB4 rB5 (aI 0) B_bedsByPlace, hC cI aH (H_beds, H_law, H_sights, H_isKept, H_worths, H_sightGuests, H_sightBeds), dC cI aD (D_length, D_signs), iC cI aI (aH 0) dI (I_law_12, I_there_12, I_sleepers_12, I_empty_12, I_empties_12, I_yard_12, I_waiting_12, I_nights_12, I_used_12, I_sheets_12, I_lastOnes_12, I_guestsWithFleas_12, I_bedsWithFleas_12, I_isCounting_12)] 29 rfl (by decide) rfl rfl rfl [.int r_26] rfl ?_
      refine gq_if_eq C 37 32 dX5_refusalOfComing_29 (by decide) rfl (fun h29 => ?_) (fun h29 => ?_)
      · replace hf := gq_ifp h29 hf
        refine gq_iconst C (nI 0) 38 dX5_refusalOfComing_37 (by decide) rfl ?_
        obtain rfl := gq_lf hf
        exact hret dX5_refusalOfComing_38 gPost.rf
      · replace hf := gq_ifn h29 hf
        refine gq_bipush C (-4 : Int32) 34 dX5_refusalOfComing_32 (by decide) rfl ?_
        refine gq_goto C 38 dX5_refusalOfComing_34 (by decide) ?_
        obtain rfl := gq_lf hf
        exact hret dX5_refusalOfComing_38 gPost.rf
    · replace hf := gq_ifn h17 hf
      refine gq_iload_n C 0 21 dX5_refusalOfComing_20 rfl rfl ?_
      obtain rfl := gq_lf hf
      exact hret dX5_refusalOfComing_21 gPost.rf
  · replace hf := gq_ifp h4 hf
    refine gq_bipush C (-2 : Int32) 9 dX5_refusalOfComing_7 (by decide) rfl ?_
    obtain rfl := gq_lf hf
    exact hret dX5_refusalOfComing_9 gPost.rf

def f_X5_bedComingAt : Int32 → WbS → Option (Int32)
  | x1, B_bedsByPlace => (if x1 < 0 then some (-1 : Int32) else (if (nI 48) ≤ x1 then some (-1 : Int32) else (if x1 < 0 ∨ 48 ≤ x1.toNatClampNeg then none else some (B_bedsByPlace x1.toNatClampNeg))))
set_option maxHeartbeats 4000000 in
set_option maxRecDepth 100000 in
theorem c_X5_bedComingAt (l : Launch) (D : va_G) (cI cZ : ClassId) (aB : Nat → Nat) (rB0 : Nat) (rB1 : Nat) (rB2 : Nat) (rB3 : Nat) (rB4 : Nat) (rB5 : Nat) (rB6 : Nat) (x1 : Int32) (tB : WbS) (rr : Int32) (hf : f_X5_bedComingAt x1 tB = some rr) : CT l D cI cZ yX5_bedComingAt cX5_bedComingAt 2 (some .int) 0 0 0 0 [.ref (aB 0), .int x1] ([bC cI aB rB0 rB1 rB2 rB3 rB4 rB5 rB6 tB]) (gPost (some (.int rr)) ([bC cI aB rB0 rB1 rB2 rB3 rB4 rB5 rB6 tB])) := by
  obtain ⟨B_bedsByPlace, rfl⟩ : ∃ z, z = tB := ⟨_, rfl⟩
  rw [f_X5_bedComingAt] at hf
  refine CT.mkI (by decide) (Nat.le_of_ble_eq_true rfl) fun {p} {e} {R} {s} {m} {args} {below} {meth} {c} {A} {H0} {Q} C hA hR hret => ?_
  show G p l e R s m args below meth c 2 D A H0 0 0 Q [bC cI aB rB0 rB1 rB2 rB3 rB4 rB5 rB6 B_bedsByPlace] 0 [(0, .ref (aB 0)), (1, .int x1)] []
  refine gq_iload_n C 1 1 dX5_bedComingAt_0 rfl rfl ?_
  refine gq_if_lt C 19 4 dX5_bedComingAt_1 (by decide) rfl (fun h1 => ?_) (fun h1 => ?_)
  · replace hf := gq_ifp h1 hf
    refine gq_iconst C (-1 : Int32) 20 dX5_bedComingAt_19 (by decide) rfl ?_
    obtain rfl := gq_lf hf
    exact hret dX5_bedComingAt_20 gPost.rf
  · replace hf := gq_ifn h1 hf
    refine gq_iload_n C 1 5 dX5_bedComingAt_4 rfl rfl ?_
    refine gq_bipush C (nI 48) 7 dX5_bedComingAt_5 (by decide) rfl ?_
    refine gq_icmp_ge C 19 10 dX5_bedComingAt_7 (by decide) rfl (fun h7 => ?_) (fun h7 => ?_)
    · replace hf := gq_ifp h7 hf
      refine gq_iconst C (-1 : Int32) 20 dX5_bedComingAt_19 (by decide) rfl ?_
      obtain rfl := gq_lf hf
      exact hret dX5_bedComingAt_20 gPost.rf
    · replace hf := gq_ifn h7 hf
      refine gq_aload_n C 0 11 dX5_bedComingAt_10 rfl rfl ?_
      refine gq_get C fo_X5_7 fw_X5_43 0 0 14 rfl rfl rfl dX5_bedComingAt_11 rfl ?_
      refine gq_iload_n C 1 15 dX5_bedComingAt_14 rfl rfl ?_
      obtain ⟨h15, hf⟩ := gq_ok hf
      refine gq_iald C 0 1 16 rfl rfl h15 dX5_bedComingAt_15 rfl ?_
      refine gq_goto C 20 dX5_bedComingAt_16 (by decide) ?_
      obtain rfl := gq_lf hf
      exact hret dX5_bedComingAt_20 gPost.rf

def f_X5_worthComingAt : Int32 → Int32 → WbS → HouS → Option (Int32)
  | x1, x2, B_bedsByPlace, (H_beds, H_law, H_sights, H_isKept, H_worths, H_sightGuests, H_sightBeds) => (Option.bind (f_X5_bedComingAt x2 B_bedsByPlace) (fun r_2 => (if r_2 = (-1 : Int32) then some (-1 : Int32) else (Option.bind (f_X2_worthOf x1 r_2 (H_beds, H_law, H_sights, H_isKept, H_worths, H_sightGuests, H_sightBeds)) (fun r_21 => some r_21)))))
set_option maxHeartbeats 4000000 in
set_option maxRecDepth 100000 in
theorem c_X5_worthComingAt (l : Launch) (D : va_G) (cI cZ : ClassId) (aB : Nat → Nat) (rB1 : Nat) (rB2 : Nat) (rB3 : Nat) (rB4 : Nat) (rB5 : Nat) (rB6 : Nat) (aH : Nat → Nat) (x1 : Int32) (x2 : Int32) (tB : WbS) (tH : HouS) (rr : Int32) (hf : f_X5_worthComingAt x1 x2 tB tH = some rr) : CT l D cI cZ yX5_worthComingAt cX5_worthComingAt 4 (some .int) 1 22 0 0 [.ref (aB 0), .int x1, .int x2] ([bC cI aB (aH 0) rB1 rB2 rB3 rB4 rB5 rB6 tB, hC cI aH tH]) (gPost (some (.int rr)) ([bC cI aB (aH 0) rB1 rB2 rB3 rB4 rB5 rB6 tB, hC cI aH tH])) := by
  obtain ⟨B_bedsByPlace, rfl⟩ : ∃ z, z = tB := ⟨_, rfl⟩
  obtain ⟨H_beds, H_law, H_sights, H_isKept, H_worths, H_sightGuests, H_sightBeds⟩ := tH
  rw [f_X5_worthComingAt] at hf
  refine CT.mkI (by decide) (Nat.le_of_ble_eq_true rfl) fun {p} {e} {R} {s} {m} {args} {below} {meth} {c} {A} {H0} {Q} C hA hR hret => ?_
  show G p l e R s m args below meth c 4 D A H0 0 0 Q [bC cI aB (aH 0) rB1 rB2 rB3 rB4 rB5 rB6 B_bedsByPlace, hC cI aH (H_beds, H_law, H_sights, H_isKept, H_worths, H_sightGuests, H_sightBeds)] 0 [(0, .ref (aB 0)), (1, .int x1), (2, .int x2)] []
  refine gq_aload_n C 0 1 dX5_worthComingAt_0 rfl rfl ?_
  refine gq_iload_n C 2 2 dX5_worthComingAt_1 rfl rfl ?_
  obtain ⟨r_2, hc, hf⟩ := gq_bd hf
  refine gq_callV C hA gm_X5_149 (c_X5_bedComingAt l D cI cZ aB (aH 0) rB1 rB2 rB3 rB4 rB5 rB6 x2 B_bedsByPlace _ hc) rfl 0 0 rfl rfl rfl ⟨Nat.le_trans (Nat.le_of_ble_eq_true rfl) hR.1, Nat.le_trans (Nat.le_of_ble_eq_true rfl) hR.2.1⟩ ⟨Nat.zero_le _, Nat.zero_le _⟩ rfl (Nat.le_of_ble_eq_true rfl) dX5_worthComingAt_2 [0] [bC cI aB (aH 0) rB1 rB2 rB3 rB4 rB5 rB6 B_bedsByPlace, hC cI aH (H_beds, H_law, H_sights, H_isKept, H_worths, H_sightGuests, H_sightBeds)] 5 rfl (by decide) rfl rfl rfl [.int r_2] rfl ?_
  refine gq_istore_n C [(3, .int r_2), (0, .ref (aB 0)), (1, .int x1), (2, .int x2)] 6 dX5_worthComingAt_5 (by decide) rfl rfl ?_
  refine gq_iload_n C 0 7 dX5_worthComingAt_6 rfl rfl ?_
  refine gq_iconst C (-1 : Int32) 8 dX5_worthComingAt_7 (by decide) rfl ?_
  refine gq_icmp_ne C 15 11 dX5_worthComingAt_8 (by decide) rfl (fun h8 => ?_) (fun h8 => ?_)
  · replace hf := gq_ifn h8 hf
    refine gq_aload_n C 1 16 dX5_worthComingAt_15 rfl rfl ?_
    refine gq_get C fo_X5_0 fw_X5_12 0 0 19 rfl rfl rfl dX5_worthComingAt_16 rfl ?_
    refine gq_iload_n C 2 20 dX5_worthComingAt_19 rfl rfl ?_
    refine gq_iload_n C 0 21 dX5_worthComingAt_20 rfl rfl ?_
    obtain ⟨r_21, hc, hf⟩ := gq_bd hf
    refine gq_callN C hA gm_X5_71 (c_X2_worthOf l D cI cZ aH x1 r_2 (H_beds, H_law, H_sights, H_isKept, H_worths, H_sightGuests, H_sightBeds) _ hc) rfl 1 0 rfl rfl rfl ⟨Nat.le_trans (Nat.le_of_ble_eq_true rfl) hR.1, Nat.le_trans (Nat.le_of_ble_eq_true rfl) hR.2.1⟩ ⟨Nat.zero_le _, Nat.zero_le _⟩ rfl (Nat.le_of_ble_eq_true rfl) dX5_worthComingAt_21 [1] [bC cI aB (aH 0) rB1 rB2 rB3 rB4 rB5 rB6 B_bedsByPlace, hC cI aH (H_beds, H_law, H_sights, H_isKept, H_worths, H_sightGuests, H_sightBeds)] 24 rfl (by decide) rfl rfl rfl [.int r_21] rfl ?_
    obtain rfl := gq_lf hf
    exact hret dX5_worthComingAt_24 gPost.rf
  · replace hf := gq_ifp h8 hf
    refine gq_iconst C (-1 : Int32) 12 dX5_worthComingAt_11 (by decide) rfl ?_
    refine gq_goto C 24 dX5_worthComingAt_12 (by decide) ?_
    obtain rfl := gq_lf hf
    exact hret dX5_worthComingAt_24 gPost.rf

def f_X5_spreadFrom : Int32 → WbS → HouS → DayS → InnS → Option (InnS)
  | x1, B_bedsByPlace, (H_beds, H_law, H_sights, H_isKept, H_worths, H_sightGuests, H_sightBeds), (D_length, D_signs), (I_law, I_there, I_sleepers, I_empty, I_empties, I_yard, I_waiting, I_nights, I_used, I_sheets, I_lastOnes, I_guestsWithFleas, I_bedsWithFleas, I_isCounting) => (Option.bind (f_X3_open H_law (H_beds, H_law, H_sights, H_isKept, H_worths, H_sightGuests, H_sightBeds) (I_law, I_there, I_sleepers, I_empty, I_empties, I_yard, I_waiting, I_nights, I_used, I_sheets, I_lastOnes, I_guestsWithFleas, I_bedsWithFleas, I_isCounting)) (fun (I_law_11, I_there_11, I_sleepers_11, I_empty_11, I_empties_11, I_yard_11, I_waiting_11, I_nights_11, I_used_11, I_sheets_11, I_lastOnes_11, I_guestsWithFleas_11, I_bedsWithFleas_11, I_isCounting_11) => (Option.bind (f_X3_infest x1 (I_law_11, I_there_11, I_sleepers_11, I_empty_11, I_empties_11, I_yard_11, I_waiting_11, I_nights_11, I_used_11, I_sheets_11, I_lastOnes_11, I_guestsWithFleas_11, I_bedsWithFleas_11, I_isCounting_11)) (fun (I_law_19, I_there_19, I_sleepers_19, I_empty_19, I_empties_19, I_yard_19, I_waiting_19, I_nights_19, I_used_19, I_sheets_19, I_lastOnes_19, I_guestsWithFleas_19, I_bedsWithFleas_19, I_isCounting_19) => (Option.bind (f_X3_live (nI 0) D_length (H_beds, H_law, H_sights, H_isKept, H_worths, H_sightGuests, H_sightBeds) (D_length, D_signs) (I_law_19, I_there_19, I_sleepers_19, I_empty_19, I_empties_19, I_yard_19, I_waiting_19, I_nights_19, I_used_19, I_sheets_19, I_lastOnes_19, I_guestsWithFleas_19, I_bedsWithFleas_19, I_isCounting_19)) (fun (r_38, (I_law_38, I_there_38, I_sleepers_38, I_empty_38, I_empties_38, I_yard_38, I_waiting_38, I_nights_38, I_used_38, I_sheets_38, I_lastOnes_38, I_guestsWithFleas_38, I_bedsWithFleas_38, I_isCounting_38)) => some (I_law_38, I_there_38, I_sleepers_38, I_empty_38, I_empties_38, I_yard_38, I_waiting_38, I_nights_38, I_used_38, I_sheets_38, I_lastOnes_38, I_guestsWithFleas_38, I_bedsWithFleas_38, I_isCounting_38)))))))
set_option maxHeartbeats 4000000 in
set_option maxRecDepth 100000 in
theorem c_X5_spreadFrom (l : Launch) (D : va_G) (cI cZ : ClassId) (aB : Nat → Nat) (rB1 : Nat) (rB2 : Nat) (rB4 : Nat) (rB5 : Nat) (aH : Nat → Nat) (aD : Nat → Nat) (aI : Nat → Nat) (dI : Option Nat) (x1 : Int32) (tB : WbS) (tH : HouS) (tD : DayS) (tI : InnS) (rr : InnS) (hf : f_X5_spreadFrom x1 tB tH tD tI = some rr) : CT l D cI cZ yX5_spreadFrom cX5_spreadFrom 2 none 5 113 0 0 [.ref (aB 0), .int x1] ([bC cI aB (aH 0) rB1 rB2 (aD 0) rB4 rB5 (aI 0) tB, hC cI aH tH, dC cI aD tD, iC cI aI (aH 0) dI tI]) (gPost none ([bC cI aB (aH 0) rB1 rB2 (aD 0) rB4 rB5 (aI 0) tB, hC cI aH tH, dC cI aD tD, iC cI aI (aH 0) dI rr])) := by
  obtain ⟨B_bedsByPlace, rfl⟩ : ∃ z, z = tB := ⟨_, rfl⟩
  obtain ⟨H_beds, H_law, H_sights, H_isKept, H_worths, H_sightGuests, H_sightBeds⟩ := tH
  obtain ⟨D_length, D_signs⟩ := tD
  obtain ⟨I_law, I_there, I_sleepers, I_empty, I_empties, I_yard, I_waiting, I_nights, I_used, I_sheets, I_lastOnes, I_guestsWithFleas, I_bedsWithFleas, I_isCounting⟩ := tI
  rw [f_X5_spreadFrom] at hf
  refine CT.mkV (by decide) (Nat.le_of_ble_eq_true rfl) fun {p} {e} {R} {s} {m} {args} {below} {meth} {c} {A} {H0} {Q} C hA hR hnm hret => ?_
  show G p l e R s m args below meth c 2 D A H0 0 0 Q [bC cI aB (aH 0) rB1 rB2 (aD 0) rB4 rB5 (aI 0) B_bedsByPlace, hC cI aH (H_beds, H_law, H_sights, H_isKept, H_worths, H_sightGuests, H_sightBeds), dC cI aD (D_length, D_signs), iC cI aI (aH 0) dI (I_law, I_there, I_sleepers, I_empty, I_empties, I_yard, I_waiting, I_nights, I_used, I_sheets, I_lastOnes, I_guestsWithFleas, I_bedsWithFleas, I_isCounting)] 0 [(0, .ref (aB 0)), (1, .int x1)] []
  refine gq_aload_n C 0 1 dX5_spreadFrom_0 rfl rfl ?_
  refine gq_get C fo_X5_6 fw_X5_52 0 0 4 rfl rfl rfl dX5_spreadFrom_1 rfl ?_
  refine gq_aload_n C 0 5 dX5_spreadFrom_4 rfl rfl ?_
  refine gq_get C fo_X5_0 fw_X5_12 0 0 8 rfl rfl rfl dX5_spreadFrom_5 rfl ?_
  refine gq_getN C fo_X2_1 fw_X5_79 1 0 11 rfl rfl rfl dX5_spreadFrom_8 rfl ?_
  obtain ⟨⟨I_law_11, I_there_11, I_sleepers_11, I_empty_11, I_empties_11, I_yard_11, I_waiting_11, I_nights_11, I_used_11, I_sheets_11, I_lastOnes_11, I_guestsWithFleas_11, I_bedsWithFleas_11, I_isCounting_11⟩, hc, hf⟩ := gq_bd hf
  refine gq_callN C hA gm_X5_102 (c_X3_open l D cI cZ aH aI dI H_law (H_beds, H_law, H_sights, H_isKept, H_worths, H_sightGuests, H_sightBeds) (I_law, I_there, I_sleepers, I_empty, I_empties, I_yard, I_waiting, I_nights, I_used, I_sheets, I_lastOnes, I_guestsWithFleas, I_bedsWithFleas, I_isCounting) _ hc) rfl 3 0 rfl rfl rfl ⟨Nat.le_trans (Nat.le_of_ble_eq_true rfl) hR.1, Nat.le_trans (Nat.le_of_ble_eq_true rfl) hR.2.1⟩ ⟨Nat.zero_le _, Nat.zero_le _⟩ rfl (Nat.le_of_ble_eq_true rfl) dX5_spreadFrom_11 [1, 3] [bC cI aB (aH 0) rB1 rB2 (aD 0) rB4 rB5 (aI 0) B_bedsByPlace, hC cI aH (H_beds, H_law, H_sights, H_isKept, H_worths, H_sightGuests, H_sightBeds), dC cI aD (D_length, D_signs), iC cI aI (aH 0) dI (I_law_11, I_there_11, I_sleepers_11, I_empty_11, I_empties_11, I_yard_11, I_waiting_11, I_nights_11, I_used_11, I_sheets_11, I_lastOnes_11, I_guestsWithFleas_11, I_bedsWithFleas_11, I_isCounting_11)] 14 rfl (by decide) rfl rfl rfl [] rfl ?_
  refine gq_aload_n C 0 15 dX5_spreadFrom_14 rfl rfl ?_
  refine gq_get C fo_X5_6 fw_X5_52 0 0 18 rfl rfl rfl dX5_spreadFrom_15 rfl ?_
  refine gq_iload_n C 1 19 dX5_spreadFrom_18 rfl rfl ?_
  obtain ⟨⟨I_law_19, I_there_19, I_sleepers_19, I_empty_19, I_empties_19, I_yard_19, I_waiting_19, I_nights_19, I_used_19, I_sheets_19, I_lastOnes_19, I_guestsWithFleas_19, I_bedsWithFleas_19, I_isCounting_19⟩, hc, hf⟩ := gq_bd hf
  refine gq_callN C hA gm_X5_250 (c_X3_infest l D cI cZ aI (aH 0) dI x1 (I_law_11, I_there_11, I_sleepers_11, I_empty_11, I_empties_11, I_yard_11, I_waiting_11, I_nights_11, I_used_11, I_sheets_11, I_lastOnes_11, I_guestsWithFleas_11, I_bedsWithFleas_11, I_isCounting_11) _ hc) rfl 3 0 rfl rfl rfl ⟨Nat.le_trans (Nat.le_of_ble_eq_true rfl) hR.1, Nat.le_trans (Nat.le_of_ble_eq_true rfl) hR.2.1⟩ ⟨Nat.zero_le _, Nat.zero_le _⟩ rfl (Nat.le_of_ble_eq_true rfl) dX5_spreadFrom_19 [3] [bC cI aB (aH 0) rB1 rB2 (aD 0) rB4 rB5 (aI 0) B_bedsByPlace, hC cI aH (H_beds, H_law, H_sights, H_isKept, H_worths, H_sightGuests, H_sightBeds), dC cI aD (D_length, D_signs), iC cI aI (aH 0) dI (I_law_19, I_there_19, I_sleepers_19, I_empty_19, I_empties_19, I_yard_19, I_waiting_19, I_nights_19, I_used_19, I_sheets_19, I_lastOnes_19, I_guestsWithFleas_19, I_bedsWithFleas_19, I_isCounting_19)] 22 rfl (by decide) rfl rfl rfl [] rfl ?_
  refine gq_aload_n C 0 23 dX5_spreadFrom_22 rfl rfl ?_
  refine gq_get C fo_X5_6 fw_X5_52 0 0 26 rfl rfl rfl dX5_spreadFrom_23 rfl ?_
  refine gq_aload_n C 0 27 dX5_spreadFrom_26 rfl rfl ?_
  refine gq_get C fo_X5_3 fw_X5_25 0 0 30 rfl rfl rfl dX5_spreadFrom_27 rfl ?_
  refine gq_iconst C (nI 0) 31 dX5_spreadFrom_30 (by decide) rfl ?_
  refine gq_aload_n C 0 32 dX5_spreadFrom_31 rfl rfl ?_
  refine gq_get C fo_X5_3 fw_X5_25 0 0 35 rfl rfl rfl dX5_spreadFrom_32 rfl ?_
  refine gq_getN C fo_X0_0 fw_X5_89 2 0 38 rfl rfl rfl dX5_spreadFrom_35 rfl ?_
  obtain ⟨⟨r_38, ⟨I_law_38, I_there_38, I_sleepers_38, I_empty_38, I_empties_38, I_yard_38, I_waiting_38, I_nights_38, I_used_38, I_sheets_38, I_lastOnes_38, I_guestsWithFleas_38, I_bedsWithFleas_38, I_isCounting_38⟩⟩, hc, hf⟩ := gq_bd hf
  refine gq_callN C hA gm_X5_105 (c_X3_live l D cI cZ aH aD aI dI (nI 0) D_length (H_beds, H_law, H_sights, H_isKept, H_worths, H_sightGuests, H_sightBeds) (D_length, D_signs) (I_law_19, I_there_19, I_sleepers_19, I_empty_19, I_empties_19, I_yard_19, I_waiting_19, I_nights_19, I_used_19, I_sheets_19, I_lastOnes_19, I_guestsWithFleas_19, I_bedsWithFleas_19, I_isCounting_19) _ hc) rfl 3 0 rfl rfl rfl ⟨Nat.le_trans (Nat.le_of_ble_eq_true rfl) hR.1, Nat.le_trans (Nat.le_of_ble_eq_true rfl) hR.2.1⟩ ⟨Nat.zero_le _, Nat.zero_le _⟩ rfl (Nat.le_of_ble_eq_true rfl) dX5_spreadFrom_38 [1, 2, 3] [bC cI aB (aH 0) rB1 rB2 (aD 0) rB4 rB5 (aI 0) B_bedsByPlace, hC cI aH (H_beds, H_law, H_sights, H_isKept, H_worths, H_sightGuests, H_sightBeds), dC cI aD (D_length, D_signs), iC cI aI (aH 0) dI (I_law_38, I_there_38, I_sleepers_38, I_empty_38, I_empties_38, I_yard_38, I_waiting_38, I_nights_38, I_used_38, I_sheets_38, I_lastOnes_38, I_guestsWithFleas_38, I_bedsWithFleas_38, I_isCounting_38)] 41 rfl (by decide) rfl rfl rfl [.int r_38] rfl ?_
  refine gq_pop C 42 dX5_spreadFrom_41 rfl rfl ?_
  obtain rfl := gq_lf hf
  exact hret dX5_spreadFrom_42 gPost.rf

def f_X5_tryAllPlaces_L24 (c_x1 : Int32) (c_H_beds : Int32) (c_H_law : Int32) (c_H_sights : Int32) (c_H_isKept : Int32) (c_H_worths : (Nat → Int32)) (c_H_sightGuests : (Nat → Int32)) (c_H_sightBeds : (Nat → Int32)) (c_D_length : Int32) (c_D_signs : (Nat → Int32)) : Nat → Int32 → (Nat → Int32) → Int32 → Int32 → (Nat → Int32) → (Nat → Int32) → Int32 → (Nat → Int32) → Int32 → (Nat → Int32) → (Nat → Int32) → (Nat → Int32) → (Nat → Int32) → Int32 → Int32 → Int32 → Int32 → Int32 → (Nat → Int32) → (Nat → Int32) → Int32 → (Nat → Int32) → Int32 → (Nat → Int32) → (Nat → Int32) → (Nat → Int32) → (Nat → Int32) → Int32 → Int32 → Int32 → (Int32 → (Nat → Int32) → Int32 → Int32 → (Nat → Int32) → (Nat → Int32) → Int32 → (Nat → Int32) → Int32 → (Nat → Int32) → (Nat → Int32) → (Nat → Int32) → (Nat → Int32) → Int32 → Int32 → Int32 → Int32 → Int32 → (Nat → Int32) → (Nat → Int32) → Int32 → (Nat → Int32) → Int32 → (Nat → Int32) → (Nat → Int32) → (Nat → Int32) → (Nat → Int32) → Int32 → Int32 → Int32 → Option (WbS × InnS × InnS)) → Option (WbS × InnS × InnS)
  | 0, _, _, _, _, _, _, _, _, _, _, _, _, _, _, _, _, _, _, _, _, _, _, _, _, _, _, _, _, _, _, _ => none
  | nL24 + 1, x3_L24, B_bedsByPlace_L24, I_law_L24, I_there_L24, I_sleepers_L24, I_empty_L24, I_empties_L24, I_yard_L24, I_waiting_L24, I_nights_L24, I_used_L24, I_sheets_L24, I_lastOnes_L24, I_guestsWithFleas_L24, I_bedsWithFleas_L24, I_isCounting_L24, J_law_L24, J_there_L24, J_sleepers_L24, J_empty_L24, J_empties_L24, J_yard_L24, J_waiting_L24, J_nights_L24, J_used_L24, J_sheets_L24, J_lastOnes_L24, J_guestsWithFleas_L24, J_bedsWithFleas_L24, J_isCounting_L24, kL24 => (if c_D_length < x3_L24 then kL24 x3_L24 B_bedsByPlace_L24 I_law_L24 I_there_L24 I_sleepers_L24 I_empty_L24 I_empties_L24 I_yard_L24 I_waiting_L24 I_nights_L24 I_used_L24 I_sheets_L24 I_lastOnes_L24 I_guestsWithFleas_L24 I_bedsWithFleas_L24 I_isCounting_L24 J_law_L24 J_there_L24 J_sleepers_L24 J_empty_L24 J_empties_L24 J_yard_L24 J_waiting_L24 J_nights_L24 J_used_L24 J_sheets_L24 J_lastOnes_L24 J_guestsWithFleas_L24 J_bedsWithFleas_L24 J_isCounting_L24 else (if (nI 48) ≤ x3_L24 then kL24 x3_L24 B_bedsByPlace_L24 I_law_L24 I_there_L24 I_sleepers_L24 I_empty_L24 I_empties_L24 I_yard_L24 I_waiting_L24 I_nights_L24 I_used_L24 I_sheets_L24 I_lastOnes_L24 I_guestsWithFleas_L24 I_bedsWithFleas_L24 I_isCounting_L24 J_law_L24 J_there_L24 J_sleepers_L24 J_empty_L24 J_empties_L24 J_yard_L24 J_waiting_L24 J_nights_L24 J_used_L24 J_sheets_L24 J_lastOnes_L24 J_guestsWithFleas_L24 J_bedsWithFleas_L24 J_isCounting_L24 else (Option.bind (f_X3_standAs (J_law_L24, J_there_L24, J_sleepers_L24, J_empty_L24, J_empties_L24, J_yard_L24, J_waiting_L24, J_nights_L24, J_used_L24, J_sheets_L24, J_lastOnes_L24, J_guestsWithFleas_L24, J_bedsWithFleas_L24, J_isCounting_L24) (I_law_L24, I_there_L24, I_sleepers_L24, I_empty_L24, I_empties_L24, I_yard_L24, I_waiting_L24, I_nights_L24, I_used_L24, I_sheets_L24, I_lastOnes_L24, I_guestsWithFleas_L24, I_bedsWithFleas_L24, I_isCounting_L24)) (fun (J_law_50, J_there_50, J_sleepers_50, J_empty_50, J_empties_50, J_yard_50, J_waiting_50, J_nights_50, J_used_50, J_sheets_50, J_lastOnes_50, J_guestsWithFleas_50, J_bedsWithFleas_50, J_isCounting_50) => (Option.bind (f_X3_takeIn c_x1 (c_H_beds, c_H_law, c_H_sights, c_H_isKept, c_H_worths, c_H_sightGuests, c_H_sightBeds) (J_law_50, J_there_50, J_sleepers_50, J_empty_50, J_empties_50, J_yard_50, J_waiting_50, J_nights_50, J_used_50, J_sheets_50, J_lastOnes_50, J_guestsWithFleas_50, J_bedsWithFleas_50, J_isCounting_50)) (fun (J_law_55, J_there_55, J_sleepers_55, J_empty_55, J_empties_55, J_yard_55, J_waiting_55, J_nights_55, J_used_55, J_sheets_55, J_lastOnes_55, J_guestsWithFleas_55, J_bedsWithFleas_55, J_isCounting_55) => (Option.bind (f_X3_live x3_L24 c_D_length (c_H_beds, c_H_law, c_H_sights, c_H_isKept, c_H_worths, c_H_sightGuests, c_H_sightBeds) (c_D_length, c_D_signs) (J_law_55, J_there_55, J_sleepers_55, J_empty_55, J_empties_55, J_yard_55, J_waiting_55, J_nights_55, J_used_55, J_sheets_55, J_lastOnes_55, J_guestsWithFleas_55, J_bedsWithFleas_55, J_isCounting_55)) (fun (r_71, (J_law_71, J_there_71, J_sleepers_71, J_empty_71, J_empties_71, J_yard_71, J_waiting_71, J_nights_71, J_used_71, J_sheets_71, J_lastOnes_71, J_guestsWithFleas_71, J_bedsWithFleas_71, J_isCounting_71)) => (Option.bind (f_X3_bedOf c_x1 (J_law_71, J_there_71, J_sleepers_71, J_empty_71, J_empties_71, J_yard_71, J_waiting_71, J_nights_71, J_used_71, J_sheets_71, J_lastOnes_71, J_guestsWithFleas_71, J_bedsWithFleas_71, J_isCounting_71)) (fun r_82 => (if x3_L24 < 0 ∨ 48 ≤ x3_L24.toNatClampNeg then none else (Option.bind (f_X3_live x3_L24 (x3_L24 + (nI 1)) (c_H_beds, c_H_law, c_H_sights, c_H_isKept, c_H_worths, c_H_sightGuests, c_H_sightBeds) (c_D_length, c_D_signs) (I_law_L24, I_there_L24, I_sleepers_L24, I_empty_L24, I_empties_L24, I_yard_L24, I_waiting_L24, I_nights_L24, I_used_L24, I_sheets_L24, I_lastOnes_L24, I_guestsWithFleas_L24, I_bedsWithFleas_L24, I_isCounting_L24)) (fun (r_98, (I_law_98, I_there_98, I_sleepers_98, I_empty_98, I_empties_98, I_yard_98, I_waiting_98, I_nights_98, I_used_98, I_sheets_98, I_lastOnes_98, I_guestsWithFleas_98, I_bedsWithFleas_98, I_isCounting_98)) => f_X5_tryAllPlaces_L24 c_x1 c_H_beds c_H_law c_H_sights c_H_isKept c_H_worths c_H_sightGuests c_H_sightBeds c_D_length c_D_signs nL24 (x3_L24 + (nI 1)) (upd B_bedsByPlace_L24 x3_L24.toNatClampNeg r_82) I_law_98 I_there_98 I_sleepers_98 I_empty_98 I_empties_98 I_yard_98 I_waiting_98 I_nights_98 I_used_98 I_sheets_98 I_lastOnes_98 I_guestsWithFleas_98 I_bedsWithFleas_98 I_isCounting_98 J_law_71 J_there_71 J_sleepers_71 J_empty_71 J_empties_71 J_yard_71 J_waiting_71 J_nights_71 J_used_71 J_sheets_71 J_lastOnes_71 J_guestsWithFleas_71 J_bedsWithFleas_71 J_isCounting_71 kL24)))))))))))))
def f_X5_tryAllPlaces : Int32 → WbS → HouS → DayS → InnS → InnS → Option (WbS × InnS × InnS)
  | x1, B_bedsByPlace, (H_beds, H_law, H_sights, H_isKept, H_worths, H_sightGuests, H_sightBeds), (D_length, D_signs), (I_law, I_there, I_sleepers, I_empty, I_empties, I_yard, I_waiting, I_nights, I_used, I_sheets, I_lastOnes, I_guestsWithFleas, I_bedsWithFleas, I_isCounting), (J_law, J_there, J_sleepers, J_empty, J_empties, J_yard, J_waiting, J_nights, J_used, J_sheets, J_lastOnes, J_guestsWithFleas, J_bedsWithFleas, J_isCounting) => (Option.bind (f_X3_open H_law (H_beds, H_law, H_sights, H_isKept, H_worths, H_sightGuests, H_sightBeds) (I_law, I_there, I_sleepers, I_empty, I_empties, I_yard, I_waiting, I_nights, I_used, I_sheets, I_lastOnes, I_guestsWithFleas, I_bedsWithFleas, I_isCounting)) (fun (I_law_19, I_there_19, I_sleepers_19, I_empty_19, I_empties_19, I_yard_19, I_waiting_19, I_nights_19, I_used_19, I_sheets_19, I_lastOnes_19, I_guestsWithFleas_19, I_bedsWithFleas_19, I_isCounting_19) => f_X5_tryAllPlaces_L24 x1 H_beds H_law H_sights H_isKept H_worths H_sightGuests H_sightBeds D_length D_signs FU (nI 0) B_bedsByPlace I_law_19 I_there_19 I_sleepers_19 I_empty_19 I_empties_19 I_yard_19 I_waiting_19 I_nights_19 I_used_19 I_sheets_19 I_lastOnes_19 I_guestsWithFleas_19 I_bedsWithFleas_19 I_isCounting_19 J_law J_there J_sleepers J_empty J_empties J_yard J_waiting J_nights J_used J_sheets J_lastOnes J_guestsWithFleas J_bedsWithFleas J_isCounting (fun x3_L24 B_bedsByPlace_L24 I_law_L24 I_there_L24 I_sleepers_L24 I_empty_L24 I_empties_L24 I_yard_L24 I_waiting_L24 I_nights_L24 I_used_L24 I_sheets_L24 I_lastOnes_L24 I_guestsWithFleas_L24 I_bedsWithFleas_L24 I_isCounting_L24 J_law_L24 J_there_L24 J_sleepers_L24 J_empty_L24 J_empties_L24 J_yard_L24 J_waiting_L24 J_nights_L24 J_used_L24 J_sheets_L24 J_lastOnes_L24 J_guestsWithFleas_L24 J_bedsWithFleas_L24 J_isCounting_L24 => some (B_bedsByPlace_L24, (I_law_L24, I_there_L24, I_sleepers_L24, I_empty_L24, I_empties_L24, I_yard_L24, I_waiting_L24, I_nights_L24, I_used_L24, I_sheets_L24, I_lastOnes_L24, I_guestsWithFleas_L24, I_bedsWithFleas_L24, I_isCounting_L24), (J_law_L24, J_there_L24, J_sleepers_L24, J_empty_L24, J_empties_L24, J_yard_L24, J_waiting_L24, J_nights_L24, J_used_L24, J_sheets_L24, J_lastOnes_L24, J_guestsWithFleas_L24, J_bedsWithFleas_L24, J_isCounting_L24)))))
set_option maxHeartbeats 4000000 in
set_option maxRecDepth 100000 in
theorem c_X5_tryAllPlaces (l : Launch) (D : va_G) (cI cZ : ClassId) (aB : Nat → Nat) (rB1 : Nat) (rB2 : Nat) (rB4 : Nat) (rB5 : Nat) (aH : Nat → Nat) (aD : Nat → Nat) (aI : Nat → Nat) (aJ : Nat → Nat) (dJ : Option Nat) (x1 : Int32) (tB : WbS) (tH : HouS) (tD : DayS) (tI : InnS) (tJ : InnS) (rr : WbS × InnS × InnS) (hf : f_X5_tryAllPlaces x1 tB tH tD tI tJ = some rr) : CT l D cI cZ yX5_tryAllPlaces cX5_tryAllPlaces 4 none 5 113 0 0 [.ref (aB 0), .int x1] ([bC cI aB (aH 0) rB1 rB2 (aD 0) rB4 rB5 (aI 0) tB, hC cI aH tH, dC cI aD tD, iC cI aI (aH 0) (some (aJ 0)) tI, iC cI aJ (aH 0) dJ tJ]) (gPost none ([bC cI aB (aH 0) rB1 rB2 (aD 0) rB4 rB5 (aI 0) rr.1, hC cI aH tH, dC cI aD tD, iC cI aI (aH 0) (some (aJ 0)) rr.2.1, iC cI aJ (aH 0) dJ rr.2.2])) := by
  obtain ⟨B_bedsByPlace, rfl⟩ : ∃ z, z = tB := ⟨_, rfl⟩
  obtain ⟨H_beds, H_law, H_sights, H_isKept, H_worths, H_sightGuests, H_sightBeds⟩ := tH
  obtain ⟨D_length, D_signs⟩ := tD
  obtain ⟨I_law, I_there, I_sleepers, I_empty, I_empties, I_yard, I_waiting, I_nights, I_used, I_sheets, I_lastOnes, I_guestsWithFleas, I_bedsWithFleas, I_isCounting⟩ := tI
  obtain ⟨J_law, J_there, J_sleepers, J_empty, J_empties, J_yard, J_waiting, J_nights, J_used, J_sheets, J_lastOnes, J_guestsWithFleas, J_bedsWithFleas, J_isCounting⟩ := tJ
  rw [f_X5_tryAllPlaces] at hf
  refine CT.mkV (by decide) (Nat.le_of_ble_eq_true rfl) fun {p} {e} {R} {s} {m} {args} {below} {meth} {c} {A} {H0} {Q} C hA hR hnm hret => ?_
  show G p l e R s m args below meth c 4 D A H0 0 0 Q [bC cI aB (aH 0) rB1 rB2 (aD 0) rB4 rB5 (aI 0) B_bedsByPlace, hC cI aH (H_beds, H_law, H_sights, H_isKept, H_worths, H_sightGuests, H_sightBeds), dC cI aD (D_length, D_signs), iC cI aI (aH 0) (some (aJ 0)) (I_law, I_there, I_sleepers, I_empty, I_empties, I_yard, I_waiting, I_nights, I_used, I_sheets, I_lastOnes, I_guestsWithFleas, I_bedsWithFleas, I_isCounting), iC cI aJ (aH 0) dJ (J_law, J_there, J_sleepers, J_empty, J_empties, J_yard, J_waiting, J_nights, J_used, J_sheets, J_lastOnes, J_guestsWithFleas, J_bedsWithFleas, J_isCounting)] 0 [(0, .ref (aB 0)), (1, .int x1)] []
  refine gq_aload_n C 0 1 dX5_tryAllPlaces_0 rfl rfl ?_
  refine gq_get C fo_X5_6 fw_X5_52 0 0 4 rfl rfl rfl dX5_tryAllPlaces_1 rfl ?_
  refine gq_getN C fo_X3_1 fw_X5_243 3 0 7 rfl rfl rfl dX5_tryAllPlaces_4 rfl ?_
  refine gq_astore_n C [(2, .ref (aJ 0)), (0, .ref (aB 0)), (1, .int x1)] 8 dX5_tryAllPlaces_7 (by decide) rfl rfl ?_
  refine gq_aload_n C 1 9 dX5_tryAllPlaces_8 rfl rfl ?_
  refine gq_get C fo_X5_6 fw_X5_52 0 0 12 rfl rfl rfl dX5_tryAllPlaces_9 rfl ?_
  refine gq_aload_n C 1 13 dX5_tryAllPlaces_12 rfl rfl ?_
  refine gq_get C fo_X5_0 fw_X5_12 0 0 16 rfl rfl rfl dX5_tryAllPlaces_13 rfl ?_
  refine gq_getN C fo_X2_1 fw_X5_79 1 0 19 rfl rfl rfl dX5_tryAllPlaces_16 rfl ?_
  obtain ⟨⟨I_law_19, I_there_19, I_sleepers_19, I_empty_19, I_empties_19, I_yard_19, I_waiting_19, I_nights_19, I_used_19, I_sheets_19, I_lastOnes_19, I_guestsWithFleas_19, I_bedsWithFleas_19, I_isCounting_19⟩, hc, hf⟩ := gq_bd hf
  refine gq_callN C hA gm_X5_102 (c_X3_open l D cI cZ aH aI (some (aJ 0)) H_law (H_beds, H_law, H_sights, H_isKept, H_worths, H_sightGuests, H_sightBeds) (I_law, I_there, I_sleepers, I_empty, I_empties, I_yard, I_waiting, I_nights, I_used, I_sheets, I_lastOnes, I_guestsWithFleas, I_bedsWithFleas, I_isCounting) _ hc) rfl 3 0 rfl rfl rfl ⟨Nat.le_trans (Nat.le_of_ble_eq_true rfl) hR.1, Nat.le_trans (Nat.le_of_ble_eq_true rfl) hR.2.1⟩ ⟨Nat.zero_le _, Nat.zero_le _⟩ rfl (Nat.le_of_ble_eq_true rfl) dX5_tryAllPlaces_19 [1, 3] [bC cI aB (aH 0) rB1 rB2 (aD 0) rB4 rB5 (aI 0) B_bedsByPlace, hC cI aH (H_beds, H_law, H_sights, H_isKept, H_worths, H_sightGuests, H_sightBeds), dC cI aD (D_length, D_signs), iC cI aI (aH 0) (some (aJ 0)) (I_law_19, I_there_19, I_sleepers_19, I_empty_19, I_empties_19, I_yard_19, I_waiting_19, I_nights_19, I_used_19, I_sheets_19, I_lastOnes_19, I_guestsWithFleas_19, I_bedsWithFleas_19, I_isCounting_19), iC cI aJ (aH 0) dJ (J_law, J_there, J_sleepers, J_empty, J_empties, J_yard, J_waiting, J_nights, J_used, J_sheets, J_lastOnes, J_guestsWithFleas, J_bedsWithFleas, J_isCounting)] 22 rfl (by decide) rfl rfl rfl [] rfl ?_
  refine gq_iconst C (nI 0) 23 dX5_tryAllPlaces_22 (by decide) rfl ?_
  refine gq_istore_n C [(3, .int (nI 0)), (2, .ref (aJ 0)), (0, .ref (aB 0)), (1, .int x1)] 24 dX5_tryAllPlaces_23 (by decide) rfl rfl ?_
  have L24 : ∀ (kL : Int32 → (Nat → Int32) → Int32 → Int32 → (Nat → Int32) → (Nat → Int32) → Int32 → (Nat → Int32) → Int32 → (Nat → Int32) → (Nat → Int32) → (Nat → Int32) → (Nat → Int32) → Int32 → Int32 → Int32 → Int32 → Int32 → (Nat → Int32) → (Nat → Int32) → Int32 → (Nat → Int32) → Int32 → (Nat → Int32) → (Nat → Int32) → (Nat → Int32) → (Nat → Int32) → Int32 → Int32 → Int32 → Option (WbS × InnS × InnS)), (∀ (x3_L24 : Int32) (B_bedsByPlace_L24 : (Nat → Int32)) (I_law_L24 : Int32) (I_there_L24 : Int32) (I_sleepers_L24 : (Nat → Int32)) (I_empty_L24 : (Nat → Int32)) (I_empties_L24 : Int32) (I_yard_L24 : (Nat → Int32)) (I_waiting_L24 : Int32) (I_nights_L24 : (Nat → Int32)) (I_used_L24 : (Nat → Int32)) (I_sheets_L24 : (Nat → Int32)) (I_lastOnes_L24 : (Nat → Int32)) (I_guestsWithFleas_L24 : Int32) (I_bedsWithFleas_L24 : Int32) (I_isCounting_L24 : Int32) (J_law_L24 : Int32) (J_there_L24 : Int32) (J_sleepers_L24 : (Nat → Int32)) (J_empty_L24 : (Nat → Int32)) (J_empties_L24 : Int32) (J_yard_L24 : (Nat → Int32)) (J_waiting_L24 : Int32) (J_nights_L24 : (Nat → Int32)) (J_used_L24 : (Nat → Int32)) (J_sheets_L24 : (Nat → Int32)) (J_lastOnes_L24 : (Nat → Int32)) (J_guestsWithFleas_L24 : Int32) (J_bedsWithFleas_L24 : Int32) (J_isCounting_L24 : Int32), kL x3_L24 B_bedsByPlace_L24 I_law_L24 I_there_L24 I_sleepers_L24 I_empty_L24 I_empties_L24 I_yard_L24 I_waiting_L24 I_nights_L24 I_used_L24 I_sheets_L24 I_lastOnes_L24 I_guestsWithFleas_L24 I_bedsWithFleas_L24 I_isCounting_L24 J_law_L24 J_there_L24 J_sleepers_L24 J_empty_L24 J_empties_L24 J_yard_L24 J_waiting_L24 J_nights_L24 J_used_L24 J_sheets_L24 J_lastOnes_L24 J_guestsWithFleas_L24 J_bedsWithFleas_L24 J_isCounting_L24 = some rr → G p l e R s m args below meth c 4 D A H0 0 0 Q [bC cI aB (aH 0) rB1 rB2 (aD 0) rB4 rB5 (aI 0) B_bedsByPlace_L24, hC cI aH (H_beds, H_law, H_sights, H_isKept, H_worths, H_sightGuests, H_sightBeds), dC cI aD (D_length, D_signs), iC cI aI (aH 0) (some (aJ 0)) (I_law_L24, I_there_L24, I_sleepers_L24, I_empty_L24, I_empties_L24, I_yard_L24, I_waiting_L24, I_nights_L24, I_used_L24, I_sheets_L24, I_lastOnes_L24, I_guestsWithFleas_L24, I_bedsWithFleas_L24, I_isCounting_L24), iC cI aJ (aH 0) dJ (J_law_L24, J_there_L24, J_sleepers_L24, J_empty_L24, J_empties_L24, J_yard_L24, J_waiting_L24, J_nights_L24, J_used_L24, J_sheets_L24, J_lastOnes_L24, J_guestsWithFleas_L24, J_bedsWithFleas_L24, J_isCounting_L24)] 108 [(3, .int x3_L24), (2, .ref (aJ 0)), (0, .ref (aB 0)), (1, .int x1)] []) → ∀ (n : Nat) (x3_L24 : Int32) (B_bedsByPlace_L24 : (Nat → Int32)) (I_law_L24 : Int32) (I_there_L24 : Int32) (I_sleepers_L24 : (Nat → Int32)) (I_empty_L24 : (Nat → Int32)) (I_empties_L24 : Int32) (I_yard_L24 : (Nat → Int32)) (I_waiting_L24 : Int32) (I_nights_L24 : (Nat → Int32)) (I_used_L24 : (Nat → Int32)) (I_sheets_L24 : (Nat → Int32)) (I_lastOnes_L24 : (Nat → Int32)) (I_guestsWithFleas_L24 : Int32) (I_bedsWithFleas_L24 : Int32) (I_isCounting_L24 : Int32) (J_law_L24 : Int32) (J_there_L24 : Int32) (J_sleepers_L24 : (Nat → Int32)) (J_empty_L24 : (Nat → Int32)) (J_empties_L24 : Int32) (J_yard_L24 : (Nat → Int32)) (J_waiting_L24 : Int32) (J_nights_L24 : (Nat → Int32)) (J_used_L24 : (Nat → Int32)) (J_sheets_L24 : (Nat → Int32)) (J_lastOnes_L24 : (Nat → Int32)) (J_guestsWithFleas_L24 : Int32) (J_bedsWithFleas_L24 : Int32) (J_isCounting_L24 : Int32), f_X5_tryAllPlaces_L24 x1 H_beds H_law H_sights H_isKept H_worths H_sightGuests H_sightBeds D_length D_signs n x3_L24 B_bedsByPlace_L24 I_law_L24 I_there_L24 I_sleepers_L24 I_empty_L24 I_empties_L24 I_yard_L24 I_waiting_L24 I_nights_L24 I_used_L24 I_sheets_L24 I_lastOnes_L24 I_guestsWithFleas_L24 I_bedsWithFleas_L24 I_isCounting_L24 J_law_L24 J_there_L24 J_sleepers_L24 J_empty_L24 J_empties_L24 J_yard_L24 J_waiting_L24 J_nights_L24 J_used_L24 J_sheets_L24 J_lastOnes_L24 J_guestsWithFleas_L24 J_bedsWithFleas_L24 J_isCounting_L24 kL = some rr → G p l e R s m args below meth c 4 D A H0 0 0 Q [bC cI aB (aH 0) rB1 rB2 (aD 0) rB4 rB5 (aI 0) B_bedsByPlace_L24, hC cI aH (H_beds, H_law, H_sights, H_isKept, H_worths, H_sightGuests, H_sightBeds), dC cI aD (D_length, D_signs), iC cI aI (aH 0) (some (aJ 0)) (I_law_L24, I_there_L24, I_sleepers_L24, I_empty_L24, I_empties_L24, I_yard_L24, I_waiting_L24, I_nights_L24, I_used_L24, I_sheets_L24, I_lastOnes_L24, I_guestsWithFleas_L24, I_bedsWithFleas_L24, I_isCounting_L24), iC cI aJ (aH 0) dJ (J_law_L24, J_there_L24, J_sleepers_L24, J_empty_L24, J_empties_L24, J_yard_L24, J_waiting_L24, J_nights_L24, J_used_L24, J_sheets_L24, J_lastOnes_L24, J_guestsWithFleas_L24, J_bedsWithFleas_L24, J_isCounting_L24)] 24 [(3, .int x3_L24), (2, .ref (aJ 0)), (0, .ref (aB 0)), (1, .int x1)] [] := by
    intro kL hkL24 n
    induction n with
    | zero =>
      intro x3_L24 B_bedsByPlace_L24 I_law_L24 I_there_L24 I_sleepers_L24 I_empty_L24 I_empties_L24 I_yard_L24 I_waiting_L24 I_nights_L24 I_used_L24 I_sheets_L24 I_lastOnes_L24 I_guestsWithFleas_L24 I_bedsWithFleas_L24 I_isCounting_L24 J_law_L24 J_there_L24 J_sleepers_L24 J_empty_L24 J_empties_L24 J_yard_L24 J_waiting_L24 J_nights_L24 J_used_L24 J_sheets_L24 J_lastOnes_L24 J_guestsWithFleas_L24 J_bedsWithFleas_L24 J_isCounting_L24 hf
      rw [f_X5_tryAllPlaces_L24] at hf
      cases hf
    | succ n ihL24 =>
      intro x3_L24 B_bedsByPlace_L24 I_law_L24 I_there_L24 I_sleepers_L24 I_empty_L24 I_empties_L24 I_yard_L24 I_waiting_L24 I_nights_L24 I_used_L24 I_sheets_L24 I_lastOnes_L24 I_guestsWithFleas_L24 I_bedsWithFleas_L24 I_isCounting_L24 J_law_L24 J_there_L24 J_sleepers_L24 J_empty_L24 J_empties_L24 J_yard_L24 J_waiting_L24 J_nights_L24 J_used_L24 J_sheets_L24 J_lastOnes_L24 J_guestsWithFleas_L24 J_bedsWithFleas_L24 J_isCounting_L24 hf
      rw [f_X5_tryAllPlaces_L24] at hf
      refine gq_aload_n C 1 25 dX5_tryAllPlaces_24 rfl rfl ?_
      refine gq_ifnull C 28 dX5_tryAllPlaces_25 rfl ?_
      refine gq_iload_n C 0 29 dX5_tryAllPlaces_28 rfl rfl ?_
      refine gq_aload_n C 2 30 dX5_tryAllPlaces_29 rfl rfl ?_
      refine gq_get C fo_X5_3 fw_X5_25 0 0 33 rfl rfl rfl dX5_tryAllPlaces_30 rfl ?_
      refine gq_getN C fo_X0_0 fw_X5_89 2 0 36 rfl rfl rfl dX5_tryAllPlaces_33 rfl ?_
      refine gq_icmp_gt C 108 39 dX5_tryAllPlaces_36 (by decide) rfl (fun h36 => ?_) (fun h36 => ?_)
      · replace hf := gq_ifp h36 hf
        exact hkL24 _ _ _ _ _ _ _ _ _ _ _ _ _ _ _ _ _ _ _ _ _ _ _ _ _ _ _ _ _ _ hf
      · replace hf := gq_ifn h36 hf
        refine gq_iload_n C 0 40 dX5_tryAllPlaces_39 rfl rfl ?_
        refine gq_bipush C (nI 48) 42 dX5_tryAllPlaces_40 (by decide) rfl ?_
        refine gq_icmp_ge C 108 45 dX5_tryAllPlaces_42 (by decide) rfl (fun h42 => ?_) (fun h42 => ?_)
        · replace hf := gq_ifp h42 hf
          exact hkL24 _ _ _ _ _ _ _ _ _ _ _ _ _ _ _ _ _ _ _ _ _ _ _ _ _ _ _ _ _ _ hf
        · replace hf := gq_ifn h42 hf
          refine gq_aload_n C 1 46 dX5_tryAllPlaces_45 rfl rfl ?_
          refine gq_aload_n C 2 47 dX5_tryAllPlaces_46 rfl rfl ?_
          refine gq_get C fo_X5_6 fw_X5_52 0 0 50 rfl rfl rfl dX5_tryAllPlaces_47 rfl ?_
          obtain ⟨⟨J_law_50, J_there_50, J_sleepers_50, J_empty_50, J_empties_50, J_yard_50, J_waiting_50, J_nights_50, J_used_50, J_sheets_50, J_lastOnes_50, J_guestsWithFleas_50, J_bedsWithFleas_50, J_isCounting_50⟩, hc, hf⟩ := gq_bd hf
          refine gq_callN C hA gm_X5_246 (c_X3_standAs l D cI cZ aJ (aH 0) dJ aI (aH 0) (some (aJ 0)) (J_law_L24, J_there_L24, J_sleepers_L24, J_empty_L24, J_empties_L24, J_yard_L24, J_waiting_L24, J_nights_L24, J_used_L24, J_sheets_L24, J_lastOnes_L24, J_guestsWithFleas_L24, J_bedsWithFleas_L24, J_isCounting_L24) (I_law_L24, I_there_L24, I_sleepers_L24, I_empty_L24, I_empties_L24, I_yard_L24, I_waiting_L24, I_nights_L24, I_used_L24, I_sheets_L24, I_lastOnes_L24, I_guestsWithFleas_L24, I_bedsWithFleas_L24, I_isCounting_L24) _ hc) rfl 4 0 rfl rfl rfl ⟨Nat.le_trans (Nat.le_of_ble_eq_true rfl) hR.1, Nat.le_trans (Nat.le_of_ble_eq_true rfl) hR.2.1⟩ ⟨Nat.zero_le _, Nat.zero_le _⟩ rfl (Nat.le_of_ble_eq_true rfl) dX5_tryAllPlaces_50 [4, 3] [bC cI aB (aH 0) rB1 rB2 (aD 0) rB4 rB5 (aI 0) B_bedsByPlace_L24, hC cI aH (H_beds, H_law, H_sights, H_isKept, H_worths, H_sightGuests, H_sightBeds), dC cI aD (D_length, D_signs), iC cI aI (aH 0) (some (aJ 0)) (I_law_L24, I_there_L24, I_sleepers_L24, I_empty_L24, I_empties_L24, I_yard_L24, I_waiting_L24, I_nights_L24, I_used_L24, I_sheets_L24, I_lastOnes_L24, I_guestsWithFleas_L24, I_bedsWithFleas_L24, I_isCounting_L24), iC cI aJ (aH 0) dJ (J_law_50, J_there_50, J_sleepers_50, J_empty_50, J_empties_50, J_yard_50, J_waiting_50, J_nights_50, J_used_50, J_sheets_50, J_lastOnes_50, J_guestsWithFleas_50, J_bedsWithFleas_50, J_isCounting_50)] 53 rfl (by decide) rfl rfl rfl [] rfl ?_
          refine gq_aload_n C 1 54 dX5_tryAllPlaces_53 rfl rfl ?_
          refine gq_iload_n C 3 55 dX5_tryAllPlaces_54 rfl rfl ?_
          obtain ⟨⟨J_law_55, J_there_55, J_sleepers_55, J_empty_55, J_empties_55, J_yard_55, J_waiting_55, J_nights_55, J_used_55, J_sheets_55, J_lastOnes_55, J_guestsWithFleas_55, J_bedsWithFleas_55, J_isCounting_55⟩, hc, hf⟩ := gq_bd hf
          refine gq_callN C hA gm_X5_155 (c_X3_takeIn l D cI cZ aH aJ dJ x1 (H_beds, H_law, H_sights, H_isKept, H_worths, H_sightGuests, H_sightBeds) (J_law_50, J_there_50, J_sleepers_50, J_empty_50, J_empties_50, J_yard_50, J_waiting_50, J_nights_50, J_used_50, J_sheets_50, J_lastOnes_50, J_guestsWithFleas_50, J_bedsWithFleas_50, J_isCounting_50) _ hc) rfl 4 0 rfl rfl rfl ⟨Nat.le_trans (Nat.le_of_ble_eq_true rfl) hR.1, Nat.le_trans (Nat.le_of_ble_eq_true rfl) hR.2.1⟩ ⟨Nat.zero_le _, Nat.zero_le _⟩ rfl (Nat.le_of_ble_eq_true rfl) dX5_tryAllPlaces_55 [1, 4] [bC cI aB (aH 0) rB1 rB2 (aD 0) rB4 rB5 (aI 0) B_bedsByPlace_L24, hC cI aH (H_beds, H_law, H_sights, H_isKept, H_worths, H_sightGuests, H_sightBeds), dC cI aD (D_length, D_signs), iC cI aI (aH 0) (some (aJ 0)) (I_law_L24, I_there_L24, I_sleepers_L24, I_empty_L24, I_empties_L24, I_yard_L24, I_waiting_L24, I_nights_L24, I_used_L24, I_sheets_L24, I_lastOnes_L24, I_guestsWithFleas_L24, I_bedsWithFleas_L24, I_isCounting_L24), iC cI aJ (aH 0) dJ (J_law_55, J_there_55, J_sleepers_55, J_empty_55, J_empties_55, J_yard_55, J_waiting_55, J_nights_55, J_used_55, J_sheets_55, J_lastOnes_55, J_guestsWithFleas_55, J_bedsWithFleas_55, J_isCounting_55)] 58 rfl (by decide) rfl rfl rfl [] rfl ?_
          refine gq_aload_n C 1 59 dX5_tryAllPlaces_58 rfl rfl ?_
          refine gq_aload_n C 2 60 dX5_tryAllPlaces_59 rfl rfl ?_
          refine gq_get C fo_X5_3 fw_X5_25 0 0 63 rfl rfl rfl dX5_tryAllPlaces_60 rfl ?_
          refine gq_iload_n C 0 64 dX5_tryAllPlaces_63 rfl rfl ?_
          refine gq_aload_n C 2 65 dX5_tryAllPlaces_64 rfl rfl ?_
          refine gq_get C fo_X5_3 fw_X5_25 0 0 68 rfl rfl rfl dX5_tryAllPlaces_65 rfl ?_
          refine gq_getN C fo_X0_0 fw_X5_89 2 0 71 rfl rfl rfl dX5_tryAllPlaces_68 rfl ?_
          obtain ⟨⟨r_71, ⟨J_law_71, J_there_71, J_sleepers_71, J_empty_71, J_empties_71, J_yard_71, J_waiting_71, J_nights_71, J_used_71, J_sheets_71, J_lastOnes_71, J_guestsWithFleas_71, J_bedsWithFleas_71, J_isCounting_71⟩⟩, hc, hf⟩ := gq_bd hf
          refine gq_callN C hA gm_X5_105 (c_X3_live l D cI cZ aH aD aJ dJ x3_L24 D_length (H_beds, H_law, H_sights, H_isKept, H_worths, H_sightGuests, H_sightBeds) (D_length, D_signs) (J_law_55, J_there_55, J_sleepers_55, J_empty_55, J_empties_55, J_yard_55, J_waiting_55, J_nights_55, J_used_55, J_sheets_55, J_lastOnes_55, J_guestsWithFleas_55, J_bedsWithFleas_55, J_isCounting_55) _ hc) rfl 4 0 rfl rfl rfl ⟨Nat.le_trans (Nat.le_of_ble_eq_true rfl) hR.1, Nat.le_trans (Nat.le_of_ble_eq_true rfl) hR.2.1⟩ ⟨Nat.zero_le _, Nat.zero_le _⟩ rfl (Nat.le_of_ble_eq_true rfl) dX5_tryAllPlaces_71 [1, 2, 4] [bC cI aB (aH 0) rB1 rB2 (aD 0) rB4 rB5 (aI 0) B_bedsByPlace_L24, hC cI aH (H_beds, H_law, H_sights, H_isKept, H_worths, H_sightGuests, H_sightBeds), dC cI aD (D_length, D_signs), iC cI aI (aH 0) (some (aJ 0)) (I_law_L24, I_there_L24, I_sleepers_L24, I_empty_L24, I_empties_L24, I_yard_L24, I_waiting_L24, I_nights_L24, I_used_L24, I_sheets_L24, I_lastOnes_L24, I_guestsWithFleas_L24, I_bedsWithFleas_L24, I_isCounting_L24), iC cI aJ (aH 0) dJ (J_law_71, J_there_71, J_sleepers_71, J_empty_71, J_empties_71, J_yard_71, J_waiting_71, J_nights_71, J_used_71, J_sheets_71, J_lastOnes_71, J_guestsWithFleas_71, J_bedsWithFleas_71, J_isCounting_71)] 74 rfl (by decide) rfl rfl rfl [.int r_71] rfl ?_
          refine gq_pop C 75 dX5_tryAllPlaces_74 rfl rfl ?_
          refine gq_aload_n C 2 76 dX5_tryAllPlaces_75 rfl rfl ?_
          refine gq_get C fo_X5_7 fw_X5_43 0 0 79 rfl rfl rfl dX5_tryAllPlaces_76 rfl ?_
          refine gq_iload_n C 0 80 dX5_tryAllPlaces_79 rfl rfl ?_
          refine gq_aload_n C 1 81 dX5_tryAllPlaces_80 rfl rfl ?_
          refine gq_iload_n C 3 82 dX5_tryAllPlaces_81 rfl rfl ?_
          obtain ⟨r_82, hc, hf⟩ := gq_bd hf
          refine gq_callN C hA gm_X5_122 (c_X3_bedOf l D cI cZ aJ (aH 0) dJ x1 (J_law_71, J_there_71, J_sleepers_71, J_empty_71, J_empties_71, J_yard_71, J_waiting_71, J_nights_71, J_used_71, J_sheets_71, J_lastOnes_71, J_guestsWithFleas_71, J_bedsWithFleas_71, J_isCounting_71) _ hc) rfl 4 0 rfl rfl rfl ⟨Nat.le_trans (Nat.le_of_ble_eq_true rfl) hR.1, Nat.le_trans (Nat.le_of_ble_eq_true rfl) hR.2.1⟩ ⟨Nat.zero_le _, Nat.zero_le _⟩ rfl (Nat.le_of_ble_eq_true rfl) dX5_tryAllPlaces_82 [4] [bC cI aB (aH 0) rB1 rB2 (aD 0) rB4 rB5 (aI 0) B_bedsByPlace_L24, hC cI aH (H_beds, H_law, H_sights, H_isKept, H_worths, H_sightGuests, H_sightBeds), dC cI aD (D_length, D_signs), iC cI aI (aH 0) (some (aJ 0)) (I_law_L24, I_there_L24, I_sleepers_L24, I_empty_L24, I_empties_L24, I_yard_L24, I_waiting_L24, I_nights_L24, I_used_L24, I_sheets_L24, I_lastOnes_L24, I_guestsWithFleas_L24, I_bedsWithFleas_L24, I_isCounting_L24), iC cI aJ (aH 0) dJ (J_law_71, J_there_71, J_sleepers_71, J_empty_71, J_empties_71, J_yard_71, J_waiting_71, J_nights_71, J_used_71, J_sheets_71, J_lastOnes_71, J_guestsWithFleas_71, J_bedsWithFleas_71, J_isCounting_71)] 85 rfl (by decide) rfl rfl rfl [.int r_82, .int x3_L24, .ref (aB 1)] rfl ?_
          obtain ⟨h85, hf⟩ := gq_ok hf
          refine gq_iast C 0 1 86 [bC cI aB (aH 0) rB1 rB2 (aD 0) rB4 rB5 (aI 0) (upd B_bedsByPlace_L24 x3_L24.toNatClampNeg r_82), hC cI aH (H_beds, H_law, H_sights, H_isKept, H_worths, H_sightGuests, H_sightBeds), dC cI aD (D_length, D_signs), iC cI aI (aH 0) (some (aJ 0)) (I_law_L24, I_there_L24, I_sleepers_L24, I_empty_L24, I_empties_L24, I_yard_L24, I_waiting_L24, I_nights_L24, I_used_L24, I_sheets_L24, I_lastOnes_L24, I_guestsWithFleas_L24, I_bedsWithFleas_L24, I_isCounting_L24), iC cI aJ (aH 0) dJ (J_law_71, J_there_71, J_sleepers_71, J_empty_71, J_empties_71, J_yard_71, J_waiting_71, J_nights_71, J_used_71, J_sheets_71, J_lastOnes_71, J_guestsWithFleas_71, J_bedsWithFleas_71, J_isCounting_71)] rfl rfl h85 rfl dX5_tryAllPlaces_85 rfl ?_
          refine gq_aload_n C 2 87 dX5_tryAllPlaces_86 rfl rfl ?_
          refine gq_get C fo_X5_6 fw_X5_52 0 0 90 rfl rfl rfl dX5_tryAllPlaces_87 rfl ?_
          refine gq_aload_n C 2 91 dX5_tryAllPlaces_90 rfl rfl ?_
          refine gq_get C fo_X5_3 fw_X5_25 0 0 94 rfl rfl rfl dX5_tryAllPlaces_91 rfl ?_
          refine gq_iload_n C 0 95 dX5_tryAllPlaces_94 rfl rfl ?_
          refine gq_iload_n C 0 96 dX5_tryAllPlaces_95 rfl rfl ?_
          refine gq_iconst C (nI 1) 97 dX5_tryAllPlaces_96 (by decide) rfl ?_
          refine gq_iadd C 98 dX5_tryAllPlaces_97 rfl ?_
          obtain ⟨⟨r_98, ⟨I_law_98, I_there_98, I_sleepers_98, I_empty_98, I_empties_98, I_yard_98, I_waiting_98, I_nights_98, I_used_98, I_sheets_98, I_lastOnes_98, I_guestsWithFleas_98, I_bedsWithFleas_98, I_isCounting_98⟩⟩, hc, hf⟩ := gq_bd hf
          refine gq_callN C hA gm_X5_105 (c_X3_live l D cI cZ aH aD aI (some (aJ 0)) x3_L24 (x3_L24 + (nI 1)) (H_beds, H_law, H_sights, H_isKept, H_worths, H_sightGuests, H_sightBeds) (D_length, D_signs) (I_law_L24, I_there_L24, I_sleepers_L24, I_empty_L24, I_empties_L24, I_yard_L24, I_waiting_L24, I_nights_L24, I_used_L24, I_sheets_L24, I_lastOnes_L24, I_guestsWithFleas_L24, I_bedsWithFleas_L24, I_isCounting_L24) _ hc) rfl 3 0 rfl rfl rfl ⟨Nat.le_trans (Nat.le_of_ble_eq_true rfl) hR.1, Nat.le_trans (Nat.le_of_ble_eq_true rfl) hR.2.1⟩ ⟨Nat.zero_le _, Nat.zero_le _⟩ rfl (Nat.le_of_ble_eq_true rfl) dX5_tryAllPlaces_98 [1, 2, 3] [bC cI aB (aH 0) rB1 rB2 (aD 0) rB4 rB5 (aI 0) (upd B_bedsByPlace_L24 x3_L24.toNatClampNeg r_82), hC cI aH (H_beds, H_law, H_sights, H_isKept, H_worths, H_sightGuests, H_sightBeds), dC cI aD (D_length, D_signs), iC cI aI (aH 0) (some (aJ 0)) (I_law_98, I_there_98, I_sleepers_98, I_empty_98, I_empties_98, I_yard_98, I_waiting_98, I_nights_98, I_used_98, I_sheets_98, I_lastOnes_98, I_guestsWithFleas_98, I_bedsWithFleas_98, I_isCounting_98), iC cI aJ (aH 0) dJ (J_law_71, J_there_71, J_sleepers_71, J_empty_71, J_empties_71, J_yard_71, J_waiting_71, J_nights_71, J_used_71, J_sheets_71, J_lastOnes_71, J_guestsWithFleas_71, J_bedsWithFleas_71, J_isCounting_71)] 101 rfl (by decide) rfl rfl rfl [.int r_98] rfl ?_
          refine gq_pop C 102 dX5_tryAllPlaces_101 rfl rfl ?_
          refine gq_iinc C 0 [(3, .int (x3_L24 + (nI 1))), (2, .ref (aJ 0)), (0, .ref (aB 0)), (1, .int x1)] 105 dX5_tryAllPlaces_102 rfl rfl (by decide) rfl rfl ?_
          refine gq_goto C 24 dX5_tryAllPlaces_105 (by decide) ?_
          exact ihL24 _ _ _ _ _ _ _ _ _ _ _ _ _ _ _ _ _ _ _ _ _ _ _ _ _ _ _ _ _ _ hf
  refine L24 _ (fun x3_L24 B_bedsByPlace_L24 I_law_L24 I_there_L24 I_sleepers_L24 I_empty_L24 I_empties_L24 I_yard_L24 I_waiting_L24 I_nights_L24 I_used_L24 I_sheets_L24 I_lastOnes_L24 I_guestsWithFleas_L24 I_bedsWithFleas_L24 I_isCounting_L24 J_law_L24 J_there_L24 J_sleepers_L24 J_empty_L24 J_empties_L24 J_yard_L24 J_waiting_L24 J_nights_L24 J_used_L24 J_sheets_L24 J_lastOnes_L24 J_guestsWithFleas_L24 J_bedsWithFleas_L24 J_isCounting_L24 hf => ?_) _ _ _ _ _ _ _ _ _ _ _ _ _ _ _ _ _ _ _ _ _ _ _ _ _ _ _ _ _ _ _ hf
  obtain rfl := gq_lf hf
  exact hret dX5_tryAllPlaces_108 gPost.rf

def f_X5_worthTold : Int32 → WbS → HouS → Option (Int32)
  | x1, B_bedsByPlace, (H_beds, H_law, H_sights, H_isKept, H_worths, H_sightGuests, H_sightBeds) => (if x1 < (nI 10) then some (-2 : Int32) else (if x1 ≤ (nI 87) then (Option.bind (f_X5_isBed (x1 - x1 / (nI 10) * (nI 10)) B_bedsByPlace (H_beds, H_law, H_sights, H_isKept, H_worths, H_sightGuests, H_sightBeds)) (fun r_29 => (if r_29 = 0 then some (-2 : Int32) else (Option.bind (f_X2_worthOf ((x1 / (nI 10)) - (nI 1)) (x1 - x1 / (nI 10) * (nI 10)) (H_beds, H_law, H_sights, H_isKept, H_worths, H_sightGuests, H_sightBeds)) (fun r_41 => some r_41))))) else some (-2 : Int32)))
set_option maxHeartbeats 4000000 in
set_option maxRecDepth 100000 in
theorem c_X5_worthTold (l : Launch) (D : va_G) (cI cZ : ClassId) (aB : Nat → Nat) (rB1 : Nat) (rB2 : Nat) (rB3 : Nat) (rB4 : Nat) (rB5 : Nat) (rB6 : Nat) (aH : Nat → Nat) (x1 : Int32) (tB : WbS) (tH : HouS) (rr : Int32) (hf : f_X5_worthTold x1 tB tH = some rr) : CT l D cI cZ yX5_worthTold cX5_worthTold 4 (some .int) 1 22 0 0 [.ref (aB 0), .int x1] ([bC cI aB (aH 0) rB1 rB2 rB3 rB4 rB5 rB6 tB, hC cI aH tH]) (gPost (some (.int rr)) ([bC cI aB (aH 0) rB1 rB2 rB3 rB4 rB5 rB6 tB, hC cI aH tH])) := by
  obtain ⟨B_bedsByPlace, rfl⟩ : ∃ z, z = tB := ⟨_, rfl⟩
  obtain ⟨H_beds, H_law, H_sights, H_isKept, H_worths, H_sightGuests, H_sightBeds⟩ := tH
  rw [f_X5_worthTold] at hf
  refine CT.mkI (by decide) (Nat.le_of_ble_eq_true rfl) fun {p} {e} {R} {s} {m} {args} {below} {meth} {c} {A} {H0} {Q} C hA hR hret => ?_
  show G p l e R s m args below meth c 4 D A H0 0 0 Q [bC cI aB (aH 0) rB1 rB2 rB3 rB4 rB5 rB6 B_bedsByPlace, hC cI aH (H_beds, H_law, H_sights, H_isKept, H_worths, H_sightGuests, H_sightBeds)] 0 [(0, .ref (aB 0)), (1, .int x1)] []
  refine gq_iload_n C 1 1 dX5_worthTold_0 rfl rfl ?_
  refine gq_bipush C (nI 10) 3 dX5_worthTold_1 (by decide) rfl ?_
  refine gq_icmp_lt C 12 6 dX5_worthTold_3 (by decide) rfl (fun h3 => ?_) (fun h3 => ?_)
  · replace hf := gq_ifp h3 hf
    refine gq_bipush C (-2 : Int32) 14 dX5_worthTold_12 (by decide) rfl ?_
    obtain rfl := gq_lf hf
    exact hret dX5_worthTold_14 gPost.rf
  · replace hf := gq_ifn h3 hf
    refine gq_iload_n C 1 7 dX5_worthTold_6 rfl rfl ?_
    refine gq_bipush C (nI 87) 9 dX5_worthTold_7 (by decide) rfl ?_
    refine gq_icmp_le C 15 12 dX5_worthTold_9 (by decide) rfl (fun h9 => ?_) (fun h9 => ?_)
    · replace hf := gq_ifp h9 hf
      refine gq_iload_n C 1 16 dX5_worthTold_15 rfl rfl ?_
      refine gq_bipush C (nI 10) 18 dX5_worthTold_16 (by decide) rfl ?_
      refine gq_idiv C 19 dX5_worthTold_18 (by decide) rfl ?_
      refine gq_iconst C (nI 1) 20 dX5_worthTold_19 (by decide) rfl ?_
      refine gq_isub C 21 dX5_worthTold_20 rfl ?_
      refine gq_istore_n C [(2, .int ((x1 / (nI 10)) - (nI 1))), (0, .ref (aB 0)), (1, .int x1)] 22 dX5_worthTold_21 (by decide) rfl rfl ?_
      refine gq_iload_n C 2 23 dX5_worthTold_22 rfl rfl ?_
      refine gq_bipush C (nI 10) 25 dX5_worthTold_23 (by decide) rfl ?_
      refine gq_irem C 26 dX5_worthTold_25 (by decide) rfl ?_
      refine gq_istore_n C [(3, .int (x1 - x1 / (nI 10) * (nI 10))), (2, .int ((x1 / (nI 10)) - (nI 1))), (0, .ref (aB 0)), (1, .int x1)] 27 dX5_worthTold_26 (by decide) rfl rfl ?_
      refine gq_aload_n C 2 28 dX5_worthTold_27 rfl rfl ?_
      refine gq_iload_n C 0 29 dX5_worthTold_28 rfl rfl ?_
      obtain ⟨r_29, hc, hf⟩ := gq_bd hf
      refine gq_callV C hA gm_X5_68 (c_X5_isBed l D cI cZ aB rB1 rB2 rB3 rB4 rB5 rB6 aH (x1 - x1 / (nI 10) * (nI 10)) B_bedsByPlace (H_beds, H_law, H_sights, H_isKept, H_worths, H_sightGuests, H_sightBeds) _ hc) rfl 0 0 rfl rfl rfl ⟨Nat.le_trans (Nat.le_of_ble_eq_true rfl) hR.1, Nat.le_trans (Nat.le_of_ble_eq_true rfl) hR.2.1⟩ ⟨Nat.zero_le _, Nat.zero_le _⟩ rfl (Nat.le_of_ble_eq_true rfl) dX5_worthTold_29 [0, 1] [bC cI aB (aH 0) rB1 rB2 rB3 rB4 rB5 rB6 B_bedsByPlace, hC cI aH (H_beds, H_law, H_sights, H_isKept, H_worths, H_sightGuests, H_sightBeds)] 32 rfl (by decide) rfl rfl rfl [.int r_29] rfl ?_
      refine gq_if_eq C 47 35 dX5_worthTold_32 (by decide) rfl (fun h32 => ?_) (fun h32 => ?_)
      · replace hf := gq_ifp h32 hf
        refine gq_bipush C (-2 : Int32) 49 dX5_worthTold_47 (by decide) rfl ?_
        obtain rfl := gq_lf hf
        exact hret dX5_worthTold_49 gPost.rf
      · replace hf := gq_ifn h32 hf
        refine gq_aload_n C 2 36 dX5_worthTold_35 rfl rfl ?_
        refine gq_get C fo_X5_0 fw_X5_12 0 0 39 rfl rfl rfl dX5_worthTold_36 rfl ?_
        refine gq_iload_n C 1 40 dX5_worthTold_39 rfl rfl ?_
        refine gq_iload_n C 0 41 dX5_worthTold_40 rfl rfl ?_
        obtain ⟨r_41, hc, hf⟩ := gq_bd hf
        refine gq_callN C hA gm_X5_71 (c_X2_worthOf l D cI cZ aH ((x1 / (nI 10)) - (nI 1)) (x1 - x1 / (nI 10) * (nI 10)) (H_beds, H_law, H_sights, H_isKept, H_worths, H_sightGuests, H_sightBeds) _ hc) rfl 1 0 rfl rfl rfl ⟨Nat.le_trans (Nat.le_of_ble_eq_true rfl) hR.1, Nat.le_trans (Nat.le_of_ble_eq_true rfl) hR.2.1⟩ ⟨Nat.zero_le _, Nat.zero_le _⟩ rfl (Nat.le_of_ble_eq_true rfl) dX5_worthTold_41 [1] [bC cI aB (aH 0) rB1 rB2 rB3 rB4 rB5 rB6 B_bedsByPlace, hC cI aH (H_beds, H_law, H_sights, H_isKept, H_worths, H_sightGuests, H_sightBeds)] 44 rfl (by decide) rfl rfl rfl [.int r_41] rfl ?_
        refine gq_goto C 49 dX5_worthTold_44 (by decide) ?_
        obtain rfl := gq_lf hf
        exact hret dX5_worthTold_49 gPost.rf
    · replace hf := gq_ifn h9 hf
      refine gq_bipush C (-2 : Int32) 14 dX5_worthTold_12 (by decide) rfl ?_
      obtain rfl := gq_lf hf
      exact hret dX5_worthTold_14 gPost.rf

def f_X5_partInLowestTerms_L9 (c_x2 : Int32) : Nat → Int64 → Int32 → (Int64 → Int32 → Option (Int64)) → Option (Int64)
  | 0, _, _, _ => none
  | nL9 + 1, x6_L9, x8_L9, kL9 => (if c_x2 ≤ x8_L9 then kL9 x6_L9 x8_L9 else f_X5_partInLowestTerms_L9 c_x2 nL9 (x6_L9 * (lN 10)) (x8_L9 + (nI 1)) kL9)
def f_X5_partInLowestTerms_L32 (c_x2 : Int32) : Nat → Int64 → Int64 → Int32 → (Int64 → Int64 → Int32 → Option (Int64)) → Option (Int64)
  | 0, _, _, _, _ => none
  | nL32 + 1, x4_L32, x6_L32, x8_L32, kL32 => (if c_x2 ≤ x8_L32 then kL32 x4_L32 x6_L32 x8_L32 else gJn (fun (x4_J76 : Int64) (x6_J76 : Int64) => (if (lg_cmp (x4_J76 - x4_J76 / (lN 5) * (lN 5)) (lN 0)) = 0 then (if (lg_cmp (x6_J76 - x6_J76 / (lN 5) * (lN 5)) (lN 0)) = 0 then f_X5_partInLowestTerms_L32 c_x2 nL32 (x4_J76 / (lN 5)) (x6_J76 / (lN 5)) (x8_L32 + (nI 1)) kL32 else f_X5_partInLowestTerms_L32 c_x2 nL32 x4_J76 x6_J76 (x8_L32 + (nI 1)) kL32) else f_X5_partInLowestTerms_L32 c_x2 nL32 x4_J76 x6_J76 (x8_L32 + (nI 1)) kL32)) (fun kJ76 => (if (lg_cmp (x4_L32 - x4_L32 / (lN 2) * (lN 2)) (lN 0)) = 0 then (if (lg_cmp (x6_L32 - x6_L32 / (lN 2) * (lN 2)) (lN 0)) = 0 then kJ76 (x4_L32 / (lN 2)) (x6_L32 / (lN 2)) else kJ76 x4_L32 x6_L32) else kJ76 x4_L32 x6_L32)))
def f_X5_partInLowestTerms : Int64 → Int32 → Int32 → Option (Int64)
  | x0, x2, x3 => f_X5_partInLowestTerms_L9 x2 FU (lN 1) (nI 0) (fun x6_L9 x8_L9 => f_X5_partInLowestTerms_L32 x2 FU x0 x6_L9 (nI 0) (fun x4_L32 x6_L32 x8_L32 => (if x3 = 0 then some x4_L32 else some x6_L32)))
set_option maxHeartbeats 4000000 in
set_option maxRecDepth 100000 in
theorem c_X5_partInLowestTerms (l : Launch) (D : va_G) (cI cZ : ClassId) (x0 : Int64) (x2 : Int32) (x3 : Int32) (rr : Int64) (hf : f_X5_partInLowestTerms x0 x2 x3 = some rr) : CT l D cI cZ yX5_partInLowestTerms cX5_partInLowestTerms 9 (some .long) 0 0 0 0 [.long x0, .int x2, .int x3] ([]) (gPost (some (.long rr)) ([])) := by
  rw [f_X5_partInLowestTerms] at hf
  refine CT.mkL (by decide) (Nat.le_of_ble_eq_true rfl) fun {p} {e} {R} {s} {m} {args} {below} {meth} {c} {A} {H0} {Q} C hA hR hret => ?_
  show G p l e R s m args below meth c 9 D A H0 0 0 Q [] 0 [(0, .long x0), (2, .int x2), (3, .int x3)] []
  refine gq_lload_n C 0 1 dX5_partInLowestTerms_0 rfl rfl ?_
  refine gq_lstore C [(4, .long x0), (0, .long x0), (2, .int x2), (3, .int x3)] 3 dX5_partInLowestTerms_1 (by decide) rfl rfl ?_
  refine gq_lconst C (lN 1) 4 dX5_partInLowestTerms_3 (by decide) rfl ?_
  refine gq_lstore C [(6, .long (lN 1)), (4, .long x0), (0, .long x0), (2, .int x2), (3, .int x3)] 6 dX5_partInLowestTerms_4 (by decide) rfl rfl ?_
  refine gq_iconst C (nI 0) 7 dX5_partInLowestTerms_6 (by decide) rfl ?_
  refine gq_istore C [(8, .int (nI 0)), (6, .long (lN 1)), (4, .long x0), (0, .long x0), (2, .int x2), (3, .int x3)] 9 dX5_partInLowestTerms_7 (by decide) rfl rfl ?_
  have L9 : ∀ (kL : Int64 → Int32 → Option (Int64)), (∀ (x6_L9 : Int64) (x8_L9 : Int32), kL x6_L9 x8_L9 = some rr → G p l e R s m args below meth c 9 D A H0 0 0 Q [] 29 [(8, .int x8_L9), (6, .long x6_L9), (4, .long x0), (0, .long x0), (2, .int x2), (3, .int x3)] []) → ∀ (n : Nat) (x6_L9 : Int64) (x8_L9 : Int32), f_X5_partInLowestTerms_L9 x2 n x6_L9 x8_L9 kL = some rr → G p l e R s m args below meth c 9 D A H0 0 0 Q [] 9 [(8, .int x8_L9), (6, .long x6_L9), (4, .long x0), (0, .long x0), (2, .int x2), (3, .int x3)] [] := by
    intro kL hkL9 n
    induction n with
    | zero =>
      intro x6_L9 x8_L9 hf
      rw [f_X5_partInLowestTerms_L9] at hf
      cases hf
    | succ n ihL9 =>
      intro x6_L9 x8_L9 hf
      rw [f_X5_partInLowestTerms_L9] at hf
      refine gq_iload C 0 11 dX5_partInLowestTerms_9 rfl rfl ?_
      refine gq_iload_n C 4 12 dX5_partInLowestTerms_11 rfl rfl ?_
      refine gq_icmp_ge C 29 15 dX5_partInLowestTerms_12 (by decide) rfl (fun h12 => ?_) (fun h12 => ?_)
      · replace hf := gq_ifp h12 hf
        exact hkL9 _ _ hf
      · replace hf := gq_ifn h12 hf
        refine gq_lload C 1 17 dX5_partInLowestTerms_15 rfl rfl ?_
        refine gq_ldc2 C (lN 10) 20 cw_X5_256 dX5_partInLowestTerms_17 rfl ?_
        refine gq_lmul C 21 dX5_partInLowestTerms_20 rfl ?_
        refine gq_lstore C [(6, .long (x6_L9 * (lN 10))), (8, .int x8_L9), (4, .long x0), (0, .long x0), (2, .int x2), (3, .int x3)] 23 dX5_partInLowestTerms_21 (by decide) rfl rfl ?_
        refine gq_iinc C 1 [(8, .int (x8_L9 + (nI 1))), (6, .long (x6_L9 * (lN 10))), (4, .long x0), (0, .long x0), (2, .int x2), (3, .int x3)] 26 dX5_partInLowestTerms_23 rfl rfl (by decide) rfl rfl ?_
        refine gq_goto C 9 dX5_partInLowestTerms_26 (by decide) ?_
        exact ihL9 _ _ hf
  refine L9 _ (fun x6_L9 x8_L9 hf => ?_) _ _ _ hf
  refine gq_iconst C (nI 0) 30 dX5_partInLowestTerms_29 (by decide) rfl ?_
  refine gq_istore C [(8, .int (nI 0)), (6, .long x6_L9), (4, .long x0), (0, .long x0), (2, .int x2), (3, .int x3)] 32 dX5_partInLowestTerms_30 (by decide) rfl rfl ?_
  have L32 : ∀ (kL : Int64 → Int64 → Int32 → Option (Int64)), (∀ (x4_L32 : Int64) (x6_L32 : Int64) (x8_L32 : Int32), kL x4_L32 x6_L32 x8_L32 = some rr → G p l e R s m args below meth c 9 D A H0 0 0 Q [] 120 [(8, .int x8_L32), (6, .long x6_L32), (4, .long x4_L32), (0, .long x0), (2, .int x2), (3, .int x3)] []) → ∀ (n : Nat) (x4_L32 : Int64) (x6_L32 : Int64) (x8_L32 : Int32), f_X5_partInLowestTerms_L32 x2 n x4_L32 x6_L32 x8_L32 kL = some rr → G p l e R s m args below meth c 9 D A H0 0 0 Q [] 32 [(8, .int x8_L32), (6, .long x6_L32), (4, .long x4_L32), (0, .long x0), (2, .int x2), (3, .int x3)] [] := by
    intro kL hkL32 n
    induction n with
    | zero =>
      intro x4_L32 x6_L32 x8_L32 hf
      rw [f_X5_partInLowestTerms_L32] at hf
      cases hf
    | succ n ihL32 =>
      intro x4_L32 x6_L32 x8_L32 hf
      rw [f_X5_partInLowestTerms_L32] at hf
      refine gq_iload C 0 34 dX5_partInLowestTerms_32 rfl rfl ?_
      refine gq_iload_n C 4 35 dX5_partInLowestTerms_34 rfl rfl ?_
      refine gq_icmp_ge C 120 38 dX5_partInLowestTerms_35 (by decide) rfl (fun h35 => ?_) (fun h35 => ?_)
      · replace hf := gq_ifp h35 hf
        exact hkL32 _ _ _ hf
      · replace hf := gq_ifn h35 hf
        refine gq_lload C 2 40 dX5_partInLowestTerms_38 rfl rfl ?_
        refine gq_ldc2 C (lN 2) 43 cw_X5_258 dX5_partInLowestTerms_40 rfl ?_
        refine gq_lrem C 44 dX5_partInLowestTerms_43 (by decide) rfl ?_
        refine gq_lconst C (lN 0) 45 dX5_partInLowestTerms_44 (by decide) rfl ?_
        refine gq_lcmp C 46 dX5_partInLowestTerms_45 rfl ?_
        refine gq_jn (P := fun k => ∀ (x4_J76 : Int64) (x6_J76 : Int64), k x4_J76 x6_J76 = some rr → G p l e R s m args below meth c 9 D A H0 0 0 Q [] 76 [(8, .int x8_L32), (6, .long x6_J76), (4, .long x4_J76), (0, .long x0), (2, .int x2), (3, .int x3)] []) hf (fun x4_J76 x6_J76 hf => ?_) (fun kJ76 hJ76 hf => ?_)
        · refine gq_lload C 2 78 dX5_partInLowestTerms_76 rfl rfl ?_
          refine gq_ldc2 C (lN 5) 81 cw_X5_260 dX5_partInLowestTerms_78 rfl ?_
          refine gq_lrem C 82 dX5_partInLowestTerms_81 (by decide) rfl ?_
          refine gq_lconst C (lN 0) 83 dX5_partInLowestTerms_82 (by decide) rfl ?_
          refine gq_lcmp C 84 dX5_partInLowestTerms_83 rfl ?_
          refine gq_if_ne C 114 87 dX5_partInLowestTerms_84 (by decide) rfl (fun h84 => ?_) (fun h84 => ?_)
          · replace hf := gq_ifn h84 hf
            refine gq_iinc C 0 [(8, .int (x8_L32 + (nI 1))), (6, .long x6_J76), (4, .long x4_J76), (0, .long x0), (2, .int x2), (3, .int x3)] 117 dX5_partInLowestTerms_114 rfl rfl (by decide) rfl rfl ?_
            refine gq_goto C 32 dX5_partInLowestTerms_117 (by decide) ?_
            exact ihL32 _ _ _ hf
          · replace hf := gq_ifp h84 hf
            refine gq_lload C 1 89 dX5_partInLowestTerms_87 rfl rfl ?_
            refine gq_ldc2 C (lN 5) 92 cw_X5_260 dX5_partInLowestTerms_89 rfl ?_
            refine gq_lrem C 93 dX5_partInLowestTerms_92 (by decide) rfl ?_
            refine gq_lconst C (lN 0) 94 dX5_partInLowestTerms_93 (by decide) rfl ?_
            refine gq_lcmp C 95 dX5_partInLowestTerms_94 rfl ?_
            refine gq_if_ne C 114 98 dX5_partInLowestTerms_95 (by decide) rfl (fun h95 => ?_) (fun h95 => ?_)
            · replace hf := gq_ifn h95 hf
              refine gq_iinc C 0 [(8, .int (x8_L32 + (nI 1))), (6, .long x6_J76), (4, .long x4_J76), (0, .long x0), (2, .int x2), (3, .int x3)] 117 dX5_partInLowestTerms_114 rfl rfl (by decide) rfl rfl ?_
              refine gq_goto C 32 dX5_partInLowestTerms_117 (by decide) ?_
              exact ihL32 _ _ _ hf
            · replace hf := gq_ifp h95 hf
              refine gq_lload C 2 100 dX5_partInLowestTerms_98 rfl rfl ?_
              refine gq_ldc2 C (lN 5) 103 cw_X5_260 dX5_partInLowestTerms_100 rfl ?_
              refine gq_ldiv C 104 dX5_partInLowestTerms_103 (by decide) rfl ?_
              refine gq_lstore C [(4, .long (x4_J76 / (lN 5))), (8, .int x8_L32), (6, .long x6_J76), (0, .long x0), (2, .int x2), (3, .int x3)] 106 dX5_partInLowestTerms_104 (by decide) rfl rfl ?_
              refine gq_lload C 2 108 dX5_partInLowestTerms_106 rfl rfl ?_
              refine gq_ldc2 C (lN 5) 111 cw_X5_260 dX5_partInLowestTerms_108 rfl ?_
              refine gq_ldiv C 112 dX5_partInLowestTerms_111 (by decide) rfl ?_
              refine gq_lstore C [(6, .long (x6_J76 / (lN 5))), (4, .long (x4_J76 / (lN 5))), (8, .int x8_L32), (0, .long x0), (2, .int x2), (3, .int x3)] 114 dX5_partInLowestTerms_112 (by decide) rfl rfl ?_
              refine gq_iinc C 2 [(8, .int (x8_L32 + (nI 1))), (6, .long (x6_J76 / (lN 5))), (4, .long (x4_J76 / (lN 5))), (0, .long x0), (2, .int x2), (3, .int x3)] 117 dX5_partInLowestTerms_114 rfl rfl (by decide) rfl rfl ?_
              refine gq_goto C 32 dX5_partInLowestTerms_117 (by decide) ?_
              exact ihL32 _ _ _ hf
        · refine gq_if_ne C 76 49 dX5_partInLowestTerms_46 (by decide) rfl (fun h46 => ?_) (fun h46 => ?_)
          · replace hf := gq_ifn h46 hf
            exact hJ76 _ _ hf
          · replace hf := gq_ifp h46 hf
            refine gq_lload C 1 51 dX5_partInLowestTerms_49 rfl rfl ?_
            refine gq_ldc2 C (lN 2) 54 cw_X5_258 dX5_partInLowestTerms_51 rfl ?_
            refine gq_lrem C 55 dX5_partInLowestTerms_54 (by decide) rfl ?_
            refine gq_lconst C (lN 0) 56 dX5_partInLowestTerms_55 (by decide) rfl ?_
            refine gq_lcmp C 57 dX5_partInLowestTerms_56 rfl ?_
            refine gq_if_ne C 76 60 dX5_partInLowestTerms_57 (by decide) rfl (fun h57 => ?_) (fun h57 => ?_)
            · replace hf := gq_ifn h57 hf
              exact hJ76 _ _ hf
            · replace hf := gq_ifp h57 hf
              refine gq_lload C 2 62 dX5_partInLowestTerms_60 rfl rfl ?_
              refine gq_ldc2 C (lN 2) 65 cw_X5_258 dX5_partInLowestTerms_62 rfl ?_
              refine gq_ldiv C 66 dX5_partInLowestTerms_65 (by decide) rfl ?_
              refine gq_lstore C [(4, .long (x4_L32 / (lN 2))), (8, .int x8_L32), (6, .long x6_L32), (0, .long x0), (2, .int x2), (3, .int x3)] 68 dX5_partInLowestTerms_66 (by decide) rfl rfl ?_
              refine gq_lload C 2 70 dX5_partInLowestTerms_68 rfl rfl ?_
              refine gq_ldc2 C (lN 2) 73 cw_X5_258 dX5_partInLowestTerms_70 rfl ?_
              refine gq_ldiv C 74 dX5_partInLowestTerms_73 (by decide) rfl ?_
              refine gq_lstore C [(6, .long (x6_L32 / (lN 2))), (4, .long (x4_L32 / (lN 2))), (8, .int x8_L32), (0, .long x0), (2, .int x2), (3, .int x3)] 76 dX5_partInLowestTerms_74 (by decide) rfl rfl ?_
              refine gq_lv [2, 0, 1, 3, 4, 5] rfl ?_
              exact hJ76 _ _ hf
  refine L32 _ (fun x4_L32 x6_L32 x8_L32 hf => ?_) _ _ _ _ hf
  refine gq_iload_n C 5 121 dX5_partInLowestTerms_120 rfl rfl ?_
  refine gq_if_ne C 129 124 dX5_partInLowestTerms_121 (by decide) rfl (fun h121 => ?_) (fun h121 => ?_)
  · replace hf := gq_ifn h121 hf
    refine gq_lload C 1 131 dX5_partInLowestTerms_129 rfl rfl ?_
    obtain rfl := gq_lf hf
    exact hret dX5_partInLowestTerms_131 gPost.rf
  · replace hf := gq_ifp h121 hf
    refine gq_lload C 2 126 dX5_partInLowestTerms_124 rfl rfl ?_
    refine gq_goto C 131 dX5_partInLowestTerms_126 (by decide) ?_
    obtain rfl := gq_lf hf
    exact hret dX5_partInLowestTerms_131 gPost.rf
