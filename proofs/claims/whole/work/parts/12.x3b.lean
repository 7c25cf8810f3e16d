def f_X3_infest : Int32 → InnS → Option (InnS)
  | x1, (I_law, I_there, I_sleepers, I_empty, I_empties, I_yard, I_waiting, I_nights, I_used, I_sheets, I_lastOnes, I_guestsWithFleas, I_bedsWithFleas, I_isCounting) => (if (nI 8) ≤ x1 then some (I_law, I_there, I_sleepers, I_empty, I_empties, I_yard, I_waiting, I_nights, I_used, I_sheets, I_lastOnes, I_guestsWithFleas, (I_bedsWithFleas ||| ((nI 1) <<< ((x1 - (nI 8)) &&& 31))), I_isCounting) else (Option.bind (f_X3_bitOf x1) (fun r_12 => some (I_law, I_there, I_sleepers, I_empty, I_empties, I_yard, I_waiting, I_nights, I_used, I_sheets, I_lastOnes, (I_guestsWithFleas ||| r_12), I_bedsWithFleas, I_isCounting))))
set_option maxHeartbeats 4000000 in
set_option maxRecDepth 100000 in
theorem c_X3_infest (l : Launch) (D : va_G) (cI cZ : ClassId) (aI : Nat → Nat) (hI : Nat) (dI : Option Nat) (x1 : Int32) (tI : InnS) (rr : InnS) (hf : f_X3_infest x1 tI = some rr) : CT l D cI cZ yX3_infest cX3_infest 2 none 1 20 0 0 [.ref (aI 0), .int x1] ([iC cI aI hI dI tI]) (gPost none ([iC cI aI hI dI rr])) := by
  obtain ⟨I_law, I_there, I_sleepers, I_empty, I_empties, I_yard, I_waiting, I_nights, I_used, I_sheets, I_lastOnes, I_guestsWithFleas, I_bedsWithFleas, I_isCounting⟩ := tI
  rw [f_X3_infest] at hf
  refine CT.mkV (by decide) (Nat.le_of_ble_eq_true rfl) fun {p} {e} {R} {s} {m} {args} {below} {meth} {c} {A} {H0} {Q} C hA hR hnm hret => ?_
  show G p l e R s m args below meth c 2 D A H0 0 0 Q [iC cI aI hI dI (I_law, I_there, I_sleepers, I_empty, I_empties, I_yard, I_waiting, I_nights, I_used, I_sheets, I_lastOnes, I_guestsWithFleas, I_bedsWithFleas, I_isCounting)] 0 [(0, .ref (aI 0)), (1, .int x1)] []
  refine gq_iload_n C 1 1 dX3_infest_0 rfl rfl ?_
  refine gq_bipush C (nI 8) 3 dX3_infest_1 (by decide) rfl ?_
  refine gq_icmp_ge C 22 6 dX3_infest_3 (by decide) rfl (fun h3 => ?_) (fun h3 => ?_)
  · replace hf := gq_ifp h3 hf
    refine gq_aload_n C 0 23 dX3_infest_22 rfl rfl ?_
    refine gq_dup C 24 dX3_infest_23 rfl rfl ?_
    refine gq_get C fo_X3_14 fw_X3_57 0 0 27 rfl rfl rfl dX3_infest_24 rfl ?_
    refine gq_iconst C (nI 1) 28 dX3_infest_27 (by decide) rfl ?_
    refine gq_iload_n C 1 29 dX3_infest_28 rfl rfl ?_
    refine gq_bipush C (nI 8) 31 dX3_infest_29 (by decide) rfl ?_
    refine gq_isub C 32 dX3_infest_31 rfl ?_
    refine gq_ishl C 33 dX3_infest_32 rfl ?_
    refine gq_ior C 34 dX3_infest_33 rfl ?_
    refine gq_put C fo_X3_14 fp_X3_14 rfl fw_X3_57 0 0 37 [iC cI aI hI dI (I_law, I_there, I_sleepers, I_empty, I_empties, I_yard, I_waiting, I_nights, I_used, I_sheets, I_lastOnes, I_guestsWithFleas, (I_bedsWithFleas ||| ((nI 1) <<< ((x1 - (nI 8)) &&& 31))), I_isCounting)] rfl rfl rfl rfl (Nat.le_of_ble_eq_true rfl) rfl dX3_infest_34 rfl ?_
    obtain rfl := gq_lf hf
    exact hret dX3_infest_37 gPost.rf
  · replace hf := gq_ifn h3 hf
    refine gq_aload_n C 0 7 dX3_infest_6 rfl rfl ?_
    refine gq_dup C 8 dX3_infest_7 rfl rfl ?_
    refine gq_get C fo_X3_13 fw_X3_54 0 0 11 rfl rfl rfl dX3_infest_8 rfl ?_
    refine gq_iload_n C 1 12 dX3_infest_11 rfl rfl ?_
    obtain ⟨r_12, hc, hf⟩ := gq_bd hf
    refine gq_callS C hA gm_X3_107 (c_X3_bitOf l D cI cZ  x1 _ hc) rfl ⟨Nat.le_trans (Nat.le_of_ble_eq_true rfl) hR.1, Nat.le_trans (Nat.le_of_ble_eq_true rfl) hR.2.1⟩ ⟨Nat.zero_le _, Nat.zero_le _⟩ rfl (Nat.le_of_ble_eq_true rfl) dX3_infest_12 [] [iC cI aI hI dI (I_law, I_there, I_sleepers, I_empty, I_empties, I_yard, I_waiting, I_nights, I_used, I_sheets, I_lastOnes, I_guestsWithFleas, I_bedsWithFleas, I_isCounting)] 15 rfl (by decide) rfl rfl rfl [.int r_12, .int I_guestsWithFleas, .ref (aI 0)] rfl ?_
    refine gq_ior C 16 dX3_infest_15 rfl ?_
    refine gq_put C fo_X3_13 fp_X3_13 rfl fw_X3_54 0 0 19 [iC cI aI hI dI (I_law, I_there, I_sleepers, I_empty, I_empties, I_yard, I_waiting, I_nights, I_used, I_sheets, I_lastOnes, (I_guestsWithFleas ||| r_12), I_bedsWithFleas, I_isCounting)] rfl rfl rfl rfl (Nat.le_of_ble_eq_true rfl) rfl dX3_infest_16 rfl ?_
    refine gq_goto C 37 dX3_infest_19 (by decide) ?_
    obtain rfl := gq_lf hf
    exact hret dX3_infest_37 gPost.rf

def f_X3_shareFleas : Int32 → Int32 → InnS → Option (InnS)
  | x1, x2, (I_law, I_there, I_sleepers, I_empty, I_empties, I_yard, I_waiting, I_nights, I_used, I_sheets, I_lastOnes, I_guestsWithFleas, I_bedsWithFleas, I_isCounting) => (Option.bind (f_X3_bitOf x2) (fun r_5 => (if (I_guestsWithFleas &&& r_5) = 0 then (if (I_bedsWithFleas &&& ((nI 1) <<< (x1 &&& 31))) = 0 then some (I_law, I_there, I_sleepers, I_empty, I_empties, I_yard, I_waiting, I_nights, I_used, I_sheets, I_lastOnes, I_guestsWithFleas, I_bedsWithFleas, I_isCounting) else (Option.bind (f_X3_bitOf x2) (fun r_29 => some (I_law, I_there, I_sleepers, I_empty, I_empties, I_yard, I_waiting, I_nights, I_used, I_sheets, I_lastOnes, (I_guestsWithFleas ||| r_29), (I_bedsWithFleas ||| ((nI 1) <<< (x1 &&& 31))), I_isCounting)))) else (Option.bind (f_X3_bitOf x2) (fun r_29 => some (I_law, I_there, I_sleepers, I_empty, I_empties, I_yard, I_waiting, I_nights, I_used, I_sheets, I_lastOnes, (I_guestsWithFleas ||| r_29), (I_bedsWithFleas ||| ((nI 1) <<< (x1 &&& 31))), I_isCounting))))))
set_option maxHeartbeats 4000000 in
set_option maxRecDepth 100000 in
theorem c_X3_shareFleas (l : Launch) (D : va_G) (cI cZ : ClassId) (aI : Nat → Nat) (hI : Nat) (dI : Option Nat) (x1 : Int32) (x2 : Int32) (tI : InnS) (rr : InnS) (hf : f_X3_shareFleas x1 x2 tI = some rr) : CT l D cI cZ yX3_shareFleas cX3_shareFleas 3 none 1 20 0 0 [.ref (aI 0), .int x1, .int x2] ([iC cI aI hI dI tI]) (gPost none ([iC cI aI hI dI rr])) := by
  obtain ⟨I_law, I_there, I_sleepers, I_empty, I_empties, I_yard, I_waiting, I_nights, I_used, I_sheets, I_lastOnes, I_guestsWithFleas, I_bedsWithFleas, I_isCounting⟩ := tI
  rw [f_X3_shareFleas] at hf
  refine CT.mkV (by decide) (Nat.le_of_ble_eq_true rfl) fun {p} {e} {R} {s} {m} {args} {below} {meth} {c} {A} {H0} {Q} C hA hR hnm hret => ?_
  show G p l e R s m args below meth c 3 D A H0 0 0 Q [iC cI aI hI dI (I_law, I_there, I_sleepers, I_empty, I_empties, I_yard, I_waiting, I_nights, I_used, I_sheets, I_lastOnes, I_guestsWithFleas, I_bedsWithFleas, I_isCounting)] 0 [(0, .ref (aI 0)), (1, .int x1), (2, .int x2)] []
  refine gq_aload_n C 0 1 dX3_shareFleas_0 rfl rfl ?_
  refine gq_get C fo_X3_13 fw_X3_54 0 0 4 rfl rfl rfl dX3_shareFleas_1 rfl ?_
  refine gq_iload_n C 2 5 dX3_shareFleas_4 rfl rfl ?_
  obtain ⟨r_5, hc, hf⟩ := gq_bd hf
  refine gq_callS C hA gm_X3_107 (c_X3_bitOf l D cI cZ  x2 _ hc) rfl ⟨Nat.le_trans (Nat.le_of_ble_eq_true rfl) hR.1, Nat.le_trans (Nat.le_of_ble_eq_true rfl) hR.2.1⟩ ⟨Nat.zero_le _, Nat.zero_le _⟩ rfl (Nat.le_of_ble_eq_true rfl) dX3_shareFleas_5 [] [iC cI aI hI dI (I_law, I_there, I_sleepers, I_empty, I_empties, I_yard, I_waiting, I_nights, I_used, I_sheets, I_lastOnes, I_guestsWithFleas, I_bedsWithFleas, I_isCounting)] 8 rfl (by decide) rfl rfl rfl [.int r_5, .int I_guestsWithFleas] rfl ?_
  refine gq_iand C 9 dX3_shareFleas_8 rfl ?_
  refine gq_if_ne C 23 12 dX3_shareFleas_9 (by decide) rfl (fun h9 => ?_) (fun h9 => ?_)
  · replace hf := gq_ifn h9 hf
    refine gq_aload_n C 0 24 dX3_shareFleas_23 rfl rfl ?_
    refine gq_dup C 25 dX3_shareFleas_24 rfl rfl ?_
    refine gq_get C fo_X3_13 fw_X3_54 0 0 28 rfl rfl rfl dX3_shareFleas_25 rfl ?_
    refine gq_iload_n C 2 29 dX3_shareFleas_28 rfl rfl ?_
    obtain ⟨r_29, hc, hf⟩ := gq_bd hf
    refine gq_callS C hA gm_X3_107 (c_X3_bitOf l D cI cZ  x2 _ hc) rfl ⟨Nat.le_trans (Nat.le_of_ble_eq_true rfl) hR.1, Nat.le_trans (Nat.le_of_ble_eq_true rfl) hR.2.1⟩ ⟨Nat.zero_le _, Nat.zero_le _⟩ rfl (Nat.le_of_ble_eq_true rfl) dX3_shareFleas_29 [] [iC cI aI hI dI (I_law, I_there, I_sleepers, I_empty, I_empties, I_yard, I_waiting, I_nights, I_used, I_sheets, I_lastOnes, I_guestsWithFleas, I_bedsWithFleas, I_isCounting)] 32 rfl (by decide) rfl rfl rfl [.int r_29, .int I_guestsWithFleas, .ref (aI 0)] rfl ?_
    refine gq_ior C 33 dX3_shareFleas_32 rfl ?_
    refine gq_put C fo_X3_13 fp_X3_13 rfl fw_X3_54 0 0 36 [iC cI aI hI dI (I_law, I_there, I_sleepers, I_empty, I_empties, I_yard, I_waiting, I_nights, I_used, I_sheets, I_lastOnes, (I_guestsWithFleas ||| r_29), I_bedsWithFleas, I_isCounting)] rfl rfl rfl rfl (Nat.le_of_ble_eq_true rfl) rfl dX3_shareFleas_33 rfl ?_
    refine gq_aload_n C 0 37 dX3_shareFleas_36 rfl rfl ?_
    refine gq_dup C 38 dX3_shareFleas_37 rfl rfl ?_
    refine gq_get C fo_X3_14 fw_X3_57 0 0 41 rfl rfl rfl dX3_shareFleas_38 rfl ?_
    refine gq_iconst C (nI 1) 42 dX3_shareFleas_41 (by decide) rfl ?_
    refine gq_iload_n C 1 43 dX3_shareFleas_42 rfl rfl ?_
    refine gq_ishl C 44 dX3_shareFleas_43 rfl ?_
    refine gq_ior C 45 dX3_shareFleas_44 rfl ?_
    refine gq_put C fo_X3_14 fp_X3_14 rfl fw_X3_57 0 0 48 [iC cI aI hI dI (I_law, I_there, I_sleepers, I_empty, I_empties, I_yard, I_waiting, I_nights, I_used, I_sheets, I_lastOnes, (I_guestsWithFleas ||| r_29), (I_bedsWithFleas ||| ((nI 1) <<< (x1 &&& 31))), I_isCounting)] rfl rfl rfl rfl (Nat.le_of_ble_eq_true rfl) rfl dX3_shareFleas_45 rfl ?_
    obtain rfl := gq_lf hf
    exact hret dX3_shareFleas_48 gPost.rf
  · replace hf := gq_ifp h9 hf
    refine gq_aload_n C 0 13 dX3_shareFleas_12 rfl rfl ?_
    refine gq_get C fo_X3_14 fw_X3_57 0 0 16 rfl rfl rfl dX3_shareFleas_13 rfl ?_
    refine gq_iconst C (nI 1) 17 dX3_shareFleas_16 (by decide) rfl ?_
    refine gq_iload_n C 1 18 dX3_shareFleas_17 rfl rfl ?_
    refine gq_ishl C 19 dX3_shareFleas_18 rfl ?_
    refine gq_iand C 20 dX3_shareFleas_19 rfl ?_
    refine gq_if_eq C 48 23 dX3_shareFleas_20 (by decide) rfl (fun h20 => ?_) (fun h20 => ?_)
    · replace hf := gq_ifp h20 hf
      obtain rfl := gq_lf hf
      exact hret dX3_shareFleas_48 gPost.rf
    · replace hf := gq_ifn h20 hf
      refine gq_aload_n C 0 24 dX3_shareFleas_23 rfl rfl ?_
      refine gq_dup C 25 dX3_shareFleas_24 rfl rfl ?_
      refine gq_get C fo_X3_13 fw_X3_54 0 0 28 rfl rfl rfl dX3_shareFleas_25 rfl ?_
      refine gq_iload_n C 2 29 dX3_shareFleas_28 rfl rfl ?_
      obtain ⟨r_29, hc, hf⟩ := gq_bd hf
      refine gq_callS C hA gm_X3_107 (c_X3_bitOf l D cI cZ  x2 _ hc) rfl ⟨Nat.le_trans (Nat.le_of_ble_eq_true rfl) hR.1, Nat.le_trans (Nat.le_of_ble_eq_true rfl) hR.2.1⟩ ⟨Nat.zero_le _, Nat.zero_le _⟩ rfl (Nat.le_of_ble_eq_true rfl) dX3_shareFleas_29 [] [iC cI aI hI dI (I_law, I_there, I_sleepers, I_empty, I_empties, I_yard, I_waiting, I_nights, I_used, I_sheets, I_lastOnes, I_guestsWithFleas, I_bedsWithFleas, I_isCounting)] 32 rfl (by decide) rfl rfl rfl [.int r_29, .int I_guestsWithFleas, .ref (aI 0)] rfl ?_
      refine gq_ior C 33 dX3_shareFleas_32 rfl ?_
      refine gq_put C fo_X3_13 fp_X3_13 rfl fw_X3_54 0 0 36 [iC cI aI hI dI (I_law, I_there, I_sleepers, I_empty, I_empties, I_yard, I_waiting, I_nights, I_used, I_sheets, I_lastOnes, (I_guestsWithFleas ||| r_29), I_bedsWithFleas, I_isCounting)] rfl rfl rfl rfl (Nat.le_of_ble_eq_true rfl) rfl dX3_shareFleas_33 rfl ?_
      refine gq_aload_n C 0 37 dX3_shareFleas_36 rfl rfl ?_
      refine gq_dup C 38 dX3_shareFleas_37 rfl rfl ?_
      refine gq_get C fo_X3_14 fw_X3_57 0 0 41 rfl rfl rfl dX3_shareFleas_38 rfl ?_
      refine gq_iconst C (nI 1) 42 dX3_shareFleas_41 (by decide) rfl ?_
      refine gq_iload_n C 1 43 dX3_shareFleas_42 rfl rfl ?_
      refine gq_ishl C 44 dX3_shareFleas_43 rfl ?_
      refine gq_ior C 45 dX3_shareFleas_44 rfl ?_
      refine gq_put C fo_X3_14 fp_X3_14 rfl fw_X3_57 0 0 48 [iC cI aI hI dI (I_law, I_there, I_sleepers, I_empty, I_empties, I_yard, I_waiting, I_nights, I_used, I_sheets, I_lastOnes, (I_guestsWithFleas ||| r_29), (I_bedsWithFleas ||| ((nI 1) <<< (x1 &&& 31))), I_isCounting)] rfl rfl rfl rfl (Nat.le_of_ble_eq_true rfl) rfl dX3_shareFleas_45 rfl ?_
      obtain rfl := gq_lf hf
      exact hret dX3_shareFleas_48 gPost.rf

def f_X3_passNight_L2  : Nat → Int32 → Int32 → Int32 → (Nat → Int32) → (Nat → Int32) → Int32 → (Nat → Int32) → Int32 → (Nat → Int32) → (Nat → Int32) → (Nat → Int32) → (Nat → Int32) → Int32 → Int32 → Int32 → (Int32 → Int32 → Int32 → (Nat → Int32) → (Nat → Int32) → Int32 → (Nat → Int32) → Int32 → (Nat → Int32) → (Nat → Int32) → (Nat → Int32) → (Nat → Int32) → Int32 → Int32 → Int32 → Option (InnS)) → Option (InnS)
  | 0, _, _, _, _, _, _, _, _, _, _, _, _, _, _, _, _ => none
  | nL2 + 1, x1_L2, I_law_L2, I_there_L2, I_sleepers_L2, I_empty_L2, I_empties_L2, I_yard_L2, I_waiting_L2, I_nights_L2, I_used_L2, I_sheets_L2, I_lastOnes_L2, I_guestsWithFleas_L2, I_bedsWithFleas_L2, I_isCounting_L2, kL2 => (if (nI 8) ≤ x1_L2 then kL2 x1_L2 I_law_L2 I_there_L2 I_sleepers_L2 I_empty_L2 I_empties_L2 I_yard_L2 I_waiting_L2 I_nights_L2 I_used_L2 I_sheets_L2 I_lastOnes_L2 I_guestsWithFleas_L2 I_bedsWithFleas_L2 I_isCounting_L2 else (if x1_L2 < 0 ∨ 8 ≤ x1_L2.toNatClampNeg then none else (if (I_sleepers_L2 x1_L2.toNatClampNeg) = (-1 : Int32) then f_X3_passNight_L2  nL2 (x1_L2 + (nI 1)) I_law_L2 I_there_L2 I_sleepers_L2 I_empty_L2 I_empties_L2 I_yard_L2 I_waiting_L2 I_nights_L2 I_used_L2 I_sheets_L2 I_lastOnes_L2 I_guestsWithFleas_L2 I_bedsWithFleas_L2 I_isCounting_L2 kL2 else (if x1_L2 < 0 ∨ 8 ≤ x1_L2.toNatClampNeg then none else (if x1_L2 < 0 ∨ 8 ≤ x1_L2.toNatClampNeg then none else (if x1_L2 < 0 ∨ 8 ≤ x1_L2.toNatClampNeg then none else (Option.bind (f_X3_shareFleas x1_L2 (I_sleepers_L2 x1_L2.toNatClampNeg) (I_law_L2, I_there_L2, I_sleepers_L2, I_empty_L2, I_empties_L2, I_yard_L2, I_waiting_L2, (upd I_nights_L2 x1_L2.toNatClampNeg ((I_nights_L2 x1_L2.toNatClampNeg) + (nI 1))), I_used_L2, I_sheets_L2, I_lastOnes_L2, I_guestsWithFleas_L2, I_bedsWithFleas_L2, I_isCounting_L2)) (fun (I_law_36, I_there_36, I_sleepers_36, I_empty_36, I_empties_36, I_yard_36, I_waiting_36, I_nights_36, I_used_36, I_sheets_36, I_lastOnes_36, I_guestsWithFleas_36, I_bedsWithFleas_36, I_isCounting_36) => f_X3_passNight_L2  nL2 (x1_L2 + (nI 1)) I_law_36 I_there_36 I_sleepers_36 I_empty_36 I_empties_36 I_yard_36 I_waiting_36 I_nights_36 I_used_36 I_sheets_36 I_lastOnes_36 I_guestsWithFleas_36 I_bedsWithFleas_36 I_isCounting_36 kL2))))))))
def f_X3_passNight : InnS → Option (InnS)
  | (I_law, I_there, I_sleepers, I_empty, I_empties, I_yard, I_waiting, I_nights, I_used, I_sheets, I_lastOnes, I_guestsWithFleas, I_bedsWithFleas, I_isCounting) => f_X3_passNight_L2  FU (nI 0) I_law I_there I_sleepers I_empty I_empties I_yard I_waiting I_nights I_used I_sheets I_lastOnes I_guestsWithFleas I_bedsWithFleas I_isCounting (fun x1_L2 I_law_L2 I_there_L2 I_sleepers_L2 I_empty_L2 I_empties_L2 I_yard_L2 I_waiting_L2 I_nights_L2 I_used_L2 I_sheets_L2 I_lastOnes_L2 I_guestsWithFleas_L2 I_bedsWithFleas_L2 I_isCounting_L2 => some (I_law_L2, I_there_L2, I_sleepers_L2, I_empty_L2, I_empties_L2, I_yard_L2, I_waiting_L2, I_nights_L2, I_used_L2, I_sheets_L2, I_lastOnes_L2, I_guestsWithFleas_L2, I_bedsWithFleas_L2, I_isCounting_L2))
set_option maxHeartbeats 4000000 in
set_option maxRecDepth 100000 in
theorem c_X3_passNight (l : Launch) (D : va_G) (cI cZ : ClassId) (aI : Nat → Nat) (hI : Nat) (dI : Option Nat) (tI : InnS) (rr : InnS) (hf : f_X3_passNight tI = some rr) : CT l D cI cZ yX3_passNight cX3_passNight 2 none 2 42 0 0 [.ref (aI 0)] ([iC cI aI hI dI tI]) (gPost none ([iC cI aI hI dI rr])) := by
  obtain ⟨I_law, I_there, I_sleepers, I_empty, I_empties, I_yard, I_waiting, I_nights, I_used, I_sheets, I_lastOnes, I_guestsWithFleas, I_bedsWithFleas, I_isCounting⟩ := tI
  rw [f_X3_passNight] at hf
  refine CT.mkV (by decide) (Nat.le_of_ble_eq_true rfl) fun {p} {e} {R} {s} {m} {args} {below} {meth} {c} {A} {H0} {Q} C hA hR hnm hret => ?_
  show G p l e R s m args below meth c 2 D A H0 0 0 Q [iC cI aI hI dI (I_law, I_there, I_sleepers, I_empty, I_empties, I_yard, I_waiting, I_nights, I_used, I_sheets, I_lastOnes, I_guestsWithFleas, I_bedsWithFleas, I_isCounting)] 0 [(0, .ref (aI 0))] []
  refine gq_iconst C (nI 0) 1 dX3_passNight_0 (by decide) rfl ?_
  refine gq_istore_n C [(1, .int (nI 0)), (0, .ref (aI 0))] 2 dX3_passNight_1 (by decide) rfl rfl ?_
  have L2 : ∀ (kL : Int32 → Int32 → Int32 → (Nat → Int32) → (Nat → Int32) → Int32 → (Nat → Int32) → Int32 → (Nat → Int32) → (Nat → Int32) → (Nat → Int32) → (Nat → Int32) → Int32 → Int32 → Int32 → Option (InnS)), (∀ (x1_L2 : Int32) (I_law_L2 : Int32) (I_there_L2 : Int32) (I_sleepers_L2 : (Nat → Int32)) (I_empty_L2 : (Nat → Int32)) (I_empties_L2 : Int32) (I_yard_L2 : (Nat → Int32)) (I_waiting_L2 : Int32) (I_nights_L2 : (Nat → Int32)) (I_used_L2 : (Nat → Int32)) (I_sheets_L2 : (Nat → Int32)) (I_lastOnes_L2 : (Nat → Int32)) (I_guestsWithFleas_L2 : Int32) (I_bedsWithFleas_L2 : Int32) (I_isCounting_L2 : Int32), kL x1_L2 I_law_L2 I_there_L2 I_sleepers_L2 I_empty_L2 I_empties_L2 I_yard_L2 I_waiting_L2 I_nights_L2 I_used_L2 I_sheets_L2 I_lastOnes_L2 I_guestsWithFleas_L2 I_bedsWithFleas_L2 I_isCounting_L2 = some rr → G p l e R s m args below meth c 2 D A H0 0 0 Q [iC cI aI hI dI (I_law_L2, I_there_L2, I_sleepers_L2, I_empty_L2, I_empties_L2, I_yard_L2, I_waiting_L2, I_nights_L2, I_used_L2, I_sheets_L2, I_lastOnes_L2, I_guestsWithFleas_L2, I_bedsWithFleas_L2, I_isCounting_L2)] 45 [(1, .int x1_L2), (0, .ref (aI 0))] []) → ∀ (n : Nat) (x1_L2 : Int32) (I_law_L2 : Int32) (I_there_L2 : Int32) (I_sleepers_L2 : (Nat → Int32)) (I_empty_L2 : (Nat → Int32)) (I_empties_L2 : Int32) (I_yard_L2 : (Nat → Int32)) (I_waiting_L2 : Int32) (I_nights_L2 : (Nat → Int32)) (I_used_L2 : (Nat → Int32)) (I_sheets_L2 : (Nat → Int32)) (I_lastOnes_L2 : (Nat → Int32)) (I_guestsWithFleas_L2 : Int32) (I_bedsWithFleas_L2 : Int32) (I_isCounting_L2 : Int32), f_X3_passNight_L2  n x1_L2 I_law_L2 I_there_L2 I_sleepers_L2 I_empty_L2 I_empties_L2 I_yard_L2 I_waiting_L2 I_nights_L2 I_used_L2 I_sheets_L2 I_lastOnes_L2 I_guestsWithFleas_L2 I_bedsWithFleas_L2 I_isCounting_L2 kL = some rr → G p l e R s m args below meth c 2 D A H0 0 0 Q [iC cI aI hI dI (I_law_L2, I_there_L2, I_sleepers_L2, I_empty_L2, I_empties_L2, I_yard_L2, I_waiting_L2, I_nights_L2, I_used_L2, I_sheets_L2, I_lastOnes_L2, I_guestsWithFleas_L2, I_bedsWithFleas_L2, I_isCounting_L2)] 2 [(1, .int x1_L2), (0, .ref (aI 0))] [] := by
    intro kL hkL2 n
    induction n with
    | zero =>
      intro x1_L2 I_law_L2 I_there_L2 I_sleepers_L2 I_empty_L2 I_empties_L2 I_yard_L2 I_waiting_L2 I_nights_L2 I_used_L2 I_sheets_L2 I_lastOnes_L2 I_guestsWithFleas_L2 I_bedsWithFleas_L2 I_isCounting_L2 hf
      rw [f_X3_passNight_L2] at hf
      cases hf
    | succ n ihL2 =>
      intro x1_L2 I_law_L2 I_there_L2 I_sleepers_L2 I_empty_L2 I_empties_L2 I_yard_L2 I_waiting_L2 I_nights_L2 I_used_L2 I_sheets_L2 I_lastOnes_L2 I_guestsWithFleas_L2 I_bedsWithFleas_L2 I_isCounting_L2 hf
      rw [f_X3_passNight_L2] at hf
      refine gq_iload_n C 0 3 dX3_passNight_2 rfl rfl ?_
      refine gq_bipush C (nI 8) 5 dX3_passNight_3 (by decide) rfl ?_
      refine gq_icmp_ge C 45 8 dX3_passNight_5 (by decide) rfl (fun h5 => ?_) (fun h5 => ?_)
      · replace hf := gq_ifp h5 hf
        exact hkL2 _ _ _ _ _ _ _ _ _ _ _ _ _ _ _ hf
      · replace hf := gq_ifn h5 hf
        refine gq_aload_n C 1 9 dX3_passNight_8 rfl rfl ?_
        refine gq_get C fo_X3_4 fw_X3_9 0 0 12 rfl rfl rfl dX3_passNight_9 rfl ?_
        refine gq_iload_n C 0 13 dX3_passNight_12 rfl rfl ?_
        obtain ⟨h13, hf⟩ := gq_ok hf
        refine gq_iald C 0 1 14 rfl rfl h13 dX3_passNight_13 rfl ?_
        refine gq_iconst C (-1 : Int32) 15 dX3_passNight_14 (by decide) rfl ?_
        refine gq_icmp_eq C 39 18 dX3_passNight_15 (by decide) rfl (fun h15 => ?_) (fun h15 => ?_)
        · replace hf := gq_ifp h15 hf
          refine gq_iinc C 0 [(1, .int (x1_L2 + (nI 1))), (0, .ref (aI 0))] 42 dX3_passNight_39 rfl rfl (by decide) rfl rfl ?_
          refine gq_goto C 2 dX3_passNight_42 (by decide) ?_
          exact ihL2 _ _ _ _ _ _ _ _ _ _ _ _ _ _ _ hf
        · replace hf := gq_ifn h15 hf
          refine gq_aload_n C 1 19 dX3_passNight_18 rfl rfl ?_
          refine gq_get C fo_X3_9 fw_X3_21 0 0 22 rfl rfl rfl dX3_passNight_19 rfl ?_
          refine gq_iload_n C 0 23 dX3_passNight_22 rfl rfl ?_
          refine gq_dup2 C 24 dX3_passNight_23 rfl rfl rfl ?_
          obtain ⟨h24, hf⟩ := gq_ok hf
          refine gq_iald C 0 4 25 rfl rfl h24 dX3_passNight_24 rfl ?_
          refine gq_iconst C (nI 1) 26 dX3_passNight_25 (by decide) rfl ?_
          refine gq_iadd C 27 dX3_passNight_26 rfl ?_
          obtain ⟨h27, hf⟩ := gq_ok hf
          refine gq_iast C 0 4 28 [iC cI aI hI dI (I_law_L2, I_there_L2, I_sleepers_L2, I_empty_L2, I_empties_L2, I_yard_L2, I_waiting_L2, (upd I_nights_L2 x1_L2.toNatClampNeg ((I_nights_L2 x1_L2.toNatClampNeg) + (nI 1))), I_used_L2, I_sheets_L2, I_lastOnes_L2, I_guestsWithFleas_L2, I_bedsWithFleas_L2, I_isCounting_L2)] rfl rfl h27 rfl dX3_passNight_27 rfl ?_
          refine gq_aload_n C 1 29 dX3_passNight_28 rfl rfl ?_
          refine gq_iload_n C 0 30 dX3_passNight_29 rfl rfl ?_
          refine gq_aload_n C 1 31 dX3_passNight_30 rfl rfl ?_
          refine gq_get C fo_X3_4 fw_X3_9 0 0 34 rfl rfl rfl dX3_passNight_31 rfl ?_
          refine gq_iload_n C 0 35 dX3_passNight_34 rfl rfl ?_
          obtain ⟨h35, hf⟩ := gq_ok hf
          refine gq_iald C 0 1 36 rfl rfl h35 dX3_passNight_35 rfl ?_
          obtain ⟨⟨I_law_36, I_there_36, I_sleepers_36, I_empty_36, I_empties_36, I_yard_36, I_waiting_36, I_nights_36, I_used_36, I_sheets_36, I_lastOnes_36, I_guestsWithFleas_36, I_bedsWithFleas_36, I_isCounting_36⟩, hc, hf⟩ := gq_bd hf
          refine gq_callV C hA gm_X3_135 (c_X3_shareFleas l D cI cZ aI hI dI x1_L2 (I_sleepers_L2 x1_L2.toNatClampNeg) (I_law_L2, I_there_L2, I_sleepers_L2, I_empty_L2, I_empties_L2, I_yard_L2, I_waiting_L2, (upd I_nights_L2 x1_L2.toNatClampNeg ((I_nights_L2 x1_L2.toNatClampNeg) + (nI 1))), I_used_L2, I_sheets_L2, I_lastOnes_L2, I_guestsWithFleas_L2, I_bedsWithFleas_L2, I_isCounting_L2) _ hc) rfl 0 0 rfl rfl rfl ⟨Nat.le_trans (Nat.le_of_ble_eq_true rfl) hR.1, Nat.le_trans (Nat.le_of_ble_eq_true rfl) hR.2.1⟩ ⟨Nat.zero_le _, Nat.zero_le _⟩ rfl (Nat.le_of_ble_eq_true rfl) dX3_passNight_36 [0] [iC cI aI hI dI (I_law_36, I_there_36, I_sleepers_36, I_empty_36, I_empties_36, I_yard_36, I_waiting_36, I_nights_36, I_used_36, I_sheets_36, I_lastOnes_36, I_guestsWithFleas_36, I_bedsWithFleas_36, I_isCounting_36)] 39 rfl (by decide) rfl rfl rfl [] rfl ?_
          refine gq_iinc C 0 [(1, .int (x1_L2 + (nI 1))), (0, .ref (aI 0))] 42 dX3_passNight_39 rfl rfl (by decide) rfl rfl ?_
          refine gq_goto C 2 dX3_passNight_42 (by decide) ?_
          exact ihL2 _ _ _ _ _ _ _ _ _ _ _ _ _ _ _ hf
  refine L2 _ (fun x1_L2 I_law_L2 I_there_L2 I_sleepers_L2 I_empty_L2 I_empties_L2 I_yard_L2 I_waiting_L2 I_nights_L2 I_used_L2 I_sheets_L2 I_lastOnes_L2 I_guestsWithFleas_L2 I_bedsWithFleas_L2 I_isCounting_L2 hf => ?_) _ _ _ _ _ _ _ _ _ _ _ _ _ _ _ _ hf
  obtain rfl := gq_lf hf
  exact hret dX3_passNight_45 gPost.rf

def f_X3_clear : Int32 → InnS → Option (InnS)
  | x1, (I_law, I_there, I_sleepers, I_empty, I_empties, I_yard, I_waiting, I_nights, I_used, I_sheets, I_lastOnes, I_guestsWithFleas, I_bedsWithFleas, I_isCounting) => (Option.bind (f_X3_sleeperOf x1 (I_law, I_there, I_sleepers, I_empty, I_empties, I_yard, I_waiting, I_nights, I_used, I_sheets, I_lastOnes, I_guestsWithFleas, I_bedsWithFleas, I_isCounting)) (fun r_7 => (Option.bind (f_X3_bitOf r_7) (fun r_10 => (if I_waiting ≤ 0 then (Option.bind (f_X3_leaveEmpty x1 (I_law, (I_there &&& (r_10 ^^^ (-1 : Int32))), I_sleepers, I_empty, I_empties, I_yard, I_waiting, I_nights, I_used, I_sheets, I_lastOnes, I_guestsWithFleas, I_bedsWithFleas, I_isCounting)) (fun (I_law_49, I_there_49, I_sleepers_49, I_empty_49, I_empties_49, I_yard_49, I_waiting_49, I_nights_49, I_used_49, I_sheets_49, I_lastOnes_49, I_guestsWithFleas_49, I_bedsWithFleas_49, I_isCounting_49) => some (I_law_49, I_there_49, I_sleepers_49, I_empty_49, I_empties_49, I_yard_49, I_waiting_49, I_nights_49, I_used_49, I_sheets_49, I_lastOnes_49, I_guestsWithFleas_49, I_bedsWithFleas_49, I_isCounting_49))) else (Option.bind (f_X3_leaveYard (I_yard (nI 0).toNatClampNeg) (I_law, (I_there &&& (r_10 ^^^ (-1 : Int32))), I_sleepers, I_empty, I_empties, I_yard, I_waiting, I_nights, I_used, I_sheets, I_lastOnes, I_guestsWithFleas, I_bedsWithFleas, I_isCounting)) (fun (I_law_35, I_there_35, I_sleepers_35, I_empty_35, I_empties_35, I_yard_35, I_waiting_35, I_nights_35, I_used_35, I_sheets_35, I_lastOnes_35, I_guestsWithFleas_35, I_bedsWithFleas_35, I_isCounting_35) => (Option.bind (f_X3_occupy x1 (I_yard (nI 0).toNatClampNeg) (I_law_35, I_there_35, I_sleepers_35, I_empty_35, I_empties_35, I_yard_35, I_waiting_35, I_nights_35, I_used_35, I_sheets_35, I_lastOnes_35, I_guestsWithFleas_35, I_bedsWithFleas_35, I_isCounting_35)) (fun (I_law_41, I_there_41, I_sleepers_41, I_empty_41, I_empties_41, I_yard_41, I_waiting_41, I_nights_41, I_used_41, I_sheets_41, I_lastOnes_41, I_guestsWithFleas_41, I_bedsWithFleas_41, I_isCounting_41) => some (I_law_41, I_there_41, I_sleepers_41, I_empty_41, I_empties_41, I_yard_41, I_waiting_41, I_nights_41, I_used_41, I_sheets_41, I_lastOnes_41, I_guestsWithFleas_41, I_bedsWithFleas_41, I_isCounting_41))))))))))
set_option maxHeartbeats 4000000 in
set_option maxRecDepth 100000 in
theorem c_X3_clear (l : Launch) (D : va_G) (cI cZ : ClassId) (aI : Nat → Nat) (hI : Nat) (dI : Option Nat) (x1 : Int32) (tI : InnS) (rr : InnS) (hf : f_X3_clear x1 tI = some rr) : CT l D cI cZ yX3_clear cX3_clear 3 none 1 24 0 0 [.ref (aI 0), .int x1] ([iC cI aI hI dI tI]) (gPost none ([iC cI aI hI dI rr])) := by
  obtain ⟨I_law, I_there, I_sleepers, I_empty, I_empties, I_yard, I_waiting, I_nights, I_used, I_sheets, I_lastOnes, I_guestsWithFleas, I_bedsWithFleas, I_isCounting⟩ := tI
  rw [f_X3_clear] at hf
  refine CT.mkV (by decide) (Nat.le_of_ble_eq_true rfl) fun {p} {e} {R} {s} {m} {args} {below} {meth} {c} {A} {H0} {Q} C hA hR hnm hret => ?_
  show G p l e R s m args below meth c 3 D A H0 0 0 Q [iC cI aI hI dI (I_law, I_there, I_sleepers, I_empty, I_empties, I_yard, I_waiting, I_nights, I_used, I_sheets, I_lastOnes, I_guestsWithFleas, I_bedsWithFleas, I_isCounting)] 0 [(0, .ref (aI 0)), (1, .int x1)] []
  refine gq_aload_n C 0 1 dX3_clear_0 rfl rfl ?_
  refine gq_dup C 2 dX3_clear_1 rfl rfl ?_
  refine gq_get C fo_X3_3 fw_X3_45 0 0 5 rfl rfl rfl dX3_clear_2 rfl ?_
  refine gq_aload_n C 0 6 dX3_clear_5 rfl rfl ?_
  refine gq_iload_n C 1 7 dX3_clear_6 rfl rfl ?_
  obtain ⟨r_7, hc, hf⟩ := gq_bd hf
  refine gq_callV C hA gm_X3_132 (c_X3_sleeperOf l D cI cZ aI hI dI x1 (I_law, I_there, I_sleepers, I_empty, I_empties, I_yard, I_waiting, I_nights, I_used, I_sheets, I_lastOnes, I_guestsWithFleas, I_bedsWithFleas, I_isCounting) _ hc) rfl 0 0 rfl rfl rfl ⟨Nat.le_trans (Nat.le_of_ble_eq_true rfl) hR.1, Nat.le_trans (Nat.le_of_ble_eq_true rfl) hR.2.1⟩ ⟨Nat.zero_le _, Nat.zero_le _⟩ rfl (Nat.le_of_ble_eq_true rfl) dX3_clear_7 [0] [iC cI aI hI dI (I_law, I_there, I_sleepers, I_empty, I_empties, I_yard, I_waiting, I_nights, I_used, I_sheets, I_lastOnes, I_guestsWithFleas, I_bedsWithFleas, I_isCounting)] 10 rfl (by decide) rfl rfl rfl [.int r_7, .int I_there, .ref (aI 0)] rfl ?_
  obtain ⟨r_10, hc, hf⟩ := gq_bd hf
  refine gq_callS C hA gm_X3_107 (c_X3_bitOf l D cI cZ  r_7 _ hc) rfl ⟨Nat.le_trans (Nat.le_of_ble_eq_true rfl) hR.1, Nat.le_trans (Nat.le_of_ble_eq_true rfl) hR.2.1⟩ ⟨Nat.zero_le _, Nat.zero_le _⟩ rfl (Nat.le_of_ble_eq_true rfl) dX3_clear_10 [] [iC cI aI hI dI (I_law, I_there, I_sleepers, I_empty, I_empties, I_yard, I_waiting, I_nights, I_used, I_sheets, I_lastOnes, I_guestsWithFleas, I_bedsWithFleas, I_isCounting)] 13 rfl (by decide) rfl rfl rfl [.int r_10, .int I_there, .ref (aI 0)] rfl ?_
  refine gq_iconst C (-1 : Int32) 14 dX3_clear_13 (by decide) rfl ?_
  refine gq_ixor C 15 dX3_clear_14 rfl ?_
  refine gq_iand C 16 dX3_clear_15 rfl ?_
  refine gq_put C fo_X3_3 fp_X3_3 rfl fw_X3_45 0 0 19 [iC cI aI hI dI (I_law, (I_there &&& (r_10 ^^^ (-1 : Int32))), I_sleepers, I_empty, I_empties, I_yard, I_waiting, I_nights, I_used, I_sheets, I_lastOnes, I_guestsWithFleas, I_bedsWithFleas, I_isCounting)] rfl rfl rfl rfl (Nat.le_of_ble_eq_true rfl) rfl dX3_clear_16 rfl ?_
  refine gq_aload_n C 0 20 dX3_clear_19 rfl rfl ?_
  refine gq_get C fo_X3_8 fw_X3_51 0 0 23 rfl rfl rfl dX3_clear_20 rfl ?_
  refine gq_if_le C 47 26 dX3_clear_23 (by decide) rfl (fun h23 => ?_) (fun h23 => ?_)
  · replace hf := gq_ifp h23 hf
    refine gq_aload_n C 0 48 dX3_clear_47 rfl rfl ?_
    refine gq_iload_n C 1 49 dX3_clear_48 rfl rfl ?_
    obtain ⟨⟨I_law_49, I_there_49, I_sleepers_49, I_empty_49, I_empties_49, I_yard_49, I_waiting_49, I_nights_49, I_used_49, I_sheets_49, I_lastOnes_49, I_guestsWithFleas_49, I_bedsWithFleas_49, I_isCounting_49⟩, hc, hf⟩ := gq_bd hf
    refine gq_callV C hA gm_X3_69 (c_X3_leaveEmpty l D cI cZ aI hI dI x1 (I_law, (I_there &&& (r_10 ^^^ (-1 : Int32))), I_sleepers, I_empty, I_empties, I_yard, I_waiting, I_nights, I_used, I_sheets, I_lastOnes, I_guestsWithFleas, I_bedsWithFleas, I_isCounting) _ hc) rfl 0 0 rfl rfl rfl ⟨Nat.le_trans (Nat.le_of_ble_eq_true rfl) hR.1, Nat.le_trans (Nat.le_of_ble_eq_true rfl) hR.2.1⟩ ⟨Nat.zero_le _, Nat.zero_le _⟩ rfl (Nat.le_of_ble_eq_true rfl) dX3_clear_49 [0] [iC cI aI hI dI (I_law_49, I_there_49, I_sleepers_49, I_empty_49, I_empties_49, I_yard_49, I_waiting_49, I_nights_49, I_used_49, I_sheets_49, I_lastOnes_49, I_guestsWithFleas_49, I_bedsWithFleas_49, I_isCounting_49)] 52 rfl (by decide) rfl rfl rfl [] rfl ?_
    obtain rfl := gq_lf hf
    exact hret dX3_clear_52 gPost.rf
  · replace hf := gq_ifn h23 hf
    refine gq_aload_n C 0 27 dX3_clear_26 rfl rfl ?_
    refine gq_get C fo_X3_7 fw_X3_18 0 0 30 rfl rfl rfl dX3_clear_27 rfl ?_
    refine gq_iconst C (nI 0) 31 dX3_clear_30 (by decide) rfl ?_
    refine gq_iald C 0 3 32 rfl rfl (by decide) dX3_clear_31 rfl ?_
    refine gq_istore_n C [(2, .int (I_yard (nI 0).toNatClampNeg)), (0, .ref (aI 0)), (1, .int x1)] 33 dX3_clear_32 (by decide) rfl rfl ?_
    refine gq_aload_n C 1 34 dX3_clear_33 rfl rfl ?_
    refine gq_iload_n C 0 35 dX3_clear_34 rfl rfl ?_
    obtain ⟨⟨I_law_35, I_there_35, I_sleepers_35, I_empty_35, I_empties_35, I_yard_35, I_waiting_35, I_nights_35, I_used_35, I_sheets_35, I_lastOnes_35, I_guestsWithFleas_35, I_bedsWithFleas_35, I_isCounting_35⟩, hc, hf⟩ := gq_bd hf
    refine gq_callV C hA gm_X3_126 (c_X3_leaveYard l D cI cZ aI hI dI (I_yard (nI 0).toNatClampNeg) (I_law, (I_there &&& (r_10 ^^^ (-1 : Int32))), I_sleepers, I_empty, I_empties, I_yard, I_waiting, I_nights, I_used, I_sheets, I_lastOnes, I_guestsWithFleas, I_bedsWithFleas, I_isCounting) _ hc) rfl 0 0 rfl rfl rfl ⟨Nat.le_trans (Nat.le_of_ble_eq_true rfl) hR.1, Nat.le_trans (Nat.le_of_ble_eq_true rfl) hR.2.1⟩ ⟨Nat.zero_le _, Nat.zero_le _⟩ rfl (Nat.le_of_ble_eq_true rfl) dX3_clear_35 [0] [iC cI aI hI dI (I_law_35, I_there_35, I_sleepers_35, I_empty_35, I_empties_35, I_yard_35, I_waiting_35, I_nights_35, I_used_35, I_sheets_35, I_lastOnes_35, I_guestsWithFleas_35, I_bedsWithFleas_35, I_isCounting_35)] 38 rfl (by decide) rfl rfl rfl [] rfl ?_
    refine gq_aload_n C 1 39 dX3_clear_38 rfl rfl ?_
    refine gq_iload_n C 2 40 dX3_clear_39 rfl rfl ?_
    refine gq_iload_n C 0 41 dX3_clear_40 rfl rfl ?_
    obtain ⟨⟨I_law_41, I_there_41, I_sleepers_41, I_empty_41, I_empties_41, I_yard_41, I_waiting_41, I_nights_41, I_used_41, I_sheets_41, I_lastOnes_41, I_guestsWithFleas_41, I_bedsWithFleas_41, I_isCounting_41⟩, hc, hf⟩ := gq_bd hf
    refine gq_callV C hA gm_X3_119 (c_X3_occupy l D cI cZ aI hI dI x1 (I_yard (nI 0).toNatClampNeg) (I_law_35, I_there_35, I_sleepers_35, I_empty_35, I_empties_35, I_yard_35, I_waiting_35, I_nights_35, I_used_35, I_sheets_35, I_lastOnes_35, I_guestsWithFleas_35, I_bedsWithFleas_35, I_isCounting_35) _ hc) rfl 0 0 rfl rfl rfl ⟨Nat.le_trans (Nat.le_of_ble_eq_true rfl) hR.1, Nat.le_trans (Nat.le_of_ble_eq_true rfl) hR.2.1⟩ ⟨Nat.zero_le _, Nat.zero_le _⟩ rfl (Nat.le_of_ble_eq_true rfl) dX3_clear_41 [0] [iC cI aI hI dI (I_law_41, I_there_41, I_sleepers_41, I_empty_41, I_empties_41, I_yard_41, I_waiting_41, I_nights_41, I_used_41, I_sheets_41, I_lastOnes_41, I_guestsWithFleas_41, I_bedsWithFleas_41, I_isCounting_41)] 44 rfl (by decide) rfl rfl rfl [] rfl ?_
    refine gq_goto C 52 dX3_clear_44 (by decide) ?_
    obtain rfl := gq_lf hf
    exact hret dX3_clear_52 gPost.rf

def f_X3_emptyLeastBed_L2 (c_I_law : Int32) (c_I_there : Int32) (c_I_sleepers : (Nat → Int32)) (c_I_empty : (Nat → Int32)) (c_I_empties : Int32) (c_I_yard : (Nat → Int32)) (c_I_waiting : Int32) (c_I_nights : (Nat → Int32)) (c_I_used : (Nat → Int32)) (c_I_sheets : (Nat → Int32)) (c_I_lastOnes : (Nat → Int32)) (c_I_guestsWithFleas : Int32) (c_I_bedsWithFleas : Int32) (c_I_isCounting : Int32) : Nat → Int32 → (Int32 → Option (InnS)) → Option (InnS)
  | 0, _, _ => none
  | nL2 + 1, x1_L2, kL2 => (if (nI 8) ≤ x1_L2 then kL2 x1_L2 else (if x1_L2 < 0 ∨ 8 ≤ x1_L2.toNatClampNeg then none else (if (c_I_sleepers x1_L2.toNatClampNeg) = (-1 : Int32) then f_X3_emptyLeastBed_L2 c_I_law c_I_there c_I_sleepers c_I_empty c_I_empties c_I_yard c_I_waiting c_I_nights c_I_used c_I_sheets c_I_lastOnes c_I_guestsWithFleas c_I_bedsWithFleas c_I_isCounting nL2 (x1_L2 + (nI 1)) kL2 else (Option.bind (f_X3_clear x1_L2 (c_I_law, c_I_there, c_I_sleepers, c_I_empty, c_I_empties, c_I_yard, c_I_waiting, c_I_nights, c_I_used, c_I_sheets, c_I_lastOnes, c_I_guestsWithFleas, c_I_bedsWithFleas, c_I_isCounting)) (fun (I_law_20, I_there_20, I_sleepers_20, I_empty_20, I_empties_20, I_yard_20, I_waiting_20, I_nights_20, I_used_20, I_sheets_20, I_lastOnes_20, I_guestsWithFleas_20, I_bedsWithFleas_20, I_isCounting_20) => some (I_law_20, I_there_20, I_sleepers_20, I_empty_20, I_empties_20, I_yard_20, I_waiting_20, I_nights_20, I_used_20, I_sheets_20, I_lastOnes_20, I_guestsWithFleas_20, I_bedsWithFleas_20, I_isCounting_20))))))
def f_X3_emptyLeastBed : InnS → Option (InnS)
  | (I_law, I_there, I_sleepers, I_empty, I_empties, I_yard, I_waiting, I_nights, I_used, I_sheets, I_lastOnes, I_guestsWithFleas, I_bedsWithFleas, I_isCounting) => f_X3_emptyLeastBed_L2 I_law I_there I_sleepers I_empty I_empties I_yard I_waiting I_nights I_used I_sheets I_lastOnes I_guestsWithFleas I_bedsWithFleas I_isCounting FU (nI 0) (fun x1_L2 => some (I_law, I_there, I_sleepers, I_empty, I_empties, I_yard, I_waiting, I_nights, I_used, I_sheets, I_lastOnes, I_guestsWithFleas, I_bedsWithFleas, I_isCounting))
set_option maxHeartbeats 4000000 in
set_option maxRecDepth 100000 in
theorem c_X3_emptyLeastBed (l : Launch) (D : va_G) (cI cZ : ClassId) (aI : Nat → Nat) (hI : Nat) (dI : Option Nat) (tI : InnS) (rr : InnS) (hf : f_X3_emptyLeastBed tI = some rr) : CT l D cI cZ yX3_emptyLeastBed cX3_emptyLeastBed 2 none 2 46 0 0 [.ref (aI 0)] ([iC cI aI hI dI tI]) (gPost none ([iC cI aI hI dI rr])) := by
  obtain ⟨I_law, I_there, I_sleepers, I_empty, I_empties, I_yard, I_waiting, I_nights, I_used, I_sheets, I_lastOnes, I_guestsWithFleas, I_bedsWithFleas, I_isCounting⟩ := tI
  rw [f_X3_emptyLeastBed] at hf
  refine CT.mkV (by decide) (Nat.le_of_ble_eq_true rfl) fun {p} {e} {R} {s} {m} {args} {below} {meth} {c} {A} {H0} {Q} C hA hR hnm hret => ?_
  show G p l e R s m args below meth c 2 D A H0 0 0 Q [iC cI aI hI dI (I_law, I_there, I_sleepers, I_empty, I_empties, I_yard, I_waiting, I_nights, I_used, I_sheets, I_lastOnes, I_guestsWithFleas, I_bedsWithFleas, I_isCounting)] 0 [(0, .ref (aI 0))] []
  refine gq_iconst C (nI 0) 1 dX3_emptyLeastBed_0 (by decide) rfl ?_
  refine gq_istore_n C [(1, .int (nI 0)), (0, .ref (aI 0))] 2 dX3_emptyLeastBed_1 (by decide) rfl rfl ?_
  have L2 : ∀ (kL : Int32 → Option (InnS)), (∀ (x1_L2 : Int32), kL x1_L2 = some rr → G p l e R s m args below meth c 2 D A H0 0 0 Q [iC cI aI hI dI (I_law, I_there, I_sleepers, I_empty, I_empties, I_yard, I_waiting, I_nights, I_used, I_sheets, I_lastOnes, I_guestsWithFleas, I_bedsWithFleas, I_isCounting)] 30 [(1, .int x1_L2), (0, .ref (aI 0))] []) → ∀ (n : Nat) (x1_L2 : Int32), f_X3_emptyLeastBed_L2 I_law I_there I_sleepers I_empty I_empties I_yard I_waiting I_nights I_used I_sheets I_lastOnes I_guestsWithFleas I_bedsWithFleas I_isCounting n x1_L2 kL = some rr → G p l e R s m args below meth c 2 D A H0 0 0 Q [iC cI aI hI dI (I_law, I_there, I_sleepers, I_empty, I_empties, I_yard, I_waiting, I_nights, I_used, I_sheets, I_lastOnes, I_guestsWithFleas, I_bedsWithFleas, I_isCounting)] 2 [(1, .int x1_L2), (0, .ref (aI 0))] [] := by
    intro kL hkL2 n
    induction n with
    | zero =>
      intro x1_L2 hf
      rw [f_X3_emptyLeastBed_L2] at hf
      cases hf
    | succ n ihL2 =>
      intro x1_L2 hf
      rw [f_X3_emptyLeastBed_L2] at hf
      refine gq_iload_n C 0 3 dX3_emptyLeastBed_2 rfl rfl ?_
      refine gq_bipush C (nI 8) 5 dX3_emptyLeastBed_3 (by decide) rfl ?_
      refine gq_icmp_ge C 30 8 dX3_emptyLeastBed_5 (by decide) rfl (fun h5 => ?_) (fun h5 => ?_)
      · replace hf := gq_ifp h5 hf
        exact hkL2 _ hf
      · replace hf := gq_ifn h5 hf
        refine gq_aload_n C 1 9 dX3_emptyLeastBed_8 rfl rfl ?_
        refine gq_get C fo_X3_4 fw_X3_9 0 0 12 rfl rfl rfl dX3_emptyLeastBed_9 rfl ?_
        refine gq_iload_n C 0 13 dX3_emptyLeastBed_12 rfl rfl ?_
        obtain ⟨h13, hf⟩ := gq_ok hf
        refine gq_iald C 0 1 14 rfl rfl h13 dX3_emptyLeastBed_13 rfl ?_
        refine gq_iconst C (-1 : Int32) 15 dX3_emptyLeastBed_14 (by decide) rfl ?_
        refine gq_icmp_eq C 24 18 dX3_emptyLeastBed_15 (by decide) rfl (fun h15 => ?_) (fun h15 => ?_)
        · replace hf := gq_ifp h15 hf
          refine gq_iinc C 0 [(1, .int (x1_L2 + (nI 1))), (0, .ref (aI 0))] 27 dX3_emptyLeastBed_24 rfl rfl (by decide) rfl rfl ?_
          refine gq_goto C 2 dX3_emptyLeastBed_27 (by decide) ?_
          exact ihL2 _ hf
        · replace hf := gq_ifn h15 hf
          refine gq_aload_n C 1 19 dX3_emptyLeastBed_18 rfl rfl ?_
          refine gq_iload_n C 0 20 dX3_emptyLeastBed_19 rfl rfl ?_
          obtain ⟨⟨I_law_20, I_there_20, I_sleepers_20, I_empty_20, I_empties_20, I_yard_20, I_waiting_20, I_nights_20, I_used_20, I_sheets_20, I_lastOnes_20, I_guestsWithFleas_20, I_bedsWithFleas_20, I_isCounting_20⟩, hc, hf⟩ := gq_bd hf
          refine gq_callV C hA gm_X3_129 (c_X3_clear l D cI cZ aI hI dI x1_L2 (I_law, I_there, I_sleepers, I_empty, I_empties, I_yard, I_waiting, I_nights, I_used, I_sheets, I_lastOnes, I_guestsWithFleas, I_bedsWithFleas, I_isCounting) _ hc) rfl 0 0 rfl rfl rfl ⟨Nat.le_trans (Nat.le_of_ble_eq_true rfl) hR.1, Nat.le_trans (Nat.le_of_ble_eq_true rfl) hR.2.1⟩ ⟨Nat.zero_le _, Nat.zero_le _⟩ rfl (Nat.le_of_ble_eq_true rfl) dX3_emptyLeastBed_20 [0] [iC cI aI hI dI (I_law_20, I_there_20, I_sleepers_20, I_empty_20, I_empties_20, I_yard_20, I_waiting_20, I_nights_20, I_used_20, I_sheets_20, I_lastOnes_20, I_guestsWithFleas_20, I_bedsWithFleas_20, I_isCounting_20)] 23 rfl (by decide) rfl rfl rfl [] rfl ?_
          obtain rfl := gq_lf hf
          exact hret dX3_emptyLeastBed_23 gPost.rf
  refine L2 _ (fun x1_L2 hf => ?_) _ _ hf
  obtain rfl := gq_lf hf
  exact hret dX3_emptyLeastBed_30 gPost.rf

def f_X3_letGo : Int32 → InnS → Option (InnS)
  | x1, (I_law, I_there, I_sleepers, I_empty, I_empties, I_yard, I_waiting, I_nights, I_used, I_sheets, I_lastOnes, I_guestsWithFleas, I_bedsWithFleas, I_isCounting) => (Option.bind (f_X3_bedOf x1 (I_law, I_there, I_sleepers, I_empty, I_empties, I_yard, I_waiting, I_nights, I_used, I_sheets, I_lastOnes, I_guestsWithFleas, I_bedsWithFleas, I_isCounting)) (fun r_2 => (if r_2 = (-1 : Int32) then (Option.bind (f_X3_bitOf x1) (fun r_17 => (Option.bind (f_X3_leaveYard x1 (I_law, (I_there &&& (r_17 ^^^ (-1 : Int32))), I_sleepers, I_empty, I_empties, I_yard, I_waiting, I_nights, I_used, I_sheets, I_lastOnes, I_guestsWithFleas, I_bedsWithFleas, I_isCounting)) (fun (I_law_28, I_there_28, I_sleepers_28, I_empty_28, I_empties_28, I_yard_28, I_waiting_28, I_nights_28, I_used_28, I_sheets_28, I_lastOnes_28, I_guestsWithFleas_28, I_bedsWithFleas_28, I_isCounting_28) => some (I_law_28, I_there_28, I_sleepers_28, I_empty_28, I_empties_28, I_yard_28, I_waiting_28, I_nights_28, I_used_28, I_sheets_28, I_lastOnes_28, I_guestsWithFleas_28, I_bedsWithFleas_28, I_isCounting_28))))) else (Option.bind (f_X3_clear r_2 (I_law, I_there, I_sleepers, I_empty, I_empties, I_yard, I_waiting, I_nights, I_used, I_sheets, I_lastOnes, I_guestsWithFleas, I_bedsWithFleas, I_isCounting)) (fun (I_law_36, I_there_36, I_sleepers_36, I_empty_36, I_empties_36, I_yard_36, I_waiting_36, I_nights_36, I_used_36, I_sheets_36, I_lastOnes_36, I_guestsWithFleas_36, I_bedsWithFleas_36, I_isCounting_36) => some (I_law_36, I_there_36, I_sleepers_36, I_empty_36, I_empties_36, I_yard_36, I_waiting_36, I_nights_36, I_used_36, I_sheets_36, I_lastOnes_36, I_guestsWithFleas_36, I_bedsWithFleas_36, I_isCounting_36))))))
set_option maxHeartbeats 4000000 in
set_option maxRecDepth 100000 in
theorem c_X3_letGo (l : Launch) (D : va_G) (cI cZ : ClassId) (aI : Nat → Nat) (hI : Nat) (dI : Option Nat) (x1 : Int32) (tI : InnS) (rr : InnS) (hf : f_X3_letGo x1 tI = some rr) : CT l D cI cZ yX3_letGo cX3_letGo 3 none 2 46 0 0 [.ref (aI 0), .int x1] ([iC cI aI hI dI tI]) (gPost none ([iC cI aI hI dI rr])) := by
  obtain ⟨I_law, I_there, I_sleepers, I_empty, I_empties, I_yard, I_waiting, I_nights, I_used, I_sheets, I_lastOnes, I_guestsWithFleas, I_bedsWithFleas, I_isCounting⟩ := tI
  rw [f_X3_letGo] at hf
  refine CT.mkV (by decide) (Nat.le_of_ble_eq_true rfl) fun {p} {e} {R} {s} {m} {args} {below} {meth} {c} {A} {H0} {Q} C hA hR hnm hret => ?_
  show G p l e R s m args below meth c 3 D A H0 0 0 Q [iC cI aI hI dI (I_law, I_there, I_sleepers, I_empty, I_empties, I_yard, I_waiting, I_nights, I_used, I_sheets, I_lastOnes, I_guestsWithFleas, I_bedsWithFleas, I_isCounting)] 0 [(0, .ref (aI 0)), (1, .int x1)] []
  refine gq_aload_n C 0 1 dX3_letGo_0 rfl rfl ?_
  refine gq_iload_n C 1 2 dX3_letGo_1 rfl rfl ?_
  obtain ⟨r_2, hc, hf⟩ := gq_bd hf
  refine gq_callV C hA gm_X3_123 (c_X3_bedOf l D cI cZ aI hI dI x1 (I_law, I_there, I_sleepers, I_empty, I_empties, I_yard, I_waiting, I_nights, I_used, I_sheets, I_lastOnes, I_guestsWithFleas, I_bedsWithFleas, I_isCounting) _ hc) rfl 0 0 rfl rfl rfl ⟨Nat.le_trans (Nat.le_of_ble_eq_true rfl) hR.1, Nat.le_trans (Nat.le_of_ble_eq_true rfl) hR.2.1⟩ ⟨Nat.zero_le _, Nat.zero_le _⟩ rfl (Nat.le_of_ble_eq_true rfl) dX3_letGo_2 [0] [iC cI aI hI dI (I_law, I_there, I_sleepers, I_empty, I_empties, I_yard, I_waiting, I_nights, I_used, I_sheets, I_lastOnes, I_guestsWithFleas, I_bedsWithFleas, I_isCounting)] 5 rfl (by decide) rfl rfl rfl [.int r_2] rfl ?_
  refine gq_istore_n C [(2, .int r_2), (0, .ref (aI 0)), (1, .int x1)] 6 dX3_letGo_5 (by decide) rfl rfl ?_
  refine gq_iload_n C 0 7 dX3_letGo_6 rfl rfl ?_
  refine gq_iconst C (-1 : Int32) 8 dX3_letGo_7 (by decide) rfl ?_
  refine gq_icmp_ne C 34 11 dX3_letGo_8 (by decide) rfl (fun h8 => ?_) (fun h8 => ?_)
  · replace hf := gq_ifn h8 hf
    refine gq_aload_n C 1 35 dX3_letGo_34 rfl rfl ?_
    refine gq_iload_n C 0 36 dX3_letGo_35 rfl rfl ?_
    obtain ⟨⟨I_law_36, I_there_36, I_sleepers_36, I_empty_36, I_empties_36, I_yard_36, I_waiting_36, I_nights_36, I_used_36, I_sheets_36, I_lastOnes_36, I_guestsWithFleas_36, I_bedsWithFleas_36, I_isCounting_36⟩, hc, hf⟩ := gq_bd hf
    refine gq_callV C hA gm_X3_129 (c_X3_clear l D cI cZ aI hI dI r_2 (I_law, I_there, I_sleepers, I_empty, I_empties, I_yard, I_waiting, I_nights, I_used, I_sheets, I_lastOnes, I_guestsWithFleas, I_bedsWithFleas, I_isCounting) _ hc) rfl 0 0 rfl rfl rfl ⟨Nat.le_trans (Nat.le_of_ble_eq_true rfl) hR.1, Nat.le_trans (Nat.le_of_ble_eq_true rfl) hR.2.1⟩ ⟨Nat.zero_le _, Nat.zero_le _⟩ rfl (Nat.le_of_ble_eq_true rfl) dX3_letGo_36 [0] [iC cI aI hI dI (I_law_36, I_there_36, I_sleepers_36, I_empty_36, I_empties_36, I_yard_36, I_waiting_36, I_nights_36, I_used_36, I_sheets_36, I_lastOnes_36, I_guestsWithFleas_36, I_bedsWithFleas_36, I_isCounting_36)] 39 rfl (by decide) rfl rfl rfl [] rfl ?_
    obtain rfl := gq_lf hf
    exact hret dX3_letGo_39 gPost.rf
  · replace hf := gq_ifp h8 hf
    refine gq_aload_n C 1 12 dX3_letGo_11 rfl rfl ?_
    refine gq_dup C 13 dX3_letGo_12 rfl rfl ?_
    refine gq_get C fo_X3_3 fw_X3_45 0 0 16 rfl rfl rfl dX3_letGo_13 rfl ?_
    refine gq_iload_n C 2 17 dX3_letGo_16 rfl rfl ?_
    obtain ⟨r_17, hc, hf⟩ := gq_bd hf
    refine gq_callS C hA gm_X3_107 (c_X3_bitOf l D cI cZ  x1 _ hc) rfl ⟨Nat.le_trans (Nat.le_of_ble_eq_true rfl) hR.1, Nat.le_trans (Nat.le_of_ble_eq_true rfl) hR.2.1⟩ ⟨Nat.zero_le _, Nat.zero_le _⟩ rfl (Nat.le_of_ble_eq_true rfl) dX3_letGo_17 [] [iC cI aI hI dI (I_law, I_there, I_sleepers, I_empty, I_empties, I_yard, I_waiting, I_nights, I_used, I_sheets, I_lastOnes, I_guestsWithFleas, I_bedsWithFleas, I_isCounting)] 20 rfl (by decide) rfl rfl rfl [.int r_17, .int I_there, .ref (aI 0)] rfl ?_
    refine gq_iconst C (-1 : Int32) 21 dX3_letGo_20 (by decide) rfl ?_
    refine gq_ixor C 22 dX3_letGo_21 rfl ?_
    refine gq_iand C 23 dX3_letGo_22 rfl ?_
    refine gq_put C fo_X3_3 fp_X3_3 rfl fw_X3_45 0 0 26 [iC cI aI hI dI (I_law, (I_there &&& (r_17 ^^^ (-1 : Int32))), I_sleepers, I_empty, I_empties, I_yard, I_waiting, I_nights, I_used, I_sheets, I_lastOnes, I_guestsWithFleas, I_bedsWithFleas, I_isCounting)] rfl rfl rfl rfl (Nat.le_of_ble_eq_true rfl) rfl dX3_letGo_23 rfl ?_
    refine gq_aload_n C 1 27 dX3_letGo_26 rfl rfl ?_
    refine gq_iload_n C 2 28 dX3_letGo_27 rfl rfl ?_
    obtain ⟨⟨I_law_28, I_there_28, I_sleepers_28, I_empty_28, I_empties_28, I_yard_28, I_waiting_28, I_nights_28, I_used_28, I_sheets_28, I_lastOnes_28, I_guestsWithFleas_28, I_bedsWithFleas_28, I_isCounting_28⟩, hc, hf⟩ := gq_bd hf
    refine gq_callV C hA gm_X3_126 (c_X3_leaveYard l D cI cZ aI hI dI x1 (I_law, (I_there &&& (r_17 ^^^ (-1 : Int32))), I_sleepers, I_empty, I_empties, I_yard, I_waiting, I_nights, I_used, I_sheets, I_lastOnes, I_guestsWithFleas, I_bedsWithFleas, I_isCounting) _ hc) rfl 0 0 rfl rfl rfl ⟨Nat.le_trans (Nat.le_of_ble_eq_true rfl) hR.1, Nat.le_trans (Nat.le_of_ble_eq_true rfl) hR.2.1⟩ ⟨Nat.zero_le _, Nat.zero_le _⟩ rfl (Nat.le_of_ble_eq_true rfl) dX3_letGo_28 [0] [iC cI aI hI dI (I_law_28, I_there_28, I_sleepers_28, I_empty_28, I_empties_28, I_yard_28, I_waiting_28, I_nights_28, I_used_28, I_sheets_28, I_lastOnes_28, I_guestsWithFleas_28, I_bedsWithFleas_28, I_isCounting_28)] 31 rfl (by decide) rfl rfl rfl [] rfl ?_
    refine gq_goto C 39 dX3_letGo_31 (by decide) ?_
    obtain rfl := gq_lf hf
    exact hret dX3_letGo_39 gPost.rf

def f_X3_takeIn : Int32 → HouS → InnS → Option (InnS)
  | x1, (H_beds, H_law, H_sights, H_isKept, H_worths, H_sightGuests, H_sightBeds), (I_law, I_there, I_sleepers, I_empty, I_empties, I_yard, I_waiting, I_nights, I_used, I_sheets, I_lastOnes, I_guestsWithFleas, I_bedsWithFleas, I_isCounting) => (Option.bind (f_X3_bitOf x1) (fun r_6 => (Option.bind (f_X3_choice x1 (H_beds, H_law, H_sights, H_isKept, H_worths, H_sightGuests, H_sightBeds) (I_law, (I_there ||| r_6), I_sleepers, I_empty, I_empties, I_yard, I_waiting, I_nights, I_used, I_sheets, I_lastOnes, I_guestsWithFleas, I_bedsWithFleas, I_isCounting)) (fun r_15 => (if r_15 = (-1 : Int32) then (Option.bind (f_X3_waitInYard x1 (I_law, (I_there ||| r_6), I_sleepers, I_empty, I_empties, I_yard, I_waiting, I_nights, I_used, I_sheets, I_lastOnes, I_guestsWithFleas, I_bedsWithFleas, I_isCounting)) (fun (I_law_26, I_there_26, I_sleepers_26, I_empty_26, I_empties_26, I_yard_26, I_waiting_26, I_nights_26, I_used_26, I_sheets_26, I_lastOnes_26, I_guestsWithFleas_26, I_bedsWithFleas_26, I_isCounting_26) => some (I_law_26, I_there_26, I_sleepers_26, I_empty_26, I_empties_26, I_yard_26, I_waiting_26, I_nights_26, I_used_26, I_sheets_26, I_lastOnes_26, I_guestsWithFleas_26, I_bedsWithFleas_26, I_isCounting_26))) else (Option.bind (f_X3_takeFromEmpty r_15 (I_law, (I_there ||| r_6), I_sleepers, I_empty, I_empties, I_yard, I_waiting, I_nights, I_used, I_sheets, I_lastOnes, I_guestsWithFleas, I_bedsWithFleas, I_isCounting)) (fun (r_35, (I_law_35, I_there_35, I_sleepers_35, I_empty_35, I_empties_35, I_yard_35, I_waiting_35, I_nights_35, I_used_35, I_sheets_35, I_lastOnes_35, I_guestsWithFleas_35, I_bedsWithFleas_35, I_isCounting_35)) => (Option.bind (f_X3_occupy r_35 x1 (I_law_35, I_there_35, I_sleepers_35, I_empty_35, I_empties_35, I_yard_35, I_waiting_35, I_nights_35, I_used_35, I_sheets_35, I_lastOnes_35, I_guestsWithFleas_35, I_bedsWithFleas_35, I_isCounting_35)) (fun (I_law_39, I_there_39, I_sleepers_39, I_empty_39, I_empties_39, I_yard_39, I_waiting_39, I_nights_39, I_used_39, I_sheets_39, I_lastOnes_39, I_guestsWithFleas_39, I_bedsWithFleas_39, I_isCounting_39) => some (I_law_39, I_there_39, I_sleepers_39, I_empty_39, I_empties_39, I_yard_39, I_waiting_39, I_nights_39, I_used_39, I_sheets_39, I_lastOnes_39, I_guestsWithFleas_39, I_bedsWithFleas_39, I_isCounting_39))))))))))
set_option maxHeartbeats 4000000 in
set_option maxRecDepth 100000 in
theorem c_X3_takeIn (l : Launch) (D : va_G) (cI cZ : ClassId) (aH : Nat → Nat) (aI : Nat → Nat) (dI : Option Nat) (x1 : Int32) (tH : HouS) (tI : InnS) (rr : InnS) (hf : f_X3_takeIn x1 tH tI = some rr) : CT l D cI cZ yX3_takeIn cX3_takeIn 3 none 3 66 0 0 [.ref (aI 0), .int x1] ([hC cI aH tH, iC cI aI (aH 0) dI tI]) (gPost none ([hC cI aH tH, iC cI aI (aH 0) dI rr])) := by
  obtain ⟨H_beds, H_law, H_sights, H_isKept, H_worths, H_sightGuests, H_sightBeds⟩ := tH
  obtain ⟨I_law, I_there, I_sleepers, I_empty, I_empties, I_yard, I_waiting, I_nights, I_used, I_sheets, I_lastOnes, I_guestsWithFleas, I_bedsWithFleas, I_isCounting⟩ := tI
  rw [f_X3_takeIn] at hf
  refine CT.mkV (by decide) (Nat.le_of_ble_eq_true rfl) fun {p} {e} {R} {s} {m} {args} {below} {meth} {c} {A} {H0} {Q} C hA hR hnm hret => ?_
  show G p l e R s m args below meth c 3 D A H0 0 0 Q [hC cI aH (H_beds, H_law, H_sights, H_isKept, H_worths, H_sightGuests, H_sightBeds), iC cI aI (aH 0) dI (I_law, I_there, I_sleepers, I_empty, I_empties, I_yard, I_waiting, I_nights, I_used, I_sheets, I_lastOnes, I_guestsWithFleas, I_bedsWithFleas, I_isCounting)] 0 [(0, .ref (aI 0)), (1, .int x1)] []
  refine gq_aload_n C 0 1 dX3_takeIn_0 rfl rfl ?_
  refine gq_dup C 2 dX3_takeIn_1 rfl rfl ?_
  refine gq_get C fo_X3_3 fw_X3_45 1 0 5 rfl rfl rfl dX3_takeIn_2 rfl ?_
  refine gq_iload_n C 1 6 dX3_takeIn_5 rfl rfl ?_
  obtain ⟨r_6, hc, hf⟩ := gq_bd hf
  refine gq_callS C hA gm_X3_107 (c_X3_bitOf l D cI cZ  x1 _ hc) rfl ⟨Nat.le_trans (Nat.le_of_ble_eq_true rfl) hR.1, Nat.le_trans (Nat.le_of_ble_eq_true rfl) hR.2.1⟩ ⟨Nat.zero_le _, Nat.zero_le _⟩ rfl (Nat.le_of_ble_eq_true rfl) dX3_takeIn_6 [] [hC cI aH (H_beds, H_law, H_sights, H_isKept, H_worths, H_sightGuests, H_sightBeds), iC cI aI (aH 0) dI (I_law, I_there, I_sleepers, I_empty, I_empties, I_yard, I_waiting, I_nights, I_used, I_sheets, I_lastOnes, I_guestsWithFleas, I_bedsWithFleas, I_isCounting)] 9 rfl (by decide) rfl rfl rfl [.int r_6, .int I_there, .ref (aI 0)] rfl ?_
  refine gq_ior C 10 dX3_takeIn_9 rfl ?_
  refine gq_put C fo_X3_3 fp_X3_3 rfl fw_X3_45 1 0 13 [hC cI aH (H_beds, H_law, H_sights, H_isKept, H_worths, H_sightGuests, H_sightBeds), iC cI aI (aH 0) dI (I_law, (I_there ||| r_6), I_sleepers, I_empty, I_empties, I_yard, I_waiting, I_nights, I_used, I_sheets, I_lastOnes, I_guestsWithFleas, I_bedsWithFleas, I_isCounting)] rfl rfl rfl rfl (Nat.le_of_ble_eq_true rfl) rfl dX3_takeIn_10 rfl ?_
  refine gq_aload_n C 0 14 dX3_takeIn_13 rfl rfl ?_
  refine gq_iload_n C 1 15 dX3_takeIn_14 rfl rfl ?_
  obtain ⟨r_15, hc, hf⟩ := gq_bd hf
  refine gq_callV C hA gm_X3_110 (c_X3_choice l D cI cZ aH aI dI x1 (H_beds, H_law, H_sights, H_isKept, H_worths, H_sightGuests, H_sightBeds) (I_law, (I_there ||| r_6), I_sleepers, I_empty, I_empties, I_yard, I_waiting, I_nights, I_used, I_sheets, I_lastOnes, I_guestsWithFleas, I_bedsWithFleas, I_isCounting) _ hc) rfl 1 0 rfl rfl rfl ⟨Nat.le_trans (Nat.le_of_ble_eq_true rfl) hR.1, Nat.le_trans (Nat.le_of_ble_eq_true rfl) hR.2.1⟩ ⟨Nat.zero_le _, Nat.zero_le _⟩ rfl (Nat.le_of_ble_eq_true rfl) dX3_takeIn_15 [0, 1] [hC cI aH (H_beds, H_law, H_sights, H_isKept, H_worths, H_sightGuests, H_sightBeds), iC cI aI (aH 0) dI (I_law, (I_there ||| r_6), I_sleepers, I_empty, I_empties, I_yard, I_waiting, I_nights, I_used, I_sheets, I_lastOnes, I_guestsWithFleas, I_bedsWithFleas, I_isCounting)] 18 rfl (by decide) rfl rfl rfl [.int r_15] rfl ?_
  refine gq_istore_n C [(2, .int r_15), (0, .ref (aI 0)), (1, .int x1)] 19 dX3_takeIn_18 (by decide) rfl rfl ?_
  refine gq_iload_n C 0 20 dX3_takeIn_19 rfl rfl ?_
  refine gq_iconst C (-1 : Int32) 21 dX3_takeIn_20 (by decide) rfl ?_
  refine gq_icmp_ne C 32 24 dX3_takeIn_21 (by decide) rfl (fun h21 => ?_) (fun h21 => ?_)
  · replace hf := gq_ifn h21 hf
    refine gq_aload_n C 1 33 dX3_takeIn_32 rfl rfl ?_
    refine gq_aload_n C 1 34 dX3_takeIn_33 rfl rfl ?_
    refine gq_iload_n C 0 35 dX3_takeIn_34 rfl rfl ?_
    obtain ⟨⟨r_35, ⟨I_law_35, I_there_35, I_sleepers_35, I_empty_35, I_empties_35, I_yard_35, I_waiting_35, I_nights_35, I_used_35, I_sheets_35, I_lastOnes_35, I_guestsWithFleas_35, I_bedsWithFleas_35, I_isCounting_35⟩⟩, hc, hf⟩ := gq_bd hf
    refine gq_callV C hA gm_X3_116 (c_X3_takeFromEmpty l D cI cZ aI (aH 0) dI r_15 (I_law, (I_there ||| r_6), I_sleepers, I_empty, I_empties, I_yard, I_waiting, I_nights, I_used, I_sheets, I_lastOnes, I_guestsWithFleas, I_bedsWithFleas, I_isCounting) _ hc) rfl 1 0 rfl rfl rfl ⟨Nat.le_trans (Nat.le_of_ble_eq_true rfl) hR.1, Nat.le_trans (Nat.le_of_ble_eq_true rfl) hR.2.1⟩ ⟨Nat.zero_le _, Nat.zero_le _⟩ rfl (Nat.le_of_ble_eq_true rfl) dX3_takeIn_35 [1] [hC cI aH (H_beds, H_law, H_sights, H_isKept, H_worths, H_sightGuests, H_sightBeds), iC cI aI (aH 0) dI (I_law_35, I_there_35, I_sleepers_35, I_empty_35, I_empties_35, I_yard_35, I_waiting_35, I_nights_35, I_used_35, I_sheets_35, I_lastOnes_35, I_guestsWithFleas_35, I_bedsWithFleas_35, I_isCounting_35)] 38 rfl (by decide) rfl rfl rfl [.int r_35, .ref (aI 0)] rfl ?_
    refine gq_iload_n C 2 39 dX3_takeIn_38 rfl rfl ?_
    obtain ⟨⟨I_law_39, I_there_39, I_sleepers_39, I_empty_39, I_empties_39, I_yard_39, I_waiting_39, I_nights_39, I_used_39, I_sheets_39, I_lastOnes_39, I_guestsWithFleas_39, I_bedsWithFleas_39, I_isCounting_39⟩, hc, hf⟩ := gq_bd hf
    refine gq_callV C hA gm_X3_119 (c_X3_occupy l D cI cZ aI (aH 0) dI r_35 x1 (I_law_35, I_there_35, I_sleepers_35, I_empty_35, I_empties_35, I_yard_35, I_waiting_35, I_nights_35, I_used_35, I_sheets_35, I_lastOnes_35, I_guestsWithFleas_35, I_bedsWithFleas_35, I_isCounting_35) _ hc) rfl 1 0 rfl rfl rfl ⟨Nat.le_trans (Nat.le_of_ble_eq_true rfl) hR.1, Nat.le_trans (Nat.le_of_ble_eq_true rfl) hR.2.1⟩ ⟨Nat.zero_le _, Nat.zero_le _⟩ rfl (Nat.le_of_ble_eq_true rfl) dX3_takeIn_39 [1] [hC cI aH (H_beds, H_law, H_sights, H_isKept, H_worths, H_sightGuests, H_sightBeds), iC cI aI (aH 0) dI (I_law_39, I_there_39, I_sleepers_39, I_empty_39, I_empties_39, I_yard_39, I_waiting_39, I_nights_39, I_used_39, I_sheets_39, I_lastOnes_39, I_guestsWithFleas_39, I_bedsWithFleas_39, I_isCounting_39)] 42 rfl (by decide) rfl rfl rfl [] rfl ?_
    obtain rfl := gq_lf hf
    exact hret dX3_takeIn_42 gPost.rf
  · replace hf := gq_ifp h21 hf
    refine gq_aload_n C 1 25 dX3_takeIn_24 rfl rfl ?_
    refine gq_iload_n C 2 26 dX3_takeIn_25 rfl rfl ?_
    obtain ⟨⟨I_law_26, I_there_26, I_sleepers_26, I_empty_26, I_empties_26, I_yard_26, I_waiting_26, I_nights_26, I_used_26, I_sheets_26, I_lastOnes_26, I_guestsWithFleas_26, I_bedsWithFleas_26, I_isCounting_26⟩, hc, hf⟩ := gq_bd hf
    refine gq_callV C hA gm_X3_113 (c_X3_waitInYard l D cI cZ aI (aH 0) dI x1 (I_law, (I_there ||| r_6), I_sleepers, I_empty, I_empties, I_yard, I_waiting, I_nights, I_used, I_sheets, I_lastOnes, I_guestsWithFleas, I_bedsWithFleas, I_isCounting) _ hc) rfl 1 0 rfl rfl rfl ⟨Nat.le_trans (Nat.le_of_ble_eq_true rfl) hR.1, Nat.le_trans (Nat.le_of_ble_eq_true rfl) hR.2.1⟩ ⟨Nat.zero_le _, Nat.zero_le _⟩ rfl (Nat.le_of_ble_eq_true rfl) dX3_takeIn_26 [1] [hC cI aH (H_beds, H_law, H_sights, H_isKept, H_worths, H_sightGuests, H_sightBeds), iC cI aI (aH 0) dI (I_law_26, I_there_26, I_sleepers_26, I_empty_26, I_empties_26, I_yard_26, I_waiting_26, I_nights_26, I_used_26, I_sheets_26, I_lastOnes_26, I_guestsWithFleas_26, I_bedsWithFleas_26, I_isCounting_26)] 29 rfl (by decide) rfl rfl rfl [] rfl ?_
    refine gq_goto C 42 dX3_takeIn_29 (by decide) ?_
    obtain rfl := gq_lf hf
    exact hret dX3_takeIn_42 gPost.rf

def f_X3_whyNot : Int32 → InnS → Option (Int32)
  | x1, (I_law, I_there, I_sleepers, I_empty, I_empties, I_yard, I_waiting, I_nights, I_used, I_sheets, I_lastOnes, I_guestsWithFleas, I_bedsWithFleas, I_isCounting) => (Option.bind (f_X0_isComing x1) (fun r_1 => (if r_1 = 0 then (Option.bind (f_X0_isGoing x1) (fun r_21 => (if r_21 = 0 then some (nI 0) else (Option.bind (f_X3_isThere (x1 - (nI 97)) (I_law, I_there, I_sleepers, I_empty, I_empties, I_yard, I_waiting, I_nights, I_used, I_sheets, I_lastOnes, I_guestsWithFleas, I_bedsWithFleas, I_isCounting)) (fun r_32 => (if r_32 = 0 then some (nI 2) else some (nI 0))))))) else (Option.bind (f_X3_isThere (x1 - (nI 65)) (I_law, I_there, I_sleepers, I_empty, I_empties, I_yard, I_waiting, I_nights, I_used, I_sheets, I_lastOnes, I_guestsWithFleas, I_bedsWithFleas, I_isCounting)) (fun r_12 => (if r_12 = 0 then (Option.bind (f_X0_isGoing x1) (fun r_21 => (if r_21 = 0 then some (nI 0) else (Option.bind (f_X3_isThere (x1 - (nI 97)) (I_law, I_there, I_sleepers, I_empty, I_empties, I_yard, I_waiting, I_nights, I_used, I_sheets, I_lastOnes, I_guestsWithFleas, I_bedsWithFleas, I_isCounting)) (fun r_32 => (if r_32 = 0 then some (nI 2) else some (nI 0))))))) else some (nI 1)))))))
set_option maxHeartbeats 4000000 in
set_option maxRecDepth 100000 in
theorem c_X3_whyNot (l : Launch) (D : va_G) (cI cZ : ClassId) (aI : Nat → Nat) (hI : Nat) (dI : Option Nat) (x1 : Int32) (tI : InnS) (rr : Int32) (hf : f_X3_whyNot x1 tI = some rr) : CT l D cI cZ yX3_whyNot cX3_whyNot 2 (some .int) 2 41 0 0 [.ref (aI 0), .int x1] ([iC cI aI hI dI tI]) (gPost (some (.int rr)) ([iC cI aI hI dI tI])) := by
  obtain ⟨I_law, I_there, I_sleepers, I_empty, I_empties, I_yard, I_waiting, I_nights, I_used, I_sheets, I_lastOnes, I_guestsWithFleas, I_bedsWithFleas, I_isCounting⟩ := tI
  rw [f_X3_whyNot] at hf
  refine CT.mkI (by decide) (Nat.le_of_ble_eq_true rfl) fun {p} {e} {R} {s} {m} {args} {below} {meth} {c} {A} {H0} {Q} C hA hR hret => ?_
  show G p l e R s m args below meth c 2 D A H0 0 0 Q [iC cI aI hI dI (I_law, I_there, I_sleepers, I_empty, I_empties, I_yard, I_waiting, I_nights, I_used, I_sheets, I_lastOnes, I_guestsWithFleas, I_bedsWithFleas, I_isCounting)] 0 [(0, .ref (aI 0)), (1, .int x1)] []
  refine gq_iload_n C 1 1 dX3_whyNot_0 rfl rfl ?_
  obtain ⟨r_1, hc, hf⟩ := gq_bd hf
  refine gq_callT C hA gm_X3_88 (c_X0_isComing l D cI cZ  x1 _ hc) rfl ⟨Nat.le_trans (Nat.le_of_ble_eq_true rfl) hR.1, Nat.le_trans (Nat.le_of_ble_eq_true rfl) hR.2.1⟩ ⟨Nat.zero_le _, Nat.zero_le _⟩ rfl (Nat.le_of_ble_eq_true rfl) dX3_whyNot_1 [] [iC cI aI hI dI (I_law, I_there, I_sleepers, I_empty, I_empties, I_yard, I_waiting, I_nights, I_used, I_sheets, I_lastOnes, I_guestsWithFleas, I_bedsWithFleas, I_isCounting)] 4 rfl (by decide) rfl rfl rfl [.int r_1] rfl ?_
  refine gq_if_eq C 20 7 dX3_whyNot_4 (by decide) rfl (fun h4 => ?_) (fun h4 => ?_)
  · replace hf := gq_ifp h4 hf
    refine gq_iload_n C 1 21 dX3_whyNot_20 rfl rfl ?_
    obtain ⟨r_21, hc, hf⟩ := gq_bd hf
    refine gq_callT C hA gm_X3_95 (c_X0_isGoing l D cI cZ  x1 _ hc) rfl ⟨Nat.le_trans (Nat.le_of_ble_eq_true rfl) hR.1, Nat.le_trans (Nat.le_of_ble_eq_true rfl) hR.2.1⟩ ⟨Nat.zero_le _, Nat.zero_le _⟩ rfl (Nat.le_of_ble_eq_true rfl) dX3_whyNot_21 [] [iC cI aI hI dI (I_law, I_there, I_sleepers, I_empty, I_empties, I_yard, I_waiting, I_nights, I_used, I_sheets, I_lastOnes, I_guestsWithFleas, I_bedsWithFleas, I_isCounting)] 24 rfl (by decide) rfl rfl rfl [.int r_21] rfl ?_
    refine gq_if_eq C 40 27 dX3_whyNot_24 (by decide) rfl (fun h24 => ?_) (fun h24 => ?_)
    · replace hf := gq_ifp h24 hf
      refine gq_iconst C (nI 0) 41 dX3_whyNot_40 (by decide) rfl ?_
      obtain rfl := gq_lf hf
      exact hret dX3_whyNot_41 gPost.rf
    · replace hf := gq_ifn h24 hf
      refine gq_aload_n C 0 28 dX3_whyNot_27 rfl rfl ?_
      refine gq_iload_n C 1 29 dX3_whyNot_28 rfl rfl ?_
      refine gq_bipush C (nI 97) 31 dX3_whyNot_29 (by decide) rfl ?_
      refine gq_isub C 32 dX3_whyNot_31 rfl ?_
      obtain ⟨r_32, hc, hf⟩ := gq_bd hf
      refine gq_callV C hA gm_X3_104 (c_X3_isThere l D cI cZ aI hI dI (x1 - (nI 97)) (I_law, I_there, I_sleepers, I_empty, I_empties, I_yard, I_waiting, I_nights, I_used, I_sheets, I_lastOnes, I_guestsWithFleas, I_bedsWithFleas, I_isCounting) _ hc) rfl 0 0 rfl rfl rfl ⟨Nat.le_trans (Nat.le_of_ble_eq_true rfl) hR.1, Nat.le_trans (Nat.le_of_ble_eq_true rfl) hR.2.1⟩ ⟨Nat.zero_le _, Nat.zero_le _⟩ rfl (Nat.le_of_ble_eq_true rfl) dX3_whyNot_32 [0] [iC cI aI hI dI (I_law, I_there, I_sleepers, I_empty, I_empties, I_yard, I_waiting, I_nights, I_used, I_sheets, I_lastOnes, I_guestsWithFleas, I_bedsWithFleas, I_isCounting)] 35 rfl (by decide) rfl rfl rfl [.int r_32] rfl ?_
      refine gq_if_ne C 40 38 dX3_whyNot_35 (by decide) rfl (fun h35 => ?_) (fun h35 => ?_)
      · replace hf := gq_ifn h35 hf
        refine gq_iconst C (nI 0) 41 dX3_whyNot_40 (by decide) rfl ?_
        obtain rfl := gq_lf hf
        exact hret dX3_whyNot_41 gPost.rf
      · replace hf := gq_ifp h35 hf
        refine gq_iconst C (nI 2) 39 dX3_whyNot_38 (by decide) rfl ?_
        obtain rfl := gq_lf hf
        exact hret dX3_whyNot_39 gPost.rf
  · replace hf := gq_ifn h4 hf
    refine gq_aload_n C 0 8 dX3_whyNot_7 rfl rfl ?_
    refine gq_iload_n C 1 9 dX3_whyNot_8 rfl rfl ?_
    refine gq_bipush C (nI 65) 11 dX3_whyNot_9 (by decide) rfl ?_
    refine gq_isub C 12 dX3_whyNot_11 rfl ?_
    obtain ⟨r_12, hc, hf⟩ := gq_bd hf
    refine gq_callV C hA gm_X3_104 (c_X3_isThere l D cI cZ aI hI dI (x1 - (nI 65)) (I_law, I_there, I_sleepers, I_empty, I_empties, I_yard, I_waiting, I_nights, I_used, I_sheets, I_lastOnes, I_guestsWithFleas, I_bedsWithFleas, I_isCounting) _ hc) rfl 0 0 rfl rfl rfl ⟨Nat.le_trans (Nat.le_of_ble_eq_true rfl) hR.1, Nat.le_trans (Nat.le_of_ble_eq_true rfl) hR.2.1⟩ ⟨Nat.zero_le _, Nat.zero_le _⟩ rfl (Nat.le_of_ble_eq_true rfl) dX3_whyNot_12 [0] [iC cI aI hI dI (I_law, I_there, I_sleepers, I_empty, I_empties, I_yard, I_waiting, I_nights, I_used, I_sheets, I_lastOnes, I_guestsWithFleas, I_bedsWithFleas, I_isCounting)] 15 rfl (by decide) rfl rfl rfl [.int r_12] rfl ?_
    refine gq_if_eq C 20 18 dX3_whyNot_15 (by decide) rfl (fun h15 => ?_) (fun h15 => ?_)
    · replace hf := gq_ifp h15 hf
      refine gq_iload_n C 1 21 dX3_whyNot_20 rfl rfl ?_
      obtain ⟨r_21, hc, hf⟩ := gq_bd hf
      refine gq_callT C hA gm_X3_95 (c_X0_isGoing l D cI cZ  x1 _ hc) rfl ⟨Nat.le_trans (Nat.le_of_ble_eq_true rfl) hR.1, Nat.le_trans (Nat.le_of_ble_eq_true rfl) hR.2.1⟩ ⟨Nat.zero_le _, Nat.zero_le _⟩ rfl (Nat.le_of_ble_eq_true rfl) dX3_whyNot_21 [] [iC cI aI hI dI (I_law, I_there, I_sleepers, I_empty, I_empties, I_yard, I_waiting, I_nights, I_used, I_sheets, I_lastOnes, I_guestsWithFleas, I_bedsWithFleas, I_isCounting)] 24 rfl (by decide) rfl rfl rfl [.int r_21] rfl ?_
      refine gq_if_eq C 40 27 dX3_whyNot_24 (by decide) rfl (fun h24 => ?_) (fun h24 => ?_)
      · replace hf := gq_ifp h24 hf
        refine gq_iconst C (nI 0) 41 dX3_whyNot_40 (by decide) rfl ?_
        obtain rfl := gq_lf hf
        exact hret dX3_whyNot_41 gPost.rf
      · replace hf := gq_ifn h24 hf
        refine gq_aload_n C 0 28 dX3_whyNot_27 rfl rfl ?_
        refine gq_iload_n C 1 29 dX3_whyNot_28 rfl rfl ?_
        refine gq_bipush C (nI 97) 31 dX3_whyNot_29 (by decide) rfl ?_
        refine gq_isub C 32 dX3_whyNot_31 rfl ?_
        obtain ⟨r_32, hc, hf⟩ := gq_bd hf
        refine gq_callV C hA gm_X3_104 (c_X3_isThere l D cI cZ aI hI dI (x1 - (nI 97)) (I_law, I_there, I_sleepers, I_empty, I_empties, I_yard, I_waiting, I_nights, I_used, I_sheets, I_lastOnes, I_guestsWithFleas, I_bedsWithFleas, I_isCounting) _ hc) rfl 0 0 rfl rfl rfl ⟨Nat.le_trans (Nat.le_of_ble_eq_true rfl) hR.1, Nat.le_trans (Nat.le_of_ble_eq_true rfl) hR.2.1⟩ ⟨Nat.zero_le _, Nat.zero_le _⟩ rfl (Nat.le_of_ble_eq_true rfl) dX3_whyNot_32 [0] [iC cI aI hI dI (I_law, I_there, I_sleepers, I_empty, I_empties, I_yard, I_waiting, I_nights, I_used, I_sheets, I_lastOnes, I_guestsWithFleas, I_bedsWithFleas, I_isCounting)] 35 rfl (by decide) rfl rfl rfl [.int r_32] rfl ?_
        refine gq_if_ne C 40 38 dX3_whyNot_35 (by decide) rfl (fun h35 => ?_) (fun h35 => ?_)
        · replace hf := gq_ifn h35 hf
          refine gq_iconst C (nI 0) 41 dX3_whyNot_40 (by decide) rfl ?_
          obtain rfl := gq_lf hf
          exact hret dX3_whyNot_41 gPost.rf
        · replace hf := gq_ifp h35 hf
          refine gq_iconst C (nI 2) 39 dX3_whyNot_38 (by decide) rfl ?_
          obtain rfl := gq_lf hf
          exact hret dX3_whyNot_39 gPost.rf
    · replace hf := gq_ifn h15 hf
      refine gq_iconst C (nI 1) 19 dX3_whyNot_18 (by decide) rfl ?_
      obtain rfl := gq_lf hf
      exact hret dX3_whyNot_19 gPost.rf

def f_X3_live_L3 (c_x3 : Int32) (c_H_beds : Int32) (c_H_law : Int32) (c_H_sights : Int32) (c_H_isKept : Int32) (c_H_worths : (Nat → Int32)) (c_H_sightGuests : (Nat → Int32)) (c_H_sightBeds : (Nat → Int32)) (c_D_length : Int32) (c_D_signs : (Nat → Int32)) : Nat → Int32 → Int32 → Int32 → (Nat → Int32) → (Nat → Int32) → Int32 → (Nat → Int32) → Int32 → (Nat → Int32) → (Nat → Int32) → (Nat → Int32) → (Nat → Int32) → Int32 → Int32 → Int32 → (Int32 → Int32 → Int32 → (Nat → Int32) → (Nat → Int32) → Int32 → (Nat → Int32) → Int32 → (Nat → Int32) → (Nat → Int32) → (Nat → Int32) → (Nat → Int32) → Int32 → Int32 → Int32 → Option (Int32 × InnS)) → Option (Int32 × InnS)
  | 0, _, _, _, _, _, _, _, _, _, _, _, _, _, _, _, _ => none
  | nL3 + 1, x4_L3, I_law_L3, I_there_L3, I_sleepers_L3, I_empty_L3, I_empties_L3, I_yard_L3, I_waiting_L3, I_nights_L3, I_used_L3, I_sheets_L3, I_lastOnes_L3, I_guestsWithFleas_L3, I_bedsWithFleas_L3, I_isCounting_L3, kL3 => (if c_x3 ≤ x4_L3 then kL3 x4_L3 I_law_L3 I_there_L3 I_sleepers_L3 I_empty_L3 I_empties_L3 I_yard_L3 I_waiting_L3 I_nights_L3 I_used_L3 I_sheets_L3 I_lastOnes_L3 I_guestsWithFleas_L3 I_bedsWithFleas_L3 I_isCounting_L3 else (Option.bind (f_X0_signAt x4_L3 (c_D_length, c_D_signs)) (fun r_12 => (Option.bind (f_X3_whyNot r_12 (I_law_L3, I_there_L3, I_sleepers_L3, I_empty_L3, I_empties_L3, I_yard_L3, I_waiting_L3, I_nights_L3, I_used_L3, I_sheets_L3, I_lastOnes_L3, I_guestsWithFleas_L3, I_bedsWithFleas_L3, I_isCounting_L3)) (fun r_20 => (if r_20 = 0 then (Option.bind (f_X0_isComing r_12) (fun r_31 => (if r_31 = 0 then (Option.bind (f_X0_isGoing r_12) (fun r_51 => (if r_51 = 0 then (if r_12 = (nI 46) then (if I_isCounting_L3 = 0 then f_X3_live_L3 c_x3 c_H_beds c_H_law c_H_sights c_H_isKept c_H_worths c_H_sightGuests c_H_sightBeds c_D_length c_D_signs nL3 (x4_L3 + (nI 1)) I_law_L3 I_there_L3 I_sleepers_L3 I_empty_L3 I_empties_L3 I_yard_L3 I_waiting_L3 I_nights_L3 I_used_L3 I_sheets_L3 I_lastOnes_L3 I_guestsWithFleas_L3 I_bedsWithFleas_L3 I_isCounting_L3 kL3 else (Option.bind (f_X3_passNight (I_law_L3, I_there_L3, I_sleepers_L3, I_empty_L3, I_empties_L3, I_yard_L3, I_waiting_L3, I_nights_L3, I_used_L3, I_sheets_L3, I_lastOnes_L3, I_guestsWithFleas_L3, I_bedsWithFleas_L3, I_isCounting_L3)) (fun (I_law_84, I_there_84, I_sleepers_84, I_empty_84, I_empties_84, I_yard_84, I_waiting_84, I_nights_84, I_used_84, I_sheets_84, I_lastOnes_84, I_guestsWithFleas_84, I_bedsWithFleas_84, I_isCounting_84) => f_X3_live_L3 c_x3 c_H_beds c_H_law c_H_sights c_H_isKept c_H_worths c_H_sightGuests c_H_sightBeds c_D_length c_D_signs nL3 (x4_L3 + (nI 1)) I_law_84 I_there_84 I_sleepers_84 I_empty_84 I_empties_84 I_yard_84 I_waiting_84 I_nights_84 I_used_84 I_sheets_84 I_lastOnes_84 I_guestsWithFleas_84 I_bedsWithFleas_84 I_isCounting_84 kL3))) else f_X3_live_L3 c_x3 c_H_beds c_H_law c_H_sights c_H_isKept c_H_worths c_H_sightGuests c_H_sightBeds c_D_length c_D_signs nL3 (x4_L3 + (nI 1)) I_law_L3 I_there_L3 I_sleepers_L3 I_empty_L3 I_empties_L3 I_yard_L3 I_waiting_L3 I_nights_L3 I_used_L3 I_sheets_L3 I_lastOnes_L3 I_guestsWithFleas_L3 I_bedsWithFleas_L3 I_isCounting_L3 kL3) else (Option.bind (f_X3_letGo (r_12 - (nI 97)) (I_law_L3, I_there_L3, I_sleepers_L3, I_empty_L3, I_empties_L3, I_yard_L3, I_waiting_L3, I_nights_L3, I_used_L3, I_sheets_L3, I_lastOnes_L3, I_guestsWithFleas_L3, I_bedsWithFleas_L3, I_isCounting_L3)) (fun (I_law_63, I_there_63, I_sleepers_63, I_empty_63, I_empties_63, I_yard_63, I_waiting_63, I_nights_63, I_used_63, I_sheets_63, I_lastOnes_63, I_guestsWithFleas_63, I_bedsWithFleas_63, I_isCounting_63) => f_X3_live_L3 c_x3 c_H_beds c_H_law c_H_sights c_H_isKept c_H_worths c_H_sightGuests c_H_sightBeds c_D_length c_D_signs nL3 (x4_L3 + (nI 1)) I_law_63 I_there_63 I_sleepers_63 I_empty_63 I_empties_63 I_yard_63 I_waiting_63 I_nights_63 I_used_63 I_sheets_63 I_lastOnes_63 I_guestsWithFleas_63 I_bedsWithFleas_63 I_isCounting_63 kL3))))) else (Option.bind (f_X3_takeIn (r_12 - (nI 65)) (c_H_beds, c_H_law, c_H_sights, c_H_isKept, c_H_worths, c_H_sightGuests, c_H_sightBeds) (I_law_L3, I_there_L3, I_sleepers_L3, I_empty_L3, I_empties_L3, I_yard_L3, I_waiting_L3, I_nights_L3, I_used_L3, I_sheets_L3, I_lastOnes_L3, I_guestsWithFleas_L3, I_bedsWithFleas_L3, I_isCounting_L3)) (fun (I_law_43, I_there_43, I_sleepers_43, I_empty_43, I_empties_43, I_yard_43, I_waiting_43, I_nights_43, I_used_43, I_sheets_43, I_lastOnes_43, I_guestsWithFleas_43, I_bedsWithFleas_43, I_isCounting_43) => f_X3_live_L3 c_x3 c_H_beds c_H_law c_H_sights c_H_isKept c_H_worths c_H_sightGuests c_H_sightBeds c_D_length c_D_signs nL3 (x4_L3 + (nI 1)) I_law_43 I_there_43 I_sleepers_43 I_empty_43 I_empties_43 I_yard_43 I_waiting_43 I_nights_43 I_used_43 I_sheets_43 I_lastOnes_43 I_guestsWithFleas_43 I_bedsWithFleas_43 I_isCounting_43 kL3))))) else some (x4_L3, (I_law_L3, I_there_L3, I_sleepers_L3, I_empty_L3, I_empties_L3, I_yard_L3, I_waiting_L3, I_nights_L3, I_used_L3, I_sheets_L3, I_lastOnes_L3, I_guestsWithFleas_L3, I_bedsWithFleas_L3, I_isCounting_L3))))))))
def f_X3_live : Int32 → Int32 → HouS → DayS → InnS → Option (Int32 × InnS)
  | x2, x3, (H_beds, H_law, H_sights, H_isKept, H_worths, H_sightGuests, H_sightBeds), (D_length, D_signs), (I_law, I_there, I_sleepers, I_empty, I_empties, I_yard, I_waiting, I_nights, I_used, I_sheets, I_lastOnes, I_guestsWithFleas, I_bedsWithFleas, I_isCounting) => f_X3_live_L3 x3 H_beds H_law H_sights H_isKept H_worths H_sightGuests H_sightBeds D_length D_signs FU x2 I_law I_there I_sleepers I_empty I_empties I_yard I_waiting I_nights I_used I_sheets I_lastOnes I_guestsWithFleas I_bedsWithFleas I_isCounting (fun x4_L3 I_law_L3 I_there_L3 I_sleepers_L3 I_empty_L3 I_empties_L3 I_yard_L3 I_waiting_L3 I_nights_L3 I_used_L3 I_sheets_L3 I_lastOnes_L3 I_guestsWithFleas_L3 I_bedsWithFleas_L3 I_isCounting_L3 => some ((-6 : Int32), (I_law_L3, I_there_L3, I_sleepers_L3, I_empty_L3, I_empties_L3, I_yard_L3, I_waiting_L3, I_nights_L3, I_used_L3, I_sheets_L3, I_lastOnes_L3, I_guestsWithFleas_L3, I_bedsWithFleas_L3, I_isCounting_L3)))
set_option maxHeartbeats 4000000 in
set_option maxRecDepth 100000 in
theorem c_X3_live (l : Launch) (D : va_G) (cI cZ : ClassId) (aH : Nat → Nat) (aD : Nat → Nat) (aI : Nat → Nat) (dI : Option Nat) (x2 : Int32) (x3 : Int32) (tH : HouS) (tD : DayS) (tI : InnS) (rr : Int32 × InnS) (hf : f_X3_live x2 x3 tH tD tI = some rr) : CT l D cI cZ yX3_live cX3_live 6 (some .int) 4 88 0 0 [.ref (aI 0), .ref (aD 0), .int x2, .int x3] ([hC cI aH tH, dC cI aD tD, iC cI aI (aH 0) dI tI]) (gPost (some (.int rr.1)) ([hC cI aH tH, dC cI aD tD, iC cI aI (aH 0) dI rr.2])) := by
  obtain ⟨H_beds, H_law, H_sights, H_isKept, H_worths, H_sightGuests, H_sightBeds⟩ := tH
  obtain ⟨D_length, D_signs⟩ := tD
  obtain ⟨I_law, I_there, I_sleepers, I_empty, I_empties, I_yard, I_waiting, I_nights, I_used, I_sheets, I_lastOnes, I_guestsWithFleas, I_bedsWithFleas, I_isCounting⟩ := tI
  rw [f_X3_live] at hf
  refine CT.mkI (by decide) (Nat.le_of_ble_eq_true rfl) fun {p} {e} {R} {s} {m} {args} {below} {meth} {c} {A} {H0} {Q} C hA hR hret => ?_
  show G p l e R s m args below meth c 6 D A H0 0 0 Q [hC cI aH (H_beds, H_law, H_sights, H_isKept, H_worths, H_sightGuests, H_sightBeds), dC cI aD (D_length, D_signs), iC cI aI (aH 0) dI (I_law, I_there, I_sleepers, I_empty, I_empties, I_yard, I_waiting, I_nights, I_used, I_sheets, I_lastOnes, I_guestsWithFleas, I_bedsWithFleas, I_isCounting)] 0 [(0, .ref (aI 0)), (1, .ref (aD 0)), (2, .int x2), (3, .int x3)] []
  refine gq_iload_n C 2 1 dX3_live_0 rfl rfl ?_
  refine gq_istore C [(4, .int x2), (0, .ref (aI 0)), (1, .ref (aD 0)), (2, .int x2), (3, .int x3)] 3 dX3_live_1 (by decide) rfl rfl ?_
  have L3 : ∀ (kL : Int32 → Int32 → Int32 → (Nat → Int32) → (Nat → Int32) → Int32 → (Nat → Int32) → Int32 → (Nat → Int32) → (Nat → Int32) → (Nat → Int32) → (Nat → Int32) → Int32 → Int32 → Int32 → Option (Int32 × InnS)), (∀ (x4_L3 : Int32) (I_law_L3 : Int32) (I_there_L3 : Int32) (I_sleepers_L3 : (Nat → Int32)) (I_empty_L3 : (Nat → Int32)) (I_empties_L3 : Int32) (I_yard_L3 : (Nat → Int32)) (I_waiting_L3 : Int32) (I_nights_L3 : (Nat → Int32)) (I_used_L3 : (Nat → Int32)) (I_sheets_L3 : (Nat → Int32)) (I_lastOnes_L3 : (Nat → Int32)) (I_guestsWithFleas_L3 : Int32) (I_bedsWithFleas_L3 : Int32) (I_isCounting_L3 : Int32), kL x4_L3 I_law_L3 I_there_L3 I_sleepers_L3 I_empty_L3 I_empties_L3 I_yard_L3 I_waiting_L3 I_nights_L3 I_used_L3 I_sheets_L3 I_lastOnes_L3 I_guestsWithFleas_L3 I_bedsWithFleas_L3 I_isCounting_L3 = some rr → G p l e R s m args below meth c 6 D A H0 0 0 Q [hC cI aH (H_beds, H_law, H_sights, H_isKept, H_worths, H_sightGuests, H_sightBeds), dC cI aD (D_length, D_signs), iC cI aI (aH 0) dI (I_law_L3, I_there_L3, I_sleepers_L3, I_empty_L3, I_empties_L3, I_yard_L3, I_waiting_L3, I_nights_L3, I_used_L3, I_sheets_L3, I_lastOnes_L3, I_guestsWithFleas_L3, I_bedsWithFleas_L3, I_isCounting_L3)] 93 [(4, .int x4_L3), (0, .ref (aI 0)), (1, .ref (aD 0)), (2, .int x2), (3, .int x3)] []) → ∀ (n : Nat) (x4_L3 : Int32) (I_law_L3 : Int32) (I_there_L3 : Int32) (I_sleepers_L3 : (Nat → Int32)) (I_empty_L3 : (Nat → Int32)) (I_empties_L3 : Int32) (I_yard_L3 : (Nat → Int32)) (I_waiting_L3 : Int32) (I_nights_L3 : (Nat → Int32)) (I_used_L3 : (Nat → Int32)) (I_sheets_L3 : (Nat → Int32)) (I_lastOnes_L3 : (Nat → Int32)) (I_guestsWithFleas_L3 : Int32) (I_bedsWithFleas_L3 : Int32) (I_isCounting_L3 : Int32), f_X3_live_L3 x3 H_beds H_law H_sights H_isKept H_worths H_sightGuests H_sightBeds D_length D_signs n x4_L3 I_law_L3 I_there_L3 I_sleepers_L3 I_empty_L3 I_empties_L3 I_yard_L3 I_waiting_L3 I_nights_L3 I_used_L3 I_sheets_L3 I_lastOnes_L3 I_guestsWithFleas_L3 I_bedsWithFleas_L3 I_isCounting_L3 kL = some rr → G p l e R s m args below meth c 6 D A H0 0 0 Q [hC cI aH (H_beds, H_law, H_sights, H_isKept, H_worths, H_sightGuests, H_sightBeds), dC cI aD (D_length, D_signs), iC cI aI (aH 0) dI (I_law_L3, I_there_L3, I_sleepers_L3, I_empty_L3, I_empties_L3, I_yard_L3, I_waiting_L3, I_nights_L3, I_used_L3, I_sheets_L3, I_lastOnes_L3, I_guestsWithFleas_L3, I_bedsWithFleas_L3, I_isCounting_L3)] 3 [(4, .int x4_L3), (0, .ref (aI 0)), (1, .ref (aD 0)), (2, .int x2), (3, .int x3)] [] := by
    intro kL hkL3 n
    induction n with
    | zero =>
      intro x4_L3 I_law_L3 I_there_L3 I_sleepers_L3 I_empty_L3 I_empties_L3 I_yard_L3 I_waiting_L3 I_nights_L3 I_used_L3 I_sheets_L3 I_lastOnes_L3 I_guestsWithFleas_L3 I_bedsWithFleas_L3 I_isCounting_L3 hf
      rw [f_X3_live_L3] at hf
      cases hf
    | succ n ihL3 =>
      intro x4_L3 I_law_L3 I_there_L3 I_sleepers_L3 I_empty_L3 I_empties_L3 I_yard_L3 I_waiting_L3 I_nights_L3 I_used_L3 I_sheets_L3 I_lastOnes_L3 I_guestsWithFleas_L3 I_bedsWithFleas_L3 I_isCounting_L3 hf
      rw [f_X3_live_L3] at hf
      refine gq_iload C 0 5 dX3_live_3 rfl rfl ?_
      refine gq_iload_n C 4 6 dX3_live_5 rfl rfl ?_
      refine gq_icmp_ge C 93 9 dX3_live_6 (by decide) rfl (fun h6 => ?_) (fun h6 => ?_)
      · replace hf := gq_ifp h6 hf
        exact hkL3 _ _ _ _ _ _ _ _ _ _ _ _ _ _ _ hf
      · replace hf := gq_ifn h6 hf
        refine gq_aload_n C 2 10 dX3_live_9 rfl rfl ?_
        refine gq_iload C 0 12 dX3_live_10 rfl rfl ?_
        obtain ⟨r_12, hc, hf⟩ := gq_bd hf
        refine gq_callN C hA gm_X3_79 (c_X0_signAt l D cI cZ aD x4_L3 (D_length, D_signs) _ hc) rfl 1 0 rfl rfl rfl ⟨Nat.le_trans (Nat.le_of_ble_eq_true rfl) hR.1, Nat.le_trans (Nat.le_of_ble_eq_true rfl) hR.2.1⟩ ⟨Nat.zero_le _, Nat.zero_le _⟩ rfl (Nat.le_of_ble_eq_true rfl) dX3_live_12 [1] [hC cI aH (H_beds, H_law, H_sights, H_isKept, H_worths, H_sightGuests, H_sightBeds), dC cI aD (D_length, D_signs), iC cI aI (aH 0) dI (I_law_L3, I_there_L3, I_sleepers_L3, I_empty_L3, I_empties_L3, I_yard_L3, I_waiting_L3, I_nights_L3, I_used_L3, I_sheets_L3, I_lastOnes_L3, I_guestsWithFleas_L3, I_bedsWithFleas_L3, I_isCounting_L3)] 15 rfl (by decide) rfl rfl rfl [.int r_12] rfl ?_
        refine gq_istore C [(5, .int r_12), (4, .int x4_L3), (0, .ref (aI 0)), (1, .ref (aD 0)), (2, .int x2), (3, .int x3)] 17 dX3_live_15 (by decide) rfl rfl ?_
        refine gq_aload_n C 2 18 dX3_live_17 rfl rfl ?_
        refine gq_iload C 0 20 dX3_live_18 rfl rfl ?_
        obtain ⟨r_20, hc, hf⟩ := gq_bd hf
        refine gq_callV C hA gm_X3_85 (c_X3_whyNot l D cI cZ aI (aH 0) dI r_12 (I_law_L3, I_there_L3, I_sleepers_L3, I_empty_L3, I_empties_L3, I_yard_L3, I_waiting_L3, I_nights_L3, I_used_L3, I_sheets_L3, I_lastOnes_L3, I_guestsWithFleas_L3, I_bedsWithFleas_L3, I_isCounting_L3) _ hc) rfl 2 0 rfl rfl rfl ⟨Nat.le_trans (Nat.le_of_ble_eq_true rfl) hR.1, Nat.le_trans (Nat.le_of_ble_eq_true rfl) hR.2.1⟩ ⟨Nat.zero_le _, Nat.zero_le _⟩ rfl (Nat.le_of_ble_eq_true rfl) dX3_live_20 [2] [hC cI aH (H_beds, H_law, H_sights, H_isKept, H_worths, H_sightGuests, H_sightBeds), dC cI aD (D_length, D_signs), iC cI aI (aH 0) dI (I_law_L3, I_there_L3, I_sleepers_L3, I_empty_L3, I_empties_L3, I_yard_L3, I_waiting_L3, I_nights_L3, I_used_L3, I_sheets_L3, I_lastOnes_L3, I_guestsWithFleas_L3, I_bedsWithFleas_L3, I_isCounting_L3)] 23 rfl (by decide) rfl rfl rfl [.int r_20] rfl ?_
        refine gq_if_eq C 29 26 dX3_live_23 (by decide) rfl (fun h23 => ?_) (fun h23 => ?_)
        · replace hf := gq_ifp h23 hf
          refine gq_iload C 0 31 dX3_live_29 rfl rfl ?_
          obtain ⟨r_31, hc, hf⟩ := gq_bd hf
          refine gq_callT C hA gm_X3_88 (c_X0_isComing l D cI cZ  r_12 _ hc) rfl ⟨Nat.le_trans (Nat.le_of_ble_eq_true rfl) hR.1, Nat.le_trans (Nat.le_of_ble_eq_true rfl) hR.2.1⟩ ⟨Nat.zero_le _, Nat.zero_le _⟩ rfl (Nat.le_of_ble_eq_true rfl) dX3_live_31 [] [hC cI aH (H_beds, H_law, H_sights, H_isKept, H_worths, H_sightGuests, H_sightBeds), dC cI aD (D_length, D_signs), iC cI aI (aH 0) dI (I_law_L3, I_there_L3, I_sleepers_L3, I_empty_L3, I_empties_L3, I_yard_L3, I_waiting_L3, I_nights_L3, I_used_L3, I_sheets_L3, I_lastOnes_L3, I_guestsWithFleas_L3, I_bedsWithFleas_L3, I_isCounting_L3)] 34 rfl (by decide) rfl rfl rfl [.int r_31] rfl ?_
          refine gq_if_eq C 49 37 dX3_live_34 (by decide) rfl (fun h34 => ?_) (fun h34 => ?_)
          · replace hf := gq_ifp h34 hf
            refine gq_iload C 0 51 dX3_live_49 rfl rfl ?_
            obtain ⟨r_51, hc, hf⟩ := gq_bd hf
            refine gq_callT C hA gm_X3_95 (c_X0_isGoing l D cI cZ  r_12 _ hc) rfl ⟨Nat.le_trans (Nat.le_of_ble_eq_true rfl) hR.1, Nat.le_trans (Nat.le_of_ble_eq_true rfl) hR.2.1⟩ ⟨Nat.zero_le _, Nat.zero_le _⟩ rfl (Nat.le_of_ble_eq_true rfl) dX3_live_51 [] [hC cI aH (H_beds, H_law, H_sights, H_isKept, H_worths, H_sightGuests, H_sightBeds), dC cI aD (D_length, D_signs), iC cI aI (aH 0) dI (I_law_L3, I_there_L3, I_sleepers_L3, I_empty_L3, I_empties_L3, I_yard_L3, I_waiting_L3, I_nights_L3, I_used_L3, I_sheets_L3, I_lastOnes_L3, I_guestsWithFleas_L3, I_bedsWithFleas_L3, I_isCounting_L3)] 54 rfl (by decide) rfl rfl rfl [.int r_51] rfl ?_
            refine gq_if_eq C 69 57 dX3_live_54 (by decide) rfl (fun h54 => ?_) (fun h54 => ?_)
            · replace hf := gq_ifp h54 hf
              refine gq_iload C 0 71 dX3_live_69 rfl rfl ?_
              refine gq_bipush C (nI 46) 73 dX3_live_71 (by decide) rfl ?_
              refine gq_icmp_ne C 87 76 dX3_live_73 (by decide) rfl (fun h73 => ?_) (fun h73 => ?_)
              · replace hf := gq_ifn h73 hf
                refine gq_iinc C 1 [(4, .int (x4_L3 + (nI 1))), (5, .int r_12), (0, .ref (aI 0)), (1, .ref (aD 0)), (2, .int x2), (3, .int x3)] 90 dX3_live_87 rfl rfl (by decide) rfl rfl ?_
                refine gq_goto C 3 dX3_live_90 (by decide) ?_
                refine gq_lv [0, 2, 3, 4, 5] rfl ?_
                exact ihL3 _ _ _ _ _ _ _ _ _ _ _ _ _ _ _ hf
              · replace hf := gq_ifp h73 hf
                refine gq_aload_n C 2 77 dX3_live_76 rfl rfl ?_
                refine gq_get C fo_X3_15 fw_X3_60 2 0 80 rfl rfl rfl dX3_live_77 rfl ?_
                refine gq_if_eq C 87 83 dX3_live_80 (by decide) rfl (fun h80 => ?_) (fun h80 => ?_)
                · replace hf := gq_ifp h80 hf
                  refine gq_iinc C 1 [(4, .int (x4_L3 + (nI 1))), (5, .int r_12), (0, .ref (aI 0)), (1, .ref (aD 0)), (2, .int x2), (3, .int x3)] 90 dX3_live_87 rfl rfl (by decide) rfl rfl ?_
                  refine gq_goto C 3 dX3_live_90 (by decide) ?_
                  refine gq_lv [0, 2, 3, 4, 5] rfl ?_
                  exact ihL3 _ _ _ _ _ _ _ _ _ _ _ _ _ _ _ hf
                · replace hf := gq_ifn h80 hf
                  refine gq_aload_n C 2 84 dX3_live_83 rfl rfl ?_
                  obtain ⟨⟨I_law_84, I_there_84, I_sleepers_84, I_empty_84, I_empties_84, I_yard_84, I_waiting_84, I_nights_84, I_used_84, I_sheets_84, I_lastOnes_84, I_guestsWithFleas_84, I_bedsWithFleas_84, I_isCounting_84⟩, hc, hf⟩ := gq_bd hf
                  refine gq_callV C hA gm_X3_101 (c_X3_passNight l D cI cZ aI (aH 0) dI (I_law_L3, I_there_L3, I_sleepers_L3, I_empty_L3, I_empties_L3, I_yard_L3, I_waiting_L3, I_nights_L3, I_used_L3, I_sheets_L3, I_lastOnes_L3, I_guestsWithFleas_L3, I_bedsWithFleas_L3, I_isCounting_L3) _ hc) rfl 2 0 rfl rfl rfl ⟨Nat.le_trans (Nat.le_of_ble_eq_true rfl) hR.1, Nat.le_trans (Nat.le_of_ble_eq_true rfl) hR.2.1⟩ ⟨Nat.zero_le _, Nat.zero_le _⟩ rfl (Nat.le_of_ble_eq_true rfl) dX3_live_84 [2] [hC cI aH (H_beds, H_law, H_sights, H_isKept, H_worths, H_sightGuests, H_sightBeds), dC cI aD (D_length, D_signs), iC cI aI (aH 0) dI (I_law_84, I_there_84, I_sleepers_84, I_empty_84, I_empties_84, I_yard_84, I_waiting_84, I_nights_84, I_used_84, I_sheets_84, I_lastOnes_84, I_guestsWithFleas_84, I_bedsWithFleas_84, I_isCounting_84)] 87 rfl (by decide) rfl rfl rfl [] rfl ?_
                  refine gq_iinc C 1 [(4, .int (x4_L3 + (nI 1))), (5, .int r_12), (0, .ref (aI 0)), (1, .ref (aD 0)), (2, .int x2), (3, .int x3)] 90 dX3_live_87 rfl rfl (by decide) rfl rfl ?_
                  refine gq_goto C 3 dX3_live_90 (by decide) ?_
                  refine gq_lv [0, 2, 3, 4, 5] rfl ?_
                  exact ihL3 _ _ _ _ _ _ _ _ _ _ _ _ _ _ _ hf
            · replace hf := gq_ifn h54 hf
              refine gq_aload_n C 2 58 dX3_live_57 rfl rfl ?_
              refine gq_iload C 0 60 dX3_live_58 rfl rfl ?_
              refine gq_bipush C (nI 97) 62 dX3_live_60 (by decide) rfl ?_
              refine gq_isub C 63 dX3_live_62 rfl ?_
              obtain ⟨⟨I_law_63, I_there_63, I_sleepers_63, I_empty_63, I_empties_63, I_yard_63, I_waiting_63, I_nights_63, I_used_63, I_sheets_63, I_lastOnes_63, I_guestsWithFleas_63, I_bedsWithFleas_63, I_isCounting_63⟩, hc, hf⟩ := gq_bd hf
              refine gq_callV C hA gm_X3_98 (c_X3_letGo l D cI cZ aI (aH 0) dI (r_12 - (nI 97)) (I_law_L3, I_there_L3, I_sleepers_L3, I_empty_L3, I_empties_L3, I_yard_L3, I_waiting_L3, I_nights_L3, I_used_L3, I_sheets_L3, I_lastOnes_L3, I_guestsWithFleas_L3, I_bedsWithFleas_L3, I_isCounting_L3) _ hc) rfl 2 0 rfl rfl rfl ⟨Nat.le_trans (Nat.le_of_ble_eq_true rfl) hR.1, Nat.le_trans (Nat.le_of_ble_eq_true rfl) hR.2.1⟩ ⟨Nat.zero_le _, Nat.zero_le _⟩ rfl (Nat.le_of_ble_eq_true rfl) dX3_live_63 [2] [hC cI aH (H_beds, H_law, H_sights, H_isKept, H_worths, H_sightGuests, H_sightBeds), dC cI aD (D_length, D_signs), iC cI aI (aH 0) dI (I_law_63, I_there_63, I_sleepers_63, I_empty_63, I_empties_63, I_yard_63, I_waiting_63, I_nights_63, I_used_63, I_sheets_63, I_lastOnes_63, I_guestsWithFleas_63, I_bedsWithFleas_63, I_isCounting_63)] 66 rfl (by decide) rfl rfl rfl [] rfl ?_
              refine gq_goto C 87 dX3_live_66 (by decide) ?_
              refine gq_iinc C 1 [(4, .int (x4_L3 + (nI 1))), (5, .int r_12), (0, .ref (aI 0)), (1, .ref (aD 0)), (2, .int x2), (3, .int x3)] 90 dX3_live_87 rfl rfl (by decide) rfl rfl ?_
              refine gq_goto C 3 dX3_live_90 (by decide) ?_
              refine gq_lv [0, 2, 3, 4, 5] rfl ?_
              exact ihL3 _ _ _ _ _ _ _ _ _ _ _ _ _ _ _ hf
          · replace hf := gq_ifn h34 hf
            refine gq_aload_n C 2 38 dX3_live_37 rfl rfl ?_
            refine gq_iload C 0 40 dX3_live_38 rfl rfl ?_
            refine gq_bipush C (nI 65) 42 dX3_live_40 (by decide) rfl ?_
            refine gq_isub C 43 dX3_live_42 rfl ?_
            obtain ⟨⟨I_law_43, I_there_43, I_sleepers_43, I_empty_43, I_empties_43, I_yard_43, I_waiting_43, I_nights_43, I_used_43, I_sheets_43, I_lastOnes_43, I_guestsWithFleas_43, I_bedsWithFleas_43, I_isCounting_43⟩, hc, hf⟩ := gq_bd hf
            refine gq_callV C hA gm_X3_92 (c_X3_takeIn l D cI cZ aH aI dI (r_12 - (nI 65)) (H_beds, H_law, H_sights, H_isKept, H_worths, H_sightGuests, H_sightBeds) (I_law_L3, I_there_L3, I_sleepers_L3, I_empty_L3, I_empties_L3, I_yard_L3, I_waiting_L3, I_nights_L3, I_used_L3, I_sheets_L3, I_lastOnes_L3, I_guestsWithFleas_L3, I_bedsWithFleas_L3, I_isCounting_L3) _ hc) rfl 2 0 rfl rfl rfl ⟨Nat.le_trans (Nat.le_of_ble_eq_true rfl) hR.1, Nat.le_trans (Nat.le_of_ble_eq_true rfl) hR.2.1⟩ ⟨Nat.zero_le _, Nat.zero_le _⟩ rfl (Nat.le_of_ble_eq_true rfl) dX3_live_43 [0, 2] [hC cI aH (H_beds, H_law, H_sights, H_isKept, H_worths, H_sightGuests, H_sightBeds), dC cI aD (D_length, D_signs), iC cI aI (aH 0) dI (I_law_43, I_there_43, I_sleepers_43, I_empty_43, I_empties_43, I_yard_43, I_waiting_43, I_nights_43, I_used_43, I_sheets_43, I_lastOnes_43, I_guestsWithFleas_43, I_bedsWithFleas_43, I_isCounting_43)] 46 rfl (by decide) rfl rfl rfl [] rfl ?_
            refine gq_goto C 87 dX3_live_46 (by decide) ?_
            refine gq_iinc C 1 [(4, .int (x4_L3 + (nI 1))), (5, .int r_12), (0, .ref (aI 0)), (1, .ref (aD 0)), (2, .int x2), (3, .int x3)] 90 dX3_live_87 rfl rfl (by decide) rfl rfl ?_
            refine gq_goto C 3 dX3_live_90 (by decide) ?_
            refine gq_lv [0, 2, 3, 4, 5] rfl ?_
            exact ihL3 _ _ _ _ _ _ _ _ _ _ _ _ _ _ _ hf
        · replace hf := gq_ifn h23 hf
          refine gq_iload C 1 28 dX3_live_26 rfl rfl ?_
          obtain rfl := gq_lf hf
          exact hret dX3_live_28 gPost.rf
  refine L3 _ (fun x4_L3 I_law_L3 I_there_L3 I_sleepers_L3 I_empty_L3 I_empties_L3 I_yard_L3 I_waiting_L3 I_nights_L3 I_used_L3 I_sheets_L3 I_lastOnes_L3 I_guestsWithFleas_L3 I_bedsWithFleas_L3 I_isCounting_L3 hf => ?_) _ _ _ _ _ _ _ _ _ _ _ _ _ _ _ _ hf
  refine gq_bipush C (-6 : Int32) 95 dX3_live_93 (by decide) rfl ?_
  obtain rfl := gq_lf hf
  exact hret dX3_live_95 gPost.rf

def f_X3_standAs : InnS → InnS → Option (InnS)
  | (I_law, I_there, I_sleepers, I_empty, I_empties, I_yard, I_waiting, I_nights, I_used, I_sheets, I_lastOnes, I_guestsWithFleas, I_bedsWithFleas, I_isCounting), (J_law, J_there, J_sleepers, J_empty, J_empties, J_yard, J_waiting, J_nights, J_used, J_sheets, J_lastOnes, J_guestsWithFleas, J_bedsWithFleas, J_isCounting) => some (J_law, J_there, (va_cpy J_sleepers I_sleepers 0 0 (nI 8).toNatClampNeg), (va_cpy J_empty I_empty 0 0 (nI 8).toNatClampNeg), J_empties, (va_cpy J_yard I_yard 0 0 (nI 16).toNatClampNeg), J_waiting, I_nights, I_used, I_sheets, I_lastOnes, I_guestsWithFleas, I_bedsWithFleas, (nI 0))
set_option maxHeartbeats 4000000 in
set_option maxRecDepth 100000 in
theorem c_X3_standAs (l : Launch) (D : va_G) (cI cZ : ClassId) (aI : Nat → Nat) (hI : Nat) (dI : Option Nat) (aJ : Nat → Nat) (hJ : Nat) (dJ : Option Nat) (tI : InnS) (tJ : InnS) (rr : InnS) (hf : f_X3_standAs tI tJ = some rr) : CT l D cI cZ yX3_standAs cX3_standAs 2 none 1 60 0 0 [.ref (aI 0), .ref (aJ 0)] ([iC cI aI hI dI tI, iC cI aJ hJ dJ tJ]) (gPost none ([iC cI aI hI dI rr, iC cI aJ hJ dJ tJ])) := by
  obtain ⟨I_law, I_there, I_sleepers, I_empty, I_empties, I_yard, I_waiting, I_nights, I_used, I_sheets, I_lastOnes, I_guestsWithFleas, I_bedsWithFleas, I_isCounting⟩ := tI
  obtain ⟨J_law, J_there, J_sleepers, J_empty, J_empties, J_yard, J_waiting, J_nights, J_used, J_sheets, J_lastOnes, J_guestsWithFleas, J_bedsWithFleas, J_isCounting⟩ := tJ
  rw [f_X3_standAs] at hf
  refine CT.mkV (by decide) (Nat.le_of_ble_eq_true rfl) fun {p} {e} {R} {s} {m} {args} {below} {meth} {c} {A} {H0} {Q} C hA hR hnm hret => ?_
  show G p l e R s m args below meth c 2 D A H0 0 0 Q [iC cI aI hI dI (I_law, I_there, I_sleepers, I_empty, I_empties, I_yard, I_waiting, I_nights, I_used, I_sheets, I_lastOnes, I_guestsWithFleas, I_bedsWithFleas, I_isCounting), iC cI aJ hJ dJ (J_law, J_there, J_sleepers, J_empty, J_empties, J_yard, J_waiting, J_nights, J_used, J_sheets, J_lastOnes, J_guestsWithFleas, J_bedsWithFleas, J_isCounting)] 0 [(0, .ref (aI 0)), (1, .ref (aJ 0))] []
  refine gq_aload_n C 0 1 dX3_standAs_0 rfl rfl ?_
  refine gq_iconst C (nI 0) 2 dX3_standAs_1 (by decide) rfl ?_
  refine gq_put C fo_X3_15 fp_X3_15 rfl fw_X3_60 0 0 5 [iC cI aI hI dI (I_law, I_there, I_sleepers, I_empty, I_empties, I_yard, I_waiting, I_nights, I_used, I_sheets, I_lastOnes, I_guestsWithFleas, I_bedsWithFleas, (nI 0)), iC cI aJ hJ dJ (J_law, J_there, J_sleepers, J_empty, J_empties, J_yard, J_waiting, J_nights, J_used, J_sheets, J_lastOnes, J_guestsWithFleas, J_bedsWithFleas, J_isCounting)] rfl rfl rfl rfl (Nat.le_of_ble_eq_true rfl) rfl dX3_standAs_2 rfl ?_
  refine gq_aload_n C 0 6 dX3_standAs_5 rfl rfl ?_
  refine gq_aload_n C 1 7 dX3_standAs_6 rfl rfl ?_
  refine gq_get C fo_X3_2 fw_X3_41 1 0 10 rfl rfl rfl dX3_standAs_7 rfl ?_
  refine gq_put C fo_X3_2 fp_X3_2 rfl fw_X3_41 0 0 13 [iC cI aI hI dI (J_law, I_there, I_sleepers, I_empty, I_empties, I_yard, I_waiting, I_nights, I_used, I_sheets, I_lastOnes, I_guestsWithFleas, I_bedsWithFleas, (nI 0)), iC cI aJ hJ dJ (J_law, J_there, J_sleepers, J_empty, J_empties, J_yard, J_waiting, J_nights, J_used, J_sheets, J_lastOnes, J_guestsWithFleas, J_bedsWithFleas, J_isCounting)] rfl rfl rfl rfl (Nat.le_of_ble_eq_true rfl) rfl dX3_standAs_10 rfl ?_
  refine gq_aload_n C 0 14 dX3_standAs_13 rfl rfl ?_
  refine gq_aload_n C 1 15 dX3_standAs_14 rfl rfl ?_
  refine gq_get C fo_X3_3 fw_X3_45 1 0 18 rfl rfl rfl dX3_standAs_15 rfl ?_
  refine gq_put C fo_X3_3 fp_X3_3 rfl fw_X3_45 0 0 21 [iC cI aI hI dI (J_law, J_there, I_sleepers, I_empty, I_empties, I_yard, I_waiting, I_nights, I_used, I_sheets, I_lastOnes, I_guestsWithFleas, I_bedsWithFleas, (nI 0)), iC cI aJ hJ dJ (J_law, J_there, J_sleepers, J_empty, J_empties, J_yard, J_waiting, J_nights, J_used, J_sheets, J_lastOnes, J_guestsWithFleas, J_bedsWithFleas, J_isCounting)] rfl rfl rfl rfl (Nat.le_of_ble_eq_true rfl) rfl dX3_standAs_18 rfl ?_
  refine gq_aload_n C 0 22 dX3_standAs_21 rfl rfl ?_
  refine gq_aload_n C 1 23 dX3_standAs_22 rfl rfl ?_
  refine gq_get C fo_X3_6 fw_X3_48 1 0 26 rfl rfl rfl dX3_standAs_23 rfl ?_
  refine gq_put C fo_X3_6 fp_X3_6 rfl fw_X3_48 0 0 29 [iC cI aI hI dI (J_law, J_there, I_sleepers, I_empty, J_empties, I_yard, I_waiting, I_nights, I_used, I_sheets, I_lastOnes, I_guestsWithFleas, I_bedsWithFleas, (nI 0)), iC cI aJ hJ dJ (J_law, J_there, J_sleepers, J_empty, J_empties, J_yard, J_waiting, J_nights, J_used, J_sheets, J_lastOnes, J_guestsWithFleas, J_bedsWithFleas, J_isCounting)] rfl rfl rfl rfl (Nat.le_of_ble_eq_true rfl) rfl dX3_standAs_26 rfl ?_
  refine gq_aload_n C 0 30 dX3_standAs_29 rfl rfl ?_
  refine gq_aload_n C 1 31 dX3_standAs_30 rfl rfl ?_
  refine gq_get C fo_X3_8 fw_X3_51 1 0 34 rfl rfl rfl dX3_standAs_31 rfl ?_
  refine gq_put C fo_X3_8 fp_X3_8 rfl fw_X3_51 0 0 37 [iC cI aI hI dI (J_law, J_there, I_sleepers, I_empty, J_empties, I_yard, J_waiting, I_nights, I_used, I_sheets, I_lastOnes, I_guestsWithFleas, I_bedsWithFleas, (nI 0)), iC cI aJ hJ dJ (J_law, J_there, J_sleepers, J_empty, J_empties, J_yard, J_waiting, J_nights, J_used, J_sheets, J_lastOnes, J_guestsWithFleas, J_bedsWithFleas, J_isCounting)] rfl rfl rfl rfl (Nat.le_of_ble_eq_true rfl) rfl dX3_standAs_34 rfl ?_
  refine gq_aload_n C 1 38 dX3_standAs_37 rfl rfl ?_
  refine gq_get C fo_X3_4 fw_X3_9 1 0 41 rfl rfl rfl dX3_standAs_38 rfl ?_
  refine gq_iconst C (nI 0) 42 dX3_standAs_41 (by decide) rfl ?_
  refine gq_aload_n C 0 43 dX3_standAs_42 rfl rfl ?_
  refine gq_get C fo_X3_4 fw_X3_9 0 0 46 rfl rfl rfl dX3_standAs_43 rfl ?_
  refine gq_iconst C (nI 0) 47 dX3_standAs_46 (by decide) rfl ?_
  refine gq_bipush C (nI 8) 49 dX3_standAs_47 (by decide) rfl ?_
  refine gq_copy C 1 1 0 1 52 [iC cI aI hI dI (J_law, J_there, (va_cpy J_sleepers I_sleepers 0 0 (nI 8).toNatClampNeg), I_empty, J_empties, I_yard, J_waiting, I_nights, I_used, I_sheets, I_lastOnes, I_guestsWithFleas, I_bedsWithFleas, (nI 0)), iC cI aJ hJ dJ (J_law, J_there, J_sleepers, J_empty, J_empties, J_yard, J_waiting, J_nights, J_used, J_sheets, J_lastOnes, J_guestsWithFleas, J_bedsWithFleas, J_isCounting)] mw_X3_73 aw_native aw_static aw_ini rfl rfl rfl rfl (by decide) (by decide) (by decide) rfl (Nat.le_trans (Nat.le_of_ble_eq_true rfl) hR.1) (Nat.le_trans (Nat.le_of_ble_eq_true rfl) hR.2.1) dX3_standAs_49 rfl ?_
  refine gq_aload_n C 1 53 dX3_standAs_52 rfl rfl ?_
  refine gq_get C fo_X3_5 fw_X3_15 1 0 56 rfl rfl rfl dX3_standAs_53 rfl ?_
  refine gq_iconst C (nI 0) 57 dX3_standAs_56 (by decide) rfl ?_
  refine gq_aload_n C 0 58 dX3_standAs_57 rfl rfl ?_
  refine gq_get C fo_X3_5 fw_X3_15 0 0 61 rfl rfl rfl dX3_standAs_58 rfl ?_
  refine gq_iconst C (nI 0) 62 dX3_standAs_61 (by decide) rfl ?_
  refine gq_bipush C (nI 8) 64 dX3_standAs_62 (by decide) rfl ?_
  refine gq_copy C 1 2 0 2 67 [iC cI aI hI dI (J_law, J_there, (va_cpy J_sleepers I_sleepers 0 0 (nI 8).toNatClampNeg), (va_cpy J_empty I_empty 0 0 (nI 8).toNatClampNeg), J_empties, I_yard, J_waiting, I_nights, I_used, I_sheets, I_lastOnes, I_guestsWithFleas, I_bedsWithFleas, (nI 0)), iC cI aJ hJ dJ (J_law, J_there, J_sleepers, J_empty, J_empties, J_yard, J_waiting, J_nights, J_used, J_sheets, J_lastOnes, J_guestsWithFleas, J_bedsWithFleas, J_isCounting)] mw_X3_73 aw_native aw_static aw_ini rfl rfl rfl rfl (by decide) (by decide) (by decide) rfl (Nat.le_trans (Nat.le_of_ble_eq_true rfl) hR.1) (Nat.le_trans (Nat.le_of_ble_eq_true rfl) hR.2.1) dX3_standAs_64 rfl ?_
  refine gq_aload_n C 1 68 dX3_standAs_67 rfl rfl ?_
  refine gq_get C fo_X3_7 fw_X3_18 1 0 71 rfl rfl rfl dX3_standAs_68 rfl ?_
  refine gq_iconst C (nI 0) 72 dX3_standAs_71 (by decide) rfl ?_
  refine gq_aload_n C 0 73 dX3_standAs_72 rfl rfl ?_
  refine gq_get C fo_X3_7 fw_X3_18 0 0 76 rfl rfl rfl dX3_standAs_73 rfl ?_
  refine gq_iconst C (nI 0) 77 dX3_standAs_76 (by decide) rfl ?_
  refine gq_aload_n C 0 78 dX3_standAs_77 rfl rfl ?_
  refine gq_get C fo_X3_7 fw_X3_18 0 0 81 rfl rfl rfl dX3_standAs_78 rfl ?_
  refine gq_alen C 0 3 82 (nI 16) rfl rfl (by decide) dX3_standAs_81 rfl ?_
  refine gq_copy C 1 3 0 3 85 [iC cI aI hI dI (J_law, J_there, (va_cpy J_sleepers I_sleepers 0 0 (nI 8).toNatClampNeg), (va_cpy J_empty I_empty 0 0 (nI 8).toNatClampNeg), J_empties, (va_cpy J_yard I_yard 0 0 (nI 16).toNatClampNeg), J_waiting, I_nights, I_used, I_sheets, I_lastOnes, I_guestsWithFleas, I_bedsWithFleas, (nI 0)), iC cI aJ hJ dJ (J_law, J_there, J_sleepers, J_empty, J_empties, J_yard, J_waiting, J_nights, J_used, J_sheets, J_lastOnes, J_guestsWithFleas, J_bedsWithFleas, J_isCounting)] mw_X3_73 aw_native aw_static aw_ini rfl rfl rfl rfl (by decide) (by decide) (by decide) rfl (Nat.le_trans (Nat.le_of_ble_eq_true rfl) hR.1) (Nat.le_trans (Nat.le_of_ble_eq_true rfl) hR.2.1) dX3_standAs_82 rfl ?_
  obtain rfl := gq_lf hf
  exact hret dX3_standAs_85 gPost.rf

def f_X3_open_L37  : Nat → Int32 → (Nat → Int32) → (Nat → Int32) → (Nat → Int32) → (Nat → Int32) → (Nat → Int32) → (Int32 → (Nat → Int32) → (Nat → Int32) → (Nat → Int32) → (Nat → Int32) → (Nat → Int32) → Option (InnS)) → Option (InnS)
  | 0, _, _, _, _, _, _, _ => none
  | nL37 + 1, x2_L37, I_sleepers_L37, I_nights_L37, I_used_L37, I_sheets_L37, I_lastOnes_L37, kL37 => (if (nI 8) ≤ x2_L37 then kL37 x2_L37 I_sleepers_L37 I_nights_L37 I_used_L37 I_sheets_L37 I_lastOnes_L37 else (if x2_L37 < 0 ∨ 8 ≤ x2_L37.toNatClampNeg then none else (if x2_L37 < 0 ∨ 8 ≤ x2_L37.toNatClampNeg then none else (if x2_L37 < 0 ∨ 8 ≤ x2_L37.toNatClampNeg then none else (if x2_L37 < 0 ∨ 8 ≤ x2_L37.toNatClampNeg then none else (if x2_L37 < 0 ∨ 8 ≤ x2_L37.toNatClampNeg then none else f_X3_open_L37  nL37 (x2_L37 + (nI 1)) (upd I_sleepers_L37 x2_L37.toNatClampNeg (-1 : Int32)) (upd I_nights_L37 x2_L37.toNatClampNeg (nI 0)) (upd I_used_L37 x2_L37.toNatClampNeg (nI 0)) (upd I_sheets_L37 x2_L37.toNatClampNeg (nI 0)) (upd I_lastOnes_L37 x2_L37.toNatClampNeg (-1 : Int32)) kL37))))))
def f_X3_open_L86 (c_H_beds : Int32) : Nat → Int32 → Int32 → Int32 → (Nat → Int32) → (Nat → Int32) → Int32 → (Nat → Int32) → Int32 → (Nat → Int32) → (Nat → Int32) → (Nat → Int32) → (Nat → Int32) → Int32 → Int32 → Int32 → (Int32 → Int32 → Int32 → (Nat → Int32) → (Nat → Int32) → Int32 → (Nat → Int32) → Int32 → (Nat → Int32) → (Nat → Int32) → (Nat → Int32) → (Nat → Int32) → Int32 → Int32 → Int32 → Option (InnS)) → Option (InnS)
  | 0, _, _, _, _, _, _, _, _, _, _, _, _, _, _, _, _ => none
  | nL86 + 1, x2_L86, I_law_L86, I_there_L86, I_sleepers_L86, I_empty_L86, I_empties_L86, I_yard_L86, I_waiting_L86, I_nights_L86, I_used_L86, I_sheets_L86, I_lastOnes_L86, I_guestsWithFleas_L86, I_bedsWithFleas_L86, I_isCounting_L86, kL86 => (if c_H_beds ≤ x2_L86 then kL86 x2_L86 I_law_L86 I_there_L86 I_sleepers_L86 I_empty_L86 I_empties_L86 I_yard_L86 I_waiting_L86 I_nights_L86 I_used_L86 I_sheets_L86 I_lastOnes_L86 I_guestsWithFleas_L86 I_bedsWithFleas_L86 I_isCounting_L86 else (Option.bind (f_X3_leaveEmpty x2_L86 (I_law_L86, I_there_L86, I_sleepers_L86, I_empty_L86, I_empties_L86, I_yard_L86, I_waiting_L86, I_nights_L86, I_used_L86, I_sheets_L86, I_lastOnes_L86, I_guestsWithFleas_L86, I_bedsWithFleas_L86, I_isCounting_L86)) (fun (I_law_99, I_there_99, I_sleepers_99, I_empty_99, I_empties_99, I_yard_99, I_waiting_99, I_nights_99, I_used_99, I_sheets_99, I_lastOnes_99, I_guestsWithFleas_99, I_bedsWithFleas_99, I_isCounting_99) => f_X3_open_L86 c_H_beds nL86 (x2_L86 + (nI 1)) I_law_99 I_there_99 I_sleepers_99 I_empty_99 I_empties_99 I_yard_99 I_waiting_99 I_nights_99 I_used_99 I_sheets_99 I_lastOnes_99 I_guestsWithFleas_99 I_bedsWithFleas_99 I_isCounting_99 kL86)))
def f_X3_open : Int32 → HouS → InnS → Option (InnS)
  | x1, (H_beds, H_law, H_sights, H_isKept, H_worths, H_sightGuests, H_sightBeds), (I_law, I_there, I_sleepers, I_empty, I_empties, I_yard, I_waiting, I_nights, I_used, I_sheets, I_lastOnes, I_guestsWithFleas, I_bedsWithFleas, I_isCounting) => f_X3_open_L37  FU (nI 0) I_sleepers I_nights I_used I_sheets I_lastOnes (fun x2_L37 I_sleepers_L37 I_nights_L37 I_used_L37 I_sheets_L37 I_lastOnes_L37 => f_X3_open_L86 H_beds FU (nI 0) x1 (nI 0) I_sleepers_L37 I_empty (nI 0) I_yard (nI 0) I_nights_L37 I_used_L37 I_sheets_L37 I_lastOnes_L37 (nI 0) (nI 0) (nI 1) (fun x2_L86 I_law_L86 I_there_L86 I_sleepers_L86 I_empty_L86 I_empties_L86 I_yard_L86 I_waiting_L86 I_nights_L86 I_used_L86 I_sheets_L86 I_lastOnes_L86 I_guestsWithFleas_L86 I_bedsWithFleas_L86 I_isCounting_L86 => some (I_law_L86, I_there_L86, I_sleepers_L86, I_empty_L86, I_empties_L86, I_yard_L86, I_waiting_L86, I_nights_L86, I_used_L86, I_sheets_L86, I_lastOnes_L86, I_guestsWithFleas_L86, I_bedsWithFleas_L86, I_isCounting_L86)))
set_option maxHeartbeats 4000000 in
set_option maxRecDepth 100000 in
theorem c_X3_open (l : Launch) (D : va_G) (cI cZ : ClassId) (aH : Nat → Nat) (aI : Nat → Nat) (dI : Option Nat) (x1 : Int32) (tH : HouS) (tI : InnS) (rr : InnS) (hf : f_X3_open x1 tH tI = some rr) : CT l D cI cZ yX3_open cX3_open 3 none 1 21 0 0 [.ref (aI 0), .int x1] ([hC cI aH tH, iC cI aI (aH 0) dI tI]) (gPost none ([hC cI aH tH, iC cI aI (aH 0) dI rr])) := by
  obtain ⟨H_beds, H_law, H_sights, H_isKept, H_worths, H_sightGuests, H_sightBeds⟩ := tH
  obtain ⟨I_law, I_there, I_sleepers, I_empty, I_empties, I_yard, I_waiting, I_nights, I_used, I_sheets, I_lastOnes, I_guestsWithFleas, I_bedsWithFleas, I_isCounting⟩ := tI
  rw [f_X3_open] at hf
  refine CT.mkV (by decide) (Nat.le_of_ble_eq_true rfl) fun {p} {e} {R} {s} {m} {args} {below} {meth} {c} {A} {H0} {Q} C hA hR hnm hret => ?_
  show G p l e R s m args below meth c 3 D A H0 0 0 Q [hC cI aH (H_beds, H_law, H_sights, H_isKept, H_worths, H_sightGuests, H_sightBeds), iC cI aI (aH 0) dI (I_law, I_there, I_sleepers, I_empty, I_empties, I_yard, I_waiting, I_nights, I_used, I_sheets, I_lastOnes, I_guestsWithFleas, I_bedsWithFleas, I_isCounting)] 0 [(0, .ref (aI 0)), (1, .int x1)] []
  refine gq_aload_n C 0 1 dX3_open_0 rfl rfl ?_
  refine gq_iload_n C 1 2 dX3_open_1 rfl rfl ?_
  refine gq_put C fo_X3_2 fp_X3_2 rfl fw_X3_41 1 0 5 [hC cI aH (H_beds, H_law, H_sights, H_isKept, H_worths, H_sightGuests, H_sightBeds), iC cI aI (aH 0) dI (x1, I_there, I_sleepers, I_empty, I_empties, I_yard, I_waiting, I_nights, I_used, I_sheets, I_lastOnes, I_guestsWithFleas, I_bedsWithFleas, I_isCounting)] rfl rfl rfl rfl (Nat.le_of_ble_eq_true rfl) rfl dX3_open_2 rfl ?_
  refine gq_aload_n C 0 6 dX3_open_5 rfl rfl ?_
  refine gq_iconst C (nI 0) 7 dX3_open_6 (by decide) rfl ?_
  refine gq_put C fo_X3_3 fp_X3_3 rfl fw_X3_45 1 0 10 [hC cI aH (H_beds, H_law, H_sights, H_isKept, H_worths, H_sightGuests, H_sightBeds), iC cI aI (aH 0) dI (x1, (nI 0), I_sleepers, I_empty, I_empties, I_yard, I_waiting, I_nights, I_used, I_sheets, I_lastOnes, I_guestsWithFleas, I_bedsWithFleas, I_isCounting)] rfl rfl rfl rfl (Nat.le_of_ble_eq_true rfl) rfl dX3_open_7 rfl ?_
  refine gq_aload_n C 0 11 dX3_open_10 rfl rfl ?_
  refine gq_iconst C (nI 0) 12 dX3_open_11 (by decide) rfl ?_
  refine gq_put C fo_X3_6 fp_X3_6 rfl fw_X3_48 1 0 15 [hC cI aH (H_beds, H_law, H_sights, H_isKept, H_worths, H_sightGuests, H_sightBeds), iC cI aI (aH 0) dI (x1, (nI 0), I_sleepers, I_empty, (nI 0), I_yard, I_waiting, I_nights, I_used, I_sheets, I_lastOnes, I_guestsWithFleas, I_bedsWithFleas, I_isCounting)] rfl rfl rfl rfl (Nat.le_of_ble_eq_true rfl) rfl dX3_open_12 rfl ?_
  refine gq_aload_n C 0 16 dX3_open_15 rfl rfl ?_
  refine gq_iconst C (nI 0) 17 dX3_open_16 (by decide) rfl ?_
  refine gq_put C fo_X3_8 fp_X3_8 rfl fw_X3_51 1 0 20 [hC cI aH (H_beds, H_law, H_sights, H_isKept, H_worths, H_sightGuests, H_sightBeds), iC cI aI (aH 0) dI (x1, (nI 0), I_sleepers, I_empty, (nI 0), I_yard, (nI 0), I_nights, I_used, I_sheets, I_lastOnes, I_guestsWithFleas, I_bedsWithFleas, I_isCounting)] rfl rfl rfl rfl (Nat.le_of_ble_eq_true rfl) rfl dX3_open_17 rfl ?_
  refine gq_aload_n C 0 21 dX3_open_20 rfl rfl ?_
  refine gq_iconst C (nI 0) 22 dX3_open_21 (by decide) rfl ?_
  refine gq_put C fo_X3_13 fp_X3_13 rfl fw_X3_54 1 0 25 [hC cI aH (H_beds, H_law, H_sights, H_isKept, H_worths, H_sightGuests, H_sightBeds), iC cI aI (aH 0) dI (x1, (nI 0), I_sleepers, I_empty, (nI 0), I_yard, (nI 0), I_nights, I_used, I_sheets, I_lastOnes, (nI 0), I_bedsWithFleas, I_isCounting)] rfl rfl rfl rfl (Nat.le_of_ble_eq_true rfl) rfl dX3_open_22 rfl ?_
  refine gq_aload_n C 0 26 dX3_open_25 rfl rfl ?_
  refine gq_iconst C (nI 0) 27 dX3_open_26 (by decide) rfl ?_
  refine gq_put C fo_X3_14 fp_X3_14 rfl fw_X3_57 1 0 30 [hC cI aH (H_beds, H_law, H_sights, H_isKept, H_worths, H_sightGuests, H_sightBeds), iC cI aI (aH 0) dI (x1, (nI 0), I_sleepers, I_empty, (nI 0), I_yard, (nI 0), I_nights, I_used, I_sheets, I_lastOnes, (nI 0), (nI 0), I_isCounting)] rfl rfl rfl rfl (Nat.le_of_ble_eq_true rfl) rfl dX3_open_27 rfl ?_
  refine gq_aload_n C 0 31 dX3_open_30 rfl rfl ?_
  refine gq_iconst C (nI 1) 32 dX3_open_31 (by decide) rfl ?_
  refine gq_put C fo_X3_15 fp_X3_15 rfl fw_X3_60 1 0 35 [hC cI aH (H_beds, H_law, H_sights, H_isKept, H_worths, H_sightGuests, H_sightBeds), iC cI aI (aH 0) dI (x1, (nI 0), I_sleepers, I_empty, (nI 0), I_yard, (nI 0), I_nights, I_used, I_sheets, I_lastOnes, (nI 0), (nI 0), (nI 1))] rfl rfl rfl rfl (Nat.le_of_ble_eq_true rfl) rfl dX3_open_32 rfl ?_
  refine gq_iconst C (nI 0) 36 dX3_open_35 (by decide) rfl ?_
  refine gq_istore_n C [(2, .int (nI 0)), (0, .ref (aI 0)), (1, .int x1)] 37 dX3_open_36 (by decide) rfl rfl ?_
  have L37 : ∀ (kL : Int32 → (Nat → Int32) → (Nat → Int32) → (Nat → Int32) → (Nat → Int32) → (Nat → Int32) → Option (InnS)), (∀ (x2_L37 : Int32) (I_sleepers_L37 : (Nat → Int32)) (I_nights_L37 : (Nat → Int32)) (I_used_L37 : (Nat → Int32)) (I_sheets_L37 : (Nat → Int32)) (I_lastOnes_L37 : (Nat → Int32)), kL x2_L37 I_sleepers_L37 I_nights_L37 I_used_L37 I_sheets_L37 I_lastOnes_L37 = some rr → G p l e R s m args below meth c 3 D A H0 0 0 Q [hC cI aH (H_beds, H_law, H_sights, H_isKept, H_worths, H_sightGuests, H_sightBeds), iC cI aI (aH 0) dI (x1, (nI 0), I_sleepers_L37, I_empty, (nI 0), I_yard, (nI 0), I_nights_L37, I_used_L37, I_sheets_L37, I_lastOnes_L37, (nI 0), (nI 0), (nI 1))] 84 [(2, .int x2_L37), (0, .ref (aI 0)), (1, .int x1)] []) → ∀ (n : Nat) (x2_L37 : Int32) (I_sleepers_L37 : (Nat → Int32)) (I_nights_L37 : (Nat → Int32)) (I_used_L37 : (Nat → Int32)) (I_sheets_L37 : (Nat → Int32)) (I_lastOnes_L37 : (Nat → Int32)), f_X3_open_L37  n x2_L37 I_sleepers_L37 I_nights_L37 I_used_L37 I_sheets_L37 I_lastOnes_L37 kL = some rr → G p l e R s m args below meth c 3 D A H0 0 0 Q [hC cI aH (H_beds, H_law, H_sights, H_isKept, H_worths, H_sightGuests, H_sightBeds), iC cI aI (aH 0) dI (x1, (nI 0), I_sleepers_L37, I_empty, (nI 0), I_yard, (nI 0), I_nights_L37, I_used_L37, I_sheets_L37, I_lastOnes_L37, (nI 0), (nI 0), (nI 1))] 37 [(2, .int x2_L37), (0, .ref (aI 0)), (1, .int x1)] [] := by
    intro kL hkL37 n
    induction n with
    | zero =>
      intro x2_L37 I_sleepers_L37 I_nights_L37 I_used_L37 I_sheets_L37 I_lastOnes_L37 hf
      rw [f_X3_open_L37] at hf
      cases hf
    | succ n ihL37 =>
      intro x2_L37 I_sleepers_L37 I_nights_L37 I_used_L37 I_sheets_L37 I_lastOnes_L37 hf
      rw [f_X3_open_L37] at hf
      refine gq_iload_n C 0 38 dX3_open_37 rfl rfl ?_
      refine gq_bipush C (nI 8) 40 dX3_open_38 (by decide) rfl ?_
      refine gq_icmp_ge C 84 43 dX3_open_40 (by decide) rfl (fun h40 => ?_) (fun h40 => ?_)
      · replace hf := gq_ifp h40 hf
        exact hkL37 _ _ _ _ _ _ hf
      · replace hf := gq_ifn h40 hf
        refine gq_aload_n C 1 44 dX3_open_43 rfl rfl ?_
        refine gq_get C fo_X3_4 fw_X3_9 1 0 47 rfl rfl rfl dX3_open_44 rfl ?_
        refine gq_iload_n C 0 48 dX3_open_47 rfl rfl ?_
        refine gq_iconst C (-1 : Int32) 49 dX3_open_48 (by decide) rfl ?_
        obtain ⟨h49, hf⟩ := gq_ok hf
        refine gq_iast C 1 1 50 [hC cI aH (H_beds, H_law, H_sights, H_isKept, H_worths, H_sightGuests, H_sightBeds), iC cI aI (aH 0) dI (x1, (nI 0), (upd I_sleepers_L37 x2_L37.toNatClampNeg (-1 : Int32)), I_empty, (nI 0), I_yard, (nI 0), I_nights_L37, I_used_L37, I_sheets_L37, I_lastOnes_L37, (nI 0), (nI 0), (nI 1))] rfl rfl h49 rfl dX3_open_49 rfl ?_
        refine gq_aload_n C 1 51 dX3_open_50 rfl rfl ?_
        refine gq_get C fo_X3_12 fw_X3_30 1 0 54 rfl rfl rfl dX3_open_51 rfl ?_
        refine gq_iload_n C 0 55 dX3_open_54 rfl rfl ?_
        refine gq_iconst C (-1 : Int32) 56 dX3_open_55 (by decide) rfl ?_
        obtain ⟨h56, hf⟩ := gq_ok hf
        refine gq_iast C 1 7 57 [hC cI aH (H_beds, H_law, H_sights, H_isKept, H_worths, H_sightGuests, H_sightBeds), iC cI aI (aH 0) dI (x1, (nI 0), (upd I_sleepers_L37 x2_L37.toNatClampNeg (-1 : Int32)), I_empty, (nI 0), I_yard, (nI 0), I_nights_L37, I_used_L37, I_sheets_L37, (upd I_lastOnes_L37 x2_L37.toNatClampNeg (-1 : Int32)), (nI 0), (nI 0), (nI 1))] rfl rfl h56 rfl dX3_open_56 rfl ?_
        refine gq_aload_n C 1 58 dX3_open_57 rfl rfl ?_
        refine gq_get C fo_X3_9 fw_X3_21 1 0 61 rfl rfl rfl dX3_open_58 rfl ?_
        refine gq_iload_n C 0 62 dX3_open_61 rfl rfl ?_
        refine gq_iconst C (nI 0) 63 dX3_open_62 (by decide) rfl ?_
        obtain ⟨h63, hf⟩ := gq_ok hf
        refine gq_iast C 1 4 64 [hC cI aH (H_beds, H_law, H_sights, H_isKept, H_worths, H_sightGuests, H_sightBeds), iC cI aI (aH 0) dI (x1, (nI 0), (upd I_sleepers_L37 x2_L37.toNatClampNeg (-1 : Int32)), I_empty, (nI 0), I_yard, (nI 0), (upd I_nights_L37 x2_L37.toNatClampNeg (nI 0)), I_used_L37, I_sheets_L37, (upd I_lastOnes_L37 x2_L37.toNatClampNeg (-1 : Int32)), (nI 0), (nI 0), (nI 1))] rfl rfl h63 rfl dX3_open_63 rfl ?_
        refine gq_aload_n C 1 65 dX3_open_64 rfl rfl ?_
        refine gq_get C fo_X3_10 fw_X3_24 1 0 68 rfl rfl rfl dX3_open_65 rfl ?_
        refine gq_iload_n C 0 69 dX3_open_68 rfl rfl ?_
        refine gq_iconst C (nI 0) 70 dX3_open_69 (by decide) rfl ?_
        obtain ⟨h70, hf⟩ := gq_ok hf
        refine gq_iast C 1 5 71 [hC cI aH (H_beds, H_law, H_sights, H_isKept, H_worths, H_sightGuests, H_sightBeds), iC cI aI (aH 0) dI (x1, (nI 0), (upd I_sleepers_L37 x2_L37.toNatClampNeg (-1 : Int32)), I_empty, (nI 0), I_yard, (nI 0), (upd I_nights_L37 x2_L37.toNatClampNeg (nI 0)), (upd I_used_L37 x2_L37.toNatClampNeg (nI 0)), I_sheets_L37, (upd I_lastOnes_L37 x2_L37.toNatClampNeg (-1 : Int32)), (nI 0), (nI 0), (nI 1))] rfl rfl h70 rfl dX3_open_70 rfl ?_
        refine gq_aload_n C 1 72 dX3_open_71 rfl rfl ?_
        refine gq_get C fo_X3_11 fw_X3_27 1 0 75 rfl rfl rfl dX3_open_72 rfl ?_
        refine gq_iload_n C 0 76 dX3_open_75 rfl rfl ?_
        refine gq_iconst C (nI 0) 77 dX3_open_76 (by decide) rfl ?_
        obtain ⟨h77, hf⟩ := gq_ok hf
        refine gq_iast C 1 6 78 [hC cI aH (H_beds, H_law, H_sights, H_isKept, H_worths, H_sightGuests, H_sightBeds), iC cI aI (aH 0) dI (x1, (nI 0), (upd I_sleepers_L37 x2_L37.toNatClampNeg (-1 : Int32)), I_empty, (nI 0), I_yard, (nI 0), (upd I_nights_L37 x2_L37.toNatClampNeg (nI 0)), (upd I_used_L37 x2_L37.toNatClampNeg (nI 0)), (upd I_sheets_L37 x2_L37.toNatClampNeg (nI 0)), (upd I_lastOnes_L37 x2_L37.toNatClampNeg (-1 : Int32)), (nI 0), (nI 0), (nI 1))] rfl rfl h77 rfl dX3_open_77 rfl ?_
        refine gq_iinc C 0 [(2, .int (x2_L37 + (nI 1))), (0, .ref (aI 0)), (1, .int x1)] 81 dX3_open_78 rfl rfl (by decide) rfl rfl ?_
        refine gq_goto C 37 dX3_open_81 (by decide) ?_
        exact ihL37 _ _ _ _ _ _ hf
  refine L37 _ (fun x2_L37 I_sleepers_L37 I_nights_L37 I_used_L37 I_sheets_L37 I_lastOnes_L37 hf => ?_) _ _ _ _ _ _ _ hf
  refine gq_iconst C (nI 0) 85 dX3_open_84 (by decide) rfl ?_
  refine gq_istore_n C [(2, .int (nI 0)), (0, .ref (aI 0)), (1, .int x1)] 86 dX3_open_85 (by decide) rfl rfl ?_
  have L86 : ∀ (kL : Int32 → Int32 → Int32 → (Nat → Int32) → (Nat → Int32) → Int32 → (Nat → Int32) → Int32 → (Nat → Int32) → (Nat → Int32) → (Nat → Int32) → (Nat → Int32) → Int32 → Int32 → Int32 → Option (InnS)), (∀ (x2_L86 : Int32) (I_law_L86 : Int32) (I_there_L86 : Int32) (I_sleepers_L86 : (Nat → Int32)) (I_empty_L86 : (Nat → Int32)) (I_empties_L86 : Int32) (I_yard_L86 : (Nat → Int32)) (I_waiting_L86 : Int32) (I_nights_L86 : (Nat → Int32)) (I_used_L86 : (Nat → Int32)) (I_sheets_L86 : (Nat → Int32)) (I_lastOnes_L86 : (Nat → Int32)) (I_guestsWithFleas_L86 : Int32) (I_bedsWithFleas_L86 : Int32) (I_isCounting_L86 : Int32), kL x2_L86 I_law_L86 I_there_L86 I_sleepers_L86 I_empty_L86 I_empties_L86 I_yard_L86 I_waiting_L86 I_nights_L86 I_used_L86 I_sheets_L86 I_lastOnes_L86 I_guestsWithFleas_L86 I_bedsWithFleas_L86 I_isCounting_L86 = some rr → G p l e R s m args below meth c 3 D A H0 0 0 Q [hC cI aH (H_beds, H_law, H_sights, H_isKept, H_worths, H_sightGuests, H_sightBeds), iC cI aI (aH 0) dI (I_law_L86, I_there_L86, I_sleepers_L86, I_empty_L86, I_empties_L86, I_yard_L86, I_waiting_L86, I_nights_L86, I_used_L86, I_sheets_L86, I_lastOnes_L86, I_guestsWithFleas_L86, I_bedsWithFleas_L86, I_isCounting_L86)] 108 [(2, .int x2_L86), (0, .ref (aI 0)), (1, .int x1)] []) → ∀ (n : Nat) (x2_L86 : Int32) (I_law_L86 : Int32) (I_there_L86 : Int32) (I_sleepers_L86 : (Nat → Int32)) (I_empty_L86 : (Nat → Int32)) (I_empties_L86 : Int32) (I_yard_L86 : (Nat → Int32)) (I_waiting_L86 : Int32) (I_nights_L86 : (Nat → Int32)) (I_used_L86 : (Nat → Int32)) (I_sheets_L86 : (Nat → Int32)) (I_lastOnes_L86 : (Nat → Int32)) (I_guestsWithFleas_L86 : Int32) (I_bedsWithFleas_L86 : Int32) (I_isCounting_L86 : Int32), f_X3_open_L86 H_beds n x2_L86 I_law_L86 I_there_L86 I_sleepers_L86 I_empty_L86 I_empties_L86 I_yard_L86 I_waiting_L86 I_nights_L86 I_used_L86 I_sheets_L86 I_lastOnes_L86 I_guestsWithFleas_L86 I_bedsWithFleas_L86 I_isCounting_L86 kL = some rr → G p l e R s m args below meth c 3 D A H0 0 0 Q [hC cI aH (H_beds, H_law, H_sights, H_isKept, H_worths, H_sightGuests, H_sightBeds), iC cI aI (aH 0) dI (I_law_L86, I_there_L86, I_sleepers_L86, I_empty_L86, I_empties_L86, I_yard_L86, I_waiting_L86, I_nights_L86, I_used_L86, I_sheets_L86, I_lastOnes_L86, I_guestsWithFleas_L86, I_bedsWithFleas_L86, I_isCounting_L86)] 86 [(2, .int x2_L86), (0, .ref (aI 0)), (1, .int x1)] [] := by
    intro kL hkL86 n
    induction n with
    | zero =>
      intro x2_L86 I_law_L86 I_there_L86 I_sleepers_L86 I_empty_L86 I_empties_L86 I_yard_L86 I_waiting_L86 I_nights_L86 I_used_L86 I_sheets_L86 I_lastOnes_L86 I_guestsWithFleas_L86 I_bedsWithFleas_L86 I_isCounting_L86 hf
      rw [f_X3_open_L86] at hf
      cases hf
    | succ n ihL86 =>
      intro x2_L86 I_law_L86 I_there_L86 I_sleepers_L86 I_empty_L86 I_empties_L86 I_yard_L86 I_waiting_L86 I_nights_L86 I_used_L86 I_sheets_L86 I_lastOnes_L86 I_guestsWithFleas_L86 I_bedsWithFleas_L86 I_isCounting_L86 hf
      rw [f_X3_open_L86] at hf
      refine gq_iload_n C 0 87 dX3_open_86 rfl rfl ?_
      refine gq_aload_n C 1 88 dX3_open_87 rfl rfl ?_
      refine gq_get C fo_X3_0 fw_X3_33 1 0 91 rfl rfl rfl dX3_open_88 rfl ?_
      refine gq_getN C fo_X2_0 fw_X3_64 0 0 94 rfl rfl rfl dX3_open_91 rfl ?_
      refine gq_icmp_ge C 108 97 dX3_open_94 (by decide) rfl (fun h94 => ?_) (fun h94 => ?_)
      · replace hf := gq_ifp h94 hf
        exact hkL86 _ _ _ _ _ _ _ _ _ _ _ _ _ _ _ hf
      · replace hf := gq_ifn h94 hf
        refine gq_aload_n C 1 98 dX3_open_97 rfl rfl ?_
        refine gq_iload_n C 0 99 dX3_open_98 rfl rfl ?_
        obtain ⟨⟨I_law_99, I_there_99, I_sleepers_99, I_empty_99, I_empties_99, I_yard_99, I_waiting_99, I_nights_99, I_used_99, I_sheets_99, I_lastOnes_99, I_guestsWithFleas_99, I_bedsWithFleas_99, I_isCounting_99⟩, hc, hf⟩ := gq_bd hf
        refine gq_callV C hA gm_X3_69 (c_X3_leaveEmpty l D cI cZ aI (aH 0) dI x2_L86 (I_law_L86, I_there_L86, I_sleepers_L86, I_empty_L86, I_empties_L86, I_yard_L86, I_waiting_L86, I_nights_L86, I_used_L86, I_sheets_L86, I_lastOnes_L86, I_guestsWithFleas_L86, I_bedsWithFleas_L86, I_isCounting_L86) _ hc) rfl 1 0 rfl rfl rfl ⟨Nat.le_trans (Nat.le_of_ble_eq_true rfl) hR.1, Nat.le_trans (Nat.le_of_ble_eq_true rfl) hR.2.1⟩ ⟨Nat.zero_le _, Nat.zero_le _⟩ rfl (Nat.le_of_ble_eq_true rfl) dX3_open_99 [1] [hC cI aH (H_beds, H_law, H_sights, H_isKept, H_worths, H_sightGuests, H_sightBeds), iC cI aI (aH 0) dI (I_law_99, I_there_99, I_sleepers_99, I_empty_99, I_empties_99, I_yard_99, I_waiting_99, I_nights_99, I_used_99, I_sheets_99, I_lastOnes_99, I_guestsWithFleas_99, I_bedsWithFleas_99, I_isCounting_99)] 102 rfl (by decide) rfl rfl rfl [] rfl ?_
        refine gq_iinc C 0 [(2, .int (x2_L86 + (nI 1))), (0, .ref (aI 0)), (1, .int x1)] 105 dX3_open_102 rfl rfl (by decide) rfl rfl ?_
        refine gq_goto C 86 dX3_open_105 (by decide) ?_
        exact ihL86 _ _ _ _ _ _ _ _ _ _ _ _ _ _ _ hf
  refine L86 _ (fun x2_L86 I_law_L86 I_there_L86 I_sleepers_L86 I_empty_L86 I_empties_L86 I_yard_L86 I_waiting_L86 I_nights_L86 I_used_L86 I_sheets_L86 I_lastOnes_L86 I_guestsWithFleas_L86 I_bedsWithFleas_L86 I_isCounting_L86 hf => ?_) _ _ _ _ _ _ _ _ _ _ _ _ _ _ _ _ hf
  obtain rfl := gq_lf hf
  exact hret dX3_open_108 gPost.rf
