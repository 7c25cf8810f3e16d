def f_X5_isGuest : Int32 → Option (Int32)
  | x0 => (if x0 < 0 then some (nI 0) else (if (nI 8) ≤ x0 then some (nI 0) else some (nI 1)))
set_option maxHeartbeats 4000000 in
set_option maxRecDepth 100000 in
theorem c_X5_isGuest (l : Launch) (D : va_G) (cI cZ : ClassId) (x0 : Int32) (rr : Int32) (hf : f_X5_isGuest x0 = some rr) : CT l D cI cZ yX5_isGuest cX5_isGuest 1 (some .boolean) 0 0 0 0 [.int x0] ([]) (gPost (some (.int rr)) ([])) := by
  rw [f_X5_isGuest] at hf
  refine CT.mkZ (by decide) (Nat.le_of_ble_eq_true rfl) fun {p} {e} {R} {s} {m} {args} {below} {meth} {c} {A} {H0} {Q} C hA hR hret => ?_
  show G p l e R s m args below meth c 1 D A H0 0 0 Q [] 0 [(0, .int x0)] []
  refine gq_iload_n C 0 1 dX5_isGuest_0 rfl rfl ?_
  refine gq_if_lt C 14 4 dX5_isGuest_1 (by decide) rfl (fun h1 => ?_) (fun h1 => ?_)
  · replace hf := gq_ifp h1 hf
    refine gq_iconst C (nI 0) 15 dX5_isGuest_14 (by decide) rfl ?_
    obtain rfl := gq_lf hf
    exact hret dX5_isGuest_15 rfl gPost.rf
  · replace hf := gq_ifn h1 hf
    refine gq_iload_n C 0 5 dX5_isGuest_4 rfl rfl ?_
    refine gq_bipush C (nI 8) 7 dX5_isGuest_5 (by decide) rfl ?_
    refine gq_icmp_ge C 14 10 dX5_isGuest_7 (by decide) rfl (fun h7 => ?_) (fun h7 => ?_)
    · replace hf := gq_ifp h7 hf
      refine gq_iconst C (nI 0) 15 dX5_isGuest_14 (by decide) rfl ?_
      obtain rfl := gq_lf hf
      exact hret dX5_isGuest_15 rfl gPost.rf
    · replace hf := gq_ifn h7 hf
      refine gq_iconst C (nI 1) 11 dX5_isGuest_10 (by decide) rfl ?_
      refine gq_goto C 15 dX5_isGuest_11 (by decide) ?_
      obtain rfl := gq_lf hf
      exact hret dX5_isGuest_15 rfl gPost.rf

def f_X2_furnish_L12  : Nat → Int32 → (Nat → Int32) → (Int32 → (Nat → Int32) → Option (HouS)) → Option (HouS)
  | 0, _, _, _ => none
  | nL12 + 1, x2_L12, H_worths_L12, kL12 => (if (nI 64) ≤ x2_L12 then kL12 x2_L12 H_worths_L12 else (if x2_L12 < 0 ∨ 64 ≤ x2_L12.toNatClampNeg then none else f_X2_furnish_L12  nL12 (x2_L12 + (nI 1)) (upd H_worths_L12 x2_L12.toNatClampNeg (nI 0)) kL12))
def f_X2_furnish : Int32 → HouS → Option (HouS)
  | x1, (H_beds, H_law, H_sights, H_isKept, H_worths, H_sightGuests, H_sightBeds) => f_X2_furnish_L12  FU (nI 0) H_worths (fun x2_L12 H_worths_L12 => some (x1, H_law, (nI 0), H_isKept, H_worths_L12, H_sightGuests, H_sightBeds))
set_option maxHeartbeats 4000000 in
set_option maxRecDepth 100000 in
theorem c_X2_furnish (l : Launch) (D : va_G) (cI cZ : ClassId) (aH : Nat → Nat) (x1 : Int32) (tH : HouS) (rr : HouS) (hf : f_X2_furnish x1 tH = some rr) : CT l D cI cZ yX2_furnish cX2_furnish 3 none 0 0 0 0 [.ref (aH 0), .int x1] ([hC cI aH tH]) (gPost none ([hC cI aH rr])) := by
  obtain ⟨H_beds, H_law, H_sights, H_isKept, H_worths, H_sightGuests, H_sightBeds⟩ := tH
  rw [f_X2_furnish] at hf
  refine CT.mkV (by decide) (Nat.le_of_ble_eq_true rfl) fun {p} {e} {R} {s} {m} {args} {below} {meth} {c} {A} {H0} {Q} C hA hR hnm hret => ?_
  show G p l e R s m args below meth c 3 D A H0 0 0 Q [hC cI aH (H_beds, H_law, H_sights, H_isKept, H_worths, H_sightGuests, H_sightBeds)] 0 [(0, .ref (aH 0)), (1, .int x1)] []
  refine gq_aload_n C 0 1 dX2_furnish_0 rfl rfl ?_
  refine gq_iload_n C 1 2 dX2_furnish_1 rfl rfl ?_
  refine gq_put C fo_X2_0 fp_X2_0 rfl fw_X2_9 0 0 5 [hC cI aH (x1, H_law, H_sights, H_isKept, H_worths, H_sightGuests, H_sightBeds)] rfl rfl rfl rfl (Nat.le_of_ble_eq_true rfl) rfl dX2_furnish_2 rfl ?_
  refine gq_aload_n C 0 6 dX2_furnish_5 rfl rfl ?_
  refine gq_iconst C (nI 0) 7 dX2_furnish_6 (by decide) rfl ?_
  refine gq_put C fo_X2_2 fp_X2_2 rfl fw_X2_25 0 0 10 [hC cI aH (x1, H_law, (nI 0), H_isKept, H_worths, H_sightGuests, H_sightBeds)] rfl rfl rfl rfl (Nat.le_of_ble_eq_true rfl) rfl dX2_furnish_7 rfl ?_
  refine gq_iconst C (nI 0) 11 dX2_furnish_10 (by decide) rfl ?_
  refine gq_istore_n C [(2, .int (nI 0)), (0, .ref (aH 0)), (1, .int x1)] 12 dX2_furnish_11 (by decide) rfl rfl ?_
  have L12 : ∀ (kL : Int32 → (Nat → Int32) → Option (HouS)), (∀ (x2_L12 : Int32) (H_worths_L12 : (Nat → Int32)), kL x2_L12 H_worths_L12 = some rr → G p l e R s m args below meth c 3 D A H0 0 0 Q [hC cI aH (x1, H_law, (nI 0), H_isKept, H_worths_L12, H_sightGuests, H_sightBeds)] 34 [(2, .int x2_L12), (0, .ref (aH 0)), (1, .int x1)] []) → ∀ (n : Nat) (x2_L12 : Int32) (H_worths_L12 : (Nat → Int32)), f_X2_furnish_L12  n x2_L12 H_worths_L12 kL = some rr → G p l e R s m args below meth c 3 D A H0 0 0 Q [hC cI aH (x1, H_law, (nI 0), H_isKept, H_worths_L12, H_sightGuests, H_sightBeds)] 12 [(2, .int x2_L12), (0, .ref (aH 0)), (1, .int x1)] [] := by
    intro kL hkL12 n
    induction n with
    | zero =>
      intro x2_L12 H_worths_L12 hf
      rw [f_X2_furnish_L12] at hf
      cases hf
    | succ n ihL12 =>
      intro x2_L12 H_worths_L12 hf
      rw [f_X2_furnish_L12] at hf
      refine gq_iload_n C 0 13 dX2_furnish_12 rfl rfl ?_
      refine gq_aload_n C 1 14 dX2_furnish_13 rfl rfl ?_
      refine gq_get C fo_X2_4 fw_X2_15 0 0 17 rfl rfl rfl dX2_furnish_14 rfl ?_
      refine gq_alen C 0 1 18 (nI 64) rfl rfl (by decide) dX2_furnish_17 rfl ?_
      refine gq_icmp_ge C 34 21 dX2_furnish_18 (by decide) rfl (fun h18 => ?_) (fun h18 => ?_)
      · replace hf := gq_ifp h18 hf
        exact hkL12 _ _ hf
      · replace hf := gq_ifn h18 hf
        refine gq_aload_n C 1 22 dX2_furnish_21 rfl rfl ?_
        refine gq_get C fo_X2_4 fw_X2_15 0 0 25 rfl rfl rfl dX2_furnish_22 rfl ?_
        refine gq_iload_n C 0 26 dX2_furnish_25 rfl rfl ?_
        refine gq_iconst C (nI 0) 27 dX2_furnish_26 (by decide) rfl ?_
        obtain ⟨h27, hf⟩ := gq_ok hf
        refine gq_iast C 0 1 28 [hC cI aH (x1, H_law, (nI 0), H_isKept, (upd H_worths_L12 x2_L12.toNatClampNeg (nI 0)), H_sightGuests, H_sightBeds)] rfl rfl h27 rfl dX2_furnish_27 rfl ?_
        refine gq_iinc C 0 [(2, .int (x2_L12 + (nI 1))), (0, .ref (aH 0)), (1, .int x1)] 31 dX2_furnish_28 rfl rfl (by decide) rfl rfl ?_
        refine gq_goto C 12 dX2_furnish_31 (by decide) ?_
        exact ihL12 _ _ hf
  refine L12 _ (fun x2_L12 H_worths_L12 hf => ?_) _ _ _ hf
  obtain rfl := gq_lf hf
  exact hret dX2_furnish_34 gPost.rf

def f_X2_worthOf : Int32 → Int32 → HouS → Option (Int32)
  | x1, x2, (H_beds, H_law, H_sights, H_isKept, H_worths, H_sightGuests, H_sightBeds) => (if x1 < 0 then some (nI 0) else (if (nI 8) ≤ x1 then some (nI 0) else (if x2 < 0 then some (nI 0) else (if x2 < (nI 8) then (if ((x1 * (nI 8)) + x2) < 0 ∨ 64 ≤ ((x1 * (nI 8)) + x2).toNatClampNeg then none else some (H_worths ((x1 * (nI 8)) + x2).toNatClampNeg)) else some (nI 0)))))
set_option maxHeartbeats 4000000 in
set_option maxRecDepth 100000 in
theorem c_X2_worthOf (l : Launch) (D : va_G) (cI cZ : ClassId) (aH : Nat → Nat) (x1 : Int32) (x2 : Int32) (tH : HouS) (rr : Int32) (hf : f_X2_worthOf x1 x2 tH = some rr) : CT l D cI cZ yX2_worthOf cX2_worthOf 3 (some .int) 0 0 0 0 [.ref (aH 0), .int x1, .int x2] ([hC cI aH tH]) (gPost (some (.int rr)) ([hC cI aH tH])) := by
  obtain ⟨H_beds, H_law, H_sights, H_isKept, H_worths, H_sightGuests, H_sightBeds⟩ := tH
  rw [f_X2_worthOf] at hf
  refine CT.mkI (by decide) (Nat.le_of_ble_eq_true rfl) fun {p} {e} {R} {s} {m} {args} {below} {meth} {c} {A} {H0} {Q} C hA hR hret => ?_
  show G p l e R s m args below meth c 3 D A H0 0 0 Q [hC cI aH (H_beds, H_law, H_sights, H_isKept, H_worths, H_sightGuests, H_sightBeds)] 0 [(0, .ref (aH 0)), (1, .int x1), (2, .int x2)] []
  refine gq_iload_n C 1 1 dX2_worthOf_0 rfl rfl ?_
  refine gq_if_lt C 20 4 dX2_worthOf_1 (by decide) rfl (fun h1 => ?_) (fun h1 => ?_)
  · replace hf := gq_ifp h1 hf
    refine gq_iconst C (nI 0) 21 dX2_worthOf_20 (by decide) rfl ?_
    obtain rfl := gq_lf hf
    exact hret dX2_worthOf_21 gPost.rf
  · replace hf := gq_ifn h1 hf
    refine gq_iload_n C 1 5 dX2_worthOf_4 rfl rfl ?_
    refine gq_bipush C (nI 8) 7 dX2_worthOf_5 (by decide) rfl ?_
    refine gq_icmp_ge C 20 10 dX2_worthOf_7 (by decide) rfl (fun h7 => ?_) (fun h7 => ?_)
    · replace hf := gq_ifp h7 hf
      refine gq_iconst C (nI 0) 21 dX2_worthOf_20 (by decide) rfl ?_
      obtain rfl := gq_lf hf
      exact hret dX2_worthOf_21 gPost.rf
    · replace hf := gq_ifn h7 hf
      refine gq_iload_n C 2 11 dX2_worthOf_10 rfl rfl ?_
      refine gq_if_lt C 20 14 dX2_worthOf_11 (by decide) rfl (fun h11 => ?_) (fun h11 => ?_)
      · replace hf := gq_ifp h11 hf
        refine gq_iconst C (nI 0) 21 dX2_worthOf_20 (by decide) rfl ?_
        obtain rfl := gq_lf hf
        exact hret dX2_worthOf_21 gPost.rf
      · replace hf := gq_ifn h11 hf
        refine gq_iload_n C 2 15 dX2_worthOf_14 rfl rfl ?_
        refine gq_bipush C (nI 8) 17 dX2_worthOf_15 (by decide) rfl ?_
        refine gq_icmp_lt C 22 20 dX2_worthOf_17 (by decide) rfl (fun h17 => ?_) (fun h17 => ?_)
        · replace hf := gq_ifp h17 hf
          refine gq_aload_n C 0 23 dX2_worthOf_22 rfl rfl ?_
          refine gq_get C fo_X2_4 fw_X2_15 0 0 26 rfl rfl rfl dX2_worthOf_23 rfl ?_
          refine gq_iload_n C 1 27 dX2_worthOf_26 rfl rfl ?_
          refine gq_bipush C (nI 8) 29 dX2_worthOf_27 (by decide) rfl ?_
          refine gq_imul C 30 dX2_worthOf_29 rfl ?_
          refine gq_iload_n C 2 31 dX2_worthOf_30 rfl rfl ?_
          refine gq_iadd C 32 dX2_worthOf_31 rfl ?_
          obtain ⟨h32, hf⟩ := gq_ok hf
          refine gq_iald C 0 1 33 rfl rfl h32 dX2_worthOf_32 rfl ?_
          obtain rfl := gq_lf hf
          exact hret dX2_worthOf_33 gPost.rf
        · replace hf := gq_ifn h17 hf
          refine gq_iconst C (nI 0) 21 dX2_worthOf_20 (by decide) rfl ?_
          obtain rfl := gq_lf hf
          exact hret dX2_worthOf_21 gPost.rf

def f_X2_setWorth : Int32 → Int32 → Int32 → HouS → Option (HouS)
  | x1, x2, x3, (H_beds, H_law, H_sights, H_isKept, H_worths, H_sightGuests, H_sightBeds) => (Option.bind (f_X5_isGuest x1) (fun r_1 => (if r_1 = 0 then some (H_beds, H_law, H_sights, H_isKept, H_worths, H_sightGuests, H_sightBeds) else (if x2 < 0 then some (H_beds, H_law, H_sights, H_isKept, H_worths, H_sightGuests, H_sightBeds) else (if (nI 8) ≤ x2 then some (H_beds, H_law, H_sights, H_isKept, H_worths, H_sightGuests, H_sightBeds) else (if ((x1 * (nI 8)) + x2) < 0 ∨ 64 ≤ ((x1 * (nI 8)) + x2).toNatClampNeg then none else some (H_beds, H_law, H_sights, H_isKept, (upd H_worths ((x1 * (nI 8)) + x2).toNatClampNeg x3), H_sightGuests, H_sightBeds)))))))
set_option maxHeartbeats 4000000 in
set_option maxRecDepth 100000 in
theorem c_X2_setWorth (l : Launch) (D : va_G) (cI cZ : ClassId) (aH : Nat → Nat) (x1 : Int32) (x2 : Int32) (x3 : Int32) (tH : HouS) (rr : HouS) (hf : f_X2_setWorth x1 x2 x3 tH = some rr) : CT l D cI cZ yX2_setWorth cX2_setWorth 4 none 1 20 0 0 [.ref (aH 0), .int x1, .int x2, .int x3] ([hC cI aH tH]) (gPost none ([hC cI aH rr])) := by
  obtain ⟨H_beds, H_law, H_sights, H_isKept, H_worths, H_sightGuests, H_sightBeds⟩ := tH
  rw [f_X2_setWorth] at hf
  refine CT.mkV (by decide) (Nat.le_of_ble_eq_true rfl) fun {p} {e} {R} {s} {m} {args} {below} {meth} {c} {A} {H0} {Q} C hA hR hnm hret => ?_
  show G p l e R s m args below meth c 4 D A H0 0 0 Q [hC cI aH (H_beds, H_law, H_sights, H_isKept, H_worths, H_sightGuests, H_sightBeds)] 0 [(0, .ref (aH 0)), (1, .int x1), (2, .int x2), (3, .int x3)] []
  refine gq_iload_n C 1 1 dX2_setWorth_0 rfl rfl ?_
  obtain ⟨r_1, hc, hf⟩ := gq_bd hf
  refine gq_callT C hA gm_X2_28 (c_X5_isGuest l D cI cZ  x1 _ hc) rfl ⟨Nat.le_trans (Nat.le_of_ble_eq_true rfl) hR.1, Nat.le_trans (Nat.le_of_ble_eq_true rfl) hR.2.1⟩ ⟨Nat.zero_le _, Nat.zero_le _⟩ rfl (Nat.le_of_ble_eq_true rfl) dX2_setWorth_1 [] [hC cI aH (H_beds, H_law, H_sights, H_isKept, H_worths, H_sightGuests, H_sightBeds)] 4 rfl (by decide) rfl rfl rfl [.int r_1] rfl ?_
  refine gq_if_eq C 29 7 dX2_setWorth_4 (by decide) rfl (fun h4 => ?_) (fun h4 => ?_)
  · replace hf := gq_ifp h4 hf
    obtain rfl := gq_lf hf
    exact hret dX2_setWorth_29 gPost.rf
  · replace hf := gq_ifn h4 hf
    refine gq_iload_n C 2 8 dX2_setWorth_7 rfl rfl ?_
    refine gq_if_lt C 29 11 dX2_setWorth_8 (by decide) rfl (fun h8 => ?_) (fun h8 => ?_)
    · replace hf := gq_ifp h8 hf
      obtain rfl := gq_lf hf
      exact hret dX2_setWorth_29 gPost.rf
    · replace hf := gq_ifn h8 hf
      refine gq_iload_n C 2 12 dX2_setWorth_11 rfl rfl ?_
      refine gq_bipush C (nI 8) 14 dX2_setWorth_12 (by decide) rfl ?_
      refine gq_icmp_ge C 29 17 dX2_setWorth_14 (by decide) rfl (fun h14 => ?_) (fun h14 => ?_)
      · replace hf := gq_ifp h14 hf
        obtain rfl := gq_lf hf
        exact hret dX2_setWorth_29 gPost.rf
      · replace hf := gq_ifn h14 hf
        refine gq_aload_n C 0 18 dX2_setWorth_17 rfl rfl ?_
        refine gq_get C fo_X2_4 fw_X2_15 0 0 21 rfl rfl rfl dX2_setWorth_18 rfl ?_
        refine gq_iload_n C 1 22 dX2_setWorth_21 rfl rfl ?_
        refine gq_bipush C (nI 8) 24 dX2_setWorth_22 (by decide) rfl ?_
        refine gq_imul C 25 dX2_setWorth_24 rfl ?_
        refine gq_iload_n C 2 26 dX2_setWorth_25 rfl rfl ?_
        refine gq_iadd C 27 dX2_setWorth_26 rfl ?_
        refine gq_iload_n C 3 28 dX2_setWorth_27 rfl rfl ?_
        obtain ⟨h28, hf⟩ := gq_ok hf
        refine gq_iast C 0 1 29 [hC cI aH (H_beds, H_law, H_sights, H_isKept, (upd H_worths ((x1 * (nI 8)) + x2).toNatClampNeg x3), H_sightGuests, H_sightBeds)] rfl rfl h28 rfl dX2_setWorth_28 rfl ?_
        obtain rfl := gq_lf hf
        exact hret dX2_setWorth_29 gPost.rf

def f_X2_addSight : Int32 → Int32 → HouS → Option (HouS)
  | x1, x2, (H_beds, H_law, H_sights, H_isKept, H_worths, H_sightGuests, H_sightBeds) => (if H_sights < 0 then some (H_beds, H_law, H_sights, H_isKept, H_worths, H_sightGuests, H_sightBeds) else (if (nI 6) ≤ H_sights then some (H_beds, H_law, H_sights, H_isKept, H_worths, H_sightGuests, H_sightBeds) else (if H_sights < 0 ∨ 6 ≤ H_sights.toNatClampNeg then none else (if H_sights < 0 ∨ 6 ≤ H_sights.toNatClampNeg then none else some (H_beds, H_law, (H_sights + (nI 1)), H_isKept, H_worths, (upd H_sightGuests H_sights.toNatClampNeg x1), (upd H_sightBeds H_sights.toNatClampNeg x2))))))
set_option maxHeartbeats 4000000 in
set_option maxRecDepth 100000 in
theorem c_X2_addSight (l : Launch) (D : va_G) (cI cZ : ClassId) (aH : Nat → Nat) (x1 : Int32) (x2 : Int32) (tH : HouS) (rr : HouS) (hf : f_X2_addSight x1 x2 tH = some rr) : CT l D cI cZ yX2_addSight cX2_addSight 3 none 0 0 0 0 [.ref (aH 0), .int x1, .int x2] ([hC cI aH tH]) (gPost none ([hC cI aH rr])) := by
  obtain ⟨H_beds, H_law, H_sights, H_isKept, H_worths, H_sightGuests, H_sightBeds⟩ := tH
  rw [f_X2_addSight] at hf
  refine CT.mkV (by decide) (Nat.le_of_ble_eq_true rfl) fun {p} {e} {R} {s} {m} {args} {below} {meth} {c} {A} {H0} {Q} C hA hR hnm hret => ?_
  show G p l e R s m args below meth c 3 D A H0 0 0 Q [hC cI aH (H_beds, H_law, H_sights, H_isKept, H_worths, H_sightGuests, H_sightBeds)] 0 [(0, .ref (aH 0)), (1, .int x1), (2, .int x2)] []
  refine gq_aload_n C 0 1 dX2_addSight_0 rfl rfl ?_
  refine gq_get C fo_X2_2 fw_X2_25 0 0 4 rfl rfl rfl dX2_addSight_1 rfl ?_
  refine gq_if_lt C 46 7 dX2_addSight_4 (by decide) rfl (fun h4 => ?_) (fun h4 => ?_)
  · replace hf := gq_ifp h4 hf
    obtain rfl := gq_lf hf
    exact hret dX2_addSight_46 gPost.rf
  · replace hf := gq_ifn h4 hf
    refine gq_aload_n C 0 8 dX2_addSight_7 rfl rfl ?_
    refine gq_get C fo_X2_2 fw_X2_25 0 0 11 rfl rfl rfl dX2_addSight_8 rfl ?_
    refine gq_bipush C (nI 6) 13 dX2_addSight_11 (by decide) rfl ?_
    refine gq_icmp_ge C 46 16 dX2_addSight_13 (by decide) rfl (fun h13 => ?_) (fun h13 => ?_)
    · replace hf := gq_ifp h13 hf
      obtain rfl := gq_lf hf
      exact hret dX2_addSight_46 gPost.rf
    · replace hf := gq_ifn h13 hf
      refine gq_aload_n C 0 17 dX2_addSight_16 rfl rfl ?_
      refine gq_get C fo_X2_5 fw_X2_19 0 0 20 rfl rfl rfl dX2_addSight_17 rfl ?_
      refine gq_aload_n C 0 21 dX2_addSight_20 rfl rfl ?_
      refine gq_get C fo_X2_2 fw_X2_25 0 0 24 rfl rfl rfl dX2_addSight_21 rfl ?_
      refine gq_iload_n C 1 25 dX2_addSight_24 rfl rfl ?_
      obtain ⟨h25, hf⟩ := gq_ok hf
      refine gq_iast C 0 2 26 [hC cI aH (H_beds, H_law, H_sights, H_isKept, H_worths, (upd H_sightGuests H_sights.toNatClampNeg x1), H_sightBeds)] rfl rfl h25 rfl dX2_addSight_25 rfl ?_
      refine gq_aload_n C 0 27 dX2_addSight_26 rfl rfl ?_
      refine gq_get C fo_X2_6 fw_X2_22 0 0 30 rfl rfl rfl dX2_addSight_27 rfl ?_
      refine gq_aload_n C 0 31 dX2_addSight_30 rfl rfl ?_
      refine gq_get C fo_X2_2 fw_X2_25 0 0 34 rfl rfl rfl dX2_addSight_31 rfl ?_
      refine gq_iload_n C 2 35 dX2_addSight_34 rfl rfl ?_
      obtain ⟨h35, hf⟩ := gq_ok hf
      refine gq_iast C 0 3 36 [hC cI aH (H_beds, H_law, H_sights, H_isKept, H_worths, (upd H_sightGuests H_sights.toNatClampNeg x1), (upd H_sightBeds H_sights.toNatClampNeg x2))] rfl rfl h35 rfl dX2_addSight_35 rfl ?_
      refine gq_aload_n C 0 37 dX2_addSight_36 rfl rfl ?_
      refine gq_dup C 38 dX2_addSight_37 rfl rfl ?_
      refine gq_get C fo_X2_2 fw_X2_25 0 0 41 rfl rfl rfl dX2_addSight_38 rfl ?_
      refine gq_iconst C (nI 1) 42 dX2_addSight_41 (by decide) rfl ?_
      refine gq_iadd C 43 dX2_addSight_42 rfl ?_
      refine gq_put C fo_X2_2 fp_X2_2 rfl fw_X2_25 0 0 46 [hC cI aH (H_beds, H_law, (H_sights + (nI 1)), H_isKept, H_worths, (upd H_sightGuests H_sights.toNatClampNeg x1), (upd H_sightBeds H_sights.toNatClampNeg x2))] rfl rfl rfl rfl (Nat.le_of_ble_eq_true rfl) rfl dX2_addSight_43 rfl ?_
      obtain rfl := gq_lf hf
      exact hret dX2_addSight_46 gPost.rf

def f_X2_copy : HouS → HouS → Option (HouS)
  | (H_beds, H_law, H_sights, H_isKept, H_worths, H_sightGuests, H_sightBeds), (Y_beds, Y_law, Y_sights, Y_isKept, Y_worths, Y_sightGuests, Y_sightBeds) => some (Y_beds, Y_law, Y_sights, H_isKept, (va_cpy Y_worths H_worths 0 0 (nI 64).toNatClampNeg), (va_cpy Y_sightGuests H_sightGuests 0 0 (nI 6).toNatClampNeg), (va_cpy Y_sightBeds H_sightBeds 0 0 (nI 6).toNatClampNeg))
set_option maxHeartbeats 4000000 in
set_option maxRecDepth 100000 in
theorem c_X2_copy (l : Launch) (D : va_G) (cI cZ : ClassId) (aH : Nat → Nat) (aY : Nat → Nat) (tH : HouS) (tY : HouS) (rr : HouS) (hf : f_X2_copy tH tY = some rr) : CT l D cI cZ yX2_copy cX2_copy 2 none 1 60 0 0 [.ref (aH 0), .ref (aY 0)] ([hC cI aH tH, hC cI aY tY]) (gPost none ([hC cI aH rr, hC cI aY tY])) := by
  obtain ⟨H_beds, H_law, H_sights, H_isKept, H_worths, H_sightGuests, H_sightBeds⟩ := tH
  obtain ⟨Y_beds, Y_law, Y_sights, Y_isKept, Y_worths, Y_sightGuests, Y_sightBeds⟩ := tY
  rw [f_X2_copy] at hf
  refine CT.mkV (by decide) (Nat.le_of_ble_eq_true rfl) fun {p} {e} {R} {s} {m} {args} {below} {meth} {c} {A} {H0} {Q} C hA hR hnm hret => ?_
  show G p l e R s m args below meth c 2 D A H0 0 0 Q [hC cI aH (H_beds, H_law, H_sights, H_isKept, H_worths, H_sightGuests, H_sightBeds), hC cI aY (Y_beds, Y_law, Y_sights, Y_isKept, Y_worths, Y_sightGuests, Y_sightBeds)] 0 [(0, .ref (aH 0)), (1, .ref (aY 0))] []
  refine gq_aload_n C 0 1 dX2_copy_0 rfl rfl ?_
  refine gq_aload_n C 1 2 dX2_copy_1 rfl rfl ?_
  refine gq_get C fo_X2_0 fw_X2_9 1 0 5 rfl rfl rfl dX2_copy_2 rfl ?_
  refine gq_put C fo_X2_0 fp_X2_0 rfl fw_X2_9 0 0 8 [hC cI aH (Y_beds, H_law, H_sights, H_isKept, H_worths, H_sightGuests, H_sightBeds), hC cI aY (Y_beds, Y_law, Y_sights, Y_isKept, Y_worths, Y_sightGuests, Y_sightBeds)] rfl rfl rfl rfl (Nat.le_of_ble_eq_true rfl) rfl dX2_copy_5 rfl ?_
  refine gq_aload_n C 0 9 dX2_copy_8 rfl rfl ?_
  refine gq_aload_n C 1 10 dX2_copy_9 rfl rfl ?_
  refine gq_get C fo_X2_1 fw_X2_38 1 0 13 rfl rfl rfl dX2_copy_10 rfl ?_
  refine gq_put C fo_X2_1 fp_X2_1 rfl fw_X2_38 0 0 16 [hC cI aH (Y_beds, Y_law, H_sights, H_isKept, H_worths, H_sightGuests, H_sightBeds), hC cI aY (Y_beds, Y_law, Y_sights, Y_isKept, Y_worths, Y_sightGuests, Y_sightBeds)] rfl rfl rfl rfl (Nat.le_of_ble_eq_true rfl) rfl dX2_copy_13 rfl ?_
  refine gq_aload_n C 0 17 dX2_copy_16 rfl rfl ?_
  refine gq_aload_n C 1 18 dX2_copy_17 rfl rfl ?_
  refine gq_get C fo_X2_2 fw_X2_25 1 0 21 rfl rfl rfl dX2_copy_18 rfl ?_
  refine gq_put C fo_X2_2 fp_X2_2 rfl fw_X2_25 0 0 24 [hC cI aH (Y_beds, Y_law, Y_sights, H_isKept, H_worths, H_sightGuests, H_sightBeds), hC cI aY (Y_beds, Y_law, Y_sights, Y_isKept, Y_worths, Y_sightGuests, Y_sightBeds)] rfl rfl rfl rfl (Nat.le_of_ble_eq_true rfl) rfl dX2_copy_21 rfl ?_
  refine gq_aload_n C 1 25 dX2_copy_24 rfl rfl ?_
  refine gq_get C fo_X2_4 fw_X2_15 1 0 28 rfl rfl rfl dX2_copy_25 rfl ?_
  refine gq_iconst C (nI 0) 29 dX2_copy_28 (by decide) rfl ?_
  refine gq_aload_n C 0 30 dX2_copy_29 rfl rfl ?_
  refine gq_get C fo_X2_4 fw_X2_15 0 0 33 rfl rfl rfl dX2_copy_30 rfl ?_
  refine gq_iconst C (nI 0) 34 dX2_copy_33 (by decide) rfl ?_
  refine gq_aload_n C 0 35 dX2_copy_34 rfl rfl ?_
  refine gq_get C fo_X2_4 fw_X2_15 0 0 38 rfl rfl rfl dX2_copy_35 rfl ?_
  refine gq_alen C 0 1 39 (nI 64) rfl rfl (by decide) dX2_copy_38 rfl ?_
  refine gq_copy C 1 1 0 1 42 [hC cI aH (Y_beds, Y_law, Y_sights, H_isKept, (va_cpy Y_worths H_worths 0 0 (nI 64).toNatClampNeg), H_sightGuests, H_sightBeds), hC cI aY (Y_beds, Y_law, Y_sights, Y_isKept, Y_worths, Y_sightGuests, Y_sightBeds)] mw_X2_41 aw_native aw_static aw_ini rfl rfl rfl rfl (by decide) (by decide) (by decide) rfl (Nat.le_trans (Nat.le_of_ble_eq_true rfl) hR.1) (Nat.le_trans (Nat.le_of_ble_eq_true rfl) hR.2.1) dX2_copy_39 rfl ?_
  refine gq_aload_n C 1 43 dX2_copy_42 rfl rfl ?_
  refine gq_get C fo_X2_5 fw_X2_19 1 0 46 rfl rfl rfl dX2_copy_43 rfl ?_
  refine gq_iconst C (nI 0) 47 dX2_copy_46 (by decide) rfl ?_
  refine gq_aload_n C 0 48 dX2_copy_47 rfl rfl ?_
  refine gq_get C fo_X2_5 fw_X2_19 0 0 51 rfl rfl rfl dX2_copy_48 rfl ?_
  refine gq_iconst C (nI 0) 52 dX2_copy_51 (by decide) rfl ?_
  refine gq_bipush C (nI 6) 54 dX2_copy_52 (by decide) rfl ?_
  refine gq_copy C 1 2 0 2 57 [hC cI aH (Y_beds, Y_law, Y_sights, H_isKept, (va_cpy Y_worths H_worths 0 0 (nI 64).toNatClampNeg), (va_cpy Y_sightGuests H_sightGuests 0 0 (nI 6).toNatClampNeg), H_sightBeds), hC cI aY (Y_beds, Y_law, Y_sights, Y_isKept, Y_worths, Y_sightGuests, Y_sightBeds)] mw_X2_41 aw_native aw_static aw_ini rfl rfl rfl rfl (by decide) (by decide) (by decide) rfl (Nat.le_trans (Nat.le_of_ble_eq_true rfl) hR.1) (Nat.le_trans (Nat.le_of_ble_eq_true rfl) hR.2.1) dX2_copy_54 rfl ?_
  refine gq_aload_n C 1 58 dX2_copy_57 rfl rfl ?_
  refine gq_get C fo_X2_6 fw_X2_22 1 0 61 rfl rfl rfl dX2_copy_58 rfl ?_
  refine gq_iconst C (nI 0) 62 dX2_copy_61 (by decide) rfl ?_
  refine gq_aload_n C 0 63 dX2_copy_62 rfl rfl ?_
  refine gq_get C fo_X2_6 fw_X2_22 0 0 66 rfl rfl rfl dX2_copy_63 rfl ?_
  refine gq_iconst C (nI 0) 67 dX2_copy_66 (by decide) rfl ?_
  refine gq_bipush C (nI 6) 69 dX2_copy_67 (by decide) rfl ?_
  refine gq_copy C 1 3 0 3 72 [hC cI aH (Y_beds, Y_law, Y_sights, H_isKept, (va_cpy Y_worths H_worths 0 0 (nI 64).toNatClampNeg), (va_cpy Y_sightGuests H_sightGuests 0 0 (nI 6).toNatClampNeg), (va_cpy Y_sightBeds H_sightBeds 0 0 (nI 6).toNatClampNeg)), hC cI aY (Y_beds, Y_law, Y_sights, Y_isKept, Y_worths, Y_sightGuests, Y_sightBeds)] mw_X2_41 aw_native aw_static aw_ini rfl rfl rfl rfl (by decide) (by decide) (by decide) rfl (Nat.le_trans (Nat.le_of_ble_eq_true rfl) hR.1) (Nat.le_trans (Nat.le_of_ble_eq_true rfl) hR.2.1) dX2_copy_69 rfl ?_
  obtain rfl := gq_lf hf
  exact hret dX2_copy_72 gPost.rf

def f_X3_bitOf : Int32 → Option (Int32)
  | x0 => (if x0 < 0 then some (nI 0) else (if (nI 8) ≤ x0 then some (nI 0) else some ((nI 1) <<< (x0 &&& 31))))
set_option maxHeartbeats 4000000 in
set_option maxRecDepth 100000 in
theorem c_X3_bitOf (l : Launch) (D : va_G) (cI cZ : ClassId) (x0 : Int32) (rr : Int32) (hf : f_X3_bitOf x0 = some rr) : CT l D cI cZ yX3_bitOf cX3_bitOf 1 (some .int) 0 0 0 0 [.int x0] ([]) (gPost (some (.int rr)) ([])) := by
  rw [f_X3_bitOf] at hf
  refine CT.mkI (by decide) (Nat.le_of_ble_eq_true rfl) fun {p} {e} {R} {s} {m} {args} {below} {meth} {c} {A} {H0} {Q} C hA hR hret => ?_
  show G p l e R s m args below meth c 1 D A H0 0 0 Q [] 0 [(0, .int x0)] []
  refine gq_iload_n C 0 1 dX3_bitOf_0 rfl rfl ?_
  refine gq_if_lt C 16 4 dX3_bitOf_1 (by decide) rfl (fun h1 => ?_) (fun h1 => ?_)
  · replace hf := gq_ifp h1 hf
    refine gq_iconst C (nI 0) 17 dX3_bitOf_16 (by decide) rfl ?_
    obtain rfl := gq_lf hf
    exact hret dX3_bitOf_17 gPost.rf
  · replace hf := gq_ifn h1 hf
    refine gq_iload_n C 0 5 dX3_bitOf_4 rfl rfl ?_
    refine gq_bipush C (nI 8) 7 dX3_bitOf_5 (by decide) rfl ?_
    refine gq_icmp_ge C 16 10 dX3_bitOf_7 (by decide) rfl (fun h7 => ?_) (fun h7 => ?_)
    · replace hf := gq_ifp h7 hf
      refine gq_iconst C (nI 0) 17 dX3_bitOf_16 (by decide) rfl ?_
      obtain rfl := gq_lf hf
      exact hret dX3_bitOf_17 gPost.rf
    · replace hf := gq_ifn h7 hf
      refine gq_iconst C (nI 1) 11 dX3_bitOf_10 (by decide) rfl ?_
      refine gq_iload_n C 0 12 dX3_bitOf_11 rfl rfl ?_
      refine gq_ishl C 13 dX3_bitOf_12 rfl ?_
      refine gq_goto C 17 dX3_bitOf_13 (by decide) ?_
      obtain rfl := gq_lf hf
      exact hret dX3_bitOf_17 gPost.rf

def f_X3_isThere : Int32 → InnS → Option (Int32)
  | x1, (I_law, I_there, I_sleepers, I_empty, I_empties, I_yard, I_waiting, I_nights, I_used, I_sheets, I_lastOnes, I_guestsWithFleas, I_bedsWithFleas, I_isCounting) => (Option.bind (f_X3_bitOf x1) (fun r_5 => (if (I_there &&& r_5) = 0 then some (nI 0) else some (nI 1))))
set_option maxHeartbeats 4000000 in
set_option maxRecDepth 100000 in
theorem c_X3_isThere (l : Launch) (D : va_G) (cI cZ : ClassId) (aI : Nat → Nat) (hI : Nat) (dI : Option Nat) (x1 : Int32) (tI : InnS) (rr : Int32) (hf : f_X3_isThere x1 tI = some rr) : CT l D cI cZ yX3_isThere cX3_isThere 2 (some .boolean) 1 20 0 0 [.ref (aI 0), .int x1] ([iC cI aI hI dI tI]) (gPost (some (.int rr)) ([iC cI aI hI dI tI])) := by
  obtain ⟨I_law, I_there, I_sleepers, I_empty, I_empties, I_yard, I_waiting, I_nights, I_used, I_sheets, I_lastOnes, I_guestsWithFleas, I_bedsWithFleas, I_isCounting⟩ := tI
  rw [f_X3_isThere] at hf
  refine CT.mkZ (by decide) (Nat.le_of_ble_eq_true rfl) fun {p} {e} {R} {s} {m} {args} {below} {meth} {c} {A} {H0} {Q} C hA hR hret => ?_
  show G p l e R s m args below meth c 2 D A H0 0 0 Q [iC cI aI hI dI (I_law, I_there, I_sleepers, I_empty, I_empties, I_yard, I_waiting, I_nights, I_used, I_sheets, I_lastOnes, I_guestsWithFleas, I_bedsWithFleas, I_isCounting)] 0 [(0, .ref (aI 0)), (1, .int x1)] []
  refine gq_aload_n C 0 1 dX3_isThere_0 rfl rfl ?_
  refine gq_get C fo_X3_3 fw_X3_45 0 0 4 rfl rfl rfl dX3_isThere_1 rfl ?_
  refine gq_iload_n C 1 5 dX3_isThere_4 rfl rfl ?_
  obtain ⟨r_5, hc, hf⟩ := gq_bd hf
  refine gq_callS C hA gm_X3_107 (c_X3_bitOf l D cI cZ  x1 _ hc) rfl ⟨Nat.le_trans (Nat.le_of_ble_eq_true rfl) hR.1, Nat.le_trans (Nat.le_of_ble_eq_true rfl) hR.2.1⟩ ⟨Nat.zero_le _, Nat.zero_le _⟩ rfl (Nat.le_of_ble_eq_true rfl) dX3_isThere_5 [] [iC cI aI hI dI (I_law, I_there, I_sleepers, I_empty, I_empties, I_yard, I_waiting, I_nights, I_used, I_sheets, I_lastOnes, I_guestsWithFleas, I_bedsWithFleas, I_isCounting)] 8 rfl (by decide) rfl rfl rfl [.int r_5, .int I_there] rfl ?_
  refine gq_iand C 9 dX3_isThere_8 rfl ?_
  refine gq_if_eq C 16 12 dX3_isThere_9 (by decide) rfl (fun h9 => ?_) (fun h9 => ?_)
  · replace hf := gq_ifp h9 hf
    refine gq_iconst C (nI 0) 17 dX3_isThere_16 (by decide) rfl ?_
    obtain rfl := gq_lf hf
    exact hret dX3_isThere_17 rfl gPost.rf
  · replace hf := gq_ifn h9 hf
    refine gq_iconst C (nI 1) 13 dX3_isThere_12 (by decide) rfl ?_
    refine gq_goto C 17 dX3_isThere_13 (by decide) ?_
    obtain rfl := gq_lf hf
    exact hret dX3_isThere_17 rfl gPost.rf

def f_X3_bedOf_L2 (c_x1 : Int32) (c_I_sleepers : (Nat → Int32)) : Nat → Int32 → (Int32 → Option (Int32)) → Option (Int32)
  | 0, _, _ => none
  | nL2 + 1, x2_L2, kL2 => (if (nI 8) ≤ x2_L2 then kL2 x2_L2 else (if x2_L2 < 0 ∨ 8 ≤ x2_L2.toNatClampNeg then none else (if (c_I_sleepers x2_L2.toNatClampNeg) = c_x1 then some x2_L2 else f_X3_bedOf_L2 c_x1 c_I_sleepers nL2 (x2_L2 + (nI 1)) kL2)))
def f_X3_bedOf : Int32 → InnS → Option (Int32)
  | x1, (I_law, I_there, I_sleepers, I_empty, I_empties, I_yard, I_waiting, I_nights, I_used, I_sheets, I_lastOnes, I_guestsWithFleas, I_bedsWithFleas, I_isCounting) => f_X3_bedOf_L2 x1 I_sleepers FU (nI 0) (fun x2_L2 => some (-1 : Int32))
set_option maxHeartbeats 4000000 in
set_option maxRecDepth 100000 in
theorem c_X3_bedOf (l : Launch) (D : va_G) (cI cZ : ClassId) (aI : Nat → Nat) (hI : Nat) (dI : Option Nat) (x1 : Int32) (tI : InnS) (rr : Int32) (hf : f_X3_bedOf x1 tI = some rr) : CT l D cI cZ yX3_bedOf cX3_bedOf 3 (some .int) 0 0 0 0 [.ref (aI 0), .int x1] ([iC cI aI hI dI tI]) (gPost (some (.int rr)) ([iC cI aI hI dI tI])) := by
  obtain ⟨I_law, I_there, I_sleepers, I_empty, I_empties, I_yard, I_waiting, I_nights, I_used, I_sheets, I_lastOnes, I_guestsWithFleas, I_bedsWithFleas, I_isCounting⟩ := tI
  rw [f_X3_bedOf] at hf
  refine CT.mkI (by decide) (Nat.le_of_ble_eq_true rfl) fun {p} {e} {R} {s} {m} {args} {below} {meth} {c} {A} {H0} {Q} C hA hR hret => ?_
  show G p l e R s m args below meth c 3 D A H0 0 0 Q [iC cI aI hI dI (I_law, I_there, I_sleepers, I_empty, I_empties, I_yard, I_waiting, I_nights, I_used, I_sheets, I_lastOnes, I_guestsWithFleas, I_bedsWithFleas, I_isCounting)] 0 [(0, .ref (aI 0)), (1, .int x1)] []
  refine gq_iconst C (nI 0) 1 dX3_bedOf_0 (by decide) rfl ?_
  refine gq_istore_n C [(2, .int (nI 0)), (0, .ref (aI 0)), (1, .int x1)] 2 dX3_bedOf_1 (by decide) rfl rfl ?_
  have L2 : ∀ (kL : Int32 → Option (Int32)), (∀ (x2_L2 : Int32), kL x2_L2 = some rr → G p l e R s m args below meth c 3 D A H0 0 0 Q [iC cI aI hI dI (I_law, I_there, I_sleepers, I_empty, I_empties, I_yard, I_waiting, I_nights, I_used, I_sheets, I_lastOnes, I_guestsWithFleas, I_bedsWithFleas, I_isCounting)] 26 [(2, .int x2_L2), (0, .ref (aI 0)), (1, .int x1)] []) → ∀ (n : Nat) (x2_L2 : Int32), f_X3_bedOf_L2 x1 I_sleepers n x2_L2 kL = some rr → G p l e R s m args below meth c 3 D A H0 0 0 Q [iC cI aI hI dI (I_law, I_there, I_sleepers, I_empty, I_empties, I_yard, I_waiting, I_nights, I_used, I_sheets, I_lastOnes, I_guestsWithFleas, I_bedsWithFleas, I_isCounting)] 2 [(2, .int x2_L2), (0, .ref (aI 0)), (1, .int x1)] [] := by
    intro kL hkL2 n
    induction n with
    | zero =>
      intro x2_L2 hf
      rw [f_X3_bedOf_L2] at hf
      cases hf
    | succ n ihL2 =>
      intro x2_L2 hf
      rw [f_X3_bedOf_L2] at hf
      refine gq_iload_n C 0 3 dX3_bedOf_2 rfl rfl ?_
      refine gq_bipush C (nI 8) 5 dX3_bedOf_3 (by decide) rfl ?_
      refine gq_icmp_ge C 26 8 dX3_bedOf_5 (by decide) rfl (fun h5 => ?_) (fun h5 => ?_)
      · replace hf := gq_ifp h5 hf
        exact hkL2 _ hf
      · replace hf := gq_ifn h5 hf
        refine gq_aload_n C 1 9 dX3_bedOf_8 rfl rfl ?_
        refine gq_get C fo_X3_4 fw_X3_9 0 0 12 rfl rfl rfl dX3_bedOf_9 rfl ?_
        refine gq_iload_n C 0 13 dX3_bedOf_12 rfl rfl ?_
        obtain ⟨h13, hf⟩ := gq_ok hf
        refine gq_iald C 0 1 14 rfl rfl h13 dX3_bedOf_13 rfl ?_
        refine gq_iload_n C 2 15 dX3_bedOf_14 rfl rfl ?_
        refine gq_icmp_ne C 20 18 dX3_bedOf_15 (by decide) rfl (fun h15 => ?_) (fun h15 => ?_)
        · replace hf := gq_ifn h15 hf
          refine gq_iinc C 0 [(2, .int (x2_L2 + (nI 1))), (0, .ref (aI 0)), (1, .int x1)] 23 dX3_bedOf_20 rfl rfl (by decide) rfl rfl ?_
          refine gq_goto C 2 dX3_bedOf_23 (by decide) ?_
          exact ihL2 _ hf
        · replace hf := gq_ifp h15 hf
          refine gq_iload_n C 0 19 dX3_bedOf_18 rfl rfl ?_
          obtain rfl := gq_lf hf
          exact hret dX3_bedOf_19 gPost.rf
  refine L2 _ (fun x2_L2 hf => ?_) _ _ hf
  refine gq_iconst C (-1 : Int32) 27 dX3_bedOf_26 (by decide) rfl ?_
  obtain rfl := gq_lf hf
  exact hret dX3_bedOf_27 gPost.rf

def f_X3_sleeperOf : Int32 → InnS → Option (Int32)
  | x1, (I_law, I_there, I_sleepers, I_empty, I_empties, I_yard, I_waiting, I_nights, I_used, I_sheets, I_lastOnes, I_guestsWithFleas, I_bedsWithFleas, I_isCounting) => (if x1 < 0 then some (-1 : Int32) else (if (nI 8) ≤ x1 then some (-1 : Int32) else (if x1 < 0 ∨ 8 ≤ x1.toNatClampNeg then none else some (I_sleepers x1.toNatClampNeg))))
set_option maxHeartbeats 4000000 in
set_option maxRecDepth 100000 in
theorem c_X3_sleeperOf (l : Launch) (D : va_G) (cI cZ : ClassId) (aI : Nat → Nat) (hI : Nat) (dI : Option Nat) (x1 : Int32) (tI : InnS) (rr : Int32) (hf : f_X3_sleeperOf x1 tI = some rr) : CT l D cI cZ yX3_sleeperOf cX3_sleeperOf 2 (some .int) 0 0 0 0 [.ref (aI 0), .int x1] ([iC cI aI hI dI tI]) (gPost (some (.int rr)) ([iC cI aI hI dI tI])) := by
  obtain ⟨I_law, I_there, I_sleepers, I_empty, I_empties, I_yard, I_waiting, I_nights, I_used, I_sheets, I_lastOnes, I_guestsWithFleas, I_bedsWithFleas, I_isCounting⟩ := tI
  rw [f_X3_sleeperOf] at hf
  refine CT.mkI (by decide) (Nat.le_of_ble_eq_true rfl) fun {p} {e} {R} {s} {m} {args} {below} {meth} {c} {A} {H0} {Q} C hA hR hret => ?_
  show G p l e R s m args below meth c 2 D A H0 0 0 Q [iC cI aI hI dI (I_law, I_there, I_sleepers, I_empty, I_empties, I_yard, I_waiting, I_nights, I_used, I_sheets, I_lastOnes, I_guestsWithFleas, I_bedsWithFleas, I_isCounting)] 0 [(0, .ref (aI 0)), (1, .int x1)] []
  refine gq_iload_n C 1 1 dX3_sleeperOf_0 rfl rfl ?_
  refine gq_if_lt C 19 4 dX3_sleeperOf_1 (by decide) rfl (fun h1 => ?_) (fun h1 => ?_)
  · replace hf := gq_ifp h1 hf
    refine gq_iconst C (-1 : Int32) 20 dX3_sleeperOf_19 (by decide) rfl ?_
    obtain rfl := gq_lf hf
    exact hret dX3_sleeperOf_20 gPost.rf
  · replace hf := gq_ifn h1 hf
    refine gq_iload_n C 1 5 dX3_sleeperOf_4 rfl rfl ?_
    refine gq_bipush C (nI 8) 7 dX3_sleeperOf_5 (by decide) rfl ?_
    refine gq_icmp_ge C 19 10 dX3_sleeperOf_7 (by decide) rfl (fun h7 => ?_) (fun h7 => ?_)
    · replace hf := gq_ifp h7 hf
      refine gq_iconst C (-1 : Int32) 20 dX3_sleeperOf_19 (by decide) rfl ?_
      obtain rfl := gq_lf hf
      exact hret dX3_sleeperOf_20 gPost.rf
    · replace hf := gq_ifn h7 hf
      refine gq_aload_n C 0 11 dX3_sleeperOf_10 rfl rfl ?_
      refine gq_get C fo_X3_4 fw_X3_9 0 0 14 rfl rfl rfl dX3_sleeperOf_11 rfl ?_
      refine gq_iload_n C 1 15 dX3_sleeperOf_14 rfl rfl ?_
      obtain ⟨h15, hf⟩ := gq_ok hf
      refine gq_iald C 0 1 16 rfl rfl h15 dX3_sleeperOf_15 rfl ?_
      refine gq_goto C 20 dX3_sleeperOf_16 (by decide) ?_
      obtain rfl := gq_lf hf
      exact hret dX3_sleeperOf_20 gPost.rf

def f_X3_emptyBed : Int32 → InnS → Option (Int32)
  | x1, (I_law, I_there, I_sleepers, I_empty, I_empties, I_yard, I_waiting, I_nights, I_used, I_sheets, I_lastOnes, I_guestsWithFleas, I_bedsWithFleas, I_isCounting) => (if x1 < 0 then some (-6 : Int32) else (if I_empties ≤ x1 then some (-6 : Int32) else (if I_empties ≤ (nI 8) then (if ((I_empties - (nI 1)) - x1) < 0 ∨ 8 ≤ ((I_empties - (nI 1)) - x1).toNatClampNeg then none else some (I_empty ((I_empties - (nI 1)) - x1).toNatClampNeg)) else some (-6 : Int32))))
set_option maxHeartbeats 4000000 in
set_option maxRecDepth 100000 in
theorem c_X3_emptyBed (l : Launch) (D : va_G) (cI cZ : ClassId) (aI : Nat → Nat) (hI : Nat) (dI : Option Nat) (x1 : Int32) (tI : InnS) (rr : Int32) (hf : f_X3_emptyBed x1 tI = some rr) : CT l D cI cZ yX3_emptyBed cX3_emptyBed 2 (some .int) 0 0 0 0 [.ref (aI 0), .int x1] ([iC cI aI hI dI tI]) (gPost (some (.int rr)) ([iC cI aI hI dI tI])) := by
  obtain ⟨I_law, I_there, I_sleepers, I_empty, I_empties, I_yard, I_waiting, I_nights, I_used, I_sheets, I_lastOnes, I_guestsWithFleas, I_bedsWithFleas, I_isCounting⟩ := tI
  rw [f_X3_emptyBed] at hf
  refine CT.mkI (by decide) (Nat.le_of_ble_eq_true rfl) fun {p} {e} {R} {s} {m} {args} {below} {meth} {c} {A} {H0} {Q} C hA hR hret => ?_
  show G p l e R s m args below meth c 2 D A H0 0 0 Q [iC cI aI hI dI (I_law, I_there, I_sleepers, I_empty, I_empties, I_yard, I_waiting, I_nights, I_used, I_sheets, I_lastOnes, I_guestsWithFleas, I_bedsWithFleas, I_isCounting)] 0 [(0, .ref (aI 0)), (1, .int x1)] []
  refine gq_iload_n C 1 1 dX3_emptyBed_0 rfl rfl ?_
  refine gq_if_lt C 21 4 dX3_emptyBed_1 (by decide) rfl (fun h1 => ?_) (fun h1 => ?_)
  · replace hf := gq_ifp h1 hf
    refine gq_bipush C (-6 : Int32) 23 dX3_emptyBed_21 (by decide) rfl ?_
    obtain rfl := gq_lf hf
    exact hret dX3_emptyBed_23 gPost.rf
  · replace hf := gq_ifn h1 hf
    refine gq_iload_n C 1 5 dX3_emptyBed_4 rfl rfl ?_
    refine gq_aload_n C 0 6 dX3_emptyBed_5 rfl rfl ?_
    refine gq_get C fo_X3_6 fw_X3_48 0 0 9 rfl rfl rfl dX3_emptyBed_6 rfl ?_
    refine gq_icmp_ge C 21 12 dX3_emptyBed_9 (by decide) rfl (fun h9 => ?_) (fun h9 => ?_)
    · replace hf := gq_ifp h9 hf
      refine gq_bipush C (-6 : Int32) 23 dX3_emptyBed_21 (by decide) rfl ?_
      obtain rfl := gq_lf hf
      exact hret dX3_emptyBed_23 gPost.rf
    · replace hf := gq_ifn h9 hf
      refine gq_aload_n C 0 13 dX3_emptyBed_12 rfl rfl ?_
      refine gq_get C fo_X3_6 fw_X3_48 0 0 16 rfl rfl rfl dX3_emptyBed_13 rfl ?_
      refine gq_bipush C (nI 8) 18 dX3_emptyBed_16 (by decide) rfl ?_
      refine gq_icmp_le C 24 21 dX3_emptyBed_18 (by decide) rfl (fun h18 => ?_) (fun h18 => ?_)
      · replace hf := gq_ifp h18 hf
        refine gq_aload_n C 0 25 dX3_emptyBed_24 rfl rfl ?_
        refine gq_get C fo_X3_5 fw_X3_15 0 0 28 rfl rfl rfl dX3_emptyBed_25 rfl ?_
        refine gq_aload_n C 0 29 dX3_emptyBed_28 rfl rfl ?_
        refine gq_get C fo_X3_6 fw_X3_48 0 0 32 rfl rfl rfl dX3_emptyBed_29 rfl ?_
        refine gq_iconst C (nI 1) 33 dX3_emptyBed_32 (by decide) rfl ?_
        refine gq_isub C 34 dX3_emptyBed_33 rfl ?_
        refine gq_iload_n C 1 35 dX3_emptyBed_34 rfl rfl ?_
        refine gq_isub C 36 dX3_emptyBed_35 rfl ?_
        obtain ⟨h36, hf⟩ := gq_ok hf
        refine gq_iald C 0 2 37 rfl rfl h36 dX3_emptyBed_36 rfl ?_
        obtain rfl := gq_lf hf
        exact hret dX3_emptyBed_37 gPost.rf
      · replace hf := gq_ifn h18 hf
        refine gq_bipush C (-6 : Int32) 23 dX3_emptyBed_21 (by decide) rfl ?_
        obtain rfl := gq_lf hf
        exact hret dX3_emptyBed_23 gPost.rf

def f_X3_timesUsed : Int32 → InnS → Option (Int32)
  | x1, (I_law, I_there, I_sleepers, I_empty, I_empties, I_yard, I_waiting, I_nights, I_used, I_sheets, I_lastOnes, I_guestsWithFleas, I_bedsWithFleas, I_isCounting) => (if x1 < 0 then some (nI 0) else (if (nI 8) ≤ x1 then some (nI 0) else (if x1 < 0 ∨ 8 ≤ x1.toNatClampNeg then none else some (I_used x1.toNatClampNeg))))
set_option maxHeartbeats 4000000 in
set_option maxRecDepth 100000 in
theorem c_X3_timesUsed (l : Launch) (D : va_G) (cI cZ : ClassId) (aI : Nat → Nat) (hI : Nat) (dI : Option Nat) (x1 : Int32) (tI : InnS) (rr : Int32) (hf : f_X3_timesUsed x1 tI = some rr) : CT l D cI cZ yX3_timesUsed cX3_timesUsed 2 (some .int) 0 0 0 0 [.ref (aI 0), .int x1] ([iC cI aI hI dI tI]) (gPost (some (.int rr)) ([iC cI aI hI dI tI])) := by
  obtain ⟨I_law, I_there, I_sleepers, I_empty, I_empties, I_yard, I_waiting, I_nights, I_used, I_sheets, I_lastOnes, I_guestsWithFleas, I_bedsWithFleas, I_isCounting⟩ := tI
  rw [f_X3_timesUsed] at hf
  refine CT.mkI (by decide) (Nat.le_of_ble_eq_true rfl) fun {p} {e} {R} {s} {m} {args} {below} {meth} {c} {A} {H0} {Q} C hA hR hret => ?_
  show G p l e R s m args below meth c 2 D A H0 0 0 Q [iC cI aI hI dI (I_law, I_there, I_sleepers, I_empty, I_empties, I_yard, I_waiting, I_nights, I_used, I_sheets, I_lastOnes, I_guestsWithFleas, I_bedsWithFleas, I_isCounting)] 0 [(0, .ref (aI 0)), (1, .int x1)] []
  refine gq_iload_n C 1 1 dX3_timesUsed_0 rfl rfl ?_
  refine gq_if_lt C 19 4 dX3_timesUsed_1 (by decide) rfl (fun h1 => ?_) (fun h1 => ?_)
  · replace hf := gq_ifp h1 hf
    refine gq_iconst C (nI 0) 20 dX3_timesUsed_19 (by decide) rfl ?_
    obtain rfl := gq_lf hf
    exact hret dX3_timesUsed_20 gPost.rf
  · replace hf := gq_ifn h1 hf
    refine gq_iload_n C 1 5 dX3_timesUsed_4 rfl rfl ?_
    refine gq_bipush C (nI 8) 7 dX3_timesUsed_5 (by decide) rfl ?_
    refine gq_icmp_ge C 19 10 dX3_timesUsed_7 (by decide) rfl (fun h7 => ?_) (fun h7 => ?_)
    · replace hf := gq_ifp h7 hf
      refine gq_iconst C (nI 0) 20 dX3_timesUsed_19 (by decide) rfl ?_
      obtain rfl := gq_lf hf
      exact hret dX3_timesUsed_20 gPost.rf
    · replace hf := gq_ifn h7 hf
      refine gq_aload_n C 0 11 dX3_timesUsed_10 rfl rfl ?_
      refine gq_get C fo_X3_10 fw_X3_24 0 0 14 rfl rfl rfl dX3_timesUsed_11 rfl ?_
      refine gq_iload_n C 1 15 dX3_timesUsed_14 rfl rfl ?_
      obtain ⟨h15, hf⟩ := gq_ok hf
      refine gq_iald C 0 5 16 rfl rfl h15 dX3_timesUsed_15 rfl ?_
      refine gq_goto C 20 dX3_timesUsed_16 (by decide) ?_
      obtain rfl := gq_lf hf
      exact hret dX3_timesUsed_20 gPost.rf

def f_X3_countOf : Int32 → Int32 → InnS → Option (Int32)
  | x1, x2, (I_law, I_there, I_sleepers, I_empty, I_empties, I_yard, I_waiting, I_nights, I_used, I_sheets, I_lastOnes, I_guestsWithFleas, I_bedsWithFleas, I_isCounting) => (if x1 < 0 then some (nI 0) else (if x1 < (nI 8) then (if x2 = nI 0 then (if x1 < 0 ∨ 8 ≤ x1.toNatClampNeg then none else some (I_nights x1.toNatClampNeg)) else (if x2 = nI 1 then (if x1 < 0 ∨ 8 ≤ x1.toNatClampNeg then none else some (I_used x1.toNatClampNeg)) else (if x1 < 0 ∨ 8 ≤ x1.toNatClampNeg then none else some (I_sheets x1.toNatClampNeg)))) else some (nI 0)))
set_option maxHeartbeats 4000000 in
set_option maxRecDepth 100000 in
theorem c_X3_countOf (l : Launch) (D : va_G) (cI cZ : ClassId) (aI : Nat → Nat) (hI : Nat) (dI : Option Nat) (x1 : Int32) (x2 : Int32) (tI : InnS) (rr : Int32) (hf : f_X3_countOf x1 x2 tI = some rr) : CT l D cI cZ yX3_countOf cX3_countOf 3 (some .int) 0 0 0 0 [.ref (aI 0), .int x1, .int x2] ([iC cI aI hI dI tI]) (gPost (some (.int rr)) ([iC cI aI hI dI tI])) := by
  obtain ⟨I_law, I_there, I_sleepers, I_empty, I_empties, I_yard, I_waiting, I_nights, I_used, I_sheets, I_lastOnes, I_guestsWithFleas, I_bedsWithFleas, I_isCounting⟩ := tI
  rw [f_X3_countOf] at hf
  refine CT.mkI (by decide) (Nat.le_of_ble_eq_true rfl) fun {p} {e} {R} {s} {m} {args} {below} {meth} {c} {A} {H0} {Q} C hA hR hret => ?_
  show G p l e R s m args below meth c 3 D A H0 0 0 Q [iC cI aI hI dI (I_law, I_there, I_sleepers, I_empty, I_empties, I_yard, I_waiting, I_nights, I_used, I_sheets, I_lastOnes, I_guestsWithFleas, I_bedsWithFleas, I_isCounting)] 0 [(0, .ref (aI 0)), (1, .int x1), (2, .int x2)] []
  refine gq_iload_n C 1 1 dX3_countOf_0 rfl rfl ?_
  refine gq_if_lt C 10 4 dX3_countOf_1 (by decide) rfl (fun h1 => ?_) (fun h1 => ?_)
  · replace hf := gq_ifp h1 hf
    refine gq_iconst C (nI 0) 11 dX3_countOf_10 (by decide) rfl ?_
    obtain rfl := gq_lf hf
    exact hret dX3_countOf_11 gPost.rf
  · replace hf := gq_ifn h1 hf
    refine gq_iload_n C 1 5 dX3_countOf_4 rfl rfl ?_
    refine gq_bipush C (nI 8) 7 dX3_countOf_5 (by decide) rfl ?_
    refine gq_icmp_lt C 12 10 dX3_countOf_7 (by decide) rfl (fun h7 => ?_) (fun h7 => ?_)
    · replace hf := gq_ifp h7 hf
      refine gq_iload_n C 2 13 dX3_countOf_12 rfl rfl ?_
      by_cases h13_0 : x2 = nI 0
      · replace hf := gq_ifp h13_0 hf
        refine gq_lookup C 40 dX3_countOf_13 (by decide) (by rw [h13_0] <;> rfl) (by decide) ?_
        refine gq_aload_n C 0 41 dX3_countOf_40 rfl rfl ?_
        refine gq_get C fo_X3_9 fw_X3_21 0 0 44 rfl rfl rfl dX3_countOf_41 rfl ?_
        refine gq_iload_n C 1 45 dX3_countOf_44 rfl rfl ?_
        obtain ⟨h45, hf⟩ := gq_ok hf
        refine gq_iald C 0 4 46 rfl rfl h45 dX3_countOf_45 rfl ?_
        obtain rfl := gq_lf hf
        exact hret dX3_countOf_46 gPost.rf
      · replace hf := gq_ifn h13_0 hf
        by_cases h13_1 : x2 = nI 1
        · replace hf := gq_ifp h13_1 hf
          refine gq_lookup C 47 dX3_countOf_13 (by decide) (by rw [h13_1] <;> rfl) (by decide) ?_
          refine gq_aload_n C 0 48 dX3_countOf_47 rfl rfl ?_
          refine gq_get C fo_X3_10 fw_X3_24 0 0 51 rfl rfl rfl dX3_countOf_48 rfl ?_
          refine gq_iload_n C 1 52 dX3_countOf_51 rfl rfl ?_
          obtain ⟨h52, hf⟩ := gq_ok hf
          refine gq_iald C 0 5 53 rfl rfl h52 dX3_countOf_52 rfl ?_
          obtain rfl := gq_lf hf
          exact hret dX3_countOf_53 gPost.rf
        · replace hf := gq_ifn h13_1 hf
          refine gq_lookup C 54 dX3_countOf_13 (by decide) (gq_lk13 h13_0 h13_1) (by decide) ?_
          refine gq_aload_n C 0 55 dX3_countOf_54 rfl rfl ?_
          refine gq_get C fo_X3_11 fw_X3_27 0 0 58 rfl rfl rfl dX3_countOf_55 rfl ?_
          refine gq_iload_n C 1 59 dX3_countOf_58 rfl rfl ?_
          obtain ⟨h59, hf⟩ := gq_ok hf
          refine gq_iald C 0 6 60 rfl rfl h59 dX3_countOf_59 rfl ?_
          obtain rfl := gq_lf hf
          exact hret dX3_countOf_60 gPost.rf
    · replace hf := gq_ifn h7 hf
      refine gq_iconst C (nI 0) 11 dX3_countOf_10 (by decide) rfl ?_
      obtain rfl := gq_lf hf
      exact hret dX3_countOf_11 gPost.rf

def f_X3_allSheets_L4 (c_I_sheets : (Nat → Int32)) : Nat → Int32 → Int32 → (Int32 → Int32 → Option (Int32)) → Option (Int32)
  | 0, _, _, _ => none
  | nL4 + 1, x1_L4, x2_L4, kL4 => (if (nI 8) ≤ x2_L4 then kL4 x1_L4 x2_L4 else (if x2_L4 < 0 ∨ 8 ≤ x2_L4.toNatClampNeg then none else f_X3_allSheets_L4 c_I_sheets nL4 (x1_L4 + (c_I_sheets x2_L4.toNatClampNeg)) (x2_L4 + (nI 1)) kL4))
def f_X3_allSheets : InnS → Option (Int32)
  | (I_law, I_there, I_sleepers, I_empty, I_empties, I_yard, I_waiting, I_nights, I_used, I_sheets, I_lastOnes, I_guestsWithFleas, I_bedsWithFleas, I_isCounting) => f_X3_allSheets_L4 I_sheets FU (nI 0) (nI 0) (fun x1_L4 x2_L4 => some x1_L4)
set_option maxHeartbeats 4000000 in
set_option maxRecDepth 100000 in
theorem c_X3_allSheets (l : Launch) (D : va_G) (cI cZ : ClassId) (aI : Nat → Nat) (hI : Nat) (dI : Option Nat) (tI : InnS) (rr : Int32) (hf : f_X3_allSheets tI = some rr) : CT l D cI cZ yX3_allSheets cX3_allSheets 3 (some .int) 0 0 0 0 [.ref (aI 0)] ([iC cI aI hI dI tI]) (gPost (some (.int rr)) ([iC cI aI hI dI tI])) := by
  obtain ⟨I_law, I_there, I_sleepers, I_empty, I_empties, I_yard, I_waiting, I_nights, I_used, I_sheets, I_lastOnes, I_guestsWithFleas, I_bedsWithFleas, I_isCounting⟩ := tI
  rw [f_X3_allSheets] at hf
  refine CT.mkI (by decide) (Nat.le_of_ble_eq_true rfl) fun {p} {e} {R} {s} {m} {args} {below} {meth} {c} {A} {H0} {Q} C hA hR hret => ?_
  show G p l e R s m args below meth c 3 D A H0 0 0 Q [iC cI aI hI dI (I_law, I_there, I_sleepers, I_empty, I_empties, I_yard, I_waiting, I_nights, I_used, I_sheets, I_lastOnes, I_guestsWithFleas, I_bedsWithFleas, I_isCounting)] 0 [(0, .ref (aI 0))] []
  refine gq_iconst C (nI 0) 1 dX3_allSheets_0 (by decide) rfl ?_
  refine gq_istore_n C [(1, .int (nI 0)), (0, .ref (aI 0))] 2 dX3_allSheets_1 (by decide) rfl rfl ?_
  refine gq_iconst C (nI 0) 3 dX3_allSheets_2 (by decide) rfl ?_
  refine gq_istore_n C [(2, .int (nI 0)), (1, .int (nI 0)), (0, .ref (aI 0))] 4 dX3_allSheets_3 (by decide) rfl rfl ?_
  have L4 : ∀ (kL : Int32 → Int32 → Option (Int32)), (∀ (x1_L4 : Int32) (x2_L4 : Int32), kL x1_L4 x2_L4 = some rr → G p l e R s m args below meth c 3 D A H0 0 0 Q [iC cI aI hI dI (I_law, I_there, I_sleepers, I_empty, I_empties, I_yard, I_waiting, I_nights, I_used, I_sheets, I_lastOnes, I_guestsWithFleas, I_bedsWithFleas, I_isCounting)] 25 [(2, .int x2_L4), (1, .int x1_L4), (0, .ref (aI 0))] []) → ∀ (n : Nat) (x1_L4 : Int32) (x2_L4 : Int32), f_X3_allSheets_L4 I_sheets n x1_L4 x2_L4 kL = some rr → G p l e R s m args below meth c 3 D A H0 0 0 Q [iC cI aI hI dI (I_law, I_there, I_sleepers, I_empty, I_empties, I_yard, I_waiting, I_nights, I_used, I_sheets, I_lastOnes, I_guestsWithFleas, I_bedsWithFleas, I_isCounting)] 4 [(2, .int x2_L4), (1, .int x1_L4), (0, .ref (aI 0))] [] := by
    intro kL hkL4 n
    induction n with
    | zero =>
      intro x1_L4 x2_L4 hf
      rw [f_X3_allSheets_L4] at hf
      cases hf
    | succ n ihL4 =>
      intro x1_L4 x2_L4 hf
      rw [f_X3_allSheets_L4] at hf
      refine gq_iload_n C 0 5 dX3_allSheets_4 rfl rfl ?_
      refine gq_bipush C (nI 8) 7 dX3_allSheets_5 (by decide) rfl ?_
      refine gq_icmp_ge C 25 10 dX3_allSheets_7 (by decide) rfl (fun h7 => ?_) (fun h7 => ?_)
      · replace hf := gq_ifp h7 hf
        exact hkL4 _ _ hf
      · replace hf := gq_ifn h7 hf
        refine gq_iload_n C 1 11 dX3_allSheets_10 rfl rfl ?_
        refine gq_aload_n C 2 12 dX3_allSheets_11 rfl rfl ?_
        refine gq_get C fo_X3_11 fw_X3_27 0 0 15 rfl rfl rfl dX3_allSheets_12 rfl ?_
        refine gq_iload_n C 0 16 dX3_allSheets_15 rfl rfl ?_
        obtain ⟨h16, hf⟩ := gq_ok hf
        refine gq_iald C 0 6 17 rfl rfl h16 dX3_allSheets_16 rfl ?_
        refine gq_iadd C 18 dX3_allSheets_17 rfl ?_
        refine gq_istore_n C [(1, .int (x1_L4 + (I_sheets x2_L4.toNatClampNeg))), (2, .int x2_L4), (0, .ref (aI 0))] 19 dX3_allSheets_18 (by decide) rfl rfl ?_
        refine gq_iinc C 1 [(2, .int (x2_L4 + (nI 1))), (1, .int (x1_L4 + (I_sheets x2_L4.toNatClampNeg))), (0, .ref (aI 0))] 22 dX3_allSheets_19 rfl rfl (by decide) rfl rfl ?_
        refine gq_goto C 4 dX3_allSheets_22 (by decide) ?_
        exact ihL4 _ _ hf
  refine L4 _ (fun x1_L4 x2_L4 hf => ?_) _ _ _ hf
  refine gq_iload_n C 1 26 dX3_allSheets_25 rfl rfl ?_
  obtain rfl := gq_lf hf
  exact hret dX3_allSheets_26 gPost.rf

def f_X2_allSightsHold_L2 (c_H_sights : Int32) (c_H_sightGuests : (Nat → Int32)) (c_H_sightBeds : (Nat → Int32)) (c_I_law : Int32) (c_I_there : Int32) (c_I_sleepers : (Nat → Int32)) (c_I_empty : (Nat → Int32)) (c_I_empties : Int32) (c_I_yard : (Nat → Int32)) (c_I_waiting : Int32) (c_I_nights : (Nat → Int32)) (c_I_used : (Nat → Int32)) (c_I_sheets : (Nat → Int32)) (c_I_lastOnes : (Nat → Int32)) (c_I_guestsWithFleas : Int32) (c_I_bedsWithFleas : Int32) (c_I_isCounting : Int32) : Nat → Int32 → (Int32 → Option (Int32)) → Option (Int32)
  | 0, _, _ => none
  | nL2 + 1, x2_L2, kL2 => (if (nI 6) ≤ x2_L2 then kL2 x2_L2 else (if c_H_sights ≤ x2_L2 then kL2 x2_L2 else (if x2_L2 < 0 ∨ 6 ≤ x2_L2.toNatClampNeg then none else (Option.bind (f_X3_sleeperOf (c_H_sightBeds x2_L2.toNatClampNeg) (c_I_law, c_I_there, c_I_sleepers, c_I_empty, c_I_empties, c_I_yard, c_I_waiting, c_I_nights, c_I_used, c_I_sheets, c_I_lastOnes, c_I_guestsWithFleas, c_I_bedsWithFleas, c_I_isCounting)) (fun r_23 => (if x2_L2 < 0 ∨ 6 ≤ x2_L2.toNatClampNeg then none else (if r_23 = (c_H_sightGuests x2_L2.toNatClampNeg) then f_X2_allSightsHold_L2 c_H_sights c_H_sightGuests c_H_sightBeds c_I_law c_I_there c_I_sleepers c_I_empty c_I_empties c_I_yard c_I_waiting c_I_nights c_I_used c_I_sheets c_I_lastOnes c_I_guestsWithFleas c_I_bedsWithFleas c_I_isCounting nL2 (x2_L2 + (nI 1)) kL2 else some (nI 0))))))))
def f_X2_allSightsHold : HouS → InnS → Option (Int32)
  | (H_beds, H_law, H_sights, H_isKept, H_worths, H_sightGuests, H_sightBeds), (I_law, I_there, I_sleepers, I_empty, I_empties, I_yard, I_waiting, I_nights, I_used, I_sheets, I_lastOnes, I_guestsWithFleas, I_bedsWithFleas, I_isCounting) => f_X2_allSightsHold_L2 H_sights H_sightGuests H_sightBeds I_law I_there I_sleepers I_empty I_empties I_yard I_waiting I_nights I_used I_sheets I_lastOnes I_guestsWithFleas I_bedsWithFleas I_isCounting FU (nI 0) (fun x2_L2 => some (nI 1))
set_option maxHeartbeats 4000000 in
set_option maxRecDepth 100000 in
theorem c_X2_allSightsHold (l : Launch) (D : va_G) (cI cZ : ClassId) (aH : Nat → Nat) (aI : Nat → Nat) (dI : Option Nat) (tH : HouS) (tI : InnS) (rr : Int32) (hf : f_X2_allSightsHold tH tI = some rr) : CT l D cI cZ yX2_allSightsHold cX2_allSightsHold 3 (some .boolean) 1 21 0 0 [.ref (aH 0), .ref (aI 0)] ([hC cI aH tH, iC cI aI (aH 0) dI tI]) (gPost (some (.int rr)) ([hC cI aH tH, iC cI aI (aH 0) dI tI])) := by
  obtain ⟨H_beds, H_law, H_sights, H_isKept, H_worths, H_sightGuests, H_sightBeds⟩ := tH
  obtain ⟨I_law, I_there, I_sleepers, I_empty, I_empties, I_yard, I_waiting, I_nights, I_used, I_sheets, I_lastOnes, I_guestsWithFleas, I_bedsWithFleas, I_isCounting⟩ := tI
  rw [f_X2_allSightsHold] at hf
  refine CT.mkZ (by decide) (Nat.le_of_ble_eq_true rfl) fun {p} {e} {R} {s} {m} {args} {below} {meth} {c} {A} {H0} {Q} C hA hR hret => ?_
  show G p l e R s m args below meth c 3 D A H0 0 0 Q [hC cI aH (H_beds, H_law, H_sights, H_isKept, H_worths, H_sightGuests, H_sightBeds), iC cI aI (aH 0) dI (I_law, I_there, I_sleepers, I_empty, I_empties, I_yard, I_waiting, I_nights, I_used, I_sheets, I_lastOnes, I_guestsWithFleas, I_bedsWithFleas, I_isCounting)] 0 [(0, .ref (aH 0)), (1, .ref (aI 0))] []
  refine gq_iconst C (nI 0) 1 dX2_allSightsHold_0 (by decide) rfl ?_
  refine gq_istore_n C [(2, .int (nI 0)), (0, .ref (aH 0)), (1, .ref (aI 0))] 2 dX2_allSightsHold_1 (by decide) rfl rfl ?_
  have L2 : ∀ (kL : Int32 → Option (Int32)), (∀ (x2_L2 : Int32), kL x2_L2 = some rr → G p l e R s m args below meth c 3 D A H0 0 0 Q [hC cI aH (H_beds, H_law, H_sights, H_isKept, H_worths, H_sightGuests, H_sightBeds), iC cI aI (aH 0) dI (I_law, I_there, I_sleepers, I_empty, I_empties, I_yard, I_waiting, I_nights, I_used, I_sheets, I_lastOnes, I_guestsWithFleas, I_bedsWithFleas, I_isCounting)] 43 [(2, .int x2_L2), (0, .ref (aH 0)), (1, .ref (aI 0))] []) → ∀ (n : Nat) (x2_L2 : Int32), f_X2_allSightsHold_L2 H_sights H_sightGuests H_sightBeds I_law I_there I_sleepers I_empty I_empties I_yard I_waiting I_nights I_used I_sheets I_lastOnes I_guestsWithFleas I_bedsWithFleas I_isCounting n x2_L2 kL = some rr → G p l e R s m args below meth c 3 D A H0 0 0 Q [hC cI aH (H_beds, H_law, H_sights, H_isKept, H_worths, H_sightGuests, H_sightBeds), iC cI aI (aH 0) dI (I_law, I_there, I_sleepers, I_empty, I_empties, I_yard, I_waiting, I_nights, I_used, I_sheets, I_lastOnes, I_guestsWithFleas, I_bedsWithFleas, I_isCounting)] 2 [(2, .int x2_L2), (0, .ref (aH 0)), (1, .ref (aI 0))] [] := by
    intro kL hkL2 n
    induction n with
    | zero =>
      intro x2_L2 hf
      rw [f_X2_allSightsHold_L2] at hf
      cases hf
    | succ n ihL2 =>
      intro x2_L2 hf
      rw [f_X2_allSightsHold_L2] at hf
      refine gq_iload_n C 0 3 dX2_allSightsHold_2 rfl rfl ?_
      refine gq_bipush C (nI 6) 5 dX2_allSightsHold_3 (by decide) rfl ?_
      refine gq_icmp_ge C 43 8 dX2_allSightsHold_5 (by decide) rfl (fun h5 => ?_) (fun h5 => ?_)
      · replace hf := gq_ifp h5 hf
        exact hkL2 _ hf
      · replace hf := gq_ifn h5 hf
        refine gq_iload_n C 0 9 dX2_allSightsHold_8 rfl rfl ?_
        refine gq_aload_n C 1 10 dX2_allSightsHold_9 rfl rfl ?_
        refine gq_get C fo_X2_2 fw_X2_25 0 0 13 rfl rfl rfl dX2_allSightsHold_10 rfl ?_
        refine gq_icmp_ge C 43 16 dX2_allSightsHold_13 (by decide) rfl (fun h13 => ?_) (fun h13 => ?_)
        · replace hf := gq_ifp h13 hf
          exact hkL2 _ hf
        · replace hf := gq_ifn h13 hf
          refine gq_aload_n C 2 17 dX2_allSightsHold_16 rfl rfl ?_
          refine gq_aload_n C 1 18 dX2_allSightsHold_17 rfl rfl ?_
          refine gq_get C fo_X2_6 fw_X2_22 0 0 21 rfl rfl rfl dX2_allSightsHold_18 rfl ?_
          refine gq_iload_n C 0 22 dX2_allSightsHold_21 rfl rfl ?_
          obtain ⟨h22, hf⟩ := gq_ok hf
          refine gq_iald C 0 3 23 rfl rfl h22 dX2_allSightsHold_22 rfl ?_
          obtain ⟨r_23, hc, hf⟩ := gq_bd hf
          refine gq_callN C hA gm_X2_32 (c_X3_sleeperOf l D cI cZ aI (aH 0) dI (H_sightBeds x2_L2.toNatClampNeg) (I_law, I_there, I_sleepers, I_empty, I_empties, I_yard, I_waiting, I_nights, I_used, I_sheets, I_lastOnes, I_guestsWithFleas, I_bedsWithFleas, I_isCounting) _ hc) rfl 1 0 rfl rfl rfl ⟨Nat.le_trans (Nat.le_of_ble_eq_true rfl) hR.1, Nat.le_trans (Nat.le_of_ble_eq_true rfl) hR.2.1⟩ ⟨Nat.zero_le _, Nat.zero_le _⟩ rfl (Nat.le_of_ble_eq_true rfl) dX2_allSightsHold_23 [1] [hC cI aH (H_beds, H_law, H_sights, H_isKept, H_worths, H_sightGuests, H_sightBeds), iC cI aI (aH 0) dI (I_law, I_there, I_sleepers, I_empty, I_empties, I_yard, I_waiting, I_nights, I_used, I_sheets, I_lastOnes, I_guestsWithFleas, I_bedsWithFleas, I_isCounting)] 26 rfl (by decide) rfl rfl rfl [.int r_23] rfl ?_
          refine gq_aload_n C 1 27 dX2_allSightsHold_26 rfl rfl ?_
          refine gq_get C fo_X2_5 fw_X2_19 0 0 30 rfl rfl rfl dX2_allSightsHold_27 rfl ?_
          refine gq_iload_n C 0 31 dX2_allSightsHold_30 rfl rfl ?_
          obtain ⟨h31, hf⟩ := gq_ok hf
          refine gq_iald C 0 2 32 rfl rfl h31 dX2_allSightsHold_31 rfl ?_
          refine gq_icmp_eq C 37 35 dX2_allSightsHold_32 (by decide) rfl (fun h32 => ?_) (fun h32 => ?_)
          · replace hf := gq_ifp h32 hf
            refine gq_iinc C 0 [(2, .int (x2_L2 + (nI 1))), (0, .ref (aH 0)), (1, .ref (aI 0))] 40 dX2_allSightsHold_37 rfl rfl (by decide) rfl rfl ?_
            refine gq_goto C 2 dX2_allSightsHold_40 (by decide) ?_
            exact ihL2 _ hf
          · replace hf := gq_ifn h32 hf
            refine gq_iconst C (nI 0) 36 dX2_allSightsHold_35 (by decide) rfl ?_
            obtain rfl := gq_lf hf
            exact hret dX2_allSightsHold_36 rfl gPost.rf
  refine L2 _ (fun x2_L2 hf => ?_) _ _ hf
  refine gq_iconst C (nI 1) 44 dX2_allSightsHold_43 (by decide) rfl ?_
  obtain rfl := gq_lf hf
  exact hret dX2_allSightsHold_44 rfl gPost.rf

def f_X3_leaveYard_L7 (c_x1 : Int32) (c_I_waiting : Int32) : Nat → Int32 → Int32 → Int32 → (Nat → Int32) → (Int32 → Int32 → Int32 → (Nat → Int32) → Option (InnS)) → Option (InnS)
  | 0, _, _, _, _, _ => none
  | nL7 + 1, x2_L7, x3_L7, x4_L7, I_yard_L7, kL7 => (if (nI 16) ≤ x4_L7 then kL7 x2_L7 x3_L7 x4_L7 I_yard_L7 else (if c_I_waiting ≤ x4_L7 then kL7 x2_L7 x3_L7 x4_L7 I_yard_L7 else (if x3_L7 = 0 then (if x4_L7 < 0 ∨ 16 ≤ x4_L7.toNatClampNeg then none else (if (I_yard_L7 x4_L7.toNatClampNeg) = c_x1 then f_X3_leaveYard_L7 c_x1 c_I_waiting nL7 x2_L7 (nI 1) (x4_L7 + (nI 1)) I_yard_L7 kL7 else (if x4_L7 < 0 ∨ 16 ≤ x4_L7.toNatClampNeg then none else (if x2_L7 < 0 ∨ 16 ≤ x2_L7.toNatClampNeg then none else f_X3_leaveYard_L7 c_x1 c_I_waiting nL7 (x2_L7 + (nI 1)) x3_L7 (x4_L7 + (nI 1)) (upd I_yard_L7 x2_L7.toNatClampNeg (I_yard_L7 x4_L7.toNatClampNeg)) kL7)))) else (if x4_L7 < 0 ∨ 16 ≤ x4_L7.toNatClampNeg then none else (if x2_L7 < 0 ∨ 16 ≤ x2_L7.toNatClampNeg then none else f_X3_leaveYard_L7 c_x1 c_I_waiting nL7 (x2_L7 + (nI 1)) x3_L7 (x4_L7 + (nI 1)) (upd I_yard_L7 x2_L7.toNatClampNeg (I_yard_L7 x4_L7.toNatClampNeg)) kL7)))))
def f_X3_leaveYard : Int32 → InnS → Option (InnS)
  | x1, (I_law, I_there, I_sleepers, I_empty, I_empties, I_yard, I_waiting, I_nights, I_used, I_sheets, I_lastOnes, I_guestsWithFleas, I_bedsWithFleas, I_isCounting) => f_X3_leaveYard_L7 x1 I_waiting FU (nI 0) (nI 0) (nI 0) I_yard (fun x2_L7 x3_L7 x4_L7 I_yard_L7 => some (I_law, I_there, I_sleepers, I_empty, I_empties, I_yard_L7, x2_L7, I_nights, I_used, I_sheets, I_lastOnes, I_guestsWithFleas, I_bedsWithFleas, I_isCounting))
set_option maxHeartbeats 4000000 in
set_option maxRecDepth 100000 in
theorem c_X3_leaveYard (l : Launch) (D : va_G) (cI cZ : ClassId) (aI : Nat → Nat) (hI : Nat) (dI : Option Nat) (x1 : Int32) (tI : InnS) (rr : InnS) (hf : f_X3_leaveYard x1 tI = some rr) : CT l D cI cZ yX3_leaveYard cX3_leaveYard 5 none 0 0 0 0 [.ref (aI 0), .int x1] ([iC cI aI hI dI tI]) (gPost none ([iC cI aI hI dI rr])) := by
  obtain ⟨I_law, I_there, I_sleepers, I_empty, I_empties, I_yard, I_waiting, I_nights, I_used, I_sheets, I_lastOnes, I_guestsWithFleas, I_bedsWithFleas, I_isCounting⟩ := tI
  rw [f_X3_leaveYard] at hf
  refine CT.mkV (by decide) (Nat.le_of_ble_eq_true rfl) fun {p} {e} {R} {s} {m} {args} {below} {meth} {c} {A} {H0} {Q} C hA hR hnm hret => ?_
  show G p l e R s m args below meth c 5 D A H0 0 0 Q [iC cI aI hI dI (I_law, I_there, I_sleepers, I_empty, I_empties, I_yard, I_waiting, I_nights, I_used, I_sheets, I_lastOnes, I_guestsWithFleas, I_bedsWithFleas, I_isCounting)] 0 [(0, .ref (aI 0)), (1, .int x1)] []
  refine gq_iconst C (nI 0) 1 dX3_leaveYard_0 (by decide) rfl ?_
  refine gq_istore_n C [(2, .int (nI 0)), (0, .ref (aI 0)), (1, .int x1)] 2 dX3_leaveYard_1 (by decide) rfl rfl ?_
  refine gq_iconst C (nI 0) 3 dX3_leaveYard_2 (by decide) rfl ?_
  refine gq_istore_n C [(3, .int (nI 0)), (2, .int (nI 0)), (0, .ref (aI 0)), (1, .int x1)] 4 dX3_leaveYard_3 (by decide) rfl rfl ?_
  refine gq_iconst C (nI 0) 5 dX3_leaveYard_4 (by decide) rfl ?_
  refine gq_istore C [(4, .int (nI 0)), (3, .int (nI 0)), (2, .int (nI 0)), (0, .ref (aI 0)), (1, .int x1)] 7 dX3_leaveYard_5 (by decide) rfl rfl ?_
  have L7 : ∀ (kL : Int32 → Int32 → Int32 → (Nat → Int32) → Option (InnS)), (∀ (x2_L7 : Int32) (x3_L7 : Int32) (x4_L7 : Int32) (I_yard_L7 : (Nat → Int32)), kL x2_L7 x3_L7 x4_L7 I_yard_L7 = some rr → G p l e R s m args below meth c 5 D A H0 0 0 Q [iC cI aI hI dI (I_law, I_there, I_sleepers, I_empty, I_empties, I_yard_L7, I_waiting, I_nights, I_used, I_sheets, I_lastOnes, I_guestsWithFleas, I_bedsWithFleas, I_isCounting)] 68 [(4, .int x4_L7), (3, .int x3_L7), (2, .int x2_L7), (0, .ref (aI 0)), (1, .int x1)] []) → ∀ (n : Nat) (x2_L7 : Int32) (x3_L7 : Int32) (x4_L7 : Int32) (I_yard_L7 : (Nat → Int32)), f_X3_leaveYard_L7 x1 I_waiting n x2_L7 x3_L7 x4_L7 I_yard_L7 kL = some rr → G p l e R s m args below meth c 5 D A H0 0 0 Q [iC cI aI hI dI (I_law, I_there, I_sleepers, I_empty, I_empties, I_yard_L7, I_waiting, I_nights, I_used, I_sheets, I_lastOnes, I_guestsWithFleas, I_bedsWithFleas, I_isCounting)] 7 [(4, .int x4_L7), (3, .int x3_L7), (2, .int x2_L7), (0, .ref (aI 0)), (1, .int x1)] [] := by
    intro kL hkL7 n
    induction n with
    | zero =>
      intro x2_L7 x3_L7 x4_L7 I_yard_L7 hf
      rw [f_X3_leaveYard_L7] at hf
      cases hf
    | succ n ihL7 =>
      intro x2_L7 x3_L7 x4_L7 I_yard_L7 hf
      rw [f_X3_leaveYard_L7] at hf
      refine gq_iload C 0 9 dX3_leaveYard_7 rfl rfl ?_
      refine gq_aload_n C 3 10 dX3_leaveYard_9 rfl rfl ?_
      refine gq_get C fo_X3_7 fw_X3_18 0 0 13 rfl rfl rfl dX3_leaveYard_10 rfl ?_
      refine gq_alen C 0 3 14 (nI 16) rfl rfl (by decide) dX3_leaveYard_13 rfl ?_
      refine gq_icmp_ge C 68 17 dX3_leaveYard_14 (by decide) rfl (fun h14 => ?_) (fun h14 => ?_)
      · replace hf := gq_ifp h14 hf
        exact hkL7 _ _ _ _ hf
      · replace hf := gq_ifn h14 hf
        refine gq_iload C 0 19 dX3_leaveYard_17 rfl rfl ?_
        refine gq_aload_n C 3 20 dX3_leaveYard_19 rfl rfl ?_
        refine gq_get C fo_X3_8 fw_X3_51 0 0 23 rfl rfl rfl dX3_leaveYard_20 rfl ?_
        refine gq_icmp_ge C 68 26 dX3_leaveYard_23 (by decide) rfl (fun h23 => ?_) (fun h23 => ?_)
        · replace hf := gq_ifp h23 hf
          exact hkL7 _ _ _ _ hf
        · replace hf := gq_ifn h23 hf
          refine gq_iload_n C 1 27 dX3_leaveYard_26 rfl rfl ?_
          refine gq_if_ne C 46 30 dX3_leaveYard_27 (by decide) rfl (fun h27 => ?_) (fun h27 => ?_)
          · replace hf := gq_ifn h27 hf
            refine gq_aload_n C 3 47 dX3_leaveYard_46 rfl rfl ?_
            refine gq_get C fo_X3_7 fw_X3_18 0 0 50 rfl rfl rfl dX3_leaveYard_47 rfl ?_
            refine gq_iload_n C 2 51 dX3_leaveYard_50 rfl rfl ?_
            refine gq_aload_n C 3 52 dX3_leaveYard_51 rfl rfl ?_
            refine gq_get C fo_X3_7 fw_X3_18 0 0 55 rfl rfl rfl dX3_leaveYard_52 rfl ?_
            refine gq_iload C 0 57 dX3_leaveYard_55 rfl rfl ?_
            obtain ⟨h57, hf⟩ := gq_ok hf
            refine gq_iald C 0 3 58 rfl rfl h57 dX3_leaveYard_57 rfl ?_
            obtain ⟨h58, hf⟩ := gq_ok hf
            refine gq_iast C 0 3 59 [iC cI aI hI dI (I_law, I_there, I_sleepers, I_empty, I_empties, (upd I_yard_L7 x2_L7.toNatClampNeg (I_yard_L7 x4_L7.toNatClampNeg)), I_waiting, I_nights, I_used, I_sheets, I_lastOnes, I_guestsWithFleas, I_bedsWithFleas, I_isCounting)] rfl rfl h58 rfl dX3_leaveYard_58 rfl ?_
            refine gq_iinc C 2 [(2, .int (x2_L7 + (nI 1))), (4, .int x4_L7), (3, .int x3_L7), (0, .ref (aI 0)), (1, .int x1)] 62 dX3_leaveYard_59 rfl rfl (by decide) rfl rfl ?_
            refine gq_iinc C 1 [(4, .int (x4_L7 + (nI 1))), (2, .int (x2_L7 + (nI 1))), (3, .int x3_L7), (0, .ref (aI 0)), (1, .int x1)] 65 dX3_leaveYard_62 rfl rfl (by decide) rfl rfl ?_
            refine gq_goto C 7 dX3_leaveYard_65 (by decide) ?_
            refine gq_lv [0, 2, 1, 3, 4] rfl ?_
            exact ihL7 _ _ _ _ hf
          · replace hf := gq_ifp h27 hf
            refine gq_aload_n C 3 31 dX3_leaveYard_30 rfl rfl ?_
            refine gq_get C fo_X3_7 fw_X3_18 0 0 34 rfl rfl rfl dX3_leaveYard_31 rfl ?_
            refine gq_iload C 0 36 dX3_leaveYard_34 rfl rfl ?_
            obtain ⟨h36, hf⟩ := gq_ok hf
            refine gq_iald C 0 3 37 rfl rfl h36 dX3_leaveYard_36 rfl ?_
            refine gq_iload_n C 4 38 dX3_leaveYard_37 rfl rfl ?_
            refine gq_icmp_ne C 46 41 dX3_leaveYard_38 (by decide) rfl (fun h38 => ?_) (fun h38 => ?_)
            · replace hf := gq_ifn h38 hf
              refine gq_aload_n C 3 47 dX3_leaveYard_46 rfl rfl ?_
              refine gq_get C fo_X3_7 fw_X3_18 0 0 50 rfl rfl rfl dX3_leaveYard_47 rfl ?_
              refine gq_iload_n C 2 51 dX3_leaveYard_50 rfl rfl ?_
              refine gq_aload_n C 3 52 dX3_leaveYard_51 rfl rfl ?_
              refine gq_get C fo_X3_7 fw_X3_18 0 0 55 rfl rfl rfl dX3_leaveYard_52 rfl ?_
              refine gq_iload C 0 57 dX3_leaveYard_55 rfl rfl ?_
              obtain ⟨h57, hf⟩ := gq_ok hf
              refine gq_iald C 0 3 58 rfl rfl h57 dX3_leaveYard_57 rfl ?_
              obtain ⟨h58, hf⟩ := gq_ok hf
              refine gq_iast C 0 3 59 [iC cI aI hI dI (I_law, I_there, I_sleepers, I_empty, I_empties, (upd I_yard_L7 x2_L7.toNatClampNeg (I_yard_L7 x4_L7.toNatClampNeg)), I_waiting, I_nights, I_used, I_sheets, I_lastOnes, I_guestsWithFleas, I_bedsWithFleas, I_isCounting)] rfl rfl h58 rfl dX3_leaveYard_58 rfl ?_
              refine gq_iinc C 2 [(2, .int (x2_L7 + (nI 1))), (4, .int x4_L7), (3, .int x3_L7), (0, .ref (aI 0)), (1, .int x1)] 62 dX3_leaveYard_59 rfl rfl (by decide) rfl rfl ?_
              refine gq_iinc C 1 [(4, .int (x4_L7 + (nI 1))), (2, .int (x2_L7 + (nI 1))), (3, .int x3_L7), (0, .ref (aI 0)), (1, .int x1)] 65 dX3_leaveYard_62 rfl rfl (by decide) rfl rfl ?_
              refine gq_goto C 7 dX3_leaveYard_65 (by decide) ?_
              refine gq_lv [0, 2, 1, 3, 4] rfl ?_
              exact ihL7 _ _ _ _ hf
            · replace hf := gq_ifp h38 hf
              refine gq_iconst C (nI 1) 42 dX3_leaveYard_41 (by decide) rfl ?_
              refine gq_istore_n C [(3, .int (nI 1)), (4, .int x4_L7), (2, .int x2_L7), (0, .ref (aI 0)), (1, .int x1)] 43 dX3_leaveYard_42 (by decide) rfl rfl ?_
              refine gq_goto C 62 dX3_leaveYard_43 (by decide) ?_
              refine gq_iinc C 1 [(4, .int (x4_L7 + (nI 1))), (3, .int (nI 1)), (2, .int x2_L7), (0, .ref (aI 0)), (1, .int x1)] 65 dX3_leaveYard_62 rfl rfl (by decide) rfl rfl ?_
              refine gq_goto C 7 dX3_leaveYard_65 (by decide) ?_
              exact ihL7 _ _ _ _ hf
  refine L7 _ (fun x2_L7 x3_L7 x4_L7 I_yard_L7 hf => ?_) _ _ _ _ _ hf
  refine gq_aload_n C 3 69 dX3_leaveYard_68 rfl rfl ?_
  refine gq_iload_n C 2 70 dX3_leaveYard_69 rfl rfl ?_
  refine gq_put C fo_X3_8 fp_X3_8 rfl fw_X3_51 0 0 73 [iC cI aI hI dI (I_law, I_there, I_sleepers, I_empty, I_empties, I_yard_L7, x2_L7, I_nights, I_used, I_sheets, I_lastOnes, I_guestsWithFleas, I_bedsWithFleas, I_isCounting)] rfl rfl rfl rfl (Nat.le_of_ble_eq_true rfl) rfl dX3_leaveYard_70 rfl ?_
  obtain rfl := gq_lf hf
  exact hret dX3_leaveYard_73 gPost.rf

def f_X3_waitInYard : Int32 → InnS → Option (InnS)
  | x1, (I_law, I_there, I_sleepers, I_empty, I_empties, I_yard, I_waiting, I_nights, I_used, I_sheets, I_lastOnes, I_guestsWithFleas, I_bedsWithFleas, I_isCounting) => (if I_waiting < 0 then some (I_law, I_there, I_sleepers, I_empty, I_empties, I_yard, I_waiting, I_nights, I_used, I_sheets, I_lastOnes, I_guestsWithFleas, I_bedsWithFleas, I_isCounting) else (if (nI 16) ≤ I_waiting then some (I_law, I_there, I_sleepers, I_empty, I_empties, I_yard, I_waiting, I_nights, I_used, I_sheets, I_lastOnes, I_guestsWithFleas, I_bedsWithFleas, I_isCounting) else (if I_waiting < 0 ∨ 16 ≤ I_waiting.toNatClampNeg then none else some (I_law, I_there, I_sleepers, I_empty, I_empties, (upd I_yard I_waiting.toNatClampNeg x1), (I_waiting + (nI 1)), I_nights, I_used, I_sheets, I_lastOnes, I_guestsWithFleas, I_bedsWithFleas, I_isCounting))))
set_option maxHeartbeats 4000000 in
set_option maxRecDepth 100000 in
theorem c_X3_waitInYard (l : Launch) (D : va_G) (cI cZ : ClassId) (aI : Nat → Nat) (hI : Nat) (dI : Option Nat) (x1 : Int32) (tI : InnS) (rr : InnS) (hf : f_X3_waitInYard x1 tI = some rr) : CT l D cI cZ yX3_waitInYard cX3_waitInYard 2 none 0 0 0 0 [.ref (aI 0), .int x1] ([iC cI aI hI dI tI]) (gPost none ([iC cI aI hI dI rr])) := by
  obtain ⟨I_law, I_there, I_sleepers, I_empty, I_empties, I_yard, I_waiting, I_nights, I_used, I_sheets, I_lastOnes, I_guestsWithFleas, I_bedsWithFleas, I_isCounting⟩ := tI
  rw [f_X3_waitInYard] at hf
  refine CT.mkV (by decide) (Nat.le_of_ble_eq_true rfl) fun {p} {e} {R} {s} {m} {args} {below} {meth} {c} {A} {H0} {Q} C hA hR hnm hret => ?_
  show G p l e R s m args below meth c 2 D A H0 0 0 Q [iC cI aI hI dI (I_law, I_there, I_sleepers, I_empty, I_empties, I_yard, I_waiting, I_nights, I_used, I_sheets, I_lastOnes, I_guestsWithFleas, I_bedsWithFleas, I_isCounting)] 0 [(0, .ref (aI 0)), (1, .int x1)] []
  refine gq_aload_n C 0 1 dX3_waitInYard_0 rfl rfl ?_
  refine gq_get C fo_X3_8 fw_X3_51 0 0 4 rfl rfl rfl dX3_waitInYard_1 rfl ?_
  refine gq_if_lt C 39 7 dX3_waitInYard_4 (by decide) rfl (fun h4 => ?_) (fun h4 => ?_)
  · replace hf := gq_ifp h4 hf
    obtain rfl := gq_lf hf
    exact hret dX3_waitInYard_39 gPost.rf
  · replace hf := gq_ifn h4 hf
    refine gq_aload_n C 0 8 dX3_waitInYard_7 rfl rfl ?_
    refine gq_get C fo_X3_8 fw_X3_51 0 0 11 rfl rfl rfl dX3_waitInYard_8 rfl ?_
    refine gq_aload_n C 0 12 dX3_waitInYard_11 rfl rfl ?_
    refine gq_get C fo_X3_7 fw_X3_18 0 0 15 rfl rfl rfl dX3_waitInYard_12 rfl ?_
    refine gq_alen C 0 3 16 (nI 16) rfl rfl (by decide) dX3_waitInYard_15 rfl ?_
    refine gq_icmp_ge C 39 19 dX3_waitInYard_16 (by decide) rfl (fun h16 => ?_) (fun h16 => ?_)
    · replace hf := gq_ifp h16 hf
      obtain rfl := gq_lf hf
      exact hret dX3_waitInYard_39 gPost.rf
    · replace hf := gq_ifn h16 hf
      refine gq_aload_n C 0 20 dX3_waitInYard_19 rfl rfl ?_
      refine gq_get C fo_X3_7 fw_X3_18 0 0 23 rfl rfl rfl dX3_waitInYard_20 rfl ?_
      refine gq_aload_n C 0 24 dX3_waitInYard_23 rfl rfl ?_
      refine gq_get C fo_X3_8 fw_X3_51 0 0 27 rfl rfl rfl dX3_waitInYard_24 rfl ?_
      refine gq_iload_n C 1 28 dX3_waitInYard_27 rfl rfl ?_
      obtain ⟨h28, hf⟩ := gq_ok hf
      refine gq_iast C 0 3 29 [iC cI aI hI dI (I_law, I_there, I_sleepers, I_empty, I_empties, (upd I_yard I_waiting.toNatClampNeg x1), I_waiting, I_nights, I_used, I_sheets, I_lastOnes, I_guestsWithFleas, I_bedsWithFleas, I_isCounting)] rfl rfl h28 rfl dX3_waitInYard_28 rfl ?_
      refine gq_aload_n C 0 30 dX3_waitInYard_29 rfl rfl ?_
      refine gq_dup C 31 dX3_waitInYard_30 rfl rfl ?_
      refine gq_get C fo_X3_8 fw_X3_51 0 0 34 rfl rfl rfl dX3_waitInYard_31 rfl ?_
      refine gq_iconst C (nI 1) 35 dX3_waitInYard_34 (by decide) rfl ?_
      refine gq_iadd C 36 dX3_waitInYard_35 rfl ?_
      refine gq_put C fo_X3_8 fp_X3_8 rfl fw_X3_51 0 0 39 [iC cI aI hI dI (I_law, I_there, I_sleepers, I_empty, I_empties, (upd I_yard I_waiting.toNatClampNeg x1), (I_waiting + (nI 1)), I_nights, I_used, I_sheets, I_lastOnes, I_guestsWithFleas, I_bedsWithFleas, I_isCounting)] rfl rfl rfl rfl (Nat.le_of_ble_eq_true rfl) rfl dX3_waitInYard_36 rfl ?_
      obtain rfl := gq_lf hf
      exact hret dX3_waitInYard_39 gPost.rf

def f_X3_leaveEmpty : Int32 → InnS → Option (InnS)
  | x1, (I_law, I_there, I_sleepers, I_empty, I_empties, I_yard, I_waiting, I_nights, I_used, I_sheets, I_lastOnes, I_guestsWithFleas, I_bedsWithFleas, I_isCounting) => (if x1 < 0 then some (I_law, I_there, I_sleepers, I_empty, I_empties, I_yard, I_waiting, I_nights, I_used, I_sheets, I_lastOnes, I_guestsWithFleas, I_bedsWithFleas, I_isCounting) else (if (nI 8) ≤ x1 then some (I_law, I_there, I_sleepers, I_empty, I_empties, I_yard, I_waiting, I_nights, I_used, I_sheets, I_lastOnes, I_guestsWithFleas, I_bedsWithFleas, I_isCounting) else (if I_empties < 0 then some (I_law, I_there, I_sleepers, I_empty, I_empties, I_yard, I_waiting, I_nights, I_used, I_sheets, I_lastOnes, I_guestsWithFleas, I_bedsWithFleas, I_isCounting) else (if I_empties < (nI 8) then (if x1 < 0 ∨ 8 ≤ x1.toNatClampNeg then none else (if I_empties < 0 ∨ 8 ≤ I_empties.toNatClampNeg then none else some (I_law, I_there, (upd I_sleepers x1.toNatClampNeg (-1 : Int32)), (upd I_empty I_empties.toNatClampNeg x1), (I_empties + (nI 1)), I_yard, I_waiting, I_nights, I_used, I_sheets, I_lastOnes, I_guestsWithFleas, I_bedsWithFleas, I_isCounting))) else some (I_law, I_there, I_sleepers, I_empty, I_empties, I_yard, I_waiting, I_nights, I_used, I_sheets, I_lastOnes, I_guestsWithFleas, I_bedsWithFleas, I_isCounting)))))
set_option maxHeartbeats 4000000 in
set_option maxRecDepth 100000 in
theorem c_X3_leaveEmpty (l : Launch) (D : va_G) (cI cZ : ClassId) (aI : Nat → Nat) (hI : Nat) (dI : Option Nat) (x1 : Int32) (tI : InnS) (rr : InnS) (hf : f_X3_leaveEmpty x1 tI = some rr) : CT l D cI cZ yX3_leaveEmpty cX3_leaveEmpty 2 none 0 0 0 0 [.ref (aI 0), .int x1] ([iC cI aI hI dI tI]) (gPost none ([iC cI aI hI dI rr])) := by
  obtain ⟨I_law, I_there, I_sleepers, I_empty, I_empties, I_yard, I_waiting, I_nights, I_used, I_sheets, I_lastOnes, I_guestsWithFleas, I_bedsWithFleas, I_isCounting⟩ := tI
  rw [f_X3_leaveEmpty] at hf
  refine CT.mkV (by decide) (Nat.le_of_ble_eq_true rfl) fun {p} {e} {R} {s} {m} {args} {below} {meth} {c} {A} {H0} {Q} C hA hR hnm hret => ?_
  show G p l e R s m args below meth c 2 D A H0 0 0 Q [iC cI aI hI dI (I_law, I_there, I_sleepers, I_empty, I_empties, I_yard, I_waiting, I_nights, I_used, I_sheets, I_lastOnes, I_guestsWithFleas, I_bedsWithFleas, I_isCounting)] 0 [(0, .ref (aI 0)), (1, .int x1)] []
  refine gq_iload_n C 1 1 dX3_leaveEmpty_0 rfl rfl ?_
  refine gq_if_lt C 26 4 dX3_leaveEmpty_1 (by decide) rfl (fun h1 => ?_) (fun h1 => ?_)
  · replace hf := gq_ifp h1 hf
    obtain rfl := gq_lf hf
    exact hret dX3_leaveEmpty_26 gPost.rf
  · replace hf := gq_ifn h1 hf
    refine gq_iload_n C 1 5 dX3_leaveEmpty_4 rfl rfl ?_
    refine gq_bipush C (nI 8) 7 dX3_leaveEmpty_5 (by decide) rfl ?_
    refine gq_icmp_ge C 26 10 dX3_leaveEmpty_7 (by decide) rfl (fun h7 => ?_) (fun h7 => ?_)
    · replace hf := gq_ifp h7 hf
      obtain rfl := gq_lf hf
      exact hret dX3_leaveEmpty_26 gPost.rf
    · replace hf := gq_ifn h7 hf
      refine gq_aload_n C 0 11 dX3_leaveEmpty_10 rfl rfl ?_
      refine gq_get C fo_X3_6 fw_X3_48 0 0 14 rfl rfl rfl dX3_leaveEmpty_11 rfl ?_
      refine gq_if_lt C 26 17 dX3_leaveEmpty_14 (by decide) rfl (fun h14 => ?_) (fun h14 => ?_)
      · replace hf := gq_ifp h14 hf
        obtain rfl := gq_lf hf
        exact hret dX3_leaveEmpty_26 gPost.rf
      · replace hf := gq_ifn h14 hf
        refine gq_aload_n C 0 18 dX3_leaveEmpty_17 rfl rfl ?_
        refine gq_get C fo_X3_6 fw_X3_48 0 0 21 rfl rfl rfl dX3_leaveEmpty_18 rfl ?_
        refine gq_bipush C (nI 8) 23 dX3_leaveEmpty_21 (by decide) rfl ?_
        refine gq_icmp_lt C 27 26 dX3_leaveEmpty_23 (by decide) rfl (fun h23 => ?_) (fun h23 => ?_)
        · replace hf := gq_ifp h23 hf
          refine gq_aload_n C 0 28 dX3_leaveEmpty_27 rfl rfl ?_
          refine gq_get C fo_X3_4 fw_X3_9 0 0 31 rfl rfl rfl dX3_leaveEmpty_28 rfl ?_
          refine gq_iload_n C 1 32 dX3_leaveEmpty_31 rfl rfl ?_
          refine gq_iconst C (-1 : Int32) 33 dX3_leaveEmpty_32 (by decide) rfl ?_
          obtain ⟨h33, hf⟩ := gq_ok hf
          refine gq_iast C 0 1 34 [iC cI aI hI dI (I_law, I_there, (upd I_sleepers x1.toNatClampNeg (-1 : Int32)), I_empty, I_empties, I_yard, I_waiting, I_nights, I_used, I_sheets, I_lastOnes, I_guestsWithFleas, I_bedsWithFleas, I_isCounting)] rfl rfl h33 rfl dX3_leaveEmpty_33 rfl ?_
          refine gq_aload_n C 0 35 dX3_leaveEmpty_34 rfl rfl ?_
          refine gq_get C fo_X3_5 fw_X3_15 0 0 38 rfl rfl rfl dX3_leaveEmpty_35 rfl ?_
          refine gq_aload_n C 0 39 dX3_leaveEmpty_38 rfl rfl ?_
          refine gq_get C fo_X3_6 fw_X3_48 0 0 42 rfl rfl rfl dX3_leaveEmpty_39 rfl ?_
          refine gq_iload_n C 1 43 dX3_leaveEmpty_42 rfl rfl ?_
          obtain ⟨h43, hf⟩ := gq_ok hf
          refine gq_iast C 0 2 44 [iC cI aI hI dI (I_law, I_there, (upd I_sleepers x1.toNatClampNeg (-1 : Int32)), (upd I_empty I_empties.toNatClampNeg x1), I_empties, I_yard, I_waiting, I_nights, I_used, I_sheets, I_lastOnes, I_guestsWithFleas, I_bedsWithFleas, I_isCounting)] rfl rfl h43 rfl dX3_leaveEmpty_43 rfl ?_
          refine gq_aload_n C 0 45 dX3_leaveEmpty_44 rfl rfl ?_
          refine gq_dup C 46 dX3_leaveEmpty_45 rfl rfl ?_
          refine gq_get C fo_X3_6 fw_X3_48 0 0 49 rfl rfl rfl dX3_leaveEmpty_46 rfl ?_
          refine gq_iconst C (nI 1) 50 dX3_leaveEmpty_49 (by decide) rfl ?_
          refine gq_iadd C 51 dX3_leaveEmpty_50 rfl ?_
          refine gq_put C fo_X3_6 fp_X3_6 rfl fw_X3_48 0 0 54 [iC cI aI hI dI (I_law, I_there, (upd I_sleepers x1.toNatClampNeg (-1 : Int32)), (upd I_empty I_empties.toNatClampNeg x1), (I_empties + (nI 1)), I_yard, I_waiting, I_nights, I_used, I_sheets, I_lastOnes, I_guestsWithFleas, I_bedsWithFleas, I_isCounting)] rfl rfl rfl rfl (Nat.le_of_ble_eq_true rfl) rfl dX3_leaveEmpty_51 rfl ?_
          obtain rfl := gq_lf hf
          exact hret dX3_leaveEmpty_54 gPost.rf
        · replace hf := gq_ifn h23 hf
          obtain rfl := gq_lf hf
          exact hret dX3_leaveEmpty_26 gPost.rf

def f_X3_occupy : Int32 → Int32 → InnS → Option (InnS)
  | x1, x2, (I_law, I_there, I_sleepers, I_empty, I_empties, I_yard, I_waiting, I_nights, I_used, I_sheets, I_lastOnes, I_guestsWithFleas, I_bedsWithFleas, I_isCounting) => (if x1 < 0 then some (I_law, I_there, I_sleepers, I_empty, I_empties, I_yard, I_waiting, I_nights, I_used, I_sheets, I_lastOnes, I_guestsWithFleas, I_bedsWithFleas, I_isCounting) else (if x1 < (nI 8) then (if x1 < 0 ∨ 8 ≤ x1.toNatClampNeg then none else (if x1 < 0 ∨ 8 ≤ x1.toNatClampNeg then none else (if x1 < 0 ∨ 8 ≤ x1.toNatClampNeg then none else (if x1 < 0 ∨ 8 ≤ x1.toNatClampNeg then none else (if (I_lastOnes x1.toNatClampNeg) = x2 then (if x1 < 0 ∨ 8 ≤ x1.toNatClampNeg then none else some (I_law, I_there, (upd I_sleepers x1.toNatClampNeg x2), I_empty, I_empties, I_yard, I_waiting, I_nights, (upd I_used x1.toNatClampNeg ((I_used x1.toNatClampNeg) + (nI 1))), I_sheets, (upd I_lastOnes x1.toNatClampNeg x2), I_guestsWithFleas, I_bedsWithFleas, I_isCounting)) else (if x1 < 0 ∨ 8 ≤ x1.toNatClampNeg then none else (if x1 < 0 ∨ 8 ≤ x1.toNatClampNeg then none else (if x1 < 0 ∨ 8 ≤ x1.toNatClampNeg then none else some (I_law, I_there, (upd I_sleepers x1.toNatClampNeg x2), I_empty, I_empties, I_yard, I_waiting, I_nights, (upd I_used x1.toNatClampNeg ((I_used x1.toNatClampNeg) + (nI 1))), (upd I_sheets x1.toNatClampNeg ((I_sheets x1.toNatClampNeg) + (nI 1))), (upd I_lastOnes x1.toNatClampNeg x2), I_guestsWithFleas, I_bedsWithFleas, I_isCounting))))))))) else some (I_law, I_there, I_sleepers, I_empty, I_empties, I_yard, I_waiting, I_nights, I_used, I_sheets, I_lastOnes, I_guestsWithFleas, I_bedsWithFleas, I_isCounting)))
set_option maxHeartbeats 4000000 in
set_option maxRecDepth 100000 in
theorem c_X3_occupy (l : Launch) (D : va_G) (cI cZ : ClassId) (aI : Nat → Nat) (hI : Nat) (dI : Option Nat) (x1 : Int32) (x2 : Int32) (tI : InnS) (rr : InnS) (hf : f_X3_occupy x1 x2 tI = some rr) : CT l D cI cZ yX3_occupy cX3_occupy 3 none 0 0 0 0 [.ref (aI 0), .int x1, .int x2] ([iC cI aI hI dI tI]) (gPost none ([iC cI aI hI dI rr])) := by
  obtain ⟨I_law, I_there, I_sleepers, I_empty, I_empties, I_yard, I_waiting, I_nights, I_used, I_sheets, I_lastOnes, I_guestsWithFleas, I_bedsWithFleas, I_isCounting⟩ := tI
  rw [f_X3_occupy] at hf
  refine CT.mkV (by decide) (Nat.le_of_ble_eq_true rfl) fun {p} {e} {R} {s} {m} {args} {below} {meth} {c} {A} {H0} {Q} C hA hR hnm hret => ?_
  show G p l e R s m args below meth c 3 D A H0 0 0 Q [iC cI aI hI dI (I_law, I_there, I_sleepers, I_empty, I_empties, I_yard, I_waiting, I_nights, I_used, I_sheets, I_lastOnes, I_guestsWithFleas, I_bedsWithFleas, I_isCounting)] 0 [(0, .ref (aI 0)), (1, .int x1), (2, .int x2)] []
  refine gq_iload_n C 1 1 dX3_occupy_0 rfl rfl ?_
  refine gq_if_lt C 10 4 dX3_occupy_1 (by decide) rfl (fun h1 => ?_) (fun h1 => ?_)
  · replace hf := gq_ifp h1 hf
    obtain rfl := gq_lf hf
    exact hret dX3_occupy_10 gPost.rf
  · replace hf := gq_ifn h1 hf
    refine gq_iload_n C 1 5 dX3_occupy_4 rfl rfl ?_
    refine gq_bipush C (nI 8) 7 dX3_occupy_5 (by decide) rfl ?_
    refine gq_icmp_lt C 11 10 dX3_occupy_7 (by decide) rfl (fun h7 => ?_) (fun h7 => ?_)
    · replace hf := gq_ifp h7 hf
      refine gq_aload_n C 0 12 dX3_occupy_11 rfl rfl ?_
      refine gq_get C fo_X3_4 fw_X3_9 0 0 15 rfl rfl rfl dX3_occupy_12 rfl ?_
      refine gq_iload_n C 1 16 dX3_occupy_15 rfl rfl ?_
      refine gq_iload_n C 2 17 dX3_occupy_16 rfl rfl ?_
      obtain ⟨h17, hf⟩ := gq_ok hf
      refine gq_iast C 0 1 18 [iC cI aI hI dI (I_law, I_there, (upd I_sleepers x1.toNatClampNeg x2), I_empty, I_empties, I_yard, I_waiting, I_nights, I_used, I_sheets, I_lastOnes, I_guestsWithFleas, I_bedsWithFleas, I_isCounting)] rfl rfl h17 rfl dX3_occupy_17 rfl ?_
      refine gq_aload_n C 0 19 dX3_occupy_18 rfl rfl ?_
      refine gq_get C fo_X3_10 fw_X3_24 0 0 22 rfl rfl rfl dX3_occupy_19 rfl ?_
      refine gq_iload_n C 1 23 dX3_occupy_22 rfl rfl ?_
      refine gq_dup2 C 24 dX3_occupy_23 rfl rfl rfl ?_
      obtain ⟨h24, hf⟩ := gq_ok hf
      refine gq_iald C 0 5 25 rfl rfl h24 dX3_occupy_24 rfl ?_
      refine gq_iconst C (nI 1) 26 dX3_occupy_25 (by decide) rfl ?_
      refine gq_iadd C 27 dX3_occupy_26 rfl ?_
      obtain ⟨h27, hf⟩ := gq_ok hf
      refine gq_iast C 0 5 28 [iC cI aI hI dI (I_law, I_there, (upd I_sleepers x1.toNatClampNeg x2), I_empty, I_empties, I_yard, I_waiting, I_nights, (upd I_used x1.toNatClampNeg ((I_used x1.toNatClampNeg) + (nI 1))), I_sheets, I_lastOnes, I_guestsWithFleas, I_bedsWithFleas, I_isCounting)] rfl rfl h27 rfl dX3_occupy_27 rfl ?_
      refine gq_aload_n C 0 29 dX3_occupy_28 rfl rfl ?_
      refine gq_get C fo_X3_12 fw_X3_30 0 0 32 rfl rfl rfl dX3_occupy_29 rfl ?_
      refine gq_iload_n C 1 33 dX3_occupy_32 rfl rfl ?_
      obtain ⟨h33, hf⟩ := gq_ok hf
      refine gq_iald C 0 7 34 rfl rfl h33 dX3_occupy_33 rfl ?_
      refine gq_iload_n C 2 35 dX3_occupy_34 rfl rfl ?_
      refine gq_icmp_eq C 48 38 dX3_occupy_35 (by decide) rfl (fun h35 => ?_) (fun h35 => ?_)
      · replace hf := gq_ifp h35 hf
        refine gq_aload_n C 0 49 dX3_occupy_48 rfl rfl ?_
        refine gq_get C fo_X3_12 fw_X3_30 0 0 52 rfl rfl rfl dX3_occupy_49 rfl ?_
        refine gq_iload_n C 1 53 dX3_occupy_52 rfl rfl ?_
        refine gq_iload_n C 2 54 dX3_occupy_53 rfl rfl ?_
        obtain ⟨h54, hf⟩ := gq_ok hf
        refine gq_iast C 0 7 55 [iC cI aI hI dI (I_law, I_there, (upd I_sleepers x1.toNatClampNeg x2), I_empty, I_empties, I_yard, I_waiting, I_nights, (upd I_used x1.toNatClampNeg ((I_used x1.toNatClampNeg) + (nI 1))), I_sheets, (upd I_lastOnes x1.toNatClampNeg x2), I_guestsWithFleas, I_bedsWithFleas, I_isCounting)] rfl rfl h54 rfl dX3_occupy_54 rfl ?_
        obtain rfl := gq_lf hf
        exact hret dX3_occupy_55 gPost.rf
      · replace hf := gq_ifn h35 hf
        refine gq_aload_n C 0 39 dX3_occupy_38 rfl rfl ?_
        refine gq_get C fo_X3_11 fw_X3_27 0 0 42 rfl rfl rfl dX3_occupy_39 rfl ?_
        refine gq_iload_n C 1 43 dX3_occupy_42 rfl rfl ?_
        refine gq_dup2 C 44 dX3_occupy_43 rfl rfl rfl ?_
        obtain ⟨h44, hf⟩ := gq_ok hf
        refine gq_iald C 0 6 45 rfl rfl h44 dX3_occupy_44 rfl ?_
        refine gq_iconst C (nI 1) 46 dX3_occupy_45 (by decide) rfl ?_
        refine gq_iadd C 47 dX3_occupy_46 rfl ?_
        obtain ⟨h47, hf⟩ := gq_ok hf
        refine gq_iast C 0 6 48 [iC cI aI hI dI (I_law, I_there, (upd I_sleepers x1.toNatClampNeg x2), I_empty, I_empties, I_yard, I_waiting, I_nights, (upd I_used x1.toNatClampNeg ((I_used x1.toNatClampNeg) + (nI 1))), (upd I_sheets x1.toNatClampNeg ((I_sheets x1.toNatClampNeg) + (nI 1))), I_lastOnes, I_guestsWithFleas, I_bedsWithFleas, I_isCounting)] rfl rfl h47 rfl dX3_occupy_47 rfl ?_
        refine gq_aload_n C 0 49 dX3_occupy_48 rfl rfl ?_
        refine gq_get C fo_X3_12 fw_X3_30 0 0 52 rfl rfl rfl dX3_occupy_49 rfl ?_
        refine gq_iload_n C 1 53 dX3_occupy_52 rfl rfl ?_
        refine gq_iload_n C 2 54 dX3_occupy_53 rfl rfl ?_
        obtain ⟨h54, hf⟩ := gq_ok hf
        refine gq_iast C 0 7 55 [iC cI aI hI dI (I_law, I_there, (upd I_sleepers x1.toNatClampNeg x2), I_empty, I_empties, I_yard, I_waiting, I_nights, (upd I_used x1.toNatClampNeg ((I_used x1.toNatClampNeg) + (nI 1))), (upd I_sheets x1.toNatClampNeg ((I_sheets x1.toNatClampNeg) + (nI 1))), (upd I_lastOnes x1.toNatClampNeg x2), I_guestsWithFleas, I_bedsWithFleas, I_isCounting)] rfl rfl h54 rfl dX3_occupy_54 rfl ?_
        obtain rfl := gq_lf hf
        exact hret dX3_occupy_55 gPost.rf
    · replace hf := gq_ifn h7 hf
      obtain rfl := gq_lf hf
      exact hret dX3_occupy_10 gPost.rf

def f_X3_takeFromEmpty_L31 (c_I_empties : Int32) : Nat → Int32 → (Nat → Int32) → (Int32 → (Nat → Int32) → Option (Int32 × InnS)) → Option (Int32 × InnS)
  | 0, _, _, _ => none
  | nL31 + 1, x3_L31, I_empty_L31, kL31 => (if (nI 8) ≤ x3_L31 then kL31 x3_L31 I_empty_L31 else (if c_I_empties ≤ x3_L31 then kL31 x3_L31 I_empty_L31 else (if x3_L31 < 0 ∨ 8 ≤ x3_L31.toNatClampNeg then none else (if (x3_L31 - (nI 1)) < 0 ∨ 8 ≤ (x3_L31 - (nI 1)).toNatClampNeg then none else f_X3_takeFromEmpty_L31 c_I_empties nL31 (x3_L31 + (nI 1)) (upd I_empty_L31 (x3_L31 - (nI 1)).toNatClampNeg (I_empty_L31 x3_L31.toNatClampNeg)) kL31))))
def f_X3_takeFromEmpty : Int32 → InnS → Option (Int32 × InnS)
  | x1, (I_law, I_there, I_sleepers, I_empty, I_empties, I_yard, I_waiting, I_nights, I_used, I_sheets, I_lastOnes, I_guestsWithFleas, I_bedsWithFleas, I_isCounting) => (if x1 < 0 then some ((-1 : Int32), (I_law, I_there, I_sleepers, I_empty, I_empties, I_yard, I_waiting, I_nights, I_used, I_sheets, I_lastOnes, I_guestsWithFleas, I_bedsWithFleas, I_isCounting)) else (if I_empties ≤ x1 then some ((-1 : Int32), (I_law, I_there, I_sleepers, I_empty, I_empties, I_yard, I_waiting, I_nights, I_used, I_sheets, I_lastOnes, I_guestsWithFleas, I_bedsWithFleas, I_isCounting)) else (if x1 < (nI 8) then (if x1 < 0 ∨ 8 ≤ x1.toNatClampNeg then none else f_X3_takeFromEmpty_L31 I_empties FU (x1 + (nI 1)) I_empty (fun x3_L31 I_empty_L31 => some ((I_empty x1.toNatClampNeg), (I_law, I_there, I_sleepers, I_empty_L31, (I_empties - (nI 1)), I_yard, I_waiting, I_nights, I_used, I_sheets, I_lastOnes, I_guestsWithFleas, I_bedsWithFleas, I_isCounting)))) else some ((-1 : Int32), (I_law, I_there, I_sleepers, I_empty, I_empties, I_yard, I_waiting, I_nights, I_used, I_sheets, I_lastOnes, I_guestsWithFleas, I_bedsWithFleas, I_isCounting)))))
set_option maxHeartbeats 4000000 in
set_option maxRecDepth 100000 in
theorem c_X3_takeFromEmpty (l : Launch) (D : va_G) (cI cZ : ClassId) (aI : Nat → Nat) (hI : Nat) (dI : Option Nat) (x1 : Int32) (tI : InnS) (rr : Int32 × InnS) (hf : f_X3_takeFromEmpty x1 tI = some rr) : CT l D cI cZ yX3_takeFromEmpty cX3_takeFromEmpty 4 (some .int) 0 0 0 0 [.ref (aI 0), .int x1] ([iC cI aI hI dI tI]) (gPost (some (.int rr.1)) ([iC cI aI hI dI rr.2])) := by
  obtain ⟨I_law, I_there, I_sleepers, I_empty, I_empties, I_yard, I_waiting, I_nights, I_used, I_sheets, I_lastOnes, I_guestsWithFleas, I_bedsWithFleas, I_isCounting⟩ := tI
  rw [f_X3_takeFromEmpty] at hf
  refine CT.mkI (by decide) (Nat.le_of_ble_eq_true rfl) fun {p} {e} {R} {s} {m} {args} {below} {meth} {c} {A} {H0} {Q} C hA hR hret => ?_
  show G p l e R s m args below meth c 4 D A H0 0 0 Q [iC cI aI hI dI (I_law, I_there, I_sleepers, I_empty, I_empties, I_yard, I_waiting, I_nights, I_used, I_sheets, I_lastOnes, I_guestsWithFleas, I_bedsWithFleas, I_isCounting)] 0 [(0, .ref (aI 0)), (1, .int x1)] []
  refine gq_iload_n C 1 1 dX3_takeFromEmpty_0 rfl rfl ?_
  refine gq_if_lt C 18 4 dX3_takeFromEmpty_1 (by decide) rfl (fun h1 => ?_) (fun h1 => ?_)
  · replace hf := gq_ifp h1 hf
    refine gq_iconst C (-1 : Int32) 19 dX3_takeFromEmpty_18 (by decide) rfl ?_
    obtain rfl := gq_lf hf
    exact hret dX3_takeFromEmpty_19 gPost.rf
  · replace hf := gq_ifn h1 hf
    refine gq_iload_n C 1 5 dX3_takeFromEmpty_4 rfl rfl ?_
    refine gq_aload_n C 0 6 dX3_takeFromEmpty_5 rfl rfl ?_
    refine gq_get C fo_X3_6 fw_X3_48 0 0 9 rfl rfl rfl dX3_takeFromEmpty_6 rfl ?_
    refine gq_icmp_ge C 18 12 dX3_takeFromEmpty_9 (by decide) rfl (fun h9 => ?_) (fun h9 => ?_)
    · replace hf := gq_ifp h9 hf
      refine gq_iconst C (-1 : Int32) 19 dX3_takeFromEmpty_18 (by decide) rfl ?_
      obtain rfl := gq_lf hf
      exact hret dX3_takeFromEmpty_19 gPost.rf
    · replace hf := gq_ifn h9 hf
      refine gq_iload_n C 1 13 dX3_takeFromEmpty_12 rfl rfl ?_
      refine gq_bipush C (nI 8) 15 dX3_takeFromEmpty_13 (by decide) rfl ?_
      refine gq_icmp_lt C 20 18 dX3_takeFromEmpty_15 (by decide) rfl (fun h15 => ?_) (fun h15 => ?_)
      · replace hf := gq_ifp h15 hf
        refine gq_aload_n C 0 21 dX3_takeFromEmpty_20 rfl rfl ?_
        refine gq_get C fo_X3_5 fw_X3_15 0 0 24 rfl rfl rfl dX3_takeFromEmpty_21 rfl ?_
        refine gq_iload_n C 1 25 dX3_takeFromEmpty_24 rfl rfl ?_
        obtain ⟨h25, hf⟩ := gq_ok hf
        refine gq_iald C 0 2 26 rfl rfl h25 dX3_takeFromEmpty_25 rfl ?_
        refine gq_istore_n C [(2, .int (I_empty x1.toNatClampNeg)), (0, .ref (aI 0)), (1, .int x1)] 27 dX3_takeFromEmpty_26 (by decide) rfl rfl ?_
        refine gq_iload_n C 2 28 dX3_takeFromEmpty_27 rfl rfl ?_
        refine gq_iconst C (nI 1) 29 dX3_takeFromEmpty_28 (by decide) rfl ?_
        refine gq_iadd C 30 dX3_takeFromEmpty_29 rfl ?_
        refine gq_istore_n C [(3, .int (x1 + (nI 1))), (2, .int (I_empty x1.toNatClampNeg)), (0, .ref (aI 0)), (1, .int x1)] 31 dX3_takeFromEmpty_30 (by decide) rfl rfl ?_
        have L31 : ∀ (kL : Int32 → (Nat → Int32) → Option (Int32 × InnS)), (∀ (x3_L31 : Int32) (I_empty_L31 : (Nat → Int32)), kL x3_L31 I_empty_L31 = some rr → G p l e R s m args below meth c 4 D A H0 0 0 Q [iC cI aI hI dI (I_law, I_there, I_sleepers, I_empty_L31, I_empties, I_yard, I_waiting, I_nights, I_used, I_sheets, I_lastOnes, I_guestsWithFleas, I_bedsWithFleas, I_isCounting)] 65 [(3, .int x3_L31), (2, .int (I_empty x1.toNatClampNeg)), (0, .ref (aI 0)), (1, .int x1)] []) → ∀ (n : Nat) (x3_L31 : Int32) (I_empty_L31 : (Nat → Int32)), f_X3_takeFromEmpty_L31 I_empties n x3_L31 I_empty_L31 kL = some rr → G p l e R s m args below meth c 4 D A H0 0 0 Q [iC cI aI hI dI (I_law, I_there, I_sleepers, I_empty_L31, I_empties, I_yard, I_waiting, I_nights, I_used, I_sheets, I_lastOnes, I_guestsWithFleas, I_bedsWithFleas, I_isCounting)] 31 [(3, .int x3_L31), (2, .int (I_empty x1.toNatClampNeg)), (0, .ref (aI 0)), (1, .int x1)] [] := by
          intro kL hkL31 n
          induction n with
          | zero =>
            intro x3_L31 I_empty_L31 hf
            rw [f_X3_takeFromEmpty_L31] at hf
            cases hf
          | succ n ihL31 =>
            intro x3_L31 I_empty_L31 hf
            rw [f_X3_takeFromEmpty_L31] at hf
            refine gq_iload_n C 0 32 dX3_takeFromEmpty_31 rfl rfl ?_
            refine gq_bipush C (nI 8) 34 dX3_takeFromEmpty_32 (by decide) rfl ?_
            refine gq_icmp_ge C 65 37 dX3_takeFromEmpty_34 (by decide) rfl (fun h34 => ?_) (fun h34 => ?_)
            · replace hf := gq_ifp h34 hf
              exact hkL31 _ _ hf
            · replace hf := gq_ifn h34 hf
              refine gq_iload_n C 0 38 dX3_takeFromEmpty_37 rfl rfl ?_
              refine gq_aload_n C 2 39 dX3_takeFromEmpty_38 rfl rfl ?_
              refine gq_get C fo_X3_6 fw_X3_48 0 0 42 rfl rfl rfl dX3_takeFromEmpty_39 rfl ?_
              refine gq_icmp_ge C 65 45 dX3_takeFromEmpty_42 (by decide) rfl (fun h42 => ?_) (fun h42 => ?_)
              · replace hf := gq_ifp h42 hf
                exact hkL31 _ _ hf
              · replace hf := gq_ifn h42 hf
                refine gq_aload_n C 2 46 dX3_takeFromEmpty_45 rfl rfl ?_
                refine gq_get C fo_X3_5 fw_X3_15 0 0 49 rfl rfl rfl dX3_takeFromEmpty_46 rfl ?_
                refine gq_iload_n C 0 50 dX3_takeFromEmpty_49 rfl rfl ?_
                refine gq_iconst C (nI 1) 51 dX3_takeFromEmpty_50 (by decide) rfl ?_
                refine gq_isub C 52 dX3_takeFromEmpty_51 rfl ?_
                refine gq_aload_n C 2 53 dX3_takeFromEmpty_52 rfl rfl ?_
                refine gq_get C fo_X3_5 fw_X3_15 0 0 56 rfl rfl rfl dX3_takeFromEmpty_53 rfl ?_
                refine gq_iload_n C 0 57 dX3_takeFromEmpty_56 rfl rfl ?_
                obtain ⟨h57, hf⟩ := gq_ok hf
                refine gq_iald C 0 2 58 rfl rfl h57 dX3_takeFromEmpty_57 rfl ?_
                obtain ⟨h58, hf⟩ := gq_ok hf
                refine gq_iast C 0 2 59 [iC cI aI hI dI (I_law, I_there, I_sleepers, (upd I_empty_L31 (x3_L31 - (nI 1)).toNatClampNeg (I_empty_L31 x3_L31.toNatClampNeg)), I_empties, I_yard, I_waiting, I_nights, I_used, I_sheets, I_lastOnes, I_guestsWithFleas, I_bedsWithFleas, I_isCounting)] rfl rfl h58 rfl dX3_takeFromEmpty_58 rfl ?_
                refine gq_iinc C 0 [(3, .int (x3_L31 + (nI 1))), (2, .int (I_empty x1.toNatClampNeg)), (0, .ref (aI 0)), (1, .int x1)] 62 dX3_takeFromEmpty_59 rfl rfl (by decide) rfl rfl ?_
                refine gq_goto C 31 dX3_takeFromEmpty_62 (by decide) ?_
                exact ihL31 _ _ hf
        refine L31 _ (fun x3_L31 I_empty_L31 hf => ?_) _ _ _ hf
        refine gq_aload_n C 2 66 dX3_takeFromEmpty_65 rfl rfl ?_
        refine gq_dup C 67 dX3_takeFromEmpty_66 rfl rfl ?_
        refine gq_get C fo_X3_6 fw_X3_48 0 0 70 rfl rfl rfl dX3_takeFromEmpty_67 rfl ?_
        refine gq_iconst C (nI 1) 71 dX3_takeFromEmpty_70 (by decide) rfl ?_
        refine gq_isub C 72 dX3_takeFromEmpty_71 rfl ?_
        refine gq_put C fo_X3_6 fp_X3_6 rfl fw_X3_48 0 0 75 [iC cI aI hI dI (I_law, I_there, I_sleepers, I_empty_L31, (I_empties - (nI 1)), I_yard, I_waiting, I_nights, I_used, I_sheets, I_lastOnes, I_guestsWithFleas, I_bedsWithFleas, I_isCounting)] rfl rfl rfl rfl (Nat.le_of_ble_eq_true rfl) rfl dX3_takeFromEmpty_72 rfl ?_
        refine gq_iload_n C 1 76 dX3_takeFromEmpty_75 rfl rfl ?_
        obtain rfl := gq_lf hf
        exact hret dX3_takeFromEmpty_76 gPost.rf
      · replace hf := gq_ifn h15 hf
        refine gq_iconst C (-1 : Int32) 19 dX3_takeFromEmpty_18 (by decide) rfl ?_
        obtain rfl := gq_lf hf
        exact hret dX3_takeFromEmpty_19 gPost.rf

def f_X3_dearestOfEmpty_L4 (c_x1 : Int32) (c_H_beds : Int32) (c_H_law : Int32) (c_H_sights : Int32) (c_H_isKept : Int32) (c_H_worths : (Nat → Int32)) (c_H_sightGuests : (Nat → Int32)) (c_H_sightBeds : (Nat → Int32)) (c_I_empty : (Nat → Int32)) (c_I_empties : Int32) : Nat → Int32 → Int32 → (Int32 → Int32 → Option (Int32)) → Option (Int32)
  | 0, _, _, _ => none
  | nL4 + 1, x2_L4, x3_L4, kL4 => (if (nI 8) ≤ x3_L4 then kL4 x2_L4 x3_L4 else (if c_I_empties ≤ x3_L4 then kL4 x2_L4 x3_L4 else (if x3_L4 < 0 ∨ 8 ≤ x3_L4.toNatClampNeg then none else (Option.bind (f_X2_worthOf c_x1 (c_I_empty x3_L4.toNatClampNeg) (c_H_beds, c_H_law, c_H_sights, c_H_isKept, c_H_worths, c_H_sightGuests, c_H_sightBeds)) (fun r_29 => (if x2_L4 < 0 ∨ 8 ≤ x2_L4.toNatClampNeg then none else (Option.bind (f_X2_worthOf c_x1 (c_I_empty x2_L4.toNatClampNeg) (c_H_beds, c_H_law, c_H_sights, c_H_isKept, c_H_worths, c_H_sightGuests, c_H_sightBeds)) (fun r_43 => (if r_29 < r_43 then f_X3_dearestOfEmpty_L4 c_x1 c_H_beds c_H_law c_H_sights c_H_isKept c_H_worths c_H_sightGuests c_H_sightBeds c_I_empty c_I_empties nL4 x2_L4 (x3_L4 + (nI 1)) kL4 else f_X3_dearestOfEmpty_L4 c_x1 c_H_beds c_H_law c_H_sights c_H_isKept c_H_worths c_H_sightGuests c_H_sightBeds c_I_empty c_I_empties nL4 x3_L4 (x3_L4 + (nI 1)) kL4)))))))))
def f_X3_dearestOfEmpty : Int32 → HouS → InnS → Option (Int32)
  | x1, (H_beds, H_law, H_sights, H_isKept, H_worths, H_sightGuests, H_sightBeds), (I_law, I_there, I_sleepers, I_empty, I_empties, I_yard, I_waiting, I_nights, I_used, I_sheets, I_lastOnes, I_guestsWithFleas, I_bedsWithFleas, I_isCounting) => f_X3_dearestOfEmpty_L4 x1 H_beds H_law H_sights H_isKept H_worths H_sightGuests H_sightBeds I_empty I_empties FU (nI 0) (nI 1) (fun x2_L4 x3_L4 => some x2_L4)
set_option maxHeartbeats 4000000 in
set_option maxRecDepth 100000 in
theorem c_X3_dearestOfEmpty (l : Launch) (D : va_G) (cI cZ : ClassId) (aH : Nat → Nat) (aI : Nat → Nat) (dI : Option Nat) (x1 : Int32) (tH : HouS) (tI : InnS) (rr : Int32) (hf : f_X3_dearestOfEmpty x1 tH tI = some rr) : CT l D cI cZ yX3_dearestOfEmpty cX3_dearestOfEmpty 4 (some .int) 1 22 0 0 [.ref (aI 0), .int x1] ([hC cI aH tH, iC cI aI (aH 0) dI tI]) (gPost (some (.int rr)) ([hC cI aH tH, iC cI aI (aH 0) dI tI])) := by
  obtain ⟨H_beds, H_law, H_sights, H_isKept, H_worths, H_sightGuests, H_sightBeds⟩ := tH
  obtain ⟨I_law, I_there, I_sleepers, I_empty, I_empties, I_yard, I_waiting, I_nights, I_used, I_sheets, I_lastOnes, I_guestsWithFleas, I_bedsWithFleas, I_isCounting⟩ := tI
  rw [f_X3_dearestOfEmpty] at hf
  refine CT.mkI (by decide) (Nat.le_of_ble_eq_true rfl) fun {p} {e} {R} {s} {m} {args} {below} {meth} {c} {A} {H0} {Q} C hA hR hret => ?_
  show G p l e R s m args below meth c 4 D A H0 0 0 Q [hC cI aH (H_beds, H_law, H_sights, H_isKept, H_worths, H_sightGuests, H_sightBeds), iC cI aI (aH 0) dI (I_law, I_there, I_sleepers, I_empty, I_empties, I_yard, I_waiting, I_nights, I_used, I_sheets, I_lastOnes, I_guestsWithFleas, I_bedsWithFleas, I_isCounting)] 0 [(0, .ref (aI 0)), (1, .int x1)] []
  refine gq_iconst C (nI 0) 1 dX3_dearestOfEmpty_0 (by decide) rfl ?_
  refine gq_istore_n C [(2, .int (nI 0)), (0, .ref (aI 0)), (1, .int x1)] 2 dX3_dearestOfEmpty_1 (by decide) rfl rfl ?_
  refine gq_iconst C (nI 1) 3 dX3_dearestOfEmpty_2 (by decide) rfl ?_
  refine gq_istore_n C [(3, .int (nI 1)), (2, .int (nI 0)), (0, .ref (aI 0)), (1, .int x1)] 4 dX3_dearestOfEmpty_3 (by decide) rfl rfl ?_
  have L4 : ∀ (kL : Int32 → Int32 → Option (Int32)), (∀ (x2_L4 : Int32) (x3_L4 : Int32), kL x2_L4 x3_L4 = some rr → G p l e R s m args below meth c 4 D A H0 0 0 Q [hC cI aH (H_beds, H_law, H_sights, H_isKept, H_worths, H_sightGuests, H_sightBeds), iC cI aI (aH 0) dI (I_law, I_there, I_sleepers, I_empty, I_empties, I_yard, I_waiting, I_nights, I_used, I_sheets, I_lastOnes, I_guestsWithFleas, I_bedsWithFleas, I_isCounting)] 57 [(3, .int x3_L4), (2, .int x2_L4), (0, .ref (aI 0)), (1, .int x1)] []) → ∀ (n : Nat) (x2_L4 : Int32) (x3_L4 : Int32), f_X3_dearestOfEmpty_L4 x1 H_beds H_law H_sights H_isKept H_worths H_sightGuests H_sightBeds I_empty I_empties n x2_L4 x3_L4 kL = some rr → G p l e R s m args below meth c 4 D A H0 0 0 Q [hC cI aH (H_beds, H_law, H_sights, H_isKept, H_worths, H_sightGuests, H_sightBeds), iC cI aI (aH 0) dI (I_law, I_there, I_sleepers, I_empty, I_empties, I_yard, I_waiting, I_nights, I_used, I_sheets, I_lastOnes, I_guestsWithFleas, I_bedsWithFleas, I_isCounting)] 4 [(3, .int x3_L4), (2, .int x2_L4), (0, .ref (aI 0)), (1, .int x1)] [] := by
    intro kL hkL4 n
    induction n with
    | zero =>
      intro x2_L4 x3_L4 hf
      rw [f_X3_dearestOfEmpty_L4] at hf
      cases hf
    | succ n ihL4 =>
      intro x2_L4 x3_L4 hf
      rw [f_X3_dearestOfEmpty_L4] at hf
      refine gq_iload_n C 0 5 dX3_dearestOfEmpty_4 rfl rfl ?_
      refine gq_bipush C (nI 8) 7 dX3_dearestOfEmpty_5 (by decide) rfl ?_
      refine gq_icmp_ge C 57 10 dX3_dearestOfEmpty_7 (by decide) rfl (fun h7 => ?_) (fun h7 => ?_)
      · replace hf := gq_ifp h7 hf
        exact hkL4 _ _ hf
      · replace hf := gq_ifn h7 hf
        refine gq_iload_n C 0 11 dX3_dearestOfEmpty_10 rfl rfl ?_
        refine gq_aload_n C 2 12 dX3_dearestOfEmpty_11 rfl rfl ?_
        refine gq_get C fo_X3_6 fw_X3_48 1 0 15 rfl rfl rfl dX3_dearestOfEmpty_12 rfl ?_
        refine gq_icmp_ge C 57 18 dX3_dearestOfEmpty_15 (by decide) rfl (fun h15 => ?_) (fun h15 => ?_)
        · replace hf := gq_ifp h15 hf
          exact hkL4 _ _ hf
        · replace hf := gq_ifn h15 hf
          refine gq_aload_n C 2 19 dX3_dearestOfEmpty_18 rfl rfl ?_
          refine gq_get C fo_X3_0 fw_X3_33 1 0 22 rfl rfl rfl dX3_dearestOfEmpty_19 rfl ?_
          refine gq_iload_n C 3 23 dX3_dearestOfEmpty_22 rfl rfl ?_
          refine gq_aload_n C 2 24 dX3_dearestOfEmpty_23 rfl rfl ?_
          refine gq_get C fo_X3_5 fw_X3_15 1 0 27 rfl rfl rfl dX3_dearestOfEmpty_24 rfl ?_
          refine gq_iload_n C 0 28 dX3_dearestOfEmpty_27 rfl rfl ?_
          obtain ⟨h28, hf⟩ := gq_ok hf
          refine gq_iald C 1 2 29 rfl rfl h28 dX3_dearestOfEmpty_28 rfl ?_
          obtain ⟨r_29, hc, hf⟩ := gq_bd hf
          refine gq_callN C hA gm_X3_145 (c_X2_worthOf l D cI cZ aH x1 (I_empty x3_L4.toNatClampNeg) (H_beds, H_law, H_sights, H_isKept, H_worths, H_sightGuests, H_sightBeds) _ hc) rfl 0 0 rfl rfl rfl ⟨Nat.le_trans (Nat.le_of_ble_eq_true rfl) hR.1, Nat.le_trans (Nat.le_of_ble_eq_true rfl) hR.2.1⟩ ⟨Nat.zero_le _, Nat.zero_le _⟩ rfl (Nat.le_of_ble_eq_true rfl) dX3_dearestOfEmpty_29 [0] [hC cI aH (H_beds, H_law, H_sights, H_isKept, H_worths, H_sightGuests, H_sightBeds), iC cI aI (aH 0) dI (I_law, I_there, I_sleepers, I_empty, I_empties, I_yard, I_waiting, I_nights, I_used, I_sheets, I_lastOnes, I_guestsWithFleas, I_bedsWithFleas, I_isCounting)] 32 rfl (by decide) rfl rfl rfl [.int r_29] rfl ?_
          refine gq_aload_n C 2 33 dX3_dearestOfEmpty_32 rfl rfl ?_
          refine gq_get C fo_X3_0 fw_X3_33 1 0 36 rfl rfl rfl dX3_dearestOfEmpty_33 rfl ?_
          refine gq_iload_n C 3 37 dX3_dearestOfEmpty_36 rfl rfl ?_
          refine gq_aload_n C 2 38 dX3_dearestOfEmpty_37 rfl rfl ?_
          refine gq_get C fo_X3_5 fw_X3_15 1 0 41 rfl rfl rfl dX3_dearestOfEmpty_38 rfl ?_
          refine gq_iload_n C 1 42 dX3_dearestOfEmpty_41 rfl rfl ?_
          obtain ⟨h42, hf⟩ := gq_ok hf
          refine gq_iald C 1 2 43 rfl rfl h42 dX3_dearestOfEmpty_42 rfl ?_
          obtain ⟨r_43, hc, hf⟩ := gq_bd hf
          refine gq_callN C hA gm_X3_145 (c_X2_worthOf l D cI cZ aH x1 (I_empty x2_L4.toNatClampNeg) (H_beds, H_law, H_sights, H_isKept, H_worths, H_sightGuests, H_sightBeds) _ hc) rfl 0 0 rfl rfl rfl ⟨Nat.le_trans (Nat.le_of_ble_eq_true rfl) hR.1, Nat.le_trans (Nat.le_of_ble_eq_true rfl) hR.2.1⟩ ⟨Nat.zero_le _, Nat.zero_le _⟩ rfl (Nat.le_of_ble_eq_true rfl) dX3_dearestOfEmpty_43 [0] [hC cI aH (H_beds, H_law, H_sights, H_isKept, H_worths, H_sightGuests, H_sightBeds), iC cI aI (aH 0) dI (I_law, I_there, I_sleepers, I_empty, I_empties, I_yard, I_waiting, I_nights, I_used, I_sheets, I_lastOnes, I_guestsWithFleas, I_bedsWithFleas, I_isCounting)] 46 rfl (by decide) rfl rfl rfl [.int r_43, .int r_29] rfl ?_
          refine gq_icmp_lt C 51 49 dX3_dearestOfEmpty_46 (by decide) rfl (fun h46 => ?_) (fun h46 => ?_)
          · replace hf := gq_ifp h46 hf
            refine gq_iinc C 0 [(3, .int (x3_L4 + (nI 1))), (2, .int x2_L4), (0, .ref (aI 0)), (1, .int x1)] 54 dX3_dearestOfEmpty_51 rfl rfl (by decide) rfl rfl ?_
            refine gq_goto C 4 dX3_dearestOfEmpty_54 (by decide) ?_
            exact ihL4 _ _ hf
          · replace hf := gq_ifn h46 hf
            refine gq_iload_n C 0 50 dX3_dearestOfEmpty_49 rfl rfl ?_
            refine gq_istore_n C [(2, .int x3_L4), (3, .int x3_L4), (0, .ref (aI 0)), (1, .int x1)] 51 dX3_dearestOfEmpty_50 (by decide) rfl rfl ?_
            refine gq_iinc C 1 [(3, .int (x3_L4 + (nI 1))), (2, .int x3_L4), (0, .ref (aI 0)), (1, .int x1)] 54 dX3_dearestOfEmpty_51 rfl rfl (by decide) rfl rfl ?_
            refine gq_goto C 4 dX3_dearestOfEmpty_54 (by decide) ?_
            exact ihL4 _ _ hf
  refine L4 _ (fun x2_L4 x3_L4 hf => ?_) _ _ _ hf
  refine gq_iload_n C 1 58 dX3_dearestOfEmpty_57 rfl rfl ?_
  obtain rfl := gq_lf hf
  exact hret dX3_dearestOfEmpty_58 gPost.rf

def f_X3_leastOfEmpty_L4 (c_I_empty : (Nat → Int32)) (c_I_empties : Int32) : Nat → Int32 → Int32 → (Int32 → Int32 → Option (Int32)) → Option (Int32)
  | 0, _, _, _ => none
  | nL4 + 1, x1_L4, x2_L4, kL4 => (if (nI 8) ≤ x2_L4 then kL4 x1_L4 x2_L4 else (if c_I_empties ≤ x2_L4 then kL4 x1_L4 x2_L4 else (if x2_L4 < 0 ∨ 8 ≤ x2_L4.toNatClampNeg then none else (if x1_L4 < 0 ∨ 8 ≤ x1_L4.toNatClampNeg then none else (if (c_I_empty x1_L4.toNatClampNeg) ≤ (c_I_empty x2_L4.toNatClampNeg) then f_X3_leastOfEmpty_L4 c_I_empty c_I_empties nL4 x1_L4 (x2_L4 + (nI 1)) kL4 else f_X3_leastOfEmpty_L4 c_I_empty c_I_empties nL4 x2_L4 (x2_L4 + (nI 1)) kL4)))))
def f_X3_leastOfEmpty : InnS → Option (Int32)
  | (I_law, I_there, I_sleepers, I_empty, I_empties, I_yard, I_waiting, I_nights, I_used, I_sheets, I_lastOnes, I_guestsWithFleas, I_bedsWithFleas, I_isCounting) => f_X3_leastOfEmpty_L4 I_empty I_empties FU (nI 0) (nI 1) (fun x1_L4 x2_L4 => some x1_L4)
set_option maxHeartbeats 4000000 in
set_option maxRecDepth 100000 in
theorem c_X3_leastOfEmpty (l : Launch) (D : va_G) (cI cZ : ClassId) (aI : Nat → Nat) (hI : Nat) (dI : Option Nat) (tI : InnS) (rr : Int32) (hf : f_X3_leastOfEmpty tI = some rr) : CT l D cI cZ yX3_leastOfEmpty cX3_leastOfEmpty 3 (some .int) 0 0 0 0 [.ref (aI 0)] ([iC cI aI hI dI tI]) (gPost (some (.int rr)) ([iC cI aI hI dI tI])) := by
  obtain ⟨I_law, I_there, I_sleepers, I_empty, I_empties, I_yard, I_waiting, I_nights, I_used, I_sheets, I_lastOnes, I_guestsWithFleas, I_bedsWithFleas, I_isCounting⟩ := tI
  rw [f_X3_leastOfEmpty] at hf
  refine CT.mkI (by decide) (Nat.le_of_ble_eq_true rfl) fun {p} {e} {R} {s} {m} {args} {below} {meth} {c} {A} {H0} {Q} C hA hR hret => ?_
  show G p l e R s m args below meth c 3 D A H0 0 0 Q [iC cI aI hI dI (I_law, I_there, I_sleepers, I_empty, I_empties, I_yard, I_waiting, I_nights, I_used, I_sheets, I_lastOnes, I_guestsWithFleas, I_bedsWithFleas, I_isCounting)] 0 [(0, .ref (aI 0))] []
  refine gq_iconst C (nI 0) 1 dX3_leastOfEmpty_0 (by decide) rfl ?_
  refine gq_istore_n C [(1, .int (nI 0)), (0, .ref (aI 0))] 2 dX3_leastOfEmpty_1 (by decide) rfl rfl ?_
  refine gq_iconst C (nI 1) 3 dX3_leastOfEmpty_2 (by decide) rfl ?_
  refine gq_istore_n C [(2, .int (nI 1)), (1, .int (nI 0)), (0, .ref (aI 0))] 4 dX3_leastOfEmpty_3 (by decide) rfl rfl ?_
  have L4 : ∀ (kL : Int32 → Int32 → Option (Int32)), (∀ (x1_L4 : Int32) (x2_L4 : Int32), kL x1_L4 x2_L4 = some rr → G p l e R s m args below meth c 3 D A H0 0 0 Q [iC cI aI hI dI (I_law, I_there, I_sleepers, I_empty, I_empties, I_yard, I_waiting, I_nights, I_used, I_sheets, I_lastOnes, I_guestsWithFleas, I_bedsWithFleas, I_isCounting)] 41 [(2, .int x2_L4), (1, .int x1_L4), (0, .ref (aI 0))] []) → ∀ (n : Nat) (x1_L4 : Int32) (x2_L4 : Int32), f_X3_leastOfEmpty_L4 I_empty I_empties n x1_L4 x2_L4 kL = some rr → G p l e R s m args below meth c 3 D A H0 0 0 Q [iC cI aI hI dI (I_law, I_there, I_sleepers, I_empty, I_empties, I_yard, I_waiting, I_nights, I_used, I_sheets, I_lastOnes, I_guestsWithFleas, I_bedsWithFleas, I_isCounting)] 4 [(2, .int x2_L4), (1, .int x1_L4), (0, .ref (aI 0))] [] := by
    intro kL hkL4 n
    induction n with
    | zero =>
      intro x1_L4 x2_L4 hf
      rw [f_X3_leastOfEmpty_L4] at hf
      cases hf
    | succ n ihL4 =>
      intro x1_L4 x2_L4 hf
      rw [f_X3_leastOfEmpty_L4] at hf
      refine gq_iload_n C 0 5 dX3_leastOfEmpty_4 rfl rfl ?_
      refine gq_bipush C (nI 8) 7 dX3_leastOfEmpty_5 (by decide) rfl ?_
      refine gq_icmp_ge C 41 10 dX3_leastOfEmpty_7 (by decide) rfl (fun h7 => ?_) (fun h7 => ?_)
      · replace hf := gq_ifp h7 hf
        exact hkL4 _ _ hf
      · replace hf := gq_ifn h7 hf
        refine gq_iload_n C 0 11 dX3_leastOfEmpty_10 rfl rfl ?_
        refine gq_aload_n C 2 12 dX3_leastOfEmpty_11 rfl rfl ?_
        refine gq_get C fo_X3_6 fw_X3_48 0 0 15 rfl rfl rfl dX3_leastOfEmpty_12 rfl ?_
        refine gq_icmp_ge C 41 18 dX3_leastOfEmpty_15 (by decide) rfl (fun h15 => ?_) (fun h15 => ?_)
        · replace hf := gq_ifp h15 hf
          exact hkL4 _ _ hf
        · replace hf := gq_ifn h15 hf
          refine gq_aload_n C 2 19 dX3_leastOfEmpty_18 rfl rfl ?_
          refine gq_get C fo_X3_5 fw_X3_15 0 0 22 rfl rfl rfl dX3_leastOfEmpty_19 rfl ?_
          refine gq_iload_n C 0 23 dX3_leastOfEmpty_22 rfl rfl ?_
          obtain ⟨h23, hf⟩ := gq_ok hf
          refine gq_iald C 0 2 24 rfl rfl h23 dX3_leastOfEmpty_23 rfl ?_
          refine gq_aload_n C 2 25 dX3_leastOfEmpty_24 rfl rfl ?_
          refine gq_get C fo_X3_5 fw_X3_15 0 0 28 rfl rfl rfl dX3_leastOfEmpty_25 rfl ?_
          refine gq_iload_n C 1 29 dX3_leastOfEmpty_28 rfl rfl ?_
          obtain ⟨h29, hf⟩ := gq_ok hf
          refine gq_iald C 0 2 30 rfl rfl h29 dX3_leastOfEmpty_29 rfl ?_
          refine gq_icmp_ge C 35 33 dX3_leastOfEmpty_30 (by decide) rfl (fun h30 => ?_) (fun h30 => ?_)
          · replace hf := gq_ifp h30 hf
            refine gq_iinc C 0 [(2, .int (x2_L4 + (nI 1))), (1, .int x1_L4), (0, .ref (aI 0))] 38 dX3_leastOfEmpty_35 rfl rfl (by decide) rfl rfl ?_
            refine gq_goto C 4 dX3_leastOfEmpty_38 (by decide) ?_
            exact ihL4 _ _ hf
          · replace hf := gq_ifn h30 hf
            refine gq_iload_n C 0 34 dX3_leastOfEmpty_33 rfl rfl ?_
            refine gq_istore_n C [(1, .int x2_L4), (2, .int x2_L4), (0, .ref (aI 0))] 35 dX3_leastOfEmpty_34 (by decide) rfl rfl ?_
            refine gq_iinc C 1 [(2, .int (x2_L4 + (nI 1))), (1, .int x2_L4), (0, .ref (aI 0))] 38 dX3_leastOfEmpty_35 rfl rfl (by decide) rfl rfl ?_
            refine gq_goto C 4 dX3_leastOfEmpty_38 (by decide) ?_
            exact ihL4 _ _ hf
  refine L4 _ (fun x1_L4 x2_L4 hf => ?_) _ _ _ hf
  refine gq_iload_n C 1 42 dX3_leastOfEmpty_41 rfl rfl ?_
  obtain rfl := gq_lf hf
  exact hret dX3_leastOfEmpty_42 gPost.rf

def f_X3_choice : Int32 → HouS → InnS → Option (Int32)
  | x1, (H_beds, H_law, H_sights, H_isKept, H_worths, H_sightGuests, H_sightBeds), (I_law, I_there, I_sleepers, I_empty, I_empties, I_yard, I_waiting, I_nights, I_used, I_sheets, I_lastOnes, I_guestsWithFleas, I_bedsWithFleas, I_isCounting) => (if I_empties = 0 then some (-1 : Int32) else (if I_law = nI 0 then some (I_empties - (nI 1)) else (if I_law = nI 1 then some (nI 0) else (if I_law = nI 2 then (Option.bind (f_X3_leastOfEmpty (I_law, I_there, I_sleepers, I_empty, I_empties, I_yard, I_waiting, I_nights, I_used, I_sheets, I_lastOnes, I_guestsWithFleas, I_bedsWithFleas, I_isCounting)) (fun r_50 => some r_50)) else (Option.bind (f_X3_dearestOfEmpty x1 (H_beds, H_law, H_sights, H_isKept, H_worths, H_sightGuests, H_sightBeds) (I_law, I_there, I_sleepers, I_empty, I_empties, I_yard, I_waiting, I_nights, I_used, I_sheets, I_lastOnes, I_guestsWithFleas, I_bedsWithFleas, I_isCounting)) (fun r_56 => some r_56))))))
set_option maxHeartbeats 4000000 in
set_option maxRecDepth 100000 in
theorem c_X3_choice (l : Launch) (D : va_G) (cI cZ : ClassId) (aH : Nat → Nat) (aI : Nat → Nat) (dI : Option Nat) (x1 : Int32) (tH : HouS) (tI : InnS) (rr : Int32) (hf : f_X3_choice x1 tH tI = some rr) : CT l D cI cZ yX3_choice cX3_choice 2 (some .int) 2 45 0 0 [.ref (aI 0), .int x1] ([hC cI aH tH, iC cI aI (aH 0) dI tI]) (gPost (some (.int rr)) ([hC cI aH tH, iC cI aI (aH 0) dI tI])) := by
  obtain ⟨H_beds, H_law, H_sights, H_isKept, H_worths, H_sightGuests, H_sightBeds⟩ := tH
  obtain ⟨I_law, I_there, I_sleepers, I_empty, I_empties, I_yard, I_waiting, I_nights, I_used, I_sheets, I_lastOnes, I_guestsWithFleas, I_bedsWithFleas, I_isCounting⟩ := tI
  rw [f_X3_choice] at hf
  refine CT.mkI (by decide) (Nat.le_of_ble_eq_true rfl) fun {p} {e} {R} {s} {m} {args} {below} {meth} {c} {A} {H0} {Q} C hA hR hret => ?_
  show G p l e R s m args below meth c 2 D A H0 0 0 Q [hC cI aH (H_beds, H_law, H_sights, H_isKept, H_worths, H_sightGuests, H_sightBeds), iC cI aI (aH 0) dI (I_law, I_there, I_sleepers, I_empty, I_empties, I_yard, I_waiting, I_nights, I_used, I_sheets, I_lastOnes, I_guestsWithFleas, I_bedsWithFleas, I_isCounting)] 0 [(0, .ref (aI 0)), (1, .int x1)] []
  refine gq_aload_n C 0 1 dX3_choice_0 rfl rfl ?_
  refine gq_get C fo_X3_6 fw_X3_48 1 0 4 rfl rfl rfl dX3_choice_1 rfl ?_
  refine gq_if_ne C 9 7 dX3_choice_4 (by decide) rfl (fun h4 => ?_) (fun h4 => ?_)
  · replace hf := gq_ifn h4 hf
    refine gq_aload_n C 0 10 dX3_choice_9 rfl rfl ?_
    refine gq_get C fo_X3_2 fw_X3_41 1 0 13 rfl rfl rfl dX3_choice_10 rfl ?_
    by_cases h13_0 : I_law = nI 0
    · replace hf := gq_ifp h13_0 hf
      refine gq_tableIn C 40 dX3_choice_13 (by rw [h13_0]; decide) (by rw [h13_0]; decide) (by rw [h13_0]; rfl) (by decide) ?_
      refine gq_aload_n C 0 41 dX3_choice_40 rfl rfl ?_
      refine gq_get C fo_X3_6 fw_X3_48 1 0 44 rfl rfl rfl dX3_choice_41 rfl ?_
      refine gq_iconst C (nI 1) 45 dX3_choice_44 (by decide) rfl ?_
      refine gq_isub C 46 dX3_choice_45 rfl ?_
      obtain rfl := gq_lf hf
      exact hret dX3_choice_46 gPost.rf
    · replace hf := gq_ifn h13_0 hf
      by_cases h13_1 : I_law = nI 1
      · replace hf := gq_ifp h13_1 hf
        refine gq_tableIn C 47 dX3_choice_13 (by rw [h13_1]; decide) (by rw [h13_1]; decide) (by rw [h13_1]; rfl) (by decide) ?_
        refine gq_iconst C (nI 0) 48 dX3_choice_47 (by decide) rfl ?_
        obtain rfl := gq_lf hf
        exact hret dX3_choice_48 gPost.rf
      · replace hf := gq_ifn h13_1 hf
        by_cases h13_2 : I_law = nI 2
        · replace hf := gq_ifp h13_2 hf
          refine gq_tableIn C 49 dX3_choice_13 (by rw [h13_2]; decide) (by rw [h13_2]; decide) (by rw [h13_2]; rfl) (by decide) ?_
          refine gq_aload_n C 0 50 dX3_choice_49 rfl rfl ?_
          obtain ⟨r_50, hc, hf⟩ := gq_bd hf
          refine gq_callV C hA gm_X3_138 (c_X3_leastOfEmpty l D cI cZ aI (aH 0) dI (I_law, I_there, I_sleepers, I_empty, I_empties, I_yard, I_waiting, I_nights, I_used, I_sheets, I_lastOnes, I_guestsWithFleas, I_bedsWithFleas, I_isCounting) _ hc) rfl 1 0 rfl rfl rfl ⟨Nat.le_trans (Nat.le_of_ble_eq_true rfl) hR.1, Nat.le_trans (Nat.le_of_ble_eq_true rfl) hR.2.1⟩ ⟨Nat.zero_le _, Nat.zero_le _⟩ rfl (Nat.le_of_ble_eq_true rfl) dX3_choice_50 [1] [hC cI aH (H_beds, H_law, H_sights, H_isKept, H_worths, H_sightGuests, H_sightBeds), iC cI aI (aH 0) dI (I_law, I_there, I_sleepers, I_empty, I_empties, I_yard, I_waiting, I_nights, I_used, I_sheets, I_lastOnes, I_guestsWithFleas, I_bedsWithFleas, I_isCounting)] 53 rfl (by decide) rfl rfl rfl [.int r_50] rfl ?_
          obtain rfl := gq_lf hf
          exact hret dX3_choice_53 gPost.rf
        · replace hf := gq_ifn h13_2 hf
          refine gq_tableOut C 54 dX3_choice_13 (gq_out2 h13_0 h13_1 h13_2) (by decide) ?_
          refine gq_aload_n C 0 55 dX3_choice_54 rfl rfl ?_
          refine gq_iload_n C 1 56 dX3_choice_55 rfl rfl ?_
          obtain ⟨r_56, hc, hf⟩ := gq_bd hf
          refine gq_callV C hA gm_X3_142 (c_X3_dearestOfEmpty l D cI cZ aH aI dI x1 (H_beds, H_law, H_sights, H_isKept, H_worths, H_sightGuests, H_sightBeds) (I_law, I_there, I_sleepers, I_empty, I_empties, I_yard, I_waiting, I_nights, I_used, I_sheets, I_lastOnes, I_guestsWithFleas, I_bedsWithFleas, I_isCounting) _ hc) rfl 1 0 rfl rfl rfl ⟨Nat.le_trans (Nat.le_of_ble_eq_true rfl) hR.1, Nat.le_trans (Nat.le_of_ble_eq_true rfl) hR.2.1⟩ ⟨Nat.zero_le _, Nat.zero_le _⟩ rfl (Nat.le_of_ble_eq_true rfl) dX3_choice_56 [0, 1] [hC cI aH (H_beds, H_law, H_sights, H_isKept, H_worths, H_sightGuests, H_sightBeds), iC cI aI (aH 0) dI (I_law, I_there, I_sleepers, I_empty, I_empties, I_yard, I_waiting, I_nights, I_used, I_sheets, I_lastOnes, I_guestsWithFleas, I_bedsWithFleas, I_isCounting)] 59 rfl (by decide) rfl rfl rfl [.int r_56] rfl ?_
          obtain rfl := gq_lf hf
          exact hret dX3_choice_59 gPost.rf
  · replace hf := gq_ifp h4 hf
    refine gq_iconst C (-1 : Int32) 8 dX3_choice_7 (by decide) rfl ?_
    obtain rfl := gq_lf hf
    exact hret dX3_choice_8 gPost.rf
