def f_X0_isComing : Int32 → Option (Int32)
  | x0 => (if x0 < (nI 65) then some (nI 0) else (if (nI 72) < x0 then some (nI 0) else some (nI 1)))
set_option maxHeartbeats 4000000 in
set_option maxRecDepth 100000 in
theorem c_X0_isComing (l : Launch) (D : va_G) (cI cZ : ClassId) (x0 : Int32) (rr : Int32) (hf : f_X0_isComing x0 = some rr) : CT l D cI cZ yX0_isComing cX0_isComing 1 (some .boolean) 0 0 0 0 [.int x0] ([]) (gPost (some (.int rr)) ([])) := by
  rw [f_X0_isComing] at hf
  refine CT.mkZ (by decide) (Nat.le_of_ble_eq_true rfl) fun {p} {e} {R} {s} {m} {args} {below} {meth} {c} {A} {H0} {Q} C hA hR hret => ?_
  show G p l e R s m args below meth c 1 D A H0 0 0 Q [] 0 [(0, .int x0)] []
  refine gq_iload_n C 0 1 dX0_isComing_0 rfl rfl ?_
  refine gq_bipush C (nI 65) 3 dX0_isComing_1 (by decide) rfl ?_
  refine gq_icmp_lt C 16 6 dX0_isComing_3 (by decide) rfl (fun h3 => ?_) (fun h3 => ?_)
  · replace hf := gq_ifp h3 hf
    refine gq_iconst C (nI 0) 17 dX0_isComing_16 (by decide) rfl ?_
    obtain rfl := gq_lf hf
    exact hret dX0_isComing_17 rfl gPost.rf
  · replace hf := gq_ifn h3 hf
    refine gq_iload_n C 0 7 dX0_isComing_6 rfl rfl ?_
    refine gq_bipush C (nI 72) 9 dX0_isComing_7 (by decide) rfl ?_
    refine gq_icmp_gt C 16 12 dX0_isComing_9 (by decide) rfl (fun h9 => ?_) (fun h9 => ?_)
    · replace hf := gq_ifp h9 hf
      refine gq_iconst C (nI 0) 17 dX0_isComing_16 (by decide) rfl ?_
      obtain rfl := gq_lf hf
      exact hret dX0_isComing_17 rfl gPost.rf
    · replace hf := gq_ifn h9 hf
      refine gq_iconst C (nI 1) 13 dX0_isComing_12 (by decide) rfl ?_
      refine gq_goto C 17 dX0_isComing_13 (by decide) ?_
      obtain rfl := gq_lf hf
      exact hret dX0_isComing_17 rfl gPost.rf

def f_X0_isGoing : Int32 → Option (Int32)
  | x0 => (if x0 < (nI 97) then some (nI 0) else (if (nI 104) < x0 then some (nI 0) else some (nI 1)))
set_option maxHeartbeats 4000000 in
set_option maxRecDepth 100000 in
theorem c_X0_isGoing (l : Launch) (D : va_G) (cI cZ : ClassId) (x0 : Int32) (rr : Int32) (hf : f_X0_isGoing x0 = some rr) : CT l D cI cZ yX0_isGoing cX0_isGoing 1 (some .boolean) 0 0 0 0 [.int x0] ([]) (gPost (some (.int rr)) ([])) := by
  rw [f_X0_isGoing] at hf
  refine CT.mkZ (by decide) (Nat.le_of_ble_eq_true rfl) fun {p} {e} {R} {s} {m} {args} {below} {meth} {c} {A} {H0} {Q} C hA hR hret => ?_
  show G p l e R s m args below meth c 1 D A H0 0 0 Q [] 0 [(0, .int x0)] []
  refine gq_iload_n C 0 1 dX0_isGoing_0 rfl rfl ?_
  refine gq_bipush C (nI 97) 3 dX0_isGoing_1 (by decide) rfl ?_
  refine gq_icmp_lt C 16 6 dX0_isGoing_3 (by decide) rfl (fun h3 => ?_) (fun h3 => ?_)
  · replace hf := gq_ifp h3 hf
    refine gq_iconst C (nI 0) 17 dX0_isGoing_16 (by decide) rfl ?_
    obtain rfl := gq_lf hf
    exact hret dX0_isGoing_17 rfl gPost.rf
  · replace hf := gq_ifn h3 hf
    refine gq_iload_n C 0 7 dX0_isGoing_6 rfl rfl ?_
    refine gq_bipush C (nI 104) 9 dX0_isGoing_7 (by decide) rfl ?_
    refine gq_icmp_gt C 16 12 dX0_isGoing_9 (by decide) rfl (fun h9 => ?_) (fun h9 => ?_)
    · replace hf := gq_ifp h9 hf
      refine gq_iconst C (nI 0) 17 dX0_isGoing_16 (by decide) rfl ?_
      obtain rfl := gq_lf hf
      exact hret dX0_isGoing_17 rfl gPost.rf
    · replace hf := gq_ifn h9 hf
      refine gq_iconst C (nI 1) 13 dX0_isGoing_12 (by decide) rfl ?_
      refine gq_goto C 17 dX0_isGoing_13 (by decide) ?_
      obtain rfl := gq_lf hf
      exact hret dX0_isGoing_17 rfl gPost.rf

def f_X0_isFull : DayS → Option (Int32)
  | (D_length, D_signs) => (if D_length < (nI 48) then some (nI 0) else some (nI 1))
set_option maxHeartbeats 4000000 in
set_option maxRecDepth 100000 in
theorem c_X0_isFull (l : Launch) (D : va_G) (cI cZ : ClassId) (aD : Nat → Nat) (tD : DayS) (rr : Int32) (hf : f_X0_isFull tD = some rr) : CT l D cI cZ yX0_isFull cX0_isFull 1 (some .boolean) 0 0 0 0 [.ref (aD 0)] ([dC cI aD tD]) (gPost (some (.int rr)) ([dC cI aD tD])) := by
  obtain ⟨D_length, D_signs⟩ := tD
  rw [f_X0_isFull] at hf
  refine CT.mkZ (by decide) (Nat.le_of_ble_eq_true rfl) fun {p} {e} {R} {s} {m} {args} {below} {meth} {c} {A} {H0} {Q} C hA hR hret => ?_
  show G p l e R s m args below meth c 1 D A H0 0 0 Q [dC cI aD (D_length, D_signs)] 0 [(0, .ref (aD 0))] []
  refine gq_aload_n C 0 1 dX0_isFull_0 rfl rfl ?_
  refine gq_get C fo_X0_0 fw_X0_15 0 0 4 rfl rfl rfl dX0_isFull_1 rfl ?_
  refine gq_bipush C (nI 48) 6 dX0_isFull_4 (by decide) rfl ?_
  refine gq_icmp_lt C 13 9 dX0_isFull_6 (by decide) rfl (fun h6 => ?_) (fun h6 => ?_)
  · replace hf := gq_ifp h6 hf
    refine gq_iconst C (nI 0) 14 dX0_isFull_13 (by decide) rfl ?_
    obtain rfl := gq_lf hf
    exact hret dX0_isFull_14 rfl gPost.rf
  · replace hf := gq_ifn h6 hf
    refine gq_iconst C (nI 1) 10 dX0_isFull_9 (by decide) rfl ?_
    refine gq_goto C 14 dX0_isFull_10 (by decide) ?_
    obtain rfl := gq_lf hf
    exact hret dX0_isFull_14 rfl gPost.rf

def f_X0_write : Int32 → DayS → Option (DayS)
  | x1, (D_length, D_signs) => (if D_length < 0 then some (D_length, D_signs) else (if (nI 48) ≤ D_length then some (D_length, D_signs) else (if D_length < 0 ∨ 48 ≤ D_length.toNatClampNeg then none else some ((D_length + (nI 1)), (upd D_signs D_length.toNatClampNeg x1)))))
set_option maxHeartbeats 4000000 in
set_option maxRecDepth 100000 in
theorem c_X0_write (l : Launch) (D : va_G) (cI cZ : ClassId) (aD : Nat → Nat) (x1 : Int32) (tD : DayS) (rr : DayS) (hf : f_X0_write x1 tD = some rr) : CT l D cI cZ yX0_write cX0_write 2 none 0 0 0 0 [.ref (aD 0), .int x1] ([dC cI aD tD]) (gPost none ([dC cI aD rr])) := by
  obtain ⟨D_length, D_signs⟩ := tD
  rw [f_X0_write] at hf
  refine CT.mkV (by decide) (Nat.le_of_ble_eq_true rfl) fun {p} {e} {R} {s} {m} {args} {below} {meth} {c} {A} {H0} {Q} C hA hR hnm hret => ?_
  show G p l e R s m args below meth c 2 D A H0 0 0 Q [dC cI aD (D_length, D_signs)] 0 [(0, .ref (aD 0)), (1, .int x1)] []
  refine gq_aload_n C 0 1 dX0_write_0 rfl rfl ?_
  refine gq_get C fo_X0_0 fw_X0_15 0 0 4 rfl rfl rfl dX0_write_1 rfl ?_
  refine gq_if_lt C 36 7 dX0_write_4 (by decide) rfl (fun h4 => ?_) (fun h4 => ?_)
  · replace hf := gq_ifp h4 hf
    obtain rfl := gq_lf hf
    exact hret dX0_write_36 gPost.rf
  · replace hf := gq_ifn h4 hf
    refine gq_aload_n C 0 8 dX0_write_7 rfl rfl ?_
    refine gq_get C fo_X0_0 fw_X0_15 0 0 11 rfl rfl rfl dX0_write_8 rfl ?_
    refine gq_bipush C (nI 48) 13 dX0_write_11 (by decide) rfl ?_
    refine gq_icmp_ge C 36 16 dX0_write_13 (by decide) rfl (fun h13 => ?_) (fun h13 => ?_)
    · replace hf := gq_ifp h13 hf
      obtain rfl := gq_lf hf
      exact hret dX0_write_36 gPost.rf
    · replace hf := gq_ifn h13 hf
      refine gq_aload_n C 0 17 dX0_write_16 rfl rfl ?_
      refine gq_get C fo_X0_1 fw_X0_9 0 0 20 rfl rfl rfl dX0_write_17 rfl ?_
      refine gq_aload_n C 0 21 dX0_write_20 rfl rfl ?_
      refine gq_get C fo_X0_0 fw_X0_15 0 0 24 rfl rfl rfl dX0_write_21 rfl ?_
      refine gq_iload_n C 1 25 dX0_write_24 rfl rfl ?_
      obtain ⟨h25, hf⟩ := gq_ok hf
      refine gq_iast C 0 1 26 [dC cI aD (D_length, (upd D_signs D_length.toNatClampNeg x1))] rfl rfl h25 rfl dX0_write_25 rfl ?_
      refine gq_aload_n C 0 27 dX0_write_26 rfl rfl ?_
      refine gq_dup C 28 dX0_write_27 rfl rfl ?_
      refine gq_get C fo_X0_0 fw_X0_15 0 0 31 rfl rfl rfl dX0_write_28 rfl ?_
      refine gq_iconst C (nI 1) 32 dX0_write_31 (by decide) rfl ?_
      refine gq_iadd C 33 dX0_write_32 rfl ?_
      refine gq_put C fo_X0_0 fp_X0_0 rfl fw_X0_15 0 0 36 [dC cI aD ((D_length + (nI 1)), (upd D_signs D_length.toNatClampNeg x1))] rfl rfl rfl rfl (Nat.le_of_ble_eq_true rfl) rfl dX0_write_33 rfl ?_
      obtain rfl := gq_lf hf
      exact hret dX0_write_36 gPost.rf

def f_X0_signAt : Int32 → DayS → Option (Int32)
  | x1, (D_length, D_signs) => (if x1 < 0 then some (nI 0) else (if D_length ≤ x1 then some (nI 0) else (if (nI 48) ≤ x1 then some (nI 0) else (if x1 < 0 ∨ 48 ≤ x1.toNatClampNeg then none else some (D_signs x1.toNatClampNeg)))))
set_option maxHeartbeats 4000000 in
set_option maxRecDepth 100000 in
theorem c_X0_signAt (l : Launch) (D : va_G) (cI cZ : ClassId) (aD : Nat → Nat) (x1 : Int32) (tD : DayS) (rr : Int32) (hf : f_X0_signAt x1 tD = some rr) : CT l D cI cZ yX0_signAt cX0_signAt 2 (some .int) 0 0 0 0 [.ref (aD 0), .int x1] ([dC cI aD tD]) (gPost (some (.int rr)) ([dC cI aD tD])) := by
  obtain ⟨D_length, D_signs⟩ := tD
  rw [f_X0_signAt] at hf
  refine CT.mkI (by decide) (Nat.le_of_ble_eq_true rfl) fun {p} {e} {R} {s} {m} {args} {below} {meth} {c} {A} {H0} {Q} C hA hR hret => ?_
  show G p l e R s m args below meth c 2 D A H0 0 0 Q [dC cI aD (D_length, D_signs)] 0 [(0, .ref (aD 0)), (1, .int x1)] []
  refine gq_iload_n C 1 1 dX0_signAt_0 rfl rfl ?_
  refine gq_if_lt C 27 4 dX0_signAt_1 (by decide) rfl (fun h1 => ?_) (fun h1 => ?_)
  · replace hf := gq_ifp h1 hf
    refine gq_iconst C (nI 0) 28 dX0_signAt_27 (by decide) rfl ?_
    obtain rfl := gq_lf hf
    exact hret dX0_signAt_28 gPost.rf
  · replace hf := gq_ifn h1 hf
    refine gq_iload_n C 1 5 dX0_signAt_4 rfl rfl ?_
    refine gq_aload_n C 0 6 dX0_signAt_5 rfl rfl ?_
    refine gq_get C fo_X0_0 fw_X0_15 0 0 9 rfl rfl rfl dX0_signAt_6 rfl ?_
    refine gq_icmp_ge C 27 12 dX0_signAt_9 (by decide) rfl (fun h9 => ?_) (fun h9 => ?_)
    · replace hf := gq_ifp h9 hf
      refine gq_iconst C (nI 0) 28 dX0_signAt_27 (by decide) rfl ?_
      obtain rfl := gq_lf hf
      exact hret dX0_signAt_28 gPost.rf
    · replace hf := gq_ifn h9 hf
      refine gq_iload_n C 1 13 dX0_signAt_12 rfl rfl ?_
      refine gq_bipush C (nI 48) 15 dX0_signAt_13 (by decide) rfl ?_
      refine gq_icmp_ge C 27 18 dX0_signAt_15 (by decide) rfl (fun h15 => ?_) (fun h15 => ?_)
      · replace hf := gq_ifp h15 hf
        refine gq_iconst C (nI 0) 28 dX0_signAt_27 (by decide) rfl ?_
        obtain rfl := gq_lf hf
        exact hret dX0_signAt_28 gPost.rf
      · replace hf := gq_ifn h15 hf
        refine gq_aload_n C 0 19 dX0_signAt_18 rfl rfl ?_
        refine gq_get C fo_X0_1 fw_X0_9 0 0 22 rfl rfl rfl dX0_signAt_19 rfl ?_
        refine gq_iload_n C 1 23 dX0_signAt_22 rfl rfl ?_
        obtain ⟨h23, hf⟩ := gq_ok hf
        refine gq_iald C 0 1 24 rfl rfl h23 dX0_signAt_23 rfl ?_
        refine gq_goto C 28 dX0_signAt_24 (by decide) ?_
        obtain rfl := gq_lf hf
        exact hret dX0_signAt_28 gPost.rf

def f_X0_firstFault_L4 (c_D_length : Int32) (c_D_signs : (Nat → Int32)) : Nat → Int32 → Int32 → (Int32 → Int32 → Option (Int32)) → Option (Int32)
  | 0, _, _, _ => none
  | nL4 + 1, x1_L4, x2_L4, kL4 => (if c_D_length ≤ x2_L4 then kL4 x1_L4 x2_L4 else (Option.bind (f_X0_signAt x2_L4 (c_D_length, c_D_signs)) (fun r_14 => (if r_14 = (nI 63) then (if (x1_L4 + (nI 1)) ≤ (nI 3) then f_X0_firstFault_L4 c_D_length c_D_signs nL4 (x1_L4 + (nI 1)) (x2_L4 + (nI 1)) kL4 else some x2_L4) else (if r_14 = (nI 46) then (if x1_L4 ≤ (nI 3) then f_X0_firstFault_L4 c_D_length c_D_signs nL4 x1_L4 (x2_L4 + (nI 1)) kL4 else some x2_L4) else (Option.bind (f_X0_isComing r_14) (fun r_37 => (if r_37 = 0 then (Option.bind (f_X0_isGoing r_14) (fun r_44 => (if r_44 = 0 then some x2_L4 else (if x1_L4 ≤ (nI 3) then f_X0_firstFault_L4 c_D_length c_D_signs nL4 x1_L4 (x2_L4 + (nI 1)) kL4 else some x2_L4)))) else (if x1_L4 ≤ (nI 3) then f_X0_firstFault_L4 c_D_length c_D_signs nL4 x1_L4 (x2_L4 + (nI 1)) kL4 else some x2_L4)))))))))
def f_X0_firstFault : DayS → Option (Int32)
  | (D_length, D_signs) => f_X0_firstFault_L4 D_length D_signs FU (nI 0) (nI 0) (fun x1_L4 x2_L4 => some (-6 : Int32))
set_option maxHeartbeats 4000000 in
set_option maxRecDepth 100000 in
theorem c_X0_firstFault (l : Launch) (D : va_G) (cI cZ : ClassId) (aD : Nat → Nat) (tD : DayS) (rr : Int32) (hf : f_X0_firstFault tD = some rr) : CT l D cI cZ yX0_firstFault cX0_firstFault 4 (some .int) 1 21 0 0 [.ref (aD 0)] ([dC cI aD tD]) (gPost (some (.int rr)) ([dC cI aD tD])) := by
  obtain ⟨D_length, D_signs⟩ := tD
  rw [f_X0_firstFault] at hf
  refine CT.mkI (by decide) (Nat.le_of_ble_eq_true rfl) fun {p} {e} {R} {s} {m} {args} {below} {meth} {c} {A} {H0} {Q} C hA hR hret => ?_
  show G p l e R s m args below meth c 4 D A H0 0 0 Q [dC cI aD (D_length, D_signs)] 0 [(0, .ref (aD 0))] []
  refine gq_iconst C (nI 0) 1 dX0_firstFault_0 (by decide) rfl ?_
  refine gq_istore_n C [(1, .int (nI 0)), (0, .ref (aD 0))] 2 dX0_firstFault_1 (by decide) rfl rfl ?_
  refine gq_iconst C (nI 0) 3 dX0_firstFault_2 (by decide) rfl ?_
  refine gq_istore_n C [(2, .int (nI 0)), (1, .int (nI 0)), (0, .ref (aD 0))] 4 dX0_firstFault_3 (by decide) rfl rfl ?_
  have L4 : ∀ (kL : Int32 → Int32 → Option (Int32)), (∀ (x1_L4 : Int32) (x2_L4 : Int32), kL x1_L4 x2_L4 = some rr → G p l e R s m args below meth c 4 D A H0 0 0 Q [dC cI aD (D_length, D_signs)] 65 [(2, .int x2_L4), (1, .int x1_L4), (0, .ref (aD 0))] []) → ∀ (n : Nat) (x1_L4 : Int32) (x2_L4 : Int32), f_X0_firstFault_L4 D_length D_signs n x1_L4 x2_L4 kL = some rr → G p l e R s m args below meth c 4 D A H0 0 0 Q [dC cI aD (D_length, D_signs)] 4 [(2, .int x2_L4), (1, .int x1_L4), (0, .ref (aD 0))] [] := by
    intro kL hkL4 n
    induction n with
    | zero =>
      intro x1_L4 x2_L4 hf
      rw [f_X0_firstFault_L4] at hf
      cases hf
    | succ n ihL4 =>
      intro x1_L4 x2_L4 hf
      rw [f_X0_firstFault_L4] at hf
      refine gq_iload_n C 0 5 dX0_firstFault_4 rfl rfl ?_
      refine gq_aload_n C 2 6 dX0_firstFault_5 rfl rfl ?_
      refine gq_get C fo_X0_0 fw_X0_15 0 0 9 rfl rfl rfl dX0_firstFault_6 rfl ?_
      refine gq_icmp_ge C 65 12 dX0_firstFault_9 (by decide) rfl (fun h9 => ?_) (fun h9 => ?_)
      · replace hf := gq_ifp h9 hf
        exact hkL4 _ _ hf
      · replace hf := gq_ifn h9 hf
        refine gq_aload_n C 2 13 dX0_firstFault_12 rfl rfl ?_
        refine gq_iload_n C 0 14 dX0_firstFault_13 rfl rfl ?_
        obtain ⟨r_14, hc, hf⟩ := gq_bd hf
        refine gq_callV C hA gm_X0_19 (c_X0_signAt l D cI cZ aD x2_L4 (D_length, D_signs) _ hc) rfl 0 0 rfl rfl rfl ⟨Nat.le_trans (Nat.le_of_ble_eq_true rfl) hR.1, Nat.le_trans (Nat.le_of_ble_eq_true rfl) hR.2.1⟩ ⟨Nat.zero_le _, Nat.zero_le _⟩ rfl (Nat.le_of_ble_eq_true rfl) dX0_firstFault_14 [0] [dC cI aD (D_length, D_signs)] 17 rfl (by decide) rfl rfl rfl [.int r_14] rfl ?_
        refine gq_istore_n C [(3, .int r_14), (2, .int x2_L4), (1, .int x1_L4), (0, .ref (aD 0))] 18 dX0_firstFault_17 (by decide) rfl rfl ?_
        refine gq_iload_n C 0 19 dX0_firstFault_18 rfl rfl ?_
        refine gq_bipush C (nI 63) 21 dX0_firstFault_19 (by decide) rfl ?_
        refine gq_icmp_ne C 30 24 dX0_firstFault_21 (by decide) rfl (fun h21 => ?_) (fun h21 => ?_)
        · replace hf := gq_ifn h21 hf
          refine gq_iload_n C 0 31 dX0_firstFault_30 rfl rfl ?_
          refine gq_bipush C (nI 46) 33 dX0_firstFault_31 (by decide) rfl ?_
          refine gq_icmp_eq C 52 36 dX0_firstFault_33 (by decide) rfl (fun h33 => ?_) (fun h33 => ?_)
          · replace hf := gq_ifp h33 hf
            refine gq_iload_n C 2 53 dX0_firstFault_52 rfl rfl ?_
            refine gq_iconst C (nI 3) 54 dX0_firstFault_53 (by decide) rfl ?_
            refine gq_icmp_le C 59 57 dX0_firstFault_54 (by decide) rfl (fun h54 => ?_) (fun h54 => ?_)
            · replace hf := gq_ifp h54 hf
              refine gq_iinc C 1 [(2, .int (x2_L4 + (nI 1))), (3, .int r_14), (1, .int x1_L4), (0, .ref (aD 0))] 62 dX0_firstFault_59 rfl rfl (by decide) rfl rfl ?_
              refine gq_goto C 4 dX0_firstFault_62 (by decide) ?_
              refine gq_lv [0, 2, 3] rfl ?_
              exact ihL4 _ _ hf
            · replace hf := gq_ifn h54 hf
              refine gq_iload_n C 1 58 dX0_firstFault_57 rfl rfl ?_
              obtain rfl := gq_lf hf
              exact hret dX0_firstFault_58 gPost.rf
          · replace hf := gq_ifn h33 hf
            refine gq_iload_n C 0 37 dX0_firstFault_36 rfl rfl ?_
            obtain ⟨r_37, hc, hf⟩ := gq_bd hf
            refine gq_callS C hA gm_X0_23 (c_X0_isComing l D cI cZ  r_14 _ hc) rfl ⟨Nat.le_trans (Nat.le_of_ble_eq_true rfl) hR.1, Nat.le_trans (Nat.le_of_ble_eq_true rfl) hR.2.1⟩ ⟨Nat.zero_le _, Nat.zero_le _⟩ rfl (Nat.le_of_ble_eq_true rfl) dX0_firstFault_37 [] [dC cI aD (D_length, D_signs)] 40 rfl (by decide) rfl rfl rfl [.int r_37] rfl ?_
            refine gq_if_ne C 52 43 dX0_firstFault_40 (by decide) rfl (fun h40 => ?_) (fun h40 => ?_)
            · replace hf := gq_ifn h40 hf
              refine gq_iload_n C 2 53 dX0_firstFault_52 rfl rfl ?_
              refine gq_iconst C (nI 3) 54 dX0_firstFault_53 (by decide) rfl ?_
              refine gq_icmp_le C 59 57 dX0_firstFault_54 (by decide) rfl (fun h54 => ?_) (fun h54 => ?_)
              · replace hf := gq_ifp h54 hf
                refine gq_iinc C 1 [(2, .int (x2_L4 + (nI 1))), (3, .int r_14), (1, .int x1_L4), (0, .ref (aD 0))] 62 dX0_firstFault_59 rfl rfl (by decide) rfl rfl ?_
                refine gq_goto C 4 dX0_firstFault_62 (by decide) ?_
                refine gq_lv [0, 2, 3] rfl ?_
                exact ihL4 _ _ hf
              · replace hf := gq_ifn h54 hf
                refine gq_iload_n C 1 58 dX0_firstFault_57 rfl rfl ?_
                obtain rfl := gq_lf hf
                exact hret dX0_firstFault_58 gPost.rf
            · replace hf := gq_ifp h40 hf
              refine gq_iload_n C 0 44 dX0_firstFault_43 rfl rfl ?_
              obtain ⟨r_44, hc, hf⟩ := gq_bd hf
              refine gq_callS C hA gm_X0_27 (c_X0_isGoing l D cI cZ  r_14 _ hc) rfl ⟨Nat.le_trans (Nat.le_of_ble_eq_true rfl) hR.1, Nat.le_trans (Nat.le_of_ble_eq_true rfl) hR.2.1⟩ ⟨Nat.zero_le _, Nat.zero_le _⟩ rfl (Nat.le_of_ble_eq_true rfl) dX0_firstFault_44 [] [dC cI aD (D_length, D_signs)] 47 rfl (by decide) rfl rfl rfl [.int r_44] rfl ?_
              refine gq_if_ne C 52 50 dX0_firstFault_47 (by decide) rfl (fun h47 => ?_) (fun h47 => ?_)
              · replace hf := gq_ifn h47 hf
                refine gq_iload_n C 2 53 dX0_firstFault_52 rfl rfl ?_
                refine gq_iconst C (nI 3) 54 dX0_firstFault_53 (by decide) rfl ?_
                refine gq_icmp_le C 59 57 dX0_firstFault_54 (by decide) rfl (fun h54 => ?_) (fun h54 => ?_)
                · replace hf := gq_ifp h54 hf
                  refine gq_iinc C 1 [(2, .int (x2_L4 + (nI 1))), (3, .int r_14), (1, .int x1_L4), (0, .ref (aD 0))] 62 dX0_firstFault_59 rfl rfl (by decide) rfl rfl ?_
                  refine gq_goto C 4 dX0_firstFault_62 (by decide) ?_
                  refine gq_lv [0, 2, 3] rfl ?_
                  exact ihL4 _ _ hf
                · replace hf := gq_ifn h54 hf
                  refine gq_iload_n C 1 58 dX0_firstFault_57 rfl rfl ?_
                  obtain rfl := gq_lf hf
                  exact hret dX0_firstFault_58 gPost.rf
              · replace hf := gq_ifp h47 hf
                refine gq_iload_n C 1 51 dX0_firstFault_50 rfl rfl ?_
                obtain rfl := gq_lf hf
                exact hret dX0_firstFault_51 gPost.rf
        · replace hf := gq_ifp h21 hf
          refine gq_iinc C 2 [(1, .int (x1_L4 + (nI 1))), (3, .int r_14), (2, .int x2_L4), (0, .ref (aD 0))] 27 dX0_firstFault_24 rfl rfl (by decide) rfl rfl ?_
          refine gq_goto C 52 dX0_firstFault_27 (by decide) ?_
          refine gq_iload_n C 0 53 dX0_firstFault_52 rfl rfl ?_
          refine gq_iconst C (nI 3) 54 dX0_firstFault_53 (by decide) rfl ?_
          refine gq_icmp_le C 59 57 dX0_firstFault_54 (by decide) rfl (fun h54 => ?_) (fun h54 => ?_)
          · replace hf := gq_ifp h54 hf
            refine gq_iinc C 2 [(2, .int (x2_L4 + (nI 1))), (1, .int (x1_L4 + (nI 1))), (3, .int r_14), (0, .ref (aD 0))] 62 dX0_firstFault_59 rfl rfl (by decide) rfl rfl ?_
            refine gq_goto C 4 dX0_firstFault_62 (by decide) ?_
            refine gq_lv [0, 1, 3] rfl ?_
            exact ihL4 _ _ hf
          · replace hf := gq_ifn h54 hf
            refine gq_iload_n C 2 58 dX0_firstFault_57 rfl rfl ?_
            obtain rfl := gq_lf hf
            exact hret dX0_firstFault_58 gPost.rf
  refine L4 _ (fun x1_L4 x2_L4 hf => ?_) _ _ _ hf
  refine gq_bipush C (-6 : Int32) 67 dX0_firstFault_65 (by decide) rfl ?_
  obtain rfl := gq_lf hf
  exact hret dX0_firstFault_67 gPost.rf

def f_X0_nextUntold_L2 (c_D_length : Int32) (c_D_signs : (Nat → Int32)) : Nat → Int32 → (Int32 → Option (Int32)) → Option (Int32)
  | 0, _, _ => none
  | nL2 + 1, x2_L2, kL2 => (if c_D_length ≤ x2_L2 then kL2 x2_L2 else (Option.bind (f_X0_signAt x2_L2 (c_D_length, c_D_signs)) (fun r_12 => (if r_12 = (nI 63) then some x2_L2 else f_X0_nextUntold_L2 c_D_length c_D_signs nL2 (x2_L2 + (nI 1)) kL2))))
def f_X0_nextUntold : Int32 → DayS → Option (Int32)
  | x1, (D_length, D_signs) => f_X0_nextUntold_L2 D_length D_signs FU x1 (fun x2_L2 => some D_length)
set_option maxHeartbeats 4000000 in
set_option maxRecDepth 100000 in
theorem c_X0_nextUntold (l : Launch) (D : va_G) (cI cZ : ClassId) (aD : Nat → Nat) (x1 : Int32) (tD : DayS) (rr : Int32) (hf : f_X0_nextUntold x1 tD = some rr) : CT l D cI cZ yX0_nextUntold cX0_nextUntold 3 (some .int) 1 21 0 0 [.ref (aD 0), .int x1] ([dC cI aD tD]) (gPost (some (.int rr)) ([dC cI aD tD])) := by
  obtain ⟨D_length, D_signs⟩ := tD
  rw [f_X0_nextUntold] at hf
  refine CT.mkI (by decide) (Nat.le_of_ble_eq_true rfl) fun {p} {e} {R} {s} {m} {args} {below} {meth} {c} {A} {H0} {Q} C hA hR hret => ?_
  show G p l e R s m args below meth c 3 D A H0 0 0 Q [dC cI aD (D_length, D_signs)] 0 [(0, .ref (aD 0)), (1, .int x1)] []
  refine gq_iload_n C 1 1 dX0_nextUntold_0 rfl rfl ?_
  refine gq_istore_n C [(2, .int x1), (0, .ref (aD 0)), (1, .int x1)] 2 dX0_nextUntold_1 (by decide) rfl rfl ?_
  have L2 : ∀ (kL : Int32 → Option (Int32)), (∀ (x2_L2 : Int32), kL x2_L2 = some rr → G p l e R s m args below meth c 3 D A H0 0 0 Q [dC cI aD (D_length, D_signs)] 28 [(2, .int x2_L2), (0, .ref (aD 0)), (1, .int x1)] []) → ∀ (n : Nat) (x2_L2 : Int32), f_X0_nextUntold_L2 D_length D_signs n x2_L2 kL = some rr → G p l e R s m args below meth c 3 D A H0 0 0 Q [dC cI aD (D_length, D_signs)] 2 [(2, .int x2_L2), (0, .ref (aD 0)), (1, .int x1)] [] := by
    intro kL hkL2 n
    induction n with
    | zero =>
      intro x2_L2 hf
      rw [f_X0_nextUntold_L2] at hf
      cases hf
    | succ n ihL2 =>
      intro x2_L2 hf
      rw [f_X0_nextUntold_L2] at hf
      refine gq_iload_n C 0 3 dX0_nextUntold_2 rfl rfl ?_
      refine gq_aload_n C 1 4 dX0_nextUntold_3 rfl rfl ?_
      refine gq_get C fo_X0_0 fw_X0_15 0 0 7 rfl rfl rfl dX0_nextUntold_4 rfl ?_
      refine gq_icmp_ge C 28 10 dX0_nextUntold_7 (by decide) rfl (fun h7 => ?_) (fun h7 => ?_)
      · replace hf := gq_ifp h7 hf
        exact hkL2 _ hf
      · replace hf := gq_ifn h7 hf
        refine gq_aload_n C 1 11 dX0_nextUntold_10 rfl rfl ?_
        refine gq_iload_n C 0 12 dX0_nextUntold_11 rfl rfl ?_
        obtain ⟨r_12, hc, hf⟩ := gq_bd hf
        refine gq_callV C hA gm_X0_19 (c_X0_signAt l D cI cZ aD x2_L2 (D_length, D_signs) _ hc) rfl 0 0 rfl rfl rfl ⟨Nat.le_trans (Nat.le_of_ble_eq_true rfl) hR.1, Nat.le_trans (Nat.le_of_ble_eq_true rfl) hR.2.1⟩ ⟨Nat.zero_le _, Nat.zero_le _⟩ rfl (Nat.le_of_ble_eq_true rfl) dX0_nextUntold_12 [0] [dC cI aD (D_length, D_signs)] 15 rfl (by decide) rfl rfl rfl [.int r_12] rfl ?_
        refine gq_bipush C (nI 63) 17 dX0_nextUntold_15 (by decide) rfl ?_
        refine gq_icmp_ne C 22 20 dX0_nextUntold_17 (by decide) rfl (fun h17 => ?_) (fun h17 => ?_)
        · replace hf := gq_ifn h17 hf
          refine gq_iinc C 0 [(2, .int (x2_L2 + (nI 1))), (0, .ref (aD 0)), (1, .int x1)] 25 dX0_nextUntold_22 rfl rfl (by decide) rfl rfl ?_
          refine gq_goto C 2 dX0_nextUntold_25 (by decide) ?_
          exact ihL2 _ hf
        · replace hf := gq_ifp h17 hf
          refine gq_iload_n C 0 21 dX0_nextUntold_20 rfl rfl ?_
          obtain rfl := gq_lf hf
          exact hret dX0_nextUntold_21 gPost.rf
  refine L2 _ (fun x2_L2 hf => ?_) _ _ hf
  refine gq_aload_n C 1 29 dX0_nextUntold_28 rfl rfl ?_
  refine gq_get C fo_X0_0 fw_X0_15 0 0 32 rfl rfl rfl dX0_nextUntold_29 rfl ?_
  obtain rfl := gq_lf hf
  exact hret dX0_nextUntold_32 gPost.rf

def f_X0_isUntold : Int32 → DayS → Option (Int32)
  | x1, (D_length, D_signs) => (Option.bind (f_X0_nextUntold (nI 0) (D_length, D_signs)) (fun r_2 => (if x1 ≤ r_2 then some (nI 0) else some (nI 1))))
set_option maxHeartbeats 4000000 in
set_option maxRecDepth 100000 in
theorem c_X0_isUntold (l : Launch) (D : va_G) (cI cZ : ClassId) (aD : Nat → Nat) (x1 : Int32) (tD : DayS) (rr : Int32) (hf : f_X0_isUntold x1 tD = some rr) : CT l D cI cZ yX0_isUntold cX0_isUntold 2 (some .boolean) 2 43 0 0 [.ref (aD 0), .int x1] ([dC cI aD tD]) (gPost (some (.int rr)) ([dC cI aD tD])) := by
  obtain ⟨D_length, D_signs⟩ := tD
  rw [f_X0_isUntold] at hf
  refine CT.mkZ (by decide) (Nat.le_of_ble_eq_true rfl) fun {p} {e} {R} {s} {m} {args} {below} {meth} {c} {A} {H0} {Q} C hA hR hret => ?_
  show G p l e R s m args below meth c 2 D A H0 0 0 Q [dC cI aD (D_length, D_signs)] 0 [(0, .ref (aD 0)), (1, .int x1)] []
  refine gq_aload_n C 0 1 dX0_isUntold_0 rfl rfl ?_
  refine gq_iconst C (nI 0) 2 dX0_isUntold_1 (by decide) rfl ?_
  obtain ⟨r_2, hc, hf⟩ := gq_bd hf
  refine gq_callV C hA gm_X0_30 (c_X0_nextUntold l D cI cZ aD (nI 0) (D_length, D_signs) _ hc) rfl 0 0 rfl rfl rfl ⟨Nat.le_trans (Nat.le_of_ble_eq_true rfl) hR.1, Nat.le_trans (Nat.le_of_ble_eq_true rfl) hR.2.1⟩ ⟨Nat.zero_le _, Nat.zero_le _⟩ rfl (Nat.le_of_ble_eq_true rfl) dX0_isUntold_2 [0] [dC cI aD (D_length, D_signs)] 5 rfl (by decide) rfl rfl rfl [.int r_2] rfl ?_
  refine gq_iload_n C 1 6 dX0_isUntold_5 rfl rfl ?_
  refine gq_icmp_ge C 13 9 dX0_isUntold_6 (by decide) rfl (fun h6 => ?_) (fun h6 => ?_)
  · replace hf := gq_ifp h6 hf
    refine gq_iconst C (nI 0) 14 dX0_isUntold_13 (by decide) rfl ?_
    obtain rfl := gq_lf hf
    exact hret dX0_isUntold_14 rfl gPost.rf
  · replace hf := gq_ifn h6 hf
    refine gq_iconst C (nI 1) 10 dX0_isUntold_9 (by decide) rfl ?_
    refine gq_goto C 14 dX0_isUntold_10 (by decide) ?_
    obtain rfl := gq_lf hf
    exact hret dX0_isUntold_14 rfl gPost.rf

def f_X0_names_L2 (c_x1 : Int32) (c_D_length : Int32) (c_D_signs : (Nat → Int32)) : Nat → Int32 → (Int32 → Option (Int32)) → Option (Int32)
  | 0, _, _ => none
  | nL2 + 1, x2_L2, kL2 => (if c_D_length ≤ x2_L2 then kL2 x2_L2 else (Option.bind (f_X0_signAt x2_L2 (c_D_length, c_D_signs)) (fun r_12 => (if r_12 = ((nI 65) + c_x1) then some (nI 1) else (if r_12 = ((nI 97) + c_x1) then some (nI 1) else f_X0_names_L2 c_x1 c_D_length c_D_signs nL2 (x2_L2 + (nI 1)) kL2)))))
def f_X0_names : Int32 → DayS → Option (Int32)
  | x1, (D_length, D_signs) => f_X0_names_L2 x1 D_length D_signs FU (nI 0) (fun x2_L2 => some (nI 0))
set_option maxHeartbeats 4000000 in
set_option maxRecDepth 100000 in
theorem c_X0_names (l : Launch) (D : va_G) (cI cZ : ClassId) (aD : Nat → Nat) (x1 : Int32) (tD : DayS) (rr : Int32) (hf : f_X0_names x1 tD = some rr) : CT l D cI cZ yX0_names cX0_names 4 (some .boolean) 1 21 0 0 [.ref (aD 0), .int x1] ([dC cI aD tD]) (gPost (some (.int rr)) ([dC cI aD tD])) := by
  obtain ⟨D_length, D_signs⟩ := tD
  rw [f_X0_names] at hf
  refine CT.mkZ (by decide) (Nat.le_of_ble_eq_true rfl) fun {p} {e} {R} {s} {m} {args} {below} {meth} {c} {A} {H0} {Q} C hA hR hret => ?_
  show G p l e R s m args below meth c 4 D A H0 0 0 Q [dC cI aD (D_length, D_signs)] 0 [(0, .ref (aD 0)), (1, .int x1)] []
  refine gq_iconst C (nI 0) 1 dX0_names_0 (by decide) rfl ?_
  refine gq_istore_n C [(2, .int (nI 0)), (0, .ref (aD 0)), (1, .int x1)] 2 dX0_names_1 (by decide) rfl rfl ?_
  have L2 : ∀ (kL : Int32 → Option (Int32)), (∀ (x2_L2 : Int32), kL x2_L2 = some rr → G p l e R s m args below meth c 4 D A H0 0 0 Q [dC cI aD (D_length, D_signs)] 40 [(2, .int x2_L2), (0, .ref (aD 0)), (1, .int x1)] []) → ∀ (n : Nat) (x2_L2 : Int32), f_X0_names_L2 x1 D_length D_signs n x2_L2 kL = some rr → G p l e R s m args below meth c 4 D A H0 0 0 Q [dC cI aD (D_length, D_signs)] 2 [(2, .int x2_L2), (0, .ref (aD 0)), (1, .int x1)] [] := by
    intro kL hkL2 n
    induction n with
    | zero =>
      intro x2_L2 hf
      rw [f_X0_names_L2] at hf
      cases hf
    | succ n ihL2 =>
      intro x2_L2 hf
      rw [f_X0_names_L2] at hf
      refine gq_iload_n C 0 3 dX0_names_2 rfl rfl ?_
      refine gq_aload_n C 1 4 dX0_names_3 rfl rfl ?_
      refine gq_get C fo_X0_0 fw_X0_15 0 0 7 rfl rfl rfl dX0_names_4 rfl ?_
      refine gq_icmp_ge C 40 10 dX0_names_7 (by decide) rfl (fun h7 => ?_) (fun h7 => ?_)
      · replace hf := gq_ifp h7 hf
        exact hkL2 _ hf
      · replace hf := gq_ifn h7 hf
        refine gq_aload_n C 1 11 dX0_names_10 rfl rfl ?_
        refine gq_iload_n C 0 12 dX0_names_11 rfl rfl ?_
        obtain ⟨r_12, hc, hf⟩ := gq_bd hf
        refine gq_callV C hA gm_X0_19 (c_X0_signAt l D cI cZ aD x2_L2 (D_length, D_signs) _ hc) rfl 0 0 rfl rfl rfl ⟨Nat.le_trans (Nat.le_of_ble_eq_true rfl) hR.1, Nat.le_trans (Nat.le_of_ble_eq_true rfl) hR.2.1⟩ ⟨Nat.zero_le _, Nat.zero_le _⟩ rfl (Nat.le_of_ble_eq_true rfl) dX0_names_12 [0] [dC cI aD (D_length, D_signs)] 15 rfl (by decide) rfl rfl rfl [.int r_12] rfl ?_
        refine gq_istore_n C [(3, .int r_12), (2, .int x2_L2), (0, .ref (aD 0)), (1, .int x1)] 16 dX0_names_15 (by decide) rfl rfl ?_
        refine gq_iload_n C 0 17 dX0_names_16 rfl rfl ?_
        refine gq_bipush C (nI 65) 19 dX0_names_17 (by decide) rfl ?_
        refine gq_iload_n C 3 20 dX0_names_19 rfl rfl ?_
        refine gq_iadd C 21 dX0_names_20 rfl ?_
        refine gq_icmp_eq C 32 24 dX0_names_21 (by decide) rfl (fun h21 => ?_) (fun h21 => ?_)
        · replace hf := gq_ifp h21 hf
          refine gq_iconst C (nI 1) 33 dX0_names_32 (by decide) rfl ?_
          obtain rfl := gq_lf hf
          exact hret dX0_names_33 rfl gPost.rf
        · replace hf := gq_ifn h21 hf
          refine gq_iload_n C 0 25 dX0_names_24 rfl rfl ?_
          refine gq_bipush C (nI 97) 27 dX0_names_25 (by decide) rfl ?_
          refine gq_iload_n C 3 28 dX0_names_27 rfl rfl ?_
          refine gq_iadd C 29 dX0_names_28 rfl ?_
          refine gq_icmp_ne C 34 32 dX0_names_29 (by decide) rfl (fun h29 => ?_) (fun h29 => ?_)
          · replace hf := gq_ifn h29 hf
            refine gq_iinc C 1 [(2, .int (x2_L2 + (nI 1))), (3, .int r_12), (0, .ref (aD 0)), (1, .int x1)] 37 dX0_names_34 rfl rfl (by decide) rfl rfl ?_
            refine gq_goto C 2 dX0_names_37 (by decide) ?_
            refine gq_lv [0, 2, 3] rfl ?_
            exact ihL2 _ hf
          · replace hf := gq_ifp h29 hf
            refine gq_iconst C (nI 1) 33 dX0_names_32 (by decide) rfl ?_
            obtain rfl := gq_lf hf
            exact hret dX0_names_33 rfl gPost.rf
  refine L2 _ (fun x2_L2 hf => ?_) _ _ hf
  refine gq_iconst C (nI 0) 41 dX0_names_40 (by decide) rfl ?_
  obtain rfl := gq_lf hf
  exact hret dX0_names_41 rfl gPost.rf
