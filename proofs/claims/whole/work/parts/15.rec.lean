def f_J6_bitCount_0f7a4 : Int32 → Option (Int32)
  | x0 => some ((((((((x0 - ((x0.toUInt32 >>> ((nI 1).toUInt32 &&& Int32.toUInt32 31)).toInt32 &&& (nI 1431655765))) &&& (nI 858993459)) + (((x0 - ((x0.toUInt32 >>> ((nI 1).toUInt32 &&& Int32.toUInt32 31)).toInt32 &&& (nI 1431655765))).toUInt32 >>> ((nI 2).toUInt32 &&& Int32.toUInt32 31)).toInt32 &&& (nI 858993459))) + ((((x0 - ((x0.toUInt32 >>> ((nI 1).toUInt32 &&& Int32.toUInt32 31)).toInt32 &&& (nI 1431655765))) &&& (nI 858993459)) + (((x0 - ((x0.toUInt32 >>> ((nI 1).toUInt32 &&& Int32.toUInt32 31)).toInt32 &&& (nI 1431655765))).toUInt32 >>> ((nI 2).toUInt32 &&& Int32.toUInt32 31)).toInt32 &&& (nI 858993459))).toUInt32 >>> ((nI 4).toUInt32 &&& Int32.toUInt32 31)).toInt32) &&& (nI 252645135)) + ((((((x0 - ((x0.toUInt32 >>> ((nI 1).toUInt32 &&& Int32.toUInt32 31)).toInt32 &&& (nI 1431655765))) &&& (nI 858993459)) + (((x0 - ((x0.toUInt32 >>> ((nI 1).toUInt32 &&& Int32.toUInt32 31)).toInt32 &&& (nI 1431655765))).toUInt32 >>> ((nI 2).toUInt32 &&& Int32.toUInt32 31)).toInt32 &&& (nI 858993459))) + ((((x0 - ((x0.toUInt32 >>> ((nI 1).toUInt32 &&& Int32.toUInt32 31)).toInt32 &&& (nI 1431655765))) &&& (nI 858993459)) + (((x0 - ((x0.toUInt32 >>> ((nI 1).toUInt32 &&& Int32.toUInt32 31)).toInt32 &&& (nI 1431655765))).toUInt32 >>> ((nI 2).toUInt32 &&& Int32.toUInt32 31)).toInt32 &&& (nI 858993459))).toUInt32 >>> ((nI 4).toUInt32 &&& Int32.toUInt32 31)).toInt32) &&& (nI 252645135)).toUInt32 >>> ((nI 8).toUInt32 &&& Int32.toUInt32 31)).toInt32) + (((((((x0 - ((x0.toUInt32 >>> ((nI 1).toUInt32 &&& Int32.toUInt32 31)).toInt32 &&& (nI 1431655765))) &&& (nI 858993459)) + (((x0 - ((x0.toUInt32 >>> ((nI 1).toUInt32 &&& Int32.toUInt32 31)).toInt32 &&& (nI 1431655765))).toUInt32 >>> ((nI 2).toUInt32 &&& Int32.toUInt32 31)).toInt32 &&& (nI 858993459))) + ((((x0 - ((x0.toUInt32 >>> ((nI 1).toUInt32 &&& Int32.toUInt32 31)).toInt32 &&& (nI 1431655765))) &&& (nI 858993459)) + (((x0 - ((x0.toUInt32 >>> ((nI 1).toUInt32 &&& Int32.toUInt32 31)).toInt32 &&& (nI 1431655765))).toUInt32 >>> ((nI 2).toUInt32 &&& Int32.toUInt32 31)).toInt32 &&& (nI 858993459))).toUInt32 >>> ((nI 4).toUInt32 &&& Int32.toUInt32 31)).toInt32) &&& (nI 252645135)) + ((((((x0 - ((x0.toUInt32 >>> ((nI 1).toUInt32 &&& Int32.toUInt32 31)).toInt32 &&& (nI 1431655765))) &&& (nI 858993459)) + (((x0 - ((x0.toUInt32 >>> ((nI 1).toUInt32 &&& Int32.toUInt32 31)).toInt32 &&& (nI 1431655765))).toUInt32 >>> ((nI 2).toUInt32 &&& Int32.toUInt32 31)).toInt32 &&& (nI 858993459))) + ((((x0 - ((x0.toUInt32 >>> ((nI 1).toUInt32 &&& Int32.toUInt32 31)).toInt32 &&& (nI 1431655765))) &&& (nI 858993459)) + (((x0 - ((x0.toUInt32 >>> ((nI 1).toUInt32 &&& Int32.toUInt32 31)).toInt32 &&& (nI 1431655765))).toUInt32 >>> ((nI 2).toUInt32 &&& Int32.toUInt32 31)).toInt32 &&& (nI 858993459))).toUInt32 >>> ((nI 4).toUInt32 &&& Int32.toUInt32 31)).toInt32) &&& (nI 252645135)).toUInt32 >>> ((nI 8).toUInt32 &&& Int32.toUInt32 31)).toInt32).toUInt32 >>> ((nI 16).toUInt32 &&& Int32.toUInt32 31)).toInt32) &&& (nI 63))
set_option maxHeartbeats 4000000 in
set_option maxRecDepth 100000 in
theorem c_J6_bitCount_0f7a4 (l : Launch) (D : va_G) (cI cZ : ClassId) (x0 : Int32) (rr : Int32) (hf : f_J6_bitCount_0f7a4 x0 = some rr) : CT l D cI cZ yJ6_bitCount_0f7a4 cJ6_bitCount_0f7a4 1 (some .int) 0 0 0 0 [.int x0] ([]) (gPost (some (.int rr)) ([])) := by
  rw [f_J6_bitCount_0f7a4] at hf
  refine CT.mkI (by decide) (Nat.le_of_ble_eq_true rfl) fun {p} {e} {R} {s} {m} {args} {below} {meth} {c} {A} {H0} {Q} C hA hR hret => ?_
  show G p l e R s m args below meth c 1 D A H0 0 0 Q [] 0 [(0, .int x0)] []
  refine gq_iload_n C 0 1 dJ6_bitCount_0f7a4_0 rfl rfl ?_
  refine gq_iload_n C 0 2 dJ6_bitCount_0f7a4_1 rfl rfl ?_
  refine gq_iconst C (nI 1) 3 dJ6_bitCount_0f7a4_2 (by decide) rfl ?_
  refine gq_iushr C 4 dJ6_bitCount_0f7a4_3 rfl ?_
  refine gq_ldcw C (nI 1431655765) 7 cw_J6_265 dJ6_bitCount_0f7a4_4 rfl ?_
  refine gq_iand C 8 dJ6_bitCount_0f7a4_7 rfl ?_
  refine gq_isub C 9 dJ6_bitCount_0f7a4_8 rfl ?_
  refine gq_istore_n C [(0, .int (x0 - ((x0.toUInt32 >>> ((nI 1).toUInt32 &&& Int32.toUInt32 31)).toInt32 &&& (nI 1431655765))))] 10 dJ6_bitCount_0f7a4_9 (by decide) rfl rfl ?_
  refine gq_iload_n C 0 11 dJ6_bitCount_0f7a4_10 rfl rfl ?_
  refine gq_ldcw C (nI 858993459) 14 cw_J6_266 dJ6_bitCount_0f7a4_11 rfl ?_
  refine gq_iand C 15 dJ6_bitCount_0f7a4_14 rfl ?_
  refine gq_iload_n C 0 16 dJ6_bitCount_0f7a4_15 rfl rfl ?_
  refine gq_iconst C (nI 2) 17 dJ6_bitCount_0f7a4_16 (by decide) rfl ?_
  refine gq_iushr C 18 dJ6_bitCount_0f7a4_17 rfl ?_
  refine gq_ldcw C (nI 858993459) 21 cw_J6_266 dJ6_bitCount_0f7a4_18 rfl ?_
  refine gq_iand C 22 dJ6_bitCount_0f7a4_21 rfl ?_
  refine gq_iadd C 23 dJ6_bitCount_0f7a4_22 rfl ?_
  refine gq_istore_n C [(0, .int (((x0 - ((x0.toUInt32 >>> ((nI 1).toUInt32 &&& Int32.toUInt32 31)).toInt32 &&& (nI 1431655765))) &&& (nI 858993459)) + (((x0 - ((x0.toUInt32 >>> ((nI 1).toUInt32 &&& Int32.toUInt32 31)).toInt32 &&& (nI 1431655765))).toUInt32 >>> ((nI 2).toUInt32 &&& Int32.toUInt32 31)).toInt32 &&& (nI 858993459))))] 24 dJ6_bitCount_0f7a4_23 (by decide) rfl rfl ?_
  refine gq_iload_n C 0 25 dJ6_bitCount_0f7a4_24 rfl rfl ?_
  refine gq_iload_n C 0 26 dJ6_bitCount_0f7a4_25 rfl rfl ?_
  refine gq_iconst C (nI 4) 27 dJ6_bitCount_0f7a4_26 (by decide) rfl ?_
  refine gq_iushr C 28 dJ6_bitCount_0f7a4_27 rfl ?_
  refine gq_iadd C 29 dJ6_bitCount_0f7a4_28 rfl ?_
  refine gq_ldcw C (nI 252645135) 32 cw_J6_267 dJ6_bitCount_0f7a4_29 rfl ?_
  refine gq_iand C 33 dJ6_bitCount_0f7a4_32 rfl ?_
  refine gq_istore_n C [(0, .int (((((x0 - ((x0.toUInt32 >>> ((nI 1).toUInt32 &&& Int32.toUInt32 31)).toInt32 &&& (nI 1431655765))) &&& (nI 858993459)) + (((x0 - ((x0.toUInt32 >>> ((nI 1).toUInt32 &&& Int32.toUInt32 31)).toInt32 &&& (nI 1431655765))).toUInt32 >>> ((nI 2).toUInt32 &&& Int32.toUInt32 31)).toInt32 &&& (nI 858993459))) + ((((x0 - ((x0.toUInt32 >>> ((nI 1).toUInt32 &&& Int32.toUInt32 31)).toInt32 &&& (nI 1431655765))) &&& (nI 858993459)) + (((x0 - ((x0.toUInt32 >>> ((nI 1).toUInt32 &&& Int32.toUInt32 31)).toInt32 &&& (nI 1431655765))).toUInt32 >>> ((nI 2).toUInt32 &&& Int32.toUInt32 31)).toInt32 &&& (nI 858993459))).toUInt32 >>> ((nI 4).toUInt32 &&& Int32.toUInt32 31)).toInt32) &&& (nI 252645135)))] 34 dJ6_bitCount_0f7a4_33 (by decide) rfl rfl ?_
  refine gq_iload_n C 0 35 dJ6_bitCount_0f7a4_34 rfl rfl ?_
  refine gq_iload_n C 0 36 dJ6_bitCount_0f7a4_35 rfl rfl ?_
  refine gq_bipush C (nI 8) 38 dJ6_bitCount_0f7a4_36 (by decide) rfl ?_
  refine gq_iushr C 39 dJ6_bitCount_0f7a4_38 rfl ?_
  refine gq_iadd C 40 dJ6_bitCount_0f7a4_39 rfl ?_
  refine gq_istore_n C [(0, .int ((((((x0 - ((x0.toUInt32 >>> ((nI 1).toUInt32 &&& Int32.toUInt32 31)).toInt32 &&& (nI 1431655765))) &&& (nI 858993459)) + (((x0 - ((x0.toUInt32 >>> ((nI 1).toUInt32 &&& Int32.toUInt32 31)).toInt32 &&& (nI 1431655765))).toUInt32 >>> ((nI 2).toUInt32 &&& Int32.toUInt32 31)).toInt32 &&& (nI 858993459))) + ((((x0 - ((x0.toUInt32 >>> ((nI 1).toUInt32 &&& Int32.toUInt32 31)).toInt32 &&& (nI 1431655765))) &&& (nI 858993459)) + (((x0 - ((x0.toUInt32 >>> ((nI 1).toUInt32 &&& Int32.toUInt32 31)).toInt32 &&& (nI 1431655765))).toUInt32 >>> ((nI 2).toUInt32 &&& Int32.toUInt32 31)).toInt32 &&& (nI 858993459))).toUInt32 >>> ((nI 4).toUInt32 &&& Int32.toUInt32 31)).toInt32) &&& (nI 252645135)) + ((((((x0 - ((x0.toUInt32 >>> ((nI 1).toUInt32 &&& Int32.toUInt32 31)).toInt32 &&& (nI 1431655765))) &&& (nI 858993459)) + (((x0 - ((x0.toUInt32 >>> ((nI 1).toUInt32 &&& Int32.toUInt32 31)).toInt32 &&& (nI 1431655765))).toUInt32 >>> ((nI 2).toUInt32 &&& Int32.toUInt32 31)).toInt32 &&& (nI 858993459))) + ((((x0 - ((x0.toUInt32 >>> ((nI 1).toUInt32 &&& Int32.toUInt32 31)).toInt32 &&& (nI 1431655765))) &&& (nI 858993459)) + (((x0 - ((x0.toUInt32 >>> ((nI 1).toUInt32 &&& Int32.toUInt32 31)).toInt32 &&& (nI 1431655765))).toUInt32 >>> ((nI 2).toUInt32 &&& Int32.toUInt32 31)).toInt32 &&& (nI 858993459))).toUInt32 >>> ((nI 4).toUInt32 &&& Int32.toUInt32 31)).toInt32) &&& (nI 252645135)).toUInt32 >>> ((nI 8).toUInt32 &&& Int32.toUInt32 31)).toInt32))] 41 dJ6_bitCount_0f7a4_40 (by decide) rfl rfl ?_
  refine gq_iload_n C 0 42 dJ6_bitCount_0f7a4_41 rfl rfl ?_
  refine gq_iload_n C 0 43 dJ6_bitCount_0f7a4_42 rfl rfl ?_
  refine gq_bipush C (nI 16) 45 dJ6_bitCount_0f7a4_43 (by decide) rfl ?_
  refine gq_iushr C 46 dJ6_bitCount_0f7a4_45 rfl ?_
  refine gq_iadd C 47 dJ6_bitCount_0f7a4_46 rfl ?_
  refine gq_istore_n C [(0, .int (((((((x0 - ((x0.toUInt32 >>> ((nI 1).toUInt32 &&& Int32.toUInt32 31)).toInt32 &&& (nI 1431655765))) &&& (nI 858993459)) + (((x0 - ((x0.toUInt32 >>> ((nI 1).toUInt32 &&& Int32.toUInt32 31)).toInt32 &&& (nI 1431655765))).toUInt32 >>> ((nI 2).toUInt32 &&& Int32.toUInt32 31)).toInt32 &&& (nI 858993459))) + ((((x0 - ((x0.toUInt32 >>> ((nI 1).toUInt32 &&& Int32.toUInt32 31)).toInt32 &&& (nI 1431655765))) &&& (nI 858993459)) + (((x0 - ((x0.toUInt32 >>> ((nI 1).toUInt32 &&& Int32.toUInt32 31)).toInt32 &&& (nI 1431655765))).toUInt32 >>> ((nI 2).toUInt32 &&& Int32.toUInt32 31)).toInt32 &&& (nI 858993459))).toUInt32 >>> ((nI 4).toUInt32 &&& Int32.toUInt32 31)).toInt32) &&& (nI 252645135)) + ((((((x0 - ((x0.toUInt32 >>> ((nI 1).toUInt32 &&& Int32.toUInt32 31)).toInt32 &&& (nI 1431655765))) &&& (nI 858993459)) + (((x0 - ((x0.toUInt32 >>> ((nI 1).toUInt32 &&& Int32.toUInt32 31)).toInt32 &&& (nI 1431655765))).toUInt32 >>> ((nI 2).toUInt32 &&& Int32.toUInt32 31)).toInt32 &&& (nI 858993459))) + ((((x0 - ((x0.toUInt32 >>> ((nI 1).toUInt32 &&& Int32.toUInt32 31)).toInt32 &&& (nI 1431655765))) &&& (nI 858993459)) + (((x0 - ((x0.toUInt32 >>> ((nI 1).toUInt32 &&& Int32.toUInt32 31)).toInt32 &&& (nI 1431655765))).toUInt32 >>> ((nI 2).toUInt32 &&& Int32.toUInt32 31)).toInt32 &&& (nI 858993459))).toUInt32 >>> ((nI 4).toUInt32 &&& Int32.toUInt32 31)).toInt32) &&& (nI 252645135)).toUInt32 >>> ((nI 8).toUInt32 &&& Int32.toUInt32 31)).toInt32) + (((((((x0 - ((x0.toUInt32 >>> ((nI 1).toUInt32 &&& Int32.toUInt32 31)).toInt32 &&& (nI 1431655765))) &&& (nI 858993459)) + (((x0 - ((x0.toUInt32 >>> ((nI 1).toUInt32 &&& Int32.toUInt32 31)).toInt32 &&& (nI 1431655765))).toUInt32 >>> ((nI 2).toUInt32 &&& Int32.toUInt32 31)).toInt32 &&& (nI 858993459))) + ((((x0 - ((x0.toUInt32 >>> ((nI 1).toUInt32 &&& Int32.toUInt32 31)).toInt32 &&& (nI 1431655765))) &&& (nI 858993459)) + (((x0 - ((x0.toUInt32 >>> ((nI 1).toUInt32 &&& Int32.toUInt32 31)).toInt32 &&& (nI 1431655765))).toUInt32 >>> ((nI 2).toUInt32 &&& Int32.toUInt32 31)).toInt32 &&& (nI 858993459))).toUInt32 >>> ((nI 4).toUInt32 &&& Int32.toUInt32 31)).toInt32) &&& (nI 252645135)) + ((((((x0 - ((x0.toUInt32 >>> ((nI 1).toUInt32 &&& Int32.toUInt32 31)).toInt32 &&& (nI 1431655765))) &&& (nI 858993459)) + (((x0 - ((x0.toUInt32 >>> ((nI 1).toUInt32 &&& Int32.toUInt32 31)).toInt32 &&& (nI 1431655765))).toUInt32 >>> ((nI 2).toUInt32 &&& Int32.toUInt32 31)).toInt32 &&& (nI 858993459))) + ((((x0 - ((x0.toUInt32 >>> ((nI 1).toUInt32 &&& Int32.toUInt32 31)).toInt32 &&& (nI 1431655765))) &&& (nI 858993459)) + (((x0 - ((x0.toUInt32 >>> ((nI 1).toUInt32 &&& Int32.toUInt32 31)).toInt32 &&& (nI 1431655765))).toUInt32 >>> ((nI 2).toUInt32 &&& Int32.toUInt32 31)).toInt32 &&& (nI 858993459))).toUInt32 >>> ((nI 4).toUInt32 &&& Int32.toUInt32 31)).toInt32) &&& (nI 252645135)).toUInt32 >>> ((nI 8).toUInt32 &&& Int32.toUInt32 31)).toInt32).toUInt32 >>> ((nI 16).toUInt32 &&& Int32.toUInt32 31)).toInt32))] 48 dJ6_bitCount_0f7a4_47 (by decide) rfl rfl ?_
  refine gq_iload_n C 0 49 dJ6_bitCount_0f7a4_48 rfl rfl ?_
  refine gq_bipush C (nI 63) 51 dJ6_bitCount_0f7a4_49 (by decide) rfl ?_
  refine gq_iand C 52 dJ6_bitCount_0f7a4_51 rfl ?_
  obtain rfl := gq_lf hf
  exact hret dJ6_bitCount_0f7a4_52 gPost.rf

def f_X4_keepIfBetter : Int32 → ParS → Option (ParS)
  | x1, (P_most, P_size, P_bestOrder, P_trial) => (if x1 ≤ P_most then some (P_most, P_size, P_bestOrder, P_trial) else some (x1, P_size, (va_cpy P_trial P_bestOrder 0 0 (nI 6).toNatClampNeg), P_trial))
set_option maxHeartbeats 4000000 in
set_option maxRecDepth 100000 in
theorem c_X4_keepIfBetter (l : Launch) (D : va_G) (cI cZ : ClassId) (aP : Nat → Nat) (x1 : Int32) (tP : ParS) (rr : ParS) (hf : f_X4_keepIfBetter x1 tP = some rr) : CT l D cI cZ yX4_keepIfBetter cX4_keepIfBetter 2 none 1 60 0 0 [.ref (aP 0), .int x1] ([pC cI aP tP]) (gPost none ([pC cI aP rr])) := by
  obtain ⟨P_most, P_size, P_bestOrder, P_trial⟩ := tP
  rw [f_X4_keepIfBetter] at hf
  refine CT.mkV (by decide) (Nat.le_of_ble_eq_true rfl) fun {p} {e} {R} {s} {m} {args} {below} {meth} {c} {A} {H0} {Q} C hA hR hnm hret => ?_
  show G p l e R s m args below meth c 2 D A H0 0 0 Q [pC cI aP (P_most, P_size, P_bestOrder, P_trial)] 0 [(0, .ref (aP 0)), (1, .int x1)] []
  refine gq_iload_n C 1 1 dX4_keepIfBetter_0 rfl rfl ?_
  refine gq_aload_n C 0 2 dX4_keepIfBetter_1 rfl rfl ?_
  refine gq_get C fo_X4_0 fw_X4_18 0 0 5 rfl rfl rfl dX4_keepIfBetter_2 rfl ?_
  refine gq_icmp_le C 28 8 dX4_keepIfBetter_5 (by decide) rfl (fun h5 => ?_) (fun h5 => ?_)
  · replace hf := gq_ifp h5 hf
    obtain rfl := gq_lf hf
    exact hret dX4_keepIfBetter_28 gPost.rf
  · replace hf := gq_ifn h5 hf
    refine gq_aload_n C 0 9 dX4_keepIfBetter_8 rfl rfl ?_
    refine gq_iload_n C 1 10 dX4_keepIfBetter_9 rfl rfl ?_
    refine gq_put C fo_X4_0 fp_X4_0 rfl fw_X4_18 0 0 13 [pC cI aP (x1, P_size, P_bestOrder, P_trial)] rfl rfl rfl rfl (Nat.le_of_ble_eq_true rfl) rfl dX4_keepIfBetter_10 rfl ?_
    refine gq_aload_n C 0 14 dX4_keepIfBetter_13 rfl rfl ?_
    refine gq_get C fo_X4_3 fw_X4_15 0 0 17 rfl rfl rfl dX4_keepIfBetter_14 rfl ?_
    refine gq_iconst C (nI 0) 18 dX4_keepIfBetter_17 (by decide) rfl ?_
    refine gq_aload_n C 0 19 dX4_keepIfBetter_18 rfl rfl ?_
    refine gq_get C fo_X4_2 fw_X4_9 0 0 22 rfl rfl rfl dX4_keepIfBetter_19 rfl ?_
    refine gq_iconst C (nI 0) 23 dX4_keepIfBetter_22 (by decide) rfl ?_
    refine gq_bipush C (nI 6) 25 dX4_keepIfBetter_23 (by decide) rfl ?_
    refine gq_copy C 0 2 0 1 28 [pC cI aP (x1, P_size, (va_cpy P_trial P_bestOrder 0 0 (nI 6).toNatClampNeg), P_trial)] mw_X4_65 aw_native aw_static aw_ini rfl rfl rfl rfl (by decide) (by decide) (by decide) rfl (Nat.le_trans (Nat.le_of_ble_eq_true rfl) hR.1) (Nat.le_trans (Nat.le_of_ble_eq_true rfl) hR.2.1) dX4_keepIfBetter_25 rfl ?_
    obtain rfl := gq_lf hf
    exact hret dX4_keepIfBetter_28 gPost.rf

def f_X4_guestAt : Int32 → ParS → Option (Int32)
  | x1, (P_most, P_size, P_bestOrder, P_trial) => (if x1 < 0 then some (-6 : Int32) else (if P_size ≤ x1 then some (-6 : Int32) else (if (nI 6) ≤ x1 then some (-6 : Int32) else (if x1 < 0 ∨ 6 ≤ x1.toNatClampNeg then none else some (P_bestOrder x1.toNatClampNeg)))))
set_option maxHeartbeats 4000000 in
set_option maxRecDepth 100000 in
theorem c_X4_guestAt (l : Launch) (D : va_G) (cI cZ : ClassId) (aP : Nat → Nat) (x1 : Int32) (tP : ParS) (rr : Int32) (hf : f_X4_guestAt x1 tP = some rr) : CT l D cI cZ yX4_guestAt cX4_guestAt 2 (some .int) 0 0 0 0 [.ref (aP 0), .int x1] ([pC cI aP tP]) (gPost (some (.int rr)) ([pC cI aP tP])) := by
  obtain ⟨P_most, P_size, P_bestOrder, P_trial⟩ := tP
  rw [f_X4_guestAt] at hf
  refine CT.mkI (by decide) (Nat.le_of_ble_eq_true rfl) fun {p} {e} {R} {s} {m} {args} {below} {meth} {c} {A} {H0} {Q} C hA hR hret => ?_
  show G p l e R s m args below meth c 2 D A H0 0 0 Q [pC cI aP (P_most, P_size, P_bestOrder, P_trial)] 0 [(0, .ref (aP 0)), (1, .int x1)] []
  refine gq_iload_n C 1 1 dX4_guestAt_0 rfl rfl ?_
  refine gq_if_lt C 27 4 dX4_guestAt_1 (by decide) rfl (fun h1 => ?_) (fun h1 => ?_)
  · replace hf := gq_ifp h1 hf
    refine gq_bipush C (-6 : Int32) 29 dX4_guestAt_27 (by decide) rfl ?_
    obtain rfl := gq_lf hf
    exact hret dX4_guestAt_29 gPost.rf
  · replace hf := gq_ifn h1 hf
    refine gq_iload_n C 1 5 dX4_guestAt_4 rfl rfl ?_
    refine gq_aload_n C 0 6 dX4_guestAt_5 rfl rfl ?_
    refine gq_get C fo_X4_1 fw_X4_28 0 0 9 rfl rfl rfl dX4_guestAt_6 rfl ?_
    refine gq_icmp_ge C 27 12 dX4_guestAt_9 (by decide) rfl (fun h9 => ?_) (fun h9 => ?_)
    · replace hf := gq_ifp h9 hf
      refine gq_bipush C (-6 : Int32) 29 dX4_guestAt_27 (by decide) rfl ?_
      obtain rfl := gq_lf hf
      exact hret dX4_guestAt_29 gPost.rf
    · replace hf := gq_ifn h9 hf
      refine gq_iload_n C 1 13 dX4_guestAt_12 rfl rfl ?_
      refine gq_bipush C (nI 6) 15 dX4_guestAt_13 (by decide) rfl ?_
      refine gq_icmp_ge C 27 18 dX4_guestAt_15 (by decide) rfl (fun h15 => ?_) (fun h15 => ?_)
      · replace hf := gq_ifp h15 hf
        refine gq_bipush C (-6 : Int32) 29 dX4_guestAt_27 (by decide) rfl ?_
        obtain rfl := gq_lf hf
        exact hret dX4_guestAt_29 gPost.rf
      · replace hf := gq_ifn h15 hf
        refine gq_aload_n C 0 19 dX4_guestAt_18 rfl rfl ?_
        refine gq_get C fo_X4_2 fw_X4_9 0 0 22 rfl rfl rfl dX4_guestAt_19 rfl ?_
        refine gq_iload_n C 1 23 dX4_guestAt_22 rfl rfl ?_
        obtain ⟨h23, hf⟩ := gq_ok hf
        refine gq_iald C 0 1 24 rfl rfl h23 dX4_guestAt_23 rfl ?_
        refine gq_goto C 29 dX4_guestAt_24 (by decide) ?_
        obtain rfl := gq_lf hf
        exact hret dX4_guestAt_29 gPost.rf

def f_X4_letIn_L36 (recF : Int32 → Int32 → Int32 → HouS → ParS → InnS → (List InnS) → Option (ParS × (List InnS))) (c_x2 : Int32) (c_x3 : Int32) (c_x4 : Int32) (c_H_beds : Int32) (c_H_law : Int32) (c_H_sights : Int32) (c_H_isKept : Int32) (c_H_worths : (Nat → Int32)) (c_H_sightGuests : (Nat → Int32)) (c_H_sightBeds : (Nat → Int32)) (c_I_law : Int32) (c_I_there : Int32) (c_I_sleepers : (Nat → Int32)) (c_I_empty : (Nat → Int32)) (c_I_empties : Int32) (c_I_yard : (Nat → Int32)) (c_I_waiting : Int32) (c_I_nights : (Nat → Int32)) (c_I_used : (Nat → Int32)) (c_I_sheets : (Nat → Int32)) (c_I_lastOnes : (Nat → Int32)) (c_I_guestsWithFleas : Int32) (c_I_bedsWithFleas : Int32) (c_I_isCounting : Int32) : Nat → Int32 → Int32 → Int32 → (Nat → Int32) → (Nat → Int32) → Int32 → Int32 → (Nat → Int32) → (Nat → Int32) → Int32 → (Nat → Int32) → Int32 → (Nat → Int32) → (Nat → Int32) → (Nat → Int32) → (Nat → Int32) → Int32 → Int32 → Int32 → (List InnS) → (Int32 → Int32 → Int32 → (Nat → Int32) → (Nat → Int32) → Int32 → Int32 → (Nat → Int32) → (Nat → Int32) → Int32 → (Nat → Int32) → Int32 → (Nat → Int32) → (Nat → Int32) → (Nat → Int32) → (Nat → Int32) → Int32 → Int32 → Int32 → (List InnS) → Option (ParS × (List InnS))) → Option (ParS × (List InnS))
  | 0, _, _, _, _, _, _, _, _, _, _, _, _, _, _, _, _, _, _, _, _, _ => none
  | nL36 + 1, x6_L36, P_most_L36, P_size_L36, P_bestOrder_L36, P_trial_L36, J_law_L36, J_there_L36, J_sleepers_L36, J_empty_L36, J_empties_L36, J_yard_L36, J_waiting_L36, J_nights_L36, J_used_L36, J_sheets_L36, J_lastOnes_L36, J_guestsWithFleas_L36, J_bedsWithFleas_L36, J_isCounting_L36, T_list_L36, kL36 => (if (nI 8) ≤ x6_L36 then kL36 x6_L36 P_most_L36 P_size_L36 P_bestOrder_L36 P_trial_L36 J_law_L36 J_there_L36 J_sleepers_L36 J_empty_L36 J_empties_L36 J_yard_L36 J_waiting_L36 J_nights_L36 J_used_L36 J_sheets_L36 J_lastOnes_L36 J_guestsWithFleas_L36 J_bedsWithFleas_L36 J_isCounting_L36 T_list_L36 else (if (c_x2 &&& ((nI 1) <<< (x6_L36 &&& 31))) = 0 then f_X4_letIn_L36 recF c_x2 c_x3 c_x4 c_H_beds c_H_law c_H_sights c_H_isKept c_H_worths c_H_sightGuests c_H_sightBeds c_I_law c_I_there c_I_sleepers c_I_empty c_I_empties c_I_yard c_I_waiting c_I_nights c_I_used c_I_sheets c_I_lastOnes c_I_guestsWithFleas c_I_bedsWithFleas c_I_isCounting nL36 (x6_L36 + (nI 1)) P_most_L36 P_size_L36 P_bestOrder_L36 P_trial_L36 J_law_L36 J_there_L36 J_sleepers_L36 J_empty_L36 J_empties_L36 J_yard_L36 J_waiting_L36 J_nights_L36 J_used_L36 J_sheets_L36 J_lastOnes_L36 J_guestsWithFleas_L36 J_bedsWithFleas_L36 J_isCounting_L36 T_list_L36 kL36 else (Option.bind (f_X3_standAs (J_law_L36, J_there_L36, J_sleepers_L36, J_empty_L36, J_empties_L36, J_yard_L36, J_waiting_L36, J_nights_L36, J_used_L36, J_sheets_L36, J_lastOnes_L36, J_guestsWithFleas_L36, J_bedsWithFleas_L36, J_isCounting_L36) (c_I_law, c_I_there, c_I_sleepers, c_I_empty, c_I_empties, c_I_yard, c_I_waiting, c_I_nights, c_I_used, c_I_sheets, c_I_lastOnes, c_I_guestsWithFleas, c_I_bedsWithFleas, c_I_isCounting)) (fun (J_law_55, J_there_55, J_sleepers_55, J_empty_55, J_empties_55, J_yard_55, J_waiting_55, J_nights_55, J_used_55, J_sheets_55, J_lastOnes_55, J_guestsWithFleas_55, J_bedsWithFleas_55, J_isCounting_55) => (Option.bind (f_X3_takeIn x6_L36 (c_H_beds, c_H_law, c_H_sights, c_H_isKept, c_H_worths, c_H_sightGuests, c_H_sightBeds) (J_law_55, J_there_55, J_sleepers_55, J_empty_55, J_empties_55, J_yard_55, J_waiting_55, J_nights_55, J_used_55, J_sheets_55, J_lastOnes_55, J_guestsWithFleas_55, J_bedsWithFleas_55, J_isCounting_55)) (fun (J_law_62, J_there_62, J_sleepers_62, J_empty_62, J_empties_62, J_yard_62, J_waiting_62, J_nights_62, J_used_62, J_sheets_62, J_lastOnes_62, J_guestsWithFleas_62, J_bedsWithFleas_62, J_isCounting_62) => (if c_x3 < 0 ∨ 6 ≤ c_x3.toNatClampNeg then none else (Option.bind (f_X3_bedOf x6_L36 (J_law_62, J_there_62, J_sleepers_62, J_empty_62, J_empties_62, J_yard_62, J_waiting_62, J_nights_62, J_used_62, J_sheets_62, J_lastOnes_62, J_guestsWithFleas_62, J_bedsWithFleas_62, J_isCounting_62)) (fun r_84 => (Option.bind (f_X2_worthOf x6_L36 r_84 (c_H_beds, c_H_law, c_H_sights, c_H_isKept, c_H_worths, c_H_sightGuests, c_H_sightBeds)) (fun r_87 => (Option.bind (recF (c_x2 &&& (((nI 1) <<< (x6_L36 &&& 31)) ^^^ (-1 : Int32))) (c_x3 + (nI 1)) (c_x4 + r_87) (c_H_beds, c_H_law, c_H_sights, c_H_isKept, c_H_worths, c_H_sightGuests, c_H_sightBeds) (P_most_L36, P_size_L36, P_bestOrder_L36, (upd P_trial_L36 c_x3.toNatClampNeg x6_L36)) (J_law_62, J_there_62, J_sleepers_62, J_empty_62, J_empties_62, J_yard_62, J_waiting_62, J_nights_62, J_used_62, J_sheets_62, J_lastOnes_62, J_guestsWithFleas_62, J_bedsWithFleas_62, J_isCounting_62) T_list_L36) (fun ((P_most_111, P_size_111, P_bestOrder_111, P_trial_111), T_list_111) => (if T_list_111.length = T_list_L36.length then f_X4_letIn_L36 recF c_x2 c_x3 c_x4 c_H_beds c_H_law c_H_sights c_H_isKept c_H_worths c_H_sightGuests c_H_sightBeds c_I_law c_I_there c_I_sleepers c_I_empty c_I_empties c_I_yard c_I_waiting c_I_nights c_I_used c_I_sheets c_I_lastOnes c_I_guestsWithFleas c_I_bedsWithFleas c_I_isCounting nL36 (x6_L36 + (nI 1)) P_most_111 P_size_111 P_bestOrder_111 P_trial_111 J_law_62 J_there_62 J_sleepers_62 J_empty_62 J_empties_62 J_yard_62 J_waiting_62 J_nights_62 J_used_62 J_sheets_62 J_lastOnes_62 J_guestsWithFleas_62 J_bedsWithFleas_62 J_isCounting_62 T_list_111 kL36 else none))))))))))))))
def f_X4_letIn : Nat → Int32 → Int32 → Int32 → HouS → ParS → InnS → (List InnS) → Option (ParS × (List InnS))
  | 0, _, _, _, _, _, _, _ => none
  | nR + 1, x2, x3, x4, (H_beds, H_law, H_sights, H_isKept, H_worths, H_sightGuests, H_sightBeds), (P_most, P_size, P_bestOrder, P_trial), (I_law, I_there, I_sleepers, I_empty, I_empties, I_yard, I_waiting, I_nights, I_used, I_sheets, I_lastOnes, I_guestsWithFleas, I_bedsWithFleas, I_isCounting), T_list => (if x2 = 0 then (Option.bind (f_X4_keepIfBetter x4 (P_most, P_size, P_bestOrder, P_trial)) (fun (P_most_7, P_size_7, P_bestOrder_7, P_trial_7) => some ((P_most_7, P_size_7, P_bestOrder_7, P_trial_7), T_list))) else (match T_list with | [] => none | (J_law, J_there, J_sleepers, J_empty, J_empties, J_yard, J_waiting, J_nights, J_used, J_sheets, J_lastOnes, J_guestsWithFleas, J_bedsWithFleas, J_isCounting) :: T_tl => (if x3 < 0 then some ((P_most, P_size, P_bestOrder, P_trial), ((J_law, J_there, J_sleepers, J_empty, J_empties, J_yard, J_waiting, J_nights, J_used, J_sheets, J_lastOnes, J_guestsWithFleas, J_bedsWithFleas, J_isCounting) :: T_tl)) else (if x3 < (nI 6) then f_X4_letIn_L36 (f_X4_letIn nR) x2 x3 x4 H_beds H_law H_sights H_isKept H_worths H_sightGuests H_sightBeds I_law I_there I_sleepers I_empty I_empties I_yard I_waiting I_nights I_used I_sheets I_lastOnes I_guestsWithFleas I_bedsWithFleas I_isCounting FU (nI 0) P_most P_size P_bestOrder P_trial J_law J_there J_sleepers J_empty J_empties J_yard J_waiting J_nights J_used J_sheets J_lastOnes J_guestsWithFleas J_bedsWithFleas J_isCounting T_tl (fun x6_L36 P_most_L36 P_size_L36 P_bestOrder_L36 P_trial_L36 J_law_L36 J_there_L36 J_sleepers_L36 J_empty_L36 J_empties_L36 J_yard_L36 J_waiting_L36 J_nights_L36 J_used_L36 J_sheets_L36 J_lastOnes_L36 J_guestsWithFleas_L36 J_bedsWithFleas_L36 J_isCounting_L36 T_list_L36 => some ((P_most_L36, P_size_L36, P_bestOrder_L36, P_trial_L36), ((J_law_L36, J_there_L36, J_sleepers_L36, J_empty_L36, J_empties_L36, J_yard_L36, J_waiting_L36, J_nights_L36, J_used_L36, J_sheets_L36, J_lastOnes_L36, J_guestsWithFleas_L36, J_bedsWithFleas_L36, J_isCounting_L36) :: T_list_L36))) else some ((P_most, P_size, P_bestOrder, P_trial), ((J_law, J_there, J_sleepers, J_empty, J_empties, J_yard, J_waiting, J_nights, J_used, J_sheets, J_lastOnes, J_guestsWithFleas, J_bedsWithFleas, J_isCounting) :: T_tl))))))
set_option maxHeartbeats 4000000 in
set_option maxRecDepth 100000 in
theorem c_X4_letIn (l : Launch) (D : va_G) (cI cZ : ClassId) : ∀ (nR : Nat) (aH : Nat → Nat) (aP : Nat → Nat) (aI : Nat → Nat) (aT : List (Nat → Nat)) (x2 : Int32) (x3 : Int32) (x4 : Int32) (tH : HouS) (tP : ParS) (tI : InnS) (tT : (List InnS)) (rr : ParS × (List InnS)) (hln : aT.length = tT.length) (hf : f_X4_letIn nR x2 x3 x4 tH tP tI tT = some rr), CT l D cI cZ yX4_letIn cX4_letIn 8 none (30 + nR) (400 + 40 * nR) 0 0 [.ref (aP 0), .ref (aI 0), .int x2, .int x3, .int x4] ([hC cI aH tH, pC cI aP tP, iC cI aI (aH 0) (nx aT) tI, chW cI (aH 0) aT tT]) (gPost none ([hC cI aH tH, pC cI aP rr.1, iC cI aI (aH 0) (nx aT) tI, chW cI (aH 0) aT rr.2])) := by
  intro nR
  induction nR with
  | zero =>
    intro aH aP aI aT x2 x3 x4 tH tP tI tT rr hln hf
    rw [f_X4_letIn] at hf
    cases hf
  | succ nR ih =>
    intro aH aP aI aT x2 x3 x4 tH tP tI tT rr hln hf
    obtain ⟨H_beds, H_law, H_sights, H_isKept, H_worths, H_sightGuests, H_sightBeds⟩ := tH
    obtain ⟨P_most, P_size, P_bestOrder, P_trial⟩ := tP
    obtain ⟨I_law, I_there, I_sleepers, I_empty, I_empties, I_yard, I_waiting, I_nights, I_used, I_sheets, I_lastOnes, I_guestsWithFleas, I_bedsWithFleas, I_isCounting⟩ := tI
    obtain ⟨T_list, rfl⟩ : ∃ z, z = tT := ⟨_, rfl⟩
    rw [f_X4_letIn.eq_def] at hf
    refine CT.mkV (by decide) (Nat.le_of_ble_eq_true rfl) fun {p} {e} {R} {s} {m} {args} {below} {meth} {c} {A} {H0} {Q} C hA hR hnm hret => ?_
    show G p l e R s m args below meth c 8 D A H0 0 0 Q [hC cI aH (H_beds, H_law, H_sights, H_isKept, H_worths, H_sightGuests, H_sightBeds), pC cI aP (P_most, P_size, P_bestOrder, P_trial), iC cI aI (aH 0) (nx aT) (I_law, I_there, I_sleepers, I_empty, I_empties, I_yard, I_waiting, I_nights, I_used, I_sheets, I_lastOnes, I_guestsWithFleas, I_bedsWithFleas, I_isCounting), chW cI (aH 0) aT T_list] 0 [(0, .ref (aP 0)), (1, .ref (aI 0)), (2, .int x2), (3, .int x3), (4, .int x4)] []
    refine gq_iload_n C 2 1 dX4_letIn_0 rfl rfl ?_
    refine gq_if_ne C 11 4 dX4_letIn_1 (by decide) rfl (fun h1 => ?_) (fun h1 => ?_)
    · replace hf := gq_ifn h1 hf
      refine gq_aload_n C 1 12 dX4_letIn_11 rfl rfl ?_
      obtain ⟨rfl, rfl⟩ | ⟨aJ, aU, tJ, T_tl, rfl, rfl, hln⟩ := gq_len hln
      · cases hf
      obtain ⟨J_law, J_there, J_sleepers, J_empty, J_empties, J_yard, J_waiting, J_nights, J_used, J_sheets, J_lastOnes, J_guestsWithFleas, J_bedsWithFleas, J_isCounting⟩ := tJ
      refine gq_flat (ws' := [hC cI aH (H_beds, H_law, H_sights, H_isKept, H_worths, H_sightGuests, H_sightBeds), pC cI aP (P_most, P_size, P_bestOrder, P_trial), iC cI aI (aH 0) (some (aJ 0)) (I_law, I_there, I_sleepers, I_empty, I_empties, I_yard, I_waiting, I_nights, I_used, I_sheets, I_lastOnes, I_guestsWithFleas, I_bedsWithFleas, I_isCounting), iC cI aJ (aH 0) (nx aU) (J_law, J_there, J_sleepers, J_empty, J_empties, J_yard, J_waiting, J_nights, J_used, J_sheets, J_lastOnes, J_guestsWithFleas, J_bedsWithFleas, J_isCounting), chW cI (aH 0) aU T_tl]) rfl ?_
      refine gq_getN C fo_X3_1 fw_X4_39 2 0 15 rfl rfl rfl dX4_letIn_12 rfl ?_
      refine gq_astore C [(5, .ref (aJ 0)), (0, .ref (aP 0)), (1, .ref (aI 0)), (2, .int x2), (3, .int x3), (4, .int x4)] 17 dX4_letIn_15 (by decide) rfl rfl ?_
      refine gq_aload C 0 19 dX4_letIn_17 rfl rfl ?_
      refine gq_ifnull C 22 dX4_letIn_19 rfl ?_
      refine gq_iload_n C 4 23 dX4_letIn_22 rfl rfl ?_
      refine gq_if_lt C 32 26 dX4_letIn_23 (by decide) rfl (fun h23 => ?_) (fun h23 => ?_)
      · replace hf := gq_ifp h23 hf
        obtain rfl := gq_lf hf
        refine gq_flat (ws' := [hC cI aH (H_beds, H_law, H_sights, H_isKept, H_worths, H_sightGuests, H_sightBeds), pC cI aP (P_most, P_size, P_bestOrder, P_trial), iC cI aI (aH 0) (nx (aJ :: aU)) (I_law, I_there, I_sleepers, I_empty, I_empties, I_yard, I_waiting, I_nights, I_used, I_sheets, I_lastOnes, I_guestsWithFleas, I_bedsWithFleas, I_isCounting), chW cI (aH 0) (aJ :: aU) ((J_law, J_there, J_sleepers, J_empty, J_empties, J_yard, J_waiting, J_nights, J_used, J_sheets, J_lastOnes, J_guestsWithFleas, J_bedsWithFleas, J_isCounting) :: T_tl)]) rfl ?_
        exact hret dX4_letIn_32 gPost.rf
      · replace hf := gq_ifn h23 hf
        refine gq_iload_n C 4 27 dX4_letIn_26 rfl rfl ?_
        refine gq_bipush C (nI 6) 29 dX4_letIn_27 (by decide) rfl ?_
        refine gq_icmp_lt C 33 32 dX4_letIn_29 (by decide) rfl (fun h29 => ?_) (fun h29 => ?_)
        · replace hf := gq_ifp h29 hf
          refine gq_iconst C (nI 0) 34 dX4_letIn_33 (by decide) rfl ?_
          refine gq_istore C [(6, .int (nI 0)), (5, .ref (aJ 0)), (0, .ref (aP 0)), (1, .ref (aI 0)), (2, .int x2), (3, .int x3), (4, .int x4)] 36 dX4_letIn_34 (by decide) rfl rfl ?_
          have L36 : ∀ (kL : Int32 → Int32 → Int32 → (Nat → Int32) → (Nat → Int32) → Int32 → Int32 → (Nat → Int32) → (Nat → Int32) → Int32 → (Nat → Int32) → Int32 → (Nat → Int32) → (Nat → Int32) → (Nat → Int32) → (Nat → Int32) → Int32 → Int32 → Int32 → (List InnS) → Option (ParS × (List InnS))), (∀ (x6_L36 : Int32) (P_most_L36 : Int32) (P_size_L36 : Int32) (P_bestOrder_L36 : (Nat → Int32)) (P_trial_L36 : (Nat → Int32)) (J_law_L36 : Int32) (J_there_L36 : Int32) (J_sleepers_L36 : (Nat → Int32)) (J_empty_L36 : (Nat → Int32)) (J_empties_L36 : Int32) (J_yard_L36 : (Nat → Int32)) (J_waiting_L36 : Int32) (J_nights_L36 : (Nat → Int32)) (J_used_L36 : (Nat → Int32)) (J_sheets_L36 : (Nat → Int32)) (J_lastOnes_L36 : (Nat → Int32)) (J_guestsWithFleas_L36 : Int32) (J_bedsWithFleas_L36 : Int32) (J_isCounting_L36 : Int32) (T_list_L36 : (List InnS)) (hT36 : aU.length = T_list_L36.length), kL x6_L36 P_most_L36 P_size_L36 P_bestOrder_L36 P_trial_L36 J_law_L36 J_there_L36 J_sleepers_L36 J_empty_L36 J_empties_L36 J_yard_L36 J_waiting_L36 J_nights_L36 J_used_L36 J_sheets_L36 J_lastOnes_L36 J_guestsWithFleas_L36 J_bedsWithFleas_L36 J_isCounting_L36 T_list_L36 = some rr → G p l e R s m args below meth c 8 D A H0 0 0 Q [hC cI aH (H_beds, H_law, H_sights, H_isKept, H_worths, H_sightGuests, H_sightBeds), pC cI aP (P_most_L36, P_size_L36, P_bestOrder_L36, P_trial_L36), iC cI aI (aH 0) (some (aJ 0)) (I_law, I_there, I_sleepers, I_empty, I_empties, I_yard, I_waiting, I_nights, I_used, I_sheets, I_lastOnes, I_guestsWithFleas, I_bedsWithFleas, I_isCounting), iC cI aJ (aH 0) (nx aU) (J_law_L36, J_there_L36, J_sleepers_L36, J_empty_L36, J_empties_L36, J_yard_L36, J_waiting_L36, J_nights_L36, J_used_L36, J_sheets_L36, J_lastOnes_L36, J_guestsWithFleas_L36, J_bedsWithFleas_L36, J_isCounting_L36), chW cI (aH 0) aU T_list_L36] 120 [(6, .int x6_L36), (5, .ref (aJ 0)), (0, .ref (aP 0)), (1, .ref (aI 0)), (2, .int x2), (3, .int x3), (4, .int x4)] []) → ∀ (n : Nat) (x6_L36 : Int32) (P_most_L36 : Int32) (P_size_L36 : Int32) (P_bestOrder_L36 : (Nat → Int32)) (P_trial_L36 : (Nat → Int32)) (J_law_L36 : Int32) (J_there_L36 : Int32) (J_sleepers_L36 : (Nat → Int32)) (J_empty_L36 : (Nat → Int32)) (J_empties_L36 : Int32) (J_yard_L36 : (Nat → Int32)) (J_waiting_L36 : Int32) (J_nights_L36 : (Nat → Int32)) (J_used_L36 : (Nat → Int32)) (J_sheets_L36 : (Nat → Int32)) (J_lastOnes_L36 : (Nat → Int32)) (J_guestsWithFleas_L36 : Int32) (J_bedsWithFleas_L36 : Int32) (J_isCounting_L36 : Int32) (T_list_L36 : (List InnS)) (hT36 : aU.length = T_list_L36.length), f_X4_letIn_L36 (f_X4_letIn nR) x2 x3 x4 H_beds H_law H_sights H_isKept H_worths H_sightGuests H_sightBeds I_law I_there I_sleepers I_empty I_empties I_yard I_waiting I_nights I_used I_sheets I_lastOnes I_guestsWithFleas I_bedsWithFleas I_isCounting n x6_L36 P_most_L36 P_size_L36 P_bestOrder_L36 P_trial_L36 J_law_L36 J_there_L36 J_sleepers_L36 J_empty_L36 J_empties_L36 J_yard_L36 J_waiting_L36 J_nights_L36 J_used_L36 J_sheets_L36 J_lastOnes_L36 J_guestsWithFleas_L36 J_bedsWithFleas_L36 J_isCounting_L36 T_list_L36 kL = some rr → G p l e R s m args below meth c 8 D A H0 0 0 Q [hC cI aH (H_beds, H_law, H_sights, H_isKept, H_worths, H_sightGuests, H_sightBeds), pC cI aP (P_most_L36, P_size_L36, P_bestOrder_L36, P_trial_L36), iC cI aI (aH 0) (some (aJ 0)) (I_law, I_there, I_sleepers, I_empty, I_empties, I_yard, I_waiting, I_nights, I_used, I_sheets, I_lastOnes, I_guestsWithFleas, I_bedsWithFleas, I_isCounting), iC cI aJ (aH 0) (nx aU) (J_law_L36, J_there_L36, J_sleepers_L36, J_empty_L36, J_empties_L36, J_yard_L36, J_waiting_L36, J_nights_L36, J_used_L36, J_sheets_L36, J_lastOnes_L36, J_guestsWithFleas_L36, J_bedsWithFleas_L36, J_isCounting_L36), chW cI (aH 0) aU T_list_L36] 36 [(6, .int x6_L36), (5, .ref (aJ 0)), (0, .ref (aP 0)), (1, .ref (aI 0)), (2, .int x2), (3, .int x3), (4, .int x4)] [] := by
            intro kL hkL36 n
            induction n with
            | zero =>
              intro x6_L36 P_most_L36 P_size_L36 P_bestOrder_L36 P_trial_L36 J_law_L36 J_there_L36 J_sleepers_L36 J_empty_L36 J_empties_L36 J_yard_L36 J_waiting_L36 J_nights_L36 J_used_L36 J_sheets_L36 J_lastOnes_L36 J_guestsWithFleas_L36 J_bedsWithFleas_L36 J_isCounting_L36 T_list_L36 hT36 hf
              rw [f_X4_letIn_L36] at hf
              cases hf
            | succ n ihL36 =>
              intro x6_L36 P_most_L36 P_size_L36 P_bestOrder_L36 P_trial_L36 J_law_L36 J_there_L36 J_sleepers_L36 J_empty_L36 J_empties_L36 J_yard_L36 J_waiting_L36 J_nights_L36 J_used_L36 J_sheets_L36 J_lastOnes_L36 J_guestsWithFleas_L36 J_bedsWithFleas_L36 J_isCounting_L36 T_list_L36 hT36 hf
              rw [f_X4_letIn_L36] at hf
              refine gq_iload C 0 38 dX4_letIn_36 rfl rfl ?_
              refine gq_bipush C (nI 8) 40 dX4_letIn_38 (by decide) rfl ?_
              refine gq_icmp_ge C 120 43 dX4_letIn_40 (by decide) rfl (fun h40 => ?_) (fun h40 => ?_)
              · replace hf := gq_ifp h40 hf
                exact hkL36 _ _ _ _ _ _ _ _ _ _ _ _ _ _ _ _ _ _ _ _ (by omega) hf
              · replace hf := gq_ifn h40 hf
                refine gq_iload_n C 4 44 dX4_letIn_43 rfl rfl ?_
                refine gq_iconst C (nI 1) 45 dX4_letIn_44 (by decide) rfl ?_
                refine gq_iload C 0 47 dX4_letIn_45 rfl rfl ?_
                refine gq_ishl C 48 dX4_letIn_47 rfl ?_
                refine gq_iand C 49 dX4_letIn_48 rfl ?_
                refine gq_if_eq C 114 52 dX4_letIn_49 (by decide) rfl (fun h49 => ?_) (fun h49 => ?_)
                · replace hf := gq_ifp h49 hf
                  refine gq_iinc C 0 [(6, .int (x6_L36 + (nI 1))), (5, .ref (aJ 0)), (0, .ref (aP 0)), (1, .ref (aI 0)), (2, .int x2), (3, .int x3), (4, .int x4)] 117 dX4_letIn_114 rfl rfl (by decide) rfl rfl ?_
                  refine gq_goto C 36 dX4_letIn_117 (by decide) ?_
                  exact ihL36 _ _ _ _ _ _ _ _ _ _ _ _ _ _ _ _ _ _ _ _ (by omega) hf
                · replace hf := gq_ifn h49 hf
                  refine gq_aload C 1 54 dX4_letIn_52 rfl rfl ?_
                  refine gq_aload_n C 3 55 dX4_letIn_54 rfl rfl ?_
                  obtain ⟨⟨J_law_55, J_there_55, J_sleepers_55, J_empty_55, J_empties_55, J_yard_55, J_waiting_55, J_nights_55, J_used_55, J_sheets_55, J_lastOnes_55, J_guestsWithFleas_55, J_bedsWithFleas_55, J_isCounting_55⟩, hc, hf⟩ := gq_bd hf
                  refine gq_callN C hA gm_X4_45 (c_X3_standAs l D cI cZ aJ (aH 0) (nx aU) aI (aH 0) (some (aJ 0)) (J_law_L36, J_there_L36, J_sleepers_L36, J_empty_L36, J_empties_L36, J_yard_L36, J_waiting_L36, J_nights_L36, J_used_L36, J_sheets_L36, J_lastOnes_L36, J_guestsWithFleas_L36, J_bedsWithFleas_L36, J_isCounting_L36) (I_law, I_there, I_sleepers, I_empty, I_empties, I_yard, I_waiting, I_nights, I_used, I_sheets, I_lastOnes, I_guestsWithFleas, I_bedsWithFleas, I_isCounting) _ hc) rfl 3 0 rfl rfl rfl ⟨Nat.le_trans (by omega) hR.1, Nat.le_trans (by omega) hR.2.1⟩ ⟨Nat.zero_le _, Nat.zero_le _⟩ rfl (Nat.le_of_ble_eq_true rfl) dX4_letIn_55 [3, 2] [hC cI aH (H_beds, H_law, H_sights, H_isKept, H_worths, H_sightGuests, H_sightBeds), pC cI aP (P_most_L36, P_size_L36, P_bestOrder_L36, P_trial_L36), iC cI aI (aH 0) (some (aJ 0)) (I_law, I_there, I_sleepers, I_empty, I_empties, I_yard, I_waiting, I_nights, I_used, I_sheets, I_lastOnes, I_guestsWithFleas, I_bedsWithFleas, I_isCounting), iC cI aJ (aH 0) (nx aU) (J_law_55, J_there_55, J_sleepers_55, J_empty_55, J_empties_55, J_yard_55, J_waiting_55, J_nights_55, J_used_55, J_sheets_55, J_lastOnes_55, J_guestsWithFleas_55, J_bedsWithFleas_55, J_isCounting_55), chW cI (aH 0) aU T_list_L36] 58 rfl (by decide) rfl rfl rfl [] rfl ?_
                  refine gq_aload C 1 60 dX4_letIn_58 rfl rfl ?_
                  refine gq_iload C 0 62 dX4_letIn_60 rfl rfl ?_
                  obtain ⟨⟨J_law_62, J_there_62, J_sleepers_62, J_empty_62, J_empties_62, J_yard_62, J_waiting_62, J_nights_62, J_used_62, J_sheets_62, J_lastOnes_62, J_guestsWithFleas_62, J_bedsWithFleas_62, J_isCounting_62⟩, hc, hf⟩ := gq_bd hf
                  refine gq_callN C hA gm_X4_49 (c_X3_takeIn l D cI cZ aH aJ (nx aU) x6_L36 (H_beds, H_law, H_sights, H_isKept, H_worths, H_sightGuests, H_sightBeds) (J_law_55, J_there_55, J_sleepers_55, J_empty_55, J_empties_55, J_yard_55, J_waiting_55, J_nights_55, J_used_55, J_sheets_55, J_lastOnes_55, J_guestsWithFleas_55, J_bedsWithFleas_55, J_isCounting_55) _ hc) rfl 3 0 rfl rfl rfl ⟨Nat.le_trans (by omega) hR.1, Nat.le_trans (by omega) hR.2.1⟩ ⟨Nat.zero_le _, Nat.zero_le _⟩ rfl (Nat.le_of_ble_eq_true rfl) dX4_letIn_62 [0, 3] [hC cI aH (H_beds, H_law, H_sights, H_isKept, H_worths, H_sightGuests, H_sightBeds), pC cI aP (P_most_L36, P_size_L36, P_bestOrder_L36, P_trial_L36), iC cI aI (aH 0) (some (aJ 0)) (I_law, I_there, I_sleepers, I_empty, I_empties, I_yard, I_waiting, I_nights, I_used, I_sheets, I_lastOnes, I_guestsWithFleas, I_bedsWithFleas, I_isCounting), iC cI aJ (aH 0) (nx aU) (J_law_62, J_there_62, J_sleepers_62, J_empty_62, J_empties_62, J_yard_62, J_waiting_62, J_nights_62, J_used_62, J_sheets_62, J_lastOnes_62, J_guestsWithFleas_62, J_bedsWithFleas_62, J_isCounting_62), chW cI (aH 0) aU T_list_L36] 65 rfl (by decide) rfl rfl rfl [] rfl ?_
                  refine gq_aload_n C 2 66 dX4_letIn_65 rfl rfl ?_
                  refine gq_get C fo_X4_3 fw_X4_15 1 0 69 rfl rfl rfl dX4_letIn_66 rfl ?_
                  refine gq_iload_n C 5 70 dX4_letIn_69 rfl rfl ?_
                  refine gq_iload C 0 72 dX4_letIn_70 rfl rfl ?_
                  obtain ⟨h72, hf⟩ := gq_ok hf
                  refine gq_iast C 1 2 73 [hC cI aH (H_beds, H_law, H_sights, H_isKept, H_worths, H_sightGuests, H_sightBeds), pC cI aP (P_most_L36, P_size_L36, P_bestOrder_L36, (upd P_trial_L36 x3.toNatClampNeg x6_L36)), iC cI aI (aH 0) (some (aJ 0)) (I_law, I_there, I_sleepers, I_empty, I_empties, I_yard, I_waiting, I_nights, I_used, I_sheets, I_lastOnes, I_guestsWithFleas, I_bedsWithFleas, I_isCounting), iC cI aJ (aH 0) (nx aU) (J_law_62, J_there_62, J_sleepers_62, J_empty_62, J_empties_62, J_yard_62, J_waiting_62, J_nights_62, J_used_62, J_sheets_62, J_lastOnes_62, J_guestsWithFleas_62, J_bedsWithFleas_62, J_isCounting_62), chW cI (aH 0) aU T_list_L36] rfl rfl h72 rfl dX4_letIn_72 rfl ?_
                  refine gq_aload C 1 75 dX4_letIn_73 rfl rfl ?_
                  refine gq_getN C fo_X3_0 fw_X4_52 3 0 78 rfl rfl rfl dX4_letIn_75 rfl ?_
                  refine gq_iload C 0 80 dX4_letIn_78 rfl rfl ?_
                  refine gq_aload C 1 82 dX4_letIn_80 rfl rfl ?_
                  refine gq_iload C 0 84 dX4_letIn_82 rfl rfl ?_
                  obtain ⟨r_84, hc, hf⟩ := gq_bd hf
                  refine gq_callN C hA gm_X4_56 (c_X3_bedOf l D cI cZ aJ (aH 0) (nx aU) x6_L36 (J_law_62, J_there_62, J_sleepers_62, J_empty_62, J_empties_62, J_yard_62, J_waiting_62, J_nights_62, J_used_62, J_sheets_62, J_lastOnes_62, J_guestsWithFleas_62, J_bedsWithFleas_62, J_isCounting_62) _ hc) rfl 3 0 rfl rfl rfl ⟨Nat.le_trans (by omega) hR.1, Nat.le_trans (by omega) hR.2.1⟩ ⟨Nat.zero_le _, Nat.zero_le _⟩ rfl (Nat.le_of_ble_eq_true rfl) dX4_letIn_84 [3] [hC cI aH (H_beds, H_law, H_sights, H_isKept, H_worths, H_sightGuests, H_sightBeds), pC cI aP (P_most_L36, P_size_L36, P_bestOrder_L36, (upd P_trial_L36 x3.toNatClampNeg x6_L36)), iC cI aI (aH 0) (some (aJ 0)) (I_law, I_there, I_sleepers, I_empty, I_empties, I_yard, I_waiting, I_nights, I_used, I_sheets, I_lastOnes, I_guestsWithFleas, I_bedsWithFleas, I_isCounting), iC cI aJ (aH 0) (nx aU) (J_law_62, J_there_62, J_sleepers_62, J_empty_62, J_empties_62, J_yard_62, J_waiting_62, J_nights_62, J_used_62, J_sheets_62, J_lastOnes_62, J_guestsWithFleas_62, J_bedsWithFleas_62, J_isCounting_62), chW cI (aH 0) aU T_list_L36] 87 rfl (by decide) rfl rfl rfl [.int r_84, .int x6_L36, .ref (aH 0)] rfl ?_
                  obtain ⟨r_87, hc, hf⟩ := gq_bd hf
                  refine gq_callN C hA gm_X4_59 (c_X2_worthOf l D cI cZ aH x6_L36 r_84 (H_beds, H_law, H_sights, H_isKept, H_worths, H_sightGuests, H_sightBeds) _ hc) rfl 0 0 rfl rfl rfl ⟨Nat.le_trans (by omega) hR.1, Nat.le_trans (by omega) hR.2.1⟩ ⟨Nat.zero_le _, Nat.zero_le _⟩ rfl (Nat.le_of_ble_eq_true rfl) dX4_letIn_87 [0] [hC cI aH (H_beds, H_law, H_sights, H_isKept, H_worths, H_sightGuests, H_sightBeds), pC cI aP (P_most_L36, P_size_L36, P_bestOrder_L36, (upd P_trial_L36 x3.toNatClampNeg x6_L36)), iC cI aI (aH 0) (some (aJ 0)) (I_law, I_there, I_sleepers, I_empty, I_empties, I_yard, I_waiting, I_nights, I_used, I_sheets, I_lastOnes, I_guestsWithFleas, I_bedsWithFleas, I_isCounting), iC cI aJ (aH 0) (nx aU) (J_law_62, J_there_62, J_sleepers_62, J_empty_62, J_empties_62, J_yard_62, J_waiting_62, J_nights_62, J_used_62, J_sheets_62, J_lastOnes_62, J_guestsWithFleas_62, J_bedsWithFleas_62, J_isCounting_62), chW cI (aH 0) aU T_list_L36] 90 rfl (by decide) rfl rfl rfl [.int r_87] rfl ?_
                  refine gq_istore C [(7, .int r_87), (6, .int x6_L36), (5, .ref (aJ 0)), (0, .ref (aP 0)), (1, .ref (aI 0)), (2, .int x2), (3, .int x3), (4, .int x4)] 92 dX4_letIn_90 (by decide) rfl rfl ?_
                  refine gq_aload_n C 3 93 dX4_letIn_92 rfl rfl ?_
                  refine gq_aload C 2 95 dX4_letIn_93 rfl rfl ?_
                  refine gq_iload_n C 5 96 dX4_letIn_95 rfl rfl ?_
                  refine gq_iconst C (nI 1) 97 dX4_letIn_96 (by decide) rfl ?_
                  refine gq_iload C 1 99 dX4_letIn_97 rfl rfl ?_
                  refine gq_ishl C 100 dX4_letIn_99 rfl ?_
                  refine gq_iconst C (-1 : Int32) 101 dX4_letIn_100 (by decide) rfl ?_
                  refine gq_ixor C 102 dX4_letIn_101 rfl ?_
                  refine gq_iand C 103 dX4_letIn_102 rfl ?_
                  refine gq_iload_n C 6 104 dX4_letIn_103 rfl rfl ?_
                  refine gq_iconst C (nI 1) 105 dX4_letIn_104 (by decide) rfl ?_
                  refine gq_iadd C 106 dX4_letIn_105 rfl ?_
                  refine gq_iload C 7 108 dX4_letIn_106 rfl rfl ?_
                  refine gq_iload C 0 110 dX4_letIn_108 rfl rfl ?_
                  refine gq_iadd C 111 dX4_letIn_110 rfl ?_
                  obtain ⟨⟨⟨P_most_111, P_size_111, P_bestOrder_111, P_trial_111⟩, T_list_111⟩, hc, hf⟩ := gq_bd hf
                  obtain ⟨hg111, hf⟩ := gq_gd hf
                  refine gq_callS C hA gm_X4_31 (ih aH aP aJ aU (x2 &&& (((nI 1) <<< (x6_L36 &&& 31)) ^^^ (-1 : Int32))) (x3 + (nI 1)) (x4 + r_87) (H_beds, H_law, H_sights, H_isKept, H_worths, H_sightGuests, H_sightBeds) (P_most_L36, P_size_L36, P_bestOrder_L36, (upd P_trial_L36 x3.toNatClampNeg x6_L36)) (J_law_62, J_there_62, J_sleepers_62, J_empty_62, J_empties_62, J_yard_62, J_waiting_62, J_nights_62, J_used_62, J_sheets_62, J_lastOnes_62, J_guestsWithFleas_62, J_bedsWithFleas_62, J_isCounting_62) T_list_L36 _ (by omega) hc) rfl ⟨Nat.le_trans (by omega) hR.1, Nat.le_trans (by omega) hR.2.1⟩ ⟨Nat.zero_le _, Nat.zero_le _⟩ rfl (Nat.le_of_ble_eq_true rfl) dX4_letIn_111 [0, 1, 3, 4] [hC cI aH (H_beds, H_law, H_sights, H_isKept, H_worths, H_sightGuests, H_sightBeds), pC cI aP (P_most_111, P_size_111, P_bestOrder_111, P_trial_111), iC cI aI (aH 0) (some (aJ 0)) (I_law, I_there, I_sleepers, I_empty, I_empties, I_yard, I_waiting, I_nights, I_used, I_sheets, I_lastOnes, I_guestsWithFleas, I_bedsWithFleas, I_isCounting), iC cI aJ (aH 0) (nx aU) (J_law_62, J_there_62, J_sleepers_62, J_empty_62, J_empties_62, J_yard_62, J_waiting_62, J_nights_62, J_used_62, J_sheets_62, J_lastOnes_62, J_guestsWithFleas_62, J_bedsWithFleas_62, J_isCounting_62), chW cI (aH 0) aU T_list_111] 114 rfl (by decide) (by simp only [List.map_cons, List.map_nil, chW_fst (T1 := T_list_111) (T2 := T_list_L36) hg111] <;> rfl) rfl rfl [] rfl ?_
                  refine gq_iinc C 1 [(6, .int (x6_L36 + (nI 1))), (7, .int r_87), (5, .ref (aJ 0)), (0, .ref (aP 0)), (1, .ref (aI 0)), (2, .int x2), (3, .int x3), (4, .int x4)] 117 dX4_letIn_114 rfl rfl (by decide) rfl rfl ?_
                  refine gq_goto C 36 dX4_letIn_117 (by decide) ?_
                  refine gq_lv [0, 2, 3, 4, 5, 6, 7] rfl ?_
                  exact ihL36 _ _ _ _ _ _ _ _ _ _ _ _ _ _ _ _ _ _ _ _ (by omega) hf
          refine L36 _ (fun x6_L36 P_most_L36 P_size_L36 P_bestOrder_L36 P_trial_L36 J_law_L36 J_there_L36 J_sleepers_L36 J_empty_L36 J_empties_L36 J_yard_L36 J_waiting_L36 J_nights_L36 J_used_L36 J_sheets_L36 J_lastOnes_L36 J_guestsWithFleas_L36 J_bedsWithFleas_L36 J_isCounting_L36 T_list_L36 hT36 hf => ?_) _ _ _ _ _ _ _ _ _ _ _ _ _ _ _ _ _ _ _ _ _ (by omega) hf
          obtain rfl := gq_lf hf
          refine gq_flat (ws' := [hC cI aH (H_beds, H_law, H_sights, H_isKept, H_worths, H_sightGuests, H_sightBeds), pC cI aP (P_most_L36, P_size_L36, P_bestOrder_L36, P_trial_L36), iC cI aI (aH 0) (nx (aJ :: aU)) (I_law, I_there, I_sleepers, I_empty, I_empties, I_yard, I_waiting, I_nights, I_used, I_sheets, I_lastOnes, I_guestsWithFleas, I_bedsWithFleas, I_isCounting), chW cI (aH 0) (aJ :: aU) ((J_law_L36, J_there_L36, J_sleepers_L36, J_empty_L36, J_empties_L36, J_yard_L36, J_waiting_L36, J_nights_L36, J_used_L36, J_sheets_L36, J_lastOnes_L36, J_guestsWithFleas_L36, J_bedsWithFleas_L36, J_isCounting_L36) :: T_list_L36)]) rfl ?_
          exact hret dX4_letIn_120 gPost.rf
        · replace hf := gq_ifn h29 hf
          obtain rfl := gq_lf hf
          refine gq_flat (ws' := [hC cI aH (H_beds, H_law, H_sights, H_isKept, H_worths, H_sightGuests, H_sightBeds), pC cI aP (P_most, P_size, P_bestOrder, P_trial), iC cI aI (aH 0) (nx (aJ :: aU)) (I_law, I_there, I_sleepers, I_empty, I_empties, I_yard, I_waiting, I_nights, I_used, I_sheets, I_lastOnes, I_guestsWithFleas, I_bedsWithFleas, I_isCounting), chW cI (aH 0) (aJ :: aU) ((J_law, J_there, J_sleepers, J_empty, J_empties, J_yard, J_waiting, J_nights, J_used, J_sheets, J_lastOnes, J_guestsWithFleas, J_bedsWithFleas, J_isCounting) :: T_tl)]) rfl ?_
          exact hret dX4_letIn_32 gPost.rf
    · replace hf := gq_ifp h1 hf
      refine gq_aload_n C 0 5 dX4_letIn_4 rfl rfl ?_
      refine gq_iload C 4 7 dX4_letIn_5 rfl rfl ?_
      obtain ⟨⟨P_most_7, P_size_7, P_bestOrder_7, P_trial_7⟩, hc, hf⟩ := gq_bd hf
      refine gq_callV C hA gm_X4_35 (c_X4_keepIfBetter l D cI cZ aP x4 (P_most, P_size, P_bestOrder, P_trial) _ hc) rfl 1 0 rfl rfl rfl ⟨Nat.le_trans (by omega) hR.1, Nat.le_trans (by omega) hR.2.1⟩ ⟨Nat.zero_le _, Nat.zero_le _⟩ rfl (Nat.le_of_ble_eq_true rfl) dX4_letIn_7 [1] [hC cI aH (H_beds, H_law, H_sights, H_isKept, H_worths, H_sightGuests, H_sightBeds), pC cI aP (P_most_7, P_size_7, P_bestOrder_7, P_trial_7), iC cI aI (aH 0) (nx aT) (I_law, I_there, I_sleepers, I_empty, I_empties, I_yard, I_waiting, I_nights, I_used, I_sheets, I_lastOnes, I_guestsWithFleas, I_bedsWithFleas, I_isCounting), chW cI (aH 0) aT T_list] 10 rfl (by decide) rfl rfl rfl [] rfl ?_
      obtain rfl := gq_lf hf
      exact hret dX4_letIn_10 gPost.rf

def f_X4_order : Int32 → HouS → ParS → InnS → (List InnS) → Option (ParS × (List InnS))
  | x2, (H_beds, H_law, H_sights, H_isKept, H_worths, H_sightGuests, H_sightBeds), (P_most, P_size, P_bestOrder, P_trial), (I_law, I_there, I_sleepers, I_empty, I_empties, I_yard, I_waiting, I_nights, I_used, I_sheets, I_lastOnes, I_guestsWithFleas, I_bedsWithFleas, I_isCounting), T_list => (Option.bind (f_J6_bitCount_0f7a4 x2) (fun r_7 => (Option.bind (f_X4_letIn 10 x2 (nI 0) (nI 0) (H_beds, H_law, H_sights, H_isKept, H_worths, H_sightGuests, H_sightBeds) ((-1 : Int32), r_7, P_bestOrder, P_trial) (I_law, I_there, I_sleepers, I_empty, I_empties, I_yard, I_waiting, I_nights, I_used, I_sheets, I_lastOnes, I_guestsWithFleas, I_bedsWithFleas, I_isCounting) T_list) (fun ((P_most_18, P_size_18, P_bestOrder_18, P_trial_18), T_list_18) => (if T_list_18.length = T_list.length then some ((P_most_18, P_size_18, P_bestOrder_18, P_trial_18), T_list_18) else none)))))
set_option maxHeartbeats 4000000 in
set_option maxRecDepth 100000 in
theorem c_X4_order (l : Launch) (D : va_G) (cI cZ : ClassId) (aH : Nat → Nat) (aP : Nat → Nat) (aI : Nat → Nat) (aT : List (Nat → Nat)) (x2 : Int32) (tH : HouS) (tP : ParS) (tI : InnS) (tT : (List InnS)) (rr : ParS × (List InnS)) (hln : aT.length = tT.length) (hf : f_X4_order x2 tH tP tI tT = some rr) : CT l D cI cZ yX4_order cX4_order 3 none 41 827 0 0 [.ref (aP 0), .ref (aI 0), .int x2] ([hC cI aH tH, pC cI aP tP, iC cI aI (aH 0) (nx aT) tI, chW cI (aH 0) aT tT]) (gPost none ([hC cI aH tH, pC cI aP rr.1, iC cI aI (aH 0) (nx aT) tI, chW cI (aH 0) aT rr.2])) := by
  obtain ⟨H_beds, H_law, H_sights, H_isKept, H_worths, H_sightGuests, H_sightBeds⟩ := tH
  obtain ⟨P_most, P_size, P_bestOrder, P_trial⟩ := tP
  obtain ⟨I_law, I_there, I_sleepers, I_empty, I_empties, I_yard, I_waiting, I_nights, I_used, I_sheets, I_lastOnes, I_guestsWithFleas, I_bedsWithFleas, I_isCounting⟩ := tI
  obtain ⟨T_list, rfl⟩ : ∃ z, z = tT := ⟨_, rfl⟩
  rw [f_X4_order] at hf
  refine CT.mkV (by decide) (Nat.le_of_ble_eq_true rfl) fun {p} {e} {R} {s} {m} {args} {below} {meth} {c} {A} {H0} {Q} C hA hR hnm hret => ?_
  show G p l e R s m args below meth c 3 D A H0 0 0 Q [hC cI aH (H_beds, H_law, H_sights, H_isKept, H_worths, H_sightGuests, H_sightBeds), pC cI aP (P_most, P_size, P_bestOrder, P_trial), iC cI aI (aH 0) (nx aT) (I_law, I_there, I_sleepers, I_empty, I_empties, I_yard, I_waiting, I_nights, I_used, I_sheets, I_lastOnes, I_guestsWithFleas, I_bedsWithFleas, I_isCounting), chW cI (aH 0) aT T_list] 0 [(0, .ref (aP 0)), (1, .ref (aI 0)), (2, .int x2)] []
  refine gq_aload_n C 0 1 dX4_order_0 rfl rfl ?_
  refine gq_iconst C (-1 : Int32) 2 dX4_order_1 (by decide) rfl ?_
  refine gq_put C fo_X4_0 fp_X4_0 rfl fw_X4_18 1 0 5 [hC cI aH (H_beds, H_law, H_sights, H_isKept, H_worths, H_sightGuests, H_sightBeds), pC cI aP ((-1 : Int32), P_size, P_bestOrder, P_trial), iC cI aI (aH 0) (nx aT) (I_law, I_there, I_sleepers, I_empty, I_empties, I_yard, I_waiting, I_nights, I_used, I_sheets, I_lastOnes, I_guestsWithFleas, I_bedsWithFleas, I_isCounting), chW cI (aH 0) aT T_list] rfl rfl rfl rfl (Nat.le_of_ble_eq_true rfl) rfl dX4_order_2 rfl ?_
  refine gq_aload_n C 0 6 dX4_order_5 rfl rfl ?_
  refine gq_iload_n C 2 7 dX4_order_6 rfl rfl ?_
  obtain ⟨r_7, hc, hf⟩ := gq_bd hf
  refine gq_callS C hA gm_X4_22 (c_J6_bitCount_0f7a4 l D cI cZ  x2 _ hc) rfl ⟨Nat.le_trans (Nat.le_of_ble_eq_true rfl) hR.1, Nat.le_trans (Nat.le_of_ble_eq_true rfl) hR.2.1⟩ ⟨Nat.zero_le _, Nat.zero_le _⟩ rfl (Nat.le_of_ble_eq_true rfl) dX4_order_7 [] [hC cI aH (H_beds, H_law, H_sights, H_isKept, H_worths, H_sightGuests, H_sightBeds), pC cI aP ((-1 : Int32), P_size, P_bestOrder, P_trial), iC cI aI (aH 0) (nx aT) (I_law, I_there, I_sleepers, I_empty, I_empties, I_yard, I_waiting, I_nights, I_used, I_sheets, I_lastOnes, I_guestsWithFleas, I_bedsWithFleas, I_isCounting), chW cI (aH 0) aT T_list] 10 rfl (by decide) rfl rfl rfl [.int r_7, .ref (aP 0)] rfl ?_
  refine gq_put C fo_X4_1 fp_X4_1 rfl fw_X4_28 1 0 13 [hC cI aH (H_beds, H_law, H_sights, H_isKept, H_worths, H_sightGuests, H_sightBeds), pC cI aP ((-1 : Int32), r_7, P_bestOrder, P_trial), iC cI aI (aH 0) (nx aT) (I_law, I_there, I_sleepers, I_empty, I_empties, I_yard, I_waiting, I_nights, I_used, I_sheets, I_lastOnes, I_guestsWithFleas, I_bedsWithFleas, I_isCounting), chW cI (aH 0) aT T_list] rfl rfl rfl rfl (Nat.le_of_ble_eq_true rfl) rfl dX4_order_10 rfl ?_
  refine gq_aload_n C 0 14 dX4_order_13 rfl rfl ?_
  refine gq_aload_n C 1 15 dX4_order_14 rfl rfl ?_
  refine gq_iload_n C 2 16 dX4_order_15 rfl rfl ?_
  refine gq_iconst C (nI 0) 17 dX4_order_16 (by decide) rfl ?_
  refine gq_iconst C (nI 0) 18 dX4_order_17 (by decide) rfl ?_
  obtain ⟨⟨⟨P_most_18, P_size_18, P_bestOrder_18, P_trial_18⟩, T_list_18⟩, hc, hf⟩ := gq_bd hf
  obtain ⟨hg18, hf⟩ := gq_gd hf
  refine gq_callS C hA gm_X4_31 (c_X4_letIn l D cI cZ 10 aH aP aI aT x2 (nI 0) (nI 0) (H_beds, H_law, H_sights, H_isKept, H_worths, H_sightGuests, H_sightBeds) ((-1 : Int32), r_7, P_bestOrder, P_trial) (I_law, I_there, I_sleepers, I_empty, I_empties, I_yard, I_waiting, I_nights, I_used, I_sheets, I_lastOnes, I_guestsWithFleas, I_bedsWithFleas, I_isCounting) T_list _ (by omega) hc) rfl ⟨Nat.le_trans (Nat.le_of_ble_eq_true rfl) hR.1, Nat.le_trans (Nat.le_of_ble_eq_true rfl) hR.2.1⟩ ⟨Nat.zero_le _, Nat.zero_le _⟩ rfl (Nat.le_of_ble_eq_true rfl) dX4_order_18 [0, 1, 2, 3] [hC cI aH (H_beds, H_law, H_sights, H_isKept, H_worths, H_sightGuests, H_sightBeds), pC cI aP (P_most_18, P_size_18, P_bestOrder_18, P_trial_18), iC cI aI (aH 0) (nx aT) (I_law, I_there, I_sleepers, I_empty, I_empties, I_yard, I_waiting, I_nights, I_used, I_sheets, I_lastOnes, I_guestsWithFleas, I_bedsWithFleas, I_isCounting), chW cI (aH 0) aT T_list_18] 21 rfl (by decide) (by simp only [List.map_cons, List.map_nil, chW_fst (T1 := T_list_18) (T2 := T_list) hg18] <;> rfl) rfl rfl [] rfl ?_
  obtain rfl := gq_lf hf
  exact hret dX4_order_21 gPost.rf

def f_X1_isUntold : Int32 → GueS → Option (Int32)
  | x1, (Q_ways, Q_untold, Q_trial, Q_first, Q_suspects) => (if x1 < 0 then some (nI 0) else (if Q_untold ≤ x1 then some (nI 0) else (if (nI 3) ≤ x1 then some (nI 0) else some (nI 1))))
set_option maxHeartbeats 4000000 in
set_option maxRecDepth 100000 in
theorem c_X1_isUntold (l : Launch) (D : va_G) (cI cZ : ClassId) (aQ : Nat → Nat) (x1 : Int32) (tQ : GueS) (rr : Int32) (hf : f_X1_isUntold x1 tQ = some rr) : CT l D cI cZ yX1_isUntold cX1_isUntold 2 (some .boolean) 0 0 0 0 [.ref (aQ 0), .int x1] ([qC cI aQ tQ]) (gPost (some (.int rr)) ([qC cI aQ tQ])) := by
  obtain ⟨Q_ways, Q_untold, Q_trial, Q_first, Q_suspects⟩ := tQ
  rw [f_X1_isUntold] at hf
  refine CT.mkZ (by decide) (Nat.le_of_ble_eq_true rfl) fun {p} {e} {R} {s} {m} {args} {below} {meth} {c} {A} {H0} {Q} C hA hR hret => ?_
  show G p l e R s m args below meth c 2 D A H0 0 0 Q [qC cI aQ (Q_ways, Q_untold, Q_trial, Q_first, Q_suspects)] 0 [(0, .ref (aQ 0)), (1, .int x1)] []
  refine gq_iload_n C 1 1 dX1_isUntold_0 rfl rfl ?_
  refine gq_if_lt C 21 4 dX1_isUntold_1 (by decide) rfl (fun h1 => ?_) (fun h1 => ?_)
  · replace hf := gq_ifp h1 hf
    refine gq_iconst C (nI 0) 22 dX1_isUntold_21 (by decide) rfl ?_
    obtain rfl := gq_lf hf
    exact hret dX1_isUntold_22 rfl gPost.rf
  · replace hf := gq_ifn h1 hf
    refine gq_iload_n C 1 5 dX1_isUntold_4 rfl rfl ?_
    refine gq_aload_n C 0 6 dX1_isUntold_5 rfl rfl ?_
    refine gq_get C fo_X1_1 fw_X1_25 0 0 9 rfl rfl rfl dX1_isUntold_6 rfl ?_
    refine gq_icmp_ge C 21 12 dX1_isUntold_9 (by decide) rfl (fun h9 => ?_) (fun h9 => ?_)
    · replace hf := gq_ifp h9 hf
      refine gq_iconst C (nI 0) 22 dX1_isUntold_21 (by decide) rfl ?_
      obtain rfl := gq_lf hf
      exact hret dX1_isUntold_22 rfl gPost.rf
    · replace hf := gq_ifn h9 hf
      refine gq_iload_n C 1 13 dX1_isUntold_12 rfl rfl ?_
      refine gq_iconst C (nI 3) 14 dX1_isUntold_13 (by decide) rfl ?_
      refine gq_icmp_ge C 21 17 dX1_isUntold_14 (by decide) rfl (fun h14 => ?_) (fun h14 => ?_)
      · replace hf := gq_ifp h14 hf
        refine gq_iconst C (nI 0) 22 dX1_isUntold_21 (by decide) rfl ?_
        obtain rfl := gq_lf hf
        exact hret dX1_isUntold_22 rfl gPost.rf
      · replace hf := gq_ifn h14 hf
        refine gq_iconst C (nI 1) 18 dX1_isUntold_17 (by decide) rfl ?_
        refine gq_goto C 22 dX1_isUntold_18 (by decide) ?_
        obtain rfl := gq_lf hf
        exact hret dX1_isUntold_22 rfl gPost.rf

def f_X1_firstAt : Int32 → GueS → Option (Int32)
  | x1, (Q_ways, Q_untold, Q_trial, Q_first, Q_suspects) => (Option.bind (f_X1_isUntold x1 (Q_ways, Q_untold, Q_trial, Q_first, Q_suspects)) (fun r_2 => (if r_2 = 0 then some (-6 : Int32) else (if Q_ways ≤ 0 then some (-6 : Int32) else (if x1 < 0 ∨ 3 ≤ x1.toNatClampNeg then none else some (Q_first x1.toNatClampNeg))))))
set_option maxHeartbeats 4000000 in
set_option maxRecDepth 100000 in
theorem c_X1_firstAt (l : Launch) (D : va_G) (cI cZ : ClassId) (aQ : Nat → Nat) (x1 : Int32) (tQ : GueS) (rr : Int32) (hf : f_X1_firstAt x1 tQ = some rr) : CT l D cI cZ yX1_firstAt cX1_firstAt 2 (some .int) 1 21 0 0 [.ref (aQ 0), .int x1] ([qC cI aQ tQ]) (gPost (some (.int rr)) ([qC cI aQ tQ])) := by
  obtain ⟨Q_ways, Q_untold, Q_trial, Q_first, Q_suspects⟩ := tQ
  rw [f_X1_firstAt] at hf
  refine CT.mkI (by decide) (Nat.le_of_ble_eq_true rfl) fun {p} {e} {R} {s} {m} {args} {below} {meth} {c} {A} {H0} {Q} C hA hR hret => ?_
  show G p l e R s m args below meth c 2 D A H0 0 0 Q [qC cI aQ (Q_ways, Q_untold, Q_trial, Q_first, Q_suspects)] 0 [(0, .ref (aQ 0)), (1, .int x1)] []
  refine gq_aload_n C 0 1 dX1_firstAt_0 rfl rfl ?_
  refine gq_iload_n C 1 2 dX1_firstAt_1 rfl rfl ?_
  obtain ⟨r_2, hc, hf⟩ := gq_bd hf
  refine gq_callV C hA gm_X1_91 (c_X1_isUntold l D cI cZ aQ x1 (Q_ways, Q_untold, Q_trial, Q_first, Q_suspects) _ hc) rfl 0 0 rfl rfl rfl ⟨Nat.le_trans (Nat.le_of_ble_eq_true rfl) hR.1, Nat.le_trans (Nat.le_of_ble_eq_true rfl) hR.2.1⟩ ⟨Nat.zero_le _, Nat.zero_le _⟩ rfl (Nat.le_of_ble_eq_true rfl) dX1_firstAt_2 [0] [qC cI aQ (Q_ways, Q_untold, Q_trial, Q_first, Q_suspects)] 5 rfl (by decide) rfl rfl rfl [.int r_2] rfl ?_
  refine gq_if_eq C 24 8 dX1_firstAt_5 (by decide) rfl (fun h5 => ?_) (fun h5 => ?_)
  · replace hf := gq_ifp h5 hf
    refine gq_bipush C (-6 : Int32) 26 dX1_firstAt_24 (by decide) rfl ?_
    obtain rfl := gq_lf hf
    exact hret dX1_firstAt_26 gPost.rf
  · replace hf := gq_ifn h5 hf
    refine gq_aload_n C 0 9 dX1_firstAt_8 rfl rfl ?_
    refine gq_get C fo_X1_0 fw_X1_21 0 0 12 rfl rfl rfl dX1_firstAt_9 rfl ?_
    refine gq_if_le C 24 15 dX1_firstAt_12 (by decide) rfl (fun h12 => ?_) (fun h12 => ?_)
    · replace hf := gq_ifp h12 hf
      refine gq_bipush C (-6 : Int32) 26 dX1_firstAt_24 (by decide) rfl ?_
      obtain rfl := gq_lf hf
      exact hret dX1_firstAt_26 gPost.rf
    · replace hf := gq_ifn h12 hf
      refine gq_aload_n C 0 16 dX1_firstAt_15 rfl rfl ?_
      refine gq_get C fo_X1_3 fw_X1_15 0 0 19 rfl rfl rfl dX1_firstAt_16 rfl ?_
      refine gq_iload_n C 1 20 dX1_firstAt_19 rfl rfl ?_
      obtain ⟨h20, hf⟩ := gq_ok hf
      refine gq_iald C 0 2 21 rfl rfl h20 dX1_firstAt_20 rfl ?_
      refine gq_goto C 26 dX1_firstAt_21 (by decide) ?_
      obtain rfl := gq_lf hf
      exact hret dX1_firstAt_26 gPost.rf

def f_X1_suspectsAt : Int32 → GueS → Option (Int32)
  | x1, (Q_ways, Q_untold, Q_trial, Q_first, Q_suspects) => (Option.bind (f_X1_isUntold x1 (Q_ways, Q_untold, Q_trial, Q_first, Q_suspects)) (fun r_2 => (if r_2 = 0 then some (-6 : Int32) else (if x1 < 0 ∨ 3 ≤ x1.toNatClampNeg then none else some (Q_suspects x1.toNatClampNeg)))))
set_option maxHeartbeats 4000000 in
set_option maxRecDepth 100000 in
theorem c_X1_suspectsAt (l : Launch) (D : va_G) (cI cZ : ClassId) (aQ : Nat → Nat) (x1 : Int32) (tQ : GueS) (rr : Int32) (hf : f_X1_suspectsAt x1 tQ = some rr) : CT l D cI cZ yX1_suspectsAt cX1_suspectsAt 2 (some .int) 1 21 0 0 [.ref (aQ 0), .int x1] ([qC cI aQ tQ]) (gPost (some (.int rr)) ([qC cI aQ tQ])) := by
  obtain ⟨Q_ways, Q_untold, Q_trial, Q_first, Q_suspects⟩ := tQ
  rw [f_X1_suspectsAt] at hf
  refine CT.mkI (by decide) (Nat.le_of_ble_eq_true rfl) fun {p} {e} {R} {s} {m} {args} {below} {meth} {c} {A} {H0} {Q} C hA hR hret => ?_
  show G p l e R s m args below meth c 2 D A H0 0 0 Q [qC cI aQ (Q_ways, Q_untold, Q_trial, Q_first, Q_suspects)] 0 [(0, .ref (aQ 0)), (1, .int x1)] []
  refine gq_aload_n C 0 1 dX1_suspectsAt_0 rfl rfl ?_
  refine gq_iload_n C 1 2 dX1_suspectsAt_1 rfl rfl ?_
  obtain ⟨r_2, hc, hf⟩ := gq_bd hf
  refine gq_callV C hA gm_X1_91 (c_X1_isUntold l D cI cZ aQ x1 (Q_ways, Q_untold, Q_trial, Q_first, Q_suspects) _ hc) rfl 0 0 rfl rfl rfl ⟨Nat.le_trans (Nat.le_of_ble_eq_true rfl) hR.1, Nat.le_trans (Nat.le_of_ble_eq_true rfl) hR.2.1⟩ ⟨Nat.zero_le _, Nat.zero_le _⟩ rfl (Nat.le_of_ble_eq_true rfl) dX1_suspectsAt_2 [0] [qC cI aQ (Q_ways, Q_untold, Q_trial, Q_first, Q_suspects)] 5 rfl (by decide) rfl rfl rfl [.int r_2] rfl ?_
  refine gq_if_eq C 17 8 dX1_suspectsAt_5 (by decide) rfl (fun h5 => ?_) (fun h5 => ?_)
  · replace hf := gq_ifp h5 hf
    refine gq_bipush C (-6 : Int32) 19 dX1_suspectsAt_17 (by decide) rfl ?_
    obtain rfl := gq_lf hf
    exact hret dX1_suspectsAt_19 gPost.rf
  · replace hf := gq_ifn h5 hf
    refine gq_aload_n C 0 9 dX1_suspectsAt_8 rfl rfl ?_
    refine gq_get C fo_X1_4 fw_X1_18 0 0 12 rfl rfl rfl dX1_suspectsAt_9 rfl ?_
    refine gq_iload_n C 1 13 dX1_suspectsAt_12 rfl rfl ?_
    obtain ⟨h13, hf⟩ := gq_ok hf
    refine gq_iald C 0 3 14 rfl rfl h13 dX1_suspectsAt_13 rfl ?_
    refine gq_goto C 19 dX1_suspectsAt_14 (by decide) ?_
    obtain rfl := gq_lf hf
    exact hret dX1_suspectsAt_19 gPost.rf

def f_X1_keepIfSeen_L45 (c_Q_untold : Int32) (c_Q_trial : (Nat → Int32)) : Nat → Int32 → (Nat → Int32) → (Int32 → (Nat → Int32) → Option (GueS)) → Option (GueS)
  | 0, _, _, _ => none
  | nL45 + 1, x2_L45, Q_suspects_L45, kL45 => (if (nI 3) ≤ x2_L45 then kL45 x2_L45 Q_suspects_L45 else (if c_Q_untold ≤ x2_L45 then kL45 x2_L45 Q_suspects_L45 else (if x2_L45 < 0 ∨ 3 ≤ x2_L45.toNatClampNeg then none else (if x2_L45 < 0 ∨ 3 ≤ x2_L45.toNatClampNeg then none else (if x2_L45 < 0 ∨ 3 ≤ x2_L45.toNatClampNeg then none else f_X1_keepIfSeen_L45 c_Q_untold c_Q_trial nL45 (x2_L45 + (nI 1)) (upd Q_suspects_L45 x2_L45.toNatClampNeg ((Q_suspects_L45 x2_L45.toNatClampNeg) ||| ((nI 1) <<< ((c_Q_trial x2_L45.toNatClampNeg) &&& 31)))) kL45)))))
def f_X1_keepIfSeen : HouS → GueS → InnS → Option (GueS)
  | (H_beds, H_law, H_sights, H_isKept, H_worths, H_sightGuests, H_sightBeds), (Q_ways, Q_untold, Q_trial, Q_first, Q_suspects), (I_law, I_there, I_sleepers, I_empty, I_empties, I_yard, I_waiting, I_nights, I_used, I_sheets, I_lastOnes, I_guestsWithFleas, I_bedsWithFleas, I_isCounting) => (Option.bind (f_X2_allSightsHold (H_beds, H_law, H_sights, H_isKept, H_worths, H_sightGuests, H_sightBeds) (I_law, I_there, I_sleepers, I_empty, I_empties, I_yard, I_waiting, I_nights, I_used, I_sheets, I_lastOnes, I_guestsWithFleas, I_bedsWithFleas, I_isCounting)) (fun r_5 => (if r_5 = 0 then some (Q_ways, Q_untold, Q_trial, Q_first, Q_suspects) else gJn (fun (Q_first_J33 : (Nat → Int32)) => f_X1_keepIfSeen_L45 Q_untold Q_trial FU (nI 0) Q_suspects (fun x2_L45 Q_suspects_L45 => some ((Q_ways + (nI 1)), Q_untold, Q_trial, Q_first_J33, Q_suspects_L45))) (fun kJ33 => (if Q_ways = 0 then kJ33 (va_cpy Q_trial Q_first 0 0 (nI 3).toNatClampNeg) else kJ33 Q_first)))))
set_option maxHeartbeats 4000000 in
set_option maxRecDepth 100000 in
theorem c_X1_keepIfSeen (l : Launch) (D : va_G) (cI cZ : ClassId) (aH : Nat → Nat) (aQ : Nat → Nat) (aI : Nat → Nat) (dI : Option Nat) (tH : HouS) (tQ : GueS) (tI : InnS) (rr : GueS) (hf : f_X1_keepIfSeen tH tQ tI = some rr) : CT l D cI cZ yX1_keepIfSeen cX1_keepIfSeen 3 none 2 60 0 0 [.ref (aQ 0), .ref (aI 0)] ([hC cI aH tH, qC cI aQ tQ, iC cI aI (aH 0) dI tI]) (gPost none ([hC cI aH tH, qC cI aQ rr, iC cI aI (aH 0) dI tI])) := by
  obtain ⟨H_beds, H_law, H_sights, H_isKept, H_worths, H_sightGuests, H_sightBeds⟩ := tH
  obtain ⟨Q_ways, Q_untold, Q_trial, Q_first, Q_suspects⟩ := tQ
  obtain ⟨I_law, I_there, I_sleepers, I_empty, I_empties, I_yard, I_waiting, I_nights, I_used, I_sheets, I_lastOnes, I_guestsWithFleas, I_bedsWithFleas, I_isCounting⟩ := tI
  rw [f_X1_keepIfSeen] at hf
  refine CT.mkV (by decide) (Nat.le_of_ble_eq_true rfl) fun {p} {e} {R} {s} {m} {args} {below} {meth} {c} {A} {H0} {Q} C hA hR hnm hret => ?_
  show G p l e R s m args below meth c 3 D A H0 0 0 Q [hC cI aH (H_beds, H_law, H_sights, H_isKept, H_worths, H_sightGuests, H_sightBeds), qC cI aQ (Q_ways, Q_untold, Q_trial, Q_first, Q_suspects), iC cI aI (aH 0) dI (I_law, I_there, I_sleepers, I_empty, I_empties, I_yard, I_waiting, I_nights, I_used, I_sheets, I_lastOnes, I_guestsWithFleas, I_bedsWithFleas, I_isCounting)] 0 [(0, .ref (aQ 0)), (1, .ref (aI 0))] []
  refine gq_aload_n C 1 1 dX1_keepIfSeen_0 rfl rfl ?_
  refine gq_getN C fo_X3_0 fw_X1_77 2 0 4 rfl rfl rfl dX1_keepIfSeen_1 rfl ?_
  refine gq_aload_n C 1 5 dX1_keepIfSeen_4 rfl rfl ?_
  obtain ⟨r_5, hc, hf⟩ := gq_bd hf
  refine gq_callN C hA gm_X1_81 (c_X2_allSightsHold l D cI cZ aH aI dI (H_beds, H_law, H_sights, H_isKept, H_worths, H_sightGuests, H_sightBeds) (I_law, I_there, I_sleepers, I_empty, I_empties, I_yard, I_waiting, I_nights, I_used, I_sheets, I_lastOnes, I_guestsWithFleas, I_bedsWithFleas, I_isCounting) _ hc) rfl 0 0 rfl rfl rfl ⟨Nat.le_trans (Nat.le_of_ble_eq_true rfl) hR.1, Nat.le_trans (Nat.le_of_ble_eq_true rfl) hR.2.1⟩ ⟨Nat.zero_le _, Nat.zero_le _⟩ rfl (Nat.le_of_ble_eq_true rfl) dX1_keepIfSeen_5 [0, 2] [hC cI aH (H_beds, H_law, H_sights, H_isKept, H_worths, H_sightGuests, H_sightBeds), qC cI aQ (Q_ways, Q_untold, Q_trial, Q_first, Q_suspects), iC cI aI (aH 0) dI (I_law, I_there, I_sleepers, I_empty, I_empties, I_yard, I_waiting, I_nights, I_used, I_sheets, I_lastOnes, I_guestsWithFleas, I_bedsWithFleas, I_isCounting)] 8 rfl (by decide) rfl rfl rfl [.int r_5] rfl ?_
  refine gq_if_ne C 12 11 dX1_keepIfSeen_8 (by decide) rfl (fun h8 => ?_) (fun h8 => ?_)
  · replace hf := gq_ifn h8 hf
    refine gq_aload_n C 0 13 dX1_keepIfSeen_12 rfl rfl ?_
    refine gq_get C fo_X1_0 fw_X1_21 1 0 16 rfl rfl rfl dX1_keepIfSeen_13 rfl ?_
    refine gq_jn (P := fun k => ∀ (Q_first_J33 : (Nat → Int32)), k Q_first_J33 = some rr → G p l e R s m args below meth c 3 D A H0 0 0 Q [hC cI aH (H_beds, H_law, H_sights, H_isKept, H_worths, H_sightGuests, H_sightBeds), qC cI aQ (Q_ways, Q_untold, Q_trial, Q_first_J33, Q_suspects), iC cI aI (aH 0) dI (I_law, I_there, I_sleepers, I_empty, I_empties, I_yard, I_waiting, I_nights, I_used, I_sheets, I_lastOnes, I_guestsWithFleas, I_bedsWithFleas, I_isCounting)] 33 [(0, .ref (aQ 0)), (1, .ref (aI 0))] []) hf (fun Q_first_J33 hf => ?_) (fun kJ33 hJ33 hf => ?_)
    · refine gq_aload_n C 0 34 dX1_keepIfSeen_33 rfl rfl ?_
      refine gq_dup C 35 dX1_keepIfSeen_34 rfl rfl ?_
      refine gq_get C fo_X1_0 fw_X1_21 1 0 38 rfl rfl rfl dX1_keepIfSeen_35 rfl ?_
      refine gq_iconst C (nI 1) 39 dX1_keepIfSeen_38 (by decide) rfl ?_
      refine gq_iadd C 40 dX1_keepIfSeen_39 rfl ?_
      refine gq_put C fo_X1_0 fp_X1_0 rfl fw_X1_21 1 0 43 [hC cI aH (H_beds, H_law, H_sights, H_isKept, H_worths, H_sightGuests, H_sightBeds), qC cI aQ ((Q_ways + (nI 1)), Q_untold, Q_trial, Q_first_J33, Q_suspects), iC cI aI (aH 0) dI (I_law, I_there, I_sleepers, I_empty, I_empties, I_yard, I_waiting, I_nights, I_used, I_sheets, I_lastOnes, I_guestsWithFleas, I_bedsWithFleas, I_isCounting)] rfl rfl rfl rfl (Nat.le_of_ble_eq_true rfl) rfl dX1_keepIfSeen_40 rfl ?_
      refine gq_iconst C (nI 0) 44 dX1_keepIfSeen_43 (by decide) rfl ?_
      refine gq_istore_n C [(2, .int (nI 0)), (0, .ref (aQ 0)), (1, .ref (aI 0))] 45 dX1_keepIfSeen_44 (by decide) rfl rfl ?_
      have L45 : ∀ (kL : Int32 → (Nat → Int32) → Option (GueS)), (∀ (x2_L45 : Int32) (Q_suspects_L45 : (Nat → Int32)), kL x2_L45 Q_suspects_L45 = some rr → G p l e R s m args below meth c 3 D A H0 0 0 Q [hC cI aH (H_beds, H_law, H_sights, H_isKept, H_worths, H_sightGuests, H_sightBeds), qC cI aQ ((Q_ways + (nI 1)), Q_untold, Q_trial, Q_first_J33, Q_suspects_L45), iC cI aI (aH 0) dI (I_law, I_there, I_sleepers, I_empty, I_empties, I_yard, I_waiting, I_nights, I_used, I_sheets, I_lastOnes, I_guestsWithFleas, I_bedsWithFleas, I_isCounting)] 81 [(2, .int x2_L45), (0, .ref (aQ 0)), (1, .ref (aI 0))] []) → ∀ (n : Nat) (x2_L45 : Int32) (Q_suspects_L45 : (Nat → Int32)), f_X1_keepIfSeen_L45 Q_untold Q_trial n x2_L45 Q_suspects_L45 kL = some rr → G p l e R s m args below meth c 3 D A H0 0 0 Q [hC cI aH (H_beds, H_law, H_sights, H_isKept, H_worths, H_sightGuests, H_sightBeds), qC cI aQ ((Q_ways + (nI 1)), Q_untold, Q_trial, Q_first_J33, Q_suspects_L45), iC cI aI (aH 0) dI (I_law, I_there, I_sleepers, I_empty, I_empties, I_yard, I_waiting, I_nights, I_used, I_sheets, I_lastOnes, I_guestsWithFleas, I_bedsWithFleas, I_isCounting)] 45 [(2, .int x2_L45), (0, .ref (aQ 0)), (1, .ref (aI 0))] [] := by
        intro kL hkL45 n
        induction n with
        | zero =>
          intro x2_L45 Q_suspects_L45 hf
          rw [f_X1_keepIfSeen_L45] at hf
          cases hf
        | succ n ihL45 =>
          intro x2_L45 Q_suspects_L45 hf
          rw [f_X1_keepIfSeen_L45] at hf
          refine gq_iload_n C 0 46 dX1_keepIfSeen_45 rfl rfl ?_
          refine gq_iconst C (nI 3) 47 dX1_keepIfSeen_46 (by decide) rfl ?_
          refine gq_icmp_ge C 81 50 dX1_keepIfSeen_47 (by decide) rfl (fun h47 => ?_) (fun h47 => ?_)
          · replace hf := gq_ifp h47 hf
            exact hkL45 _ _ hf
          · replace hf := gq_ifn h47 hf
            refine gq_iload_n C 0 51 dX1_keepIfSeen_50 rfl rfl ?_
            refine gq_aload_n C 1 52 dX1_keepIfSeen_51 rfl rfl ?_
            refine gq_get C fo_X1_1 fw_X1_25 1 0 55 rfl rfl rfl dX1_keepIfSeen_52 rfl ?_
            refine gq_icmp_ge C 81 58 dX1_keepIfSeen_55 (by decide) rfl (fun h55 => ?_) (fun h55 => ?_)
            · replace hf := gq_ifp h55 hf
              exact hkL45 _ _ hf
            · replace hf := gq_ifn h55 hf
              refine gq_aload_n C 1 59 dX1_keepIfSeen_58 rfl rfl ?_
              refine gq_get C fo_X1_4 fw_X1_18 1 0 62 rfl rfl rfl dX1_keepIfSeen_59 rfl ?_
              refine gq_iload_n C 0 63 dX1_keepIfSeen_62 rfl rfl ?_
              refine gq_dup2 C 64 dX1_keepIfSeen_63 rfl rfl rfl ?_
              obtain ⟨h64, hf⟩ := gq_ok hf
              refine gq_iald C 1 3 65 rfl rfl h64 dX1_keepIfSeen_64 rfl ?_
              refine gq_iconst C (nI 1) 66 dX1_keepIfSeen_65 (by decide) rfl ?_
              refine gq_aload_n C 1 67 dX1_keepIfSeen_66 rfl rfl ?_
              refine gq_get C fo_X1_2 fw_X1_9 1 0 70 rfl rfl rfl dX1_keepIfSeen_67 rfl ?_
              refine gq_iload_n C 0 71 dX1_keepIfSeen_70 rfl rfl ?_
              obtain ⟨h71, hf⟩ := gq_ok hf
              refine gq_iald C 1 1 72 rfl rfl h71 dX1_keepIfSeen_71 rfl ?_
              refine gq_ishl C 73 dX1_keepIfSeen_72 rfl ?_
              refine gq_ior C 74 dX1_keepIfSeen_73 rfl ?_
              obtain ⟨h74, hf⟩ := gq_ok hf
              refine gq_iast C 1 3 75 [hC cI aH (H_beds, H_law, H_sights, H_isKept, H_worths, H_sightGuests, H_sightBeds), qC cI aQ ((Q_ways + (nI 1)), Q_untold, Q_trial, Q_first_J33, (upd Q_suspects_L45 x2_L45.toNatClampNeg ((Q_suspects_L45 x2_L45.toNatClampNeg) ||| ((nI 1) <<< ((Q_trial x2_L45.toNatClampNeg) &&& 31))))), iC cI aI (aH 0) dI (I_law, I_there, I_sleepers, I_empty, I_empties, I_yard, I_waiting, I_nights, I_used, I_sheets, I_lastOnes, I_guestsWithFleas, I_bedsWithFleas, I_isCounting)] rfl rfl h74 rfl dX1_keepIfSeen_74 rfl ?_
              refine gq_iinc C 0 [(2, .int (x2_L45 + (nI 1))), (0, .ref (aQ 0)), (1, .ref (aI 0))] 78 dX1_keepIfSeen_75 rfl rfl (by decide) rfl rfl ?_
              refine gq_goto C 45 dX1_keepIfSeen_78 (by decide) ?_
              exact ihL45 _ _ hf
      refine L45 _ (fun x2_L45 Q_suspects_L45 hf => ?_) _ _ _ hf
      obtain rfl := gq_lf hf
      exact hret dX1_keepIfSeen_81 gPost.rf
    · refine gq_if_ne C 33 19 dX1_keepIfSeen_16 (by decide) rfl (fun h16 => ?_) (fun h16 => ?_)
      · replace hf := gq_ifn h16 hf
        exact hJ33 _ hf
      · replace hf := gq_ifp h16 hf
        refine gq_aload_n C 0 20 dX1_keepIfSeen_19 rfl rfl ?_
        refine gq_get C fo_X1_2 fw_X1_9 1 0 23 rfl rfl rfl dX1_keepIfSeen_20 rfl ?_
        refine gq_iconst C (nI 0) 24 dX1_keepIfSeen_23 (by decide) rfl ?_
        refine gq_aload_n C 0 25 dX1_keepIfSeen_24 rfl rfl ?_
        refine gq_get C fo_X1_3 fw_X1_15 1 0 28 rfl rfl rfl dX1_keepIfSeen_25 rfl ?_
        refine gq_iconst C (nI 0) 29 dX1_keepIfSeen_28 (by decide) rfl ?_
        refine gq_iconst C (nI 3) 30 dX1_keepIfSeen_29 (by decide) rfl ?_
        refine gq_copy C 1 1 1 2 33 [hC cI aH (H_beds, H_law, H_sights, H_isKept, H_worths, H_sightGuests, H_sightBeds), qC cI aQ (Q_ways, Q_untold, Q_trial, (va_cpy Q_trial Q_first 0 0 (nI 3).toNatClampNeg), Q_suspects), iC cI aI (aH 0) dI (I_law, I_there, I_sleepers, I_empty, I_empties, I_yard, I_waiting, I_nights, I_used, I_sheets, I_lastOnes, I_guestsWithFleas, I_bedsWithFleas, I_isCounting)] mw_X1_85 aw_native aw_static aw_ini rfl rfl rfl rfl (by decide) (by decide) (by decide) rfl (Nat.le_trans (Nat.le_of_ble_eq_true rfl) hR.1) (Nat.le_trans (Nat.le_of_ble_eq_true rfl) hR.2.1) dX1_keepIfSeen_30 rfl ?_
        exact hJ33 _ hf
  · replace hf := gq_ifp h8 hf
    obtain rfl := gq_lf hf
    exact hret dX1_keepIfSeen_11 gPost.rf

def f_X1_fillFrom_L62 (recF : Int32 → Int32 → HouS → DayS → GueS → InnS → (List InnS) → Option (GueS × InnS × (List InnS))) (c_x4 : Int32) (c_x5 : Int32) (c_H_beds : Int32) (c_H_law : Int32) (c_H_sights : Int32) (c_H_isKept : Int32) (c_H_worths : (Nat → Int32)) (c_H_sightGuests : (Nat → Int32)) (c_H_sightBeds : (Nat → Int32)) (c_D_length : Int32) (c_D_signs : (Nat → Int32)) (c_I_law : Int32) (c_I_there : Int32) (c_I_sleepers : (Nat → Int32)) (c_I_empty : (Nat → Int32)) (c_I_empties : Int32) (c_I_yard : (Nat → Int32)) (c_I_waiting : Int32) (c_I_nights : (Nat → Int32)) (c_I_used : (Nat → Int32)) (c_I_sheets : (Nat → Int32)) (c_I_lastOnes : (Nat → Int32)) (c_I_guestsWithFleas : Int32) (c_I_bedsWithFleas : Int32) (c_I_isCounting : Int32) : Nat → Int32 → Int32 → Int32 → (Nat → Int32) → (Nat → Int32) → (Nat → Int32) → Int32 → Int32 → (Nat → Int32) → (Nat → Int32) → Int32 → (Nat → Int32) → Int32 → (Nat → Int32) → (Nat → Int32) → (Nat → Int32) → (Nat → Int32) → Int32 → Int32 → Int32 → (List InnS) → (Int32 → Int32 → Int32 → (Nat → Int32) → (Nat → Int32) → (Nat → Int32) → Int32 → Int32 → (Nat → Int32) → (Nat → Int32) → Int32 → (Nat → Int32) → Int32 → (Nat → Int32) → (Nat → Int32) → (Nat → Int32) → (Nat → Int32) → Int32 → Int32 → Int32 → (List InnS) → Option (GueS × InnS × (List InnS))) → Option (GueS × InnS × (List InnS))
  | 0, _, _, _, _, _, _, _, _, _, _, _, _, _, _, _, _, _, _, _, _, _, _ => none
  | nL62 + 1, x7_L62, Q_ways_L62, Q_untold_L62, Q_trial_L62, Q_first_L62, Q_suspects_L62, J_law_L62, J_there_L62, J_sleepers_L62, J_empty_L62, J_empties_L62, J_yard_L62, J_waiting_L62, J_nights_L62, J_used_L62, J_sheets_L62, J_lastOnes_L62, J_guestsWithFleas_L62, J_bedsWithFleas_L62, J_isCounting_L62, T_list_L62, kL62 => (if (nI 8) ≤ x7_L62 then kL62 x7_L62 Q_ways_L62 Q_untold_L62 Q_trial_L62 Q_first_L62 Q_suspects_L62 J_law_L62 J_there_L62 J_sleepers_L62 J_empty_L62 J_empties_L62 J_yard_L62 J_waiting_L62 J_nights_L62 J_used_L62 J_sheets_L62 J_lastOnes_L62 J_guestsWithFleas_L62 J_bedsWithFleas_L62 J_isCounting_L62 T_list_L62 else (Option.bind (f_X3_isThere x7_L62 (c_I_law, c_I_there, c_I_sleepers, c_I_empty, c_I_empties, c_I_yard, c_I_waiting, c_I_nights, c_I_used, c_I_sheets, c_I_lastOnes, c_I_guestsWithFleas, c_I_bedsWithFleas, c_I_isCounting)) (fun r_72 => (if r_72 = 0 then (Option.bind (f_X3_standAs (J_law_L62, J_there_L62, J_sleepers_L62, J_empty_L62, J_empties_L62, J_yard_L62, J_waiting_L62, J_nights_L62, J_used_L62, J_sheets_L62, J_lastOnes_L62, J_guestsWithFleas_L62, J_bedsWithFleas_L62, J_isCounting_L62) (c_I_law, c_I_there, c_I_sleepers, c_I_empty, c_I_empties, c_I_yard, c_I_waiting, c_I_nights, c_I_used, c_I_sheets, c_I_lastOnes, c_I_guestsWithFleas, c_I_bedsWithFleas, c_I_isCounting)) (fun (J_law_81, J_there_81, J_sleepers_81, J_empty_81, J_empties_81, J_yard_81, J_waiting_81, J_nights_81, J_used_81, J_sheets_81, J_lastOnes_81, J_guestsWithFleas_81, J_bedsWithFleas_81, J_isCounting_81) => (Option.bind (f_X3_takeIn x7_L62 (c_H_beds, c_H_law, c_H_sights, c_H_isKept, c_H_worths, c_H_sightGuests, c_H_sightBeds) (J_law_81, J_there_81, J_sleepers_81, J_empty_81, J_empties_81, J_yard_81, J_waiting_81, J_nights_81, J_used_81, J_sheets_81, J_lastOnes_81, J_guestsWithFleas_81, J_bedsWithFleas_81, J_isCounting_81)) (fun (J_law_88, J_there_88, J_sleepers_88, J_empty_88, J_empties_88, J_yard_88, J_waiting_88, J_nights_88, J_used_88, J_sheets_88, J_lastOnes_88, J_guestsWithFleas_88, J_bedsWithFleas_88, J_isCounting_88) => (if c_x4 < 0 ∨ 3 ≤ c_x4.toNatClampNeg then none else (Option.bind (recF (c_x5 + (nI 1)) (c_x4 + (nI 1)) (c_H_beds, c_H_law, c_H_sights, c_H_isKept, c_H_worths, c_H_sightGuests, c_H_sightBeds) (c_D_length, c_D_signs) (Q_ways_L62, Q_untold_L62, (upd Q_trial_L62 c_x4.toNatClampNeg x7_L62), Q_first_L62, Q_suspects_L62) (J_law_88, J_there_88, J_sleepers_88, J_empty_88, J_empties_88, J_yard_88, J_waiting_88, J_nights_88, J_used_88, J_sheets_88, J_lastOnes_88, J_guestsWithFleas_88, J_bedsWithFleas_88, J_isCounting_88) T_list_L62) (fun ((Q_ways_112, Q_untold_112, Q_trial_112, Q_first_112, Q_suspects_112), (J_law_112, J_there_112, J_sleepers_112, J_empty_112, J_empties_112, J_yard_112, J_waiting_112, J_nights_112, J_used_112, J_sheets_112, J_lastOnes_112, J_guestsWithFleas_112, J_bedsWithFleas_112, J_isCounting_112), T_list_112) => (if T_list_112.length = T_list_L62.length then f_X1_fillFrom_L62 recF c_x4 c_x5 c_H_beds c_H_law c_H_sights c_H_isKept c_H_worths c_H_sightGuests c_H_sightBeds c_D_length c_D_signs c_I_law c_I_there c_I_sleepers c_I_empty c_I_empties c_I_yard c_I_waiting c_I_nights c_I_used c_I_sheets c_I_lastOnes c_I_guestsWithFleas c_I_bedsWithFleas c_I_isCounting nL62 (x7_L62 + (nI 1)) Q_ways_112 Q_untold_112 Q_trial_112 Q_first_112 Q_suspects_112 J_law_112 J_there_112 J_sleepers_112 J_empty_112 J_empties_112 J_yard_112 J_waiting_112 J_nights_112 J_used_112 J_sheets_112 J_lastOnes_112 J_guestsWithFleas_112 J_bedsWithFleas_112 J_isCounting_112 T_list_112 kL62 else none)))))))) else f_X1_fillFrom_L62 recF c_x4 c_x5 c_H_beds c_H_law c_H_sights c_H_isKept c_H_worths c_H_sightGuests c_H_sightBeds c_D_length c_D_signs c_I_law c_I_there c_I_sleepers c_I_empty c_I_empties c_I_yard c_I_waiting c_I_nights c_I_used c_I_sheets c_I_lastOnes c_I_guestsWithFleas c_I_bedsWithFleas c_I_isCounting nL62 (x7_L62 + (nI 1)) Q_ways_L62 Q_untold_L62 Q_trial_L62 Q_first_L62 Q_suspects_L62 J_law_L62 J_there_L62 J_sleepers_L62 J_empty_L62 J_empties_L62 J_yard_L62 J_waiting_L62 J_nights_L62 J_used_L62 J_sheets_L62 J_lastOnes_L62 J_guestsWithFleas_L62 J_bedsWithFleas_L62 J_isCounting_L62 T_list_L62 kL62))))
def f_X1_fillFrom : Nat → Int32 → Int32 → HouS → DayS → GueS → InnS → (List InnS) → Option (GueS × InnS × (List InnS))
  | 0, _, _, _, _, _, _, _ => none
  | nR + 1, x3, x4, (H_beds, H_law, H_sights, H_isKept, H_worths, H_sightGuests, H_sightBeds), (D_length, D_signs), (Q_ways, Q_untold, Q_trial, Q_first, Q_suspects), (I_law, I_there, I_sleepers, I_empty, I_empties, I_yard, I_waiting, I_nights, I_used, I_sheets, I_lastOnes, I_guestsWithFleas, I_bedsWithFleas, I_isCounting), T_list => (Option.bind (f_X0_nextUntold x3 (D_length, D_signs)) (fun r_2 => (Option.bind (f_X3_live x3 r_2 (H_beds, H_law, H_sights, H_isKept, H_worths, H_sightGuests, H_sightBeds) (D_length, D_signs) (I_law, I_there, I_sleepers, I_empty, I_empties, I_yard, I_waiting, I_nights, I_used, I_sheets, I_lastOnes, I_guestsWithFleas, I_bedsWithFleas, I_isCounting)) (fun (r_12, (I_law_12, I_there_12, I_sleepers_12, I_empty_12, I_empties_12, I_yard_12, I_waiting_12, I_nights_12, I_used_12, I_sheets_12, I_lastOnes_12, I_guestsWithFleas_12, I_bedsWithFleas_12, I_isCounting_12)) => (if r_12 = (-6 : Int32) then (if r_2 < D_length then (match T_list with | [] => none | (J_law, J_there, J_sleepers, J_empty, J_empties, J_yard, J_waiting, J_nights, J_used, J_sheets, J_lastOnes, J_guestsWithFleas, J_bedsWithFleas, J_isCounting) :: T_tl => (if x4 < 0 then some ((Q_ways, Q_untold, Q_trial, Q_first, Q_suspects), (I_law_12, I_there_12, I_sleepers_12, I_empty_12, I_empties_12, I_yard_12, I_waiting_12, I_nights_12, I_used_12, I_sheets_12, I_lastOnes_12, I_guestsWithFleas_12, I_bedsWithFleas_12, I_isCounting_12), ((J_law, J_there, J_sleepers, J_empty, J_empties, J_yard, J_waiting, J_nights, J_used, J_sheets, J_lastOnes, J_guestsWithFleas, J_bedsWithFleas, J_isCounting) :: T_tl)) else (if x4 < (nI 3) then f_X1_fillFrom_L62 (f_X1_fillFrom nR) x4 r_2 H_beds H_law H_sights H_isKept H_worths H_sightGuests H_sightBeds D_length D_signs I_law_12 I_there_12 I_sleepers_12 I_empty_12 I_empties_12 I_yard_12 I_waiting_12 I_nights_12 I_used_12 I_sheets_12 I_lastOnes_12 I_guestsWithFleas_12 I_bedsWithFleas_12 I_isCounting_12 FU (nI 0) Q_ways Q_untold Q_trial Q_first Q_suspects J_law J_there J_sleepers J_empty J_empties J_yard J_waiting J_nights J_used J_sheets J_lastOnes J_guestsWithFleas J_bedsWithFleas J_isCounting T_tl (fun x7_L62 Q_ways_L62 Q_untold_L62 Q_trial_L62 Q_first_L62 Q_suspects_L62 J_law_L62 J_there_L62 J_sleepers_L62 J_empty_L62 J_empties_L62 J_yard_L62 J_waiting_L62 J_nights_L62 J_used_L62 J_sheets_L62 J_lastOnes_L62 J_guestsWithFleas_L62 J_bedsWithFleas_L62 J_isCounting_L62 T_list_L62 => some ((Q_ways_L62, Q_untold_L62, Q_trial_L62, Q_first_L62, Q_suspects_L62), (I_law_12, I_there_12, I_sleepers_12, I_empty_12, I_empties_12, I_yard_12, I_waiting_12, I_nights_12, I_used_12, I_sheets_12, I_lastOnes_12, I_guestsWithFleas_12, I_bedsWithFleas_12, I_isCounting_12), ((J_law_L62, J_there_L62, J_sleepers_L62, J_empty_L62, J_empties_L62, J_yard_L62, J_waiting_L62, J_nights_L62, J_used_L62, J_sheets_L62, J_lastOnes_L62, J_guestsWithFleas_L62, J_bedsWithFleas_L62, J_isCounting_L62) :: T_list_L62))) else some ((Q_ways, Q_untold, Q_trial, Q_first, Q_suspects), (I_law_12, I_there_12, I_sleepers_12, I_empty_12, I_empties_12, I_yard_12, I_waiting_12, I_nights_12, I_used_12, I_sheets_12, I_lastOnes_12, I_guestsWithFleas_12, I_bedsWithFleas_12, I_isCounting_12), ((J_law, J_there, J_sleepers, J_empty, J_empties, J_yard, J_waiting, J_nights, J_used, J_sheets, J_lastOnes, J_guestsWithFleas, J_bedsWithFleas, J_isCounting) :: T_tl))))) else (Option.bind (f_X1_keepIfSeen (H_beds, H_law, H_sights, H_isKept, H_worths, H_sightGuests, H_sightBeds) (Q_ways, Q_untold, Q_trial, Q_first, Q_suspects) (I_law_12, I_there_12, I_sleepers_12, I_empty_12, I_empties_12, I_yard_12, I_waiting_12, I_nights_12, I_used_12, I_sheets_12, I_lastOnes_12, I_guestsWithFleas_12, I_bedsWithFleas_12, I_isCounting_12)) (fun (Q_ways_32, Q_untold_32, Q_trial_32, Q_first_32, Q_suspects_32) => some ((Q_ways_32, Q_untold_32, Q_trial_32, Q_first_32, Q_suspects_32), (I_law_12, I_there_12, I_sleepers_12, I_empty_12, I_empties_12, I_yard_12, I_waiting_12, I_nights_12, I_used_12, I_sheets_12, I_lastOnes_12, I_guestsWithFleas_12, I_bedsWithFleas_12, I_isCounting_12), T_list)))) else some ((Q_ways, Q_untold, Q_trial, Q_first, Q_suspects), (I_law_12, I_there_12, I_sleepers_12, I_empty_12, I_empties_12, I_yard_12, I_waiting_12, I_nights_12, I_used_12, I_sheets_12, I_lastOnes_12, I_guestsWithFleas_12, I_bedsWithFleas_12, I_isCounting_12), T_list))))))
set_option maxHeartbeats 4000000 in
set_option maxRecDepth 100000 in
theorem c_X1_fillFrom (l : Launch) (D : va_G) (cI cZ : ClassId) : ∀ (nR : Nat) (aH : Nat → Nat) (aD : Nat → Nat) (aQ : Nat → Nat) (aI : Nat → Nat) (aT : List (Nat → Nat)) (x3 : Int32) (x4 : Int32) (tH : HouS) (tD : DayS) (tQ : GueS) (tI : InnS) (tT : (List InnS)) (rr : GueS × InnS × (List InnS)) (hln : aT.length = tT.length) (hf : f_X1_fillFrom nR x3 x4 tH tD tQ tI tT = some rr), CT l D cI cZ yX1_fillFrom cX1_fillFrom 8 none (30 + nR) (400 + 40 * nR) 0 0 [.ref (aQ 0), .ref (aI 0), .ref (aD 0), .int x3, .int x4] ([hC cI aH tH, dC cI aD tD, qC cI aQ tQ, iC cI aI (aH 0) (nx aT) tI, chW cI (aH 0) aT tT]) (gPost none ([hC cI aH tH, dC cI aD tD, qC cI aQ rr.1, iC cI aI (aH 0) (nx aT) rr.2.1, chW cI (aH 0) aT rr.2.2])) := by
  intro nR
  induction nR with
  | zero =>
    intro aH aD aQ aI aT x3 x4 tH tD tQ tI tT rr hln hf
    rw [f_X1_fillFrom] at hf
    cases hf
  | succ nR ih =>
    intro aH aD aQ aI aT x3 x4 tH tD tQ tI tT rr hln hf
    obtain ⟨H_beds, H_law, H_sights, H_isKept, H_worths, H_sightGuests, H_sightBeds⟩ := tH
    obtain ⟨D_length, D_signs⟩ := tD
    obtain ⟨Q_ways, Q_untold, Q_trial, Q_first, Q_suspects⟩ := tQ
    obtain ⟨I_law, I_there, I_sleepers, I_empty, I_empties, I_yard, I_waiting, I_nights, I_used, I_sheets, I_lastOnes, I_guestsWithFleas, I_bedsWithFleas, I_isCounting⟩ := tI
    obtain ⟨T_list, rfl⟩ : ∃ z, z = tT := ⟨_, rfl⟩
    rw [f_X1_fillFrom.eq_def] at hf
    refine CT.mkV (by decide) (Nat.le_of_ble_eq_true rfl) fun {p} {e} {R} {s} {m} {args} {below} {meth} {c} {A} {H0} {Q} C hA hR hnm hret => ?_
    show G p l e R s m args below meth c 8 D A H0 0 0 Q [hC cI aH (H_beds, H_law, H_sights, H_isKept, H_worths, H_sightGuests, H_sightBeds), dC cI aD (D_length, D_signs), qC cI aQ (Q_ways, Q_untold, Q_trial, Q_first, Q_suspects), iC cI aI (aH 0) (nx aT) (I_law, I_there, I_sleepers, I_empty, I_empties, I_yard, I_waiting, I_nights, I_used, I_sheets, I_lastOnes, I_guestsWithFleas, I_bedsWithFleas, I_isCounting), chW cI (aH 0) aT T_list] 0 [(0, .ref (aQ 0)), (1, .ref (aI 0)), (2, .ref (aD 0)), (3, .int x3), (4, .int x4)] []
    refine gq_aload_n C 2 1 dX1_fillFrom_0 rfl rfl ?_
    refine gq_iload_n C 3 2 dX1_fillFrom_1 rfl rfl ?_
    obtain ⟨r_2, hc, hf⟩ := gq_bd hf
    refine gq_callN C hA gm_X1_52 (c_X0_nextUntold l D cI cZ aD x3 (D_length, D_signs) _ hc) rfl 1 0 rfl rfl rfl ⟨Nat.le_trans (by omega) hR.1, Nat.le_trans (by omega) hR.2.1⟩ ⟨Nat.zero_le _, Nat.zero_le _⟩ rfl (Nat.le_of_ble_eq_true rfl) dX1_fillFrom_2 [1] [hC cI aH (H_beds, H_law, H_sights, H_isKept, H_worths, H_sightGuests, H_sightBeds), dC cI aD (D_length, D_signs), qC cI aQ (Q_ways, Q_untold, Q_trial, Q_first, Q_suspects), iC cI aI (aH 0) (nx aT) (I_law, I_there, I_sleepers, I_empty, I_empties, I_yard, I_waiting, I_nights, I_used, I_sheets, I_lastOnes, I_guestsWithFleas, I_bedsWithFleas, I_isCounting), chW cI (aH 0) aT T_list] 5 rfl (by decide) rfl rfl rfl [.int r_2] rfl ?_
    refine gq_istore C [(5, .int r_2), (0, .ref (aQ 0)), (1, .ref (aI 0)), (2, .ref (aD 0)), (3, .int x3), (4, .int x4)] 7 dX1_fillFrom_5 (by decide) rfl rfl ?_
    refine gq_aload_n C 2 8 dX1_fillFrom_7 rfl rfl ?_
    refine gq_aload_n C 3 9 dX1_fillFrom_8 rfl rfl ?_
    refine gq_iload_n C 4 10 dX1_fillFrom_9 rfl rfl ?_
    refine gq_iload C 0 12 dX1_fillFrom_10 rfl rfl ?_
    obtain ⟨⟨r_12, ⟨I_law_12, I_there_12, I_sleepers_12, I_empty_12, I_empties_12, I_yard_12, I_waiting_12, I_nights_12, I_used_12, I_sheets_12, I_lastOnes_12, I_guestsWithFleas_12, I_bedsWithFleas_12, I_isCounting_12⟩⟩, hc, hf⟩ := gq_bd hf
    refine gq_callN C hA gm_X1_55 (c_X3_live l D cI cZ aH aD aI (nx aT) x3 r_2 (H_beds, H_law, H_sights, H_isKept, H_worths, H_sightGuests, H_sightBeds) (D_length, D_signs) (I_law, I_there, I_sleepers, I_empty, I_empties, I_yard, I_waiting, I_nights, I_used, I_sheets, I_lastOnes, I_guestsWithFleas, I_bedsWithFleas, I_isCounting) _ hc) rfl 3 0 rfl rfl rfl ⟨Nat.le_trans (by omega) hR.1, Nat.le_trans (by omega) hR.2.1⟩ ⟨Nat.zero_le _, Nat.zero_le _⟩ rfl (Nat.le_of_ble_eq_true rfl) dX1_fillFrom_12 [0, 1, 3] [hC cI aH (H_beds, H_law, H_sights, H_isKept, H_worths, H_sightGuests, H_sightBeds), dC cI aD (D_length, D_signs), qC cI aQ (Q_ways, Q_untold, Q_trial, Q_first, Q_suspects), iC cI aI (aH 0) (nx aT) (I_law_12, I_there_12, I_sleepers_12, I_empty_12, I_empties_12, I_yard_12, I_waiting_12, I_nights_12, I_used_12, I_sheets_12, I_lastOnes_12, I_guestsWithFleas_12, I_bedsWithFleas_12, I_isCounting_12), chW cI (aH 0) aT T_list] 15 rfl (by decide) rfl rfl rfl [.int r_12] rfl ?_
    refine gq_bipush C (-6 : Int32) 17 dX1_fillFrom_15 (by decide) rfl ?_
    refine gq_icmp_eq C 21 20 dX1_fillFrom_17 (by decide) rfl (fun h17 => ?_) (fun h17 => ?_)
    · replace hf := gq_ifp h17 hf
      refine gq_iload C 0 23 dX1_fillFrom_21 rfl rfl ?_
      refine gq_aload_n C 3 24 dX1_fillFrom_23 rfl rfl ?_
      refine gq_getN C fo_X0_0 fw_X1_28 1 0 27 rfl rfl rfl dX1_fillFrom_24 rfl ?_
      refine gq_icmp_lt C 36 30 dX1_fillFrom_27 (by decide) rfl (fun h27 => ?_) (fun h27 => ?_)
      · replace hf := gq_ifp h27 hf
        refine gq_aload_n C 2 37 dX1_fillFrom_36 rfl rfl ?_
        obtain ⟨rfl, rfl⟩ | ⟨aJ, aU, tJ, T_tl, rfl, rfl, hln⟩ := gq_len hln
        · cases hf
        obtain ⟨J_law, J_there, J_sleepers, J_empty, J_empties, J_yard, J_waiting, J_nights, J_used, J_sheets, J_lastOnes, J_guestsWithFleas, J_bedsWithFleas, J_isCounting⟩ := tJ
        refine gq_flat (ws' := [hC cI aH (H_beds, H_law, H_sights, H_isKept, H_worths, H_sightGuests, H_sightBeds), dC cI aD (D_length, D_signs), qC cI aQ (Q_ways, Q_untold, Q_trial, Q_first, Q_suspects), iC cI aI (aH 0) (some (aJ 0)) (I_law_12, I_there_12, I_sleepers_12, I_empty_12, I_empties_12, I_yard_12, I_waiting_12, I_nights_12, I_used_12, I_sheets_12, I_lastOnes_12, I_guestsWithFleas_12, I_bedsWithFleas_12, I_isCounting_12), iC cI aJ (aH 0) (nx aU) (J_law, J_there, J_sleepers, J_empty, J_empties, J_yard, J_waiting, J_nights, J_used, J_sheets, J_lastOnes, J_guestsWithFleas, J_bedsWithFleas, J_isCounting), chW cI (aH 0) aU T_tl]) rfl ?_
        refine gq_getN C fo_X3_1 fw_X1_63 3 0 40 rfl rfl rfl dX1_fillFrom_37 rfl ?_
        refine gq_astore C [(6, .ref (aJ 0)), (5, .int r_2), (0, .ref (aQ 0)), (1, .ref (aI 0)), (2, .ref (aD 0)), (3, .int x3), (4, .int x4)] 42 dX1_fillFrom_40 (by decide) rfl rfl ?_
        refine gq_aload C 0 44 dX1_fillFrom_42 rfl rfl ?_
        refine gq_ifnull C 47 dX1_fillFrom_44 rfl ?_
        refine gq_iload C 6 49 dX1_fillFrom_47 rfl rfl ?_
        refine gq_if_lt C 58 52 dX1_fillFrom_49 (by decide) rfl (fun h49 => ?_) (fun h49 => ?_)
        · replace hf := gq_ifp h49 hf
          obtain rfl := gq_lf hf
          refine gq_flat (ws' := [hC cI aH (H_beds, H_law, H_sights, H_isKept, H_worths, H_sightGuests, H_sightBeds), dC cI aD (D_length, D_signs), qC cI aQ (Q_ways, Q_untold, Q_trial, Q_first, Q_suspects), iC cI aI (aH 0) (nx (aJ :: aU)) (I_law_12, I_there_12, I_sleepers_12, I_empty_12, I_empties_12, I_yard_12, I_waiting_12, I_nights_12, I_used_12, I_sheets_12, I_lastOnes_12, I_guestsWithFleas_12, I_bedsWithFleas_12, I_isCounting_12), chW cI (aH 0) (aJ :: aU) ((J_law, J_there, J_sleepers, J_empty, J_empties, J_yard, J_waiting, J_nights, J_used, J_sheets, J_lastOnes, J_guestsWithFleas, J_bedsWithFleas, J_isCounting) :: T_tl)]) rfl ?_
          exact hret dX1_fillFrom_58 gPost.rf
        · replace hf := gq_ifn h49 hf
          refine gq_iload C 6 54 dX1_fillFrom_52 rfl rfl ?_
          refine gq_iconst C (nI 3) 55 dX1_fillFrom_54 (by decide) rfl ?_
          refine gq_icmp_lt C 59 58 dX1_fillFrom_55 (by decide) rfl (fun h55 => ?_) (fun h55 => ?_)
          · replace hf := gq_ifp h55 hf
            refine gq_iconst C (nI 0) 60 dX1_fillFrom_59 (by decide) rfl ?_
            refine gq_istore C [(7, .int (nI 0)), (6, .ref (aJ 0)), (5, .int r_2), (0, .ref (aQ 0)), (1, .ref (aI 0)), (2, .ref (aD 0)), (3, .int x3), (4, .int x4)] 62 dX1_fillFrom_60 (by decide) rfl rfl ?_
            have L62 : ∀ (kL : Int32 → Int32 → Int32 → (Nat → Int32) → (Nat → Int32) → (Nat → Int32) → Int32 → Int32 → (Nat → Int32) → (Nat → Int32) → Int32 → (Nat → Int32) → Int32 → (Nat → Int32) → (Nat → Int32) → (Nat → Int32) → (Nat → Int32) → Int32 → Int32 → Int32 → (List InnS) → Option (GueS × InnS × (List InnS))), (∀ (x7_L62 : Int32) (Q_ways_L62 : Int32) (Q_untold_L62 : Int32) (Q_trial_L62 : (Nat → Int32)) (Q_first_L62 : (Nat → Int32)) (Q_suspects_L62 : (Nat → Int32)) (J_law_L62 : Int32) (J_there_L62 : Int32) (J_sleepers_L62 : (Nat → Int32)) (J_empty_L62 : (Nat → Int32)) (J_empties_L62 : Int32) (J_yard_L62 : (Nat → Int32)) (J_waiting_L62 : Int32) (J_nights_L62 : (Nat → Int32)) (J_used_L62 : (Nat → Int32)) (J_sheets_L62 : (Nat → Int32)) (J_lastOnes_L62 : (Nat → Int32)) (J_guestsWithFleas_L62 : Int32) (J_bedsWithFleas_L62 : Int32) (J_isCounting_L62 : Int32) (T_list_L62 : (List InnS)) (hT62 : aU.length = T_list_L62.length), kL x7_L62 Q_ways_L62 Q_untold_L62 Q_trial_L62 Q_first_L62 Q_suspects_L62 J_law_L62 J_there_L62 J_sleepers_L62 J_empty_L62 J_empties_L62 J_yard_L62 J_waiting_L62 J_nights_L62 J_used_L62 J_sheets_L62 J_lastOnes_L62 J_guestsWithFleas_L62 J_bedsWithFleas_L62 J_isCounting_L62 T_list_L62 = some rr → G p l e R s m args below meth c 8 D A H0 0 0 Q [hC cI aH (H_beds, H_law, H_sights, H_isKept, H_worths, H_sightGuests, H_sightBeds), dC cI aD (D_length, D_signs), qC cI aQ (Q_ways_L62, Q_untold_L62, Q_trial_L62, Q_first_L62, Q_suspects_L62), iC cI aI (aH 0) (some (aJ 0)) (I_law_12, I_there_12, I_sleepers_12, I_empty_12, I_empties_12, I_yard_12, I_waiting_12, I_nights_12, I_used_12, I_sheets_12, I_lastOnes_12, I_guestsWithFleas_12, I_bedsWithFleas_12, I_isCounting_12), iC cI aJ (aH 0) (nx aU) (J_law_L62, J_there_L62, J_sleepers_L62, J_empty_L62, J_empties_L62, J_yard_L62, J_waiting_L62, J_nights_L62, J_used_L62, J_sheets_L62, J_lastOnes_L62, J_guestsWithFleas_L62, J_bedsWithFleas_L62, J_isCounting_L62), chW cI (aH 0) aU T_list_L62] 121 [(7, .int x7_L62), (6, .ref (aJ 0)), (5, .int r_2), (0, .ref (aQ 0)), (1, .ref (aI 0)), (2, .ref (aD 0)), (3, .int x3), (4, .int x4)] []) → ∀ (n : Nat) (x7_L62 : Int32) (Q_ways_L62 : Int32) (Q_untold_L62 : Int32) (Q_trial_L62 : (Nat → Int32)) (Q_first_L62 : (Nat → Int32)) (Q_suspects_L62 : (Nat → Int32)) (J_law_L62 : Int32) (J_there_L62 : Int32) (J_sleepers_L62 : (Nat → Int32)) (J_empty_L62 : (Nat → Int32)) (J_empties_L62 : Int32) (J_yard_L62 : (Nat → Int32)) (J_waiting_L62 : Int32) (J_nights_L62 : (Nat → Int32)) (J_used_L62 : (Nat → Int32)) (J_sheets_L62 : (Nat → Int32)) (J_lastOnes_L62 : (Nat → Int32)) (J_guestsWithFleas_L62 : Int32) (J_bedsWithFleas_L62 : Int32) (J_isCounting_L62 : Int32) (T_list_L62 : (List InnS)) (hT62 : aU.length = T_list_L62.length), f_X1_fillFrom_L62 (f_X1_fillFrom nR) x4 r_2 H_beds H_law H_sights H_isKept H_worths H_sightGuests H_sightBeds D_length D_signs I_law_12 I_there_12 I_sleepers_12 I_empty_12 I_empties_12 I_yard_12 I_waiting_12 I_nights_12 I_used_12 I_sheets_12 I_lastOnes_12 I_guestsWithFleas_12 I_bedsWithFleas_12 I_isCounting_12 n x7_L62 Q_ways_L62 Q_untold_L62 Q_trial_L62 Q_first_L62 Q_suspects_L62 J_law_L62 J_there_L62 J_sleepers_L62 J_empty_L62 J_empties_L62 J_yard_L62 J_waiting_L62 J_nights_L62 J_used_L62 J_sheets_L62 J_lastOnes_L62 J_guestsWithFleas_L62 J_bedsWithFleas_L62 J_isCounting_L62 T_list_L62 kL = some rr → G p l e R s m args below meth c 8 D A H0 0 0 Q [hC cI aH (H_beds, H_law, H_sights, H_isKept, H_worths, H_sightGuests, H_sightBeds), dC cI aD (D_length, D_signs), qC cI aQ (Q_ways_L62, Q_untold_L62, Q_trial_L62, Q_first_L62, Q_suspects_L62), iC cI aI (aH 0) (some (aJ 0)) (I_law_12, I_there_12, I_sleepers_12, I_empty_12, I_empties_12, I_yard_12, I_waiting_12, I_nights_12, I_used_12, I_sheets_12, I_lastOnes_12, I_guestsWithFleas_12, I_bedsWithFleas_12, I_isCounting_12), iC cI aJ (aH 0) (nx aU) (J_law_L62, J_there_L62, J_sleepers_L62, J_empty_L62, J_empties_L62, J_yard_L62, J_waiting_L62, J_nights_L62, J_used_L62, J_sheets_L62, J_lastOnes_L62, J_guestsWithFleas_L62, J_bedsWithFleas_L62, J_isCounting_L62), chW cI (aH 0) aU T_list_L62] 62 [(7, .int x7_L62), (6, .ref (aJ 0)), (5, .int r_2), (0, .ref (aQ 0)), (1, .ref (aI 0)), (2, .ref (aD 0)), (3, .int x3), (4, .int x4)] [] := by
              intro kL hkL62 n
              induction n with
              | zero =>
                intro x7_L62 Q_ways_L62 Q_untold_L62 Q_trial_L62 Q_first_L62 Q_suspects_L62 J_law_L62 J_there_L62 J_sleepers_L62 J_empty_L62 J_empties_L62 J_yard_L62 J_waiting_L62 J_nights_L62 J_used_L62 J_sheets_L62 J_lastOnes_L62 J_guestsWithFleas_L62 J_bedsWithFleas_L62 J_isCounting_L62 T_list_L62 hT62 hf
                rw [f_X1_fillFrom_L62] at hf
                cases hf
              | succ n ihL62 =>
                intro x7_L62 Q_ways_L62 Q_untold_L62 Q_trial_L62 Q_first_L62 Q_suspects_L62 J_law_L62 J_there_L62 J_sleepers_L62 J_empty_L62 J_empties_L62 J_yard_L62 J_waiting_L62 J_nights_L62 J_used_L62 J_sheets_L62 J_lastOnes_L62 J_guestsWithFleas_L62 J_bedsWithFleas_L62 J_isCounting_L62 T_list_L62 hT62 hf
                rw [f_X1_fillFrom_L62] at hf
                refine gq_iload C 0 64 dX1_fillFrom_62 rfl rfl ?_
                refine gq_bipush C (nI 8) 66 dX1_fillFrom_64 (by decide) rfl ?_
                refine gq_icmp_ge C 121 69 dX1_fillFrom_66 (by decide) rfl (fun h66 => ?_) (fun h66 => ?_)
                · replace hf := gq_ifp h66 hf
                  exact hkL62 _ _ _ _ _ _ _ _ _ _ _ _ _ _ _ _ _ _ _ _ _ (by omega) hf
                · replace hf := gq_ifn h66 hf
                  refine gq_aload_n C 4 70 dX1_fillFrom_69 rfl rfl ?_
                  refine gq_iload C 0 72 dX1_fillFrom_70 rfl rfl ?_
                  obtain ⟨r_72, hc, hf⟩ := gq_bd hf
                  refine gq_callN C hA gm_X1_67 (c_X3_isThere l D cI cZ aI (aH 0) (some (aJ 0)) x7_L62 (I_law_12, I_there_12, I_sleepers_12, I_empty_12, I_empties_12, I_yard_12, I_waiting_12, I_nights_12, I_used_12, I_sheets_12, I_lastOnes_12, I_guestsWithFleas_12, I_bedsWithFleas_12, I_isCounting_12) _ hc) rfl 3 0 rfl rfl rfl ⟨Nat.le_trans (by omega) hR.1, Nat.le_trans (by omega) hR.2.1⟩ ⟨Nat.zero_le _, Nat.zero_le _⟩ rfl (Nat.le_of_ble_eq_true rfl) dX1_fillFrom_72 [3] [hC cI aH (H_beds, H_law, H_sights, H_isKept, H_worths, H_sightGuests, H_sightBeds), dC cI aD (D_length, D_signs), qC cI aQ (Q_ways_L62, Q_untold_L62, Q_trial_L62, Q_first_L62, Q_suspects_L62), iC cI aI (aH 0) (some (aJ 0)) (I_law_12, I_there_12, I_sleepers_12, I_empty_12, I_empties_12, I_yard_12, I_waiting_12, I_nights_12, I_used_12, I_sheets_12, I_lastOnes_12, I_guestsWithFleas_12, I_bedsWithFleas_12, I_isCounting_12), iC cI aJ (aH 0) (nx aU) (J_law_L62, J_there_L62, J_sleepers_L62, J_empty_L62, J_empties_L62, J_yard_L62, J_waiting_L62, J_nights_L62, J_used_L62, J_sheets_L62, J_lastOnes_L62, J_guestsWithFleas_L62, J_bedsWithFleas_L62, J_isCounting_L62), chW cI (aH 0) aU T_list_L62] 75 rfl (by decide) rfl rfl rfl [.int r_72] rfl ?_
                  refine gq_if_ne C 115 78 dX1_fillFrom_75 (by decide) rfl (fun h75 => ?_) (fun h75 => ?_)
                  · replace hf := gq_ifn h75 hf
                    refine gq_iinc C 0 [(7, .int (x7_L62 + (nI 1))), (6, .ref (aJ 0)), (5, .int r_2), (0, .ref (aQ 0)), (1, .ref (aI 0)), (2, .ref (aD 0)), (3, .int x3), (4, .int x4)] 118 dX1_fillFrom_115 rfl rfl (by decide) rfl rfl ?_
                    refine gq_goto C 62 dX1_fillFrom_118 (by decide) ?_
                    exact ihL62 _ _ _ _ _ _ _ _ _ _ _ _ _ _ _ _ _ _ _ _ _ (by omega) hf
                  · replace hf := gq_ifp h75 hf
                    refine gq_aload C 1 80 dX1_fillFrom_78 rfl rfl ?_
                    refine gq_aload_n C 4 81 dX1_fillFrom_80 rfl rfl ?_
                    obtain ⟨⟨J_law_81, J_there_81, J_sleepers_81, J_empty_81, J_empties_81, J_yard_81, J_waiting_81, J_nights_81, J_used_81, J_sheets_81, J_lastOnes_81, J_guestsWithFleas_81, J_bedsWithFleas_81, J_isCounting_81⟩, hc, hf⟩ := gq_bd hf
                    refine gq_callN C hA gm_X1_71 (c_X3_standAs l D cI cZ aJ (aH 0) (nx aU) aI (aH 0) (some (aJ 0)) (J_law_L62, J_there_L62, J_sleepers_L62, J_empty_L62, J_empties_L62, J_yard_L62, J_waiting_L62, J_nights_L62, J_used_L62, J_sheets_L62, J_lastOnes_L62, J_guestsWithFleas_L62, J_bedsWithFleas_L62, J_isCounting_L62) (I_law_12, I_there_12, I_sleepers_12, I_empty_12, I_empties_12, I_yard_12, I_waiting_12, I_nights_12, I_used_12, I_sheets_12, I_lastOnes_12, I_guestsWithFleas_12, I_bedsWithFleas_12, I_isCounting_12) _ hc) rfl 4 0 rfl rfl rfl ⟨Nat.le_trans (by omega) hR.1, Nat.le_trans (by omega) hR.2.1⟩ ⟨Nat.zero_le _, Nat.zero_le _⟩ rfl (Nat.le_of_ble_eq_true rfl) dX1_fillFrom_81 [4, 3] [hC cI aH (H_beds, H_law, H_sights, H_isKept, H_worths, H_sightGuests, H_sightBeds), dC cI aD (D_length, D_signs), qC cI aQ (Q_ways_L62, Q_untold_L62, Q_trial_L62, Q_first_L62, Q_suspects_L62), iC cI aI (aH 0) (some (aJ 0)) (I_law_12, I_there_12, I_sleepers_12, I_empty_12, I_empties_12, I_yard_12, I_waiting_12, I_nights_12, I_used_12, I_sheets_12, I_lastOnes_12, I_guestsWithFleas_12, I_bedsWithFleas_12, I_isCounting_12), iC cI aJ (aH 0) (nx aU) (J_law_81, J_there_81, J_sleepers_81, J_empty_81, J_empties_81, J_yard_81, J_waiting_81, J_nights_81, J_used_81, J_sheets_81, J_lastOnes_81, J_guestsWithFleas_81, J_bedsWithFleas_81, J_isCounting_81), chW cI (aH 0) aU T_list_L62] 84 rfl (by decide) rfl rfl rfl [] rfl ?_
                    refine gq_aload C 1 86 dX1_fillFrom_84 rfl rfl ?_
                    refine gq_iload C 0 88 dX1_fillFrom_86 rfl rfl ?_
                    obtain ⟨⟨J_law_88, J_there_88, J_sleepers_88, J_empty_88, J_empties_88, J_yard_88, J_waiting_88, J_nights_88, J_used_88, J_sheets_88, J_lastOnes_88, J_guestsWithFleas_88, J_bedsWithFleas_88, J_isCounting_88⟩, hc, hf⟩ := gq_bd hf
                    refine gq_callN C hA gm_X1_74 (c_X3_takeIn l D cI cZ aH aJ (nx aU) x7_L62 (H_beds, H_law, H_sights, H_isKept, H_worths, H_sightGuests, H_sightBeds) (J_law_81, J_there_81, J_sleepers_81, J_empty_81, J_empties_81, J_yard_81, J_waiting_81, J_nights_81, J_used_81, J_sheets_81, J_lastOnes_81, J_guestsWithFleas_81, J_bedsWithFleas_81, J_isCounting_81) _ hc) rfl 4 0 rfl rfl rfl ⟨Nat.le_trans (by omega) hR.1, Nat.le_trans (by omega) hR.2.1⟩ ⟨Nat.zero_le _, Nat.zero_le _⟩ rfl (Nat.le_of_ble_eq_true rfl) dX1_fillFrom_88 [0, 4] [hC cI aH (H_beds, H_law, H_sights, H_isKept, H_worths, H_sightGuests, H_sightBeds), dC cI aD (D_length, D_signs), qC cI aQ (Q_ways_L62, Q_untold_L62, Q_trial_L62, Q_first_L62, Q_suspects_L62), iC cI aI (aH 0) (some (aJ 0)) (I_law_12, I_there_12, I_sleepers_12, I_empty_12, I_empties_12, I_yard_12, I_waiting_12, I_nights_12, I_used_12, I_sheets_12, I_lastOnes_12, I_guestsWithFleas_12, I_bedsWithFleas_12, I_isCounting_12), iC cI aJ (aH 0) (nx aU) (J_law_88, J_there_88, J_sleepers_88, J_empty_88, J_empties_88, J_yard_88, J_waiting_88, J_nights_88, J_used_88, J_sheets_88, J_lastOnes_88, J_guestsWithFleas_88, J_bedsWithFleas_88, J_isCounting_88), chW cI (aH 0) aU T_list_L62] 91 rfl (by decide) rfl rfl rfl [] rfl ?_
                    refine gq_aload_n C 3 92 dX1_fillFrom_91 rfl rfl ?_
                    refine gq_get C fo_X1_2 fw_X1_9 2 0 95 rfl rfl rfl dX1_fillFrom_92 rfl ?_
                    refine gq_iload C 7 97 dX1_fillFrom_95 rfl rfl ?_
                    refine gq_iload C 0 99 dX1_fillFrom_97 rfl rfl ?_
                    obtain ⟨h99, hf⟩ := gq_ok hf
                    refine gq_iast C 2 1 100 [hC cI aH (H_beds, H_law, H_sights, H_isKept, H_worths, H_sightGuests, H_sightBeds), dC cI aD (D_length, D_signs), qC cI aQ (Q_ways_L62, Q_untold_L62, (upd Q_trial_L62 x4.toNatClampNeg x7_L62), Q_first_L62, Q_suspects_L62), iC cI aI (aH 0) (some (aJ 0)) (I_law_12, I_there_12, I_sleepers_12, I_empty_12, I_empties_12, I_yard_12, I_waiting_12, I_nights_12, I_used_12, I_sheets_12, I_lastOnes_12, I_guestsWithFleas_12, I_bedsWithFleas_12, I_isCounting_12), iC cI aJ (aH 0) (nx aU) (J_law_88, J_there_88, J_sleepers_88, J_empty_88, J_empties_88, J_yard_88, J_waiting_88, J_nights_88, J_used_88, J_sheets_88, J_lastOnes_88, J_guestsWithFleas_88, J_bedsWithFleas_88, J_isCounting_88), chW cI (aH 0) aU T_list_L62] rfl rfl h99 rfl dX1_fillFrom_99 rfl ?_
                    refine gq_aload_n C 3 101 dX1_fillFrom_100 rfl rfl ?_
                    refine gq_aload C 1 103 dX1_fillFrom_101 rfl rfl ?_
                    refine gq_aload_n C 5 104 dX1_fillFrom_103 rfl rfl ?_
                    refine gq_iload C 2 106 dX1_fillFrom_104 rfl rfl ?_
                    refine gq_iconst C (nI 1) 107 dX1_fillFrom_106 (by decide) rfl ?_
                    refine gq_iadd C 108 dX1_fillFrom_107 rfl ?_
                    refine gq_iload C 7 110 dX1_fillFrom_108 rfl rfl ?_
                    refine gq_iconst C (nI 1) 111 dX1_fillFrom_110 (by decide) rfl ?_
                    refine gq_iadd C 112 dX1_fillFrom_111 rfl ?_
                    obtain ⟨⟨⟨Q_ways_112, Q_untold_112, Q_trial_112, Q_first_112, Q_suspects_112⟩, ⟨J_law_112, J_there_112, J_sleepers_112, J_empty_112, J_empties_112, J_yard_112, J_waiting_112, J_nights_112, J_used_112, J_sheets_112, J_lastOnes_112, J_guestsWithFleas_112, J_bedsWithFleas_112, J_isCounting_112⟩, T_list_112⟩, hc, hf⟩ := gq_bd hf
                    obtain ⟨hg112, hf⟩ := gq_gd hf
                    refine gq_callS C hA gm_X1_48 (ih aH aD aQ aJ aU (r_2 + (nI 1)) (x4 + (nI 1)) (H_beds, H_law, H_sights, H_isKept, H_worths, H_sightGuests, H_sightBeds) (D_length, D_signs) (Q_ways_L62, Q_untold_L62, (upd Q_trial_L62 x4.toNatClampNeg x7_L62), Q_first_L62, Q_suspects_L62) (J_law_88, J_there_88, J_sleepers_88, J_empty_88, J_empties_88, J_yard_88, J_waiting_88, J_nights_88, J_used_88, J_sheets_88, J_lastOnes_88, J_guestsWithFleas_88, J_bedsWithFleas_88, J_isCounting_88) T_list_L62 _ (by omega) hc) rfl ⟨Nat.le_trans (by omega) hR.1, Nat.le_trans (by omega) hR.2.1⟩ ⟨Nat.zero_le _, Nat.zero_le _⟩ rfl (Nat.le_of_ble_eq_true rfl) dX1_fillFrom_112 [0, 1, 2, 4, 5] [hC cI aH (H_beds, H_law, H_sights, H_isKept, H_worths, H_sightGuests, H_sightBeds), dC cI aD (D_length, D_signs), qC cI aQ (Q_ways_112, Q_untold_112, Q_trial_112, Q_first_112, Q_suspects_112), iC cI aI (aH 0) (some (aJ 0)) (I_law_12, I_there_12, I_sleepers_12, I_empty_12, I_empties_12, I_yard_12, I_waiting_12, I_nights_12, I_used_12, I_sheets_12, I_lastOnes_12, I_guestsWithFleas_12, I_bedsWithFleas_12, I_isCounting_12), iC cI aJ (aH 0) (nx aU) (J_law_112, J_there_112, J_sleepers_112, J_empty_112, J_empties_112, J_yard_112, J_waiting_112, J_nights_112, J_used_112, J_sheets_112, J_lastOnes_112, J_guestsWithFleas_112, J_bedsWithFleas_112, J_isCounting_112), chW cI (aH 0) aU T_list_112] 115 rfl (by decide) (by simp only [List.map_cons, List.map_nil, chW_fst (T1 := T_list_112) (T2 := T_list_L62) hg112] <;> rfl) rfl rfl [] rfl ?_
                    refine gq_iinc C 0 [(7, .int (x7_L62 + (nI 1))), (6, .ref (aJ 0)), (5, .int r_2), (0, .ref (aQ 0)), (1, .ref (aI 0)), (2, .ref (aD 0)), (3, .int x3), (4, .int x4)] 118 dX1_fillFrom_115 rfl rfl (by decide) rfl rfl ?_
                    refine gq_goto C 62 dX1_fillFrom_118 (by decide) ?_
                    exact ihL62 _ _ _ _ _ _ _ _ _ _ _ _ _ _ _ _ _ _ _ _ _ (by omega) hf
            refine L62 _ (fun x7_L62 Q_ways_L62 Q_untold_L62 Q_trial_L62 Q_first_L62 Q_suspects_L62 J_law_L62 J_there_L62 J_sleepers_L62 J_empty_L62 J_empties_L62 J_yard_L62 J_waiting_L62 J_nights_L62 J_used_L62 J_sheets_L62 J_lastOnes_L62 J_guestsWithFleas_L62 J_bedsWithFleas_L62 J_isCounting_L62 T_list_L62 hT62 hf => ?_) _ _ _ _ _ _ _ _ _ _ _ _ _ _ _ _ _ _ _ _ _ _ (by omega) hf
            obtain rfl := gq_lf hf
            refine gq_flat (ws' := [hC cI aH (H_beds, H_law, H_sights, H_isKept, H_worths, H_sightGuests, H_sightBeds), dC cI aD (D_length, D_signs), qC cI aQ (Q_ways_L62, Q_untold_L62, Q_trial_L62, Q_first_L62, Q_suspects_L62), iC cI aI (aH 0) (nx (aJ :: aU)) (I_law_12, I_there_12, I_sleepers_12, I_empty_12, I_empties_12, I_yard_12, I_waiting_12, I_nights_12, I_used_12, I_sheets_12, I_lastOnes_12, I_guestsWithFleas_12, I_bedsWithFleas_12, I_isCounting_12), chW cI (aH 0) (aJ :: aU) ((J_law_L62, J_there_L62, J_sleepers_L62, J_empty_L62, J_empties_L62, J_yard_L62, J_waiting_L62, J_nights_L62, J_used_L62, J_sheets_L62, J_lastOnes_L62, J_guestsWithFleas_L62, J_bedsWithFleas_L62, J_isCounting_L62) :: T_list_L62)]) rfl ?_
            exact hret dX1_fillFrom_121 gPost.rf
          · replace hf := gq_ifn h55 hf
            obtain rfl := gq_lf hf
            refine gq_flat (ws' := [hC cI aH (H_beds, H_law, H_sights, H_isKept, H_worths, H_sightGuests, H_sightBeds), dC cI aD (D_length, D_signs), qC cI aQ (Q_ways, Q_untold, Q_trial, Q_first, Q_suspects), iC cI aI (aH 0) (nx (aJ :: aU)) (I_law_12, I_there_12, I_sleepers_12, I_empty_12, I_empties_12, I_yard_12, I_waiting_12, I_nights_12, I_used_12, I_sheets_12, I_lastOnes_12, I_guestsWithFleas_12, I_bedsWithFleas_12, I_isCounting_12), chW cI (aH 0) (aJ :: aU) ((J_law, J_there, J_sleepers, J_empty, J_empties, J_yard, J_waiting, J_nights, J_used, J_sheets, J_lastOnes, J_guestsWithFleas, J_bedsWithFleas, J_isCounting) :: T_tl)]) rfl ?_
            exact hret dX1_fillFrom_58 gPost.rf
      · replace hf := gq_ifn h27 hf
        refine gq_aload_n C 1 31 dX1_fillFrom_30 rfl rfl ?_
        refine gq_aload_n C 2 32 dX1_fillFrom_31 rfl rfl ?_
        obtain ⟨⟨Q_ways_32, Q_untold_32, Q_trial_32, Q_first_32, Q_suspects_32⟩, hc, hf⟩ := gq_bd hf
        refine gq_callV C hA gm_X1_59 (c_X1_keepIfSeen l D cI cZ aH aQ aI (nx aT) (H_beds, H_law, H_sights, H_isKept, H_worths, H_sightGuests, H_sightBeds) (Q_ways, Q_untold, Q_trial, Q_first, Q_suspects) (I_law_12, I_there_12, I_sleepers_12, I_empty_12, I_empties_12, I_yard_12, I_waiting_12, I_nights_12, I_used_12, I_sheets_12, I_lastOnes_12, I_guestsWithFleas_12, I_bedsWithFleas_12, I_isCounting_12) _ hc) rfl 2 0 rfl rfl rfl ⟨Nat.le_trans (by omega) hR.1, Nat.le_trans (by omega) hR.2.1⟩ ⟨Nat.zero_le _, Nat.zero_le _⟩ rfl (Nat.le_of_ble_eq_true rfl) dX1_fillFrom_32 [0, 2, 3] [hC cI aH (H_beds, H_law, H_sights, H_isKept, H_worths, H_sightGuests, H_sightBeds), dC cI aD (D_length, D_signs), qC cI aQ (Q_ways_32, Q_untold_32, Q_trial_32, Q_first_32, Q_suspects_32), iC cI aI (aH 0) (nx aT) (I_law_12, I_there_12, I_sleepers_12, I_empty_12, I_empties_12, I_yard_12, I_waiting_12, I_nights_12, I_used_12, I_sheets_12, I_lastOnes_12, I_guestsWithFleas_12, I_bedsWithFleas_12, I_isCounting_12), chW cI (aH 0) aT T_list] 35 rfl (by decide) rfl rfl rfl [] rfl ?_
        obtain rfl := gq_lf hf
        exact hret dX1_fillFrom_35 gPost.rf
    · replace hf := gq_ifn h17 hf
      obtain rfl := gq_lf hf
      exact hret dX1_fillFrom_20 gPost.rf

def f_X1_search_L13 (c_D_length : Int32) (c_D_signs : (Nat → Int32)) : Nat → Int32 → Int32 → (Int32 → Int32 → Option (GueS × InnS × (List InnS))) → Option (GueS × InnS × (List InnS))
  | 0, _, _, _ => none
  | nL13 + 1, x4_L13, Q_untold_L13, kL13 => (if c_D_length ≤ x4_L13 then kL13 x4_L13 Q_untold_L13 else (Option.bind (f_X0_signAt x4_L13 (c_D_length, c_D_signs)) (fun r_30 => (if r_30 = (nI 63) then f_X1_search_L13 c_D_length c_D_signs nL13 (x4_L13 + (nI 1)) (Q_untold_L13 + (nI 1)) kL13 else f_X1_search_L13 c_D_length c_D_signs nL13 (x4_L13 + (nI 1)) (Q_untold_L13 + (nI 0)) kL13))))
def f_X1_search_L56  : Nat → Int32 → (Nat → Int32) → (Int32 → (Nat → Int32) → Option (GueS × InnS × (List InnS))) → Option (GueS × InnS × (List InnS))
  | 0, _, _, _ => none
  | nL56 + 1, x4_L56, Q_suspects_L56, kL56 => (if (nI 3) ≤ x4_L56 then kL56 x4_L56 Q_suspects_L56 else (if x4_L56 < 0 ∨ 3 ≤ x4_L56.toNatClampNeg then none else f_X1_search_L56  nL56 (x4_L56 + (nI 1)) (upd Q_suspects_L56 x4_L56.toNatClampNeg (nI 0)) kL56))
def f_X1_search : HouS → DayS → GueS → InnS → (List InnS) → Option (GueS × InnS × (List InnS))
  | (H_beds, H_law, H_sights, H_isKept, H_worths, H_sightGuests, H_sightBeds), (D_length, D_signs), (Q_ways, Q_untold, Q_trial, Q_first, Q_suspects), (I_law, I_there, I_sleepers, I_empty, I_empties, I_yard, I_waiting, I_nights, I_used, I_sheets, I_lastOnes, I_guestsWithFleas, I_bedsWithFleas, I_isCounting), T_list => f_X1_search_L13 D_length D_signs FU (nI 0) (nI 0) (fun x4_L13 Q_untold_L13 => f_X1_search_L56  FU (nI 0) Q_suspects (fun x4_L56 Q_suspects_L56 => (Option.bind (f_X3_open H_law (H_beds, H_law, H_sights, H_isKept, H_worths, H_sightGuests, H_sightBeds) (I_law, I_there, I_sleepers, I_empty, I_empties, I_yard, I_waiting, I_nights, I_used, I_sheets, I_lastOnes, I_guestsWithFleas, I_bedsWithFleas, I_isCounting)) (fun (I_law_81, I_there_81, I_sleepers_81, I_empty_81, I_empties_81, I_yard_81, I_waiting_81, I_nights_81, I_used_81, I_sheets_81, I_lastOnes_81, I_guestsWithFleas_81, I_bedsWithFleas_81, I_isCounting_81) => (Option.bind (f_X1_fillFrom 10 (nI 0) (nI 0) (H_beds, H_law, H_sights, H_isKept, H_worths, H_sightGuests, H_sightBeds) (D_length, D_signs) ((nI 0), Q_untold_L13, Q_trial, Q_first, Q_suspects_L56) (I_law_81, I_there_81, I_sleepers_81, I_empty_81, I_empties_81, I_yard_81, I_waiting_81, I_nights_81, I_used_81, I_sheets_81, I_lastOnes_81, I_guestsWithFleas_81, I_bedsWithFleas_81, I_isCounting_81) T_list) (fun ((Q_ways_89, Q_untold_89, Q_trial_89, Q_first_89, Q_suspects_89), (I_law_89, I_there_89, I_sleepers_89, I_empty_89, I_empties_89, I_yard_89, I_waiting_89, I_nights_89, I_used_89, I_sheets_89, I_lastOnes_89, I_guestsWithFleas_89, I_bedsWithFleas_89, I_isCounting_89), T_list_89) => (if T_list_89.length = T_list.length then some ((Q_ways_89, Q_untold_89, Q_trial_89, Q_first_89, Q_suspects_89), (I_law_89, I_there_89, I_sleepers_89, I_empty_89, I_empties_89, I_yard_89, I_waiting_89, I_nights_89, I_used_89, I_sheets_89, I_lastOnes_89, I_guestsWithFleas_89, I_bedsWithFleas_89, I_isCounting_89), T_list_89) else none)))))))
set_option maxHeartbeats 4000000 in
set_option maxRecDepth 100000 in
theorem c_X1_search (l : Launch) (D : va_G) (cI cZ : ClassId) (aH : Nat → Nat) (aD : Nat → Nat) (aQ : Nat → Nat) (aI : Nat → Nat) (aT : List (Nat → Nat)) (tH : HouS) (tD : DayS) (tQ : GueS) (tI : InnS) (tT : (List InnS)) (rr : GueS × InnS × (List InnS)) (hln : aT.length = tT.length) (hf : f_X1_search tH tD tQ tI tT = some rr) : CT l D cI cZ yX1_search cX1_search 5 none 41 827 0 0 [.ref (aQ 0), .ref (aI 0), .ref (aD 0), .ref (aH 0)] ([hC cI aH tH, dC cI aD tD, qC cI aQ tQ, iC cI aI (aH 0) (nx aT) tI, chW cI (aH 0) aT tT]) (gPost none ([hC cI aH tH, dC cI aD tD, qC cI aQ rr.1, iC cI aI (aH 0) (nx aT) rr.2.1, chW cI (aH 0) aT rr.2.2])) := by
  obtain ⟨H_beds, H_law, H_sights, H_isKept, H_worths, H_sightGuests, H_sightBeds⟩ := tH
  obtain ⟨D_length, D_signs⟩ := tD
  obtain ⟨Q_ways, Q_untold, Q_trial, Q_first, Q_suspects⟩ := tQ
  obtain ⟨I_law, I_there, I_sleepers, I_empty, I_empties, I_yard, I_waiting, I_nights, I_used, I_sheets, I_lastOnes, I_guestsWithFleas, I_bedsWithFleas, I_isCounting⟩ := tI
  obtain ⟨T_list, rfl⟩ : ∃ z, z = tT := ⟨_, rfl⟩
  rw [f_X1_search] at hf
  refine CT.mkV (by decide) (Nat.le_of_ble_eq_true rfl) fun {p} {e} {R} {s} {m} {args} {below} {meth} {c} {A} {H0} {Q} C hA hR hnm hret => ?_
  show G p l e R s m args below meth c 5 D A H0 0 0 Q [hC cI aH (H_beds, H_law, H_sights, H_isKept, H_worths, H_sightGuests, H_sightBeds), dC cI aD (D_length, D_signs), qC cI aQ (Q_ways, Q_untold, Q_trial, Q_first, Q_suspects), iC cI aI (aH 0) (nx aT) (I_law, I_there, I_sleepers, I_empty, I_empties, I_yard, I_waiting, I_nights, I_used, I_sheets, I_lastOnes, I_guestsWithFleas, I_bedsWithFleas, I_isCounting), chW cI (aH 0) aT T_list] 0 [(0, .ref (aQ 0)), (1, .ref (aI 0)), (2, .ref (aD 0)), (3, .ref (aH 0))] []
  refine gq_aload_n C 0 1 dX1_search_0 rfl rfl ?_
  refine gq_iconst C (nI 0) 2 dX1_search_1 (by decide) rfl ?_
  refine gq_put C fo_X1_0 fp_X1_0 rfl fw_X1_21 2 0 5 [hC cI aH (H_beds, H_law, H_sights, H_isKept, H_worths, H_sightGuests, H_sightBeds), dC cI aD (D_length, D_signs), qC cI aQ ((nI 0), Q_untold, Q_trial, Q_first, Q_suspects), iC cI aI (aH 0) (nx aT) (I_law, I_there, I_sleepers, I_empty, I_empties, I_yard, I_waiting, I_nights, I_used, I_sheets, I_lastOnes, I_guestsWithFleas, I_bedsWithFleas, I_isCounting), chW cI (aH 0) aT T_list] rfl rfl rfl rfl (Nat.le_of_ble_eq_true rfl) rfl dX1_search_2 rfl ?_
  refine gq_aload_n C 0 6 dX1_search_5 rfl rfl ?_
  refine gq_iconst C (nI 0) 7 dX1_search_6 (by decide) rfl ?_
  refine gq_put C fo_X1_1 fp_X1_1 rfl fw_X1_25 2 0 10 [hC cI aH (H_beds, H_law, H_sights, H_isKept, H_worths, H_sightGuests, H_sightBeds), dC cI aD (D_length, D_signs), qC cI aQ ((nI 0), (nI 0), Q_trial, Q_first, Q_suspects), iC cI aI (aH 0) (nx aT) (I_law, I_there, I_sleepers, I_empty, I_empties, I_yard, I_waiting, I_nights, I_used, I_sheets, I_lastOnes, I_guestsWithFleas, I_bedsWithFleas, I_isCounting), chW cI (aH 0) aT T_list] rfl rfl rfl rfl (Nat.le_of_ble_eq_true rfl) rfl dX1_search_7 rfl ?_
  refine gq_iconst C (nI 0) 11 dX1_search_10 (by decide) rfl ?_
  refine gq_istore C [(4, .int (nI 0)), (0, .ref (aQ 0)), (1, .ref (aI 0)), (2, .ref (aD 0)), (3, .ref (aH 0))] 13 dX1_search_11 (by decide) rfl rfl ?_
  have L13 : ∀ (kL : Int32 → Int32 → Option (GueS × InnS × (List InnS))), (∀ (x4_L13 : Int32) (Q_untold_L13 : Int32), kL x4_L13 Q_untold_L13 = some rr → G p l e R s m args below meth c 5 D A H0 0 0 Q [hC cI aH (H_beds, H_law, H_sights, H_isKept, H_worths, H_sightGuests, H_sightBeds), dC cI aD (D_length, D_signs), qC cI aQ ((nI 0), Q_untold_L13, Q_trial, Q_first, Q_suspects), iC cI aI (aH 0) (nx aT) (I_law, I_there, I_sleepers, I_empty, I_empties, I_yard, I_waiting, I_nights, I_used, I_sheets, I_lastOnes, I_guestsWithFleas, I_bedsWithFleas, I_isCounting), chW cI (aH 0) aT T_list] 53 [(4, .int x4_L13), (0, .ref (aQ 0)), (1, .ref (aI 0)), (2, .ref (aD 0)), (3, .ref (aH 0))] []) → ∀ (n : Nat) (x4_L13 : Int32) (Q_untold_L13 : Int32), f_X1_search_L13 D_length D_signs n x4_L13 Q_untold_L13 kL = some rr → G p l e R s m args below meth c 5 D A H0 0 0 Q [hC cI aH (H_beds, H_law, H_sights, H_isKept, H_worths, H_sightGuests, H_sightBeds), dC cI aD (D_length, D_signs), qC cI aQ ((nI 0), Q_untold_L13, Q_trial, Q_first, Q_suspects), iC cI aI (aH 0) (nx aT) (I_law, I_there, I_sleepers, I_empty, I_empties, I_yard, I_waiting, I_nights, I_used, I_sheets, I_lastOnes, I_guestsWithFleas, I_bedsWithFleas, I_isCounting), chW cI (aH 0) aT T_list] 13 [(4, .int x4_L13), (0, .ref (aQ 0)), (1, .ref (aI 0)), (2, .ref (aD 0)), (3, .ref (aH 0))] [] := by
    intro kL hkL13 n
    induction n with
    | zero =>
      intro x4_L13 Q_untold_L13 hf
      rw [f_X1_search_L13] at hf
      cases hf
    | succ n ihL13 =>
      intro x4_L13 Q_untold_L13 hf
      rw [f_X1_search_L13] at hf
      refine gq_iload C 0 15 dX1_search_13 rfl rfl ?_
      refine gq_aload_n C 3 16 dX1_search_15 rfl rfl ?_
      refine gq_getN C fo_X0_0 fw_X1_28 1 0 19 rfl rfl rfl dX1_search_16 rfl ?_
      refine gq_icmp_ge C 53 22 dX1_search_19 (by decide) rfl (fun h19 => ?_) (fun h19 => ?_)
      · replace hf := gq_ifp h19 hf
        exact hkL13 _ _ hf
      · replace hf := gq_ifn h19 hf
        refine gq_aload_n C 1 23 dX1_search_22 rfl rfl ?_
        refine gq_dup C 24 dX1_search_23 rfl rfl ?_
        refine gq_get C fo_X1_1 fw_X1_25 2 0 27 rfl rfl rfl dX1_search_24 rfl ?_
        refine gq_aload_n C 3 28 dX1_search_27 rfl rfl ?_
        refine gq_iload C 0 30 dX1_search_28 rfl rfl ?_
        obtain ⟨r_30, hc, hf⟩ := gq_bd hf
        refine gq_callN C hA gm_X1_33 (c_X0_signAt l D cI cZ aD x4_L13 (D_length, D_signs) _ hc) rfl 1 0 rfl rfl rfl ⟨Nat.le_trans (Nat.le_of_ble_eq_true rfl) hR.1, Nat.le_trans (Nat.le_of_ble_eq_true rfl) hR.2.1⟩ ⟨Nat.zero_le _, Nat.zero_le _⟩ rfl (Nat.le_of_ble_eq_true rfl) dX1_search_30 [1] [hC cI aH (H_beds, H_law, H_sights, H_isKept, H_worths, H_sightGuests, H_sightBeds), dC cI aD (D_length, D_signs), qC cI aQ ((nI 0), Q_untold_L13, Q_trial, Q_first, Q_suspects), iC cI aI (aH 0) (nx aT) (I_law, I_there, I_sleepers, I_empty, I_empties, I_yard, I_waiting, I_nights, I_used, I_sheets, I_lastOnes, I_guestsWithFleas, I_bedsWithFleas, I_isCounting), chW cI (aH 0) aT T_list] 33 rfl (by decide) rfl rfl rfl [.int r_30, .int Q_untold_L13, .ref (aQ 0)] rfl ?_
        refine gq_bipush C (nI 63) 35 dX1_search_33 (by decide) rfl ?_
        refine gq_icmp_ne C 42 38 dX1_search_35 (by decide) rfl (fun h35 => ?_) (fun h35 => ?_)
        · replace hf := gq_ifn h35 hf
          refine gq_iconst C (nI 0) 43 dX1_search_42 (by decide) rfl ?_
          refine gq_iadd C 44 dX1_search_43 rfl ?_
          refine gq_put C fo_X1_1 fp_X1_1 rfl fw_X1_25 2 0 47 [hC cI aH (H_beds, H_law, H_sights, H_isKept, H_worths, H_sightGuests, H_sightBeds), dC cI aD (D_length, D_signs), qC cI aQ ((nI 0), (Q_untold_L13 + (nI 0)), Q_trial, Q_first, Q_suspects), iC cI aI (aH 0) (nx aT) (I_law, I_there, I_sleepers, I_empty, I_empties, I_yard, I_waiting, I_nights, I_used, I_sheets, I_lastOnes, I_guestsWithFleas, I_bedsWithFleas, I_isCounting), chW cI (aH 0) aT T_list] rfl rfl rfl rfl (Nat.le_of_ble_eq_true rfl) rfl dX1_search_44 rfl ?_
          refine gq_iinc C 0 [(4, .int (x4_L13 + (nI 1))), (0, .ref (aQ 0)), (1, .ref (aI 0)), (2, .ref (aD 0)), (3, .ref (aH 0))] 50 dX1_search_47 rfl rfl (by decide) rfl rfl ?_
          refine gq_goto C 13 dX1_search_50 (by decide) ?_
          exact ihL13 _ _ hf
        · replace hf := gq_ifp h35 hf
          refine gq_iconst C (nI 1) 39 dX1_search_38 (by decide) rfl ?_
          refine gq_goto C 43 dX1_search_39 (by decide) ?_
          refine gq_iadd C 44 dX1_search_43 rfl ?_
          refine gq_put C fo_X1_1 fp_X1_1 rfl fw_X1_25 2 0 47 [hC cI aH (H_beds, H_law, H_sights, H_isKept, H_worths, H_sightGuests, H_sightBeds), dC cI aD (D_length, D_signs), qC cI aQ ((nI 0), (Q_untold_L13 + (nI 1)), Q_trial, Q_first, Q_suspects), iC cI aI (aH 0) (nx aT) (I_law, I_there, I_sleepers, I_empty, I_empties, I_yard, I_waiting, I_nights, I_used, I_sheets, I_lastOnes, I_guestsWithFleas, I_bedsWithFleas, I_isCounting), chW cI (aH 0) aT T_list] rfl rfl rfl rfl (Nat.le_of_ble_eq_true rfl) rfl dX1_search_44 rfl ?_
          refine gq_iinc C 0 [(4, .int (x4_L13 + (nI 1))), (0, .ref (aQ 0)), (1, .ref (aI 0)), (2, .ref (aD 0)), (3, .ref (aH 0))] 50 dX1_search_47 rfl rfl (by decide) rfl rfl ?_
          refine gq_goto C 13 dX1_search_50 (by decide) ?_
          exact ihL13 _ _ hf
  refine L13 _ (fun x4_L13 Q_untold_L13 hf => ?_) _ _ _ hf
  refine gq_iconst C (nI 0) 54 dX1_search_53 (by decide) rfl ?_
  refine gq_istore C [(4, .int (nI 0)), (0, .ref (aQ 0)), (1, .ref (aI 0)), (2, .ref (aD 0)), (3, .ref (aH 0))] 56 dX1_search_54 (by decide) rfl rfl ?_
  have L56 : ∀ (kL : Int32 → (Nat → Int32) → Option (GueS × InnS × (List InnS))), (∀ (x4_L56 : Int32) (Q_suspects_L56 : (Nat → Int32)), kL x4_L56 Q_suspects_L56 = some rr → G p l e R s m args below meth c 5 D A H0 0 0 Q [hC cI aH (H_beds, H_law, H_sights, H_isKept, H_worths, H_sightGuests, H_sightBeds), dC cI aD (D_length, D_signs), qC cI aQ ((nI 0), Q_untold_L13, Q_trial, Q_first, Q_suspects_L56), iC cI aI (aH 0) (nx aT) (I_law, I_there, I_sleepers, I_empty, I_empties, I_yard, I_waiting, I_nights, I_used, I_sheets, I_lastOnes, I_guestsWithFleas, I_bedsWithFleas, I_isCounting), chW cI (aH 0) aT T_list] 76 [(4, .int x4_L56), (0, .ref (aQ 0)), (1, .ref (aI 0)), (2, .ref (aD 0)), (3, .ref (aH 0))] []) → ∀ (n : Nat) (x4_L56 : Int32) (Q_suspects_L56 : (Nat → Int32)), f_X1_search_L56  n x4_L56 Q_suspects_L56 kL = some rr → G p l e R s m args below meth c 5 D A H0 0 0 Q [hC cI aH (H_beds, H_law, H_sights, H_isKept, H_worths, H_sightGuests, H_sightBeds), dC cI aD (D_length, D_signs), qC cI aQ ((nI 0), Q_untold_L13, Q_trial, Q_first, Q_suspects_L56), iC cI aI (aH 0) (nx aT) (I_law, I_there, I_sleepers, I_empty, I_empties, I_yard, I_waiting, I_nights, I_used, I_sheets, I_lastOnes, I_guestsWithFleas, I_bedsWithFleas, I_isCounting), chW cI (aH 0) aT T_list] 56 [(4, .int x4_L56), (0, .ref (aQ 0)), (1, .ref (aI 0)), (2, .ref (aD 0)), (3, .ref (aH 0))] [] := by
    intro kL hkL56 n
    induction n with
    | zero =>
      intro x4_L56 Q_suspects_L56 hf
      rw [f_X1_search_L56] at hf
      cases hf
    | succ n ihL56 =>
      intro x4_L56 Q_suspects_L56 hf
      rw [f_X1_search_L56] at hf
      refine gq_iload C 0 58 dX1_search_56 rfl rfl ?_
      refine gq_iconst C (nI 3) 59 dX1_search_58 (by decide) rfl ?_
      refine gq_icmp_ge C 76 62 dX1_search_59 (by decide) rfl (fun h59 => ?_) (fun h59 => ?_)
      · replace hf := gq_ifp h59 hf
        exact hkL56 _ _ hf
      · replace hf := gq_ifn h59 hf
        refine gq_aload_n C 1 63 dX1_search_62 rfl rfl ?_
        refine gq_get C fo_X1_4 fw_X1_18 2 0 66 rfl rfl rfl dX1_search_63 rfl ?_
        refine gq_iload C 0 68 dX1_search_66 rfl rfl ?_
        refine gq_iconst C (nI 0) 69 dX1_search_68 (by decide) rfl ?_
        obtain ⟨h69, hf⟩ := gq_ok hf
        refine gq_iast C 2 3 70 [hC cI aH (H_beds, H_law, H_sights, H_isKept, H_worths, H_sightGuests, H_sightBeds), dC cI aD (D_length, D_signs), qC cI aQ ((nI 0), Q_untold_L13, Q_trial, Q_first, (upd Q_suspects_L56 x4_L56.toNatClampNeg (nI 0))), iC cI aI (aH 0) (nx aT) (I_law, I_there, I_sleepers, I_empty, I_empties, I_yard, I_waiting, I_nights, I_used, I_sheets, I_lastOnes, I_guestsWithFleas, I_bedsWithFleas, I_isCounting), chW cI (aH 0) aT T_list] rfl rfl h69 rfl dX1_search_69 rfl ?_
        refine gq_iinc C 0 [(4, .int (x4_L56 + (nI 1))), (0, .ref (aQ 0)), (1, .ref (aI 0)), (2, .ref (aD 0)), (3, .ref (aH 0))] 73 dX1_search_70 rfl rfl (by decide) rfl rfl ?_
        refine gq_goto C 56 dX1_search_73 (by decide) ?_
        exact ihL56 _ _ hf
  refine L56 _ (fun x4_L56 Q_suspects_L56 hf => ?_) _ _ _ hf
  refine gq_aload_n C 2 77 dX1_search_76 rfl rfl ?_
  refine gq_aload_n C 4 78 dX1_search_77 rfl rfl ?_
  refine gq_getN C fo_X2_1 fw_X1_37 0 0 81 rfl rfl rfl dX1_search_78 rfl ?_
  obtain ⟨⟨I_law_81, I_there_81, I_sleepers_81, I_empty_81, I_empties_81, I_yard_81, I_waiting_81, I_nights_81, I_used_81, I_sheets_81, I_lastOnes_81, I_guestsWithFleas_81, I_bedsWithFleas_81, I_isCounting_81⟩, hc, hf⟩ := gq_bd hf
  refine gq_callN C hA gm_X1_42 (c_X3_open l D cI cZ aH aI (nx aT) H_law (H_beds, H_law, H_sights, H_isKept, H_worths, H_sightGuests, H_sightBeds) (I_law, I_there, I_sleepers, I_empty, I_empties, I_yard, I_waiting, I_nights, I_used, I_sheets, I_lastOnes, I_guestsWithFleas, I_bedsWithFleas, I_isCounting) _ hc) rfl 3 0 rfl rfl rfl ⟨Nat.le_trans (Nat.le_of_ble_eq_true rfl) hR.1, Nat.le_trans (Nat.le_of_ble_eq_true rfl) hR.2.1⟩ ⟨Nat.zero_le _, Nat.zero_le _⟩ rfl (Nat.le_of_ble_eq_true rfl) dX1_search_81 [0, 3] [hC cI aH (H_beds, H_law, H_sights, H_isKept, H_worths, H_sightGuests, H_sightBeds), dC cI aD (D_length, D_signs), qC cI aQ ((nI 0), Q_untold_L13, Q_trial, Q_first, Q_suspects_L56), iC cI aI (aH 0) (nx aT) (I_law_81, I_there_81, I_sleepers_81, I_empty_81, I_empties_81, I_yard_81, I_waiting_81, I_nights_81, I_used_81, I_sheets_81, I_lastOnes_81, I_guestsWithFleas_81, I_bedsWithFleas_81, I_isCounting_81), chW cI (aH 0) aT T_list] 84 rfl (by decide) rfl rfl rfl [] rfl ?_
  refine gq_aload_n C 1 85 dX1_search_84 rfl rfl ?_
  refine gq_aload_n C 2 86 dX1_search_85 rfl rfl ?_
  refine gq_aload_n C 3 87 dX1_search_86 rfl rfl ?_
  refine gq_iconst C (nI 0) 88 dX1_search_87 (by decide) rfl ?_
  refine gq_iconst C (nI 0) 89 dX1_search_88 (by decide) rfl ?_
  obtain ⟨⟨⟨Q_ways_89, Q_untold_89, Q_trial_89, Q_first_89, Q_suspects_89⟩, ⟨I_law_89, I_there_89, I_sleepers_89, I_empty_89, I_empties_89, I_yard_89, I_waiting_89, I_nights_89, I_used_89, I_sheets_89, I_lastOnes_89, I_guestsWithFleas_89, I_bedsWithFleas_89, I_isCounting_89⟩, T_list_89⟩, hc, hf⟩ := gq_bd hf
  obtain ⟨hg89, hf⟩ := gq_gd hf
  refine gq_callS C hA gm_X1_48 (c_X1_fillFrom l D cI cZ 10 aH aD aQ aI aT (nI 0) (nI 0) (H_beds, H_law, H_sights, H_isKept, H_worths, H_sightGuests, H_sightBeds) (D_length, D_signs) ((nI 0), Q_untold_L13, Q_trial, Q_first, Q_suspects_L56) (I_law_81, I_there_81, I_sleepers_81, I_empty_81, I_empties_81, I_yard_81, I_waiting_81, I_nights_81, I_used_81, I_sheets_81, I_lastOnes_81, I_guestsWithFleas_81, I_bedsWithFleas_81, I_isCounting_81) T_list _ (by omega) hc) rfl ⟨Nat.le_trans (Nat.le_of_ble_eq_true rfl) hR.1, Nat.le_trans (Nat.le_of_ble_eq_true rfl) hR.2.1⟩ ⟨Nat.zero_le _, Nat.zero_le _⟩ rfl (Nat.le_of_ble_eq_true rfl) dX1_search_89 [0, 1, 2, 3, 4] [hC cI aH (H_beds, H_law, H_sights, H_isKept, H_worths, H_sightGuests, H_sightBeds), dC cI aD (D_length, D_signs), qC cI aQ (Q_ways_89, Q_untold_89, Q_trial_89, Q_first_89, Q_suspects_89), iC cI aI (aH 0) (nx aT) (I_law_89, I_there_89, I_sleepers_89, I_empty_89, I_empties_89, I_yard_89, I_waiting_89, I_nights_89, I_used_89, I_sheets_89, I_lastOnes_89, I_guestsWithFleas_89, I_bedsWithFleas_89, I_isCounting_89), chW cI (aH 0) aT T_list_89] 92 rfl (by decide) (by simp only [List.map_cons, List.map_nil, chW_fst (T1 := T_list_89) (T2 := T_list) hg89] <;> rfl) rfl rfl [] rfl ?_
  obtain rfl := gq_lf hf
  exact hret dX1_search_92 gPost.rf

def f_X5_weightOf : Nat → Int32 → Int32 → Int32 → HouS → InnS → (List InnS) → Option (Int64 × (List InnS))
  | 0, _, _, _, _, _, _ => none
  | nR + 1, x1, x2, x3, (H_beds, H_law, H_sights, H_isKept, H_worths, H_sightGuests, H_sightBeds), (I_law, I_there, I_sleepers, I_empty, I_empties, I_yard, I_waiting, I_nights, I_used, I_sheets, I_lastOnes, I_guestsWithFleas, I_bedsWithFleas, I_isCounting), T_list => (if 0 < x2 then (match T_list with | [] => none | (J_law, J_there, J_sleepers, J_empty, J_empties, J_yard, J_waiting, J_nights, J_used, J_sheets, J_lastOnes, J_guestsWithFleas, J_bedsWithFleas, J_isCounting) :: T_tl => (Option.bind (f_X3_standAs (J_law, J_there, J_sleepers, J_empty, J_empties, J_yard, J_waiting, J_nights, J_used, J_sheets, J_lastOnes, J_guestsWithFleas, J_bedsWithFleas, J_isCounting) (I_law, I_there, I_sleepers, I_empty, I_empties, I_yard, I_waiting, I_nights, I_used, I_sheets, I_lastOnes, I_guestsWithFleas, I_bedsWithFleas, I_isCounting)) (fun (J_law_35, J_there_35, J_sleepers_35, J_empty_35, J_empties_35, J_yard_35, J_waiting_35, J_nights_35, J_used_35, J_sheets_35, J_lastOnes_35, J_guestsWithFleas_35, J_bedsWithFleas_35, J_isCounting_35) => (Option.bind (f_X3_takeIn (nI 8) (H_beds, H_law, H_sights, H_isKept, H_worths, H_sightGuests, H_sightBeds) (J_law_35, J_there_35, J_sleepers_35, J_empty_35, J_empties_35, J_yard_35, J_waiting_35, J_nights_35, J_used_35, J_sheets_35, J_lastOnes_35, J_guestsWithFleas_35, J_bedsWithFleas_35, J_isCounting_35)) (fun (J_law_42, J_there_42, J_sleepers_42, J_empty_42, J_empties_42, J_yard_42, J_waiting_42, J_nights_42, J_used_42, J_sheets_42, J_lastOnes_42, J_guestsWithFleas_42, J_bedsWithFleas_42, J_isCounting_42) => (Option.bind (f_X5_weightOf nR x1 (x2 - (nI 1)) x3 (H_beds, H_law, H_sights, H_isKept, H_worths, H_sightGuests, H_sightBeds) (J_law_42, J_there_42, J_sleepers_42, J_empty_42, J_empties_42, J_yard_42, J_waiting_42, J_nights_42, J_used_42, J_sheets_42, J_lastOnes_42, J_guestsWithFleas_42, J_bedsWithFleas_42, J_isCounting_42) T_tl) (fun (r_52, T_list_52) => (if T_list_52.length = T_tl.length then (Option.bind (f_X3_standAs (J_law_42, J_there_42, J_sleepers_42, J_empty_42, J_empties_42, J_yard_42, J_waiting_42, J_nights_42, J_used_42, J_sheets_42, J_lastOnes_42, J_guestsWithFleas_42, J_bedsWithFleas_42, J_isCounting_42) (I_law, I_there, I_sleepers, I_empty, I_empties, I_yard, I_waiting, I_nights, I_used, I_sheets, I_lastOnes, I_guestsWithFleas, I_bedsWithFleas, I_isCounting)) (fun (J_law_60, J_there_60, J_sleepers_60, J_empty_60, J_empties_60, J_yard_60, J_waiting_60, J_nights_60, J_used_60, J_sheets_60, J_lastOnes_60, J_guestsWithFleas_60, J_bedsWithFleas_60, J_isCounting_60) => (Option.bind (f_X3_emptyLeastBed (J_law_60, J_there_60, J_sleepers_60, J_empty_60, J_empties_60, J_yard_60, J_waiting_60, J_nights_60, J_used_60, J_sheets_60, J_lastOnes_60, J_guestsWithFleas_60, J_bedsWithFleas_60, J_isCounting_60)) (fun (J_law_65, J_there_65, J_sleepers_65, J_empty_65, J_empties_65, J_yard_65, J_waiting_65, J_nights_65, J_used_65, J_sheets_65, J_lastOnes_65, J_guestsWithFleas_65, J_bedsWithFleas_65, J_isCounting_65) => (Option.bind (f_X5_weightOf nR x1 (x2 - (nI 1)) x3 (H_beds, H_law, H_sights, H_isKept, H_worths, H_sightGuests, H_sightBeds) (J_law_65, J_there_65, J_sleepers_65, J_empty_65, J_empties_65, J_yard_65, J_waiting_65, J_nights_65, J_used_65, J_sheets_65, J_lastOnes_65, J_guestsWithFleas_65, J_bedsWithFleas_65, J_isCounting_65) T_list_52) (fun (r_75, T_list_75) => (if T_list_75.length = T_list_52.length then some ((((x3).toInt64 * r_52) + ((((nI 10) - x3)).toInt64 * r_75)), ((J_law_65, J_there_65, J_sleepers_65, J_empty_65, J_empties_65, J_yard_65, J_waiting_65, J_nights_65, J_used_65, J_sheets_65, J_lastOnes_65, J_guestsWithFleas_65, J_bedsWithFleas_65, J_isCounting_65) :: T_list_75)) else none))))))) else none)))))))) else (Option.bind (f_X3_sleeperOf x1 (I_law, I_there, I_sleepers, I_empty, I_empties, I_yard, I_waiting, I_nights, I_used, I_sheets, I_lastOnes, I_guestsWithFleas, I_bedsWithFleas, I_isCounting)) (fun r_6 => (if r_6 = (-1 : Int32) then some ((lN 0), T_list) else some ((lN 1), T_list)))))
set_option maxHeartbeats 4000000 in
set_option maxRecDepth 100000 in
theorem c_X5_weightOf (l : Launch) (D : va_G) (cI cZ : ClassId) : ∀ (nR : Nat) (aH : Nat → Nat) (aI : Nat → Nat) (aT : List (Nat → Nat)) (x1 : Int32) (x2 : Int32) (x3 : Int32) (tH : HouS) (tI : InnS) (tT : (List InnS)) (rr : Int64 × (List InnS)) (hln : aT.length = tT.length) (hf : f_X5_weightOf nR x1 x2 x3 tH tI tT = some rr), CT l D cI cZ yX5_weightOf cX5_weightOf 9 (some .long) (30 + nR) (400 + 40 * nR) 0 0 [.ref (aI 0), .int x1, .int x2, .int x3] ([hC cI aH tH, iC cI aI (aH 0) (nx aT) tI, chW cI (aH 0) aT tT]) (gPost (some (.long rr.1)) ([hC cI aH tH, iC cI aI (aH 0) (nx aT) tI, chW cI (aH 0) aT rr.2])) := by
  intro nR
  induction nR with
  | zero =>
    intro aH aI aT x1 x2 x3 tH tI tT rr hln hf
    rw [f_X5_weightOf] at hf
    cases hf
  | succ nR ih =>
    intro aH aI aT x1 x2 x3 tH tI tT rr hln hf
    obtain ⟨H_beds, H_law, H_sights, H_isKept, H_worths, H_sightGuests, H_sightBeds⟩ := tH
    obtain ⟨I_law, I_there, I_sleepers, I_empty, I_empties, I_yard, I_waiting, I_nights, I_used, I_sheets, I_lastOnes, I_guestsWithFleas, I_bedsWithFleas, I_isCounting⟩ := tI
    obtain ⟨T_list, rfl⟩ : ∃ z, z = tT := ⟨_, rfl⟩
    rw [f_X5_weightOf.eq_def] at hf
    refine CT.mkL (by decide) (Nat.le_of_ble_eq_true rfl) fun {p} {e} {R} {s} {m} {args} {below} {meth} {c} {A} {H0} {Q} C hA hR hret => ?_
    show G p l e R s m args below meth c 9 D A H0 0 0 Q [hC cI aH (H_beds, H_law, H_sights, H_isKept, H_worths, H_sightGuests, H_sightBeds), iC cI aI (aH 0) (nx aT) (I_law, I_there, I_sleepers, I_empty, I_empties, I_yard, I_waiting, I_nights, I_used, I_sheets, I_lastOnes, I_guestsWithFleas, I_bedsWithFleas, I_isCounting), chW cI (aH 0) aT T_list] 0 [(0, .ref (aI 0)), (1, .int x1), (2, .int x2), (3, .int x3)] []
    refine gq_iload_n C 2 1 dX5_weightOf_0 rfl rfl ?_
    refine gq_if_gt C 19 4 dX5_weightOf_1 (by decide) rfl (fun h1 => ?_) (fun h1 => ?_)
    · replace hf := gq_ifp h1 hf
      refine gq_aload_n C 0 20 dX5_weightOf_19 rfl rfl ?_
      obtain ⟨rfl, rfl⟩ | ⟨aJ, aU, tJ, T_tl, rfl, rfl, hln⟩ := gq_len hln
      · cases hf
      obtain ⟨J_law, J_there, J_sleepers, J_empty, J_empties, J_yard, J_waiting, J_nights, J_used, J_sheets, J_lastOnes, J_guestsWithFleas, J_bedsWithFleas, J_isCounting⟩ := tJ
      refine gq_flat (ws' := [hC cI aH (H_beds, H_law, H_sights, H_isKept, H_worths, H_sightGuests, H_sightBeds), iC cI aI (aH 0) (some (aJ 0)) (I_law, I_there, I_sleepers, I_empty, I_empties, I_yard, I_waiting, I_nights, I_used, I_sheets, I_lastOnes, I_guestsWithFleas, I_bedsWithFleas, I_isCounting), iC cI aJ (aH 0) (nx aU) (J_law, J_there, J_sleepers, J_empty, J_empties, J_yard, J_waiting, J_nights, J_used, J_sheets, J_lastOnes, J_guestsWithFleas, J_bedsWithFleas, J_isCounting), chW cI (aH 0) aU T_tl]) rfl ?_
      refine gq_getN C fo_X3_1 fw_X5_243 1 0 23 rfl rfl rfl dX5_weightOf_20 rfl ?_
      refine gq_astore C [(4, .ref (aJ 0)), (0, .ref (aI 0)), (1, .int x1), (2, .int x2), (3, .int x3)] 25 dX5_weightOf_23 (by decide) rfl rfl ?_
      refine gq_aload C 0 27 dX5_weightOf_25 rfl rfl ?_
      refine gq_ifnonnull C 32 dX5_weightOf_27 (by decide) ?_
      refine gq_aload C 0 34 dX5_weightOf_32 rfl rfl ?_
      refine gq_aload_n C 1 35 dX5_weightOf_34 rfl rfl ?_
      obtain ⟨⟨J_law_35, J_there_35, J_sleepers_35, J_empty_35, J_empties_35, J_yard_35, J_waiting_35, J_nights_35, J_used_35, J_sheets_35, J_lastOnes_35, J_guestsWithFleas_35, J_bedsWithFleas_35, J_isCounting_35⟩, hc, hf⟩ := gq_bd hf
      refine gq_callN C hA gm_X5_246 (c_X3_standAs l D cI cZ aJ (aH 0) (nx aU) aI (aH 0) (some (aJ 0)) (J_law, J_there, J_sleepers, J_empty, J_empties, J_yard, J_waiting, J_nights, J_used, J_sheets, J_lastOnes, J_guestsWithFleas, J_bedsWithFleas, J_isCounting) (I_law, I_there, I_sleepers, I_empty, I_empties, I_yard, I_waiting, I_nights, I_used, I_sheets, I_lastOnes, I_guestsWithFleas, I_bedsWithFleas, I_isCounting) _ hc) rfl 2 0 rfl rfl rfl ⟨Nat.le_trans (by omega) hR.1, Nat.le_trans (by omega) hR.2.1⟩ ⟨Nat.zero_le _, Nat.zero_le _⟩ rfl (Nat.le_of_ble_eq_true rfl) dX5_weightOf_35 [2, 1] [hC cI aH (H_beds, H_law, H_sights, H_isKept, H_worths, H_sightGuests, H_sightBeds), iC cI aI (aH 0) (some (aJ 0)) (I_law, I_there, I_sleepers, I_empty, I_empties, I_yard, I_waiting, I_nights, I_used, I_sheets, I_lastOnes, I_guestsWithFleas, I_bedsWithFleas, I_isCounting), iC cI aJ (aH 0) (nx aU) (J_law_35, J_there_35, J_sleepers_35, J_empty_35, J_empties_35, J_yard_35, J_waiting_35, J_nights_35, J_used_35, J_sheets_35, J_lastOnes_35, J_guestsWithFleas_35, J_bedsWithFleas_35, J_isCounting_35), chW cI (aH 0) aU T_tl] 38 rfl (by decide) rfl rfl rfl [] rfl ?_
      refine gq_aload C 0 40 dX5_weightOf_38 rfl rfl ?_
      refine gq_bipush C (nI 8) 42 dX5_weightOf_40 (by decide) rfl ?_
      obtain ⟨⟨J_law_42, J_there_42, J_sleepers_42, J_empty_42, J_empties_42, J_yard_42, J_waiting_42, J_nights_42, J_used_42, J_sheets_42, J_lastOnes_42, J_guestsWithFleas_42, J_bedsWithFleas_42, J_isCounting_42⟩, hc, hf⟩ := gq_bd hf
      refine gq_callN C hA gm_X5_155 (c_X3_takeIn l D cI cZ aH aJ (nx aU) (nI 8) (H_beds, H_law, H_sights, H_isKept, H_worths, H_sightGuests, H_sightBeds) (J_law_35, J_there_35, J_sleepers_35, J_empty_35, J_empties_35, J_yard_35, J_waiting_35, J_nights_35, J_used_35, J_sheets_35, J_lastOnes_35, J_guestsWithFleas_35, J_bedsWithFleas_35, J_isCounting_35) _ hc) rfl 2 0 rfl rfl rfl ⟨Nat.le_trans (by omega) hR.1, Nat.le_trans (by omega) hR.2.1⟩ ⟨Nat.zero_le _, Nat.zero_le _⟩ rfl (Nat.le_of_ble_eq_true rfl) dX5_weightOf_42 [0, 2] [hC cI aH (H_beds, H_law, H_sights, H_isKept, H_worths, H_sightGuests, H_sightBeds), iC cI aI (aH 0) (some (aJ 0)) (I_law, I_there, I_sleepers, I_empty, I_empties, I_yard, I_waiting, I_nights, I_used, I_sheets, I_lastOnes, I_guestsWithFleas, I_bedsWithFleas, I_isCounting), iC cI aJ (aH 0) (nx aU) (J_law_42, J_there_42, J_sleepers_42, J_empty_42, J_empties_42, J_yard_42, J_waiting_42, J_nights_42, J_used_42, J_sheets_42, J_lastOnes_42, J_guestsWithFleas_42, J_bedsWithFleas_42, J_isCounting_42), chW cI (aH 0) aU T_tl] 45 rfl (by decide) rfl rfl rfl [] rfl ?_
      refine gq_aload C 0 47 dX5_weightOf_45 rfl rfl ?_
      refine gq_iload_n C 2 48 dX5_weightOf_47 rfl rfl ?_
      refine gq_iload_n C 3 49 dX5_weightOf_48 rfl rfl ?_
      refine gq_iconst C (nI 1) 50 dX5_weightOf_49 (by decide) rfl ?_
      refine gq_isub C 51 dX5_weightOf_50 rfl ?_
      refine gq_iload_n C 4 52 dX5_weightOf_51 rfl rfl ?_
      obtain ⟨⟨r_52, T_list_52⟩, hc, hf⟩ := gq_bd hf
      obtain ⟨hg52, hf⟩ := gq_gd hf
      refine gq_callS C hA gm_X5_211 (ih aH aJ aU x1 (x2 - (nI 1)) x3 (H_beds, H_law, H_sights, H_isKept, H_worths, H_sightGuests, H_sightBeds) (J_law_42, J_there_42, J_sleepers_42, J_empty_42, J_empties_42, J_yard_42, J_waiting_42, J_nights_42, J_used_42, J_sheets_42, J_lastOnes_42, J_guestsWithFleas_42, J_bedsWithFleas_42, J_isCounting_42) T_tl _ (by omega) hc) rfl ⟨Nat.le_trans (by omega) hR.1, Nat.le_trans (by omega) hR.2.1⟩ ⟨Nat.zero_le _, Nat.zero_le _⟩ rfl (Nat.le_of_ble_eq_true rfl) dX5_weightOf_52 [0, 2, 3] [hC cI aH (H_beds, H_law, H_sights, H_isKept, H_worths, H_sightGuests, H_sightBeds), iC cI aI (aH 0) (some (aJ 0)) (I_law, I_there, I_sleepers, I_empty, I_empties, I_yard, I_waiting, I_nights, I_used, I_sheets, I_lastOnes, I_guestsWithFleas, I_bedsWithFleas, I_isCounting), iC cI aJ (aH 0) (nx aU) (J_law_42, J_there_42, J_sleepers_42, J_empty_42, J_empties_42, J_yard_42, J_waiting_42, J_nights_42, J_used_42, J_sheets_42, J_lastOnes_42, J_guestsWithFleas_42, J_bedsWithFleas_42, J_isCounting_42), chW cI (aH 0) aU T_list_52] 55 rfl (by decide) (by simp only [List.map_cons, List.map_nil, chW_fst (T1 := T_list_52) (T2 := T_tl) hg52] <;> rfl) rfl rfl [.long r_52] rfl ?_
      refine gq_lstore C [(5, .long r_52), (4, .ref (aJ 0)), (0, .ref (aI 0)), (1, .int x1), (2, .int x2), (3, .int x3)] 57 dX5_weightOf_55 (by decide) rfl rfl ?_
      refine gq_aload C 1 59 dX5_weightOf_57 rfl rfl ?_
      refine gq_aload_n C 2 60 dX5_weightOf_59 rfl rfl ?_
      obtain ⟨⟨J_law_60, J_there_60, J_sleepers_60, J_empty_60, J_empties_60, J_yard_60, J_waiting_60, J_nights_60, J_used_60, J_sheets_60, J_lastOnes_60, J_guestsWithFleas_60, J_bedsWithFleas_60, J_isCounting_60⟩, hc, hf⟩ := gq_bd hf
      refine gq_callN C hA gm_X5_246 (c_X3_standAs l D cI cZ aJ (aH 0) (nx aU) aI (aH 0) (some (aJ 0)) (J_law_42, J_there_42, J_sleepers_42, J_empty_42, J_empties_42, J_yard_42, J_waiting_42, J_nights_42, J_used_42, J_sheets_42, J_lastOnes_42, J_guestsWithFleas_42, J_bedsWithFleas_42, J_isCounting_42) (I_law, I_there, I_sleepers, I_empty, I_empties, I_yard, I_waiting, I_nights, I_used, I_sheets, I_lastOnes, I_guestsWithFleas, I_bedsWithFleas, I_isCounting) _ hc) rfl 2 0 rfl rfl rfl ⟨Nat.le_trans (by omega) hR.1, Nat.le_trans (by omega) hR.2.1⟩ ⟨Nat.zero_le _, Nat.zero_le _⟩ rfl (Nat.le_of_ble_eq_true rfl) dX5_weightOf_60 [2, 1] [hC cI aH (H_beds, H_law, H_sights, H_isKept, H_worths, H_sightGuests, H_sightBeds), iC cI aI (aH 0) (some (aJ 0)) (I_law, I_there, I_sleepers, I_empty, I_empties, I_yard, I_waiting, I_nights, I_used, I_sheets, I_lastOnes, I_guestsWithFleas, I_bedsWithFleas, I_isCounting), iC cI aJ (aH 0) (nx aU) (J_law_60, J_there_60, J_sleepers_60, J_empty_60, J_empties_60, J_yard_60, J_waiting_60, J_nights_60, J_used_60, J_sheets_60, J_lastOnes_60, J_guestsWithFleas_60, J_bedsWithFleas_60, J_isCounting_60), chW cI (aH 0) aU T_list_52] 63 rfl (by decide) rfl rfl rfl [] rfl ?_
      refine gq_aload C 1 65 dX5_weightOf_63 rfl rfl ?_
      obtain ⟨⟨J_law_65, J_there_65, J_sleepers_65, J_empty_65, J_empties_65, J_yard_65, J_waiting_65, J_nights_65, J_used_65, J_sheets_65, J_lastOnes_65, J_guestsWithFleas_65, J_bedsWithFleas_65, J_isCounting_65⟩, hc, hf⟩ := gq_bd hf
      refine gq_callN C hA gm_X5_253 (c_X3_emptyLeastBed l D cI cZ aJ (aH 0) (nx aU) (J_law_60, J_there_60, J_sleepers_60, J_empty_60, J_empties_60, J_yard_60, J_waiting_60, J_nights_60, J_used_60, J_sheets_60, J_lastOnes_60, J_guestsWithFleas_60, J_bedsWithFleas_60, J_isCounting_60) _ hc) rfl 2 0 rfl rfl rfl ⟨Nat.le_trans (by omega) hR.1, Nat.le_trans (by omega) hR.2.1⟩ ⟨Nat.zero_le _, Nat.zero_le _⟩ rfl (Nat.le_of_ble_eq_true rfl) dX5_weightOf_65 [2] [hC cI aH (H_beds, H_law, H_sights, H_isKept, H_worths, H_sightGuests, H_sightBeds), iC cI aI (aH 0) (some (aJ 0)) (I_law, I_there, I_sleepers, I_empty, I_empties, I_yard, I_waiting, I_nights, I_used, I_sheets, I_lastOnes, I_guestsWithFleas, I_bedsWithFleas, I_isCounting), iC cI aJ (aH 0) (nx aU) (J_law_65, J_there_65, J_sleepers_65, J_empty_65, J_empties_65, J_yard_65, J_waiting_65, J_nights_65, J_used_65, J_sheets_65, J_lastOnes_65, J_guestsWithFleas_65, J_bedsWithFleas_65, J_isCounting_65), chW cI (aH 0) aU T_list_52] 68 rfl (by decide) rfl rfl rfl [] rfl ?_
      refine gq_aload C 1 70 dX5_weightOf_68 rfl rfl ?_
      refine gq_iload_n C 3 71 dX5_weightOf_70 rfl rfl ?_
      refine gq_iload_n C 4 72 dX5_weightOf_71 rfl rfl ?_
      refine gq_iconst C (nI 1) 73 dX5_weightOf_72 (by decide) rfl ?_
      refine gq_isub C 74 dX5_weightOf_73 rfl ?_
      refine gq_iload_n C 5 75 dX5_weightOf_74 rfl rfl ?_
      obtain ⟨⟨r_75, T_list_75⟩, hc, hf⟩ := gq_bd hf
      obtain ⟨hg75, hf⟩ := gq_gd hf
      refine gq_callS C hA gm_X5_211 (ih aH aJ aU x1 (x2 - (nI 1)) x3 (H_beds, H_law, H_sights, H_isKept, H_worths, H_sightGuests, H_sightBeds) (J_law_65, J_there_65, J_sleepers_65, J_empty_65, J_empties_65, J_yard_65, J_waiting_65, J_nights_65, J_used_65, J_sheets_65, J_lastOnes_65, J_guestsWithFleas_65, J_bedsWithFleas_65, J_isCounting_65) T_list_52 _ (by omega) hc) rfl ⟨Nat.le_trans (by omega) hR.1, Nat.le_trans (by omega) hR.2.1⟩ ⟨Nat.zero_le _, Nat.zero_le _⟩ rfl (Nat.le_of_ble_eq_true rfl) dX5_weightOf_75 [0, 2, 3] [hC cI aH (H_beds, H_law, H_sights, H_isKept, H_worths, H_sightGuests, H_sightBeds), iC cI aI (aH 0) (some (aJ 0)) (I_law, I_there, I_sleepers, I_empty, I_empties, I_yard, I_waiting, I_nights, I_used, I_sheets, I_lastOnes, I_guestsWithFleas, I_bedsWithFleas, I_isCounting), iC cI aJ (aH 0) (nx aU) (J_law_65, J_there_65, J_sleepers_65, J_empty_65, J_empties_65, J_yard_65, J_waiting_65, J_nights_65, J_used_65, J_sheets_65, J_lastOnes_65, J_guestsWithFleas_65, J_bedsWithFleas_65, J_isCounting_65), chW cI (aH 0) aU T_list_75] 78 rfl (by decide) (by simp only [List.map_cons, List.map_nil, chW_fst (T1 := T_list_75) (T2 := T_list_52) hg75] <;> rfl) rfl rfl [.long r_75] rfl ?_
      refine gq_lstore C [(7, .long r_75), (5, .long r_52), (4, .ref (aJ 0)), (0, .ref (aI 0)), (1, .int x1), (2, .int x2), (3, .int x3)] 80 dX5_weightOf_78 (by decide) rfl rfl ?_
      refine gq_iload_n C 6 81 dX5_weightOf_80 rfl rfl ?_
      refine gq_i2l C 82 dX5_weightOf_81 rfl ?_
      refine gq_lload C 1 84 dX5_weightOf_82 rfl rfl ?_
      refine gq_lmul C 85 dX5_weightOf_84 rfl ?_
      refine gq_bipush C (nI 10) 87 dX5_weightOf_85 (by decide) rfl ?_
      refine gq_iload_n C 6 88 dX5_weightOf_87 rfl rfl ?_
      refine gq_isub C 89 dX5_weightOf_88 rfl ?_
      refine gq_i2l C 90 dX5_weightOf_89 rfl ?_
      refine gq_lload C 0 92 dX5_weightOf_90 rfl rfl ?_
      refine gq_lmul C 93 dX5_weightOf_92 rfl ?_
      refine gq_ladd C 94 dX5_weightOf_93 rfl ?_
      obtain rfl := gq_lf hf
      refine gq_flat (ws' := [hC cI aH (H_beds, H_law, H_sights, H_isKept, H_worths, H_sightGuests, H_sightBeds), iC cI aI (aH 0) (nx (aJ :: aU)) (I_law, I_there, I_sleepers, I_empty, I_empties, I_yard, I_waiting, I_nights, I_used, I_sheets, I_lastOnes, I_guestsWithFleas, I_bedsWithFleas, I_isCounting), chW cI (aH 0) (aJ :: aU) ((J_law_65, J_there_65, J_sleepers_65, J_empty_65, J_empties_65, J_yard_65, J_waiting_65, J_nights_65, J_used_65, J_sheets_65, J_lastOnes_65, J_guestsWithFleas_65, J_bedsWithFleas_65, J_isCounting_65) :: T_list_75)]) rfl ?_
      exact hret dX5_weightOf_94 gPost.rf
    · replace hf := gq_ifn h1 hf
      refine gq_aload_n C 0 5 dX5_weightOf_4 rfl rfl ?_
      refine gq_iload_n C 1 6 dX5_weightOf_5 rfl rfl ?_
      obtain ⟨r_6, hc, hf⟩ := gq_bd hf
      refine gq_callN C hA gm_X5_125 (c_X3_sleeperOf l D cI cZ aI (aH 0) (nx aT) x1 (I_law, I_there, I_sleepers, I_empty, I_empties, I_yard, I_waiting, I_nights, I_used, I_sheets, I_lastOnes, I_guestsWithFleas, I_bedsWithFleas, I_isCounting) _ hc) rfl 1 0 rfl rfl rfl ⟨Nat.le_trans (by omega) hR.1, Nat.le_trans (by omega) hR.2.1⟩ ⟨Nat.zero_le _, Nat.zero_le _⟩ rfl (Nat.le_of_ble_eq_true rfl) dX5_weightOf_6 [1] [hC cI aH (H_beds, H_law, H_sights, H_isKept, H_worths, H_sightGuests, H_sightBeds), iC cI aI (aH 0) (nx aT) (I_law, I_there, I_sleepers, I_empty, I_empties, I_yard, I_waiting, I_nights, I_used, I_sheets, I_lastOnes, I_guestsWithFleas, I_bedsWithFleas, I_isCounting), chW cI (aH 0) aT T_list] 9 rfl (by decide) rfl rfl rfl [.int r_6] rfl ?_
      refine gq_iconst C (-1 : Int32) 10 dX5_weightOf_9 (by decide) rfl ?_
      refine gq_icmp_ne C 17 13 dX5_weightOf_10 (by decide) rfl (fun h10 => ?_) (fun h10 => ?_)
      · replace hf := gq_ifn h10 hf
        refine gq_lconst C (lN 1) 18 dX5_weightOf_17 (by decide) rfl ?_
        obtain rfl := gq_lf hf
        exact hret dX5_weightOf_18 gPost.rf
      · replace hf := gq_ifp h10 hf
        refine gq_lconst C (lN 0) 14 dX5_weightOf_13 (by decide) rfl ?_
        refine gq_goto C 18 dX5_weightOf_14 (by decide) ?_
        obtain rfl := gq_lf hf
        exact hret dX5_weightOf_18 gPost.rf

def f_X5_party : Int32 → Int32 → WbS → HouS → DayS → ParS → InnS → (List InnS) → Option (Int32 × ParS × InnS × (List InnS))
  | x1, x2, B_bedsByPlace, (H_beds, H_law, H_sights, H_isKept, H_worths, H_sightGuests, H_sightBeds), (D_length, D_signs), (P_most, P_size, P_bestOrder, P_trial), (I_law, I_there, I_sleepers, I_empty, I_empties, I_yard, I_waiting, I_nights, I_used, I_sheets, I_lastOnes, I_guestsWithFleas, I_bedsWithFleas, I_isCounting), T_list => (if x1 < (nI 1) then some ((-2 : Int32), (P_most, P_size, P_bestOrder, P_trial), (I_law, I_there, I_sleepers, I_empty, I_empties, I_yard, I_waiting, I_nights, I_used, I_sheets, I_lastOnes, I_guestsWithFleas, I_bedsWithFleas, I_isCounting), T_list) else (if x1 ≤ (nI 255) then (Option.bind (f_X5_liveThrough (-1 : Int32) B_bedsByPlace (H_beds, H_law, H_sights, H_isKept, H_worths, H_sightGuests, H_sightBeds) (D_length, D_signs) (I_law, I_there, I_sleepers, I_empty, I_empties, I_yard, I_waiting, I_nights, I_used, I_sheets, I_lastOnes, I_guestsWithFleas, I_bedsWithFleas, I_isCounting)) (fun (r_17, (I_law_17, I_there_17, I_sleepers_17, I_empty_17, I_empties_17, I_yard_17, I_waiting_17, I_nights_17, I_used_17, I_sheets_17, I_lastOnes_17, I_guestsWithFleas_17, I_bedsWithFleas_17, I_isCounting_17)) => (if r_17 = 0 then (if (x1 &&& I_there_17) = 0 then (Option.bind (f_J6_bitCount_0f7a4 x1) (fun r_43 => (if r_43 ≤ (nI 6) then (Option.bind (f_X4_order x1 (H_beds, H_law, H_sights, H_isKept, H_worths, H_sightGuests, H_sightBeds) (P_most, P_size, P_bestOrder, P_trial) (I_law_17, I_there_17, I_sleepers_17, I_empty_17, I_empties_17, I_yard_17, I_waiting_17, I_nights_17, I_used_17, I_sheets_17, I_lastOnes_17, I_guestsWithFleas_17, I_bedsWithFleas_17, I_isCounting_17) T_list) (fun ((P_most_63, P_size_63, P_bestOrder_63, P_trial_63), T_list_63) => (if T_list_63.length = T_list.length then (if x2 = (-1 : Int32) then some (P_most_63, (P_most_63, P_size_63, P_bestOrder_63, P_trial_63), (I_law_17, I_there_17, I_sleepers_17, I_empty_17, I_empties_17, I_yard_17, I_waiting_17, I_nights_17, I_used_17, I_sheets_17, I_lastOnes_17, I_guestsWithFleas_17, I_bedsWithFleas_17, I_isCounting_17), T_list_63) else (Option.bind (f_X4_guestAt x2 (P_most_63, P_size_63, P_bestOrder_63, P_trial_63)) (fun r_86 => some (r_86, (P_most_63, P_size_63, P_bestOrder_63, P_trial_63), (I_law_17, I_there_17, I_sleepers_17, I_empty_17, I_empties_17, I_yard_17, I_waiting_17, I_nights_17, I_used_17, I_sheets_17, I_lastOnes_17, I_guestsWithFleas_17, I_bedsWithFleas_17, I_isCounting_17), T_list_63)))) else none))) else some ((-4 : Int32), (P_most, P_size, P_bestOrder, P_trial), (I_law_17, I_there_17, I_sleepers_17, I_empty_17, I_empties_17, I_yard_17, I_waiting_17, I_nights_17, I_used_17, I_sheets_17, I_lastOnes_17, I_guestsWithFleas_17, I_bedsWithFleas_17, I_isCounting_17), T_list)))) else some ((-5 : Int32), (P_most, P_size, P_bestOrder, P_trial), (I_law_17, I_there_17, I_sleepers_17, I_empty_17, I_empties_17, I_yard_17, I_waiting_17, I_nights_17, I_used_17, I_sheets_17, I_lastOnes_17, I_guestsWithFleas_17, I_bedsWithFleas_17, I_isCounting_17), T_list)) else some (r_17, (P_most, P_size, P_bestOrder, P_trial), (I_law_17, I_there_17, I_sleepers_17, I_empty_17, I_empties_17, I_yard_17, I_waiting_17, I_nights_17, I_used_17, I_sheets_17, I_lastOnes_17, I_guestsWithFleas_17, I_bedsWithFleas_17, I_isCounting_17), T_list)))) else some ((-2 : Int32), (P_most, P_size, P_bestOrder, P_trial), (I_law, I_there, I_sleepers, I_empty, I_empties, I_yard, I_waiting, I_nights, I_used, I_sheets, I_lastOnes, I_guestsWithFleas, I_bedsWithFleas, I_isCounting), T_list)))
set_option maxHeartbeats 4000000 in
set_option maxRecDepth 100000 in
theorem c_X5_party (l : Launch) (D : va_G) (cI cZ : ClassId) (aB : Nat → Nat) (rB1 : Nat) (rB2 : Nat) (rB5 : Nat) (aH : Nat → Nat) (aD : Nat → Nat) (aP : Nat → Nat) (aI : Nat → Nat) (aT : List (Nat → Nat)) (x1 : Int32) (x2 : Int32) (tB : WbS) (tH : HouS) (tD : DayS) (tP : ParS) (tI : InnS) (tT : (List InnS)) (rr : Int32 × ParS × InnS × (List InnS)) (hln : aT.length = tT.length) (hf : f_X5_party x1 x2 tB tH tD tP tI tT = some rr) : CT l D cI cZ yX5_party cX5_party 4 (some .int) 42 849 0 0 [.ref (aB 0), .int x1, .int x2] ([bC cI aB (aH 0) rB1 rB2 (aD 0) (aP 0) rB5 (aI 0) tB, hC cI aH tH, dC cI aD tD, pC cI aP tP, iC cI aI (aH 0) (nx aT) tI, chW cI (aH 0) aT tT]) (gPost (some (.int rr.1)) ([bC cI aB (aH 0) rB1 rB2 (aD 0) (aP 0) rB5 (aI 0) tB, hC cI aH tH, dC cI aD tD, pC cI aP rr.2.1, iC cI aI (aH 0) (nx aT) rr.2.2.1, chW cI (aH 0) aT rr.2.2.2])) := by
  obtain ⟨B_bedsByPlace, rfl⟩ : ∃ z, z = tB := ⟨_, rfl⟩
  obtain ⟨H_beds, H_law, H_sights, H_isKept, H_worths, H_sightGuests, H_sightBeds⟩ := tH
  obtain ⟨D_length, D_signs⟩ := tD
  obtain ⟨P_most, P_size, P_bestOrder, P_trial⟩ := tP
  obtain ⟨I_law, I_there, I_sleepers, I_empty, I_empties, I_yard, I_waiting, I_nights, I_used, I_sheets, I_lastOnes, I_guestsWithFleas, I_bedsWithFleas, I_isCounting⟩ := tI
  obtain ⟨T_list, rfl⟩ : ∃ z, z = tT := ⟨_, rfl⟩
  rw [f_X5_party] at hf
  refine CT.mkI (by decide) (Nat.le_of_ble_eq_true rfl) fun {p} {e} {R} {s} {m} {args} {below} {meth} {c} {A} {H0} {Q} C hA hR hret => ?_
  show G p l e R s m args below meth c 4 D A H0 0 0 Q [bC cI aB (aH 0) rB1 rB2 (aD 0) (aP 0) rB5 (aI 0) B_bedsByPlace, hC cI aH (H_beds, H_law, H_sights, H_isKept, H_worths, H_sightGuests, H_sightBeds), dC cI aD (D_length, D_signs), pC cI aP (P_most, P_size, P_bestOrder, P_trial), iC cI aI (aH 0) (nx aT) (I_law, I_there, I_sleepers, I_empty, I_empties, I_yard, I_waiting, I_nights, I_used, I_sheets, I_lastOnes, I_guestsWithFleas, I_bedsWithFleas, I_isCounting), chW cI (aH 0) aT T_list] 0 [(0, .ref (aB 0)), (1, .int x1), (2, .int x2)] []
  refine gq_iload_n C 1 1 dX5_party_0 rfl rfl ?_
  refine gq_iconst C (nI 1) 2 dX5_party_1 (by decide) rfl ?_
  refine gq_icmp_lt C 12 5 dX5_party_2 (by decide) rfl (fun h2 => ?_) (fun h2 => ?_)
  · replace hf := gq_ifp h2 hf
    refine gq_bipush C (-2 : Int32) 14 dX5_party_12 (by decide) rfl ?_
    obtain rfl := gq_lf hf
    exact hret dX5_party_14 gPost.rf
  · replace hf := gq_ifn h2 hf
    refine gq_iload_n C 1 6 dX5_party_5 rfl rfl ?_
    refine gq_sipush C (nI 255) 9 dX5_party_6 (by decide) rfl ?_
    refine gq_icmp_le C 15 12 dX5_party_9 (by decide) rfl (fun h9 => ?_) (fun h9 => ?_)
    · replace hf := gq_ifp h9 hf
      refine gq_aload_n C 0 16 dX5_party_15 rfl rfl ?_
      refine gq_iconst C (-1 : Int32) 17 dX5_party_16 (by decide) rfl ?_
      obtain ⟨⟨r_17, ⟨I_law_17, I_there_17, I_sleepers_17, I_empty_17, I_empties_17, I_yard_17, I_waiting_17, I_nights_17, I_used_17, I_sheets_17, I_lastOnes_17, I_guestsWithFleas_17, I_bedsWithFleas_17, I_isCounting_17⟩⟩, hc, hf⟩ := gq_bd hf
      refine gq_callV C hA gm_X5_119 (c_X5_liveThrough l D cI cZ aB rB1 rB2 (aP 0) rB5 aH aD aI (nx aT) (-1 : Int32) B_bedsByPlace (H_beds, H_law, H_sights, H_isKept, H_worths, H_sightGuests, H_sightBeds) (D_length, D_signs) (I_law, I_there, I_sleepers, I_empty, I_empties, I_yard, I_waiting, I_nights, I_used, I_sheets, I_lastOnes, I_guestsWithFleas, I_bedsWithFleas, I_isCounting) _ hc) rfl 0 0 rfl rfl rfl ⟨Nat.le_trans (Nat.le_of_ble_eq_true rfl) hR.1, Nat.le_trans (Nat.le_of_ble_eq_true rfl) hR.2.1⟩ ⟨Nat.zero_le _, Nat.zero_le _⟩ rfl (Nat.le_of_ble_eq_true rfl) dX5_party_17 [0, 1, 2, 4] [bC cI aB (aH 0) rB1 rB2 (aD 0) (aP 0) rB5 (aI 0) B_bedsByPlace, hC cI aH (H_beds, H_law, H_sights, H_isKept, H_worths, H_sightGuests, H_sightBeds), dC cI aD (D_length, D_signs), pC cI aP (P_most, P_size, P_bestOrder, P_trial), iC cI aI (aH 0) (nx aT) (I_law_17, I_there_17, I_sleepers_17, I_empty_17, I_empties_17, I_yard_17, I_waiting_17, I_nights_17, I_used_17, I_sheets_17, I_lastOnes_17, I_guestsWithFleas_17, I_bedsWithFleas_17, I_isCounting_17), chW cI (aH 0) aT T_list] 20 rfl (by decide) rfl rfl rfl [.int r_17] rfl ?_
      refine gq_istore_n C [(3, .int r_17), (0, .ref (aB 0)), (1, .int x1), (2, .int x2)] 21 dX5_party_20 (by decide) rfl rfl ?_
      refine gq_iload_n C 0 22 dX5_party_21 rfl rfl ?_
      refine gq_if_eq C 27 25 dX5_party_22 (by decide) rfl (fun h22 => ?_) (fun h22 => ?_)
      · replace hf := gq_ifp h22 hf
        refine gq_iload_n C 2 28 dX5_party_27 rfl rfl ?_
        refine gq_aload_n C 1 29 dX5_party_28 rfl rfl ?_
        refine gq_get C fo_X5_6 fw_X5_52 0 0 32 rfl rfl rfl dX5_party_29 rfl ?_
        refine gq_getN C fo_X3_3 fw_X5_158 4 0 35 rfl rfl rfl dX5_party_32 rfl ?_
        refine gq_iand C 36 dX5_party_35 rfl ?_
        refine gq_if_eq C 42 39 dX5_party_36 (by decide) rfl (fun h36 => ?_) (fun h36 => ?_)
        · replace hf := gq_ifp h36 hf
          refine gq_iload_n C 2 43 dX5_party_42 rfl rfl ?_
          obtain ⟨r_43, hc, hf⟩ := gq_bd hf
          refine gq_callS C hA gm_X5_161 (c_J6_bitCount_0f7a4 l D cI cZ  x1 _ hc) rfl ⟨Nat.le_trans (Nat.le_of_ble_eq_true rfl) hR.1, Nat.le_trans (Nat.le_of_ble_eq_true rfl) hR.2.1⟩ ⟨Nat.zero_le _, Nat.zero_le _⟩ rfl (Nat.le_of_ble_eq_true rfl) dX5_party_43 [] [bC cI aB (aH 0) rB1 rB2 (aD 0) (aP 0) rB5 (aI 0) B_bedsByPlace, hC cI aH (H_beds, H_law, H_sights, H_isKept, H_worths, H_sightGuests, H_sightBeds), dC cI aD (D_length, D_signs), pC cI aP (P_most, P_size, P_bestOrder, P_trial), iC cI aI (aH 0) (nx aT) (I_law_17, I_there_17, I_sleepers_17, I_empty_17, I_empties_17, I_yard_17, I_waiting_17, I_nights_17, I_used_17, I_sheets_17, I_lastOnes_17, I_guestsWithFleas_17, I_bedsWithFleas_17, I_isCounting_17), chW cI (aH 0) aT T_list] 46 rfl (by decide) rfl rfl rfl [.int r_43] rfl ?_
          refine gq_bipush C (nI 6) 48 dX5_party_46 (by decide) rfl ?_
          refine gq_icmp_le C 54 51 dX5_party_48 (by decide) rfl (fun h48 => ?_) (fun h48 => ?_)
          · replace hf := gq_ifp h48 hf
            refine gq_aload_n C 1 55 dX5_party_54 rfl rfl ?_
            refine gq_get C fo_X5_4 fw_X5_32 0 0 58 rfl rfl rfl dX5_party_55 rfl ?_
            refine gq_aload_n C 1 59 dX5_party_58 rfl rfl ?_
            refine gq_get C fo_X5_6 fw_X5_52 0 0 62 rfl rfl rfl dX5_party_59 rfl ?_
            refine gq_iload_n C 2 63 dX5_party_62 rfl rfl ?_
            obtain ⟨⟨⟨P_most_63, P_size_63, P_bestOrder_63, P_trial_63⟩, T_list_63⟩, hc, hf⟩ := gq_bd hf
            obtain ⟨hg63, hf⟩ := gq_gd hf
            refine gq_callN C hA gm_X5_166 (c_X4_order l D cI cZ aH aP aI aT x1 (H_beds, H_law, H_sights, H_isKept, H_worths, H_sightGuests, H_sightBeds) (P_most, P_size, P_bestOrder, P_trial) (I_law_17, I_there_17, I_sleepers_17, I_empty_17, I_empties_17, I_yard_17, I_waiting_17, I_nights_17, I_used_17, I_sheets_17, I_lastOnes_17, I_guestsWithFleas_17, I_bedsWithFleas_17, I_isCounting_17) T_list _ (by omega) hc) rfl 3 0 rfl rfl rfl ⟨Nat.le_trans (Nat.le_of_ble_eq_true rfl) hR.1, Nat.le_trans (Nat.le_of_ble_eq_true rfl) hR.2.1⟩ ⟨Nat.zero_le _, Nat.zero_le _⟩ rfl (Nat.le_of_ble_eq_true rfl) dX5_party_63 [1, 3, 4, 5] [bC cI aB (aH 0) rB1 rB2 (aD 0) (aP 0) rB5 (aI 0) B_bedsByPlace, hC cI aH (H_beds, H_law, H_sights, H_isKept, H_worths, H_sightGuests, H_sightBeds), dC cI aD (D_length, D_signs), pC cI aP (P_most_63, P_size_63, P_bestOrder_63, P_trial_63), iC cI aI (aH 0) (nx aT) (I_law_17, I_there_17, I_sleepers_17, I_empty_17, I_empties_17, I_yard_17, I_waiting_17, I_nights_17, I_used_17, I_sheets_17, I_lastOnes_17, I_guestsWithFleas_17, I_bedsWithFleas_17, I_isCounting_17), chW cI (aH 0) aT T_list_63] 66 rfl (by decide) (by simp only [List.map_cons, List.map_nil, chW_fst (T1 := T_list_63) (T2 := T_list) hg63] <;> rfl) rfl rfl [] rfl ?_
            refine gq_iload_n C 3 67 dX5_party_66 rfl rfl ?_
            refine gq_iconst C (-1 : Int32) 68 dX5_party_67 (by decide) rfl ?_
            refine gq_icmp_ne C 81 71 dX5_party_68 (by decide) rfl (fun h68 => ?_) (fun h68 => ?_)
            · replace hf := gq_ifn h68 hf
              refine gq_aload_n C 1 82 dX5_party_81 rfl rfl ?_
              refine gq_get C fo_X5_4 fw_X5_32 0 0 85 rfl rfl rfl dX5_party_82 rfl ?_
              refine gq_iload_n C 3 86 dX5_party_85 rfl rfl ?_
              obtain ⟨r_86, hc, hf⟩ := gq_bd hf
              refine gq_callN C hA gm_X5_173 (c_X4_guestAt l D cI cZ aP x2 (P_most_63, P_size_63, P_bestOrder_63, P_trial_63) _ hc) rfl 3 0 rfl rfl rfl ⟨Nat.le_trans (Nat.le_of_ble_eq_true rfl) hR.1, Nat.le_trans (Nat.le_of_ble_eq_true rfl) hR.2.1⟩ ⟨Nat.zero_le _, Nat.zero_le _⟩ rfl (Nat.le_of_ble_eq_true rfl) dX5_party_86 [3] [bC cI aB (aH 0) rB1 rB2 (aD 0) (aP 0) rB5 (aI 0) B_bedsByPlace, hC cI aH (H_beds, H_law, H_sights, H_isKept, H_worths, H_sightGuests, H_sightBeds), dC cI aD (D_length, D_signs), pC cI aP (P_most_63, P_size_63, P_bestOrder_63, P_trial_63), iC cI aI (aH 0) (nx aT) (I_law_17, I_there_17, I_sleepers_17, I_empty_17, I_empties_17, I_yard_17, I_waiting_17, I_nights_17, I_used_17, I_sheets_17, I_lastOnes_17, I_guestsWithFleas_17, I_bedsWithFleas_17, I_isCounting_17), chW cI (aH 0) aT T_list_63] 89 rfl (by decide) rfl rfl rfl [.int r_86] rfl ?_
              obtain rfl := gq_lf hf
              exact hret dX5_party_89 gPost.rf
            · replace hf := gq_ifp h68 hf
              refine gq_aload_n C 1 72 dX5_party_71 rfl rfl ?_
              refine gq_get C fo_X5_4 fw_X5_32 0 0 75 rfl rfl rfl dX5_party_72 rfl ?_
              refine gq_getN C fo_X4_0 fw_X5_170 3 0 78 rfl rfl rfl dX5_party_75 rfl ?_
              refine gq_goto C 89 dX5_party_78 (by decide) ?_
              obtain rfl := gq_lf hf
              exact hret dX5_party_89 gPost.rf
          · replace hf := gq_ifn h48 hf
            refine gq_bipush C (-4 : Int32) 53 dX5_party_51 (by decide) rfl ?_
            obtain rfl := gq_lf hf
            exact hret dX5_party_53 gPost.rf
        · replace hf := gq_ifn h36 hf
          refine gq_bipush C (-5 : Int32) 41 dX5_party_39 (by decide) rfl ?_
          obtain rfl := gq_lf hf
          exact hret dX5_party_41 gPost.rf
      · replace hf := gq_ifn h22 hf
        refine gq_iload_n C 0 26 dX5_party_25 rfl rfl ?_
        obtain rfl := gq_lf hf
        exact hret dX5_party_26 gPost.rf
    · replace hf := gq_ifn h9 hf
      refine gq_bipush C (-2 : Int32) 14 dX5_party_12 (by decide) rfl ?_
      obtain rfl := gq_lf hf
      exact hret dX5_party_14 gPost.rf

def f_X5_filled : Int32 → WbS → HouS → DayS → GueS → InnS → (List InnS) → Option (Int32 × GueS × InnS × (List InnS))
  | x1, B_bedsByPlace, (H_beds, H_law, H_sights, H_isKept, H_worths, H_sightGuests, H_sightBeds), (D_length, D_signs), (Q_ways, Q_untold, Q_trial, Q_first, Q_suspects), (I_law, I_there, I_sleepers, I_empty, I_empties, I_yard, I_waiting, I_nights, I_used, I_sheets, I_lastOnes, I_guestsWithFleas, I_bedsWithFleas, I_isCounting), T_list => (Option.bind (f_X0_firstFault (D_length, D_signs)) (fun r_4 => (if r_4 = (-6 : Int32) then (Option.bind (f_X1_search (H_beds, H_law, H_sights, H_isKept, H_worths, H_sightGuests, H_sightBeds) (D_length, D_signs) (Q_ways, Q_untold, Q_trial, Q_first, Q_suspects) (I_law, I_there, I_sleepers, I_empty, I_empties, I_yard, I_waiting, I_nights, I_used, I_sheets, I_lastOnes, I_guestsWithFleas, I_bedsWithFleas, I_isCounting) T_list) (fun ((Q_ways_31, Q_untold_31, Q_trial_31, Q_first_31, Q_suspects_31), (I_law_31, I_there_31, I_sleepers_31, I_empty_31, I_empties_31, I_yard_31, I_waiting_31, I_nights_31, I_used_31, I_sheets_31, I_lastOnes_31, I_guestsWithFleas_31, I_bedsWithFleas_31, I_isCounting_31), T_list_31) => (if T_list_31.length = T_list.length then (if x1 = (-1 : Int32) then some (Q_ways_31, (Q_ways_31, Q_untold_31, Q_trial_31, Q_first_31, Q_suspects_31), (I_law_31, I_there_31, I_sleepers_31, I_empty_31, I_empties_31, I_yard_31, I_waiting_31, I_nights_31, I_used_31, I_sheets_31, I_lastOnes_31, I_guestsWithFleas_31, I_bedsWithFleas_31, I_isCounting_31), T_list_31) else (Option.bind (f_X1_firstAt x1 (Q_ways_31, Q_untold_31, Q_trial_31, Q_first_31, Q_suspects_31)) (fun r_54 => some (r_54, (Q_ways_31, Q_untold_31, Q_trial_31, Q_first_31, Q_suspects_31), (I_law_31, I_there_31, I_sleepers_31, I_empty_31, I_empties_31, I_yard_31, I_waiting_31, I_nights_31, I_used_31, I_sheets_31, I_lastOnes_31, I_guestsWithFleas_31, I_bedsWithFleas_31, I_isCounting_31), T_list_31)))) else none))) else some ((-5 : Int32), (Q_ways, Q_untold, Q_trial, Q_first, Q_suspects), (I_law, I_there, I_sleepers, I_empty, I_empties, I_yard, I_waiting, I_nights, I_used, I_sheets, I_lastOnes, I_guestsWithFleas, I_bedsWithFleas, I_isCounting), T_list))))
set_option maxHeartbeats 4000000 in
set_option maxRecDepth 100000 in
theorem c_X5_filled (l : Launch) (D : va_G) (cI cZ : ClassId) (aB : Nat → Nat) (rB1 : Nat) (rB2 : Nat) (rB4 : Nat) (aH : Nat → Nat) (aD : Nat → Nat) (aQ : Nat → Nat) (aI : Nat → Nat) (aT : List (Nat → Nat)) (x1 : Int32) (tB : WbS) (tH : HouS) (tD : DayS) (tQ : GueS) (tI : InnS) (tT : (List InnS)) (rr : Int32 × GueS × InnS × (List InnS)) (hln : aT.length = tT.length) (hf : f_X5_filled x1 tB tH tD tQ tI tT = some rr) : CT l D cI cZ yX5_filled cX5_filled 2 (some .int) 42 851 0 0 [.ref (aB 0), .int x1] ([bC cI aB (aH 0) rB1 rB2 (aD 0) rB4 (aQ 0) (aI 0) tB, hC cI aH tH, dC cI aD tD, qC cI aQ tQ, iC cI aI (aH 0) (nx aT) tI, chW cI (aH 0) aT tT]) (gPost (some (.int rr.1)) ([bC cI aB (aH 0) rB1 rB2 (aD 0) rB4 (aQ 0) (aI 0) tB, hC cI aH tH, dC cI aD tD, qC cI aQ rr.2.1, iC cI aI (aH 0) (nx aT) rr.2.2.1, chW cI (aH 0) aT rr.2.2.2])) := by
  obtain ⟨B_bedsByPlace, rfl⟩ : ∃ z, z = tB := ⟨_, rfl⟩
  obtain ⟨H_beds, H_law, H_sights, H_isKept, H_worths, H_sightGuests, H_sightBeds⟩ := tH
  obtain ⟨D_length, D_signs⟩ := tD
  obtain ⟨Q_ways, Q_untold, Q_trial, Q_first, Q_suspects⟩ := tQ
  obtain ⟨I_law, I_there, I_sleepers, I_empty, I_empties, I_yard, I_waiting, I_nights, I_used, I_sheets, I_lastOnes, I_guestsWithFleas, I_bedsWithFleas, I_isCounting⟩ := tI
  obtain ⟨T_list, rfl⟩ : ∃ z, z = tT := ⟨_, rfl⟩
  rw [f_X5_filled] at hf
  refine CT.mkI (by decide) (Nat.le_of_ble_eq_true rfl) fun {p} {e} {R} {s} {m} {args} {below} {meth} {c} {A} {H0} {Q} C hA hR hret => ?_
  show G p l e R s m args below meth c 2 D A H0 0 0 Q [bC cI aB (aH 0) rB1 rB2 (aD 0) rB4 (aQ 0) (aI 0) B_bedsByPlace, hC cI aH (H_beds, H_law, H_sights, H_isKept, H_worths, H_sightGuests, H_sightBeds), dC cI aD (D_length, D_signs), qC cI aQ (Q_ways, Q_untold, Q_trial, Q_first, Q_suspects), iC cI aI (aH 0) (nx aT) (I_law, I_there, I_sleepers, I_empty, I_empties, I_yard, I_waiting, I_nights, I_used, I_sheets, I_lastOnes, I_guestsWithFleas, I_bedsWithFleas, I_isCounting), chW cI (aH 0) aT T_list] 0 [(0, .ref (aB 0)), (1, .int x1)] []
  refine gq_aload_n C 0 1 dX5_filled_0 rfl rfl ?_
  refine gq_get C fo_X5_3 fw_X5_25 0 0 4 rfl rfl rfl dX5_filled_1 rfl ?_
  obtain ⟨r_4, hc, hf⟩ := gq_bd hf
  refine gq_callN C hA gm_X5_92 (c_X0_firstFault l D cI cZ aD (D_length, D_signs) _ hc) rfl 2 0 rfl rfl rfl ⟨Nat.le_trans (Nat.le_of_ble_eq_true rfl) hR.1, Nat.le_trans (Nat.le_of_ble_eq_true rfl) hR.2.1⟩ ⟨Nat.zero_le _, Nat.zero_le _⟩ rfl (Nat.le_of_ble_eq_true rfl) dX5_filled_4 [2] [bC cI aB (aH 0) rB1 rB2 (aD 0) rB4 (aQ 0) (aI 0) B_bedsByPlace, hC cI aH (H_beds, H_law, H_sights, H_isKept, H_worths, H_sightGuests, H_sightBeds), dC cI aD (D_length, D_signs), qC cI aQ (Q_ways, Q_untold, Q_trial, Q_first, Q_suspects), iC cI aI (aH 0) (nx aT) (I_law, I_there, I_sleepers, I_empty, I_empties, I_yard, I_waiting, I_nights, I_used, I_sheets, I_lastOnes, I_guestsWithFleas, I_bedsWithFleas, I_isCounting), chW cI (aH 0) aT T_list] 7 rfl (by decide) rfl rfl rfl [.int r_4] rfl ?_
  refine gq_bipush C (-6 : Int32) 9 dX5_filled_7 (by decide) rfl ?_
  refine gq_icmp_eq C 15 12 dX5_filled_9 (by decide) rfl (fun h9 => ?_) (fun h9 => ?_)
  · replace hf := gq_ifp h9 hf
    refine gq_aload_n C 0 16 dX5_filled_15 rfl rfl ?_
    refine gq_get C fo_X5_5 fw_X5_39 0 0 19 rfl rfl rfl dX5_filled_16 rfl ?_
    refine gq_aload_n C 0 20 dX5_filled_19 rfl rfl ?_
    refine gq_get C fo_X5_6 fw_X5_52 0 0 23 rfl rfl rfl dX5_filled_20 rfl ?_
    refine gq_aload_n C 0 24 dX5_filled_23 rfl rfl ?_
    refine gq_get C fo_X5_3 fw_X5_25 0 0 27 rfl rfl rfl dX5_filled_24 rfl ?_
    refine gq_aload_n C 0 28 dX5_filled_27 rfl rfl ?_
    refine gq_get C fo_X5_0 fw_X5_12 0 0 31 rfl rfl rfl dX5_filled_28 rfl ?_
    obtain ⟨⟨⟨Q_ways_31, Q_untold_31, Q_trial_31, Q_first_31, Q_suspects_31⟩, ⟨I_law_31, I_there_31, I_sleepers_31, I_empty_31, I_empties_31, I_yard_31, I_waiting_31, I_nights_31, I_used_31, I_sheets_31, I_lastOnes_31, I_guestsWithFleas_31, I_bedsWithFleas_31, I_isCounting_31⟩, T_list_31⟩, hc, hf⟩ := gq_bd hf
    obtain ⟨hg31, hf⟩ := gq_gd hf
    refine gq_callN C hA gm_X5_192 (c_X1_search l D cI cZ aH aD aQ aI aT (H_beds, H_law, H_sights, H_isKept, H_worths, H_sightGuests, H_sightBeds) (D_length, D_signs) (Q_ways, Q_untold, Q_trial, Q_first, Q_suspects) (I_law, I_there, I_sleepers, I_empty, I_empties, I_yard, I_waiting, I_nights, I_used, I_sheets, I_lastOnes, I_guestsWithFleas, I_bedsWithFleas, I_isCounting) T_list _ (by omega) hc) rfl 3 0 rfl rfl rfl ⟨Nat.le_trans (Nat.le_of_ble_eq_true rfl) hR.1, Nat.le_trans (Nat.le_of_ble_eq_true rfl) hR.2.1⟩ ⟨Nat.zero_le _, Nat.zero_le _⟩ rfl (Nat.le_of_ble_eq_true rfl) dX5_filled_31 [1, 2, 3, 4, 5] [bC cI aB (aH 0) rB1 rB2 (aD 0) rB4 (aQ 0) (aI 0) B_bedsByPlace, hC cI aH (H_beds, H_law, H_sights, H_isKept, H_worths, H_sightGuests, H_sightBeds), dC cI aD (D_length, D_signs), qC cI aQ (Q_ways_31, Q_untold_31, Q_trial_31, Q_first_31, Q_suspects_31), iC cI aI (aH 0) (nx aT) (I_law_31, I_there_31, I_sleepers_31, I_empty_31, I_empties_31, I_yard_31, I_waiting_31, I_nights_31, I_used_31, I_sheets_31, I_lastOnes_31, I_guestsWithFleas_31, I_bedsWithFleas_31, I_isCounting_31), chW cI (aH 0) aT T_list_31] 34 rfl (by decide) (by simp only [List.map_cons, List.map_nil, chW_fst (T1 := T_list_31) (T2 := T_list) hg31] <;> rfl) rfl rfl [] rfl ?_
    refine gq_iload_n C 1 35 dX5_filled_34 rfl rfl ?_
    refine gq_iconst C (-1 : Int32) 36 dX5_filled_35 (by decide) rfl ?_
    refine gq_icmp_ne C 49 39 dX5_filled_36 (by decide) rfl (fun h36 => ?_) (fun h36 => ?_)
    · replace hf := gq_ifn h36 hf
      refine gq_aload_n C 0 50 dX5_filled_49 rfl rfl ?_
      refine gq_get C fo_X5_5 fw_X5_39 0 0 53 rfl rfl rfl dX5_filled_50 rfl ?_
      refine gq_iload_n C 1 54 dX5_filled_53 rfl rfl ?_
      obtain ⟨r_54, hc, hf⟩ := gq_bd hf
      refine gq_callN C hA gm_X5_199 (c_X1_firstAt l D cI cZ aQ x1 (Q_ways_31, Q_untold_31, Q_trial_31, Q_first_31, Q_suspects_31) _ hc) rfl 3 0 rfl rfl rfl ⟨Nat.le_trans (Nat.le_of_ble_eq_true rfl) hR.1, Nat.le_trans (Nat.le_of_ble_eq_true rfl) hR.2.1⟩ ⟨Nat.zero_le _, Nat.zero_le _⟩ rfl (Nat.le_of_ble_eq_true rfl) dX5_filled_54 [3] [bC cI aB (aH 0) rB1 rB2 (aD 0) rB4 (aQ 0) (aI 0) B_bedsByPlace, hC cI aH (H_beds, H_law, H_sights, H_isKept, H_worths, H_sightGuests, H_sightBeds), dC cI aD (D_length, D_signs), qC cI aQ (Q_ways_31, Q_untold_31, Q_trial_31, Q_first_31, Q_suspects_31), iC cI aI (aH 0) (nx aT) (I_law_31, I_there_31, I_sleepers_31, I_empty_31, I_empties_31, I_yard_31, I_waiting_31, I_nights_31, I_used_31, I_sheets_31, I_lastOnes_31, I_guestsWithFleas_31, I_bedsWithFleas_31, I_isCounting_31), chW cI (aH 0) aT T_list_31] 57 rfl (by decide) rfl rfl rfl [.int r_54] rfl ?_
      obtain rfl := gq_lf hf
      exact hret dX5_filled_57 gPost.rf
    · replace hf := gq_ifp h36 hf
      refine gq_aload_n C 0 40 dX5_filled_39 rfl rfl ?_
      refine gq_get C fo_X5_5 fw_X5_39 0 0 43 rfl rfl rfl dX5_filled_40 rfl ?_
      refine gq_getN C fo_X1_0 fw_X5_196 3 0 46 rfl rfl rfl dX5_filled_43 rfl ?_
      refine gq_goto C 57 dX5_filled_46 (by decide) ?_
      obtain rfl := gq_lf hf
      exact hret dX5_filled_57 gPost.rf
  · replace hf := gq_ifn h9 hf
    refine gq_bipush C (-5 : Int32) 14 dX5_filled_12 (by decide) rfl ?_
    obtain rfl := gq_lf hf
    exact hret dX5_filled_14 gPost.rf

def f_X5_could : Int32 → WbS → HouS → DayS → GueS → InnS → (List InnS) → Option (Int32 × GueS × InnS × (List InnS))
  | x1, B_bedsByPlace, (H_beds, H_law, H_sights, H_isKept, H_worths, H_sightGuests, H_sightBeds), (D_length, D_signs), (Q_ways, Q_untold, Q_trial, Q_first, Q_suspects), (I_law, I_there, I_sleepers, I_empty, I_empties, I_yard, I_waiting, I_nights, I_used, I_sheets, I_lastOnes, I_guestsWithFleas, I_bedsWithFleas, I_isCounting), T_list => (Option.bind (f_X0_firstFault (D_length, D_signs)) (fun r_4 => (if r_4 = (-6 : Int32) then (Option.bind (f_X1_search (H_beds, H_law, H_sights, H_isKept, H_worths, H_sightGuests, H_sightBeds) (D_length, D_signs) (Q_ways, Q_untold, Q_trial, Q_first, Q_suspects) (I_law, I_there, I_sleepers, I_empty, I_empties, I_yard, I_waiting, I_nights, I_used, I_sheets, I_lastOnes, I_guestsWithFleas, I_bedsWithFleas, I_isCounting) T_list) (fun ((Q_ways_31, Q_untold_31, Q_trial_31, Q_first_31, Q_suspects_31), (I_law_31, I_there_31, I_sleepers_31, I_empty_31, I_empties_31, I_yard_31, I_waiting_31, I_nights_31, I_used_31, I_sheets_31, I_lastOnes_31, I_guestsWithFleas_31, I_bedsWithFleas_31, I_isCounting_31), T_list_31) => (if T_list_31.length = T_list.length then (Option.bind (f_X1_suspectsAt x1 (Q_ways_31, Q_untold_31, Q_trial_31, Q_first_31, Q_suspects_31)) (fun r_39 => some (r_39, (Q_ways_31, Q_untold_31, Q_trial_31, Q_first_31, Q_suspects_31), (I_law_31, I_there_31, I_sleepers_31, I_empty_31, I_empties_31, I_yard_31, I_waiting_31, I_nights_31, I_used_31, I_sheets_31, I_lastOnes_31, I_guestsWithFleas_31, I_bedsWithFleas_31, I_isCounting_31), T_list_31))) else none))) else some ((-5 : Int32), (Q_ways, Q_untold, Q_trial, Q_first, Q_suspects), (I_law, I_there, I_sleepers, I_empty, I_empties, I_yard, I_waiting, I_nights, I_used, I_sheets, I_lastOnes, I_guestsWithFleas, I_bedsWithFleas, I_isCounting), T_list))))
set_option maxHeartbeats 4000000 in
set_option maxRecDepth 100000 in
theorem c_X5_could (l : Launch) (D : va_G) (cI cZ : ClassId) (aB : Nat → Nat) (rB1 : Nat) (rB2 : Nat) (rB4 : Nat) (aH : Nat → Nat) (aD : Nat → Nat) (aQ : Nat → Nat) (aI : Nat → Nat) (aT : List (Nat → Nat)) (x1 : Int32) (tB : WbS) (tH : HouS) (tD : DayS) (tQ : GueS) (tI : InnS) (tT : (List InnS)) (rr : Int32 × GueS × InnS × (List InnS)) (hln : aT.length = tT.length) (hf : f_X5_could x1 tB tH tD tQ tI tT = some rr) : CT l D cI cZ yX5_could cX5_could 2 (some .int) 42 851 0 0 [.ref (aB 0), .int x1] ([bC cI aB (aH 0) rB1 rB2 (aD 0) rB4 (aQ 0) (aI 0) tB, hC cI aH tH, dC cI aD tD, qC cI aQ tQ, iC cI aI (aH 0) (nx aT) tI, chW cI (aH 0) aT tT]) (gPost (some (.int rr.1)) ([bC cI aB (aH 0) rB1 rB2 (aD 0) rB4 (aQ 0) (aI 0) tB, hC cI aH tH, dC cI aD tD, qC cI aQ rr.2.1, iC cI aI (aH 0) (nx aT) rr.2.2.1, chW cI (aH 0) aT rr.2.2.2])) := by
  obtain ⟨B_bedsByPlace, rfl⟩ : ∃ z, z = tB := ⟨_, rfl⟩
  obtain ⟨H_beds, H_law, H_sights, H_isKept, H_worths, H_sightGuests, H_sightBeds⟩ := tH
  obtain ⟨D_length, D_signs⟩ := tD
  obtain ⟨Q_ways, Q_untold, Q_trial, Q_first, Q_suspects⟩ := tQ
  obtain ⟨I_law, I_there, I_sleepers, I_empty, I_empties, I_yard, I_waiting, I_nights, I_used, I_sheets, I_lastOnes, I_guestsWithFleas, I_bedsWithFleas, I_isCounting⟩ := tI
  obtain ⟨T_list, rfl⟩ : ∃ z, z = tT := ⟨_, rfl⟩
  rw [f_X5_could] at hf
  refine CT.mkI (by decide) (Nat.le_of_ble_eq_true rfl) fun {p} {e} {R} {s} {m} {args} {below} {meth} {c} {A} {H0} {Q} C hA hR hret => ?_
  show G p l e R s m args below meth c 2 D A H0 0 0 Q [bC cI aB (aH 0) rB1 rB2 (aD 0) rB4 (aQ 0) (aI 0) B_bedsByPlace, hC cI aH (H_beds, H_law, H_sights, H_isKept, H_worths, H_sightGuests, H_sightBeds), dC cI aD (D_length, D_signs), qC cI aQ (Q_ways, Q_untold, Q_trial, Q_first, Q_suspects), iC cI aI (aH 0) (nx aT) (I_law, I_there, I_sleepers, I_empty, I_empties, I_yard, I_waiting, I_nights, I_used, I_sheets, I_lastOnes, I_guestsWithFleas, I_bedsWithFleas, I_isCounting), chW cI (aH 0) aT T_list] 0 [(0, .ref (aB 0)), (1, .int x1)] []
  refine gq_aload_n C 0 1 dX5_could_0 rfl rfl ?_
  refine gq_get C fo_X5_3 fw_X5_25 0 0 4 rfl rfl rfl dX5_could_1 rfl ?_
  obtain ⟨r_4, hc, hf⟩ := gq_bd hf
  refine gq_callN C hA gm_X5_92 (c_X0_firstFault l D cI cZ aD (D_length, D_signs) _ hc) rfl 2 0 rfl rfl rfl ⟨Nat.le_trans (Nat.le_of_ble_eq_true rfl) hR.1, Nat.le_trans (Nat.le_of_ble_eq_true rfl) hR.2.1⟩ ⟨Nat.zero_le _, Nat.zero_le _⟩ rfl (Nat.le_of_ble_eq_true rfl) dX5_could_4 [2] [bC cI aB (aH 0) rB1 rB2 (aD 0) rB4 (aQ 0) (aI 0) B_bedsByPlace, hC cI aH (H_beds, H_law, H_sights, H_isKept, H_worths, H_sightGuests, H_sightBeds), dC cI aD (D_length, D_signs), qC cI aQ (Q_ways, Q_untold, Q_trial, Q_first, Q_suspects), iC cI aI (aH 0) (nx aT) (I_law, I_there, I_sleepers, I_empty, I_empties, I_yard, I_waiting, I_nights, I_used, I_sheets, I_lastOnes, I_guestsWithFleas, I_bedsWithFleas, I_isCounting), chW cI (aH 0) aT T_list] 7 rfl (by decide) rfl rfl rfl [.int r_4] rfl ?_
  refine gq_bipush C (-6 : Int32) 9 dX5_could_7 (by decide) rfl ?_
  refine gq_icmp_eq C 15 12 dX5_could_9 (by decide) rfl (fun h9 => ?_) (fun h9 => ?_)
  · replace hf := gq_ifp h9 hf
    refine gq_aload_n C 0 16 dX5_could_15 rfl rfl ?_
    refine gq_get C fo_X5_5 fw_X5_39 0 0 19 rfl rfl rfl dX5_could_16 rfl ?_
    refine gq_aload_n C 0 20 dX5_could_19 rfl rfl ?_
    refine gq_get C fo_X5_6 fw_X5_52 0 0 23 rfl rfl rfl dX5_could_20 rfl ?_
    refine gq_aload_n C 0 24 dX5_could_23 rfl rfl ?_
    refine gq_get C fo_X5_3 fw_X5_25 0 0 27 rfl rfl rfl dX5_could_24 rfl ?_
    refine gq_aload_n C 0 28 dX5_could_27 rfl rfl ?_
    refine gq_get C fo_X5_0 fw_X5_12 0 0 31 rfl rfl rfl dX5_could_28 rfl ?_
    obtain ⟨⟨⟨Q_ways_31, Q_untold_31, Q_trial_31, Q_first_31, Q_suspects_31⟩, ⟨I_law_31, I_there_31, I_sleepers_31, I_empty_31, I_empties_31, I_yard_31, I_waiting_31, I_nights_31, I_used_31, I_sheets_31, I_lastOnes_31, I_guestsWithFleas_31, I_bedsWithFleas_31, I_isCounting_31⟩, T_list_31⟩, hc, hf⟩ := gq_bd hf
    obtain ⟨hg31, hf⟩ := gq_gd hf
    refine gq_callN C hA gm_X5_192 (c_X1_search l D cI cZ aH aD aQ aI aT (H_beds, H_law, H_sights, H_isKept, H_worths, H_sightGuests, H_sightBeds) (D_length, D_signs) (Q_ways, Q_untold, Q_trial, Q_first, Q_suspects) (I_law, I_there, I_sleepers, I_empty, I_empties, I_yard, I_waiting, I_nights, I_used, I_sheets, I_lastOnes, I_guestsWithFleas, I_bedsWithFleas, I_isCounting) T_list _ (by omega) hc) rfl 3 0 rfl rfl rfl ⟨Nat.le_trans (Nat.le_of_ble_eq_true rfl) hR.1, Nat.le_trans (Nat.le_of_ble_eq_true rfl) hR.2.1⟩ ⟨Nat.zero_le _, Nat.zero_le _⟩ rfl (Nat.le_of_ble_eq_true rfl) dX5_could_31 [1, 2, 3, 4, 5] [bC cI aB (aH 0) rB1 rB2 (aD 0) rB4 (aQ 0) (aI 0) B_bedsByPlace, hC cI aH (H_beds, H_law, H_sights, H_isKept, H_worths, H_sightGuests, H_sightBeds), dC cI aD (D_length, D_signs), qC cI aQ (Q_ways_31, Q_untold_31, Q_trial_31, Q_first_31, Q_suspects_31), iC cI aI (aH 0) (nx aT) (I_law_31, I_there_31, I_sleepers_31, I_empty_31, I_empties_31, I_yard_31, I_waiting_31, I_nights_31, I_used_31, I_sheets_31, I_lastOnes_31, I_guestsWithFleas_31, I_bedsWithFleas_31, I_isCounting_31), chW cI (aH 0) aT T_list_31] 34 rfl (by decide) (by simp only [List.map_cons, List.map_nil, chW_fst (T1 := T_list_31) (T2 := T_list) hg31] <;> rfl) rfl rfl [] rfl ?_
    refine gq_aload_n C 0 35 dX5_could_34 rfl rfl ?_
    refine gq_get C fo_X5_5 fw_X5_39 0 0 38 rfl rfl rfl dX5_could_35 rfl ?_
    refine gq_iload_n C 1 39 dX5_could_38 rfl rfl ?_
    obtain ⟨r_39, hc, hf⟩ := gq_bd hf
    refine gq_callN C hA gm_X5_202 (c_X1_suspectsAt l D cI cZ aQ x1 (Q_ways_31, Q_untold_31, Q_trial_31, Q_first_31, Q_suspects_31) _ hc) rfl 3 0 rfl rfl rfl ⟨Nat.le_trans (Nat.le_of_ble_eq_true rfl) hR.1, Nat.le_trans (Nat.le_of_ble_eq_true rfl) hR.2.1⟩ ⟨Nat.zero_le _, Nat.zero_le _⟩ rfl (Nat.le_of_ble_eq_true rfl) dX5_could_39 [3] [bC cI aB (aH 0) rB1 rB2 (aD 0) rB4 (aQ 0) (aI 0) B_bedsByPlace, hC cI aH (H_beds, H_law, H_sights, H_isKept, H_worths, H_sightGuests, H_sightBeds), dC cI aD (D_length, D_signs), qC cI aQ (Q_ways_31, Q_untold_31, Q_trial_31, Q_first_31, Q_suspects_31), iC cI aI (aH 0) (nx aT) (I_law_31, I_there_31, I_sleepers_31, I_empty_31, I_empties_31, I_yard_31, I_waiting_31, I_nights_31, I_used_31, I_sheets_31, I_lastOnes_31, I_guestsWithFleas_31, I_bedsWithFleas_31, I_isCounting_31), chW cI (aH 0) aT T_list_31] 42 rfl (by decide) rfl rfl rfl [.int r_39] rfl ?_
    obtain rfl := gq_lf hf
    exact hret dX5_could_42 gPost.rf
  · replace hf := gq_ifn h9 hf
    refine gq_bipush C (-5 : Int32) 14 dX5_could_12 (by decide) rfl ?_
    obtain rfl := gq_lf hf
    exact hret dX5_could_14 gPost.rf

def f_X5_chance : Int32 → Int32 → Int32 → Int32 → WbS → HouS → DayS → InnS → (List InnS) → Option (Int64 × InnS × (List InnS))
  | x1, x2, x3, x4, B_bedsByPlace, (H_beds, H_law, H_sights, H_isKept, H_worths, H_sightGuests, H_sightBeds), (D_length, D_signs), (I_law, I_there, I_sleepers, I_empty, I_empties, I_yard, I_waiting, I_nights, I_used, I_sheets, I_lastOnes, I_guestsWithFleas, I_bedsWithFleas, I_isCounting), T_list => (Option.bind (f_X5_isBed x1 B_bedsByPlace (H_beds, H_law, H_sights, H_isKept, H_worths, H_sightGuests, H_sightBeds)) (fun r_2 => (if r_2 = 0 then some ((-1000000000000000001 : Int64), (I_law, I_there, I_sleepers, I_empty, I_empties, I_yard, I_waiting, I_nights, I_used, I_sheets, I_lastOnes, I_guestsWithFleas, I_bedsWithFleas, I_isCounting), T_list) else (if x2 < 0 then some ((-1000000000000000002 : Int64), (I_law, I_there, I_sleepers, I_empty, I_empties, I_yard, I_waiting, I_nights, I_used, I_sheets, I_lastOnes, I_guestsWithFleas, I_bedsWithFleas, I_isCounting), T_list) else (if (nI 8) < x2 then some ((-1000000000000000002 : Int64), (I_law, I_there, I_sleepers, I_empty, I_empties, I_yard, I_waiting, I_nights, I_used, I_sheets, I_lastOnes, I_guestsWithFleas, I_bedsWithFleas, I_isCounting), T_list) else (if x3 < 0 then some ((-1000000000000000002 : Int64), (I_law, I_there, I_sleepers, I_empty, I_empties, I_yard, I_waiting, I_nights, I_used, I_sheets, I_lastOnes, I_guestsWithFleas, I_bedsWithFleas, I_isCounting), T_list) else (if (nI 10) < x3 then some ((-1000000000000000002 : Int64), (I_law, I_there, I_sleepers, I_empty, I_empties, I_yard, I_waiting, I_nights, I_used, I_sheets, I_lastOnes, I_guestsWithFleas, I_bedsWithFleas, I_isCounting), T_list) else (Option.bind (f_X5_isEither x4) (fun r_34 => (if r_34 = 0 then some ((-1000000000000000002 : Int64), (I_law, I_there, I_sleepers, I_empty, I_empties, I_yard, I_waiting, I_nights, I_used, I_sheets, I_lastOnes, I_guestsWithFleas, I_bedsWithFleas, I_isCounting), T_list) else (Option.bind (f_X5_liveThrough (-1 : Int32) B_bedsByPlace (H_beds, H_law, H_sights, H_isKept, H_worths, H_sightGuests, H_sightBeds) (D_length, D_signs) (I_law, I_there, I_sleepers, I_empty, I_empties, I_yard, I_waiting, I_nights, I_used, I_sheets, I_lastOnes, I_guestsWithFleas, I_bedsWithFleas, I_isCounting)) (fun (r_46, (I_law_46, I_there_46, I_sleepers_46, I_empty_46, I_empties_46, I_yard_46, I_waiting_46, I_nights_46, I_used_46, I_sheets_46, I_lastOnes_46, I_guestsWithFleas_46, I_bedsWithFleas_46, I_isCounting_46)) => (if r_46 = 0 then (Option.bind (f_X5_weightOf 10 x1 x2 x3 (H_beds, H_law, H_sights, H_isKept, H_worths, H_sightGuests, H_sightBeds) (I_law_46, I_there_46, I_sleepers_46, I_empty_46, I_empties_46, I_yard_46, I_waiting_46, I_nights_46, I_used_46, I_sheets_46, I_lastOnes_46, I_guestsWithFleas_46, I_bedsWithFleas_46, I_isCounting_46) T_list) (fun (r_71, T_list_71) => (if T_list_71.length = T_list.length then (Option.bind (f_X5_partInLowestTerms r_71 x2 x4) (fun r_77 => some (r_77, (I_law_46, I_there_46, I_sleepers_46, I_empty_46, I_empties_46, I_yard_46, I_waiting_46, I_nights_46, I_used_46, I_sheets_46, I_lastOnes_46, I_guestsWithFleas_46, I_bedsWithFleas_46, I_isCounting_46), T_list_71))) else none))) else some (((-1000000000000000000 : Int64) + (r_46).toInt64), (I_law_46, I_there_46, I_sleepers_46, I_empty_46, I_empties_46, I_yard_46, I_waiting_46, I_nights_46, I_used_46, I_sheets_46, I_lastOnes_46, I_guestsWithFleas_46, I_bedsWithFleas_46, I_isCounting_46), T_list))))))))))))))
set_option maxHeartbeats 4000000 in
set_option maxRecDepth 100000 in
theorem c_X5_chance (l : Launch) (D : va_G) (cI cZ : ClassId) (aB : Nat → Nat) (rB1 : Nat) (rB2 : Nat) (rB4 : Nat) (rB5 : Nat) (aH : Nat → Nat) (aD : Nat → Nat) (aI : Nat → Nat) (aT : List (Nat → Nat)) (x1 : Int32) (x2 : Int32) (x3 : Int32) (x4 : Int32) (tB : WbS) (tH : HouS) (tD : DayS) (tI : InnS) (tT : (List InnS)) (rr : Int64 × InnS × (List InnS)) (hln : aT.length = tT.length) (hf : f_X5_chance x1 x2 x3 x4 tB tH tD tI tT = some rr) : CT l D cI cZ yX5_chance cX5_chance 6 (some .long) 41 828 0 0 [.ref (aB 0), .int x1, .int x2, .int x3, .int x4] ([bC cI aB (aH 0) rB1 rB2 (aD 0) rB4 rB5 (aI 0) tB, hC cI aH tH, dC cI aD tD, iC cI aI (aH 0) (nx aT) tI, chW cI (aH 0) aT tT]) (gPost (some (.long rr.1)) ([bC cI aB (aH 0) rB1 rB2 (aD 0) rB4 rB5 (aI 0) tB, hC cI aH tH, dC cI aD tD, iC cI aI (aH 0) (nx aT) rr.2.1, chW cI (aH 0) aT rr.2.2])) := by
  obtain ⟨B_bedsByPlace, rfl⟩ : ∃ z, z = tB := ⟨_, rfl⟩
  obtain ⟨H_beds, H_law, H_sights, H_isKept, H_worths, H_sightGuests, H_sightBeds⟩ := tH
  obtain ⟨D_length, D_signs⟩ := tD
  obtain ⟨I_law, I_there, I_sleepers, I_empty, I_empties, I_yard, I_waiting, I_nights, I_used, I_sheets, I_lastOnes, I_guestsWithFleas, I_bedsWithFleas, I_isCounting⟩ := tI
  obtain ⟨T_list, rfl⟩ : ∃ z, z = tT := ⟨_, rfl⟩
  rw [f_X5_chance] at hf
  refine CT.mkL (by decide) (Nat.le_of_ble_eq_true rfl) fun {p} {e} {R} {s} {m} {args} {below} {meth} {c} {A} {H0} {Q} C hA hR hret => ?_
  show G p l e R s m args below meth c 6 D A H0 0 0 Q [bC cI aB (aH 0) rB1 rB2 (aD 0) rB4 rB5 (aI 0) B_bedsByPlace, hC cI aH (H_beds, H_law, H_sights, H_isKept, H_worths, H_sightGuests, H_sightBeds), dC cI aD (D_length, D_signs), iC cI aI (aH 0) (nx aT) (I_law, I_there, I_sleepers, I_empty, I_empties, I_yard, I_waiting, I_nights, I_used, I_sheets, I_lastOnes, I_guestsWithFleas, I_bedsWithFleas, I_isCounting), chW cI (aH 0) aT T_list] 0 [(0, .ref (aB 0)), (1, .int x1), (2, .int x2), (3, .int x3), (4, .int x4)] []
  refine gq_aload_n C 0 1 dX5_chance_0 rfl rfl ?_
  refine gq_iload_n C 1 2 dX5_chance_1 rfl rfl ?_
  obtain ⟨r_2, hc, hf⟩ := gq_bd hf
  refine gq_callV C hA gm_X5_68 (c_X5_isBed l D cI cZ aB rB1 rB2 (aD 0) rB4 rB5 (aI 0) aH x1 B_bedsByPlace (H_beds, H_law, H_sights, H_isKept, H_worths, H_sightGuests, H_sightBeds) _ hc) rfl 0 0 rfl rfl rfl ⟨Nat.le_trans (Nat.le_of_ble_eq_true rfl) hR.1, Nat.le_trans (Nat.le_of_ble_eq_true rfl) hR.2.1⟩ ⟨Nat.zero_le _, Nat.zero_le _⟩ rfl (Nat.le_of_ble_eq_true rfl) dX5_chance_2 [0, 1] [bC cI aB (aH 0) rB1 rB2 (aD 0) rB4 rB5 (aI 0) B_bedsByPlace, hC cI aH (H_beds, H_law, H_sights, H_isKept, H_worths, H_sightGuests, H_sightBeds), dC cI aD (D_length, D_signs), iC cI aI (aH 0) (nx aT) (I_law, I_there, I_sleepers, I_empty, I_empties, I_yard, I_waiting, I_nights, I_used, I_sheets, I_lastOnes, I_guestsWithFleas, I_bedsWithFleas, I_isCounting), chW cI (aH 0) aT T_list] 5 rfl (by decide) rfl rfl rfl [.int r_2] rfl ?_
  refine gq_if_ne C 12 8 dX5_chance_5 (by decide) rfl (fun h5 => ?_) (fun h5 => ?_)
  · replace hf := gq_ifn h5 hf
    refine gq_iload_n C 2 13 dX5_chance_12 rfl rfl ?_
    refine gq_if_lt C 40 16 dX5_chance_13 (by decide) rfl (fun h13 => ?_) (fun h13 => ?_)
    · replace hf := gq_ifp h13 hf
      refine gq_ldc2 C (-1000000000000000002 : Int64) 43 cw_X5_207 dX5_chance_40 rfl ?_
      obtain rfl := gq_lf hf
      exact hret dX5_chance_43 gPost.rf
    · replace hf := gq_ifn h13 hf
      refine gq_iload_n C 2 17 dX5_chance_16 rfl rfl ?_
      refine gq_bipush C (nI 8) 19 dX5_chance_17 (by decide) rfl ?_
      refine gq_icmp_gt C 40 22 dX5_chance_19 (by decide) rfl (fun h19 => ?_) (fun h19 => ?_)
      · replace hf := gq_ifp h19 hf
        refine gq_ldc2 C (-1000000000000000002 : Int64) 43 cw_X5_207 dX5_chance_40 rfl ?_
        obtain rfl := gq_lf hf
        exact hret dX5_chance_43 gPost.rf
      · replace hf := gq_ifn h19 hf
        refine gq_iload_n C 3 23 dX5_chance_22 rfl rfl ?_
        refine gq_if_lt C 40 26 dX5_chance_23 (by decide) rfl (fun h23 => ?_) (fun h23 => ?_)
        · replace hf := gq_ifp h23 hf
          refine gq_ldc2 C (-1000000000000000002 : Int64) 43 cw_X5_207 dX5_chance_40 rfl ?_
          obtain rfl := gq_lf hf
          exact hret dX5_chance_43 gPost.rf
        · replace hf := gq_ifn h23 hf
          refine gq_iload_n C 3 27 dX5_chance_26 rfl rfl ?_
          refine gq_bipush C (nI 10) 29 dX5_chance_27 (by decide) rfl ?_
          refine gq_icmp_gt C 40 32 dX5_chance_29 (by decide) rfl (fun h29 => ?_) (fun h29 => ?_)
          · replace hf := gq_ifp h29 hf
            refine gq_ldc2 C (-1000000000000000002 : Int64) 43 cw_X5_207 dX5_chance_40 rfl ?_
            obtain rfl := gq_lf hf
            exact hret dX5_chance_43 gPost.rf
          · replace hf := gq_ifn h29 hf
            refine gq_iload C 4 34 dX5_chance_32 rfl rfl ?_
            obtain ⟨r_34, hc, hf⟩ := gq_bd hf
            refine gq_callS C hA gm_X5_96 (c_X5_isEither l D cI cZ  x4 _ hc) rfl ⟨Nat.le_trans (Nat.le_of_ble_eq_true rfl) hR.1, Nat.le_trans (Nat.le_of_ble_eq_true rfl) hR.2.1⟩ ⟨Nat.zero_le _, Nat.zero_le _⟩ rfl (Nat.le_of_ble_eq_true rfl) dX5_chance_34 [] [bC cI aB (aH 0) rB1 rB2 (aD 0) rB4 rB5 (aI 0) B_bedsByPlace, hC cI aH (H_beds, H_law, H_sights, H_isKept, H_worths, H_sightGuests, H_sightBeds), dC cI aD (D_length, D_signs), iC cI aI (aH 0) (nx aT) (I_law, I_there, I_sleepers, I_empty, I_empties, I_yard, I_waiting, I_nights, I_used, I_sheets, I_lastOnes, I_guestsWithFleas, I_bedsWithFleas, I_isCounting), chW cI (aH 0) aT T_list] 37 rfl (by decide) rfl rfl rfl [.int r_34] rfl ?_
            refine gq_if_ne C 44 40 dX5_chance_37 (by decide) rfl (fun h37 => ?_) (fun h37 => ?_)
            · replace hf := gq_ifn h37 hf
              refine gq_aload_n C 0 45 dX5_chance_44 rfl rfl ?_
              refine gq_iconst C (-1 : Int32) 46 dX5_chance_45 (by decide) rfl ?_
              obtain ⟨⟨r_46, ⟨I_law_46, I_there_46, I_sleepers_46, I_empty_46, I_empties_46, I_yard_46, I_waiting_46, I_nights_46, I_used_46, I_sheets_46, I_lastOnes_46, I_guestsWithFleas_46, I_bedsWithFleas_46, I_isCounting_46⟩⟩, hc, hf⟩ := gq_bd hf
              refine gq_callV C hA gm_X5_119 (c_X5_liveThrough l D cI cZ aB rB1 rB2 rB4 rB5 aH aD aI (nx aT) (-1 : Int32) B_bedsByPlace (H_beds, H_law, H_sights, H_isKept, H_worths, H_sightGuests, H_sightBeds) (D_length, D_signs) (I_law, I_there, I_sleepers, I_empty, I_empties, I_yard, I_waiting, I_nights, I_used, I_sheets, I_lastOnes, I_guestsWithFleas, I_bedsWithFleas, I_isCounting) _ hc) rfl 0 0 rfl rfl rfl ⟨Nat.le_trans (Nat.le_of_ble_eq_true rfl) hR.1, Nat.le_trans (Nat.le_of_ble_eq_true rfl) hR.2.1⟩ ⟨Nat.zero_le _, Nat.zero_le _⟩ rfl (Nat.le_of_ble_eq_true rfl) dX5_chance_46 [0, 1, 2, 3] [bC cI aB (aH 0) rB1 rB2 (aD 0) rB4 rB5 (aI 0) B_bedsByPlace, hC cI aH (H_beds, H_law, H_sights, H_isKept, H_worths, H_sightGuests, H_sightBeds), dC cI aD (D_length, D_signs), iC cI aI (aH 0) (nx aT) (I_law_46, I_there_46, I_sleepers_46, I_empty_46, I_empties_46, I_yard_46, I_waiting_46, I_nights_46, I_used_46, I_sheets_46, I_lastOnes_46, I_guestsWithFleas_46, I_bedsWithFleas_46, I_isCounting_46), chW cI (aH 0) aT T_list] 49 rfl (by decide) rfl rfl rfl [.int r_46] rfl ?_
              refine gq_istore C [(5, .int r_46), (0, .ref (aB 0)), (1, .int x1), (2, .int x2), (3, .int x3), (4, .int x4)] 51 dX5_chance_49 (by decide) rfl rfl ?_
              refine gq_iload C 0 53 dX5_chance_51 rfl rfl ?_
              refine gq_if_eq C 64 56 dX5_chance_53 (by decide) rfl (fun h53 => ?_) (fun h53 => ?_)
              · replace hf := gq_ifp h53 hf
                refine gq_aload_n C 1 65 dX5_chance_64 rfl rfl ?_
                refine gq_get C fo_X5_6 fw_X5_52 0 0 68 rfl rfl rfl dX5_chance_65 rfl ?_
                refine gq_iload_n C 2 69 dX5_chance_68 rfl rfl ?_
                refine gq_iload_n C 3 70 dX5_chance_69 rfl rfl ?_
                refine gq_iload_n C 4 71 dX5_chance_70 rfl rfl ?_
                obtain ⟨⟨r_71, T_list_71⟩, hc, hf⟩ := gq_bd hf
                obtain ⟨hg71, hf⟩ := gq_gd hf
                refine gq_callS C hA gm_X5_211 (c_X5_weightOf l D cI cZ 10 aH aI aT x1 x2 x3 (H_beds, H_law, H_sights, H_isKept, H_worths, H_sightGuests, H_sightBeds) (I_law_46, I_there_46, I_sleepers_46, I_empty_46, I_empties_46, I_yard_46, I_waiting_46, I_nights_46, I_used_46, I_sheets_46, I_lastOnes_46, I_guestsWithFleas_46, I_bedsWithFleas_46, I_isCounting_46) T_list _ (by omega) hc) rfl ⟨Nat.le_trans (Nat.le_of_ble_eq_true rfl) hR.1, Nat.le_trans (Nat.le_of_ble_eq_true rfl) hR.2.1⟩ ⟨Nat.zero_le _, Nat.zero_le _⟩ rfl (Nat.le_of_ble_eq_true rfl) dX5_chance_71 [1, 3, 4] [bC cI aB (aH 0) rB1 rB2 (aD 0) rB4 rB5 (aI 0) B_bedsByPlace, hC cI aH (H_beds, H_law, H_sights, H_isKept, H_worths, H_sightGuests, H_sightBeds), dC cI aD (D_length, D_signs), iC cI aI (aH 0) (nx aT) (I_law_46, I_there_46, I_sleepers_46, I_empty_46, I_empties_46, I_yard_46, I_waiting_46, I_nights_46, I_used_46, I_sheets_46, I_lastOnes_46, I_guestsWithFleas_46, I_bedsWithFleas_46, I_isCounting_46), chW cI (aH 0) aT T_list_71] 74 rfl (by decide) (by simp only [List.map_cons, List.map_nil, chW_fst (T1 := T_list_71) (T2 := T_list) hg71] <;> rfl) rfl rfl [.long r_71] rfl ?_
                refine gq_iload_n C 3 75 dX5_chance_74 rfl rfl ?_
                refine gq_iload C 5 77 dX5_chance_75 rfl rfl ?_
                obtain ⟨r_77, hc, hf⟩ := gq_bd hf
                refine gq_callS C hA gm_X5_215 (c_X5_partInLowestTerms l D cI cZ  r_71 x2 x4 _ hc) rfl ⟨Nat.le_trans (Nat.le_of_ble_eq_true rfl) hR.1, Nat.le_trans (Nat.le_of_ble_eq_true rfl) hR.2.1⟩ ⟨Nat.zero_le _, Nat.zero_le _⟩ rfl (Nat.le_of_ble_eq_true rfl) dX5_chance_77 [] [bC cI aB (aH 0) rB1 rB2 (aD 0) rB4 rB5 (aI 0) B_bedsByPlace, hC cI aH (H_beds, H_law, H_sights, H_isKept, H_worths, H_sightGuests, H_sightBeds), dC cI aD (D_length, D_signs), iC cI aI (aH 0) (nx aT) (I_law_46, I_there_46, I_sleepers_46, I_empty_46, I_empties_46, I_yard_46, I_waiting_46, I_nights_46, I_used_46, I_sheets_46, I_lastOnes_46, I_guestsWithFleas_46, I_bedsWithFleas_46, I_isCounting_46), chW cI (aH 0) aT T_list_71] 80 rfl (by decide) rfl rfl rfl [.long r_77] rfl ?_
                obtain rfl := gq_lf hf
                exact hret dX5_chance_80 gPost.rf
              · replace hf := gq_ifn h53 hf
                refine gq_ldc2 C (-1000000000000000000 : Int64) 59 cw_X5_209 dX5_chance_56 rfl ?_
                refine gq_iload C 0 61 dX5_chance_59 rfl rfl ?_
                refine gq_i2l C 62 dX5_chance_61 rfl ?_
                refine gq_ladd C 63 dX5_chance_62 rfl ?_
                obtain rfl := gq_lf hf
                exact hret dX5_chance_63 gPost.rf
            · replace hf := gq_ifp h37 hf
              refine gq_ldc2 C (-1000000000000000002 : Int64) 43 cw_X5_207 dX5_chance_40 rfl ?_
              obtain rfl := gq_lf hf
              exact hret dX5_chance_43 gPost.rf
  · replace hf := gq_ifp h5 hf
    refine gq_ldc2 C (-1000000000000000001 : Int64) 11 cw_X5_205 dX5_chance_8 rfl ?_
    obtain rfl := gq_lf hf
    exact hret dX5_chance_11 gPost.rf
