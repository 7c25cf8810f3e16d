set_option maxHeartbeats 4000000 in
set_option maxRecDepth 100000 in
theorem lo_reach {p : Program} {l : Launch} {e : Env} {s : State} {m : MethodId} {below : List Frame} {meth : Method} {c : Code} {D : va_G} {cI cZ : ClassId} {b L kc ks : Nat} {xs : Nat → Int32} (C : gC p s m #[Value.ref b] c cL_law 4 RL D cI cZ) (hX : va_X b L xs s s.heap) (hbl : b < s.heap.size) (hL : L ≤ 2560) (hkR : kc ≤ room_1.cells ∧ ks ≤ room_1.slots) (k : Nat) (hk : 5 * k + 5 ≤ L) (aB aH aY aZ aD aP aQ aI aM : Nat → Nat) (aT : List (Nat → Nat)) (tB : WbS) (tH tY tZ : HouS) (tD : DayS) (tP : ParS) (tQ : GueS) (tI : InnS) (tT : List InnS) (tM : ModS) (hI : Inv tH tY tZ tD tT tM) (hlT : aT.length = 8)
    (next : ∀ (tB : WbS) (tH tY tZ : HouS) (tD : DayS) (tP : ParS) (tQ : GueS) (tI : InnS) (tT : List InnS) (tM : ModS), Inv tH tY tZ tD tT tM → G p l e room_1 s m #[Value.ref b] below meth c 4 D (fun q : Nat => s.heap.size ≤ q) s.heap kc ks (lw_Z below #[Value.ref b] s) [bC cI aB (aH 0) (aY 0) (aZ 0) (aD 0) (aP 0) (aQ 0) (aI 0) tB, hC cI aH tH, hC cI aY tY, hC cI aZ tZ, dC cI aD tD, pC cI aP tP, qC cI aQ tQ, iC cI aI (aH 0) (nx aT) tI, chW cI (aH 0) aT tT, mC cI cZ aM tM] 918 [(3, .int (nI (5 * k))), (2, .ref (aM 0)), (1, .ref (aB 0)), (0, .ref b)] []) : G p l e room_1 s m #[Value.ref b] below meth c 4 D (fun q : Nat => s.heap.size ≤ q) s.heap kc ks (lw_Z below #[Value.ref b] s) [bC cI aB (aH 0) (aY 0) (aZ 0) (aD 0) (aP 0) (aQ 0) (aI 0) tB, hC cI aH tH, hC cI aY tY, hC cI aZ tZ, dC cI aD tD, pC cI aP tP, qC cI aQ tQ, iC cI aI (aH 0) (nx aT) tI, chW cI (aH 0) aT tT, mC cI cZ aM tM] 548 [(3, .int (nI (5 * k))), (2, .ref (aM 0)), (1, .ref (aB 0)), (0, .ref b)] [] := by
  have hbA : ¬ (fun q : Nat => s.heap.size ≤ q) b := Nat.not_le.mpr hbl
  have hA : ∀ q : Nat, s.heap.size ≤ q → (fun q : Nat => s.heap.size ≤ q) q := fun _ h => h
  have hb1 : ¬ (nI (5 * k) + nI 1 < 0 ∨ L ≤ (nI (5 * k) + nI 1).toNatClampNeg) := by rw [nI_add]; exact vp_in_nI (by omega) (by omega)
  obtain ⟨r, wI, wM, h5, h6, hI2⟩ := op_reach tB tP tQ tI hI (xs (nI (5 * k) + nI 1).toNatClampNeg)
  obtain ⟨fsM, hM0⟩ := mC_get0 cI cZ aM tM
  refine gq_aload_n C 2 549 dL_law_548 rfl rfl ?_
  refine gq_aload_n C 3 550 dL_law_549 rfl rfl ?_
  refine gq_iload_n C 0 551 dL_law_550 rfl rfl ?_
  refine gq_iconst C (nI 1) 552 dL_law_551 (by decide) rfl ?_
  refine gq_iadd C 553 dL_law_552 rfl ?_
  refine gq_sld C hX hbl hbA 554 hb1 dL_law_553 rfl ?_
  refine gq_callV C hA gm_L_73 (c_X5_reach l D cI cZ aB (aY 0) (aZ 0) (aP 0) (aQ 0) aH aD aI (nx aT) (xs (nI (5 * k) + nI 1).toNatClampNeg) tB tH tD tI _ h5) rfl 0 0 rfl rfl rfl ⟨Nat.le_of_ble_eq_true rfl, Nat.le_of_ble_eq_true rfl⟩ hkR rfl (Nat.le_of_ble_eq_true rfl) dL_law_554 [0, 1, 4, 7] [bC cI aB (aH 0) (aY 0) (aZ 0) (aD 0) (aP 0) (aQ 0) (aI 0) tB, hC cI aH tH, hC cI aY tY, hC cI aZ tZ, dC cI aD tD, pC cI aP tP, qC cI aQ tQ, iC cI aI (aH 0) (nx aT) wI, chW cI (aH 0) aT tT, mC cI cZ aM tM] 557 rfl (by decide) (by simp only [List.map_cons, List.map_nil, bC_fst, hC_fst, dC_fst, pC_fst, qC_fst, iC_fst, mC_fst]) rfl rfl [.int r] rfl ?_
  refine gq_aload_n C 1 558 dL_law_557 rfl rfl ?_
  refine gq_aload_n C 3 559 dL_law_558 rfl rfl ?_
  refine gq_iload_n C 0 560 dL_law_559 rfl rfl ?_
  refine gq_iconst C (nI 1) 561 dL_law_560 (by decide) rfl ?_
  refine gq_iadd C 562 dL_law_561 rfl ?_
  refine gq_sld C hX hbl hbA 563 hb1 dL_law_562 rfl ?_
  refine gq_callV C hA gm_L_76 (c_X6_reach l D cI cZ aM (xs (nI (5 * k) + nI 1).toNatClampNeg) tM _ h6) rfl 9 0 rfl hM0 rfl ⟨Nat.le_of_ble_eq_true rfl, Nat.le_of_ble_eq_true rfl⟩ hkR rfl (Nat.le_of_ble_eq_true rfl) dL_law_563 [9] [bC cI aB (aH 0) (aY 0) (aZ 0) (aD 0) (aP 0) (aQ 0) (aI 0) tB, hC cI aH tH, hC cI aY tY, hC cI aZ tZ, dC cI aD tD, pC cI aP tP, qC cI aQ tQ, iC cI aI (aH 0) (nx aT) wI, chW cI (aH 0) aT tT, mC cI cZ aM wM] 566 rfl (by decide) (by simp only [List.map_cons, List.map_nil, bC_fst, hC_fst, dC_fst, pC_fst, qC_fst, iC_fst, mC_fst]) rfl rfl [.int r, .int r] rfl ?_
  refine gq_icmp_eq C 918 569 dL_law_566 (by decide) rfl (fun _ => ?_) (fun h => absurd rfl h)
  exact next tB tH tY tZ tD tP tQ wI tT wM hI2

set_option maxHeartbeats 4000000 in
set_option maxRecDepth 100000 in
theorem lo_party {p : Program} {l : Launch} {e : Env} {s : State} {m : MethodId} {below : List Frame} {meth : Method} {c : Code} {D : va_G} {cI cZ : ClassId} {b L kc ks : Nat} {xs : Nat → Int32} (C : gC p s m #[Value.ref b] c cL_law 4 RL D cI cZ) (hX : va_X b L xs s s.heap) (hbl : b < s.heap.size) (hL : L ≤ 2560) (hkR : kc ≤ room_1.cells ∧ ks ≤ room_1.slots) (k : Nat) (hk : 5 * k + 5 ≤ L) (aB aH aY aZ aD aP aQ aI aM : Nat → Nat) (aT : List (Nat → Nat)) (tB : WbS) (tH tY tZ : HouS) (tD : DayS) (tP : ParS) (tQ : GueS) (tI : InnS) (tT : List InnS) (tM : ModS) (hI : Inv tH tY tZ tD tT tM) (hlT : aT.length = 8)
    (next : ∀ (tB : WbS) (tH tY tZ : HouS) (tD : DayS) (tP : ParS) (tQ : GueS) (tI : InnS) (tT : List InnS) (tM : ModS), Inv tH tY tZ tD tT tM → G p l e room_1 s m #[Value.ref b] below meth c 4 D (fun q : Nat => s.heap.size ≤ q) s.heap kc ks (lw_Z below #[Value.ref b] s) [bC cI aB (aH 0) (aY 0) (aZ 0) (aD 0) (aP 0) (aQ 0) (aI 0) tB, hC cI aH tH, hC cI aY tY, hC cI aZ tZ, dC cI aD tD, pC cI aP tP, qC cI aQ tQ, iC cI aI (aH 0) (nx aT) tI, chW cI (aH 0) aT tT, mC cI cZ aM tM] 918 [(3, .int (nI (5 * k))), (2, .ref (aM 0)), (1, .ref (aB 0)), (0, .ref b)] []) : G p l e room_1 s m #[Value.ref b] below meth c 4 D (fun q : Nat => s.heap.size ≤ q) s.heap kc ks (lw_Z below #[Value.ref b] s) [bC cI aB (aH 0) (aY 0) (aZ 0) (aD 0) (aP 0) (aQ 0) (aI 0) tB, hC cI aH tH, hC cI aY tY, hC cI aZ tZ, dC cI aD tD, pC cI aP tP, qC cI aQ tQ, iC cI aI (aH 0) (nx aT) tI, chW cI (aH 0) aT tT, mC cI cZ aM tM] 571 [(3, .int (nI (5 * k))), (2, .ref (aM 0)), (1, .ref (aB 0)), (0, .ref b)] [] := by
  have hbA : ¬ (fun q : Nat => s.heap.size ≤ q) b := Nat.not_le.mpr hbl
  have hA : ∀ q : Nat, s.heap.size ≤ q → (fun q : Nat => s.heap.size ≤ q) q := fun _ h => h
  have hb1 : ¬ (nI (5 * k) + nI 1 < 0 ∨ L ≤ (nI (5 * k) + nI 1).toNatClampNeg) := by rw [nI_add]; exact vp_in_nI (by omega) (by omega)
  have hb2 : ¬ (nI (5 * k) + nI 2 < 0 ∨ L ≤ (nI (5 * k) + nI 2).toNatClampNeg) := by rw [nI_add]; exact vp_in_nI (by omega) (by omega)
  obtain ⟨r, wP, wI, wT, wM, h5, h6, hI2⟩ := op_party tB tP tQ tI hI (xs (nI (5 * k) + nI 1).toNatClampNeg) (xs (nI (5 * k) + nI 2).toNatClampNeg)
  obtain ⟨fsM, hM0⟩ := mC_get0 cI cZ aM tM
  refine gq_aload_n C 2 572 dL_law_571 rfl rfl ?_
  refine gq_aload_n C 3 573 dL_law_572 rfl rfl ?_
  refine gq_iload_n C 0 574 dL_law_573 rfl rfl ?_
  refine gq_iconst C (nI 1) 575 dL_law_574 (by decide) rfl ?_
  refine gq_iadd C 576 dL_law_575 rfl ?_
  refine gq_sld C hX hbl hbA 577 hb1 dL_law_576 rfl ?_
  refine gq_aload_n C 3 578 dL_law_577 rfl rfl ?_
  refine gq_iload_n C 0 579 dL_law_578 rfl rfl ?_
  refine gq_iconst C (nI 2) 580 dL_law_579 (by decide) rfl ?_
  refine gq_iadd C 581 dL_law_580 rfl ?_
  refine gq_sld C hX hbl hbA 582 hb2 dL_law_581 rfl ?_
  refine gq_callV C hA gm_L_77 (c_X5_party l D cI cZ aB (aY 0) (aZ 0) (aQ 0) aH aD aP aI aT (xs (nI (5 * k) + nI 1).toNatClampNeg) (xs (nI (5 * k) + nI 2).toNatClampNeg) tB tH tD tP tI tT _ (show aT.length = tT.length by rw [hlT, hI.1]) h5) rfl 0 0 rfl rfl rfl ⟨Nat.le_of_ble_eq_true rfl, Nat.le_of_ble_eq_true rfl⟩ hkR rfl (Nat.le_of_ble_eq_true rfl) dL_law_582 [0, 1, 4, 5, 7, 8] [bC cI aB (aH 0) (aY 0) (aZ 0) (aD 0) (aP 0) (aQ 0) (aI 0) tB, hC cI aH tH, hC cI aY tY, hC cI aZ tZ, dC cI aD tD, pC cI aP wP, qC cI aQ tQ, iC cI aI (aH 0) (nx aT) wI, chW cI (aH 0) aT wT, mC cI cZ aM tM] 585 rfl (by decide) (by simp only [List.map_cons, List.map_nil, bC_fst, hC_fst, dC_fst, pC_fst, qC_fst, iC_fst, mC_fst, chW_fst (T1 := wT) (T2 := tT) (by rw [hI2.1, hI.1])]) rfl rfl [.int r] rfl ?_
  refine gq_aload_n C 1 586 dL_law_585 rfl rfl ?_
  refine gq_aload_n C 3 587 dL_law_586 rfl rfl ?_
  refine gq_iload_n C 0 588 dL_law_587 rfl rfl ?_
  refine gq_iconst C (nI 1) 589 dL_law_588 (by decide) rfl ?_
  refine gq_iadd C 590 dL_law_589 rfl ?_
  refine gq_sld C hX hbl hbA 591 hb1 dL_law_590 rfl ?_
  refine gq_aload_n C 3 592 dL_law_591 rfl rfl ?_
  refine gq_iload_n C 0 593 dL_law_592 rfl rfl ?_
  refine gq_iconst C (nI 2) 594 dL_law_593 (by decide) rfl ?_
  refine gq_iadd C 595 dL_law_594 rfl ?_
  refine gq_sld C hX hbl hbA 596 hb2 dL_law_595 rfl ?_
  refine gq_callV C hA gm_L_80 (c_X6_party l D cI cZ aM (xs (nI (5 * k) + nI 1).toNatClampNeg) (xs (nI (5 * k) + nI 2).toNatClampNeg) tM _ h6) rfl 9 0 rfl hM0 rfl ⟨Nat.le_of_ble_eq_true rfl, Nat.le_of_ble_eq_true rfl⟩ hkR rfl (Nat.le_of_ble_eq_true rfl) dL_law_596 [9] [bC cI aB (aH 0) (aY 0) (aZ 0) (aD 0) (aP 0) (aQ 0) (aI 0) tB, hC cI aH tH, hC cI aY tY, hC cI aZ tZ, dC cI aD tD, pC cI aP wP, qC cI aQ tQ, iC cI aI (aH 0) (nx aT) wI, chW cI (aH 0) aT wT, mC cI cZ aM wM] 599 rfl (by decide) (by simp only [List.map_cons, List.map_nil, bC_fst, hC_fst, dC_fst, pC_fst, qC_fst, iC_fst, mC_fst]) rfl rfl [.int r, .int r] rfl ?_
  refine gq_icmp_eq C 918 602 dL_law_599 (by decide) rfl (fun _ => ?_) (fun h => absurd rfl h)
  exact next tB tH tY tZ tD wP tQ wI wT wM hI2

set_option maxHeartbeats 4000000 in
set_option maxRecDepth 100000 in
theorem lo_fleas {p : Program} {l : Launch} {e : Env} {s : State} {m : MethodId} {below : List Frame} {meth : Method} {c : Code} {D : va_G} {cI cZ : ClassId} {b L kc ks : Nat} {xs : Nat → Int32} (C : gC p s m #[Value.ref b] c cL_law 4 RL D cI cZ) (hX : va_X b L xs s s.heap) (hbl : b < s.heap.size) (hL : L ≤ 2560) (hkR : kc ≤ room_1.cells ∧ ks ≤ room_1.slots) (k : Nat) (hk : 5 * k + 5 ≤ L) (aB aH aY aZ aD aP aQ aI aM : Nat → Nat) (aT : List (Nat → Nat)) (tB : WbS) (tH tY tZ : HouS) (tD : DayS) (tP : ParS) (tQ : GueS) (tI : InnS) (tT : List InnS) (tM : ModS) (hI : Inv tH tY tZ tD tT tM) (hlT : aT.length = 8)
    (next : ∀ (tB : WbS) (tH tY tZ : HouS) (tD : DayS) (tP : ParS) (tQ : GueS) (tI : InnS) (tT : List InnS) (tM : ModS), Inv tH tY tZ tD tT tM → G p l e room_1 s m #[Value.ref b] below meth c 4 D (fun q : Nat => s.heap.size ≤ q) s.heap kc ks (lw_Z below #[Value.ref b] s) [bC cI aB (aH 0) (aY 0) (aZ 0) (aD 0) (aP 0) (aQ 0) (aI 0) tB, hC cI aH tH, hC cI aY tY, hC cI aZ tZ, dC cI aD tD, pC cI aP tP, qC cI aQ tQ, iC cI aI (aH 0) (nx aT) tI, chW cI (aH 0) aT tT, mC cI cZ aM tM] 918 [(3, .int (nI (5 * k))), (2, .ref (aM 0)), (1, .ref (aB 0)), (0, .ref b)] []) : G p l e room_1 s m #[Value.ref b] below meth c 4 D (fun q : Nat => s.heap.size ≤ q) s.heap kc ks (lw_Z below #[Value.ref b] s) [bC cI aB (aH 0) (aY 0) (aZ 0) (aD 0) (aP 0) (aQ 0) (aI 0) tB, hC cI aH tH, hC cI aY tY, hC cI aZ tZ, dC cI aD tD, pC cI aP tP, qC cI aQ tQ, iC cI aI (aH 0) (nx aT) tI, chW cI (aH 0) aT tT, mC cI cZ aM tM] 604 [(3, .int (nI (5 * k))), (2, .ref (aM 0)), (1, .ref (aB 0)), (0, .ref b)] [] := by
  have hbA : ¬ (fun q : Nat => s.heap.size ≤ q) b := Nat.not_le.mpr hbl
  have hA : ∀ q : Nat, s.heap.size ≤ q → (fun q : Nat => s.heap.size ≤ q) q := fun _ h => h
  have hb1 : ¬ (nI (5 * k) + nI 1 < 0 ∨ L ≤ (nI (5 * k) + nI 1).toNatClampNeg) := by rw [nI_add]; exact vp_in_nI (by omega) (by omega)
  have hb2 : ¬ (nI (5 * k) + nI 2 < 0 ∨ L ≤ (nI (5 * k) + nI 2).toNatClampNeg) := by rw [nI_add]; exact vp_in_nI (by omega) (by omega)
  obtain ⟨r, wI, wM, h5, h6, hI2⟩ := op_fleas tB tP tQ tI hI (xs (nI (5 * k) + nI 1).toNatClampNeg) (xs (nI (5 * k) + nI 2).toNatClampNeg)
  obtain ⟨fsM, hM0⟩ := mC_get0 cI cZ aM tM
  refine gq_aload_n C 2 605 dL_law_604 rfl rfl ?_
  refine gq_aload_n C 3 606 dL_law_605 rfl rfl ?_
  refine gq_iload_n C 0 607 dL_law_606 rfl rfl ?_
  refine gq_iconst C (nI 1) 608 dL_law_607 (by decide) rfl ?_
  refine gq_iadd C 609 dL_law_608 rfl ?_
  refine gq_sld C hX hbl hbA 610 hb1 dL_law_609 rfl ?_
  refine gq_aload_n C 3 611 dL_law_610 rfl rfl ?_
  refine gq_iload_n C 0 612 dL_law_611 rfl rfl ?_
  refine gq_iconst C (nI 2) 613 dL_law_612 (by decide) rfl ?_
  refine gq_iadd C 614 dL_law_613 rfl ?_
  refine gq_sld C hX hbl hbA 615 hb2 dL_law_614 rfl ?_
  refine gq_callV C hA gm_L_81 (c_X5_fleas l D cI cZ aB (aY 0) (aZ 0) (aP 0) (aQ 0) aH aD aI (nx aT) (xs (nI (5 * k) + nI 1).toNatClampNeg) (xs (nI (5 * k) + nI 2).toNatClampNeg) tB tH tD tI _ h5) rfl 0 0 rfl rfl rfl ⟨Nat.le_of_ble_eq_true rfl, Nat.le_of_ble_eq_true rfl⟩ hkR rfl (Nat.le_of_ble_eq_true rfl) dL_law_615 [0, 1, 4, 7] [bC cI aB (aH 0) (aY 0) (aZ 0) (aD 0) (aP 0) (aQ 0) (aI 0) tB, hC cI aH tH, hC cI aY tY, hC cI aZ tZ, dC cI aD tD, pC cI aP tP, qC cI aQ tQ, iC cI aI (aH 0) (nx aT) wI, chW cI (aH 0) aT tT, mC cI cZ aM tM] 618 rfl (by decide) (by simp only [List.map_cons, List.map_nil, bC_fst, hC_fst, dC_fst, pC_fst, qC_fst, iC_fst, mC_fst]) rfl rfl [.int r] rfl ?_
  refine gq_aload_n C 1 619 dL_law_618 rfl rfl ?_
  refine gq_aload_n C 3 620 dL_law_619 rfl rfl ?_
  refine gq_iload_n C 0 621 dL_law_620 rfl rfl ?_
  refine gq_iconst C (nI 1) 622 dL_law_621 (by decide) rfl ?_
  refine gq_iadd C 623 dL_law_622 rfl ?_
  refine gq_sld C hX hbl hbA 624 hb1 dL_law_623 rfl ?_
  refine gq_aload_n C 3 625 dL_law_624 rfl rfl ?_
  refine gq_iload_n C 0 626 dL_law_625 rfl rfl ?_
  refine gq_iconst C (nI 2) 627 dL_law_626 (by decide) rfl ?_
  refine gq_iadd C 628 dL_law_627 rfl ?_
  refine gq_sld C hX hbl hbA 629 hb2 dL_law_628 rfl ?_
  refine gq_callV C hA gm_L_84 (c_X6_fleas l D cI cZ aM (xs (nI (5 * k) + nI 1).toNatClampNeg) (xs (nI (5 * k) + nI 2).toNatClampNeg) tM _ h6) rfl 9 0 rfl hM0 rfl ⟨Nat.le_of_ble_eq_true rfl, Nat.le_of_ble_eq_true rfl⟩ hkR rfl (Nat.le_of_ble_eq_true rfl) dL_law_629 [9] [bC cI aB (aH 0) (aY 0) (aZ 0) (aD 0) (aP 0) (aQ 0) (aI 0) tB, hC cI aH tH, hC cI aY tY, hC cI aZ tZ, dC cI aD tD, pC cI aP tP, qC cI aQ tQ, iC cI aI (aH 0) (nx aT) wI, chW cI (aH 0) aT tT, mC cI cZ aM wM] 632 rfl (by decide) (by simp only [List.map_cons, List.map_nil, bC_fst, hC_fst, dC_fst, pC_fst, qC_fst, iC_fst, mC_fst]) rfl rfl [.int r, .int r] rfl ?_
  refine gq_icmp_eq C 918 635 dL_law_632 (by decide) rfl (fun _ => ?_) (fun h => absurd rfl h)
  exact next tB tH tY tZ tD tP tQ wI tT wM hI2

set_option maxHeartbeats 4000000 in
set_option maxRecDepth 100000 in
theorem lo_brought {p : Program} {l : Launch} {e : Env} {s : State} {m : MethodId} {below : List Frame} {meth : Method} {c : Code} {D : va_G} {cI cZ : ClassId} {b L kc ks : Nat} {xs : Nat → Int32} (C : gC p s m #[Value.ref b] c cL_law 4 RL D cI cZ) (hX : va_X b L xs s s.heap) (hbl : b < s.heap.size) (hL : L ≤ 2560) (hkR : kc ≤ room_1.cells ∧ ks ≤ room_1.slots) (k : Nat) (hk : 5 * k + 5 ≤ L) (aB aH aY aZ aD aP aQ aI aM : Nat → Nat) (aT : List (Nat → Nat)) (tB : WbS) (tH tY tZ : HouS) (tD : DayS) (tP : ParS) (tQ : GueS) (tI : InnS) (tT : List InnS) (tM : ModS) (hI : Inv tH tY tZ tD tT tM) (hlT : aT.length = 8)
    (next : ∀ (tB : WbS) (tH tY tZ : HouS) (tD : DayS) (tP : ParS) (tQ : GueS) (tI : InnS) (tT : List InnS) (tM : ModS), Inv tH tY tZ tD tT tM → G p l e room_1 s m #[Value.ref b] below meth c 4 D (fun q : Nat => s.heap.size ≤ q) s.heap kc ks (lw_Z below #[Value.ref b] s) [bC cI aB (aH 0) (aY 0) (aZ 0) (aD 0) (aP 0) (aQ 0) (aI 0) tB, hC cI aH tH, hC cI aY tY, hC cI aZ tZ, dC cI aD tD, pC cI aP tP, qC cI aQ tQ, iC cI aI (aH 0) (nx aT) tI, chW cI (aH 0) aT tT, mC cI cZ aM tM] 918 [(3, .int (nI (5 * k))), (2, .ref (aM 0)), (1, .ref (aB 0)), (0, .ref b)] []) : G p l e room_1 s m #[Value.ref b] below meth c 4 D (fun q : Nat => s.heap.size ≤ q) s.heap kc ks (lw_Z below #[Value.ref b] s) [bC cI aB (aH 0) (aY 0) (aZ 0) (aD 0) (aP 0) (aQ 0) (aI 0) tB, hC cI aH tH, hC cI aY tY, hC cI aZ tZ, dC cI aD tD, pC cI aP tP, qC cI aQ tQ, iC cI aI (aH 0) (nx aT) tI, chW cI (aH 0) aT tT, mC cI cZ aM tM] 637 [(3, .int (nI (5 * k))), (2, .ref (aM 0)), (1, .ref (aB 0)), (0, .ref b)] [] := by
  have hbA : ¬ (fun q : Nat => s.heap.size ≤ q) b := Nat.not_le.mpr hbl
  have hA : ∀ q : Nat, s.heap.size ≤ q → (fun q : Nat => s.heap.size ≤ q) q := fun _ h => h
  have hb1 : ¬ (nI (5 * k) + nI 1 < 0 ∨ L ≤ (nI (5 * k) + nI 1).toNatClampNeg) := by rw [nI_add]; exact vp_in_nI (by omega) (by omega)
  obtain ⟨r, wI, wM, h5, h6, hI2⟩ := op_brought tB tP tQ tI hI (xs (nI (5 * k) + nI 1).toNatClampNeg)
  obtain ⟨fsM, hM0⟩ := mC_get0 cI cZ aM tM
  refine gq_aload_n C 2 638 dL_law_637 rfl rfl ?_
  refine gq_aload_n C 3 639 dL_law_638 rfl rfl ?_
  refine gq_iload_n C 0 640 dL_law_639 rfl rfl ?_
  refine gq_iconst C (nI 1) 641 dL_law_640 (by decide) rfl ?_
  refine gq_iadd C 642 dL_law_641 rfl ?_
  refine gq_sld C hX hbl hbA 643 hb1 dL_law_642 rfl ?_
  refine gq_callV C hA gm_L_85 (c_X5_brought l D cI cZ aB (aY 0) (aZ 0) (aP 0) (aQ 0) aH aD aI (nx aT) (xs (nI (5 * k) + nI 1).toNatClampNeg) tB tH tD tI _ h5) rfl 0 0 rfl rfl rfl ⟨Nat.le_of_ble_eq_true rfl, Nat.le_of_ble_eq_true rfl⟩ hkR rfl (Nat.le_of_ble_eq_true rfl) dL_law_643 [0, 1, 4, 7] [bC cI aB (aH 0) (aY 0) (aZ 0) (aD 0) (aP 0) (aQ 0) (aI 0) tB, hC cI aH tH, hC cI aY tY, hC cI aZ tZ, dC cI aD tD, pC cI aP tP, qC cI aQ tQ, iC cI aI (aH 0) (nx aT) wI, chW cI (aH 0) aT tT, mC cI cZ aM tM] 646 rfl (by decide) (by simp only [List.map_cons, List.map_nil, bC_fst, hC_fst, dC_fst, pC_fst, qC_fst, iC_fst, mC_fst]) rfl rfl [.int r] rfl ?_
  refine gq_aload_n C 1 647 dL_law_646 rfl rfl ?_
  refine gq_aload_n C 3 648 dL_law_647 rfl rfl ?_
  refine gq_iload_n C 0 649 dL_law_648 rfl rfl ?_
  refine gq_iconst C (nI 1) 650 dL_law_649 (by decide) rfl ?_
  refine gq_iadd C 651 dL_law_650 rfl ?_
  refine gq_sld C hX hbl hbA 652 hb1 dL_law_651 rfl ?_
  refine gq_callV C hA gm_L_88 (c_X6_brought l D cI cZ aM (xs (nI (5 * k) + nI 1).toNatClampNeg) tM _ h6) rfl 9 0 rfl hM0 rfl ⟨Nat.le_of_ble_eq_true rfl, Nat.le_of_ble_eq_true rfl⟩ hkR rfl (Nat.le_of_ble_eq_true rfl) dL_law_652 [9] [bC cI aB (aH 0) (aY 0) (aZ 0) (aD 0) (aP 0) (aQ 0) (aI 0) tB, hC cI aH tH, hC cI aY tY, hC cI aZ tZ, dC cI aD tD, pC cI aP tP, qC cI aQ tQ, iC cI aI (aH 0) (nx aT) wI, chW cI (aH 0) aT tT, mC cI cZ aM wM] 655 rfl (by decide) (by simp only [List.map_cons, List.map_nil, bC_fst, hC_fst, dC_fst, pC_fst, qC_fst, iC_fst, mC_fst]) rfl rfl [.int r, .int r] rfl ?_
  refine gq_icmp_eq C 918 658 dL_law_655 (by decide) rfl (fun _ => ?_) (fun h => absurd rfl h)
  exact next tB tH tY tZ tD tP tQ wI tT wM hI2

set_option maxHeartbeats 4000000 in
set_option maxRecDepth 100000 in
theorem lo_seen {p : Program} {l : Launch} {e : Env} {s : State} {m : MethodId} {below : List Frame} {meth : Method} {c : Code} {D : va_G} {cI cZ : ClassId} {b L kc ks : Nat} {xs : Nat → Int32} (C : gC p s m #[Value.ref b] c cL_law 4 RL D cI cZ) (hX : va_X b L xs s s.heap) (hbl : b < s.heap.size) (hL : L ≤ 2560) (hkR : kc ≤ room_1.cells ∧ ks ≤ room_1.slots) (k : Nat) (hk : 5 * k + 5 ≤ L) (aB aH aY aZ aD aP aQ aI aM : Nat → Nat) (aT : List (Nat → Nat)) (tB : WbS) (tH tY tZ : HouS) (tD : DayS) (tP : ParS) (tQ : GueS) (tI : InnS) (tT : List InnS) (tM : ModS) (hI : Inv tH tY tZ tD tT tM) (hlT : aT.length = 8)
    (next : ∀ (tB : WbS) (tH tY tZ : HouS) (tD : DayS) (tP : ParS) (tQ : GueS) (tI : InnS) (tT : List InnS) (tM : ModS), Inv tH tY tZ tD tT tM → G p l e room_1 s m #[Value.ref b] below meth c 4 D (fun q : Nat => s.heap.size ≤ q) s.heap kc ks (lw_Z below #[Value.ref b] s) [bC cI aB (aH 0) (aY 0) (aZ 0) (aD 0) (aP 0) (aQ 0) (aI 0) tB, hC cI aH tH, hC cI aY tY, hC cI aZ tZ, dC cI aD tD, pC cI aP tP, qC cI aQ tQ, iC cI aI (aH 0) (nx aT) tI, chW cI (aH 0) aT tT, mC cI cZ aM tM] 918 [(3, .int (nI (5 * k))), (2, .ref (aM 0)), (1, .ref (aB 0)), (0, .ref b)] []) : G p l e room_1 s m #[Value.ref b] below meth c 4 D (fun q : Nat => s.heap.size ≤ q) s.heap kc ks (lw_Z below #[Value.ref b] s) [bC cI aB (aH 0) (aY 0) (aZ 0) (aD 0) (aP 0) (aQ 0) (aI 0) tB, hC cI aH tH, hC cI aY tY, hC cI aZ tZ, dC cI aD tD, pC cI aP tP, qC cI aQ tQ, iC cI aI (aH 0) (nx aT) tI, chW cI (aH 0) aT tT, mC cI cZ aM tM] 660 [(3, .int (nI (5 * k))), (2, .ref (aM 0)), (1, .ref (aB 0)), (0, .ref b)] [] := by
  have hbA : ¬ (fun q : Nat => s.heap.size ≤ q) b := Nat.not_le.mpr hbl
  have hA : ∀ q : Nat, s.heap.size ≤ q → (fun q : Nat => s.heap.size ≤ q) q := fun _ h => h
  have hb1 : ¬ (nI (5 * k) + nI 1 < 0 ∨ L ≤ (nI (5 * k) + nI 1).toNatClampNeg) := by rw [nI_add]; exact vp_in_nI (by omega) (by omega)
  have hb2 : ¬ (nI (5 * k) + nI 2 < 0 ∨ L ≤ (nI (5 * k) + nI 2).toNatClampNeg) := by rw [nI_add]; exact vp_in_nI (by omega) (by omega)
  obtain ⟨r, wH, wM, h5, h6, hI2⟩ := op_seen tB tP tQ tI hI (xs (nI (5 * k) + nI 1).toNatClampNeg) (xs (nI (5 * k) + nI 2).toNatClampNeg)
  obtain ⟨fsM, hM0⟩ := mC_get0 cI cZ aM tM
  refine gq_aload_n C 2 661 dL_law_660 rfl rfl ?_
  refine gq_aload_n C 3 662 dL_law_661 rfl rfl ?_
  refine gq_iload_n C 0 663 dL_law_662 rfl rfl ?_
  refine gq_iconst C (nI 1) 664 dL_law_663 (by decide) rfl ?_
  refine gq_iadd C 665 dL_law_664 rfl ?_
  refine gq_sld C hX hbl hbA 666 hb1 dL_law_665 rfl ?_
  refine gq_aload_n C 3 667 dL_law_666 rfl rfl ?_
  refine gq_iload_n C 0 668 dL_law_667 rfl rfl ?_
  refine gq_iconst C (nI 2) 669 dL_law_668 (by decide) rfl ?_
  refine gq_iadd C 670 dL_law_669 rfl ?_
  refine gq_sld C hX hbl hbA 671 hb2 dL_law_670 rfl ?_
  refine gq_callV C hA gm_L_89 (c_X5_seen l D cI cZ aB (aY 0) (aZ 0) (aD 0) (aP 0) (aQ 0) (aI 0) aH (xs (nI (5 * k) + nI 1).toNatClampNeg) (xs (nI (5 * k) + nI 2).toNatClampNeg) tB tH _ h5) rfl 0 0 rfl rfl rfl ⟨Nat.le_of_ble_eq_true rfl, Nat.le_of_ble_eq_true rfl⟩ hkR rfl (Nat.le_of_ble_eq_true rfl) dL_law_671 [0, 1] [bC cI aB (aH 0) (aY 0) (aZ 0) (aD 0) (aP 0) (aQ 0) (aI 0) tB, hC cI aH wH, hC cI aY tY, hC cI aZ tZ, dC cI aD tD, pC cI aP tP, qC cI aQ tQ, iC cI aI (aH 0) (nx aT) tI, chW cI (aH 0) aT tT, mC cI cZ aM tM] 674 rfl (by decide) (by simp only [List.map_cons, List.map_nil, bC_fst, hC_fst, dC_fst, pC_fst, qC_fst, iC_fst, mC_fst]) rfl rfl [.int r] rfl ?_
  refine gq_aload_n C 1 675 dL_law_674 rfl rfl ?_
  refine gq_aload_n C 3 676 dL_law_675 rfl rfl ?_
  refine gq_iload_n C 0 677 dL_law_676 rfl rfl ?_
  refine gq_iconst C (nI 1) 678 dL_law_677 (by decide) rfl ?_
  refine gq_iadd C 679 dL_law_678 rfl ?_
  refine gq_sld C hX hbl hbA 680 hb1 dL_law_679 rfl ?_
  refine gq_aload_n C 3 681 dL_law_680 rfl rfl ?_
  refine gq_iload_n C 0 682 dL_law_681 rfl rfl ?_
  refine gq_iconst C (nI 2) 683 dL_law_682 (by decide) rfl ?_
  refine gq_iadd C 684 dL_law_683 rfl ?_
  refine gq_sld C hX hbl hbA 685 hb2 dL_law_684 rfl ?_
  refine gq_callV C hA gm_L_92 (c_X6_seen l D cI cZ aM (xs (nI (5 * k) + nI 1).toNatClampNeg) (xs (nI (5 * k) + nI 2).toNatClampNeg) tM _ h6) rfl 9 0 rfl hM0 rfl ⟨Nat.le_of_ble_eq_true rfl, Nat.le_of_ble_eq_true rfl⟩ hkR rfl (Nat.le_of_ble_eq_true rfl) dL_law_685 [9] [bC cI aB (aH 0) (aY 0) (aZ 0) (aD 0) (aP 0) (aQ 0) (aI 0) tB, hC cI aH wH, hC cI aY tY, hC cI aZ tZ, dC cI aD tD, pC cI aP tP, qC cI aQ tQ, iC cI aI (aH 0) (nx aT) tI, chW cI (aH 0) aT tT, mC cI cZ aM wM] 688 rfl (by decide) (by simp only [List.map_cons, List.map_nil, bC_fst, hC_fst, dC_fst, pC_fst, qC_fst, iC_fst, mC_fst]) rfl rfl [.int r, .int r] rfl ?_
  refine gq_icmp_eq C 918 691 dL_law_688 (by decide) rfl (fun _ => ?_) (fun h => absurd rfl h)
  exact next tB wH tY tZ tD tP tQ tI tT wM hI2

set_option maxHeartbeats 4000000 in
set_option maxRecDepth 100000 in
theorem lo_forget {p : Program} {l : Launch} {e : Env} {s : State} {m : MethodId} {below : List Frame} {meth : Method} {c : Code} {D : va_G} {cI cZ : ClassId} {b L kc ks : Nat} {xs : Nat → Int32} (C : gC p s m #[Value.ref b] c cL_law 4 RL D cI cZ) (hX : va_X b L xs s s.heap) (hbl : b < s.heap.size) (hL : L ≤ 2560) (hkR : kc ≤ room_1.cells ∧ ks ≤ room_1.slots) (k : Nat) (hk : 5 * k + 5 ≤ L) (aB aH aY aZ aD aP aQ aI aM : Nat → Nat) (aT : List (Nat → Nat)) (tB : WbS) (tH tY tZ : HouS) (tD : DayS) (tP : ParS) (tQ : GueS) (tI : InnS) (tT : List InnS) (tM : ModS) (hI : Inv tH tY tZ tD tT tM) (hlT : aT.length = 8)
    (next : ∀ (tB : WbS) (tH tY tZ : HouS) (tD : DayS) (tP : ParS) (tQ : GueS) (tI : InnS) (tT : List InnS) (tM : ModS), Inv tH tY tZ tD tT tM → G p l e room_1 s m #[Value.ref b] below meth c 4 D (fun q : Nat => s.heap.size ≤ q) s.heap kc ks (lw_Z below #[Value.ref b] s) [bC cI aB (aH 0) (aY 0) (aZ 0) (aD 0) (aP 0) (aQ 0) (aI 0) tB, hC cI aH tH, hC cI aY tY, hC cI aZ tZ, dC cI aD tD, pC cI aP tP, qC cI aQ tQ, iC cI aI (aH 0) (nx aT) tI, chW cI (aH 0) aT tT, mC cI cZ aM tM] 918 [(3, .int (nI (5 * k))), (2, .ref (aM 0)), (1, .ref (aB 0)), (0, .ref b)] []) : G p l e room_1 s m #[Value.ref b] below meth c 4 D (fun q : Nat => s.heap.size ≤ q) s.heap kc ks (lw_Z below #[Value.ref b] s) [bC cI aB (aH 0) (aY 0) (aZ 0) (aD 0) (aP 0) (aQ 0) (aI 0) tB, hC cI aH tH, hC cI aY tY, hC cI aZ tZ, dC cI aD tD, pC cI aP tP, qC cI aQ tQ, iC cI aI (aH 0) (nx aT) tI, chW cI (aH 0) aT tT, mC cI cZ aM tM] 693 [(3, .int (nI (5 * k))), (2, .ref (aM 0)), (1, .ref (aB 0)), (0, .ref b)] [] := by
  have hbA : ¬ (fun q : Nat => s.heap.size ≤ q) b := Nat.not_le.mpr hbl
  have hA : ∀ q : Nat, s.heap.size ≤ q → (fun q : Nat => s.heap.size ≤ q) q := fun _ h => h
  obtain ⟨r, wH, wM, h5, h6, hI2⟩ := op_forget tB tP tQ tI hI 
  obtain ⟨fsM, hM0⟩ := mC_get0 cI cZ aM tM
  refine gq_aload_n C 2 694 dL_law_693 rfl rfl ?_
  refine gq_callV C hA gm_L_93 (c_X5_forget l D cI cZ aB (aY 0) (aZ 0) (aD 0) (aP 0) (aQ 0) (aI 0) aH tB tH _ h5) rfl 0 0 rfl rfl rfl ⟨Nat.le_of_ble_eq_true rfl, Nat.le_of_ble_eq_true rfl⟩ hkR rfl (Nat.le_of_ble_eq_true rfl) dL_law_694 [0, 1] [bC cI aB (aH 0) (aY 0) (aZ 0) (aD 0) (aP 0) (aQ 0) (aI 0) tB, hC cI aH wH, hC cI aY tY, hC cI aZ tZ, dC cI aD tD, pC cI aP tP, qC cI aQ tQ, iC cI aI (aH 0) (nx aT) tI, chW cI (aH 0) aT tT, mC cI cZ aM tM] 697 rfl (by decide) (by simp only [List.map_cons, List.map_nil, bC_fst, hC_fst, dC_fst, pC_fst, qC_fst, iC_fst, mC_fst]) rfl rfl [.int r] rfl ?_
  refine gq_aload_n C 1 698 dL_law_697 rfl rfl ?_
  refine gq_callV C hA gm_L_96 (c_X6_forget l D cI cZ aM tM _ h6) rfl 9 0 rfl hM0 rfl ⟨Nat.le_of_ble_eq_true rfl, Nat.le_of_ble_eq_true rfl⟩ hkR rfl (Nat.le_of_ble_eq_true rfl) dL_law_698 [9] [bC cI aB (aH 0) (aY 0) (aZ 0) (aD 0) (aP 0) (aQ 0) (aI 0) tB, hC cI aH wH, hC cI aY tY, hC cI aZ tZ, dC cI aD tD, pC cI aP tP, qC cI aQ tQ, iC cI aI (aH 0) (nx aT) tI, chW cI (aH 0) aT tT, mC cI cZ aM wM] 701 rfl (by decide) (by simp only [List.map_cons, List.map_nil, bC_fst, hC_fst, dC_fst, pC_fst, qC_fst, iC_fst, mC_fst]) rfl rfl [.int r, .int r] rfl ?_
  refine gq_icmp_eq C 918 704 dL_law_701 (by decide) rfl (fun _ => ?_) (fun h => absurd rfl h)
  exact next tB wH tY tZ tD tP tQ tI tT wM hI2

set_option maxHeartbeats 4000000 in
set_option maxRecDepth 100000 in
theorem lo_filled {p : Program} {l : Launch} {e : Env} {s : State} {m : MethodId} {below : List Frame} {meth : Method} {c : Code} {D : va_G} {cI cZ : ClassId} {b L kc ks : Nat} {xs : Nat → Int32} (C : gC p s m #[Value.ref b] c cL_law 4 RL D cI cZ) (hX : va_X b L xs s s.heap) (hbl : b < s.heap.size) (hL : L ≤ 2560) (hkR : kc ≤ room_1.cells ∧ ks ≤ room_1.slots) (k : Nat) (hk : 5 * k + 5 ≤ L) (aB aH aY aZ aD aP aQ aI aM : Nat → Nat) (aT : List (Nat → Nat)) (tB : WbS) (tH tY tZ : HouS) (tD : DayS) (tP : ParS) (tQ : GueS) (tI : InnS) (tT : List InnS) (tM : ModS) (hI : Inv tH tY tZ tD tT tM) (hlT : aT.length = 8)
    (next : ∀ (tB : WbS) (tH tY tZ : HouS) (tD : DayS) (tP : ParS) (tQ : GueS) (tI : InnS) (tT : List InnS) (tM : ModS), Inv tH tY tZ tD tT tM → G p l e room_1 s m #[Value.ref b] below meth c 4 D (fun q : Nat => s.heap.size ≤ q) s.heap kc ks (lw_Z below #[Value.ref b] s) [bC cI aB (aH 0) (aY 0) (aZ 0) (aD 0) (aP 0) (aQ 0) (aI 0) tB, hC cI aH tH, hC cI aY tY, hC cI aZ tZ, dC cI aD tD, pC cI aP tP, qC cI aQ tQ, iC cI aI (aH 0) (nx aT) tI, chW cI (aH 0) aT tT, mC cI cZ aM tM] 918 [(3, .int (nI (5 * k))), (2, .ref (aM 0)), (1, .ref (aB 0)), (0, .ref b)] []) : G p l e room_1 s m #[Value.ref b] below meth c 4 D (fun q : Nat => s.heap.size ≤ q) s.heap kc ks (lw_Z below #[Value.ref b] s) [bC cI aB (aH 0) (aY 0) (aZ 0) (aD 0) (aP 0) (aQ 0) (aI 0) tB, hC cI aH tH, hC cI aY tY, hC cI aZ tZ, dC cI aD tD, pC cI aP tP, qC cI aQ tQ, iC cI aI (aH 0) (nx aT) tI, chW cI (aH 0) aT tT, mC cI cZ aM tM] 706 [(3, .int (nI (5 * k))), (2, .ref (aM 0)), (1, .ref (aB 0)), (0, .ref b)] [] := by
  have hbA : ¬ (fun q : Nat => s.heap.size ≤ q) b := Nat.not_le.mpr hbl
  have hA : ∀ q : Nat, s.heap.size ≤ q → (fun q : Nat => s.heap.size ≤ q) q := fun _ h => h
  have hb1 : ¬ (nI (5 * k) + nI 1 < 0 ∨ L ≤ (nI (5 * k) + nI 1).toNatClampNeg) := by rw [nI_add]; exact vp_in_nI (by omega) (by omega)
  obtain ⟨r, wQ, wI, wT, wM, h5, h6, hI2⟩ := op_filled tB tP tQ tI hI (xs (nI (5 * k) + nI 1).toNatClampNeg)
  obtain ⟨fsM, hM0⟩ := mC_get0 cI cZ aM tM
  refine gq_aload_n C 2 707 dL_law_706 rfl rfl ?_
  refine gq_aload_n C 3 708 dL_law_707 rfl rfl ?_
  refine gq_iload_n C 0 709 dL_law_708 rfl rfl ?_
  refine gq_iconst C (nI 1) 710 dL_law_709 (by decide) rfl ?_
  refine gq_iadd C 711 dL_law_710 rfl ?_
  refine gq_sld C hX hbl hbA 712 hb1 dL_law_711 rfl ?_
  refine gq_callV C hA gm_L_97 (c_X5_filled l D cI cZ aB (aY 0) (aZ 0) (aP 0) aH aD aQ aI aT (xs (nI (5 * k) + nI 1).toNatClampNeg) tB tH tD tQ tI tT _ (show aT.length = tT.length by rw [hlT, hI.1]) h5) rfl 0 0 rfl rfl rfl ⟨Nat.le_of_ble_eq_true rfl, Nat.le_of_ble_eq_true rfl⟩ hkR rfl (Nat.le_of_ble_eq_true rfl) dL_law_712 [0, 1, 4, 6, 7, 8] [bC cI aB (aH 0) (aY 0) (aZ 0) (aD 0) (aP 0) (aQ 0) (aI 0) tB, hC cI aH tH, hC cI aY tY, hC cI aZ tZ, dC cI aD tD, pC cI aP tP, qC cI aQ wQ, iC cI aI (aH 0) (nx aT) wI, chW cI (aH 0) aT wT, mC cI cZ aM tM] 715 rfl (by decide) (by simp only [List.map_cons, List.map_nil, bC_fst, hC_fst, dC_fst, pC_fst, qC_fst, iC_fst, mC_fst, chW_fst (T1 := wT) (T2 := tT) (by rw [hI2.1, hI.1])]) rfl rfl [.int r] rfl ?_
  refine gq_aload_n C 1 716 dL_law_715 rfl rfl ?_
  refine gq_aload_n C 3 717 dL_law_716 rfl rfl ?_
  refine gq_iload_n C 0 718 dL_law_717 rfl rfl ?_
  refine gq_iconst C (nI 1) 719 dL_law_718 (by decide) rfl ?_
  refine gq_iadd C 720 dL_law_719 rfl ?_
  refine gq_sld C hX hbl hbA 721 hb1 dL_law_720 rfl ?_
  refine gq_callV C hA gm_L_100 (c_X6_filled l D cI cZ aM (xs (nI (5 * k) + nI 1).toNatClampNeg) tM _ h6) rfl 9 0 rfl hM0 rfl ⟨Nat.le_of_ble_eq_true rfl, Nat.le_of_ble_eq_true rfl⟩ hkR rfl (Nat.le_of_ble_eq_true rfl) dL_law_721 [9] [bC cI aB (aH 0) (aY 0) (aZ 0) (aD 0) (aP 0) (aQ 0) (aI 0) tB, hC cI aH tH, hC cI aY tY, hC cI aZ tZ, dC cI aD tD, pC cI aP tP, qC cI aQ wQ, iC cI aI (aH 0) (nx aT) wI, chW cI (aH 0) aT wT, mC cI cZ aM wM] 724 rfl (by decide) (by simp only [List.map_cons, List.map_nil, bC_fst, hC_fst, dC_fst, pC_fst, qC_fst, iC_fst, mC_fst]) rfl rfl [.int r, .int r] rfl ?_
  refine gq_icmp_eq C 918 727 dL_law_724 (by decide) rfl (fun _ => ?_) (fun h => absurd rfl h)
  exact next tB tH tY tZ tD tP wQ wI wT wM hI2

set_option maxHeartbeats 4000000 in
set_option maxRecDepth 100000 in
theorem lo_could {p : Program} {l : Launch} {e : Env} {s : State} {m : MethodId} {below : List Frame} {meth : Method} {c : Code} {D : va_G} {cI cZ : ClassId} {b L kc ks : Nat} {xs : Nat → Int32} (C : gC p s m #[Value.ref b] c cL_law 4 RL D cI cZ) (hX : va_X b L xs s s.heap) (hbl : b < s.heap.size) (hL : L ≤ 2560) (hkR : kc ≤ room_1.cells ∧ ks ≤ room_1.slots) (k : Nat) (hk : 5 * k + 5 ≤ L) (aB aH aY aZ aD aP aQ aI aM : Nat → Nat) (aT : List (Nat → Nat)) (tB : WbS) (tH tY tZ : HouS) (tD : DayS) (tP : ParS) (tQ : GueS) (tI : InnS) (tT : List InnS) (tM : ModS) (hI : Inv tH tY tZ tD tT tM) (hlT : aT.length = 8)
    (next : ∀ (tB : WbS) (tH tY tZ : HouS) (tD : DayS) (tP : ParS) (tQ : GueS) (tI : InnS) (tT : List InnS) (tM : ModS), Inv tH tY tZ tD tT tM → G p l e room_1 s m #[Value.ref b] below meth c 4 D (fun q : Nat => s.heap.size ≤ q) s.heap kc ks (lw_Z below #[Value.ref b] s) [bC cI aB (aH 0) (aY 0) (aZ 0) (aD 0) (aP 0) (aQ 0) (aI 0) tB, hC cI aH tH, hC cI aY tY, hC cI aZ tZ, dC cI aD tD, pC cI aP tP, qC cI aQ tQ, iC cI aI (aH 0) (nx aT) tI, chW cI (aH 0) aT tT, mC cI cZ aM tM] 918 [(3, .int (nI (5 * k))), (2, .ref (aM 0)), (1, .ref (aB 0)), (0, .ref b)] []) : G p l e room_1 s m #[Value.ref b] below meth c 4 D (fun q : Nat => s.heap.size ≤ q) s.heap kc ks (lw_Z below #[Value.ref b] s) [bC cI aB (aH 0) (aY 0) (aZ 0) (aD 0) (aP 0) (aQ 0) (aI 0) tB, hC cI aH tH, hC cI aY tY, hC cI aZ tZ, dC cI aD tD, pC cI aP tP, qC cI aQ tQ, iC cI aI (aH 0) (nx aT) tI, chW cI (aH 0) aT tT, mC cI cZ aM tM] 729 [(3, .int (nI (5 * k))), (2, .ref (aM 0)), (1, .ref (aB 0)), (0, .ref b)] [] := by
  have hbA : ¬ (fun q : Nat => s.heap.size ≤ q) b := Nat.not_le.mpr hbl
  have hA : ∀ q : Nat, s.heap.size ≤ q → (fun q : Nat => s.heap.size ≤ q) q := fun _ h => h
  have hb1 : ¬ (nI (5 * k) + nI 1 < 0 ∨ L ≤ (nI (5 * k) + nI 1).toNatClampNeg) := by rw [nI_add]; exact vp_in_nI (by omega) (by omega)
  obtain ⟨r, wQ, wI, wT, wM, h5, h6, hI2⟩ := op_could tB tP tQ tI hI (xs (nI (5 * k) + nI 1).toNatClampNeg)
  obtain ⟨fsM, hM0⟩ := mC_get0 cI cZ aM tM
  refine gq_aload_n C 2 730 dL_law_729 rfl rfl ?_
  refine gq_aload_n C 3 731 dL_law_730 rfl rfl ?_
  refine gq_iload_n C 0 732 dL_law_731 rfl rfl ?_
  refine gq_iconst C (nI 1) 733 dL_law_732 (by decide) rfl ?_
  refine gq_iadd C 734 dL_law_733 rfl ?_
  refine gq_sld C hX hbl hbA 735 hb1 dL_law_734 rfl ?_
  refine gq_callV C hA gm_L_101 (c_X5_could l D cI cZ aB (aY 0) (aZ 0) (aP 0) aH aD aQ aI aT (xs (nI (5 * k) + nI 1).toNatClampNeg) tB tH tD tQ tI tT _ (show aT.length = tT.length by rw [hlT, hI.1]) h5) rfl 0 0 rfl rfl rfl ⟨Nat.le_of_ble_eq_true rfl, Nat.le_of_ble_eq_true rfl⟩ hkR rfl (Nat.le_of_ble_eq_true rfl) dL_law_735 [0, 1, 4, 6, 7, 8] [bC cI aB (aH 0) (aY 0) (aZ 0) (aD 0) (aP 0) (aQ 0) (aI 0) tB, hC cI aH tH, hC cI aY tY, hC cI aZ tZ, dC cI aD tD, pC cI aP tP, qC cI aQ wQ, iC cI aI (aH 0) (nx aT) wI, chW cI (aH 0) aT wT, mC cI cZ aM tM] 738 rfl (by decide) (by simp only [List.map_cons, List.map_nil, bC_fst, hC_fst, dC_fst, pC_fst, qC_fst, iC_fst, mC_fst, chW_fst (T1 := wT) (T2 := tT) (by rw [hI2.1, hI.1])]) rfl rfl [.int r] rfl ?_
  refine gq_aload_n C 1 739 dL_law_738 rfl rfl ?_
  refine gq_aload_n C 3 740 dL_law_739 rfl rfl ?_
  refine gq_iload_n C 0 741 dL_law_740 rfl rfl ?_
  refine gq_iconst C (nI 1) 742 dL_law_741 (by decide) rfl ?_
  refine gq_iadd C 743 dL_law_742 rfl ?_
  refine gq_sld C hX hbl hbA 744 hb1 dL_law_743 rfl ?_
  refine gq_callV C hA gm_L_104 (c_X6_could l D cI cZ aM (xs (nI (5 * k) + nI 1).toNatClampNeg) tM _ h6) rfl 9 0 rfl hM0 rfl ⟨Nat.le_of_ble_eq_true rfl, Nat.le_of_ble_eq_true rfl⟩ hkR rfl (Nat.le_of_ble_eq_true rfl) dL_law_744 [9] [bC cI aB (aH 0) (aY 0) (aZ 0) (aD 0) (aP 0) (aQ 0) (aI 0) tB, hC cI aH tH, hC cI aY tY, hC cI aZ tZ, dC cI aD tD, pC cI aP tP, qC cI aQ wQ, iC cI aI (aH 0) (nx aT) wI, chW cI (aH 0) aT wT, mC cI cZ aM wM] 747 rfl (by decide) (by simp only [List.map_cons, List.map_nil, bC_fst, hC_fst, dC_fst, pC_fst, qC_fst, iC_fst, mC_fst]) rfl rfl [.int r, .int r] rfl ?_
  refine gq_icmp_eq C 918 750 dL_law_747 (by decide) rfl (fun _ => ?_) (fun h => absurd rfl h)
  exact next tB tH tY tZ tD tP wQ wI wT wM hI2

set_option maxHeartbeats 4000000 in
set_option maxRecDepth 100000 in
theorem lo_chance {p : Program} {l : Launch} {e : Env} {s : State} {m : MethodId} {below : List Frame} {meth : Method} {c : Code} {D : va_G} {cI cZ : ClassId} {b L kc ks : Nat} {xs : Nat → Int32} (C : gC p s m #[Value.ref b] c cL_law 4 RL D cI cZ) (hX : va_X b L xs s s.heap) (hbl : b < s.heap.size) (hL : L ≤ 2560) (hkR : kc ≤ room_1.cells ∧ ks ≤ room_1.slots) (k : Nat) (hk : 5 * k + 5 ≤ L) (aB aH aY aZ aD aP aQ aI aM : Nat → Nat) (aT : List (Nat → Nat)) (tB : WbS) (tH tY tZ : HouS) (tD : DayS) (tP : ParS) (tQ : GueS) (tI : InnS) (tT : List InnS) (tM : ModS) (hI : Inv tH tY tZ tD tT tM) (hlT : aT.length = 8)
    (next : ∀ (tB : WbS) (tH tY tZ : HouS) (tD : DayS) (tP : ParS) (tQ : GueS) (tI : InnS) (tT : List InnS) (tM : ModS), Inv tH tY tZ tD tT tM → G p l e room_1 s m #[Value.ref b] below meth c 4 D (fun q : Nat => s.heap.size ≤ q) s.heap kc ks (lw_Z below #[Value.ref b] s) [bC cI aB (aH 0) (aY 0) (aZ 0) (aD 0) (aP 0) (aQ 0) (aI 0) tB, hC cI aH tH, hC cI aY tY, hC cI aZ tZ, dC cI aD tD, pC cI aP tP, qC cI aQ tQ, iC cI aI (aH 0) (nx aT) tI, chW cI (aH 0) aT tT, mC cI cZ aM tM] 918 [(3, .int (nI (5 * k))), (2, .ref (aM 0)), (1, .ref (aB 0)), (0, .ref b)] []) : G p l e room_1 s m #[Value.ref b] below meth c 4 D (fun q : Nat => s.heap.size ≤ q) s.heap kc ks (lw_Z below #[Value.ref b] s) [bC cI aB (aH 0) (aY 0) (aZ 0) (aD 0) (aP 0) (aQ 0) (aI 0) tB, hC cI aH tH, hC cI aY tY, hC cI aZ tZ, dC cI aD tD, pC cI aP tP, qC cI aQ tQ, iC cI aI (aH 0) (nx aT) tI, chW cI (aH 0) aT tT, mC cI cZ aM tM] 752 [(3, .int (nI (5 * k))), (2, .ref (aM 0)), (1, .ref (aB 0)), (0, .ref b)] [] := by
  have hbA : ¬ (fun q : Nat => s.heap.size ≤ q) b := Nat.not_le.mpr hbl
  have hA : ∀ q : Nat, s.heap.size ≤ q → (fun q : Nat => s.heap.size ≤ q) q := fun _ h => h
  have hb1 : ¬ (nI (5 * k) + nI 1 < 0 ∨ L ≤ (nI (5 * k) + nI 1).toNatClampNeg) := by rw [nI_add]; exact vp_in_nI (by omega) (by omega)
  have hb2 : ¬ (nI (5 * k) + nI 2 < 0 ∨ L ≤ (nI (5 * k) + nI 2).toNatClampNeg) := by rw [nI_add]; exact vp_in_nI (by omega) (by omega)
  have hb3 : ¬ (nI (5 * k) + nI 3 < 0 ∨ L ≤ (nI (5 * k) + nI 3).toNatClampNeg) := by rw [nI_add]; exact vp_in_nI (by omega) (by omega)
  have hb4 : ¬ (nI (5 * k) + nI 4 < 0 ∨ L ≤ (nI (5 * k) + nI 4).toNatClampNeg) := by rw [nI_add]; exact vp_in_nI (by omega) (by omega)
  obtain ⟨r, wI, wT, wM, h5, h6, hI2⟩ := op_chance tB tP tQ tI hI (xs (nI (5 * k) + nI 1).toNatClampNeg) (xs (nI (5 * k) + nI 2).toNatClampNeg) (xs (nI (5 * k) + nI 3).toNatClampNeg) (xs (nI (5 * k) + nI 4).toNatClampNeg)
  obtain ⟨fsM, hM0⟩ := mC_get0 cI cZ aM tM
  refine gq_aload_n C 2 753 dL_law_752 rfl rfl ?_
  refine gq_aload_n C 3 754 dL_law_753 rfl rfl ?_
  refine gq_iload_n C 0 755 dL_law_754 rfl rfl ?_
  refine gq_iconst C (nI 1) 756 dL_law_755 (by decide) rfl ?_
  refine gq_iadd C 757 dL_law_756 rfl ?_
  refine gq_sld C hX hbl hbA 758 hb1 dL_law_757 rfl ?_
  refine gq_aload_n C 3 759 dL_law_758 rfl rfl ?_
  refine gq_iload_n C 0 760 dL_law_759 rfl rfl ?_
  refine gq_iconst C (nI 2) 761 dL_law_760 (by decide) rfl ?_
  refine gq_iadd C 762 dL_law_761 rfl ?_
  refine gq_sld C hX hbl hbA 763 hb2 dL_law_762 rfl ?_
  refine gq_aload_n C 3 764 dL_law_763 rfl rfl ?_
  refine gq_iload_n C 0 765 dL_law_764 rfl rfl ?_
  refine gq_iconst C (nI 3) 766 dL_law_765 (by decide) rfl ?_
  refine gq_iadd C 767 dL_law_766 rfl ?_
  refine gq_sld C hX hbl hbA 768 hb3 dL_law_767 rfl ?_
  refine gq_aload_n C 3 769 dL_law_768 rfl rfl ?_
  refine gq_iload_n C 0 770 dL_law_769 rfl rfl ?_
  refine gq_iconst C (nI 4) 771 dL_law_770 (by decide) rfl ?_
  refine gq_iadd C 772 dL_law_771 rfl ?_
  refine gq_sld C hX hbl hbA 773 hb4 dL_law_772 rfl ?_
  refine gq_callV C hA gm_L_105 (c_X5_chance l D cI cZ aB (aY 0) (aZ 0) (aP 0) (aQ 0) aH aD aI aT (xs (nI (5 * k) + nI 1).toNatClampNeg) (xs (nI (5 * k) + nI 2).toNatClampNeg) (xs (nI (5 * k) + nI 3).toNatClampNeg) (xs (nI (5 * k) + nI 4).toNatClampNeg) tB tH tD tI tT _ (show aT.length = tT.length by rw [hlT, hI.1]) h5) rfl 0 0 rfl rfl rfl ⟨Nat.le_of_ble_eq_true rfl, Nat.le_of_ble_eq_true rfl⟩ hkR rfl (Nat.le_of_ble_eq_true rfl) dL_law_773 [0, 1, 4, 7, 8] [bC cI aB (aH 0) (aY 0) (aZ 0) (aD 0) (aP 0) (aQ 0) (aI 0) tB, hC cI aH tH, hC cI aY tY, hC cI aZ tZ, dC cI aD tD, pC cI aP tP, qC cI aQ tQ, iC cI aI (aH 0) (nx aT) wI, chW cI (aH 0) aT wT, mC cI cZ aM tM] 776 rfl (by decide) (by simp only [List.map_cons, List.map_nil, bC_fst, hC_fst, dC_fst, pC_fst, qC_fst, iC_fst, mC_fst, chW_fst (T1 := wT) (T2 := tT) (by rw [hI2.1, hI.1])]) rfl rfl [.long r] rfl ?_
  refine gq_aload_n C 1 777 dL_law_776 rfl rfl ?_
  refine gq_aload_n C 3 778 dL_law_777 rfl rfl ?_
  refine gq_iload_n C 0 779 dL_law_778 rfl rfl ?_
  refine gq_iconst C (nI 1) 780 dL_law_779 (by decide) rfl ?_
  refine gq_iadd C 781 dL_law_780 rfl ?_
  refine gq_sld C hX hbl hbA 782 hb1 dL_law_781 rfl ?_
  refine gq_aload_n C 3 783 dL_law_782 rfl rfl ?_
  refine gq_iload_n C 0 784 dL_law_783 rfl rfl ?_
  refine gq_iconst C (nI 2) 785 dL_law_784 (by decide) rfl ?_
  refine gq_iadd C 786 dL_law_785 rfl ?_
  refine gq_sld C hX hbl hbA 787 hb2 dL_law_786 rfl ?_
  refine gq_aload_n C 3 788 dL_law_787 rfl rfl ?_
  refine gq_iload_n C 0 789 dL_law_788 rfl rfl ?_
  refine gq_iconst C (nI 3) 790 dL_law_789 (by decide) rfl ?_
  refine gq_iadd C 791 dL_law_790 rfl ?_
  refine gq_sld C hX hbl hbA 792 hb3 dL_law_791 rfl ?_
  refine gq_aload_n C 3 793 dL_law_792 rfl rfl ?_
  refine gq_iload_n C 0 794 dL_law_793 rfl rfl ?_
  refine gq_iconst C (nI 4) 795 dL_law_794 (by decide) rfl ?_
  refine gq_iadd C 796 dL_law_795 rfl ?_
  refine gq_sld C hX hbl hbA 797 hb4 dL_law_796 rfl ?_
  refine gq_callV C hA gm_L_109 (c_X6_chance l D cI cZ aM (xs (nI (5 * k) + nI 1).toNatClampNeg) (xs (nI (5 * k) + nI 2).toNatClampNeg) (xs (nI (5 * k) + nI 3).toNatClampNeg) (xs (nI (5 * k) + nI 4).toNatClampNeg) tM _ h6) rfl 9 0 rfl hM0 rfl ⟨Nat.le_of_ble_eq_true rfl, Nat.le_of_ble_eq_true rfl⟩ hkR rfl (Nat.le_of_ble_eq_true rfl) dL_law_797 [9] [bC cI aB (aH 0) (aY 0) (aZ 0) (aD 0) (aP 0) (aQ 0) (aI 0) tB, hC cI aH tH, hC cI aY tY, hC cI aZ tZ, dC cI aD tD, pC cI aP tP, qC cI aQ tQ, iC cI aI (aH 0) (nx aT) wI, chW cI (aH 0) aT wT, mC cI cZ aM wM] 800 rfl (by decide) (by simp only [List.map_cons, List.map_nil, bC_fst, hC_fst, dC_fst, pC_fst, qC_fst, iC_fst, mC_fst]) rfl rfl [.long r, .long r] rfl ?_
  refine gq_lcmp C 801 dL_law_800 rfl ?_
  refine gq_if_eq C 918 804 dL_law_801 (by decide) rfl (fun _ => ?_) (fun h => absurd (lg_cmp_self r) h)
  exact next tB tH tY tZ tD tP tQ wI wT wM hI2

set_option maxHeartbeats 4000000 in
set_option maxRecDepth 100000 in
theorem lo_year {p : Program} {l : Launch} {e : Env} {s : State} {m : MethodId} {below : List Frame} {meth : Method} {c : Code} {D : va_G} {cI cZ : ClassId} {b L kc ks : Nat} {xs : Nat → Int32} (C : gC p s m #[Value.ref b] c cL_law 4 RL D cI cZ) (hX : va_X b L xs s s.heap) (hbl : b < s.heap.size) (hL : L ≤ 2560) (hkR : kc ≤ room_1.cells ∧ ks ≤ room_1.slots) (k : Nat) (hk : 5 * k + 5 ≤ L) (aB aH aY aZ aD aP aQ aI aM : Nat → Nat) (aT : List (Nat → Nat)) (tB : WbS) (tH tY tZ : HouS) (tD : DayS) (tP : ParS) (tQ : GueS) (tI : InnS) (tT : List InnS) (tM : ModS) (hI : Inv tH tY tZ tD tT tM) (hlT : aT.length = 8)
    (next : ∀ (tB : WbS) (tH tY tZ : HouS) (tD : DayS) (tP : ParS) (tQ : GueS) (tI : InnS) (tT : List InnS) (tM : ModS), Inv tH tY tZ tD tT tM → G p l e room_1 s m #[Value.ref b] below meth c 4 D (fun q : Nat => s.heap.size ≤ q) s.heap kc ks (lw_Z below #[Value.ref b] s) [bC cI aB (aH 0) (aY 0) (aZ 0) (aD 0) (aP 0) (aQ 0) (aI 0) tB, hC cI aH tH, hC cI aY tY, hC cI aZ tZ, dC cI aD tD, pC cI aP tP, qC cI aQ tQ, iC cI aI (aH 0) (nx aT) tI, chW cI (aH 0) aT tT, mC cI cZ aM tM] 918 [(3, .int (nI (5 * k))), (2, .ref (aM 0)), (1, .ref (aB 0)), (0, .ref b)] []) : G p l e room_1 s m #[Value.ref b] below meth c 4 D (fun q : Nat => s.heap.size ≤ q) s.heap kc ks (lw_Z below #[Value.ref b] s) [bC cI aB (aH 0) (aY 0) (aZ 0) (aD 0) (aP 0) (aQ 0) (aI 0) tB, hC cI aH tH, hC cI aY tY, hC cI aZ tZ, dC cI aD tD, pC cI aP tP, qC cI aQ tQ, iC cI aI (aH 0) (nx aT) tI, chW cI (aH 0) aT tT, mC cI cZ aM tM] 806 [(3, .int (nI (5 * k))), (2, .ref (aM 0)), (1, .ref (aB 0)), (0, .ref b)] [] := by
  have hbA : ¬ (fun q : Nat => s.heap.size ≤ q) b := Nat.not_le.mpr hbl
  have hA : ∀ q : Nat, s.heap.size ≤ q → (fun q : Nat => s.heap.size ≤ q) q := fun _ h => h
  have hb1 : ¬ (nI (5 * k) + nI 1 < 0 ∨ L ≤ (nI (5 * k) + nI 1).toNatClampNeg) := by rw [nI_add]; exact vp_in_nI (by omega) (by omega)
  have hb2 : ¬ (nI (5 * k) + nI 2 < 0 ∨ L ≤ (nI (5 * k) + nI 2).toNatClampNeg) := by rw [nI_add]; exact vp_in_nI (by omega) (by omega)
  have hb3 : ¬ (nI (5 * k) + nI 3 < 0 ∨ L ≤ (nI (5 * k) + nI 3).toNatClampNeg) := by rw [nI_add]; exact vp_in_nI (by omega) (by omega)
  obtain ⟨r, wI, wM, h5, h6, hI2⟩ := op_year tB tP tQ tI hI (xs (nI (5 * k) + nI 1).toNatClampNeg) (xs (nI (5 * k) + nI 2).toNatClampNeg) (xs (nI (5 * k) + nI 3).toNatClampNeg)
  obtain ⟨fsM, hM0⟩ := mC_get0 cI cZ aM tM
  refine gq_aload_n C 2 807 dL_law_806 rfl rfl ?_
  refine gq_aload_n C 3 808 dL_law_807 rfl rfl ?_
  refine gq_iload_n C 0 809 dL_law_808 rfl rfl ?_
  refine gq_iconst C (nI 1) 810 dL_law_809 (by decide) rfl ?_
  refine gq_iadd C 811 dL_law_810 rfl ?_
  refine gq_sld C hX hbl hbA 812 hb1 dL_law_811 rfl ?_
  refine gq_aload_n C 3 813 dL_law_812 rfl rfl ?_
  refine gq_iload_n C 0 814 dL_law_813 rfl rfl ?_
  refine gq_iconst C (nI 2) 815 dL_law_814 (by decide) rfl ?_
  refine gq_iadd C 816 dL_law_815 rfl ?_
  refine gq_sld C hX hbl hbA 817 hb2 dL_law_816 rfl ?_
  refine gq_aload_n C 3 818 dL_law_817 rfl rfl ?_
  refine gq_iload_n C 0 819 dL_law_818 rfl rfl ?_
  refine gq_iconst C (nI 3) 820 dL_law_819 (by decide) rfl ?_
  refine gq_iadd C 821 dL_law_820 rfl ?_
  refine gq_sld C hX hbl hbA 822 hb3 dL_law_821 rfl ?_
  refine gq_callV C hA gm_L_110 (c_X5_year l D cI cZ aB (aY 0) (aZ 0) (aD 0) (aP 0) (aQ 0) aH aI (nx aT) (xs (nI (5 * k) + nI 1).toNatClampNeg) (xs (nI (5 * k) + nI 2).toNatClampNeg) (xs (nI (5 * k) + nI 3).toNatClampNeg) tB tH tI _ h5) rfl 0 0 rfl rfl rfl ⟨Nat.le_of_ble_eq_true rfl, Nat.le_of_ble_eq_true rfl⟩ hkR rfl (Nat.le_of_ble_eq_true rfl) dL_law_822 [0, 1, 7] [bC cI aB (aH 0) (aY 0) (aZ 0) (aD 0) (aP 0) (aQ 0) (aI 0) tB, hC cI aH tH, hC cI aY tY, hC cI aZ tZ, dC cI aD tD, pC cI aP tP, qC cI aQ tQ, iC cI aI (aH 0) (nx aT) wI, chW cI (aH 0) aT tT, mC cI cZ aM tM] 825 rfl (by decide) (by simp only [List.map_cons, List.map_nil, bC_fst, hC_fst, dC_fst, pC_fst, qC_fst, iC_fst, mC_fst]) rfl rfl [.int r] rfl ?_
  refine gq_aload_n C 1 826 dL_law_825 rfl rfl ?_
  refine gq_aload_n C 3 827 dL_law_826 rfl rfl ?_
  refine gq_iload_n C 0 828 dL_law_827 rfl rfl ?_
  refine gq_iconst C (nI 1) 829 dL_law_828 (by decide) rfl ?_
  refine gq_iadd C 830 dL_law_829 rfl ?_
  refine gq_sld C hX hbl hbA 831 hb1 dL_law_830 rfl ?_
  refine gq_aload_n C 3 832 dL_law_831 rfl rfl ?_
  refine gq_iload_n C 0 833 dL_law_832 rfl rfl ?_
  refine gq_iconst C (nI 2) 834 dL_law_833 (by decide) rfl ?_
  refine gq_iadd C 835 dL_law_834 rfl ?_
  refine gq_sld C hX hbl hbA 836 hb2 dL_law_835 rfl ?_
  refine gq_aload_n C 3 837 dL_law_836 rfl rfl ?_
  refine gq_iload_n C 0 838 dL_law_837 rfl rfl ?_
  refine gq_iconst C (nI 3) 839 dL_law_838 (by decide) rfl ?_
  refine gq_iadd C 840 dL_law_839 rfl ?_
  refine gq_sld C hX hbl hbA 841 hb3 dL_law_840 rfl ?_
  refine gq_callV C hA gm_L_113 (c_X6_year l D cI cZ aM (xs (nI (5 * k) + nI 1).toNatClampNeg) (xs (nI (5 * k) + nI 2).toNatClampNeg) (xs (nI (5 * k) + nI 3).toNatClampNeg) tM _ h6) rfl 9 0 rfl hM0 rfl ⟨Nat.le_of_ble_eq_true rfl, Nat.le_of_ble_eq_true rfl⟩ hkR rfl (Nat.le_of_ble_eq_true rfl) dL_law_841 [9] [bC cI aB (aH 0) (aY 0) (aZ 0) (aD 0) (aP 0) (aQ 0) (aI 0) tB, hC cI aH tH, hC cI aY tY, hC cI aZ tZ, dC cI aD tD, pC cI aP tP, qC cI aQ tQ, iC cI aI (aH 0) (nx aT) wI, chW cI (aH 0) aT tT, mC cI cZ aM wM] 844 rfl (by decide) (by simp only [List.map_cons, List.map_nil, bC_fst, hC_fst, dC_fst, pC_fst, qC_fst, iC_fst, mC_fst]) rfl rfl [.int r, .int r] rfl ?_
  refine gq_icmp_eq C 918 847 dL_law_844 (by decide) rfl (fun _ => ?_) (fun h => absurd rfl h)
  exact next tB tH tY tZ tD tP tQ wI tT wM hI2

set_option maxHeartbeats 4000000 in
set_option maxRecDepth 100000 in
theorem lo_image {p : Program} {l : Launch} {e : Env} {s : State} {m : MethodId} {below : List Frame} {meth : Method} {c : Code} {D : va_G} {cI cZ : ClassId} {b L kc ks : Nat} {xs : Nat → Int32} (C : gC p s m #[Value.ref b] c cL_law 4 RL D cI cZ) (hX : va_X b L xs s s.heap) (hbl : b < s.heap.size) (hL : L ≤ 2560) (hkR : kc ≤ room_1.cells ∧ ks ≤ room_1.slots) (k : Nat) (hk : 5 * k + 5 ≤ L) (aB aH aY aZ aD aP aQ aI aM : Nat → Nat) (aT : List (Nat → Nat)) (tB : WbS) (tH tY tZ : HouS) (tD : DayS) (tP : ParS) (tQ : GueS) (tI : InnS) (tT : List InnS) (tM : ModS) (hI : Inv tH tY tZ tD tT tM) (hlT : aT.length = 8)
    (next : ∀ (tB : WbS) (tH tY tZ : HouS) (tD : DayS) (tP : ParS) (tQ : GueS) (tI : InnS) (tT : List InnS) (tM : ModS), Inv tH tY tZ tD tT tM → G p l e room_1 s m #[Value.ref b] below meth c 4 D (fun q : Nat => s.heap.size ≤ q) s.heap kc ks (lw_Z below #[Value.ref b] s) [bC cI aB (aH 0) (aY 0) (aZ 0) (aD 0) (aP 0) (aQ 0) (aI 0) tB, hC cI aH tH, hC cI aY tY, hC cI aZ tZ, dC cI aD tD, pC cI aP tP, qC cI aQ tQ, iC cI aI (aH 0) (nx aT) tI, chW cI (aH 0) aT tT, mC cI cZ aM tM] 918 [(3, .int (nI (5 * k))), (2, .ref (aM 0)), (1, .ref (aB 0)), (0, .ref b)] []) : G p l e room_1 s m #[Value.ref b] below meth c 4 D (fun q : Nat => s.heap.size ≤ q) s.heap kc ks (lw_Z below #[Value.ref b] s) [bC cI aB (aH 0) (aY 0) (aZ 0) (aD 0) (aP 0) (aQ 0) (aI 0) tB, hC cI aH tH, hC cI aY tY, hC cI aZ tZ, dC cI aD tD, pC cI aP tP, qC cI aQ tQ, iC cI aI (aH 0) (nx aT) tI, chW cI (aH 0) aT tT, mC cI cZ aM tM] 849 [(3, .int (nI (5 * k))), (2, .ref (aM 0)), (1, .ref (aB 0)), (0, .ref b)] [] := by
  have hbA : ¬ (fun q : Nat => s.heap.size ≤ q) b := Nat.not_le.mpr hbl
  have hA : ∀ q : Nat, s.heap.size ≤ q → (fun q : Nat => s.heap.size ≤ q) q := fun _ h => h
  have hb1 : ¬ (nI (5 * k) + nI 1 < 0 ∨ L ≤ (nI (5 * k) + nI 1).toNatClampNeg) := by rw [nI_add]; exact vp_in_nI (by omega) (by omega)
  obtain ⟨r, wY, wZ, wM, h5, h6, hI2⟩ := op_image tB tP tQ tI hI (xs (nI (5 * k) + nI 1).toNatClampNeg)
  obtain ⟨fsM, hM0⟩ := mC_get0 cI cZ aM tM
  refine gq_aload_n C 2 850 dL_law_849 rfl rfl ?_
  refine gq_aload_n C 3 851 dL_law_850 rfl rfl ?_
  refine gq_iload_n C 0 852 dL_law_851 rfl rfl ?_
  refine gq_iconst C (nI 1) 853 dL_law_852 (by decide) rfl ?_
  refine gq_iadd C 854 dL_law_853 rfl ?_
  refine gq_sld C hX hbl hbA 855 hb1 dL_law_854 rfl ?_
  refine gq_callV C hA gm_L_114 (c_X5_image l D cI cZ aB (aD 0) (aP 0) (aQ 0) (aI 0) aH aY aZ (xs (nI (5 * k) + nI 1).toNatClampNeg) tB tH tY tZ _ h5) rfl 0 0 rfl rfl rfl ⟨Nat.le_of_ble_eq_true rfl, Nat.le_of_ble_eq_true rfl⟩ hkR rfl (Nat.le_of_ble_eq_true rfl) dL_law_855 [0, 1, 2, 3] [bC cI aB (aH 0) (aY 0) (aZ 0) (aD 0) (aP 0) (aQ 0) (aI 0) tB, hC cI aH tH, hC cI aY wY, hC cI aZ wZ, dC cI aD tD, pC cI aP tP, qC cI aQ tQ, iC cI aI (aH 0) (nx aT) tI, chW cI (aH 0) aT tT, mC cI cZ aM tM] 858 rfl (by decide) (by simp only [List.map_cons, List.map_nil, bC_fst, hC_fst, dC_fst, pC_fst, qC_fst, iC_fst, mC_fst]) rfl rfl [.int r] rfl ?_
  refine gq_aload_n C 1 859 dL_law_858 rfl rfl ?_
  refine gq_aload_n C 3 860 dL_law_859 rfl rfl ?_
  refine gq_iload_n C 0 861 dL_law_860 rfl rfl ?_
  refine gq_iconst C (nI 1) 862 dL_law_861 (by decide) rfl ?_
  refine gq_iadd C 863 dL_law_862 rfl ?_
  refine gq_sld C hX hbl hbA 864 hb1 dL_law_863 rfl ?_
  refine gq_callV C hA gm_L_117 (c_X6_image l D cI cZ aM (xs (nI (5 * k) + nI 1).toNatClampNeg) tM _ h6) rfl 9 0 rfl hM0 rfl ⟨Nat.le_of_ble_eq_true rfl, Nat.le_of_ble_eq_true rfl⟩ hkR rfl (Nat.le_of_ble_eq_true rfl) dL_law_864 [9] [bC cI aB (aH 0) (aY 0) (aZ 0) (aD 0) (aP 0) (aQ 0) (aI 0) tB, hC cI aH tH, hC cI aY wY, hC cI aZ wZ, dC cI aD tD, pC cI aP tP, qC cI aQ tQ, iC cI aI (aH 0) (nx aT) tI, chW cI (aH 0) aT tT, mC cI cZ aM wM] 867 rfl (by decide) (by simp only [List.map_cons, List.map_nil, bC_fst, hC_fst, dC_fst, pC_fst, qC_fst, iC_fst, mC_fst]) rfl rfl [.int r, .int r] rfl ?_
  refine gq_icmp_eq C 918 870 dL_law_867 (by decide) rfl (fun _ => ?_) (fun h => absurd rfl h)
  exact next tB tH wY wZ tD tP tQ tI tT wM hI2

set_option maxHeartbeats 4000000 in
set_option maxRecDepth 100000 in
theorem lo_restore {p : Program} {l : Launch} {e : Env} {s : State} {m : MethodId} {below : List Frame} {meth : Method} {c : Code} {D : va_G} {cI cZ : ClassId} {b L kc ks : Nat} {xs : Nat → Int32} (C : gC p s m #[Value.ref b] c cL_law 4 RL D cI cZ) (hX : va_X b L xs s s.heap) (hbl : b < s.heap.size) (hL : L ≤ 2560) (hkR : kc ≤ room_1.cells ∧ ks ≤ room_1.slots) (k : Nat) (hk : 5 * k + 5 ≤ L) (aB aH aY aZ aD aP aQ aI aM : Nat → Nat) (aT : List (Nat → Nat)) (tB : WbS) (tH tY tZ : HouS) (tD : DayS) (tP : ParS) (tQ : GueS) (tI : InnS) (tT : List InnS) (tM : ModS) (hI : Inv tH tY tZ tD tT tM) (hlT : aT.length = 8)
    (next : ∀ (tB : WbS) (tH tY tZ : HouS) (tD : DayS) (tP : ParS) (tQ : GueS) (tI : InnS) (tT : List InnS) (tM : ModS), Inv tH tY tZ tD tT tM → G p l e room_1 s m #[Value.ref b] below meth c 4 D (fun q : Nat => s.heap.size ≤ q) s.heap kc ks (lw_Z below #[Value.ref b] s) [bC cI aB (aH 0) (aY 0) (aZ 0) (aD 0) (aP 0) (aQ 0) (aI 0) tB, hC cI aH tH, hC cI aY tY, hC cI aZ tZ, dC cI aD tD, pC cI aP tP, qC cI aQ tQ, iC cI aI (aH 0) (nx aT) tI, chW cI (aH 0) aT tT, mC cI cZ aM tM] 918 [(3, .int (nI (5 * k))), (2, .ref (aM 0)), (1, .ref (aB 0)), (0, .ref b)] []) : G p l e room_1 s m #[Value.ref b] below meth c 4 D (fun q : Nat => s.heap.size ≤ q) s.heap kc ks (lw_Z below #[Value.ref b] s) [bC cI aB (aH 0) (aY 0) (aZ 0) (aD 0) (aP 0) (aQ 0) (aI 0) tB, hC cI aH tH, hC cI aY tY, hC cI aZ tZ, dC cI aD tD, pC cI aP tP, qC cI aQ tQ, iC cI aI (aH 0) (nx aT) tI, chW cI (aH 0) aT tT, mC cI cZ aM tM] 872 [(3, .int (nI (5 * k))), (2, .ref (aM 0)), (1, .ref (aB 0)), (0, .ref b)] [] := by
  have hbA : ¬ (fun q : Nat => s.heap.size ≤ q) b := Nat.not_le.mpr hbl
  have hA : ∀ q : Nat, s.heap.size ≤ q → (fun q : Nat => s.heap.size ≤ q) q := fun _ h => h
  have hb1 : ¬ (nI (5 * k) + nI 1 < 0 ∨ L ≤ (nI (5 * k) + nI 1).toNatClampNeg) := by rw [nI_add]; exact vp_in_nI (by omega) (by omega)
  obtain ⟨r, wH, wM, h5, h6, hI2⟩ := op_restore tB tP tQ tI hI (xs (nI (5 * k) + nI 1).toNatClampNeg)
  obtain ⟨fsM, hM0⟩ := mC_get0 cI cZ aM tM
  refine gq_aload_n C 2 873 dL_law_872 rfl rfl ?_
  refine gq_aload_n C 3 874 dL_law_873 rfl rfl ?_
  refine gq_iload_n C 0 875 dL_law_874 rfl rfl ?_
  refine gq_iconst C (nI 1) 876 dL_law_875 (by decide) rfl ?_
  refine gq_iadd C 877 dL_law_876 rfl ?_
  refine gq_sld C hX hbl hbA 878 hb1 dL_law_877 rfl ?_
  refine gq_callV C hA gm_L_118 (c_X5_restore l D cI cZ aB (aD 0) (aP 0) (aQ 0) (aI 0) aH aY aZ (xs (nI (5 * k) + nI 1).toNatClampNeg) tB tH tY tZ _ h5) rfl 0 0 rfl rfl rfl ⟨Nat.le_of_ble_eq_true rfl, Nat.le_of_ble_eq_true rfl⟩ hkR rfl (Nat.le_of_ble_eq_true rfl) dL_law_878 [0, 1, 2, 3] [bC cI aB (aH 0) (aY 0) (aZ 0) (aD 0) (aP 0) (aQ 0) (aI 0) tB, hC cI aH wH, hC cI aY tY, hC cI aZ tZ, dC cI aD tD, pC cI aP tP, qC cI aQ tQ, iC cI aI (aH 0) (nx aT) tI, chW cI (aH 0) aT tT, mC cI cZ aM tM] 881 rfl (by decide) (by simp only [List.map_cons, List.map_nil, bC_fst, hC_fst, dC_fst, pC_fst, qC_fst, iC_fst, mC_fst]) rfl rfl [.int r] rfl ?_
  refine gq_aload_n C 1 882 dL_law_881 rfl rfl ?_
  refine gq_aload_n C 3 883 dL_law_882 rfl rfl ?_
  refine gq_iload_n C 0 884 dL_law_883 rfl rfl ?_
  refine gq_iconst C (nI 1) 885 dL_law_884 (by decide) rfl ?_
  refine gq_iadd C 886 dL_law_885 rfl ?_
  refine gq_sld C hX hbl hbA 887 hb1 dL_law_886 rfl ?_
  refine gq_callV C hA gm_L_121 (c_X6_restore l D cI cZ aM (xs (nI (5 * k) + nI 1).toNatClampNeg) tM _ h6) rfl 9 0 rfl hM0 rfl ⟨Nat.le_of_ble_eq_true rfl, Nat.le_of_ble_eq_true rfl⟩ hkR rfl (Nat.le_of_ble_eq_true rfl) dL_law_887 [9] [bC cI aB (aH 0) (aY 0) (aZ 0) (aD 0) (aP 0) (aQ 0) (aI 0) tB, hC cI aH wH, hC cI aY tY, hC cI aZ tZ, dC cI aD tD, pC cI aP tP, qC cI aQ tQ, iC cI aI (aH 0) (nx aT) tI, chW cI (aH 0) aT tT, mC cI cZ aM wM] 890 rfl (by decide) (by simp only [List.map_cons, List.map_nil, bC_fst, hC_fst, dC_fst, pC_fst, qC_fst, iC_fst, mC_fst]) rfl rfl [.int r, .int r] rfl ?_
  refine gq_icmp_eq C 918 893 dL_law_890 (by decide) rfl (fun _ => ?_) (fun h => absurd rfl h)
  exact next tB wH tY tZ tD tP tQ tI tT wM hI2

set_option maxHeartbeats 4000000 in
set_option maxRecDepth 100000 in
theorem lo_told {p : Program} {l : Launch} {e : Env} {s : State} {m : MethodId} {below : List Frame} {meth : Method} {c : Code} {D : va_G} {cI cZ : ClassId} {b L kc ks : Nat} {xs : Nat → Int32} (C : gC p s m #[Value.ref b] c cL_law 4 RL D cI cZ) (hX : va_X b L xs s s.heap) (hbl : b < s.heap.size) (hL : L ≤ 2560) (hkR : kc ≤ room_1.cells ∧ ks ≤ room_1.slots) (k : Nat) (hk : 5 * k + 5 ≤ L) (aB aH aY aZ aD aP aQ aI aM : Nat → Nat) (aT : List (Nat → Nat)) (tB : WbS) (tH tY tZ : HouS) (tD : DayS) (tP : ParS) (tQ : GueS) (tI : InnS) (tT : List InnS) (tM : ModS) (hI : Inv tH tY tZ tD tT tM) (hlT : aT.length = 8)
    (next : ∀ (tB : WbS) (tH tY tZ : HouS) (tD : DayS) (tP : ParS) (tQ : GueS) (tI : InnS) (tT : List InnS) (tM : ModS), Inv tH tY tZ tD tT tM → G p l e room_1 s m #[Value.ref b] below meth c 4 D (fun q : Nat => s.heap.size ≤ q) s.heap kc ks (lw_Z below #[Value.ref b] s) [bC cI aB (aH 0) (aY 0) (aZ 0) (aD 0) (aP 0) (aQ 0) (aI 0) tB, hC cI aH tH, hC cI aY tY, hC cI aZ tZ, dC cI aD tD, pC cI aP tP, qC cI aQ tQ, iC cI aI (aH 0) (nx aT) tI, chW cI (aH 0) aT tT, mC cI cZ aM tM] 918 [(3, .int (nI (5 * k))), (2, .ref (aM 0)), (1, .ref (aB 0)), (0, .ref b)] []) : G p l e room_1 s m #[Value.ref b] below meth c 4 D (fun q : Nat => s.heap.size ≤ q) s.heap kc ks (lw_Z below #[Value.ref b] s) [bC cI aB (aH 0) (aY 0) (aZ 0) (aD 0) (aP 0) (aQ 0) (aI 0) tB, hC cI aH tH, hC cI aY tY, hC cI aZ tZ, dC cI aD tD, pC cI aP tP, qC cI aQ tQ, iC cI aI (aH 0) (nx aT) tI, chW cI (aH 0) aT tT, mC cI cZ aM tM] 895 [(3, .int (nI (5 * k))), (2, .ref (aM 0)), (1, .ref (aB 0)), (0, .ref b)] [] := by
  have hbA : ¬ (fun q : Nat => s.heap.size ≤ q) b := Nat.not_le.mpr hbl
  have hA : ∀ q : Nat, s.heap.size ≤ q → (fun q : Nat => s.heap.size ≤ q) q := fun _ h => h
  have hb1 : ¬ (nI (5 * k) + nI 1 < 0 ∨ L ≤ (nI (5 * k) + nI 1).toNatClampNeg) := by rw [nI_add]; exact vp_in_nI (by omega) (by omega)
  obtain ⟨r, h5, h6, hI2⟩ := op_told tB tP tQ tI hI (xs (nI (5 * k) + nI 1).toNatClampNeg)
  obtain ⟨fsM, hM0⟩ := mC_get0 cI cZ aM tM
  refine gq_aload_n C 2 896 dL_law_895 rfl rfl ?_
  refine gq_aload_n C 3 897 dL_law_896 rfl rfl ?_
  refine gq_iload_n C 0 898 dL_law_897 rfl rfl ?_
  refine gq_iconst C (nI 1) 899 dL_law_898 (by decide) rfl ?_
  refine gq_iadd C 900 dL_law_899 rfl ?_
  refine gq_sld C hX hbl hbA 901 hb1 dL_law_900 rfl ?_
  refine gq_callV C hA gm_L_122 (c_X5_told l D cI cZ aB (aY 0) (aZ 0) (aP 0) (aQ 0) (aI 0) aH aD (xs (nI (5 * k) + nI 1).toNatClampNeg) tB tH tD _ h5) rfl 0 0 rfl rfl rfl ⟨Nat.le_of_ble_eq_true rfl, Nat.le_of_ble_eq_true rfl⟩ hkR rfl (Nat.le_of_ble_eq_true rfl) dL_law_901 [0, 1, 4] [bC cI aB (aH 0) (aY 0) (aZ 0) (aD 0) (aP 0) (aQ 0) (aI 0) tB, hC cI aH tH, hC cI aY tY, hC cI aZ tZ, dC cI aD tD, pC cI aP tP, qC cI aQ tQ, iC cI aI (aH 0) (nx aT) tI, chW cI (aH 0) aT tT, mC cI cZ aM tM] 904 rfl (by decide) (by simp only [List.map_cons, List.map_nil, bC_fst, hC_fst, dC_fst, pC_fst, qC_fst, iC_fst, mC_fst]) rfl rfl [.int r] rfl ?_
  refine gq_aload_n C 1 905 dL_law_904 rfl rfl ?_
  refine gq_aload_n C 3 906 dL_law_905 rfl rfl ?_
  refine gq_iload_n C 0 907 dL_law_906 rfl rfl ?_
  refine gq_iconst C (nI 1) 908 dL_law_907 (by decide) rfl ?_
  refine gq_iadd C 909 dL_law_908 rfl ?_
  refine gq_sld C hX hbl hbA 910 hb1 dL_law_909 rfl ?_
  refine gq_callV C hA gm_L_125 (c_X6_told l D cI cZ aM (xs (nI (5 * k) + nI 1).toNatClampNeg) tM _ h6) rfl 9 0 rfl hM0 rfl ⟨Nat.le_of_ble_eq_true rfl, Nat.le_of_ble_eq_true rfl⟩ hkR rfl (Nat.le_of_ble_eq_true rfl) dL_law_910 [9] [bC cI aB (aH 0) (aY 0) (aZ 0) (aD 0) (aP 0) (aQ 0) (aI 0) tB, hC cI aH tH, hC cI aY tY, hC cI aZ tZ, dC cI aD tD, pC cI aP tP, qC cI aQ tQ, iC cI aI (aH 0) (nx aT) tI, chW cI (aH 0) aT tT, mC cI cZ aM tM] 913 rfl (by decide) (by simp only [List.map_cons, List.map_nil, bC_fst, hC_fst, dC_fst, pC_fst, qC_fst, iC_fst, mC_fst]) rfl rfl [.int r, .int r] rfl ?_
  refine gq_icmp_eq C 918 916 dL_law_913 (by decide) rfl (fun _ => ?_) (fun h => absurd rfl h)
  exact next tB tH tY tZ tD tP tQ tI tT tM hI2
