theorem nestF : ∀ q ∈ gNF, Cond.fieldLinkNest q.1 q.2.1 q.2.2.1 q.2.2.2.1 q.2.2.2.2.1 q.2.2.2.2.2 ∈ lw_tbl := List.forall_mem_cons.mpr ⟨List.mem_append_right _ (List.mem_of_getElem? (i := 25) (by decide +kernel)), List.forall_mem_cons.mpr ⟨List.mem_append_right _ (List.mem_of_getElem? (i := 26) (by decide +kernel)), List.forall_mem_cons.mpr ⟨List.mem_append_right _ (List.mem_of_getElem? (i := 27) (by decide +kernel)), List.forall_mem_cons.mpr ⟨List.mem_append_right _ (List.mem_of_getElem? (i := 28) (by decide +kernel)), List.forall_mem_cons.mpr ⟨List.mem_append_right _ (List.mem_of_getElem? (i := 31) (by decide +kernel)), List.forall_mem_cons.mpr ⟨List.mem_append_right _ (List.mem_of_getElem? (i := 32) (by decide +kernel)), List.forall_mem_cons.mpr ⟨List.mem_append_right _ (List.mem_of_getElem? (i := 59) (by decide +kernel)), List.forall_mem_cons.mpr ⟨List.mem_append_right _ (List.mem_of_getElem? (i := 60) (by decide +kernel)), List.forall_mem_cons.mpr ⟨List.mem_append_right _ (List.mem_of_getElem? (i := 74) (by decide +kernel)), List.forall_mem_cons.mpr ⟨List.mem_append_right _ (List.mem_of_getElem? (i := 94) (by decide +kernel)), List.forall_mem_cons.mpr ⟨List.mem_append_right _ (List.mem_of_getElem? (i := 117) (by decide +kernel)), List.forall_mem_cons.mpr ⟨List.mem_append_right _ (List.mem_of_getElem? (i := 118) (by decide +kernel)), List.forall_mem_cons.mpr ⟨List.mem_append_right _ (List.mem_of_getElem? (i := 120) (by decide +kernel)), List.forall_mem_cons.mpr ⟨List.mem_append_right _ (List.mem_of_getElem? (i := 121) (by decide +kernel)), List.forall_mem_cons.mpr ⟨List.mem_append_right _ (List.mem_of_getElem? (i := 122) (by decide +kernel)), List.forall_mem_cons.mpr ⟨List.mem_append_right _ (List.mem_of_getElem? (i := 125) (by decide +kernel)), List.forall_mem_cons.mpr ⟨List.mem_append_right _ (List.mem_of_getElem? (i := 131) (by decide +kernel)), List.forall_mem_cons.mpr ⟨List.mem_append_right _ (List.mem_of_getElem? (i := 137) (by decide +kernel)), List.forall_mem_cons.mpr ⟨List.mem_append_right _ (List.mem_of_getElem? (i := 139) (by decide +kernel)), fun _ h => absurd h List.not_mem_nil⟩⟩⟩⟩⟩⟩⟩⟩⟩⟩⟩⟩⟩⟩⟩⟩⟩⟩⟩
theorem nestM : ∀ q ∈ gNM, Cond.methodLinkNest q.1 q.2.1 q.2.2.1 q.2.2.2 ∈ lw_tbl := List.forall_mem_cons.mpr ⟨List.mem_append_right _ (List.mem_of_getElem? (i := 20) (by decide +kernel)), List.forall_mem_cons.mpr ⟨List.mem_append_right _ (List.mem_of_getElem? (i := 54) (by decide +kernel)), List.forall_mem_cons.mpr ⟨List.mem_append_right _ (List.mem_of_getElem? (i := 69) (by decide +kernel)), List.forall_mem_cons.mpr ⟨List.mem_append_right _ (List.mem_of_getElem? (i := 89) (by decide +kernel)), List.forall_mem_cons.mpr ⟨List.mem_append_right _ (List.mem_of_getElem? (i := 112) (by decide +kernel)), List.forall_mem_cons.mpr ⟨List.mem_append_right _ (List.mem_of_getElem? (i := 203) (by decide +kernel)), List.forall_mem_cons.mpr ⟨List.mem_append_right _ (List.mem_of_getElem? (i := 218) (by decide +kernel)), List.forall_mem_cons.mpr ⟨List.mem_append_right _ (List.mem_of_getElem? (i := 222) (by decide +kernel)), List.forall_mem_cons.mpr ⟨List.mem_append_right _ (List.mem_of_getElem? (i := 226) (by decide +kernel)), List.forall_mem_cons.mpr ⟨List.mem_append_right _ (List.mem_of_getElem? (i := 235) (by decide +kernel)), List.forall_mem_cons.mpr ⟨List.mem_append_right _ (List.mem_of_getElem? (i := 239) (by decide +kernel)), List.forall_mem_cons.mpr ⟨List.mem_append_right _ (List.mem_of_getElem? (i := 251) (by decide +kernel)), List.forall_mem_cons.mpr ⟨List.mem_append_right _ (List.mem_of_getElem? (i := 272) (by decide +kernel)), List.forall_mem_cons.mpr ⟨List.mem_append_right _ (List.mem_of_getElem? (i := 280) (by decide +kernel)), List.forall_mem_cons.mpr ⟨List.mem_append_right _ (List.mem_of_getElem? (i := 288) (by decide +kernel)), List.forall_mem_cons.mpr ⟨List.mem_append_right _ (List.mem_of_getElem? (i := 292) (by decide +kernel)), List.forall_mem_cons.mpr ⟨List.mem_append_right _ (List.mem_of_getElem? (i := 297) (by decide +kernel)), List.forall_mem_cons.mpr ⟨List.mem_append_right _ (List.mem_of_getElem? (i := 305) (by decide +kernel)), List.forall_mem_cons.mpr ⟨List.mem_append_right _ (List.mem_of_getElem? (i := 322) (by decide +kernel)), List.forall_mem_cons.mpr ⟨List.mem_append_right _ (List.mem_of_getElem? (i := 363) (by decide +kernel)), List.forall_mem_cons.mpr ⟨List.mem_append_right _ (List.mem_of_getElem? (i := 364) (by decide +kernel)), List.forall_mem_cons.mpr ⟨List.mem_append_right _ (List.mem_of_getElem? (i := 377) (by decide +kernel)), List.forall_mem_cons.mpr ⟨List.mem_append_right _ (List.mem_of_getElem? (i := 382) (by decide +kernel)), List.forall_mem_cons.mpr ⟨List.mem_append_right _ (List.mem_of_getElem? (i := 387) (by decide +kernel)), List.forall_mem_cons.mpr ⟨List.mem_append_right _ (List.mem_of_getElem? (i := 395) (by decide +kernel)), List.forall_mem_cons.mpr ⟨List.mem_append_right _ (List.mem_of_getElem? (i := 407) (by decide +kernel)), List.forall_mem_cons.mpr ⟨List.mem_append_right _ (List.mem_of_getElem? (i := 415) (by decide +kernel)), List.forall_mem_cons.mpr ⟨List.mem_append_right _ (List.mem_of_getElem? (i := 427) (by decide +kernel)), List.forall_mem_cons.mpr ⟨List.mem_append_right _ (List.mem_of_getElem? (i := 434) (by decide +kernel)), List.forall_mem_cons.mpr ⟨List.mem_append_right _ (List.mem_of_getElem? (i := 461) (by decide +kernel)), List.forall_mem_cons.mpr ⟨List.mem_append_right _ (List.mem_of_getElem? (i := 474) (by decide +kernel)), List.forall_mem_cons.mpr ⟨List.mem_append_right _ (List.mem_of_getElem? (i := 475) (by decide +kernel)), List.forall_mem_cons.mpr ⟨List.mem_append_right _ (List.mem_of_getElem? (i := 476) (by decide +kernel)), List.forall_mem_cons.mpr ⟨List.mem_append_right _ (List.mem_of_getElem? (i := 477) (by decide +kernel)), List.forall_mem_cons.mpr ⟨List.mem_append_right _ (List.mem_of_getElem? (i := 478) (by decide +kernel)), List.forall_mem_cons.mpr ⟨List.mem_append_right _ (List.mem_of_getElem? (i := 490) (by decide +kernel)), List.forall_mem_cons.mpr ⟨List.mem_append_right _ (List.mem_of_getElem? (i := 502) (by decide +kernel)), List.forall_mem_cons.mpr ⟨List.mem_append_right _ (List.mem_of_getElem? (i := 514) (by decide +kernel)), List.forall_mem_cons.mpr ⟨List.mem_append_right _ (List.mem_of_getElem? (i := 518) (by decide +kernel)), List.forall_mem_cons.mpr ⟨List.mem_append_right _ (List.mem_of_getElem? (i := 519) (by decide +kernel)), List.forall_mem_cons.mpr ⟨List.mem_append_right _ (List.mem_of_getElem? (i := 523) (by decide +kernel)), List.forall_mem_cons.mpr ⟨List.mem_append_right _ (List.mem_of_getElem? (i := 524) (by decide +kernel)), List.forall_mem_cons.mpr ⟨List.mem_append_right _ (List.mem_of_getElem? (i := 529) (by decide +kernel)), List.forall_mem_cons.mpr ⟨List.mem_append_right _ (List.mem_of_getElem? (i := 533) (by decide +kernel)), List.forall_mem_cons.mpr ⟨List.mem_append_right _ (List.mem_of_getElem? (i := 535) (by decide +kernel)), List.forall_mem_cons.mpr ⟨List.mem_append_right _ (List.mem_of_getElem? (i := 536) (by decide +kernel)), List.forall_mem_cons.mpr ⟨List.mem_append_right _ (List.mem_of_getElem? (i := 537) (by decide +kernel)), List.forall_mem_cons.mpr ⟨List.mem_append_right _ (List.mem_of_getElem? (i := 538) (by decide +kernel)), List.forall_mem_cons.mpr ⟨List.mem_append_right _ (List.mem_of_getElem? (i := 550) (by decide +kernel)), List.forall_mem_cons.mpr ⟨List.mem_append_right _ (List.mem_of_getElem? (i := 564) (by decide +kernel)), List.forall_mem_cons.mpr ⟨List.mem_append_right _ (List.mem_of_getElem? (i := 579) (by decide +kernel)), List.forall_mem_cons.mpr ⟨List.mem_append_right _ (List.mem_of_getElem? (i := 580) (by decide +kernel)), List.forall_mem_cons.mpr ⟨List.mem_append_right _ (List.mem_of_getElem? (i := 581) (by decide +kernel)), List.forall_mem_cons.mpr ⟨List.mem_append_right _ (List.mem_of_getElem? (i := 589) (by decide +kernel)), fun _ h => absurd h List.not_mem_nil⟩⟩⟩⟩⟩⟩⟩⟩⟩⟩⟩⟩⟩⟩⟩⟩⟩⟩⟩⟩⟩⟩⟩⟩⟩⟩⟩⟩⟩⟩⟩⟩⟩⟩⟩⟩⟩⟩⟩⟩⟩⟩⟩⟩⟩⟩⟩⟩⟩⟩⟩⟩⟩⟩
theorem gq_lawret {p : Program} {l : Launch} {e : Env} {s : State} {m : MethodId} {below : List Frame} {meth : Method} {c : Code} {D : va_G} {cI cZ : ClassId} {b kc ks : Nat} {ws : List va_W} {lv : List (Nat × Value)} (C : gC p s m #[Value.ref b] c cL_law 4 RL D cI cZ) (hr : meth.sig.returnType = ret) (hlk : meth.locks = false) (hkc : kc ≤ 600000) (hks : ks ≤ 7302250) : G p l e room_1 s m #[Value.ref b] below meth c 4 D (fun q : Nat => s.heap.size ≤ q) s.heap kc ks (lw_Z below #[Value.ref b] s) ws 925 lv [.int (nI 1)] :=
  fun H locs ls hP hD hS hl => va_forget (fun q h => hS.2.2 q h) (W.widen hkc hks (lw_ret C.1 C.2.1 hr hlk dL_law_925))
theorem law_gt {L k : Nat} (hL : L ≤ 2560) (hk : 5 * k ≤ L) : ¬ (nI L - nI 5 < nI (5 * k)) → 5 * k + 5 ≤ L := by
  intro h
  have h1 : (nI L - nI 5).toInt = (L : Int) - (5 : Nat) := pk_sub_toInt (by omega) (by omega)
  have h2 : (nI (5 * k)).toInt = ((5 * k : Nat) : Int) := nI_toInt (by omega)
  rw [Int32.lt_iff_toInt_lt, h1, h2] at h
  omega
set_option maxHeartbeats 4000000 in
set_option maxRecDepth 100000 in
theorem law_loop {p : Program} {l : Launch} {e : Env} {s : State} {m : MethodId} {below : List Frame} {meth : Method} {c : Code} {D : va_G} {cI cZ : ClassId} {b L kc ks : Nat} {xs : Nat → Int32} (C : gC p s m #[Value.ref b] c cL_law 4 RL D cI cZ) (hX : va_X b L xs s s.heap) (hbl : b < s.heap.size) (hL : L ≤ 2560) (hr : meth.sig.returnType = ret) (hlk : meth.locks = false) (hkR : kc ≤ room_1.cells ∧ ks ≤ room_1.slots) (aB aH aY aZ aD aP aQ aI aM : Nat → Nat) (aT : List (Nat → Nat)) (hlT : aT.length = 8) :
    ∀ (n k : Nat) (tB : WbS) (tH tY tZ : HouS) (tD : DayS) (tP : ParS) (tQ : GueS) (tI : InnS) (tT : List InnS) (tM : ModS), Inv tH tY tZ tD tT tM → 5 * k ≤ L → L < 5 * k + n → G p l e room_1 s m #[Value.ref b] below meth c 4 D (fun q : Nat => s.heap.size ≤ q) s.heap kc ks (lw_Z below #[Value.ref b] s) [bC cI aB (aH 0) (aY 0) (aZ 0) (aD 0) (aP 0) (aQ 0) (aI 0) tB, hC cI aH tH, hC cI aY tY, hC cI aZ tZ, dC cI aD tD, pC cI aP tP, qC cI aQ tQ, iC cI aI (aH 0) (nx aT) tI, chW cI (aH 0) aT tT, mC cI cZ aM tM] 18 [(3, .int (nI (5 * k))), (2, .ref (aM 0)), (1, .ref (aB 0)), (0, .ref b)] [] := by
  have hbA : ¬ (fun q : Nat => s.heap.size ≤ q) b := Nat.not_le.mpr hbl
  have hA : ∀ q : Nat, s.heap.size ≤ q → (fun q : Nat => s.heap.size ≤ q) q := fun _ h => h
  intro n
  induction n with
  | zero =>
    intro k tB tH tY tZ tD tP tQ tI tT tM hI hk hn
    omega
  | succ n ih =>
    intro k tB tH tY tZ tD tP tQ tI tT tM hI hk hn
    refine gq_iload_n C 0 19 dL_law_18 rfl rfl ?_
    refine gq_aload_n C 3 20 dL_law_19 rfl rfl ?_
    refine gq_slen C hX hbl hbA 21 dL_law_20 rfl ?_
    refine gq_iconst C (nI 5) 22 dL_law_21 (by decide) rfl ?_
    refine gq_isub C 23 dL_law_22 rfl ?_
    refine gq_icmp_gt C 924 26 dL_law_23 (by decide) rfl (fun _ => ?_) (fun hg => ?_)
    · refine gq_iconst C (nI 1) 925 dL_law_924 (by decide) rfl ?_
      exact gq_lawret C hr hlk hkR.1 hkR.2
    · have hk5 := law_gt hL hk hg
      refine gq_aload_n C 3 27 dL_law_26 rfl rfl ?_
      refine gq_iload_n C 0 28 dL_law_27 rfl rfl ?_
      refine gq_sld C hX hbl hbA 29 (vp_in_nI (by omega) (by omega)) dL_law_28 rfl ?_
      refine gq_bipush C (nI 31) 31 dL_law_29 (by decide) rfl ?_
      refine gq_iand C 32 dL_law_31 rfl ?_
      obtain ⟨j, hj, ej⟩ := pk_andE (xs (nI (5 * k)).toNatClampNeg) (m := nI 31) 5 (by decide)
      rw [ej]
      have next : ∀ (tB : WbS) (tH tY tZ : HouS) (tD : DayS) (tP : ParS) (tQ : GueS) (tI : InnS) (tT : List InnS) (tM : ModS), Inv tH tY tZ tD tT tM → G p l e room_1 s m #[Value.ref b] below meth c 4 D (fun q : Nat => s.heap.size ≤ q) s.heap kc ks (lw_Z below #[Value.ref b] s) [bC cI aB (aH 0) (aY 0) (aZ 0) (aD 0) (aP 0) (aQ 0) (aI 0) tB, hC cI aH tH, hC cI aY tY, hC cI aZ tZ, dC cI aD tD, pC cI aP tP, qC cI aQ tQ, iC cI aI (aH 0) (nx aT) tI, chW cI (aH 0) aT tT, mC cI cZ aM tM] 918 [(3, .int (nI (5 * k))), (2, .ref (aM 0)), (1, .ref (aB 0)), (0, .ref b)] [] := by
        intro tB tH tY tZ tD tP tQ tI tT tM hI
        refine gq_iinc C 0 [(3, .int (nI (5 * (k + 1)))), (2, .ref (aM 0)), (1, .ref (aB 0)), (0, .ref b)] 921 dL_law_918 rfl (nI_add (5 * k) 5) (by decide) rfl rfl ?_
        refine gq_goto C 18 dL_law_921 (by decide) ?_
        exact ih (k + 1) tB tH tY tZ tD tP tQ tI tT tM hI (by omega) (by omega)
      rcases (show j = 0 ∨ j = 1 ∨ j = 2 ∨ j = 3 ∨ j = 4 ∨ j = 5 ∨ j = 6 ∨ j = 7 ∨ j = 8 ∨ j = 9 ∨ j = 10 ∨ j = 11 ∨ j = 12 ∨ j = 13 ∨ j = 14 ∨ j = 15 ∨ j = 16 ∨ j = 17 ∨ j = 18 ∨ j = 19 ∨ j = 20 ∨ j = 21 ∨ j = 22 ∨ j = 23 ∨ j = 24 ∨ j = 25 ∨ j = 26 ∨ 27 ≤ j by omega) with rfl | rfl | rfl | rfl | rfl | rfl | rfl | rfl | rfl | rfl | rfl | rfl | rfl | rfl | rfl | rfl | rfl | rfl | rfl | rfl | rfl | rfl | rfl | rfl | rfl | rfl | rfl | h27
      · refine gq_tableIn C 156 dL_law_32 (by decide) (by decide) rfl (by decide) ?_
        exact lo_beds C hX hbl hL hkR k hk5 aB aH aY aZ aD aP aQ aI aM aT tB tH tY tZ tD tP tQ tI tT tM hI hlT next
      · refine gq_tableIn C 179 dL_law_32 (by decide) (by decide) rfl (by decide) ?_
        exact lo_worth C hX hbl hL hkR k hk5 aB aH aY aZ aD aP aQ aI aM aT tB tH tY tZ tD tP tQ tI tT tM hI hlT next
      · refine gq_tableIn C 222 dL_law_32 (by decide) (by decide) rfl (by decide) ?_
        exact lo_rule C hX hbl hL hkR k hk5 aB aH aY aZ aD aP aQ aI aM aT tB tH tY tZ tD tP tQ tI tT tM hI hlT next
      · refine gq_tableIn C 245 dL_law_32 (by decide) (by decide) rfl (by decide) ?_
        exact lo_say C hX hbl hL hkR k hk5 aB aH aY aZ aD aP aQ aI aM aT tB tH tY tZ tD tP tQ tI tT tM hI hlT next
      · refine gq_tableIn C 268 dL_law_32 (by decide) (by decide) rfl (by decide) ?_
        exact lo_wipe C hX hbl hL hkR k hk5 aB aH aY aZ aD aP aQ aI aM aT tB tH tY tZ tD tP tQ tI tT tM hI hlT next
      · refine gq_tableIn C 281 dL_law_32 (by decide) (by decide) rfl (by decide) ?_
        exact lo_fault C hX hbl hL hkR k hk5 aB aH aY aZ aD aP aQ aI aM aT tB tH tY tZ tD tP tQ tI tT tM hI hlT next
      · refine gq_tableIn C 294 dL_law_32 (by decide) (by decide) rfl (by decide) ?_
        exact lo_judge C hX hbl hL hkR k hk5 aB aH aY aZ aD aP aQ aI aM aT tB tH tY tZ tD tP tQ tI tT tM hI hlT next
      · refine gq_tableIn C 317 dL_law_32 (by decide) (by decide) rfl (by decide) ?_
        exact lo_bed C hX hbl hL hkR k hk5 aB aH aY aZ aD aP aQ aI aM aT tB tH tY tZ tD tP tQ tI tT tM hI hlT next
      · refine gq_tableIn C 350 dL_law_32 (by decide) (by decide) rfl (by decide) ?_
        exact lo_who C hX hbl hL hkR k hk5 aB aH aY aZ aD aP aQ aI aM aT tB tH tY tZ tD tP tQ tI tT tM hI hlT next
      · refine gq_tableIn C 383 dL_law_32 (by decide) (by decide) rfl (by decide) ?_
        exact lo_left C hX hbl hL hkR k hk5 aB aH aY aZ aD aP aQ aI aM aT tB tH tY tZ tD tP tQ tI tT tM hI hlT next
      · refine gq_tableIn C 416 dL_law_32 (by decide) (by decide) rfl (by decide) ?_
        exact lo_slept C hX hbl hL hkR k hk5 aB aH aY aZ aD aP aQ aI aM aT tB tH tY tZ tD tP tQ tI tT tM hI hlT next
      · refine gq_tableIn C 449 dL_law_32 (by decide) (by decide) rfl (by decide) ?_
        exact lo_fewest C hX hbl hL hkR k hk5 aB aH aY aZ aD aP aQ aI aM aT tB tH tY tZ tD tP tQ tI tT tM hI hlT next
      · refine gq_tableIn C 472 dL_law_32 (by decide) (by decide) rfl (by decide) ?_
        exact lo_when C hX hbl hL hkR k hk5 aB aH aY aZ aD aP aQ aI aM aT tB tH tY tZ tD tP tQ tI tT tM hI hlT next
      · refine gq_tableIn C 515 dL_law_32 (by decide) (by decide) rfl (by decide) ?_
        exact lo_best C hX hbl hL hkR k hk5 aB aH aY aZ aD aP aQ aI aM aT tB tH tY tZ tD tP tQ tI tT tM hI hlT next
      · refine gq_tableIn C 548 dL_law_32 (by decide) (by decide) rfl (by decide) ?_
        exact lo_reach C hX hbl hL hkR k hk5 aB aH aY aZ aD aP aQ aI aM aT tB tH tY tZ tD tP tQ tI tT tM hI hlT next
      · refine gq_tableIn C 571 dL_law_32 (by decide) (by decide) rfl (by decide) ?_
        exact lo_party C hX hbl hL hkR k hk5 aB aH aY aZ aD aP aQ aI aM aT tB tH tY tZ tD tP tQ tI tT tM hI hlT next
      · refine gq_tableIn C 604 dL_law_32 (by decide) (by decide) rfl (by decide) ?_
        exact lo_fleas C hX hbl hL hkR k hk5 aB aH aY aZ aD aP aQ aI aM aT tB tH tY tZ tD tP tQ tI tT tM hI hlT next
      · refine gq_tableIn C 637 dL_law_32 (by decide) (by decide) rfl (by decide) ?_
        exact lo_brought C hX hbl hL hkR k hk5 aB aH aY aZ aD aP aQ aI aM aT tB tH tY tZ tD tP tQ tI tT tM hI hlT next
      · refine gq_tableIn C 660 dL_law_32 (by decide) (by decide) rfl (by decide) ?_
        exact lo_seen C hX hbl hL hkR k hk5 aB aH aY aZ aD aP aQ aI aM aT tB tH tY tZ tD tP tQ tI tT tM hI hlT next
      · refine gq_tableIn C 693 dL_law_32 (by decide) (by decide) rfl (by decide) ?_
        exact lo_forget C hX hbl hL hkR k hk5 aB aH aY aZ aD aP aQ aI aM aT tB tH tY tZ tD tP tQ tI tT tM hI hlT next
      · refine gq_tableIn C 706 dL_law_32 (by decide) (by decide) rfl (by decide) ?_
        exact lo_filled C hX hbl hL hkR k hk5 aB aH aY aZ aD aP aQ aI aM aT tB tH tY tZ tD tP tQ tI tT tM hI hlT next
      · refine gq_tableIn C 729 dL_law_32 (by decide) (by decide) rfl (by decide) ?_
        exact lo_could C hX hbl hL hkR k hk5 aB aH aY aZ aD aP aQ aI aM aT tB tH tY tZ tD tP tQ tI tT tM hI hlT next
      · refine gq_tableIn C 752 dL_law_32 (by decide) (by decide) rfl (by decide) ?_
        exact lo_chance C hX hbl hL hkR k hk5 aB aH aY aZ aD aP aQ aI aM aT tB tH tY tZ tD tP tQ tI tT tM hI hlT next
      · refine gq_tableIn C 806 dL_law_32 (by decide) (by decide) rfl (by decide) ?_
        exact lo_year C hX hbl hL hkR k hk5 aB aH aY aZ aD aP aQ aI aM aT tB tH tY tZ tD tP tQ tI tT tM hI hlT next
      · refine gq_tableIn C 849 dL_law_32 (by decide) (by decide) rfl (by decide) ?_
        exact lo_image C hX hbl hL hkR k hk5 aB aH aY aZ aD aP aQ aI aM aT tB tH tY tZ tD tP tQ tI tT tM hI hlT next
      · refine gq_tableIn C 872 dL_law_32 (by decide) (by decide) rfl (by decide) ?_
        exact lo_restore C hX hbl hL hkR k hk5 aB aH aY aZ aD aP aQ aI aM aT tB tH tY tZ tD tP tQ tI tT tM hI hlT next
      · refine gq_tableIn C 895 dL_law_32 (by decide) (by decide) rfl (by decide) ?_
        exact lo_told C hX hbl hL hkR k hk5 aB aH aY aZ aD aP aQ aI aM aT tB tH tY tZ tD tP tQ tI tT tM hI hlT next
      · refine gq_tableOut C 918 dL_law_32 (Or.inr (by rw [nI_toInt (by omega)]; omega)) (by decide) ?_
        exact next tB tH tY tZ tD tP tQ tI tT tM hI

set_option maxHeartbeats 4000000 in
set_option maxRecDepth 100000 in
theorem whole_start {p : Program} {e : Env} {s : State} {m : MethodId} {below : List Frame} {meth : Method} {c : Code} (l : Launch) (hflags : l.flags = flags0) {b L : Nat} {xs : Nat → Int32} (hL : L ≤ 2560) (C0 : lw_At p s m meth c b L xs) : W p l e room_1 s m #[Value.ref b] below meth c s.heap [] 0 0 (lw_Z below #[Value.ref b] s) (entryFrame m ([Value.ref b] : List Value).toArray 4) := by
  obtain ⟨hx, hb, hr, hml, hown, hts, hX, hbl, hlocks, hgv⟩ := id C0
  have hA : ∀ q : Nat, s.heap.size ≤ q → (fun q : Nat => s.heap.size ≤ q) q := fun _ h => h
  have hts2 : ∀ w ∈ wsL_law, w.before #[Value.ref b] s = true := fun w hw => hts w (wsL_law_in w hw)
  obtain ⟨c0, iS0, hKn0⟩ := u_known (C := RX0) (T := TX0) (N := 2) (n := 2) hts2 inlX0 (hts2 (.instantiable RX0 2) (wl_1 _ (List.mem_of_getElem? (i := 19) rfl)))
  obtain ⟨c1, iS1, hKn1⟩ := u_known (C := RX1) (T := TX1) (N := 5) (n := 5) hts2 inlX1 (hts2 (.instantiable RX1 5) (wl_2 _ (List.mem_of_getElem? (i := 3) rfl)))
  obtain ⟨c2, iS2, hKn2⟩ := u_known (C := RX2) (T := TX2) (N := 7) (n := 7) hts2 inlX2 (hts2 (.instantiable RX2 7) (wl_1 _ (List.mem_of_getElem? (i := 13) rfl)))
  obtain ⟨c3, iS3, hKn3⟩ := u_known (C := RX3) (T := TX3) (N := 16) (n := 16) hts2 inlX3 (hts2 (.instantiable RX3 16) (wl_2 _ (List.mem_of_getElem? (i := 9) rfl)))
  obtain ⟨c4, iS4, hKn4⟩ := u_known (C := RX4) (T := TX4) (N := 4) (n := 4) hts2 inlX4 (hts2 (.instantiable RX4 4) (wl_1 _ (List.mem_of_getElem? (i := 23) rfl)))
  obtain ⟨c5, iS5, hKn5⟩ := u_known (C := RX5) (T := TX5) (N := 8) (n := 8) hts2 inlX5 (hts2 (.instantiable RX5 8) (wl_1 _ (List.mem_of_getElem? (i := 1) rfl)))
  obtain ⟨c6, iS6, hKn6⟩ := u_known (C := RX6) (T := TX6) (N := 23) (n := 23) hts2 inlX6 (hts2 (.instantiable RX6 23) (wl_1 _ (List.mem_of_getElem? (i := 4) rfl)))
  obtain ⟨cI, kI, compI, hfI, hkI, hkdI⟩ := Cond.arrayClass_spec (hts2 (.arrayClass .int) (wl_2 _ (List.mem_of_getElem? (i := 6) rfl)))
  obtain ⟨cZ, kZ, compZ, hfZ, hkZ, hkdZ⟩ := Cond.arrayClass_spec (hts2 (.arrayClass .boolean) (wl_4 _ (List.mem_of_getElem? (i := 16) rfl)))
  obtain ⟨gCl, gIs, hKc⟩ : ∃ (gCl : Nat → ClassId) (gIs : Nat → Nat → Nat), ∀ (k : Nat) (q : vw_C), vwCl[k]? = some q → u_Kn s q.1 q.2.1 q.2.2 (gCl k) (gIs k) := by
    refine ⟨fun k => if k = 0 then c0 else if k = 1 then c1 else if k = 2 then c2 else if k = 3 then c3 else if k = 4 then c4 else if k = 5 then c5 else c6, fun k => if k = 0 then iS0 else if k = 1 then iS1 else if k = 2 then iS2 else if k = 3 then iS3 else if k = 4 then iS4 else if k = 5 then iS5 else iS6, ?_⟩
    intro k q hq
    match k, hq with
    | 0, hq => cases hq; exact hKn0
    | 1, hq => cases hq; exact hKn1
    | 2, hq => cases hq; exact hKn2
    | 3, hq => cases hq; exact hKn3
    | 4, hq => cases hq; exact hKn4
    | 5, hq => cases hq; exact hKn5
    | 6, hq => cases hq; exact hKn6
    | k + 7, hq => simp [vwCl] at hq
  have C : gC p s m #[Value.ref b] c cL_law 4 RL (gCl, gIs) cI cZ := ⟨hx, hb, hml, hown, hts2, ⟨fun q hq => va_Nw.of rfl (hts _ (nestF q hq)), fun q hq => va_Nw.of rfl (hts _ (nestM q hq))⟩, hKc, fun k q hq => by
    match k, hq with
    | 0, hq => cases hq; exact ⟨fun n z => ⟨fun k h => (by cases h), kI, hkI, compI, hkdI⟩, hfI⟩
    | 1, hq => cases hq; exact ⟨fun n z => ⟨fun k h => (by cases h), kZ, hkZ, compZ, hkdZ⟩, hfZ⟩
    | k + 2, hq => simp [gTY] at hq⟩
  have hl := lv_entry ([.ref b]) (n := 4) (Nat.le_of_ble_eq_true rfl)
  rw [lg_entry_eq]
  refine (?_ : G p l e room_1 s m #[Value.ref b] below meth c 4 (gCl, gIs) (fun q : Nat => s.heap.size ≤ q) s.heap 0 0 (lw_Z below #[Value.ref b] s) [] 0 [(0, .ref b)] []) s.heap [] _ (fun k q h => by simp at h) ⟨fun i j p q h => by simp at h, fun k q h => by simp at h⟩ va_S.rf hl
  refine gq_new C hA (ci := 5) (ty := tyX5) [.null, .null, .null, .null, .null, .null, .null, .null] 3 rfl inlX5 tyX5_ok (fun j hj => by rcases (show j = 0 ∨ j = 1 ∨ j = 2 ∨ j = 3 ∨ j = 4 ∨ j = 5 ∨ j = 6 ∨ j = 7 by omega) with rfl | rfl | rfl | rfl | rfl | rfl | rfl | rfl <;> rfl) (wl_1 _ (List.mem_of_getElem? (i := 0) rfl)) (wl_1 _ (List.mem_of_getElem? (i := 1) rfl)) (wl_1 _ (List.mem_of_getElem? (i := 2) rfl)) (Nat.le_of_ble_eq_true rfl) (Nat.le_of_ble_eq_true rfl) dL_law_0 rfl (fun q0 => ?_)
  refine gq_dup C 4 dL_law_3 rfl rfl ?_
  refine gq_callI (k := 0) C hA gm_L_9 ⟨rfl, by decide, by decide, by decide +kernel⟩ (c_X5_init l (gCl, gIs) cI cZ q0) rfl ⟨Nat.le_of_ble_eq_true rfl, Nat.le_of_ble_eq_true rfl⟩ ⟨Nat.le_of_ble_eq_true rfl, Nat.le_of_ble_eq_true rfl⟩ rfl (Nat.le_of_ble_eq_true rfl) dL_law_4 [0] [] [] 7 rfl rfl rfl rfl (by decide) rfl (fun v W1 hp => ?_)
  obtain ⟨rfl, aB, aH, aY, aZ, aD, aP, aQ, aI, aT, ha, hlT, rfl⟩ := hp
  subst ha
  refine gq_ws (ws' := [bC cI aB (aH 0) (aY 0) (aZ 0) (aD 0) (aP 0) (aQ 0) (aI 0) (fun _ => 0), hC cI aH (4, 0, 0, 0, fun _ => 0, fun _ => 0, fun _ => 0), hC cI aY (4, 0, 0, 0, fun _ => 0, fun _ => 0, fun _ => 0), hC cI aZ (4, 0, 0, 0, fun _ => 0, fun _ => 0, fun _ => 0), dC cI aD (0, fun _ => 0), pC cI aP (0, 0, fun _ => 0, fun _ => 0), qC cI aQ (0, 0, fun _ => 0, fun _ => 0, fun _ => 0), iC cI aI (aH 0) (nx aT) innS0, chW cI (aH 0) aT (List.replicate 8 innS0)]) rfl ?_
  refine gq_astore_n C [(1, .ref (aB 0)), (0, .ref b)] 8 dL_law_7 (by decide) rfl rfl ?_
  refine gq_new C hA (ci := 6) (ty := tyX6) [.int 0, .int 0, .null, .int 0, .null, .int 0, .null, .null, .int 0, .null, .int 0, .null, .null, .null, .null, .null, .int 0, .int 0, .int 0, .null, .null, .null, .null] 11 rfl inlX6 tyX6_ok (fun j hj => by rcases (show j = 0 ∨ j = 1 ∨ j = 2 ∨ j = 3 ∨ j = 4 ∨ j = 5 ∨ j = 6 ∨ j = 7 ∨ j = 8 ∨ j = 9 ∨ j = 10 ∨ j = 11 ∨ j = 12 ∨ j = 13 ∨ j = 14 ∨ j = 15 ∨ j = 16 ∨ j = 17 ∨ j = 18 ∨ j = 19 ∨ j = 20 ∨ j = 21 ∨ j = 22 by omega) with rfl | rfl | rfl | rfl | rfl | rfl | rfl | rfl | rfl | rfl | rfl | rfl | rfl | rfl | rfl | rfl | rfl | rfl | rfl | rfl | rfl | rfl | rfl <;> rfl) (wl_1 _ (List.mem_of_getElem? (i := 3) rfl)) (wl_1 _ (List.mem_of_getElem? (i := 4) rfl)) (wl_1 _ (List.mem_of_getElem? (i := 5) rfl)) (Nat.le_of_ble_eq_true rfl) (Nat.le_of_ble_eq_true rfl) dL_law_8 rfl (fun q8 => ?_)
  refine gq_dup C 12 dL_law_11 rfl rfl ?_
  refine gq_callI (k := 0) C hA gm_L_12 ⟨rfl, by decide, by decide, by decide +kernel⟩ (c_X6_init l (gCl, gIs) cI cZ q8) rfl ⟨Nat.le_of_ble_eq_true rfl, Nat.le_of_ble_eq_true rfl⟩ ⟨Nat.le_of_ble_eq_true rfl, Nat.le_of_ble_eq_true rfl⟩ rfl (Nat.le_of_ble_eq_true rfl) dL_law_12 [9] [0, 1, 2, 3, 4, 5, 6, 7, 8] [bC cI aB (aH 0) (aY 0) (aZ 0) (aD 0) (aP 0) (aQ 0) (aI 0) (fun _ => 0), hC cI aH (4, 0, 0, 0, fun _ => 0, fun _ => 0, fun _ => 0), hC cI aY (4, 0, 0, 0, fun _ => 0, fun _ => 0, fun _ => 0), hC cI aZ (4, 0, 0, 0, fun _ => 0, fun _ => 0, fun _ => 0), dC cI aD (0, fun _ => 0), pC cI aP (0, 0, fun _ => 0, fun _ => 0), qC cI aQ (0, 0, fun _ => 0, fun _ => 0, fun _ => 0), iC cI aI (aH 0) (nx aT) innS0, chW cI (aH 0) aT (List.replicate 8 innS0)] 15 rfl rfl rfl rfl (by decide) rfl (fun v W1 hp => ?_)
  obtain ⟨rfl, aM, ha, rfl⟩ := hp
  subst ha
  refine gq_ws (ws' := [bC cI aB (aH 0) (aY 0) (aZ 0) (aD 0) (aP 0) (aQ 0) (aI 0) (fun _ => 0), hC cI aH (4, 0, 0, 0, fun _ => 0, fun _ => 0, fun _ => 0), hC cI aY (4, 0, 0, 0, fun _ => 0, fun _ => 0, fun _ => 0), hC cI aZ (4, 0, 0, 0, fun _ => 0, fun _ => 0, fun _ => 0), dC cI aD (0, fun _ => 0), pC cI aP (0, 0, fun _ => 0, fun _ => 0), qC cI aQ (0, 0, fun _ => 0, fun _ => 0, fun _ => 0), iC cI aI (aH 0) (nx aT) innS0, chW cI (aH 0) aT (List.replicate 8 innS0), mC cI cZ aM (4, 0, fun _ => 0, 0, fun _ => 0, 0, fun _ => 0, fun _ => 0, 0, fun _ => 0, 0, fun _ => 0, fun _ => 0, fun _ => 0, fun _ => 0, fun _ => 0, 0, 0, 0, fun _ => 0, fun _ => 0, fun _ => 0, fun _ => 0)]) rfl ?_
  refine gq_astore_n C [(2, .ref (aM 0)), (1, .ref (aB 0)), (0, .ref b)] 16 dL_law_15 (by decide) rfl rfl ?_
  refine gq_iconst C (nI 0) 17 dL_law_16 (by decide) rfl ?_
  refine gq_istore_n C [(3, .int (nI (5 * 0))), (2, .ref (aM 0)), (1, .ref (aB 0)), (0, .ref b)] 18 dL_law_17 (by decide) rfl rfl ?_
  exact law_loop C hX hbl hL hr hlocks ⟨Nat.le_of_ble_eq_true rfl, Nat.le_of_ble_eq_true rfl⟩ aB aH aY aZ aD aP aQ aI aM aT hlT (L + 1) 0 (fun _ => 0) (4, 0, 0, 0, fun _ => 0, fun _ => 0, fun _ => 0) (4, 0, 0, 0, fun _ => 0, fun _ => 0, fun _ => 0) (4, 0, 0, 0, fun _ => 0, fun _ => 0, fun _ => 0) (0, fun _ => 0) (0, 0, fun _ => 0, fun _ => 0) (0, 0, fun _ => 0, fun _ => 0, fun _ => 0) innS0 (List.replicate 8 innS0) (4, 0, fun _ => 0, 0, fun _ => 0, 0, fun _ => 0, fun _ => 0, 0, fun _ => 0, 0, fun _ => 0, fun _ => 0, fun _ => 0, fun _ => 0, fun _ => 0, 0, 0, 0, fun _ => 0, fun _ => 0, fun _ => 0, fun _ => 0) inv_init (Nat.zero_le _) (by omega)
