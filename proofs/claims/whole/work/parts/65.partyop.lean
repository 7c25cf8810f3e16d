/-! party: the call -/
theorem and_nI {a b : Nat} (ha : a < 256) (hb : b < 256) : nI a &&& nI b = nI (a &&& b) := by
  have hle : a &&& b ≤ a := Nat.and_le_left
  apply Int32.toBitVec_inj.mp
  apply BitVec.eq_of_toNat_eq
  have e1 := pk_tn (n := a) (by omega)
  have e2 := pk_tn (n := b) (by omega)
  have e3 := pk_tn (n := a &&& b) (by omega)
  rw [Int32.toBitVec_and, BitVec.toNat_and, e1, e2, e3]
theorem and_0 {a b : Nat} (ha : a < 256) : a &&& b = 0 ↔ ∀ g, g < 8 → ¬ (a.testBit g = true ∧ b.testBit g = true) := by
  constructor
  · intro h g _ hg
    have := congrArg (fun z => z.testBit g) h
    simp only [Nat.testBit_and, Nat.zero_testBit, hg.1, hg.2] at this
    cases this
  · intro h
    apply Nat.eq_of_testBit_eq
    intro g
    rw [Nat.testBit_and, Nat.zero_testBit]
    by_cases h8 : g < 8
    · have := h g h8
      cases h1 : a.testBit g with
      | false => rfl
      | true =>
        cases h2 : b.testBit g with
        | false => rfl
        | true => exact absurd ⟨h1, h2⟩ this
    · have h9 : 2 ^ 8 ≤ 2 ^ g := Nat.pow_le_pow_right (by omega) (by omega)
      rw [Nat.testBit_lt_two_pow (show a < 2 ^ g by omega)]
      rfl
theorem fold_some : ∀ (l : List (Nat × List Nat)) (p : Nat × List Nat), ∃ q, l.foldl bestF (some p) = some q
  | [], p => ⟨p, rfl⟩
  | x :: l, p => by
    simp only [List.foldl_cons]
    obtain ⟨v, o⟩ := p
    obtain ⟨v', o'⟩ := x
    simp only [bestF]
    split
    · exact fold_some l _
    · exact fold_some l _
theorem perms_head : ∀ n, n < 7 → (permsL n (List.range n)).head? = some (List.range n) ∧ (permsL n (List.range n)).length < 1000 := by decide +kernel
theorem gs_len8 : ∀ s, s < 256 → (gsFrom s 8 0).length ≤ 8 := by decide +kernel
theorem gPa_end {n : Nat} {x2 most : Int32} {fuel : Nat} {t : ModS} : gPa n x2 (fuel + 1) most (nI 0) t = if x2 = (-1 : Int32) then some (most, t) else (Option.bind (f_X6_in x2 (nI 0) (nI n - (nI 1))) (fun r_325 => (if r_325 = 0 then some ((-6 : Int32), t) else (if x2 < 0 ∨ 8 ≤ x2.toNatClampNeg then none else some ((mBst t x2.toNatClampNeg), t))))) := by
  obtain ⟨M_beds, M_law, M_worths, M_sights, M_sight, M_signs, M_pad, M_lies, M_empty, M_list, M_waits, M_yard, M_last, M_used, M_sheets, M_nights, M_fleasOfGuests, M_fleasOfBeds, M_reason, M_row, M_bestRow, M_image, M_isKept⟩ := t
  rw [gPa_def, f_X6_party_L125, if_pos (show nI 0 = 0 from rfl)]
  rfl
theorem f_order {n k q : Nat} {w sg sb : Nat → Nat} (hw : ∀ j, w j ≤ 99) (hn : n ≤ 8) (hk : k < 4) {tH : HouS} (hH : HouR tH (n, k, q, w, sg, sb)) {C : AIn} (hC : AOk n C) {I : InnS} (hI : InR k C I) {s : Nat} (hs : s < 256) (h6 : (gsFrom s 8 0).length ≤ 6) (hno : ∀ g, g ∈ gsFrom s 8 0 → ¬ presA C g) {T : List InnS} (hT : T.length = 8) (P : ParS) : ∃ P' T', f_X4_order (nI s) tH P I T = some (P', T') ∧ T'.length = T.length ∧ ParR (((permsL (gsFrom s 8 0).length (gsFrom s 8 0)).map (evP k w 0 C [])).foldl bestF none) P' ∧ parZ P' = nI (gsFrom s 8 0).length := by
  obtain ⟨p1, p2, p3, p4⟩ := P
  obtain ⟨P', T', e1, e2, e3, e4, -⟩ := f_letIn hw hn hk (gsFrom s 8 0).length 10 s 0 [] C tH q sg sb (-1, nI (gsFrom s 8 0).length, p3, p4) I T none rfl (by omega) hs (by simp only [List.length_nil]; omega) (by omega) (by simp) hC hI hno hH rfl (fun i hi => by simp at hi)
  refine ⟨P', T', ?_, e2, e3, e4⟩
  obtain ⟨H_beds, H_law, H_sights, H_isKept, H_worths, H_sightGuests, H_sightBeds⟩ := tH
  obtain ⟨I_law, I_there, I_sleepers, I_empty, I_empties, I_yard, I_waiting, I_nights, I_used, I_sheets, I_lastOnes, I_guestsWithFleas, I_bedsWithFleas, I_isCounting⟩ := I
  obtain ⟨q1, q2, q3, q4⟩ := P'
  rw [f_X4_order, bc_len s hs]
  simp only [Option.bind_some]
  have e5 : f_X4_letIn 10 (nI s) (nI 0) (nI 0) (H_beds, H_law, H_sights, H_isKept, H_worths, H_sightGuests, H_sightBeds) (-1, nI (gsFrom s 8 0).length, p3, p4) (I_law, I_there, I_sleepers, I_empty, I_empties, I_yard, I_waiting, I_nights, I_used, I_sheets, I_lastOnes, I_guestsWithFleas, I_bedsWithFleas, I_isCounting) T = some ((q1, q2, q3, q4), T') := e1
  rw [e5]
  simp only [Option.bind_some, e2, if_true]
theorem party_set {s : Nat} (hs : s < 256) (h1 : 1 ≤ s) (h6 : (gsFrom s 8 0).length ≤ 6) : ∃ (f : Nat → Nat) (ps : List (List Nat)), Mono (gsFrom s 8 0).length f ∧ chainB (List.range (gsFrom s 8 0).length :: ps) = true ∧ ps.length < 1000 ∧ (∀ l, l ∈ List.range (gsFrom s 8 0).length :: ps → l.length = (gsFrom s 8 0).length ∧ l.Nodup ∧ ∀ x, x ∈ l → x < (gsFrom s 8 0).length) ∧ permsL (gsFrom s 8 0).length (gsFrom s 8 0) = (List.range (gsFrom s 8 0).length :: ps).map (List.map f) ∧ ∀ i, f i = (gsFrom s 8 0).getD i 0 := by
  have hne : gsFrom s 8 0 ≠ [] := fun e => by have := (gs_nil s hs).mp e; omega
  have hN1 : 1 ≤ (gsFrom s 8 0).length := List.length_pos_iff.mpr hne
  have hmo := fun i j hi hj => gs_mono (s := s) (i := i) (j := j) hi hj
  have hme := fun x => gsFrom_mem (s := s) 8 0 x
  generalize gsFrom s 8 0 = gs at *
  have hfm : Mono gs.length (fun i => gs.getD i 0) := by
    refine ⟨fun a b ha hb => ?_, fun a ha => ?_⟩
    · show gs.getD a 0 ≤ gs.getD b 0 ↔ a ≤ b
      rcases Nat.lt_trichotomy a b with h | h | h
      · have := hmo a b h hb
        omega
      · rw [h]
        omega
      · have := hmo b a h ha
        omega
    · have hmem : gs.getD a 0 ∈ gs := by
        rw [List.getD_eq_getElem?_getD, List.getElem?_eq_getElem ha]
        exact List.getElem_mem ha
      have := (hme _).mp hmem
      show gs.getD a 0 < 8
      omega
  have hpm := perms_map (f := fun i => gs.getD i 0) gs.length (List.range gs.length) (fun x y hx hy e => by
    have hx2 := List.mem_range.mp hx
    have hy2 := List.mem_range.mp hy
    have e1 := (hfm.1 x y hx2 hy2).mp (Nat.le_of_eq e)
    have e2 := (hfm.1 y x hy2 hx2).mp (Nat.le_of_eq e.symm)
    omega)
  rw [← gs_range] at hpm
  obtain ⟨ph1, ph2⟩ := perms_head gs.length (by omega)
  have hch := chain_ix gs.length (by omega) (by omega)
  have hpall : ∀ l, l ∈ permsL gs.length (List.range gs.length) → l.length = gs.length ∧ l.Nodup ∧ ∀ x, x ∈ l → x < gs.length := fun l hl => by
    obtain ⟨z1, z2⟩ := perms_sub _ _ l (by simp) List.nodup_range hl
    exact ⟨perms_len _ _ l (by simp) hl, z1, fun x hx => List.mem_range.mp (z2 x hx)⟩
  generalize permsL gs.length (List.range gs.length) = ps0 at *
  cases ps0 with
  | nil => cases ph1
  | cons a ps =>
    obtain rfl : a = List.range gs.length := Option.some.inj ph1
    refine ⟨fun i => gs.getD i 0, ps, hfm, hch, ?_, hpall, hpm, fun i => rfl⟩
    simp only [List.length_cons] at ph2
    omega
theorem op_party (tB : WbS) (tP : ParS) (tQ : GueS) (tI : InnS) {tH tY tZ : HouS} {tD : DayS} {tT : List InnS} {tM : ModS} (hI : Inv tH tY tZ tD tT tM) (x1 x2 : Int32) : ∃ (r : Int32) (wP : ParS) (wI : InnS) (wT : (List InnS)) (wM : ModS), f_X5_party x1 x2 tB tH tD tP tI tT = some (r, wP, wI, wT) ∧ f_X6_party x1 x2 tM = some (r, wM) ∧ Inv tH tY tZ tD wT wM := by
  obtain ⟨hl, n, k, q, w, sg, sb, m, d, ⟨hn2, hn, hk, hq, hw, hsg, hsb⟩, hH, hM, hD, hDM, hm, hd⟩ := inv_use hI
  obtain ⟨t1, l1, l2⟩ := f_liveThrough hH hw hn hk hD tB tI (x1 := -1) (ev := m) (by omega) (Or.inr ⟨rfl, rfl⟩)
  obtain ⟨t2, c1, c2, c3⟩ := m_barOf hw hk hn hd (ev := m) (by omega) hm hM hDM
  have hI2 := inv_keep hI c2
  have hM2 := mP_H c2 hM
  have hD2 := mP_D c2 hDM
  have hord := fun C (hC : AOk n C) (hI : InR k C t1) s hs h6 hno => f_order hw hn hk hH hC hI (s := s) hs h6 hno hl tP
  have hstp := fun b1 b2 b3 N f hN hN1 hfm x2 hno => gPa_loop hw hk hn hd hm (d := d) (m := m) b1 b2 b3 (N := N) (f := f) hN hN1 hfm (q := q) (sg := sg) (sb := sb) (x2 := x2) hno
  obtain ⟨H_beds, H_law, H_sights, H_isKept, H_worths, H_sightGuests, H_sightBeds⟩ := tH
  obtain ⟨len, S⟩ := tD
  obtain ⟨M_beds, M_law, M_worths, M_sights, M_sight, M_signs, M_pad, M_lies, M_empty, M_list, M_waits, M_yard, M_last, M_used, M_sheets, M_nights, M_fleasOfGuests, M_fleasOfBeds, M_reason, M_row, M_bestRow, M_image, M_isKept⟩ := tM
  obtain ⟨I_law, I_there, I_sleepers, I_empty, I_empties, I_yard, I_waiting, I_nights, I_used, I_sheets, I_lastOnes, I_guestsWithFleas, I_bedsWithFleas, I_isCounting⟩ := tI
  obtain ⟨p1, p2, p3, p4⟩ := tP
  obtain rfl : M_signs = nI m := hDM.1
  rw [f_X5_party, f_X6_party]
  obtain ⟨F, hF⟩ : ∃ F, FU = F := ⟨_, rfl⟩
  have hF2 : 1990 < F := by rw [← hF, FU_eq]; omega
  rw [hF]
  rcases in_c x1 (a := 1) (b := 255) (by omega) (by omega) with ⟨h1, h2⟩ | ⟨s, h1, h2, rfl, h3⟩
  · rw [h1]
    refine ⟨-2, ?_⟩
    apply Exists.intro
    apply Exists.intro
    apply Exists.intro
    apply Exists.intro
    apply And.intro
    · rcases h2 with h2 | h2
      · rw [if_pos h2]
      · rw [if_neg (gt_nle h2)]
        split <;> rfl
    · exact ⟨rfl, hI⟩
  rw [h3, if_neg (by rw [n_lt (by omega) (by omega)]; omega), if_pos (by rw [n_le (by omega) (by omega)]; omega)]
  simp only [Option.bind_some, one0, if_false, l1, c1]
  rcases barA_c n k w d m m with hb | ⟨hb, hb1, hb2⟩
  rotate_left 1
  · obtain ⟨J_law, J_there, J_sleepers, J_empty, J_empties, J_yard, J_waiting, J_nights, J_used, J_sheets, J_lastOnes, J_guestsWithFleas, J_bedsWithFleas, J_isCounting⟩ := t1
    obtain ⟨L_beds, L_law, L_worths, L_sights, L_sight, L_signs, L_pad, L_lies, L_empty, L_list, L_waits, L_yard, L_last, L_used, L_sheets, L_nights, L_fleasOfGuests, L_fleasOfBeds, L_reason, L_row, L_bestRow, L_image, L_isKept⟩ := t2
    simp only [hb1, hb2, if_false]
    exact ⟨_, _, _, _, _, rfl, rfl, hI2⟩
  obtain ⟨hz1, hz2⟩ := barA_z hb
  obtain ⟨l3, l4⟩ := l2 hb
  obtain ⟨c4, c5⟩ := c3 hb
  obtain ⟨b1, b2, b3⟩ := barA_0 hb
  obtain ⟨r1, r2⟩ := GO_run (kk := k) (w := w) (d := d) hn m 0
  have hs : s < 256 := by omega
  have hg8 := gs_len8 s hs
  have hbc := bc_len s hs
  have hne : gsFrom s 8 0 ≠ [] := fun e => by have := (gs_nil s hs).mp e; omega
  have hN1 : 1 ≤ (gsFrom s 8 0).length := List.length_pos_iff.mpr hne
  have hord' := hord _ r1 l3 s hs
  have hth := thP_iff (s := s) (C := (runA k w d m 0 (openA n)).2) 8 0
  have hstp' := hstp b1 b2 b3
  generalize hCe : (runA k w d m 0 (openA n)).2 = C at *
  obtain ⟨J_law, J_there, J_sleepers, J_empty, J_empties, J_yard, J_waiting, J_nights, J_used, J_sheets, J_lastOnes, J_guestsWithFleas, J_bedsWithFleas, J_isCounting⟩ := t1
  obtain ⟨L_beds, L_law, L_worths, L_sights, L_sight, L_signs, L_pad, L_lies, L_empty, L_list, L_waits, L_yard, L_last, L_used, L_sheets, L_nights, L_fleasOfGuests, L_fleasOfBeds, L_reason, L_row, L_bestRow, L_image, L_isKept⟩ := t2
  obtain ⟨tm, htm, htm2, htm3⟩ := l3.2.1
  simp only [hz1, hz2, if_true]
  obtain ⟨Y', y1, y2⟩ := lp38 hM2 hn r1 c4 hs 8 0 F [] false L_row (by omega) (by omega) (by simpa using hg8) (fun i hi => by simp at hi)
  have hy0 : nI (List.length ([] : List Nat)) = nI 0 := rfl
  have hy1 : nI (if false = true then 1 else 0) = nI 0 := rfl
  have hy2 : ([] : List Nat) ++ gsFrom s 8 0 = gsFrom s 8 0 := rfl
  rw [hy0, hy1, hy2, Bool.false_or] at y1
  rw [hy2] at y2
  rw [y1]
  have hthere : (nI s &&& J_there = 0) ↔ thP s C 8 0 = false := by
    rw [htm2, and_nI hs htm]
    have hle : s &&& tm ≤ s := Nat.and_le_left
    rw [n_eq0 (by omega), and_0 hs]
    constructor
    · intro h
      cases hv : thP s C 8 0 with
      | false => rfl
      | true =>
        obtain ⟨g, g1, g2, g3, g4⟩ := hth.mp hv
        exact absurd ⟨g3, (htm3 g (by omega)).mpr ((presB_iff r1 hn).mp g4)⟩ (h g (by omega))
    · intro h g hg hgg
      have := hth.mpr ⟨g, by omega, by omega, hgg.1, (presB_iff r1 hn).mpr ((htm3 g hg).mp hgg.2)⟩
      rw [h] at this
      cases this
  have hI3 : Inv (H_beds, H_law, H_sights, H_isKept, H_worths, H_sightGuests, H_sightBeds) tY tZ (len, S) tT (L_beds, L_law, L_worths, L_sights, L_sight, L_signs, L_pad, L_lies, L_empty, L_list, L_waits, L_yard, L_last, L_used, L_sheets, L_nights, L_fleasOfGuests, L_fleasOfBeds, L_reason, Y', L_bestRow, L_image, L_isKept) := inv_keepQ hI2 (by simp only [mQ]) rfl
  have hM3 : ModHR (L_beds, L_law, L_worths, L_sights, L_sight, L_signs, L_pad, L_lies, L_empty, L_list, L_waits, L_yard, L_last, L_used, L_sheets, L_nights, L_fleasOfGuests, L_fleasOfBeds, L_reason, Y', L_bestRow, L_image, L_isKept) (n, k, q, w, sg, sb) := mQ_H (by simp only [mQ]) hM2
  have hD3 : ModDR (L_beds, L_law, L_worths, L_sights, L_sight, L_signs, L_pad, L_lies, L_empty, L_list, L_waits, L_yard, L_last, L_used, L_sheets, L_nights, L_fleasOfGuests, L_fleasOfBeds, L_reason, Y', L_bestRow, L_image, L_isKept) m d := mDp_D (by simp only [mDp]) hD2
  by_cases hv : thP s C 8 0 = true
  · rw [if_pos hv, if_neg (fun e => by rw [hthere.mp e] at hv; cases hv), if_neg (show ¬ nI 1 = 0 by decide), if_neg (show ¬ nI 1 = 0 by decide)]
    exact ⟨_, _, _, _, _, rfl, rfl, hI3⟩
  · have hv0 : thP s C 8 0 = false := by simpa using hv
    rw [if_neg hv, if_pos (hthere.mpr hv0), hbc, Option.bind_some, if_pos (show nI 0 = 0 from rfl), if_pos (show nI 0 = 0 from rfl)]
    by_cases h6 : (gsFrom s 8 0).length ≤ 6
    rotate_left 1
    · rw [if_neg (by rw [n_le (by omega) (by omega)]; exact h6), if_neg (by rw [n_le (by omega) (by omega)]; exact h6)]
      exact ⟨_, _, _, _, _, rfl, rfl, hI3⟩
    rw [if_pos (by rw [n_le (by omega) (by omega)]; exact h6), if_pos (by rw [n_le (by omega) (by omega)]; exact h6)]
    have hnop : ∀ g, g ∈ gsFrom s 8 0 → ¬ presA C g := fun g hg hp => by
      have hm3 := (gsFrom_mem 8 0 g).mp hg
      have := hth.mpr ⟨g, by omega, by omega, hm3.2.2, (presB_iff r1 hn).mpr hp⟩
      rw [hv0] at this
      cases this
    obtain ⟨P', T', o1, o2, o3, o4⟩ := hord' h6 hnop
    obtain ⟨f, ps, hfm, hch, hpl, hpall, hpm, hfg⟩ := party_set hs (by omega) h6
    have hpre : PaR (gsFrom s 8 0).length none (-6) (mBst (L_beds, L_law, L_worths, L_sights, L_sight, L_signs, L_pad, L_lies, L_empty, L_list, L_waits, L_yard, L_last, L_used, L_sheets, L_nights, L_fleasOfGuests, L_fleasOfBeds, L_reason, Y', L_bestRow, L_image, L_isKept)) := rfl
    obtain ⟨most', t5, fu, g1, g2, g3⟩ := hstp' (gsFrom s 8 0).length f h6 hN1 hfm x2 (fun i hi => by
      rw [hfg]
      refine hnop _ ?_
      rw [List.getD_eq_getElem?_getD, List.getElem?_eq_getElem hi]
      exact List.getElem_mem hi) ps (List.range (gsFrom s 8 0).length) (-6) F none (L_beds, L_law, L_worths, L_sights, L_sight, L_signs, L_pad, L_lies, L_empty, L_list, L_waits, L_yard, L_last, L_used, L_sheets, L_nights, L_fleasOfGuests, L_fleasOfBeds, L_reason, Y', L_bestRow, L_image, L_isKept) hch hpall (by omega) hM3 hD3 ⟨fun i hi => by
      show Y' i = nI (f ((List.range (gsFrom s 8 0).length).getD i 0))
      rw [y2 i hi, hfg, List.getD_eq_getElem?_getD (l := List.range _), List.getElem?_range hi]
      rfl, fun i hi => by
      show (List.range (gsFrom s 8 0).length).getD i 0 < _
      rw [List.getD_eq_getElem?_getD, List.getElem?_range hi]
      exact hi⟩ hpre
    rw [gPa_def, gPa_end] at g1
    have hfe : (permsL (gsFrom s 8 0).length (gsFrom s 8 0)).map (evP k w 0 C []) = (List.range (gsFrom s 8 0).length :: ps).map (fun l => (sumW k w C (l.map f), l.map f)) := by
      rw [hpm, List.map_map]
      refine List.map_congr_left (fun l _ => ?_)
      simp only [Function.comp, evP, Nat.zero_add, List.nil_append]
    rw [hfe] at o3
    have hI5 := inv_keepQ (tT' := T') hI3 g3 o2
    obtain ⟨z, hz⟩ : ∃ z, ((List.range (gsFrom s 8 0).length :: ps).map (fun l => (sumW k w C (l.map f), l.map f))).foldl bestF none = some z := by
      simp only [List.map_cons, List.foldl_cons]
      exact fold_some _ _
    rw [hz] at o3 g2
    obtain ⟨v, l⟩ := z
    obtain ⟨P1, P2, P3, P4⟩ := P'
    obtain rfl : P2 = nI (gsFrom s 8 0).length := o4
    obtain ⟨u1, u2, rfl, u4⟩ := o3
    obtain ⟨v1, v2, rfl, v4⟩ := g2
    rw [o1, Option.bind_some, g1]
    dsimp only
    rw [if_pos o2]
    by_cases hx : x2 = -1
    · rw [if_pos hx, if_pos hx]
      exact ⟨_, _, _, _, _, rfl, rfl, hI5⟩
    · rw [if_neg hx, if_neg hx, f_X4_guestAt, n_sub (by omega)]
      rcases in_c x2 (a := 0) (b := (gsFrom s 8 0).length - 1) (by omega) (by omega) with ⟨w1, w2⟩ | ⟨i, w1, w2, rfl, w3⟩
      · rw [w1]
        have hcl : (if x2 < 0 then some (-6 : Int32) else (if nI (gsFrom s 8 0).length ≤ x2 then some (-6 : Int32) else (if (nI 6) ≤ x2 then some (-6 : Int32) else (if x2 < 0 ∨ 6 ≤ x2.toNatClampNeg then none else some (P3 x2.toNatClampNeg))))) = some (-6) := by
          rcases w2 with w2 | w2
          · rw [if_pos (show x2 < 0 from w2)]
          · by_cases h0 : x2 < 0
            · rw [if_pos h0]
            · rw [if_neg h0]
              have h7 := gt_ge (by omega) w2
              rw [show (gsFrom s 8 0).length - 1 + 1 = (gsFrom s 8 0).length by omega] at h7
              rw [if_pos (Int32.not_lt.mp h7)]
        rw [hcl]
        exact ⟨_, _, _, _, _, rfl, rfl, hI5⟩
      · rw [w3]
        have hi : i < (gsFrom s 8 0).length := by omega
        simp (disch := omega) only [Option.bind_some, one0, if_false, n_lt0, n_le, c_leF, n_cl, false_or, u4 i (show i < l.length by omega), v4 i hi]
        exact ⟨_, _, _, _, _, rfl, rfl, hI5⟩
