/-! judge, bed, who, left, slept -/
theorem f_bedOf {n k g : Nat} {C : AIn} {t : InnS} (hC : AOk n C) (hn : n ≤ 8) (h : InR k C t) (hg : g < 8) : f_X3_bedOf (nI g) t = some (cdL (bedA C.1 g)) := by
  cases hb : bedA C.1 g with
  | some b => exact f_bedOf_some hC hn h hg (bedA_some hb).1
  | none =>
    refine f_bedOf_none h hg (fun b e => ?_)
    obtain ⟨sl, em, ya⟩ := C
    simp only at hb e
    rcases Nat.lt_or_ge b 8 with h8 | h8
    · exact bedA_none hb b h8 e
    · have := hC.2.2.1 b (by omega)
      rw [this] at e
      cases e
theorem cdL_M {o : Option Nat} (ho : ∀ x, o = some x → x < 2147483648) : (if cdL o = -1 then (-6 : Int32) else cdL o) = cdM o := by
  cases o with
  | none => rfl
  | some x =>
    have := ho x rfl
    simp (disch := omega) only [n_lt, n_le, n_eq, n_lt0, n_ge0, n_eq0, n_gt0, n_le0, n_cl, n_add, n_sub, n_mul, n_m1, n_m6, m1_lt, m6_lt, m1_ge, m6_ge, m1_eq, m6_eq0, m1_eq0, c_leT, c_leF, c_ltT, c_ltF, c_eqF, false_or, or_false, or_self, if_true, if_false, ite_true, ite_false, Option.bind_some, not_true_eq_false, not_false_eq_true, reduceIte, cdL, cdM]
theorem bedA_lt {sl : Nat → Option Nat} {g : Nat} : ∀ x, bedA sl g = some x → x < 2147483648 := fun x hx => by
  have := (bedA_some hx).2
  omega
theorem GO_run {n kk : Nat} {w d : Nat → Nat} (hn : n ≤ 8) (m p : Nat) : AOk n (runA kk w d m p (openA n)).2 ∧ GO (runA kk w d m p (openA n)).2 := ⟨runA_ok hn m p _ (openA_ok n), runA_go hn m p _ (openA_ok n) (openA_go n)⟩
theorem barA_z {n k : Nat} {w d : Nat → Nat} {m ev : Nat} (h : barA n k w d m ev = nI 0) : (barA n k w d m ev = 0) = True ∧ (0 ≤ barA n k w d m ev) = True := by
  rw [h]
  exact ⟨eq_true rfl, eq_true (by decide)⟩
theorem ite_some {α β : Type} {p : Prop} [Decidable p] {a b : α} {c : β} : (if p then some (a, c) else some (b, c)) = some ((if p then a else b), c) := by
  by_cases h : p
  · rw [if_pos h, if_pos h]
  · rw [if_neg h, if_neg h]
theorem op_bed (tB : WbS) (tP : ParS) (tQ : GueS) (tI : InnS) {tH tY tZ : HouS} {tD : DayS} {tT : List InnS} {tM : ModS} (hI : Inv tH tY tZ tD tT tM) (x1 x2 : Int32) : ∃ (r : Int32) (wI : InnS) (wM : ModS), f_X5_bed x1 x2 tB tH tD tI = some (r, wI) ∧ f_X6_bed x1 x2 tM = some (r, wM) ∧ Inv tH tY tZ tD tT wM := by
  obtain ⟨hl, n, k, q, w, sg, sb, m, d, ⟨hn2, hn, hk, hq, hw, hsg, hsb⟩, hH, hM, hD, hDM, hm, hd⟩ := inv_use hI
  have hec := events_c hD x2 tB
  have hlt := fun ev hev hx => f_liveThrough hH hw hn hk hD tB tI (x1 := x2) (ev := ev) hev hx
  have hmb := fun ev hev => m_barOf hw hk hn hd (ev := ev) hev hm hM hDM
  have hM0 := hM
  have hD0 := hDM
  obtain ⟨H_beds, H_law, H_sights, H_isKept, H_worths, H_sightGuests, H_sightBeds⟩ := tH
  obtain ⟨len, S⟩ := tD
  obtain ⟨M_beds, M_law, M_worths, M_sights, M_sight, M_signs, M_pad, M_lies, M_empty, M_list, M_waits, M_yard, M_last, M_used, M_sheets, M_nights, M_fleasOfGuests, M_fleasOfBeds, M_reason, M_row, M_bestRow, M_image, M_isKept⟩ := tM
  obtain ⟨I_law, I_there, I_sleepers, I_empty, I_empties, I_yard, I_waiting, I_nights, I_used, I_sheets, I_lastOnes, I_guestsWithFleas, I_bedsWithFleas, I_isCounting⟩ := tI
  obtain rfl : M_signs = nI m := hDM.1
  rw [f_X5_bed, f_X6_bed]
  rcases guest_c x1 with ⟨g1, g2⟩ | ⟨g, hg, rfl, g1, g2⟩
  · rw [g1, g2]
    exact ⟨_, _, _, rfl, rfl, hI⟩
  rcases hec with ⟨g3, g4⟩ | ⟨ev, hev, hx, g3, g4⟩
  · simp only [g1, g2, g3, g4, Option.bind_some, one0, zer0, if_true, if_false]
    exact ⟨_, _, _, rfl, rfl, hI⟩
  obtain ⟨t1, l1, l2⟩ := hlt ev hev hx
  obtain ⟨t2, c1, c2, c3⟩ := hmb ev hev
  have hI2 := inv_keep hI c2
  have hM2 := mP_H c2 hM0
  simp only [g1, g2, g3, g4, Option.bind_some, one0, zer0, if_true, if_false, ev_ref (show m < 2147483648 by omega) hev hx, l1, c1]
  rcases barA_c n k w d m ev with hb | ⟨hb, hb1, hb2⟩
  · obtain ⟨hz1, hz2⟩ := barA_z hb
    obtain ⟨l3, l4⟩ := l2 hb
    obtain ⟨c4, c5⟩ := c3 hb
    obtain ⟨r1, r2⟩ := GO_run (kk := k) (w := w) (d := d) hn ev 0
    have e1 := f_bedOf r1 hn l3 hg
    have e2 := m_bedOf hM2 hn r1 c4 (g := g) (by omega)
    obtain ⟨J_law, J_there, J_sleepers, J_empty, J_empties, J_yard, J_waiting, J_nights, J_used, J_sheets, J_lastOnes, J_guestsWithFleas, J_bedsWithFleas, J_isCounting⟩ := t1
    obtain ⟨L_beds, L_law, L_worths, L_sights, L_sight, L_signs, L_pad, L_lies, L_empty, L_list, L_waits, L_yard, L_last, L_used, L_sheets, L_nights, L_fleasOfGuests, L_fleasOfBeds, L_reason, L_row, L_bestRow, L_image, L_isKept⟩ := t2
    simp only [hz1, hz2, if_true, e1, e2, Option.bind_some, ite_some, cdL_M bedA_lt]
    exact ⟨_, _, _, rfl, rfl, hI2⟩
  · obtain ⟨J_law, J_there, J_sleepers, J_empty, J_empties, J_yard, J_waiting, J_nights, J_used, J_sheets, J_lastOnes, J_guestsWithFleas, J_bedsWithFleas, J_isCounting⟩ := t1
    obtain ⟨L_beds, L_law, L_worths, L_sights, L_sight, L_signs, L_pad, L_lies, L_empty, L_list, L_waits, L_yard, L_last, L_used, L_sheets, L_nights, L_fleasOfGuests, L_fleasOfBeds, L_reason, L_row, L_bestRow, L_image, L_isKept⟩ := t2
    simp only [hb1, hb2, if_false]
    exact ⟨_, _, _, rfl, rfl, hI2⟩
theorem sl_cd {n k b : Nat} {C : AIn} (hG : GO C) : (if cdO (C.1 b) = -1 then (-6 : Int32) else cdO (C.1 b)) = cdM (C.1 b) := by
  obtain ⟨sl, em, ya⟩ := C
  simp only
  cases h : sl b with
  | none => rfl
  | some x =>
    have h8 := hG x (Or.inl ⟨b, h⟩)
    have e : cdO (some x) = nI x := by
      simp only [cdO]
      rw [Nat.min_eq_left (by omega)]
    rw [e, if_neg (by rw [n_m1 (by omega)]; exact id)]
    rfl
theorem op_who (tB : WbS) (tP : ParS) (tQ : GueS) (tI : InnS) {tH tY tZ : HouS} {tD : DayS} {tT : List InnS} {tM : ModS} (hI : Inv tH tY tZ tD tT tM) (x1 x2 : Int32) : ∃ (r : Int32) (wI : InnS) (wM : ModS), f_X5_who x1 x2 tB tH tD tI = some (r, wI) ∧ f_X6_who x1 x2 tM = some (r, wM) ∧ Inv tH tY tZ tD tT wM := by
  obtain ⟨hl, n, k, q, w, sg, sb, m, d, ⟨hn2, hn, hk, hq, hw, hsg, hsb⟩, hH, hM, hD, hDM, hm, hd⟩ := inv_use hI
  have hec := events_c hD x2 tB
  have hbc := bed_c hH hM hn hn2 x1 tB
  have hlt := fun ev hev hx => f_liveThrough hH hw hn hk hD tB tI (x1 := x2) (ev := ev) hev hx
  have hmb := fun ev hev => m_barOf hw hk hn hd (ev := ev) hev hm hM hDM
  obtain ⟨H_beds, H_law, H_sights, H_isKept, H_worths, H_sightGuests, H_sightBeds⟩ := tH
  obtain ⟨len, S⟩ := tD
  obtain ⟨M_beds, M_law, M_worths, M_sights, M_sight, M_signs, M_pad, M_lies, M_empty, M_list, M_waits, M_yard, M_last, M_used, M_sheets, M_nights, M_fleasOfGuests, M_fleasOfBeds, M_reason, M_row, M_bestRow, M_image, M_isKept⟩ := tM
  obtain ⟨I_law, I_there, I_sleepers, I_empty, I_empties, I_yard, I_waiting, I_nights, I_used, I_sheets, I_lastOnes, I_guestsWithFleas, I_bedsWithFleas, I_isCounting⟩ := tI
  obtain rfl : M_signs = nI m := hDM.1
  rw [f_X5_who, f_X6_who]
  rcases hbc with ⟨g1, g2⟩ | ⟨b, hb8, rfl, g1, g2⟩
  · rw [g1, g2]
    exact ⟨_, _, _, rfl, rfl, hI⟩
  rcases hec with ⟨g3, g4⟩ | ⟨ev, hev, hx, g3, g4⟩
  · simp only [g1, g2, g3, g4, Option.bind_some, one0, zer0, if_true, if_false]
    exact ⟨_, _, _, rfl, rfl, hI⟩
  obtain ⟨t1, l1, l2⟩ := hlt ev hev hx
  obtain ⟨t2, c1, c2, c3⟩ := hmb ev hev
  have hI2 := inv_keep hI c2
  simp only [g1, g2, g3, g4, Option.bind_some, one0, zer0, if_true, if_false, ev_ref (show m < 2147483648 by omega) hev hx, l1, c1]
  rcases barA_c n k w d m ev with hb | ⟨hb, hb1, hb2⟩
  · obtain ⟨hz1, hz2⟩ := barA_z hb
    obtain ⟨l3, l4⟩ := l2 hb
    obtain ⟨c4, c5⟩ := c3 hb
    obtain ⟨r1, r2⟩ := GO_run (kk := k) (w := w) (d := d) hn ev 0
    obtain ⟨J_law, J_there, J_sleepers, J_empty, J_empties, J_yard, J_waiting, J_nights, J_used, J_sheets, J_lastOnes, J_guestsWithFleas, J_bedsWithFleas, J_isCounting⟩ := t1
    obtain ⟨L_beds, L_law, L_worths, L_sights, L_sight, L_signs, L_pad, L_lies, L_empty, L_list, L_waits, L_yard, L_last, L_used, L_sheets, L_nights, L_fleasOfGuests, L_fleasOfBeds, L_reason, L_row, L_bestRow, L_image, L_isKept⟩ := t2
    have e1 := l3.2.2.1 b (by omega)
    have e2 := c4.1 b (by omega)
    have e3 := sl_cd (n := n) (k := k) (b := b) r2
    simp (disch := omega) only [hz1, hz2, if_true, f_sleeperOf, Option.bind_some, ite_some, n_lt0, n_cl, false_or, c_leF, if_false, e1, e2, e3]
    exact ⟨_, _, _, rfl, rfl, hI2⟩
  · obtain ⟨J_law, J_there, J_sleepers, J_empty, J_empties, J_yard, J_waiting, J_nights, J_used, J_sheets, J_lastOnes, J_guestsWithFleas, J_bedsWithFleas, J_isCounting⟩ := t1
    obtain ⟨L_beds, L_law, L_worths, L_sights, L_sight, L_signs, L_pad, L_lies, L_empty, L_list, L_waits, L_yard, L_last, L_used, L_sheets, L_nights, L_fleasOfGuests, L_fleasOfBeds, L_reason, L_row, L_bestRow, L_image, L_isKept⟩ := t2
    simp only [hb1, hb2, if_false]
    exact ⟨_, _, _, rfl, rfl, hI2⟩
theorem empty_c {len : Nat} (hlen : len ≤ 8) {E L : Nat → Int32} {em : List Nat} (he : em.length = len) (hE : ∀ i, i < em.length → E i = nI (em.getD i 0)) (hL : ∀ i, i < em.length → L i = nI (em.getD i 0)) (x : Int32) {I_law I_there I_empties I_waiting I_guestsWithFleas I_bedsWithFleas I_isCounting : Int32} {I_sleepers I_empty I_yard I_nights I_used I_sheets I_lastOnes : Nat → Int32} (h1 : I_empties = nI len) (h2 : I_empty = E) {γ : Type} (T : γ) : ∃ r, f_X3_emptyBed x (I_law, I_there, I_sleepers, I_empty, I_empties, I_yard, I_waiting, I_nights, I_used, I_sheets, I_lastOnes, I_guestsWithFleas, I_bedsWithFleas, I_isCounting) = some r ∧ (Option.bind (f_X6_in x (nI 0) (nI len - nI 1)) (fun r_60 => (if r_60 = 0 then some ((-6 : Int32), T) else (if ((nI len - (nI 1)) - x) < 0 ∨ 8 ≤ ((nI len - (nI 1)) - x).toNatClampNeg then none else some ((L ((nI len - (nI 1)) - x).toNatClampNeg), T))))) = some (r, T) := by
  subst h1 h2
  rw [f_X3_emptyBed]
  by_cases hx0 : x < 0
  · refine ⟨-6, by rw [if_pos hx0], ?_⟩
    rw [f_X6_in, if_pos (show x < nI 0 from hx0)]
    rfl
  rw [if_neg hx0]
  rcases pk_ix x (n := len) (by omega) with h | h | ⟨j, hj, rfl⟩
  · exact absurd h hx0
  · refine ⟨-6, by rw [if_pos h], ?_⟩
    rw [f_X6_in, if_neg (show ¬ x < nI 0 from hx0)]
    have h3 : nI len - nI 1 < x := by
      rcases Nat.eq_zero_or_pos len with h0 | h0
      · subst h0
        refine Int32.lt_of_lt_of_le ?_ h
        decide
      · rw [n_sub (by omega)]
        refine Int32.lt_of_lt_of_le ?_ h
        rw [n_lt (by omega) (by omega)]
        omega
    rw [if_pos h3]
    rfl
  · have e1 : nI len - nI 1 = nI (len - 1) := n_sub (by omega)
    refine ⟨nI (em.getD (len - 1 - j) 0), ?_, ?_⟩
    · simp (disch := omega) only [n_lt, n_le, n_eq, n_lt0, n_ge0, n_eq0, n_gt0, n_le0, n_cl, n_add, n_sub, n_mul, n_m1, n_m6, m1_lt, m6_lt, m1_ge, m6_ge, m1_eq, m6_eq0, m1_eq0, c_leT, c_leF, c_ltT, c_ltF, c_eqF, false_or, or_false, or_self, if_true, if_false, ite_true, ite_false, Option.bind_some, not_true_eq_false, not_false_eq_true, reduceIte, hE (len - 1 - j) (by omega)]
    · rw [e1, m_in (by omega) (by omega) (by omega), if_pos (by omega)]
      simp (disch := omega) only [n_lt, n_le, n_eq, n_lt0, n_ge0, n_eq0, n_gt0, n_le0, n_cl, n_add, n_sub, n_mul, n_m1, n_m6, m1_lt, m6_lt, m1_ge, m6_ge, m1_eq, m6_eq0, m1_eq0, c_leT, c_leF, c_ltT, c_ltF, c_eqF, false_or, or_false, or_self, if_true, if_false, ite_true, ite_false, Option.bind_some, not_true_eq_false, not_false_eq_true, reduceIte, one0, hL (len - 1 - j) (by omega)]
theorem op_left (tB : WbS) (tP : ParS) (tQ : GueS) (tI : InnS) {tH tY tZ : HouS} {tD : DayS} {tT : List InnS} {tM : ModS} (hI : Inv tH tY tZ tD tT tM) (x1 x2 : Int32) : ∃ (r : Int32) (wI : InnS) (wM : ModS), f_X5_left x1 x2 tB tH tD tI = some (r, wI) ∧ f_X6_left x1 x2 tM = some (r, wM) ∧ Inv tH tY tZ tD tT wM := by
  obtain ⟨hl, n, k, q, w, sg, sb, m, d, ⟨hn2, hn, hk, hq, hw, hsg, hsb⟩, hH, hM, hD, hDM, hm, hd⟩ := inv_use hI
  have hec := events_c hD x1 tB
  have hlt := fun ev hev hx => f_liveThrough hH hw hn hk hD tB tI (x1 := x1) (ev := ev) hev hx
  have hmb := fun ev hev => m_barOf hw hk hn hd (ev := ev) hev hm hM hDM
  obtain ⟨H_beds, H_law, H_sights, H_isKept, H_worths, H_sightGuests, H_sightBeds⟩ := tH
  obtain ⟨len, S⟩ := tD
  obtain ⟨M_beds, M_law, M_worths, M_sights, M_sight, M_signs, M_pad, M_lies, M_empty, M_list, M_waits, M_yard, M_last, M_used, M_sheets, M_nights, M_fleasOfGuests, M_fleasOfBeds, M_reason, M_row, M_bestRow, M_image, M_isKept⟩ := tM
  obtain ⟨I_law, I_there, I_sleepers, I_empty, I_empties, I_yard, I_waiting, I_nights, I_used, I_sheets, I_lastOnes, I_guestsWithFleas, I_bedsWithFleas, I_isCounting⟩ := tI
  obtain rfl : M_signs = nI m := hDM.1
  rw [f_X5_left, f_X6_left]
  rcases hec with ⟨g3, g4⟩ | ⟨ev, hev, hx, g3, g4⟩
  · simp only [g3, g4, Option.bind_some, one0, zer0, if_true, if_false]
    exact ⟨_, _, _, rfl, rfl, hI⟩
  obtain ⟨t1, l1, l2⟩ := hlt ev hev hx
  obtain ⟨t2, c1, c2, c3⟩ := hmb ev hev
  have hI2 := inv_keep hI c2
  simp only [g3, g4, Option.bind_some, one0, zer0, if_true, if_false, ev_ref (show m < 2147483648 by omega) hev hx, l1, c1]
  rcases barA_c n k w d m ev with hb | ⟨hb, hb1, hb2⟩
  · obtain ⟨hz1, hz2⟩ := barA_z hb
    obtain ⟨l3, l4⟩ := l2 hb
    obtain ⟨c4, c5⟩ := c3 hb
    obtain ⟨r1, r2⟩ := GO_run (kk := k) (w := w) (d := d) hn ev 0
    have hel := em_le r1
    generalize (runA k w d ev 0 (openA n)).2 = C at *
    obtain ⟨J_law, J_there, J_sleepers, J_empty, J_empties, J_yard, J_waiting, J_nights, J_used, J_sheets, J_lastOnes, J_guestsWithFleas, J_bedsWithFleas, J_isCounting⟩ := t1
    obtain ⟨L_beds, L_law, L_worths, L_sights, L_sight, L_signs, L_pad, L_lies, L_empty, L_list, L_waits, L_yard, L_last, L_used, L_sheets, L_nights, L_fleasOfGuests, L_fleasOfBeds, L_reason, L_row, L_bestRow, L_image, L_isKept⟩ := t2
    obtain ⟨sl, em, ya⟩ := C
    obtain ⟨p1, p2, p3, p4, p5, p6, p7⟩ := l3
    obtain ⟨q1, q2, q3, q4, q5⟩ := c4
    simp only at p4 p5 p6 q2 q3 q4 hel
    simp only [hz1, hz2, if_true]
    by_cases hx2 : x2 = -1
    · rw [if_pos hx2, if_pos hx2, p6, q4]
      exact ⟨_, _, _, rfl, rfl, by rw [← q4]; exact hI2⟩
    · rw [if_neg hx2, if_neg hx2]
      obtain ⟨r, e1, e2⟩ := empty_c (len := em.length) (by omega) rfl p5 q3 x2 (I_law := J_law) (I_there := J_there) (I_sleepers := J_sleepers) (I_empty := J_empty) (I_empties := J_empties) (I_yard := J_yard) (I_waiting := J_waiting) (I_nights := J_nights) (I_used := J_used) (I_sheets := J_sheets) (I_lastOnes := J_lastOnes) (I_guestsWithFleas := J_guestsWithFleas) (I_bedsWithFleas := J_bedsWithFleas) (I_isCounting := J_isCounting) p4 rfl (L_beds, L_law, L_worths, L_sights, L_sight, L_signs, L_pad, L_lies, L_empty, L_list, L_waits, L_yard, L_last, L_used, L_sheets, L_nights, L_fleasOfGuests, L_fleasOfBeds, L_reason, L_row, L_bestRow, L_image, L_isKept)
      rw [← q2] at e2
      rw [e1, e2]
      exact ⟨r, _, _, rfl, rfl, hI2⟩
  · obtain ⟨J_law, J_there, J_sleepers, J_empty, J_empties, J_yard, J_waiting, J_nights, J_used, J_sheets, J_lastOnes, J_guestsWithFleas, J_bedsWithFleas, J_isCounting⟩ := t1
    obtain ⟨L_beds, L_law, L_worths, L_sights, L_sight, L_signs, L_pad, L_lies, L_empty, L_list, L_waits, L_yard, L_last, L_used, L_sheets, L_nights, L_fleasOfGuests, L_fleasOfBeds, L_reason, L_row, L_bestRow, L_image, L_isKept⟩ := t2
    simp only [hb1, hb2, if_false]
    exact ⟨_, _, _, rfl, rfl, hI2⟩
theorem op_slept (tB : WbS) (tP : ParS) (tQ : GueS) (tI : InnS) {tH tY tZ : HouS} {tD : DayS} {tT : List InnS} {tM : ModS} (hI : Inv tH tY tZ tD tT tM) (x1 x2 : Int32) : ∃ (r : Int32) (wI : InnS) (wM : ModS), f_X5_slept x1 x2 tB tH tD tI = some (r, wI) ∧ f_X6_slept x1 x2 tM = some (r, wM) ∧ Inv tH tY tZ tD tT wM := by
  obtain ⟨hl, n, k, q, w, sg, sb, m, d, ⟨hn2, hn, hk, hq, hw, hsg, hsb⟩, hH, hM, hD, hDM, hm, hd⟩ := inv_use hI
  have hbc := bed_c hH hM hn hn2 x1 tB
  obtain ⟨t1, l1, l2⟩ := f_liveThrough hH hw hn hk hD tB tI (x1 := -1) (ev := m) (by omega) (Or.inr ⟨rfl, rfl⟩)
  obtain ⟨t2, c1, c2, c3⟩ := m_barOf hw hk hn hd (ev := m) (by omega) hm hM hDM
  have hI2 := inv_keep hI c2
  obtain ⟨H_beds, H_law, H_sights, H_isKept, H_worths, H_sightGuests, H_sightBeds⟩ := tH
  obtain ⟨len, S⟩ := tD
  obtain ⟨M_beds, M_law, M_worths, M_sights, M_sight, M_signs, M_pad, M_lies, M_empty, M_list, M_waits, M_yard, M_last, M_used, M_sheets, M_nights, M_fleasOfGuests, M_fleasOfBeds, M_reason, M_row, M_bestRow, M_image, M_isKept⟩ := tM
  obtain ⟨I_law, I_there, I_sleepers, I_empty, I_empties, I_yard, I_waiting, I_nights, I_used, I_sheets, I_lastOnes, I_guestsWithFleas, I_bedsWithFleas, I_isCounting⟩ := tI
  obtain rfl : M_signs = nI m := hDM.1
  rw [f_X5_slept, f_X6_slept]
  rcases hbc with ⟨g1, g2⟩ | ⟨b, hb8, rfl, g1, g2⟩
  · rw [g1, g2]
    exact ⟨_, _, _, rfl, rfl, hI⟩
  simp only [g1, g2, Option.bind_some, one0, if_false]
  rcases in_c x2 (a := 0) (b := 2) (by omega) (by omega) with ⟨h1, h2⟩ | ⟨j, h1, h2, rfl, h3⟩
  · rw [h1]
    refine ⟨-2, ?_⟩
    apply Exists.intro
    apply Exists.intro
    apply And.intro
    · rcases h2 with h2 | h2
      · rw [if_pos (show x2 < 0 from h2)]
      · rw [if_neg (gt_nle h2)]
        split <;> rfl
    · exact ⟨rfl, hI⟩
  simp (disch := omega) only [h3, Option.bind_some, one0, if_false, n_lt0, n_le, c_leT, if_true, l1, c1]
  rcases barA_c n k w d m m with hb | ⟨hb, hb1, hb2⟩
  · obtain ⟨hz1, hz2⟩ := barA_z hb
    obtain ⟨l3, l4⟩ := l2 hb
    obtain ⟨c4, c5⟩ := c3 hb
    have c6 := c5 0 0
    have hK0 : K0 = K0f 0 0 := rfl
    rw [hK0] at l4
    generalize runK k w d m 0 (openA n) (K0f 0 0) = K at *
    obtain ⟨J_law, J_there, J_sleepers, J_empty, J_empties, J_yard, J_waiting, J_nights, J_used, J_sheets, J_lastOnes, J_guestsWithFleas, J_bedsWithFleas, J_isCounting⟩ := t1
    obtain ⟨L_beds, L_law, L_worths, L_sights, L_sight, L_signs, L_pad, L_lies, L_empty, L_list, L_waits, L_yard, L_last, L_used, L_sheets, L_nights, L_fleasOfGuests, L_fleasOfBeds, L_reason, L_row, L_bestRow, L_image, L_isKept⟩ := t2
    obtain ⟨ni, us, sh, la, gf, bf⟩ := K
    obtain ⟨p1, p2, p3, p4⟩ := l4
    obtain ⟨q1, q2, q3, q4⟩ := c6
    simp only [hz1, hz2, if_true, f_X3_countOf]
    rcases (show j = 0 ∨ j = 1 ∨ j = 2 by omega) with rfl | rfl | rfl
    · simp (disch := omega) only [n_lt, n_le, n_eq, n_lt0, n_ge0, n_eq0, n_gt0, n_le0, n_cl, n_add, n_sub, n_mul, n_m1, n_m6, m1_lt, m6_lt, m1_ge, m6_ge, m1_eq, m6_eq0, m1_eq0, c_leT, c_leF, c_ltT, c_ltF, c_eqF, false_or, or_false, or_self, if_true, if_false, ite_true, ite_false, Option.bind_some, not_true_eq_false, not_false_eq_true, reduceIte, zer0, one0, p1 b (by omega), q1 b (by omega)]
      exact ⟨_, _, _, rfl, rfl, hI2⟩
    · simp (disch := omega) only [n_lt, n_le, n_eq, n_lt0, n_ge0, n_eq0, n_gt0, n_le0, n_cl, n_add, n_sub, n_mul, n_m1, n_m6, m1_lt, m6_lt, m1_ge, m6_ge, m1_eq, m6_eq0, m1_eq0, c_leT, c_leF, c_ltT, c_ltF, c_eqF, false_or, or_false, or_self, if_true, if_false, ite_true, ite_false, Option.bind_some, not_true_eq_false, not_false_eq_true, reduceIte, zer0, one0, p2 b (by omega), q2 b (by omega)]
      exact ⟨_, _, _, rfl, rfl, hI2⟩
    · simp (disch := omega) only [n_lt, n_le, n_eq, n_lt0, n_ge0, n_eq0, n_gt0, n_le0, n_cl, n_add, n_sub, n_mul, n_m1, n_m6, m1_lt, m6_lt, m1_ge, m6_ge, m1_eq, m6_eq0, m1_eq0, c_leT, c_leF, c_ltT, c_ltF, c_eqF, false_or, or_false, or_self, if_true, if_false, ite_true, ite_false, Option.bind_some, not_true_eq_false, not_false_eq_true, reduceIte, zer0, one0, p3 b (by omega), q3 b (by omega)]
      exact ⟨_, _, _, rfl, rfl, hI2⟩
  · obtain ⟨J_law, J_there, J_sleepers, J_empty, J_empties, J_yard, J_waiting, J_nights, J_used, J_sheets, J_lastOnes, J_guestsWithFleas, J_bedsWithFleas, J_isCounting⟩ := t1
    obtain ⟨L_beds, L_law, L_worths, L_sights, L_sight, L_signs, L_pad, L_lies, L_empty, L_list, L_waits, L_yard, L_last, L_used, L_sheets, L_nights, L_fleasOfGuests, L_fleasOfBeds, L_reason, L_row, L_bestRow, L_image, L_isKept⟩ := t2
    simp only [hb1, hb2, if_false]
    exact ⟨_, _, _, rfl, rfl, hI2⟩
theorem whyR_congr {d e : Nat → Nat} {ev : Nat} (h : ∀ i, i < ev → e i = d i) {r : Option Nat × AIn} (hr : ∀ p, r.1 = some p → p < ev) : whyR e r = whyR d r := by
  obtain ⟨o, C⟩ := r
  cases o with
  | none => rfl
  | some p =>
    simp only [whyR]
    rw [h p (hr p rfl)]
theorem op_judge (tB : WbS) (tP : ParS) (tQ : GueS) (tI : InnS) {tH tY tZ : HouS} {tD : DayS} {tT : List InnS} {tM : ModS} (hI : Inv tH tY tZ tD tT tM) (x1 : Int32) : ∃ (r : Int32) (wI : InnS) (wM : ModS), f_X5_judge x1 tB tH tD tI = some (r, wI) ∧ f_X6_judge x1 tM = some (r, wM) ∧ Inv tH tY tZ tD tT wM := by
  obtain ⟨hl, n, k, q, w, sg, sb, m, d, ⟨hn2, hn, hk, hq, hw, hsg, hsb⟩, hH, hM, hD, hDM, hm, hd⟩ := inv_use hI
  have e1 := f_firstFault hD
  have e2 := f_isUntold hD (Nat.le_refl m)
  have e3 := m_faultOf hDM hm hd
  have e4 := m_opens hDM hd (ev := m) hm
  obtain ⟨t1, o1, o2, o3⟩ := f_open hH hn k tI
  obtain ⟨t2, l1, l2, l3⟩ := f_live hH hw hn hk hD (fr := 0) (to := m) (by omega) (Nat.le_refl m) (openA_ok n) o2
  simp only [Nat.sub_zero] at l1 l2 l3
  obtain ⟨r1, r2⟩ := GO_run (kk := k) (w := w) (d := d) hn m 0
  have hsi := fun p hp => f_signAt hD (p := p) hp
  have hwn := fun s hs => f_whyNot r1 hn l2 (s := s) hs
  have hfk := fun (h1 : fA d m 0 0 = none) => fA_none (d := d) m 0 h1 (by simp only [cntQ]; omega)
  have hfok := fun h1 => (hfk h1).1
  have hgo := fun (h1 : fA d m 0 0 = none) h2 => m_go hw hk hn hd (ev := m) (code := 0) (Nat.le_refl m) hm (by have := (hfk h1).2; rw [Nat.zero_add] at this; exact this) (by omega) h2 (x4 := nI 0) hM hDM
  obtain ⟨H_beds, H_law, H_sights, H_isKept, H_worths, H_sightGuests, H_sightBeds⟩ := tH
  obtain ⟨len, S⟩ := tD
  obtain ⟨M_beds, M_law, M_worths, M_sights, M_sight, M_signs, M_pad, M_lies, M_empty, M_list, M_waits, M_yard, M_last, M_used, M_sheets, M_nights, M_fleasOfGuests, M_fleasOfBeds, M_reason, M_row, M_bestRow, M_image, M_isKept⟩ := tM
  obtain ⟨I_law, I_there, I_sleepers, I_empty, I_empties, I_yard, I_waiting, I_nights, I_used, I_sheets, I_lastOnes, I_guestsWithFleas, I_bedsWithFleas, I_isCounting⟩ := tI
  obtain ⟨J_law, J_there, J_sleepers, J_empty, J_empties, J_yard, J_waiting, J_nights, J_used, J_sheets, J_lastOnes, J_guestsWithFleas, J_bedsWithFleas, J_isCounting⟩ := t1
  obtain ⟨a1, a2, a3, a4, a5, a6, a7, a8, a9, a10, a11, a12, a13, a14⟩ := t2
  obtain rfl : H_law = nI k := hH.2.1
  obtain rfl : len = nI m := hD.1
  obtain rfl : M_signs = nI m := hDM.1
  rw [f_X5_judge, f_X6_judge]
  rcases either_c x1 with ⟨h1, h2⟩ | ⟨j, hj, rfl, h1, h2⟩
  · rw [h1, h2]
    exact ⟨_, _, _, rfl, rfl, hI⟩
  simp only [h1, h2, Option.bind_some, one0, if_false, e1, e3, fa_m6 hm, fa_lt0 hm]
  by_cases hf : fA d m 0 0 = none
  · simp only [if_pos hf, e2, e4, Option.bind_some]
    by_cases hc : cntQ d m = 0
    · obtain ⟨t', g1, g2, g3, g4, g5⟩ := hgo hf (fun i hi => hfok hf i (by omega) (by omega))
      have hcg : ∀ i, 0 ≤ i → i < 0 + m → effE d (cntQ d m) 0 i = d i := fun i _ hi => effE_eq hc (by omega)
      rw [runA_congr m 0 _ hcg] at g1 g3 g4
      rw [whyR_congr (ev := m) (fun i hi => hcg i (by omega) (by omega)) (fun p hp => by have := runA_lt m 0 _ p hp; omega)] at g3
      have hI2 := inv_keep hI g2
      obtain ⟨L_beds, L_law, L_worths, L_sights, L_sight, L_signs, L_pad, L_lies, L_empty, L_list, L_waits, L_yard, L_last, L_used, L_sheets, L_nights, L_fleasOfGuests, L_fleasOfBeds, L_reason, L_row, L_bestRow, L_image, L_isKept⟩ := t'
      simp only [if_pos hc, zer0, if_true, o1, Option.bind_some, l1, ru_m6 (show 0 + m ≤ 48 by omega)]
      rw [hc, if_pos (show nI 0 ≤ 0 by decide), g1]
      simp only [Option.bind_some, ru_lt0 (show 0 + m ≤ 48 by omega)]
      cases hr : (runA k w d m 0 (openA n)).1 with
      | none =>
        simp only [if_true, cdP]
        exact ⟨_, _, _, rfl, rfl, hI2⟩
      | some p =>
        have hp := runA_lt m 0 (openA n) p hr
        have hne : ((some p : Option Nat) = none) = False := eq_false (fun h => by cases h)
        simp only [hne, if_false, cdP]
        rcases (show j = 0 ∨ j = 1 by omega) with rfl | rfl
        · simp only [zer0, if_true]
          exact ⟨_, _, _, rfl, rfl, hI2⟩
        · simp only [one0, if_false, hsi p (by omega), Option.bind_some, hwn (d p) (hd p (by omega))]
          have e5 : L_reason = nI (whyA (d p) (runA k w d m 0 (openA n)).2) := by
            have e6 : L_reason = nI (whyR d (runA k w d m 0 (openA n))) := g3
            rw [e6]
            generalize runA k w d m 0 (openA n) = R at hr
            obtain ⟨o, C⟩ := R
            simp only at hr
            subst hr
            rfl
          exact ⟨_, _, _, rfl, by rw [← e5], hI2⟩
    · have hcl := cntQ_le d m
      simp only [if_neg hc, one0, if_false]
      rw [if_neg (by rw [n_le0 (by omega)]; exact hc)]
      exact ⟨_, _, _, rfl, rfl, hI⟩
  · simp only [if_neg hf]
    exact ⟨_, _, _, rfl, rfl, hI⟩
