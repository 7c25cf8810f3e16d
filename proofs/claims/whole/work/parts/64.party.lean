/-! party -/
def gPa (n : Nat) (x2 : Int32) (fuel : Nat) (x6 x7 : Int32) : ModS → Option (Int32 × ModS)
  | (M_beds, M_law, M_worths, M_sights, M_sight, M_signs, M_pad, M_lies, M_empty, M_list, M_waits, M_yard, M_last, M_used, M_sheets, M_nights, M_fleasOfGuests, M_fleasOfBeds, M_reason, M_row, M_bestRow, M_image, M_isKept) => f_X6_party_L125 (nI n) fuel x6 x7 M_beds M_law M_worths M_sights M_sight M_signs M_pad M_lies M_empty M_list M_waits M_yard M_last M_used M_sheets M_nights M_fleasOfGuests M_fleasOfBeds M_reason M_row M_bestRow M_image M_isKept (fun x6_L125 x7_L125 M_beds M_law M_worths M_sights M_sight M_signs M_pad M_lies M_empty M_list M_waits M_yard M_last M_used M_sheets M_nights M_fleasOfGuests M_fleasOfBeds M_reason M_row M_bestRow M_image M_isKept => (if x2 = (-1 : Int32) then some (x6_L125, (M_beds, M_law, M_worths, M_sights, M_sight, M_signs, M_pad, M_lies, M_empty, M_list, M_waits, M_yard, M_last, M_used, M_sheets, M_nights, M_fleasOfGuests, M_fleasOfBeds, M_reason, M_row, M_bestRow, M_image, M_isKept)) else (Option.bind (f_X6_in x2 (nI 0) (nI n - (nI 1))) (fun r_325 => (if r_325 = 0 then some ((-6 : Int32), (M_beds, M_law, M_worths, M_sights, M_sight, M_signs, M_pad, M_lies, M_empty, M_list, M_waits, M_yard, M_last, M_used, M_sheets, M_nights, M_fleasOfGuests, M_fleasOfBeds, M_reason, M_row, M_bestRow, M_image, M_isKept)) else (if x2 < 0 ∨ 8 ≤ x2.toNatClampNeg then none else some ((M_bestRow x2.toNatClampNeg), (M_beds, M_law, M_worths, M_sights, M_sight, M_signs, M_pad, M_lies, M_empty, M_list, M_waits, M_yard, M_last, M_used, M_sheets, M_nights, M_fleasOfGuests, M_fleasOfBeds, M_reason, M_row, M_bestRow, M_image, M_isKept))))))))
theorem gPa_def (n : Nat) (x2 : Int32) (fuel : Nat) (x6 x7 : Int32) {M_beds M_law M_sights M_signs M_empty M_waits M_fleasOfGuests M_fleasOfBeds M_reason : Int32} {M_worths M_sight M_pad M_lies M_list M_yard M_last M_used M_sheets M_nights M_row M_bestRow M_image M_isKept : Nat → Int32} : gPa n x2 fuel x6 x7 (M_beds, M_law, M_worths, M_sights, M_sight, M_signs, M_pad, M_lies, M_empty, M_list, M_waits, M_yard, M_last, M_used, M_sheets, M_nights, M_fleasOfGuests, M_fleasOfBeds, M_reason, M_row, M_bestRow, M_image, M_isKept) = f_X6_party_L125 (nI n) fuel x6 x7 M_beds M_law M_worths M_sights M_sight M_signs M_pad M_lies M_empty M_list M_waits M_yard M_last M_used M_sheets M_nights M_fleasOfGuests M_fleasOfBeds M_reason M_row M_bestRow M_image M_isKept (fun x6_L125 x7_L125 M_beds M_law M_worths M_sights M_sight M_signs M_pad M_lies M_empty M_list M_waits M_yard M_last M_used M_sheets M_nights M_fleasOfGuests M_fleasOfBeds M_reason M_row M_bestRow M_image M_isKept => (if x2 = (-1 : Int32) then some (x6_L125, (M_beds, M_law, M_worths, M_sights, M_sight, M_signs, M_pad, M_lies, M_empty, M_list, M_waits, M_yard, M_last, M_used, M_sheets, M_nights, M_fleasOfGuests, M_fleasOfBeds, M_reason, M_row, M_bestRow, M_image, M_isKept)) else (Option.bind (f_X6_in x2 (nI 0) (nI n - (nI 1))) (fun r_325 => (if r_325 = 0 then some ((-6 : Int32), (M_beds, M_law, M_worths, M_sights, M_sight, M_signs, M_pad, M_lies, M_empty, M_list, M_waits, M_yard, M_last, M_used, M_sheets, M_nights, M_fleasOfGuests, M_fleasOfBeds, M_reason, M_row, M_bestRow, M_image, M_isKept)) else (if x2 < 0 ∨ 8 ≤ x2.toNatClampNeg then none else some ((M_bestRow x2.toNatClampNeg), (M_beds, M_law, M_worths, M_sights, M_sight, M_signs, M_pad, M_lies, M_empty, M_list, M_waits, M_yard, M_last, M_used, M_sheets, M_nights, M_fleasOfGuests, M_fleasOfBeds, M_reason, M_row, M_bestRow, M_image, M_isKept)))))))) := rfl
/-- what of all orders is kept, in the reference -/
def PaR (n : Nat) (o : Option (Nat × List Nat)) (most : Int32) (B : Nat → Int32) : Prop := match o with
  | none => most = -6
  | some (v, l) => v < 10000 ∧ l.length = n ∧ most = nI v ∧ ∀ i, i < n → B i = nI (l.getD i 0)
theorem row_list {n : Nat} {f R : Nat → Nat} {Y : Nat → Int32} (hR : RowR n f R Y) {r : List Nat} (hr : r.length = n) (hl : ∀ i, i < n → r.getD i 0 = f (R i)) : ∀ i, i < r.length → Y i = nI (r.getD i 0) := by
  intro i hi
  rw [hR.1 i (by omega), hl i (by omega)]
theorem gJ182 {β : Type} (r : Int32 → β) : gJn r (fun kJ => if (0 : Int32) ≤ -6 then kJ (-6) else kJ (nI 0)) = r (nI 0) := by
  unfold gJn
  dsimp only
  rw [if_neg (show ¬ (0 : Int32) ≤ -6 by decide)]
set_option maxHeartbeats 1000000 in
theorem gPa_step {n k q : Nat} {w sg sb : Nat → Nat} (hw : ∀ j, w j ≤ 99) (hk : k < 4) (hn : n ≤ 8) {m : Nat} {d : Nat → Nat} (hd : ∀ j, j < 48 → d j < 127) (hm : m ≤ 48) (hf : fA d m 0 0 = none) (hc : cntQ d m = 0) (hr0 : (runA k w d m 0 (openA n)).1 = none) {N : Nat} {f R : Nat → Nat} (hN : N ≤ 6) (hN1 : 1 ≤ N) (hfm : Mono N f) {x2 most : Int32} {fuel : Nat} {o : Option (Nat × List Nat)} {t : ModS} (hM : ModHR t (n, k, q, w, sg, sb)) (hD : ModDR t m d) (hR : RowR N f R (mRow t)) {r : List Nat} (hr : r.length = N) (hl : ∀ i, i < N → r.getD i 0 = f (R i)) (hnd : r.Nodup) (hno : ∀ g, g ∈ r → g < 8 ∧ ¬ presA (runA k w d m 0 (openA n)).2 g) (hP : PaR N o most (mBst t)) :
    ∃ most' t', PaR N (bestF o (sumW k w (runA k w d m 0 (openA n)).2 r, r)) most' (mBst t') ∧ mQ t' = mQ t ∧ ((nextF N R = none ∧ gPa N x2 (fuel + 1) most (nI 1) t = gPa N x2 fuel most' (nI 0) t') ∨ ∃ R', nextF N R = some R' ∧ gPa N x2 (fuel + 1) most (nI 1) t = gPa N x2 fuel most' (nI 1) t' ∧ RowR N f R' (mRow t')) := by
  obtain ⟨t1, g1, g2, g3, g4⟩ := m_goD hw hk hn hd hm hf hc (x4 := nI 0) hM hD
  rw [hr0] at g1
  obtain ⟨a1, a2⟩ := GO_run (kk := k) (w := w) (d := d) hn m 0
  generalize (runA k w d m 0 (openA n)).2 = C at *
  obtain ⟨q1, q2, q3⟩ := mQ_of g2
  have hM1 := mP_H g2 hM
  have hrow1 : ∀ i, i < r.length → mRow t1 i = nI (r.getD i 0) := by
    rw [q3]
    exact row_list hR hr hl
  obtain ⟨F, hF⟩ : ∃ F, FU = F := ⟨_, rfl⟩
  have hF2 : 20 < F := by rw [← hF, FU_eq]; omega
  obtain ⟨M_beds, M_law, M_worths, M_sights, M_sight, M_signs, M_pad, M_lies, M_empty, M_list, M_waits, M_yard, M_last, M_used, M_sheets, M_nights, M_fleasOfGuests, M_fleasOfBeds, M_reason, M_row, M_bestRow, M_image, M_isKept⟩ := t
  obtain ⟨Q_beds, Q_law, Q_worths, Q_sights, Q_sight, Q_signs, Q_pad, Q_lies, Q_empty, Q_list, Q_waits, Q_yard, Q_last, Q_used, Q_sheets, Q_nights, Q_fleasOfGuests, Q_fleasOfBeds, Q_reason, Q_row, Q_bestRow, Q_image, Q_isKept⟩ := t1
  obtain rfl : M_signs = nI m := hD.1
  have hd0 : r.drop 0 = r := rfl
  have hsum := sumW_le (k := k) hw r C
  have hsl : sumW k w C r < 10000 := by omega
  obtain ⟨L_beds, L_law, L_worths, L_sights, L_sight, L_signs, L_pad, L_lies, L_empty, L_list, L_waits, L_yard, L_last, L_used, L_sheets, L_nights, L_fleasOfGuests, L_fleasOfBeds, L_reason, L_row, L_bestRow, L_image, L_isKept, e1, e2, e3⟩ := lp147 hw hk hn (r := r) (by omega) r.length 0 F C (by omega) (by omega) a1 hnd hno hM1 g3 hrow1
  rw [hd0] at e3
  obtain ⟨z1, z2, z3⟩ := mQ_of e2
  have hM2 := mP_H e2 hM1
  obtain ⟨c1, c2⟩ := comes_ok (k := k) (w := w) r C a1 hnd hno
  have hQr : Q_row = M_row := q3
  have hLr : L_row = Q_row := z3
  have hQb : Q_bestRow = M_bestRow := q2
  have hLb : L_bestRow = Q_bestRow := z2
  have hrow2 : ∀ i, i < r.length → L_row i = nI (r.getD i 0) := by
    rw [hLr]
    exact hrow1
  have e4 := fun kL => lp187 hn (by omega) (fun g hg => (hno g hg).1) c1 hM2 e3 hrow2 kL r.length 0 0 F (by omega) (by omega)
  rw [hd0, Nat.zero_add, sumB_eq r C a1 hnd hno] at e4
  have hRL : RowR N f R L_row := by
    rw [hLr, hQr]
    exact hR
  have hlhs : gPa N x2 (fuel + 1) most (nI 1) (M_beds, M_law, M_worths, M_sights, M_sight, nI m, M_pad, M_lies, M_empty, M_list, M_waits, M_yard, M_last, M_used, M_sheets, M_nights, M_fleasOfGuests, M_fleasOfBeds, M_reason, M_row, M_bestRow, M_image, M_isKept) = f_X6_party_L248 (nI (sumW k w C r)) most (nI r.length) L_row F (nI 0) L_bestRow (fun x10_L248 M_bestRow_L248 => gJn (fun (z0_J296 : Int32) => (Option.bind (f_X6_nextRow (nI N) (L_beds, L_law, L_worths, L_sights, L_sight, L_signs, L_pad, L_lies, L_empty, L_list, L_waits, L_yard, L_last, L_used, L_sheets, L_nights, L_fleasOfGuests, L_fleasOfBeds, L_reason, L_row, M_bestRow_L248, L_image, L_isKept)) (fun q => gPa N x2 fuel z0_J296 q.1 q.2))) (fun kJ296 => (if nI (sumW k w C r) ≤ most then kJ296 most else kJ296 (nI (sumW k w C r))))) := by
    rw [gPa_def, f_X6_party_L125, if_neg (show ¬ nI 1 = 0 by decide), g1, hF]
    simp only [Option.bind_some, cdP]
    rw [← hr, e1, gJ182, e4]
    rfl
  have hqq : ∀ B', mQ (L_beds, L_law, L_worths, L_sights, L_sight, L_signs, L_pad, L_lies, L_empty, L_list, L_waits, L_yard, L_last, L_used, L_sheets, L_nights, L_fleasOfGuests, L_fleasOfBeds, L_reason, L_row, B', L_image, L_isKept) = mQ (M_beds, M_law, M_worths, M_sights, M_sight, nI m, M_pad, M_lies, M_empty, M_list, M_waits, M_yard, M_last, M_used, M_sheets, M_nights, M_fleasOfGuests, M_fleasOfBeds, M_reason, M_row, M_bestRow, M_image, M_isKept) := fun B' => (show mQ (L_beds, L_law, L_worths, L_sights, L_sight, L_signs, L_pad, L_lies, L_empty, L_list, L_waits, L_yard, L_last, L_used, L_sheets, L_nights, L_fleasOfGuests, L_fleasOfBeds, L_reason, L_row, B', L_image, L_isKept) = mQ (L_beds, L_law, L_worths, L_sights, L_sight, L_signs, L_pad, L_lies, L_empty, L_list, L_waits, L_yard, L_last, L_used, L_sheets, L_nights, L_fleasOfGuests, L_fleasOfBeds, L_reason, L_row, L_bestRow, L_image, L_isKept) by simp only [mQ]).trans (z1.trans q1)
  have hfin : ∀ (B' : Nat → Int32) (most' : Int32), PaR N (bestF o (sumW k w C r, r)) most' B' → ∃ most'' t', PaR N (bestF o (sumW k w C r, r)) most'' (mBst t') ∧ mQ t' = mQ (M_beds, M_law, M_worths, M_sights, M_sight, nI m, M_pad, M_lies, M_empty, M_list, M_waits, M_yard, M_last, M_used, M_sheets, M_nights, M_fleasOfGuests, M_fleasOfBeds, M_reason, M_row, M_bestRow, M_image, M_isKept) ∧ ((nextF N R = none ∧ Option.bind (f_X6_nextRow (nI N) (L_beds, L_law, L_worths, L_sights, L_sight, L_signs, L_pad, L_lies, L_empty, L_list, L_waits, L_yard, L_last, L_used, L_sheets, L_nights, L_fleasOfGuests, L_fleasOfBeds, L_reason, L_row, B', L_image, L_isKept)) (fun q => gPa N x2 fuel most' q.1 q.2) = gPa N x2 fuel most'' (nI 0) t') ∨ ∃ R', nextF N R = some R' ∧ Option.bind (f_X6_nextRow (nI N) (L_beds, L_law, L_worths, L_sights, L_sight, L_signs, L_pad, L_lies, L_empty, L_list, L_waits, L_yard, L_last, L_used, L_sheets, L_nights, L_fleasOfGuests, L_fleasOfBeds, L_reason, L_row, B', L_image, L_isKept)) (fun q => gPa N x2 fuel most' q.1 q.2) = gPa N x2 fuel most'' (nI 1) t' ∧ RowR N f R' (mRow t')) := by
    intro B' most' hB
    rcases m_nextRow hN hN1 hfm (t := (L_beds, L_law, L_worths, L_sights, L_sight, L_signs, L_pad, L_lies, L_empty, L_list, L_waits, L_yard, L_last, L_used, L_sheets, L_nights, L_fleasOfGuests, L_fleasOfBeds, L_reason, L_row, B', L_image, L_isKept)) hRL with ⟨h1, h2⟩ | ⟨R', t', h1, h2, h3, h4, h5⟩
    · refine ⟨most', (L_beds, L_law, L_worths, L_sights, L_sight, L_signs, L_pad, L_lies, L_empty, L_list, L_waits, L_yard, L_last, L_used, L_sheets, L_nights, L_fleasOfGuests, L_fleasOfBeds, L_reason, L_row, B', L_image, L_isKept), hB, hqq B', Or.inl ⟨h1, ?_⟩⟩
      rw [h2]
      rfl
    · refine ⟨most', t', by rw [h4]; exact hB, h3.trans (hqq B'), Or.inr ⟨R', h1, ?_, h5⟩⟩
      rw [h2]
      rfl
  have hMb : mBst (M_beds, M_law, M_worths, M_sights, M_sight, nI m, M_pad, M_lies, M_empty, M_list, M_waits, M_yard, M_last, M_used, M_sheets, M_nights, M_fleasOfGuests, M_fleasOfBeds, M_reason, M_row, M_bestRow, M_image, M_isKept) = L_bestRow := by
    rw [hLb, hQb]
    rfl
  rw [hMb] at hP
  rw [hlhs]
  by_cases hle : nI (sumW k w C r) ≤ most
  · rw [hr, lp248n hN1 hN hle _ (show 0 < F by omega)]
    unfold gJn
    dsimp only
    rw [if_pos hle]
    refine hfin L_bestRow most ?_
    cases o with
    | none =>
      have h6 : most = -6 := hP
      rw [h6] at hle
      have h7 : (0 : Int32) ≤ nI (sumW k w C r) := by rw [n_ge0 (by omega)]; trivial
      exact absurd (Int32.le_trans h7 hle) (by decide)
    | some p =>
      obtain ⟨v, l⟩ := p
      obtain ⟨p1, p2, p3, p4⟩ := hP
      rw [p3, n_le (by omega) (by omega)] at hle
      simp only [bestF, if_pos hle]
      exact ⟨p1, p2, p3, p4⟩
  · obtain ⟨B', b1, b2⟩ := lp248 (by omega) hrow2 hle r.length 0 F L_bestRow (by omega) (by omega) (fun i hi => absurd hi (by omega))
    rw [b1]
    unfold gJn
    dsimp only
    rw [if_neg hle]
    refine hfin B' _ ?_
    have hset : PaR N (some (sumW k w C r, r)) (nI (sumW k w C r)) B' := ⟨hsl, hr, rfl, fun i hi => b2 i (by omega)⟩
    cases o with
    | none => exact hset
    | some p =>
      obtain ⟨v, l⟩ := p
      obtain ⟨p1, p2, p3, p4⟩ := hP
      rw [p3, n_le (by omega) (by omega)] at hle
      simp only [bestF, if_neg hle]
      exact hset
theorem map_getD {f : Nat → Nat} {a : List Nat} {i : Nat} (h : i < a.length) : (a.map f).getD i 0 = f (a.getD i 0) := by
  rw [List.getD_eq_getElem?_getD, List.getD_eq_getElem?_getD, List.getElem?_map, List.getElem?_eq_getElem h]
  rfl
theorem map_nodup {N : Nat} {f : Nat → Nat} (hf : Mono N f) {a : List Nat} (hn : a.Nodup) (hx : ∀ x, x ∈ a → x < N) : (a.map f).Nodup := by
  unfold List.Nodup
  rw [List.pairwise_map]
  refine List.Pairwise.imp_of_mem (fun {x y} h1 h2 h3 e => ?_) hn
  have e1 := (hf.1 x y (hx x h1) (hx y h2)).mp (by omega)
  have e2 := (hf.1 y x (hx y h2) (hx x h1)).mp (by omega)
  exact h3 (by omega)
theorem isNext_spec {a b : List Nat} (h : isNext a b = true) : ∃ R', nextF a.length (fun i => a.getD i 0) = some R' ∧ ∀ i, i < a.length → R' i = b.getD i 0 := by
  unfold isNext at h
  cases hn : nextF a.length (fun i => a.getD i 0) with
  | none =>
    rw [hn] at h
    cases h
  | some R' =>
    rw [hn] at h
    simp only [Bool.and_eq_true, List.all_eq_true, List.mem_range] at h
    exact ⟨R', rfl, fun i hi => Nat.eq_of_beq_eq_true (h.2 i hi)⟩
theorem isLast_spec {a : List Nat} (h : isLast a = true) : nextF a.length (fun i => a.getD i 0) = none := by
  unfold isLast at h
  cases hn : nextF a.length (fun i => a.getD i 0) with
  | none => rfl
  | some R' =>
    rw [hn] at h
    cases h
/-- the whole of a chain of orders -/
theorem gPa_loop {n k q : Nat} {w sg sb : Nat → Nat} (hw : ∀ j, w j ≤ 99) (hk : k < 4) (hn : n ≤ 8) {m : Nat} {d : Nat → Nat} (hd : ∀ j, j < 48 → d j < 127) (hm : m ≤ 48) (hf : fA d m 0 0 = none) (hc : cntQ d m = 0) (hr0 : (runA k w d m 0 (openA n)).1 = none) {N : Nat} {f : Nat → Nat} (hN : N ≤ 6) (hN1 : 1 ≤ N) (hfm : Mono N f) {x2 : Int32} (hno : ∀ i, i < N → ¬ presA (runA k w d m 0 (openA n)).2 (f i)) : ∀ (ps : List (List Nat)) (a : List Nat) (most : Int32) (fuel : Nat) (o : Option (Nat × List Nat)) (t : ModS), chainB (a :: ps) = true → (∀ l, l ∈ a :: ps → l.length = N ∧ l.Nodup ∧ ∀ x, x ∈ l → x < N) → ps.length + 1 < fuel → ModHR t (n, k, q, w, sg, sb) → ModDR t m d → RowR N f (fun i => a.getD i 0) (mRow t) → PaR N o most (mBst t) → ∃ most' t' fuel', gPa N x2 fuel most (nI 1) t = gPa N x2 (fuel' + 1) most' (nI 0) t' ∧ PaR N (((a :: ps).map (fun l => (sumW k w (runA k w d m 0 (openA n)).2 (l.map f), l.map f))).foldl bestF o) most' (mBst t') ∧ mQ t' = mQ t := by
  have hstep : ∀ (a : List Nat) (most : Int32) (fuel : Nat) (o : Option (Nat × List Nat)) (t : ModS), (a.length = N ∧ a.Nodup ∧ ∀ x, x ∈ a → x < N) → ModHR t (n, k, q, w, sg, sb) → ModDR t m d → RowR N f (fun i => a.getD i 0) (mRow t) → PaR N o most (mBst t) → ∃ most' t', PaR N (bestF o (sumW k w (runA k w d m 0 (openA n)).2 (a.map f), a.map f)) most' (mBst t') ∧ mQ t' = mQ t ∧ ((nextF N (fun i => a.getD i 0) = none ∧ gPa N x2 (fuel + 1) most (nI 1) t = gPa N x2 fuel most' (nI 0) t') ∨ ∃ R', nextF N (fun i => a.getD i 0) = some R' ∧ gPa N x2 (fuel + 1) most (nI 1) t = gPa N x2 fuel most' (nI 1) t' ∧ RowR N f R' (mRow t')) := by
    intro a most fuel o t ⟨h1, h2, h3⟩ hM hD hR hP
    exact gPa_step hw hk hn hd hm hf hc hr0 hN hN1 hfm hM hD hR (r := a.map f) (by rw [List.length_map]; exact h1) (fun i hi => map_getD (by omega)) (map_nodup hfm h2 h3) (fun g hg => by
      obtain ⟨x, hx, rfl⟩ := List.mem_map.mp hg
      exact ⟨hfm.2 x (h3 x hx), hno x (h3 x hx)⟩) hP
  intro ps
  induction ps with
  | nil =>
    intro a most fuel o t hch hall hfu hM hD hR hP
    obtain ⟨fuel, rfl⟩ : ∃ n, fuel = n + 1 + 1 := ⟨fuel - 2, by simp only [List.length_nil] at hfu; omega⟩
    have ha := hall a (by simp)
    obtain ⟨most', t', e1, e2, e3⟩ := hstep a most (fuel + 1) o t ha hM hD hR hP
    have hl : nextF a.length (fun i => a.getD i 0) = none := isLast_spec hch
    rw [ha.1] at hl
    rcases e3 with ⟨-, e4⟩ | ⟨R', e4, -⟩
    · refine ⟨most', t', fuel, e4, ?_, e2⟩
      simp only [List.map_cons, List.map_nil, List.foldl_cons, List.foldl_nil]
      exact e1
    · rw [hl] at e4
      cases e4
  | cons b ps ih =>
    intro a most fuel o t hch hall hfu hM hD hR hP
    obtain ⟨fuel, rfl⟩ : ∃ n, fuel = n + 1 := ⟨fuel - 1, by omega⟩
    have ha := hall a (by simp)
    obtain ⟨most', t', e1, e2, e3⟩ := hstep a most fuel o t ha hM hD hR hP
    have hch2 : (isNext a b && chainB (b :: ps)) = true := hch
    rw [Bool.and_eq_true] at hch2
    obtain ⟨R2, n1, n2⟩ := isNext_spec hch2.1
    rw [ha.1] at n1 n2
    rcases e3 with ⟨e4, -⟩ | ⟨R', e4, e5, e6⟩
    · rw [n1] at e4
      cases e4
    · rw [n1] at e4
      obtain rfl := Option.some.inj e4
      have hR' : RowR N f (fun i => b.getD i 0) (mRow t') := ⟨fun i hi => by rw [e6.1 i hi, n2 i hi], fun i hi => by have := e6.2 i hi; rw [n2 i hi] at this; exact this⟩
      obtain ⟨most2, t2, fuel2, g1, g2, g3⟩ := ih b most' fuel _ t' hch2.2 (fun l hl => hall l (by simp [hl])) (by simp only [List.length_cons] at hfu; omega) (mQ_H e2 hM) (mDp_D (mQ_D e2) hD) hR' e1
      refine ⟨most2, t2, fuel2, e5.trans g1, ?_, g3.trans e2⟩
      simp only [List.map_cons, List.foldl_cons] at g2 ⊢
      exact g2
/-- the guests of a set, and whether one of them is there -/
def thP (s : Nat) (C : AIn) : Nat → Nat → Bool
  | 0, _ => false
  | c + 1, j => (s.testBit j && presB C j) || thP s C c (j + 1)
theorem thP_iff {s : Nat} {C : AIn} : ∀ (c j : Nat), thP s C c j = true ↔ ∃ g, j ≤ g ∧ g < j + c ∧ s.testBit g = true ∧ presB C g = true
  | 0, j => ⟨fun h => (by cases h), fun ⟨g, h1, h2, _⟩ => (by omega)⟩
  | c + 1, j => by
    simp only [thP, Bool.or_eq_true, Bool.and_eq_true, thP_iff c (j + 1)]
    constructor
    · rintro (⟨h1, h2⟩ | ⟨g, h1, h2, h3⟩)
      · exact ⟨j, Nat.le_refl _, by omega, h1, h2⟩
      · exact ⟨g, by omega, by omega, h3⟩
    · rintro ⟨g, h1, h2, h3, h4⟩
      by_cases e : g = j
      · rw [e] at h3 h4; exact Or.inl ⟨h3, h4⟩
      · exact Or.inr ⟨g, by omega, by omega, h3, h4⟩
theorem lp38 {n k q : Nat} {w sg sb : Nat → Nat} {M_beds M_law M_sights M_signs M_empty M_waits M_fleasOfGuests M_fleasOfBeds M_reason : Int32} {M_worths M_sight M_pad M_lies M_list M_yard M_last M_used M_sheets M_nights M_row M_bestRow M_image M_isKept : Nat → Int32} (hM : ModHR (M_beds, M_law, M_worths, M_sights, M_sight, M_signs, M_pad, M_lies, M_empty, M_list, M_waits, M_yard, M_last, M_used, M_sheets, M_nights, M_fleasOfGuests, M_fleasOfBeds, M_reason, M_row, M_bestRow, M_image, M_isKept) (n, k, q, w, sg, sb)) (hn : n ≤ 8) {C : AIn} (hC : AOk n C) (ho : MoR C (M_beds, M_law, M_worths, M_sights, M_sight, M_signs, M_pad, M_lies, M_empty, M_list, M_waits, M_yard, M_last, M_used, M_sheets, M_nights, M_fleasOfGuests, M_fleasOfBeds, M_reason, M_row, M_bestRow, M_image, M_isKept)) {s : Nat} (hs : s < 256) : ∀ (c j fuel : Nat) (pre : List Nat) (b : Bool) (Y : Nat → Int32), 8 = j + c → c < fuel → pre.length + (gsFrom s c j).length ≤ 8 → (∀ i, i < pre.length → Y i = nI (pre.getD i 0)) → ∃ Y', (∀ kL : Int32 → Int32 → Int32 → (Nat → Int32) → Option (Int32 × ModS), f_X6_party_L38 (nI s) M_beds M_law M_worths M_sights M_sight M_signs M_pad M_lies M_empty M_list M_waits M_yard M_last M_used M_sheets M_nights M_fleasOfGuests M_fleasOfBeds M_reason M_bestRow M_image M_isKept fuel (nI pre.length) (nI (if b = true then 1 else 0)) (nI j) Y kL = kL (nI (pre ++ gsFrom s c j).length) (nI (if (b || thP s C c j) = true then 1 else 0)) (nI 8) Y') ∧ ∀ i, i < (pre ++ gsFrom s c j).length → Y' i = nI ((pre ++ gsFrom s c j).getD i 0) := by
  intro c
  induction c with
  | zero =>
    intro j fuel pre b Y h1 h3 hl hY
    obtain ⟨fuel, rfl⟩ : ∃ n, fuel = n + 1 := ⟨fuel - 1, by omega⟩
    have hj : j = 8 := by omega
    subst hj
    have hg : gsFrom s 0 8 = [] := rfl
    rw [hg, List.append_nil]
    refine ⟨Y, fun kL => ?_, hY⟩
    rw [f_X6_party_L38, if_pos (by rw [n_le (by omega) (by omega)]; omega)]
    simp only [thP, Bool.or_false]
  | succ c ih =>
    intro j fuel pre b Y h1 h3 hl hY
    obtain ⟨fuel, rfl⟩ : ∃ n, fuel = n + 1 := ⟨fuel - 1, by omega⟩
    have hj : j < 8 := by omega
    have hh := m_has s hs j hj
    have ht : f_X6_isThere (nI j) (M_beds, M_law, M_worths, M_sights, M_sight, M_signs, M_pad, M_lies, M_empty, M_list, M_waits, M_yard, M_last, M_used, M_sheets, M_nights, M_fleasOfGuests, M_fleasOfBeds, M_reason, Y, M_bestRow, M_image, M_isKept) = some (nI (if presB C j = true then 1 else 0)) := by
      refine m_isThere (n := n) (k := k) (q := q) (w := w) (sg := sg) (sb := sb) ?_ hn hC ?_ (g := j) (by omega)
      · obtain ⟨h1, h2, h3, h4, h5⟩ := hM
        exact ⟨h1, h2, h3, h4, h5⟩
      · obtain ⟨h1, h2, h3, h4, h5⟩ := ho
        exact ⟨h1, h2, h3, h4, h5⟩
    have hgs : gsFrom s (c + 1) j = bif s.testBit j then j :: gsFrom s c (j + 1) else gsFrom s c (j + 1) := rfl
    have hth : thP s C (c + 1) j = ((s.testBit j && presB C j) || thP s C c (j + 1)) := rfl
    rw [hgs, hth]
    rw [hgs] at hl
    cases hb : s.testBit j with
    | false =>
      rw [hb] at hh hl
      obtain ⟨Y', e1, e2⟩ := ih (j + 1) fuel pre b Y (by omega) (by omega) hl hY
      refine ⟨Y', fun kL => ?_, e2⟩
      rw [f_X6_party_L38, if_neg (by rw [n_le (by omega) (by omega)]; omega), hh]
      simp only [Option.bind_some, Bool.false_eq_true, if_false, zer0, if_true, n_add, Bool.false_and, Bool.false_or, cond_false]
      exact e1 kL
    | true =>
      rw [hb] at hh hl
      simp only [cond_true, List.length_cons] at hl
      have hpre : (pre ++ [j]).length = pre.length + 1 := by simp
      obtain ⟨Y', e1, e2⟩ := ih (j + 1) fuel (pre ++ [j]) (b || presB C j) (upd Y pre.length (nI j)) (by omega) (by omega) (by rw [hpre]; omega) (fun i hi => by
        rw [hpre] at hi
        simp only [upd]
        by_cases e : i = pre.length
        · rw [if_pos e, e, List.getD_eq_getElem?_getD, List.getElem?_append_right (by omega)]
          simp
        · rw [if_neg e, hY i (by omega), List.getD_eq_getElem?_getD, List.getD_eq_getElem?_getD, List.getElem?_append_left (by omega)])
      have hap : pre ++ (j :: gsFrom s c (j + 1)) = (pre ++ [j]) ++ gsFrom s c (j + 1) := by simp
      simp only [cond_true]
      rw [hap]
      refine ⟨Y', fun kL => ?_, e2⟩
      rw [f_X6_party_L38, if_neg (by rw [n_le (by omega) (by omega)]; omega), hh]
      simp only [Option.bind_some, if_true, one0, if_false, n_add, Bool.true_and]
      have hnb : ¬ (nI pre.length < 0 ∨ 8 ≤ (nI pre.length).toNatClampNeg) := by
        rw [n_lt0 (by omega), n_cl (by omega)]
        rintro (h | h)
        · exact h
        · omega
      have e3 := e1 kL
      rw [hpre] at e3
      unfold gJn
      dsimp only
      rw [n_cl (by omega)]
      cases b with
      | true =>
        simp only [if_true, one0, if_false, Bool.true_or] at e3 ⊢
        rw [n_cl (by omega)] at hnb
        rw [if_neg hnb]
        exact e3
      | false =>
        simp only [Bool.false_eq_true, if_false, zer0, if_true, Bool.false_or, ht, Option.bind_some] at e3 ⊢
        rw [n_cl (by omega)] at hnb
        cases hp : presB C j with
        | true =>
          rw [hp] at e3
          simp only [if_true, one0, if_false, Bool.true_or] at e3 ⊢
          rw [if_neg hnb]
          exact e3
        | false =>
          rw [hp] at e3
          simp only [Bool.false_eq_true, if_false, zer0, if_true, Bool.false_or] at e3 ⊢
          rw [if_neg hnb]
          exact e3
