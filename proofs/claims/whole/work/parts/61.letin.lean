/-! the class's orders at the door -/
def wvA (w : Nat → Nat) (g : Nat) : Option Nat → Nat
  | none => 0
  | some b => w (8 * g + b)
def cmA (k : Nat) (w : Nat → Nat) (g : Nat) (C : AIn) : AIn := comeA (chA k (wA w g) C.2.1) g C
def sumW (k : Nat) (w : Nat → Nat) : AIn → List Nat → Nat
  | _, [] => 0
  | C, g :: r => wvA w g (bedA (cmA k w g C).1 g) + sumW k w (cmA k w g C) r
def bestF : Option (Nat × List Nat) → Nat × List Nat → Option (Nat × List Nat)
  | none, p => some p
  | some (v, o), (v', o') => if v' ≤ v then some (v, o) else some (v', o')
def evP (k : Nat) (w : Nat → Nat) (wt : Nat) (C : AIn) (pre r : List Nat) : Nat × List Nat := (wt + sumW k w C r, pre ++ r)
theorem evP_cons (k : Nat) (w : Nat → Nat) (wt : Nat) (C : AIn) (pre : List Nat) (g : Nat) (r : List Nat) : evP k w wt C pre (g :: r) = evP k w (wt + wvA w g (bedA (cmA k w g C).1 g)) (cmA k w g C) (pre ++ [g]) r := by
  simp only [evP, sumW, List.append_assoc, List.singleton_append, Nat.add_assoc]
/-- what of all orders is kept -/
def ParR (o : Option (Nat × List Nat)) : ParS → Prop
  | (P_most, _, P_bestOrder, _) => match o with
    | none => P_most = -1
    | some (v, l) => v < 10000 ∧ l.length ≤ 6 ∧ P_most = nI v ∧ ∀ i, i < l.length → P_bestOrder i = nI (l.getD i 0)
def ParT (pre : List Nat) : ParS → Prop
  | (_, _, _, P_trial) => ∀ i, i < pre.length → P_trial i = nI (pre.getD i 0)
def parZ : ParS → Int32
  | (_, P_size, _, _) => P_size
theorem wv_le {w : Nat → Nat} (hw : ∀ j, w j ≤ 99) (g : Nat) (o : Option Nat) : wvA w g o ≤ 99 := by
  cases o with
  | none => simp only [wvA]; omega
  | some b => exact hw _
theorem f_keep {o : Option (Nat × List Nat)} {t : ParS} (h : ParR o t) {wt : Nat} {pre : List Nat} (hp : pre.length ≤ 6) (hwt : wt < 10000) (hT : ParT pre t) : ∃ t', f_X4_keepIfBetter (nI wt) t = some t' ∧ ParR (bestF o (wt, pre)) t' ∧ parZ t' = parZ t ∧ ParT pre t' := by
  obtain ⟨a1, a2, a3, a4⟩ := t
  rw [f_X4_keepIfBetter]
  have hset : ParR (some (wt, pre)) (nI wt, a2, va_cpy a4 a3 0 0 (nI 6).toNatClampNeg, a4) := by
    refine ⟨hwt, hp, rfl, fun i hi => ?_⟩
    rw [cpy_at (n_cl (by omega)) (by omega)]
    exact hT i hi
  cases o with
  | none =>
    obtain rfl : a1 = -1 := h
    have hne : ¬ nI wt ≤ -1 := fun e => by
      have h1 : (0 : Int32) ≤ nI wt := by rw [n_ge0 (by omega)]; trivial
      exact absurd (Int32.le_trans h1 e) (by decide)
    rw [if_neg hne]
    exact ⟨_, rfl, hset, rfl, hT⟩
  | some q =>
    obtain ⟨v, l⟩ := q
    obtain ⟨h1, h2, rfl, h4⟩ := h
    simp only [bestF]
    by_cases e : wt ≤ v
    · rw [if_pos (by rw [n_le (by omega) (by omega)]; exact e), if_pos e]
      exact ⟨_, rfl, ⟨h1, h2, rfl, h4⟩, rfl, hT⟩
    · rw [if_neg (by rw [n_le (by omega) (by omega)]; exact e), if_neg e]
      exact ⟨_, rfl, hset, rfl, hT⟩
theorem f_worthBed {n k q : Nat} {w sg sb : Nat → Nat} {tH : HouS} (hH : HouR tH (n, k, q, w, sg, sb)) {g : Nat} (hg : g < 8) {o : Option Nat} (h8 : ∀ b, o = some b → b < 8) : f_X2_worthOf (nI g) (cdL o) tH = some (nI (wvA w g o)) := by
  cases o with
  | none =>
    obtain ⟨H_beds, H_law, H_sights, H_isKept, H_worths, H_sightGuests, H_sightBeds⟩ := tH
    simp only [cdL, wvA]
    rw [f_X2_worthOf, if_neg (by rw [n_lt0 (by omega)]; exact id), if_neg (by rw [n_le (by omega) (by omega)]; omega), if_pos (by decide)]
  | some b =>
    have h := f_worthOf hH (g := g) (b := b) (h8 b rfl)
    rw [Nat.min_eq_left (by omega)] at h
    have e2 : wA w g b = w (8 * g + b) := if_pos hg
    rw [e2] at h
    exact h
def LetOk (n k : Nat) (w : Nat → Nat) (L : Nat) : Prop := ∀ (R s wt : Nat) (pre : List Nat) (C : AIn) (tH : HouS) (q : Nat) (sg sb : Nat → Nat) (P : ParS) (I : InnS) (T : List InnS) (o : Option (Nat × List Nat)), (gsFrom s 8 0).length = L → L < R → s < 256 → pre.length + L ≤ 6 → L ≤ T.length → wt ≤ 99 * pre.length → AOk n C → InR k C I → (∀ g, g ∈ gsFrom s 8 0 → ¬ presA C g) → HouR tH (n, k, q, w, sg, sb) → ParR o P → ParT pre P → ∃ P' T', f_X4_letIn R (nI s) (nI pre.length) (nI wt) tH P I T = some (P', T') ∧ T'.length = T.length ∧ ParR (((permsL L (gsFrom s 8 0)).map (evP k w wt C pre)).foldl bestF o) P' ∧ parZ P' = parZ P ∧ ParT pre P'
theorem lp_let36 {n k q : Nat} {w sg sb : Nat → Nat} (hw : ∀ j, w j ≤ 99) (hn : n ≤ 8) (hk : k < 4) {L : Nat} (ih0 : LetOk n k w L) {H_beds H_law H_sights H_isKept : Int32} {H_worths H_sightGuests H_sightBeds : Nat → Int32} (hH : HouR (H_beds, H_law, H_sights, H_isKept, H_worths, H_sightGuests, H_sightBeds) (n, k, q, w, sg, sb)) {s wt R : Nat} {pre : List Nat} {C : AIn} (hL : (gsFrom s 8 0).length = L + 1) (hR : L < R) (hs : s < 256) (hpre : pre.length + (L + 1) ≤ 6) (hwt : wt ≤ 99 * pre.length) (hC : AOk n C) {I_law I_there I_empties I_waiting I_guestsWithFleas I_bedsWithFleas I_isCounting : Int32} {I_sleepers I_empty I_yard I_nights I_used I_sheets I_lastOnes : Nat → Int32} (hI : InR k C (I_law, I_there, I_sleepers, I_empty, I_empties, I_yard, I_waiting, I_nights, I_used, I_sheets, I_lastOnes, I_guestsWithFleas, I_bedsWithFleas, I_isCounting)) (hno : ∀ g, g ∈ gsFrom s 8 0 → ¬ presA C g) : ∀ (c j fuel : Nat) (o : Option (Nat × List Nat)) (p1 p2 : Int32) (p3 p4 : Nat → Int32) {J_law J_there J_empties J_waiting J_guestsWithFleas J_bedsWithFleas J_isCounting : Int32} {J_sleepers J_empty J_yard J_nights J_used J_sheets J_lastOnes : Nat → Int32} (T : List InnS), 8 = j + c → c < fuel → L ≤ T.length → ParR o (p1, p2, p3, p4) → ParT pre (p1, p2, p3, p4) → ∃ P' T', f_X4_letIn_L36 (f_X4_letIn R) (nI s) (nI pre.length) (nI wt) H_beds H_law H_sights H_isKept H_worths H_sightGuests H_sightBeds I_law I_there I_sleepers I_empty I_empties I_yard I_waiting I_nights I_used I_sheets I_lastOnes I_guestsWithFleas I_bedsWithFleas I_isCounting fuel (nI j) p1 p2 p3 p4 J_law J_there J_sleepers J_empty J_empties J_yard J_waiting J_nights J_used J_sheets J_lastOnes J_guestsWithFleas J_bedsWithFleas J_isCounting T (fun x6_L36 P_most_L36 P_size_L36 P_bestOrder_L36 P_trial_L36 J_law J_there J_sleepers J_empty J_empties J_yard J_waiting J_nights J_used J_sheets J_lastOnes J_guestsWithFleas J_bedsWithFleas J_isCounting T_list_L36 => some ((P_most_L36, P_size_L36, P_bestOrder_L36, P_trial_L36), ((J_law, J_there, J_sleepers, J_empty, J_empties, J_yard, J_waiting, J_nights, J_used, J_sheets, J_lastOnes, J_guestsWithFleas, J_bedsWithFleas, J_isCounting) :: T_list_L36))) = some (P', T') ∧ T'.length = T.length + 1 ∧ ParR ((((gsFrom s c j).flatMap (fun g => (permsL L ((gsFrom s 8 0).erase g)).map (fun r => g :: r))).map (evP k w wt C pre)).foldl bestF o) P' ∧ parZ P' = p2 ∧ ParT pre P' := by
  intro c
  induction c with
  | zero =>
    intro j fuel o p1 p2 p3 p4 J_law J_there J_empties J_waiting J_guestsWithFleas J_bedsWithFleas J_isCounting J_sleepers J_empty J_yard J_nights J_used J_sheets J_lastOnes T h1 h3 hT hP hPt
    obtain ⟨fuel, rfl⟩ : ∃ n, fuel = n + 1 := ⟨fuel - 1, by omega⟩
    rw [f_X4_letIn_L36, if_pos (by rw [n_le (by omega) (by omega)]; omega)]
    refine ⟨_, _, rfl, rfl, ?_, rfl, hPt⟩
    simp only [gsFrom, List.flatMap_nil, List.map_nil, List.foldl_nil]
    exact hP
  | succ c ih =>
    intro j fuel o p1 p2 p3 p4 J_law J_there J_empties J_waiting J_guestsWithFleas J_bedsWithFleas J_isCounting J_sleepers J_empty J_yard J_nights J_used J_sheets J_lastOnes T h1 h3 hT hP hPt
    obtain ⟨fuel, rfl⟩ : ∃ n, fuel = n + 1 := ⟨fuel - 1, by omega⟩
    have hj : j < 8 := by omega
    have hbt := b_tst s hs j hj
    rw [f_X4_letIn_L36, if_neg (by rw [n_le (by omega) (by omega)]; omega), b_sh j hj]
    rw [show gsFrom s (c + 1) j = bif s.testBit j then j :: gsFrom s c (j + 1) else gsFrom s c (j + 1) from rfl]
    cases hb : s.testBit j with
    | false =>
      rw [if_pos (hbt.mpr hb), n_add]
      simp only [cond_false]
      exact ih (j + 1) fuel o p1 p2 p3 p4 T (by omega) (by omega) hT hP hPt
    | true =>
      rw [if_neg (fun e => by rw [hbt.mp e] at hb; cases hb)]
      simp only [cond_true, List.flatMap_cons, List.map_append, List.foldl_append]
      have hmem : j ∈ gsFrom s 8 0 := (gsFrom_mem 8 0 j).mpr ⟨by omega, by omega, hb⟩
      have hnp := hno j hmem
      obtain ⟨t1, s1, s2⟩ := f_standAs (t := (J_law, J_there, J_sleepers, J_empty, J_empties, J_yard, J_waiting, J_nights, J_used, J_sheets, J_lastOnes, J_guestsWithFleas, J_bedsWithFleas, J_isCounting)) hC hn hI
      obtain ⟨t2, k1, k2, -⟩ := f_takeIn hH hw hn hk hC s2 (g := j) (by omega) hnp
      rw [Nat.min_eq_left (by omega)] at k1
      have hC1 : AOk n (cmA k w j C) := comeA_ok hC (by omega) hnp (fun e => chA_lt k (wA w j) _ e)
      have e1 := f_bedOf hC1 hn k2 hj
      have e2 := f_worthBed hH hj (o := bedA (cmA k w j C).1 j) (fun b hb => (bedA_some hb).2)
      have hcl := b_clr s hs j hj
      have hge := gs_clr s hs j hj hb
      have hlen : (gsFrom (clr s j) 8 0).length = L := by
        rw [hge, List.length_erase_of_mem hmem, hL]
        omega
      have hwv := wv_le hw j (bedA (cmA k w j C).1 j)
      obtain ⟨P', T', r1, r2, r3, r4, r5⟩ := ih0 R (clr s j) (wt + wvA w j (bedA (cmA k w j C).1 j)) (pre ++ [j]) (cmA k w j C) (H_beds, H_law, H_sights, H_isKept, H_worths, H_sightGuests, H_sightBeds) q sg sb (p1, p2, p3, upd p4 pre.length (nI j)) t2 T o hlen hR hcl.2 (by rw [List.length_append, List.length_singleton]; omega) hT (by rw [List.length_append, List.length_singleton]; omega) hC1 k2 (fun g hg hp => by
        rw [hge] at hg
        have hg2 := (List.Nodup.mem_erase_iff (gsFrom_nodup s 8 0)).mp hg
        rcases (comeA_pres hC (fun e => chA_lt k (wA w j) _ e) g).mp hp with h | h
        · exact hg2.1 h
        · exact hno g hg2.2 h) hH hP (fun i hi => by
        rw [List.length_append, List.length_singleton] at hi
        simp only [upd]
        by_cases e : i = pre.length
        · rw [if_pos e, e, List.getD_eq_getElem?_getD, List.getElem?_append_right (by omega)]
          simp
        · rw [if_neg e, hPt i (by omega), List.getD_eq_getElem?_getD, List.getD_eq_getElem?_getD, List.getElem?_append_left (by omega)])
      rw [List.length_append, List.length_singleton] at r1
      have hfold : (((permsL L ((gsFrom s 8 0).erase j)).map (fun r => j :: r)).map (evP k w wt C pre)) = (permsL L (gsFrom (clr s j) 8 0)).map (evP k w (wt + wvA w j (bedA (cmA k w j C).1 j)) (cmA k w j C) (pre ++ [j])) := by
        rw [hge, List.map_map]
        refine List.map_congr_left (fun r _ => ?_)
        exact evP_cons k w wt C pre j r
      rw [hfold]
      generalize ((permsL L (gsFrom (clr s j) 8 0)).map (evP k w (wt + wvA w j (bedA (cmA k w j C).1 j)) (cmA k w j C) (pre ++ [j]))).foldl bestF o = o1 at r3 ⊢
      obtain ⟨u1, u2, u3, u4, u5, u6, u7, u8, u9, u10, u11, u12, u13, u14⟩ := t1
      obtain ⟨v1, v2, v3, v4, v5, v6, v7, v8, v9, v10, v11, v12, v13, v14⟩ := t2
      obtain ⟨q1, q2, q3, q4⟩ := P'
      obtain rfl : q2 = p2 := r4
      simp only [s1, Option.bind_some, k1]
      have hnb : ¬ (nI pre.length < 0 ∨ 6 ≤ (nI pre.length).toNatClampNeg) := by
        rw [n_lt0 (by omega), n_cl (by omega)]
        rintro (h | h)
        · exact h
        · omega
      rw [if_neg hnb]
      have e1' : f_X3_bedOf (nI j) (v1, v2, v3, v4, v5, v6, v7, v8, v9, v10, v11, v12, v13, v14) = some (cdL (bedA (cmA k w j C).1 j)) := e1
      simp only [e1', Option.bind_some, e2, n_add, n_cl (show pre.length < 2147483648 by omega), hcl.1, r1, r2, if_true]
      have r6 : ParT pre (q1, q2, q3, q4) := fun i hi => by
        have h := r5 i (by rw [List.length_append]; omega)
        rw [List.getD_eq_getElem?_getD, List.getElem?_append_left hi, ← List.getD_eq_getElem?_getD] at h
        exact h
      obtain ⟨P2, T2, z1, z2, z3⟩ := ih (j + 1) fuel o1 q1 q2 q3 q4 T' (by omega) (by omega) (by omega) r3 r6
      exact ⟨P2, T2, z1, by omega, z3⟩
theorem f_letIn {n k : Nat} {w : Nat → Nat} (hw : ∀ j, w j ≤ 99) (hn : n ≤ 8) (hk : k < 4) : ∀ L, LetOk n k w L := by
  intro L
  induction L with
  | zero =>
    intro R s wt pre C tH q sg sb P I T o hL hR hs hpre hT hwt hC hI hno hH hP hPt
    obtain ⟨R, rfl⟩ : ∃ n, R = n + 1 := ⟨R - 1, by omega⟩
    have hs0 : s = 0 := (gs_nil s hs).mp (List.length_eq_zero_iff.mp hL)
    subst hs0
    obtain ⟨t', e1, e2, e3, e4⟩ := f_keep hP (wt := wt) (pre := pre) (by omega) (by omega) hPt
    obtain ⟨H_beds, H_law, H_sights, H_isKept, H_worths, H_sightGuests, H_sightBeds⟩ := tH
    obtain ⟨p1, p2, p3, p4⟩ := P
    obtain ⟨q1, q2, q3, q4⟩ := t'
    obtain ⟨I_law, I_there, I_sleepers, I_empty, I_empties, I_yard, I_waiting, I_nights, I_used, I_sheets, I_lastOnes, I_guestsWithFleas, I_bedsWithFleas, I_isCounting⟩ := I
    have hfin : ParR (((permsL 0 (gsFrom 0 8 0)).map (evP k w wt C pre)).foldl bestF o) (q1, q2, q3, q4) := by
      rw [show permsL 0 (gsFrom 0 8 0) = [[]] from rfl]
      simp only [List.map_cons, List.map_nil, List.foldl_cons, List.foldl_nil, evP, sumW, Nat.add_zero, List.append_nil]
      exact e2
    rcases T with _ | ⟨⟨J_law, J_there, J_sleepers, J_empty, J_empties, J_yard, J_waiting, J_nights, J_used, J_sheets, J_lastOnes, J_guestsWithFleas, J_bedsWithFleas, J_isCounting⟩, T⟩
    · rw [f_X4_letIn, if_pos (show nI 0 = 0 from rfl), e1]
      exact ⟨_, _, rfl, rfl, hfin, e3, e4⟩
    · rw [f_X4_letIn, if_pos (show nI 0 = 0 from rfl), e1]
      exact ⟨_, _, rfl, rfl, hfin, e3, e4⟩
  | succ L ih =>
    intro R s wt pre C tH q sg sb P I T o hL hR hs hpre hT hwt hC hI hno hH hP hPt
    obtain ⟨R, rfl⟩ : ∃ n, R = n + 1 := ⟨R - 1, by omega⟩
    have hs0 : s ≠ 0 := fun e => by
      have := (gs_nil s hs).mpr e
      rw [this] at hL
      cases hL
    cases T with
    | nil => simp at hT
    | cons J T =>
      obtain ⟨H_beds, H_law, H_sights, H_isKept, H_worths, H_sightGuests, H_sightBeds⟩ := tH
      obtain ⟨p1, p2, p3, p4⟩ := P
      obtain ⟨I_law, I_there, I_sleepers, I_empty, I_empties, I_yard, I_waiting, I_nights, I_used, I_sheets, I_lastOnes, I_guestsWithFleas, I_bedsWithFleas, I_isCounting⟩ := I
      obtain ⟨J_law, J_there, J_sleepers, J_empty, J_empties, J_yard, J_waiting, J_nights, J_used, J_sheets, J_lastOnes, J_guestsWithFleas, J_bedsWithFleas, J_isCounting⟩ := J
      simp only [List.length_cons] at hT ⊢
      rw [f_X4_letIn, if_neg (by rw [n_eq0 (by omega)]; exact hs0)]
      obtain ⟨F, hF⟩ : ∃ F, FU = F := ⟨_, rfl⟩
      rw [hF]
      rw [if_neg (by rw [n_lt0 (by omega)]; exact id), if_pos (by rw [n_lt (by omega) (by omega)]; omega)]
      exact lp_let36 hw hn hk ih hH hL (by omega) hs hpre hwt hC hI hno 8 0 F o p1 p2 p3 p4 T (by omega) (by rw [← hF, FU_eq]; omega) (by omega) hP hPt
