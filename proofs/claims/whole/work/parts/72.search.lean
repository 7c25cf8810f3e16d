/-! filled, could: the class's search, whole -/
set_option maxHeartbeats 1000000 in
theorem f_fillFrom {n k q : Nat} {w sg sb d : Nat → Nat} (hw : ∀ j, w j ≤ 99) (hn : n ≤ 8) (hk : k < 4) (hq : q ≤ 6) (hsg : ∀ j, sg j < 8) (hsb : ∀ j, sb j < 8) {m u : Nat} (hu : u ≤ 3) (hcm : cntQ d m = u) : ∀ r, FillOk n k q w sg sb d m u r := by
  have front : ∀ (r R fr dep p : Nat) (C : AIn) (tH : HouS) (tD : DayS) (I : InnS), dep + r = u → cntQ d fr = dep → fr ≤ m → HouR tH (n, k, q, w, sg, sb) → DayR tD m d → AOk n C → GO C → InR k C I → PreR n k w d u fr dep (p * 8 ^ r) (8 ^ r) C → ∃ at' t', fr ≤ at' ∧ at' ≤ m ∧ cntQ d at' = dep ∧ (at' < m → d at' = 63) ∧ f_X0_nextUntold (nI fr) tD = some (nI at') ∧ ((f_X3_live (nI fr) (nI at') tH tD I = some (-6, t') ∧ ∃ C', AOk n C' ∧ GO C' ∧ InR k C' t' ∧ PreR n k w d u at' dep (p * 8 ^ r) (8 ^ r) C') ∨ (∃ x : Nat, x < 48 ∧ f_X3_live (nI fr) (nI at') tH tD I = some (nI x, t') ∧ ∀ c, p * 8 ^ r ≤ c → c < p * 8 ^ r + 8 ^ r → fitB n k q w sg sb d m u c = false)) := by
    intro r R fr dep p C tH tD I h1 h2 h3 hH hD hC hG hI hpre
    obtain ⟨s1, s2, s3, s4⟩ := nuA_spec d (m - fr) fr
    have hnu := f_nextUntold hD h3
    have hm := hD.2.1
    generalize nuA d (m - fr) fr = at' at *
    have hat : at' ≤ m := by omega
    obtain ⟨t', l1, l2, -⟩ := f_live hH hw hn hk hD (fr := fr) (to := at') s1 hat hC hI
    have hsame := cnt_same (d := d) (a := fr) (at' - fr) (fun i g1 g2 => s3 i g1 (by omega))
    rw [show fr + (at' - fr) = at' by omega] at hsame
    have heq : ∀ c, runA k w (effE d u c) (at' - fr) fr C = runA k w d (at' - fr) fr C := fun c => runA_congr _ _ _ (fun i g1 g2 => eff_plain (s3 i g1 (by omega)))
    refine ⟨at', t', s1, hat, by omega, fun h => s4 (by omega), hnu, ?_⟩
    cases hr : (runA k w d (at' - fr) fr C).1 with
    | none =>
      left
      rw [hr] at l1
      refine ⟨l1, _, runA_ok hn _ _ _ hC, runA_go hn _ _ _ hC hG, l2, fun c g1 g2 => ?_⟩
      have e := pre_step (a := at' - fr) (hpre c g1 g2) (by rw [heq]; exact hr)
      rw [heq, show fr + (at' - fr) = at' by omega] at e
      exact e
    | some x =>
      right
      have hx := runA_lt _ _ _ _ hr
      rw [hr] at l1
      refine ⟨x, by omega, l1, fun c g1 g2 => fit_split (a := at' - fr) (hpre c g1 g2) (by omega) ?_⟩
      rw [heq, hr]
      exact fun z => by cases z
  intro r
  induction r with
  | zero =>
    intro R fr dep p C tH tD Q I T st h1 h2 h3 hR hT hH hD hC hG hI hQ hst hpre hTr
    obtain ⟨R, rfl⟩ : ∃ n, R = n + 1 := ⟨R - 1, by omega⟩
    have hm := hD.2.1
    obtain ⟨at', t', a1, a2, a3, a4, a5, a6⟩ := front 0 R fr dep p C tH tD I h1 h2 h3 hH hD hC hG hI hpre
    have hatm : at' = m := by
      rcases Nat.lt_or_ge at' m with h | h
      · have e1 := cntQ_mono d (at' + 1) (m - (at' + 1))
        rw [show at' + 1 + (m - (at' + 1)) = m by omega] at e1
        have e2 : cntQ d (at' + 1) = cntQ d at' + 1 := by simp only [cntQ, if_pos (a4 h)]
        omega
      · omega
    subst hatm
    simp only [Nat.pow_zero, Nat.mul_one] at hpre hTr a6 hst ⊢
    have hr1 : List.range' p 1 = [p] := rfl
    rw [hr1]
    simp only [List.foldl_cons, List.foldl_nil]
    rcases a6 with ⟨b1, C', b2, b3, b4, b5⟩ | ⟨x, hx, b1, b2⟩
    · have hfit : fitB n k q w sg sb d at' u p = seeB sg sb C' q 0 := by
        have e := b5 p (Nat.le_refl _) (by omega)
        unfold fitB
        rw [e]
        simp
      obtain ⟨Q', k1, k2, k3⟩ := f_keepSeen hH hq hsg hsb b4 hu (c := p) (st := st) (by omega) hQ (fun i hi => hTr p (Nat.le_refl _) (by omega) i (by omega)) hfit
      refine ⟨Q', t', T, ?_, rfl, k2, by rw [k3]; exact hTr⟩
      obtain ⟨H_beds, H_law, H_sights, H_isKept, H_worths, H_sightGuests, H_sightBeds⟩ := tH
      obtain ⟨len, S⟩ := tD
      obtain ⟨q1, q2, q3, q4, q5⟩ := Q
      obtain ⟨z1, z2, z3, z4, z5⟩ := Q'
      obtain ⟨I_law, I_there, I_sleepers, I_empty, I_empties, I_yard, I_waiting, I_nights, I_used, I_sheets, I_lastOnes, I_guestsWithFleas, I_bedsWithFleas, I_isCounting⟩ := I
      obtain ⟨u1, u2, u3, u4, u5, u6, u7, u8, u9, u10, u11, u12, u13, u14⟩ := t'
      obtain rfl : len = nI at' := hD.1
      have hnl : ¬ nI at' < nI at' := by rw [n_lt (by omega) (by omega)]; omega
      rcases T with _ | ⟨⟨J_law, J_there, J_sleepers, J_empty, J_empties, J_yard, J_waiting, J_nights, J_used, J_sheets, J_lastOnes, J_guestsWithFleas, J_bedsWithFleas, J_isCounting⟩, T⟩
      · rw [f_X1_fillFrom, a5, Option.bind_some, b1, Option.bind_some]
        dsimp only
        rw [if_pos rfl, if_neg hnl, k1]
        rfl
      · rw [f_X1_fillFrom, a5, Option.bind_some, b1, Option.bind_some]
        dsimp only
        rw [if_pos rfl, if_neg hnl, k1]
        rfl
    · have hfit := b2 p (Nat.le_refl _) (by omega)
      have hk0 : kpA (fitB n k q w sg sb d at' u) u st p = st := by
        unfold kpA
        rw [hfit]
        exact if_neg (fun z => by cases z)
      rw [hk0]
      refine ⟨Q, t', T, ?_, rfl, hQ, hTr⟩
      obtain ⟨H_beds, H_law, H_sights, H_isKept, H_worths, H_sightGuests, H_sightBeds⟩ := tH
      obtain ⟨len, S⟩ := tD
      obtain ⟨q1, q2, q3, q4, q5⟩ := Q
      obtain ⟨I_law, I_there, I_sleepers, I_empty, I_empties, I_yard, I_waiting, I_nights, I_used, I_sheets, I_lastOnes, I_guestsWithFleas, I_bedsWithFleas, I_isCounting⟩ := I
      obtain ⟨u1, u2, u3, u4, u5, u6, u7, u8, u9, u10, u11, u12, u13, u14⟩ := t'
      have hx6 : ¬ nI x = -6 := by rw [n_m6 (by omega)]; exact id
      rcases T with _ | ⟨⟨J_law, J_there, J_sleepers, J_empty, J_empties, J_yard, J_waiting, J_nights, J_used, J_sheets, J_lastOnes, J_guestsWithFleas, J_bedsWithFleas, J_isCounting⟩, T⟩
      · rw [f_X1_fillFrom, a5, Option.bind_some, b1, Option.bind_some]
        dsimp only
        rw [if_neg hx6]
      · rw [f_X1_fillFrom, a5, Option.bind_some, b1, Option.bind_some]
        dsimp only
        rw [if_neg hx6]
  | succ r ih =>
    intro R fr dep p C tH tD Q I T st h1 h2 h3 hR hT hH hD hC hG hI hQ hst hpre hTr
    obtain ⟨R, rfl⟩ : ∃ n, R = n + 1 := ⟨R - 1, by omega⟩
    have hm := hD.2.1
    have h8r : 8 ^ (r + 1) = 8 * 8 ^ r := by rw [Nat.pow_succ, Nat.mul_comm]
    obtain ⟨at', t', a1, a2, a3, a4, a5, a6⟩ := front (r + 1) R fr dep p C tH tD I h1 h2 h3 hH hD hC hG hI hpre
    have hatm : at' < m := by
      rcases Nat.lt_or_ge at' m with h | h
      · exact h
      · have : at' = m := by omega
        rw [this] at a3
        omega
    cases T with
    | nil => simp at hT
    | cons J T =>
      rcases a6 with ⟨b1, C', b2, b3, b4, b5⟩ | ⟨x, hx, b1, b2⟩
      · obtain ⟨H_beds, H_law, H_sights, H_isKept, H_worths, H_sightGuests, H_sightBeds⟩ := tH
        obtain ⟨len, S⟩ := tD
        obtain ⟨q1, q2, q3, q4, q5⟩ := Q
        obtain ⟨I_law, I_there, I_sleepers, I_empty, I_empties, I_yard, I_waiting, I_nights, I_used, I_sheets, I_lastOnes, I_guestsWithFleas, I_bedsWithFleas, I_isCounting⟩ := I
        obtain ⟨u1, u2, u3, u4, u5, u6, u7, u8, u9, u10, u11, u12, u13, u14⟩ := t'
        obtain ⟨J_law, J_there, J_sleepers, J_empty, J_empties, J_yard, J_waiting, J_nights, J_used, J_sheets, J_lastOnes, J_guestsWithFleas, J_bedsWithFleas, J_isCounting⟩ := J
        obtain rfl : len = nI m := hD.1
        simp only [List.length_cons] at hT ⊢
        rw [f_X1_fillFrom, a5]
        obtain ⟨F, hF⟩ : ∃ F, FU = F := ⟨_, rfl⟩
        rw [hF, Option.bind_some, b1, Option.bind_some]
        dsimp only
        rw [if_pos rfl, if_pos (by rw [n_lt (by omega) (by omega)]; exact hatm), if_neg (by rw [n_lt0 (by omega)]; exact id), if_pos (by rw [n_lt (by omega) (by omega)]; omega)]
        have e := lp_fill62 hw hn hk hu ih hH hD (R := R) (p := p) h1 hatm (a4 hatm) a3 (by omega) b2 b3 b4 b5 8 0 F st q1 q2 q3 q4 q5 (J_law := J_law) (J_there := J_there) (J_sleepers := J_sleepers) (J_empty := J_empty) (J_empties := J_empties) (J_yard := J_yard) (J_waiting := J_waiting) (J_nights := J_nights) (J_used := J_used) (J_sheets := J_sheets) (J_lastOnes := J_lastOnes) (J_guestsWithFleas := J_guestsWithFleas) (J_bedsWithFleas := J_bedsWithFleas) (J_isCounting := J_isCounting) T (by omega) (by rw [← hF, FU_eq]; omega) (by omega) hQ (by rw [← h8r]; exact hst) hTr
        have e0 : (8 * p + 0) * 8 ^ r = p * 8 ^ (r + 1) := by
          rw [h8r, Nat.add_zero, Nat.mul_comm 8 p, Nat.mul_assoc]
        rw [e0, ← h8r] at e
        exact e
      · have hk0 : (List.range' (p * 8 ^ (r + 1)) (8 ^ (r + 1))).foldl (kpA (fitB n k q w sg sb d m u) u) st = st := kp_skip _ _ (fun c hc => by
          have hc2 := List.mem_range'_1.mp hc
          exact b2 c hc2.1 hc2.2)
        rw [hk0]
        refine ⟨Q, t', J :: T, ?_, rfl, hQ, hTr⟩
        obtain ⟨H_beds, H_law, H_sights, H_isKept, H_worths, H_sightGuests, H_sightBeds⟩ := tH
        obtain ⟨len, S⟩ := tD
        obtain ⟨q1, q2, q3, q4, q5⟩ := Q
        obtain ⟨I_law, I_there, I_sleepers, I_empty, I_empties, I_yard, I_waiting, I_nights, I_used, I_sheets, I_lastOnes, I_guestsWithFleas, I_bedsWithFleas, I_isCounting⟩ := I
        obtain ⟨u1, u2, u3, u4, u5, u6, u7, u8, u9, u10, u11, u12, u13, u14⟩ := t'
        obtain ⟨J_law, J_there, J_sleepers, J_empty, J_empties, J_yard, J_waiting, J_nights, J_used, J_sheets, J_lastOnes, J_guestsWithFleas, J_bedsWithFleas, J_isCounting⟩ := J
        have hx6 : ¬ nI x = -6 := by rw [n_m6 (by omega)]; exact id
        rw [f_X1_fillFrom, a5, Option.bind_some, b1, Option.bind_some]
        dsimp only
        rw [if_neg hx6]
theorem lp_s13 {len : Int32} {S : Nat → Int32} {m : Nat} {d : Nat → Nat} (hD : DayR (len, S) m d) (kL : Int32 → Int32 → Option (GueS × InnS × (List InnS))) : ∀ (c j fuel : Nat), m = j + c → c < fuel → f_X1_search_L13 len S fuel (nI j) (nI (cntQ d j)) kL = kL (nI m) (nI (cntQ d m)) := by
  have hm := hD.2.1
  obtain rfl : len = nI m := hD.1
  intro c
  induction c with
  | zero =>
    intro j fuel h1 h3
    obtain ⟨fuel, rfl⟩ : ∃ n, fuel = n + 1 := ⟨fuel - 1, by omega⟩
    have hj : j = m := by omega
    subst hj
    rw [f_X1_search_L13, if_pos (by rw [n_le (by omega) (by omega)]; omega)]
  | succ c ih =>
    intro j fuel h1 h3
    obtain ⟨fuel, rfl⟩ : ∃ n, fuel = n + 1 := ⟨fuel - 1, by omega⟩
    have hdj := (hD.2.2 j (by omega)).2
    have ih' := ih (j + 1) fuel (by omega) (by omega)
    simp only [cntQ] at ih'
    rw [f_X1_search_L13]
    simp (disch := omega) only [n_le, c_leF, if_false, f_signAt hD (show j < m by omega), Option.bind_some, n_add, n_eq]
    by_cases e : d j = 63
    · rw [if_pos e] at ih' ⊢
      exact ih'
    · rw [if_neg e] at ih' ⊢
      exact ih'
theorem lp_s56 : ∀ (c j fuel : Nat) (Y : Nat → Int32), 3 = j + c → c < fuel → (∀ i, i < j → Y i = nI 0) → ∃ x Y', (∀ kL : Int32 → (Nat → Int32) → Option (GueS × InnS × (List InnS)), f_X1_search_L56 fuel (nI j) Y kL = kL x Y') ∧ ∀ i, i < 3 → Y' i = nI 0 := by
  intro c
  induction c with
  | zero =>
    intro j fuel Y h1 h3 hY
    obtain ⟨fuel, rfl⟩ : ∃ n, fuel = n + 1 := ⟨fuel - 1, by omega⟩
    refine ⟨nI j, Y, fun kL => ?_, fun i hi => hY i (by omega)⟩
    rw [f_X1_search_L56, if_pos (by rw [n_le (by omega) (by omega)]; omega)]
  | succ c ih =>
    intro j fuel Y h1 h3 hY
    obtain ⟨fuel, rfl⟩ : ∃ n, fuel = n + 1 := ⟨fuel - 1, by omega⟩
    obtain ⟨x, Y', e1, e2⟩ := ih (j + 1) fuel (upd Y j (nI 0)) (by omega) (by omega) (fun i hi => by
      simp only [upd]
      by_cases e : i = j
      · rw [if_pos e]
      · rw [if_neg e]
        exact hY i (by omega))
    refine ⟨x, Y', fun kL => ?_, e2⟩
    rw [f_X1_search_L56]
    simp (disch := omega) only [n_le, c_leF, if_false, n_lt0, n_cl, false_or, n_add]
    exact e1 kL
theorem f_search {n k q : Nat} {w sg sb d : Nat → Nat} (hw : ∀ j, w j ≤ 99) (hn : n ≤ 8) (hk : k < 4) (hq : q ≤ 6) (hsg : ∀ j, sg j < 8) (hsb : ∀ j, sb j < 8) {m : Nat} (hu : cntQ d m ≤ 3) {tH : HouS} (hH : HouR tH (n, k, q, w, sg, sb)) {tD : DayS} (hD : DayR tD m d) (Q : GueS) (I : InnS) {T : List InnS} (hT : T.length = 8) : ∃ Q' I' T', f_X1_search tH tD Q I T = some (Q', I', T') ∧ T'.length = T.length ∧ GuR (cntQ d m) ((List.range' 0 (8 ^ cntQ d m)).foldl (kpA (fitB n k q w sg sb d m (cntQ d m)) (cntQ d m)) (0, none, fun _ => 0)) Q' := by
  have hm := hD.2.1
  obtain ⟨t1, o1, o2, o3⟩ := f_open hH hn k I
  obtain ⟨q1, q2, q3, q4, q5⟩ := Q
  obtain ⟨x, Y', e1, e2⟩ := lp_s56 3 0 FU q5 (by omega) (by rw [FU_eq]; omega) (fun i hi => absurd hi (by omega))
  have h8 : 8 ^ cntQ d m ≤ 8 ^ 3 := Nat.pow_le_pow_right (by omega) hu
  obtain ⟨Q', I', T', f1, f2, f3, -⟩ := f_fillFrom hw hn hk hq hsg hsb hu rfl (cntQ d m) 10 0 0 0 (openA n) tH tD (nI 0, nI (cntQ d m), q3, q4, Y') t1 T (0, none, fun _ => 0) (by omega) rfl (by omega) (by omega) (by omega) hH hD (openA_ok n) (openA_go n) o2 ⟨rfl, rfl, fun h => absurd rfl h, fun _ => rfl, fun i hi => ⟨e2 i (by omega), (show (0 : Nat) < 256 by omega)⟩⟩ (by simp only; omega) (fun c _ _ => rfl) (fun c _ _ i hi => absurd hi (by omega))
  rw [Nat.zero_mul] at f3
  refine ⟨Q', I', T', ?_, f2, f3⟩
  have e13 := fun kL => lp_s13 (S := tD.2) (len := tD.1) hD kL m 0 FU (by omega) (by rw [FU_eq]; omega)
  obtain ⟨H_beds, H_law, H_sights, H_isKept, H_worths, H_sightGuests, H_sightBeds⟩ := tH
  obtain ⟨len, S⟩ := tD
  obtain ⟨I_law, I_there, I_sleepers, I_empty, I_empties, I_yard, I_waiting, I_nights, I_used, I_sheets, I_lastOnes, I_guestsWithFleas, I_bedsWithFleas, I_isCounting⟩ := I
  obtain ⟨J_law, J_there, J_sleepers, J_empty, J_empties, J_yard, J_waiting, J_nights, J_used, J_sheets, J_lastOnes, J_guestsWithFleas, J_bedsWithFleas, J_isCounting⟩ := t1
  obtain ⟨z1, z2, z3, z4, z5⟩ := Q'
  obtain ⟨u1, u2, u3, u4, u5, u6, u7, u8, u9, u10, u11, u12, u13, u14⟩ := I'
  obtain rfl : H_law = nI k := hH.2.1
  simp only [cntQ] at e13
  rw [f_X1_search]
  obtain ⟨F, hF⟩ : ∃ F, FU = F := ⟨_, rfl⟩
  rw [hF] at e13 e1 ⊢
  rw [e13, e1, o1]
  simp only [Option.bind_some, f1, f2, if_true]
