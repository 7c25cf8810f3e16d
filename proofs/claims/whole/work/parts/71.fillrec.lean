/-! filled, could: the class's recursion -/
/-- codes of a stretch all begin with the digits that are tried -/
def PreR (n k : Nat) (w d : Nat → Nat) (u : Nat) (fr dep lo len : Nat) (C : AIn) : Prop := ∀ c, lo ≤ c → c < lo + len → runA k w (effE d u c) fr 0 (openA n) = (none, C)
def TriR (u dep lo len : Nat) (Y : Nat → Int32) : Prop := ∀ c, lo ≤ c → c < lo + len → ∀ i, i < dep → Y i = nI (dig u c i)
def FillOk (n k q : Nat) (w sg sb d : Nat → Nat) (m u r : Nat) : Prop := ∀ (R fr dep p : Nat) (C : AIn) (tH : HouS) (tD : DayS) (Q : GueS) (I : InnS) (T : List InnS) (st : KpS), dep + r = u → cntQ d fr = dep → fr ≤ m → r < R → r ≤ T.length → HouR tH (n, k, q, w, sg, sb) → DayR tD m d → AOk n C → GO C → InR k C I → GuR u st Q → st.1 + 8 ^ r < 1000 → PreR n k w d u fr dep (p * 8 ^ r) (8 ^ r) C → TriR u dep (p * 8 ^ r) (8 ^ r) (gTri Q) → ∃ Q' I' T', f_X1_fillFrom R (nI fr) (nI dep) tH tD Q I T = some (Q', I', T') ∧ T'.length = T.length ∧ GuR u ((List.range' (p * 8 ^ r) (8 ^ r)).foldl (kpA (fitB n k q w sg sb d m u) u) st) Q' ∧ TriR u dep (p * 8 ^ r) (8 ^ r) (gTri Q')
theorem fit_split {n k q : Nat} {w sg sb d : Nat → Nat} {m u c fr a : Nat} {C : AIn} (h1 : runA k w (effE d u c) fr 0 (openA n) = (none, C)) (hm : fr + a ≤ m) (h2 : (runA k w (effE d u c) a fr C).1 ≠ none) : fitB n k q w sg sb d m u c = false := by
  have h3 : (runA k w (effE d u c) m 0 (openA n)).1 ≠ none := by
    intro h
    have e1 := runA_add (kk := k) (w := w) (d := effE d u c) fr (m - fr) 0 (openA n) (by rw [h1])
    rw [show fr + (m - fr) = m by omega, Nat.zero_add, h1] at e1
    rw [e1] at h
    have e2 := runA_pre (kk := k) (w := w) (d := effE d u c) a (m - fr - a) fr C (by rw [show a + (m - fr - a) = m - fr by omega]; exact h)
    exact h2 e2
  unfold fitB
  rw [decide_eq_false h3]
  rfl
theorem pre_step {n k : Nat} {w d : Nat → Nat} {u c fr a : Nat} {C : AIn} (h1 : runA k w (effE d u c) fr 0 (openA n) = (none, C)) (h2 : (runA k w (effE d u c) a fr C).1 = none) : runA k w (effE d u c) (fr + a) 0 (openA n) = (none, (runA k w (effE d u c) a fr C).2) := by
  have e1 := runA_add (kk := k) (w := w) (d := effE d u c) fr a 0 (openA n) (by rw [h1])
  rw [Nat.zero_add, h1] at e1
  rw [e1]
  exact Prod.ext h2 rfl
theorem eff_plain {d : Nat → Nat} {u c i : Nat} (h : d i ≠ 63) : effE d u c i = d i := if_neg h
theorem eff_q {d : Nat → Nat} {u c i : Nat} (h : d i = 63) : effE d u c i = 65 + dig u c (cntQ d i) := if_pos h
set_option maxHeartbeats 1000000 in
theorem lp_fill62 {n k q : Nat} {w sg sb d : Nat → Nat} (hw : ∀ j, w j ≤ 99) (hn : n ≤ 8) (hk : k < 4) {m u r : Nat} (hu : u ≤ 3) (ih0 : FillOk n k q w sg sb d m u r) {H_beds H_law H_sights H_isKept : Int32} {H_worths H_sightGuests H_sightBeds : Nat → Int32} (hH : HouR (H_beds, H_law, H_sights, H_isKept, H_worths, H_sightGuests, H_sightBeds) (n, k, q, w, sg, sb)) {len : Int32} {S : Nat → Int32} (hD : DayR (len, S) m d) {R dep at' p : Nat} {C : AIn} (hdr : dep + (r + 1) = u) (hat : at' < m) (hda : d at' = 63) (hca : cntQ d at' = dep) (hR : r < R) (hC : AOk n C) (hG : GO C) {I_law I_there I_empties I_waiting I_guestsWithFleas I_bedsWithFleas I_isCounting : Int32} {I_sleepers I_empty I_yard I_nights I_used I_sheets I_lastOnes : Nat → Int32} (hI : InR k C (I_law, I_there, I_sleepers, I_empty, I_empties, I_yard, I_waiting, I_nights, I_used, I_sheets, I_lastOnes, I_guestsWithFleas, I_bedsWithFleas, I_isCounting)) (hpre : PreR n k w d u at' dep (p * 8 ^ (r + 1)) (8 ^ (r + 1)) C) : ∀ (c j fuel : Nat) (st : KpS) (q1 q2 : Int32) (q3 q4 q5 : Nat → Int32) {J_law J_there J_empties J_waiting J_guestsWithFleas J_bedsWithFleas J_isCounting : Int32} {J_sleepers J_empty J_yard J_nights J_used J_sheets J_lastOnes : Nat → Int32} (T : List InnS), 8 = j + c → c < fuel → r ≤ T.length → GuR u st (q1, q2, q3, q4, q5) → st.1 + c * 8 ^ r < 1000 → TriR u dep (p * 8 ^ (r + 1)) (8 ^ (r + 1)) q3 → ∃ Q' I' T', f_X1_fillFrom_L62 (f_X1_fillFrom R) (nI dep) (nI at') H_beds H_law H_sights H_isKept H_worths H_sightGuests H_sightBeds len S I_law I_there I_sleepers I_empty I_empties I_yard I_waiting I_nights I_used I_sheets I_lastOnes I_guestsWithFleas I_bedsWithFleas I_isCounting fuel (nI j) q1 q2 q3 q4 q5 J_law J_there J_sleepers J_empty J_empties J_yard J_waiting J_nights J_used J_sheets J_lastOnes J_guestsWithFleas J_bedsWithFleas J_isCounting T (fun x7_L62 Q_ways_L62 Q_untold_L62 Q_trial_L62 Q_first_L62 Q_suspects_L62 J_law J_there J_sleepers J_empty J_empties J_yard J_waiting J_nights J_used J_sheets J_lastOnes J_guestsWithFleas J_bedsWithFleas J_isCounting T_list_L62 => some ((Q_ways_L62, Q_untold_L62, Q_trial_L62, Q_first_L62, Q_suspects_L62), (I_law, I_there, I_sleepers, I_empty, I_empties, I_yard, I_waiting, I_nights, I_used, I_sheets, I_lastOnes, I_guestsWithFleas, I_bedsWithFleas, I_isCounting), ((J_law, J_there, J_sleepers, J_empty, J_empties, J_yard, J_waiting, J_nights, J_used, J_sheets, J_lastOnes, J_guestsWithFleas, J_bedsWithFleas, J_isCounting) :: T_list_L62))) = some (Q', I', T') ∧ T'.length = T.length + 1 ∧ GuR u ((List.range' ((8 * p + j) * 8 ^ r) (c * 8 ^ r)).foldl (kpA (fitB n k q w sg sb d m u) u) st) Q' ∧ TriR u dep (p * 8 ^ (r + 1)) (8 ^ (r + 1)) (gTri Q') := by
  have h8r : 8 ^ (r + 1) = 8 * 8 ^ r := by rw [Nat.pow_succ, Nat.mul_comm]
  have hpos : 0 < 8 ^ r := Nat.pow_pos (by omega)
  have hm := hD.2.1
  intro c
  induction c with
  | zero =>
    intro j fuel st q1 q2 q3 q4 q5 J_law J_there J_empties J_waiting J_guestsWithFleas J_bedsWithFleas J_isCounting J_sleepers J_empty J_yard J_nights J_used J_sheets J_lastOnes T h1 h3 hT hQ hst hTr
    obtain ⟨fuel, rfl⟩ : ∃ n, fuel = n + 1 := ⟨fuel - 1, by omega⟩
    rw [f_X1_fillFrom_L62, if_pos (by rw [n_le (by omega) (by omega)]; omega)]
    refine ⟨_, _, _, rfl, rfl, ?_, hTr⟩
    simp only [Nat.zero_mul, List.range'_zero, List.foldl_nil]
    exact hQ
  | succ c ih =>
    intro j fuel st q1 q2 q3 q4 q5 J_law J_there J_empties J_waiting J_guestsWithFleas J_bedsWithFleas J_isCounting J_sleepers J_empty J_yard J_nights J_used J_sheets J_lastOnes T h1 h3 hT hQ hst hTr
    obtain ⟨fuel, rfl⟩ : ∃ n, fuel = n + 1 := ⟨fuel - 1, by omega⟩
    have hj : j < 8 := by omega
    have hsplit : List.range' ((8 * p + j) * 8 ^ r) ((c + 1) * 8 ^ r) = List.range' ((8 * p + j) * 8 ^ r) (8 ^ r) ++ List.range' ((8 * p + (j + 1)) * 8 ^ r) (c * 8 ^ r) := by
      have e := List.range'_append_1 (s := (8 * p + j) * 8 ^ r) (m := 8 ^ r) (n := c * 8 ^ r)
      rw [show (c + 1) * 8 ^ r = 8 ^ r + c * 8 ^ r by rw [Nat.add_mul, Nat.one_mul, Nat.add_comm], show (8 * p + (j + 1)) * 8 ^ r = (8 * p + j) * 8 ^ r + 8 ^ r by rw [← Nat.add_assoc, Nat.add_mul (8 * p + j) 1, Nat.one_mul], e]
    have hin : ∀ c', (8 * p + j) * 8 ^ r ≤ c' → c' < (8 * p + j) * 8 ^ r + 8 ^ r → p * 8 ^ (r + 1) ≤ c' ∧ c' < p * 8 ^ (r + 1) + 8 ^ (r + 1) := by
      intro c' g1 g2
      rw [h8r]
      have e1 : (8 * p + j) * 8 ^ r = p * (8 * 8 ^ r) + j * 8 ^ r := by
        rw [Nat.add_mul, Nat.mul_comm 8 p, Nat.mul_assoc]
      have e2 : j * 8 ^ r + 8 ^ r ≤ 8 * 8 ^ r := by
        have := Nat.mul_le_mul_right (8 ^ r) (show j + 1 ≤ 8 by omega)
        rw [Nat.succ_mul] at this
        exact this
      omega
    have heff : ∀ c', (8 * p + j) * 8 ^ r ≤ c' → c' < (8 * p + j) * 8 ^ r + 8 ^ r → effE d u c' at' = 65 + j := by
      intro c' g1 g2
      rw [eff_q hda, hca, dig_sub hj g1 g2 hdr]
    rw [f_X1_fillFrom_L62, if_neg (by rw [n_le (by omega) (by omega)]; omega), f_isThereB hC hn hI hj, hsplit, List.foldl_append]
    simp only [Option.bind_some]
    by_cases hp : presB C j = true
    · rw [if_pos hp, if_neg (show ¬ nI 1 = 0 by decide), n_add]
      have hskip : (List.range' ((8 * p + j) * 8 ^ r) (8 ^ r)).foldl (kpA (fitB n k q w sg sb d m u) u) st = st := by
        refine kp_skip _ _ (fun c' hc' => ?_)
        have hc2 := List.mem_range'_1.mp hc'
        obtain ⟨g1, g2⟩ := hin c' hc2.1 hc2.2
        refine fit_split (a := 1) (hpre c' g1 g2) (by omega) ?_
        simp only [runA, heff c' hc2.1 hc2.2]
        have hwy : whyA (65 + j) C = 1 := by
          unfold whyA
          rw [if_pos (by omega), show 65 + j - 65 = j by omega, if_pos hp]
        rw [hwy, if_neg (by omega)]
        exact fun z => by cases z
      rw [hskip]
      refine ih (j + 1) fuel st q1 q2 q3 q4 q5 T (by omega) (by omega) hT hQ ?_ hTr
      rw [Nat.succ_mul] at hst
      omega
    · have hpr : ¬ presA C j := fun e => hp ((presB_iff hC hn).mpr e)
      rw [if_neg hp, if_pos (show nI 0 = 0 from rfl)]
      obtain ⟨t1, s1, s2⟩ := f_standAs (t := (J_law, J_there, J_sleepers, J_empty, J_empties, J_yard, J_waiting, J_nights, J_used, J_sheets, J_lastOnes, J_guestsWithFleas, J_bedsWithFleas, J_isCounting)) hC hn hI
      obtain ⟨t2, k1, k2, -⟩ := f_takeIn hH hw hn hk hC s2 (g := j) (by omega) hpr
      rw [Nat.min_eq_left (by omega)] at k1
      have hC1 : AOk n (cmA k w j C) := comeA_ok hC (by omega) hpr (fun e => chA_lt k (wA w j) _ e)
      have hG1 : GO (cmA k w j C) := fun x hx => by
        rcases (comeA_pres hC (fun e => chA_lt k (wA w j) _ e) x).mp hx with h | h
        · omega
        · exact hG x h
      have hcq : cntQ d (at' + 1) = dep + 1 := by
        simp only [cntQ, if_pos hda]
        omega
      have hpre1 : PreR n k w d u (at' + 1) (dep + 1) ((8 * p + j) * 8 ^ r) (8 ^ r) (cmA k w j C) := by
        intro c' g1 g2
        obtain ⟨g3, g4⟩ := hin c' g1 g2
        have hwy : whyA (65 + j) C = 0 := by
          unfold whyA
          rw [if_pos (by omega), show 65 + j - 65 = j by omega, if_neg hp]
        have hev : evC k w (65 + j) C = cmA k w j C := by
          unfold evC cmA
          rw [if_pos (by omega), show 65 + j - 65 = j by omega]
        have hone : runA k w (effE d u c') 1 at' C = (none, cmA k w j C) := by
          simp only [runA, heff c' g1 g2, hwy, if_true, hev]
        have e := pre_step (a := 1) (hpre c' g3 g4) (by rw [hone])
        rw [hone] at e
        exact e
      have hTr1 : TriR u (dep + 1) ((8 * p + j) * 8 ^ r) (8 ^ r) (upd q3 dep (nI j)) := by
        intro c' g1 g2 i hi
        obtain ⟨g3, g4⟩ := hin c' g1 g2
        simp only [upd]
        by_cases e : i = dep
        · rw [if_pos e, e, dig_sub hj g1 g2 hdr]
        · rw [if_neg e]
          exact hTr c' g3 g4 i (by omega)
      obtain ⟨Q', I', T', f1, f2, f3, f4⟩ := ih0 R (at' + 1) (dep + 1) (8 * p + j) (cmA k w j C) (H_beds, H_law, H_sights, H_isKept, H_worths, H_sightGuests, H_sightBeds) (len, S) (q1, q2, upd q3 dep (nI j), q4, q5) t2 T st (by omega) hcq (by omega) hR hT hH hD hC1 hG1 k2 hQ (by rw [Nat.succ_mul] at hst; omega) hpre1 hTr1
      have hle := kp_le (fit := fitB n k q w sg sb d m u) (u := u) (List.range' ((8 * p + j) * 8 ^ r) (8 ^ r)) st
      rw [List.length_range'] at hle
      generalize (List.range' ((8 * p + j) * 8 ^ r) (8 ^ r)).foldl (kpA (fitB n k q w sg sb d m u) u) st = st1 at f3 hle ⊢
      obtain ⟨u1, u2, u3, u4, u5, u6, u7, u8, u9, u10, u11, u12, u13, u14⟩ := t1
      obtain ⟨v1, v2, v3, v4, v5, v6, v7, v8, v9, v10, v11, v12, v13, v14⟩ := t2
      obtain ⟨y1, y2, y3, y4, y5, y6, y7, y8, y9, y10, y11, y12, y13, y14⟩ := I'
      obtain ⟨z1, z2, z3, z4, z5⟩ := Q'
      have hTr2 : TriR u dep (p * 8 ^ (r + 1)) (8 ^ (r + 1)) z3 := by
        intro c' g3 g4 i hi
        have hlo : (8 * p + j) * 8 ^ r ≤ (8 * p + j) * 8 ^ r := Nat.le_refl _
        have e1 := f4 ((8 * p + j) * 8 ^ r) hlo (by omega) i (by omega)
        obtain ⟨g5, g6⟩ := hin _ hlo (by omega)
        have e2 := hTr _ g5 g6 i hi
        have e3 := hTr c' g3 g4 i hi
        have e4 : z3 i = nI (dig u ((8 * p + j) * 8 ^ r) i) := e1
        rw [e4, ← e2, e3]
      have hnb : ¬ (nI dep < 0 ∨ 3 ≤ (nI dep).toNatClampNeg) := by
        rw [n_lt0 (by omega), n_cl (by omega)]
        rintro (h | h)
        · exact h
        · omega
      simp only [s1, Option.bind_some, k1]
      rw [if_neg hnb, n_cl (by omega), n_add, n_add, f1]
      simp only [Option.bind_some, f2, if_true]
      rw [n_add]
      obtain ⟨Q2, I2, T2, w1, w2, w3, w4⟩ := ih (j + 1) fuel st1 z1 z2 z3 z4 z5 (J_law := y1) (J_there := y2) (J_sleepers := y3) (J_empty := y4) (J_empties := y5) (J_yard := y6) (J_waiting := y7) (J_nights := y8) (J_used := y9) (J_sheets := y10) (J_lastOnes := y11) (J_guestsWithFleas := y12) (J_bedsWithFleas := y13) (J_isCounting := y14) T' (by omega) (by omega) (by omega) f3 (by rw [Nat.succ_mul] at hst; omega) hTr2
      exact ⟨Q2, I2, T2, w1, by omega, w3, w4⟩
