/-! filled, could: the class's search -/
def dig (u c i : Nat) : Nat := c / 8 ^ (u - 1 - i) % 8
theorem dig_lt (u c i : Nat) : dig u c i < 8 := Nat.mod_lt _ (by omega)
def seeB (sg sb : Nat → Nat) (C : AIn) : Nat → Nat → Bool
  | 0, _ => true
  | r + 1, j => decide (C.1 (sb j) = some (sg j)) && seeB sg sb C r (j + 1)
def fitB (n k q : Nat) (w sg sb d : Nat → Nat) (m u c : Nat) : Bool := decide ((runA k w (effE d u c) m 0 (openA n)).1 = none) && seeB sg sb (runA k w (effE d u c) m 0 (openA n)).2 q 0
abbrev KpS : Type := Nat × Option Nat × (Nat → Nat)
def kpA (fit : Nat → Bool) (u : Nat) (st : KpS) (c : Nat) : KpS := if fit c = true then (st.1 + 1, if st.1 = 0 then some c else st.2.1, fun i => st.2.2 i ||| 2 ^ dig u c i) else st
theorem kp_skip {fit : Nat → Bool} {u : Nat} : ∀ (l : List Nat) (st : KpS), (∀ c, c ∈ l → fit c = false) → l.foldl (kpA fit u) st = st
  | [], _, _ => rfl
  | c :: l, st, h => by
    simp only [List.foldl_cons]
    have h1 : kpA fit u st c = st := by
      unfold kpA
      rw [if_neg (by rw [h c (by simp)]; exact fun z => by cases z)]
    rw [h1]
    exact kp_skip l st (fun c hc => h c (by simp [hc]))
theorem kp_le {fit : Nat → Bool} {u : Nat} : ∀ (l : List Nat) (st : KpS), (l.foldl (kpA fit u) st).1 ≤ st.1 + l.length
  | [], st => Nat.le_refl _
  | c :: l, st => by
    simp only [List.foldl_cons, List.length_cons]
    have h1 := kp_le (fit := fit) (u := u) l (kpA fit u st c)
    have h2 : (kpA fit u st c).1 ≤ st.1 + 1 := by
      unfold kpA
      split
      · exact Nat.le_refl _
      · omega
    omega
def GuR (u : Nat) (st : KpS) : GueS → Prop
  | (Q_ways, Q_untold, _, Q_first, Q_suspects) => Q_ways = nI st.1 ∧ Q_untold = nI u ∧ (st.1 ≠ 0 → ∃ c, st.2.1 = some c ∧ ∀ i, i < u → Q_first i = nI (dig u c i)) ∧ (st.1 = 0 → st.2.1 = none) ∧ ∀ i, i < u → Q_suspects i = nI (st.2.2 i) ∧ st.2.2 i < 256
def gTri : GueS → (Nat → Int32)
  | (_, _, Q_trial, _, _) => Q_trial
theorem lp_sights {n k q : Nat} {w sg sb : Nat → Nat} {H_beds H_law H_sights H_isKept : Int32} {H_worths H_sightGuests H_sightBeds : Nat → Int32} (hH : HouR (H_beds, H_law, H_sights, H_isKept, H_worths, H_sightGuests, H_sightBeds) (n, k, q, w, sg, sb)) (hq : q ≤ 6) (hsg : ∀ j, sg j < 8) (hsb : ∀ j, sb j < 8) {kk : Nat} {C : AIn} {I_law I_there I_empties I_waiting I_guestsWithFleas I_bedsWithFleas I_isCounting : Int32} {I_sleepers I_empty I_yard I_nights I_used I_sheets I_lastOnes : Nat → Int32} (hI : InR kk C (I_law, I_there, I_sleepers, I_empty, I_empties, I_yard, I_waiting, I_nights, I_used, I_sheets, I_lastOnes, I_guestsWithFleas, I_bedsWithFleas, I_isCounting)) : ∀ (r j fuel : Nat), q = j + r → r < fuel → f_X2_allSightsHold_L2 H_sights H_sightGuests H_sightBeds I_law I_there I_sleepers I_empty I_empties I_yard I_waiting I_nights I_used I_sheets I_lastOnes I_guestsWithFleas I_bedsWithFleas I_isCounting fuel (nI j) (fun x2_L2 => some (nI 1)) = some (nI (if seeB sg sb C r j = true then 1 else 0)) := by
  obtain rfl : H_sights = nI q := hH.2.2.1
  have hSG := hH.2.2.2.2.1
  have hSB := hH.2.2.2.2.2
  intro r
  induction r with
  | zero =>
    intro j fuel h1 h3
    obtain ⟨fuel, rfl⟩ : ∃ n, fuel = n + 1 := ⟨fuel - 1, by omega⟩
    rw [f_X2_allSightsHold_L2]
    have hs : seeB sg sb C 0 j = true := rfl
    rw [if_pos hs]
    by_cases h6 : 6 ≤ j
    · rw [if_pos (by rw [n_le (by omega) (by omega)]; exact h6)]
    · rw [if_neg (by rw [n_le (by omega) (by omega)]; exact h6), if_pos (by rw [n_le (by omega) (by omega)]; omega)]
  | succ r ih =>
    intro j fuel h1 h3
    obtain ⟨fuel, rfl⟩ : ∃ n, fuel = n + 1 := ⟨fuel - 1, by omega⟩
    have h8 := hsb j
    have hsl : I_sleepers (sb j) = cdO (C.1 (sb j)) := hI.2.2.1 _ (hsb j)
    have hst : seeB sg sb C (r + 1) j = (decide (C.1 (sb j) = some (sg j)) && seeB sg sb C r (j + 1)) := rfl
    rw [f_X2_allSightsHold_L2, hst]
    simp (disch := omega) only [n_le, c_leF, if_false, n_lt0, n_cl, false_or, hSB j (show j < 6 by omega), hSG j (show j < 6 by omega), f_sleeperOf, Option.bind_some, n_add]
    rw [hsl]
    by_cases e : C.1 (sb j) = some (sg j)
    · have e2 : cdO (C.1 (sb j)) = nI (sg j) := by
        rw [e]
        simp only [cdO]
        rw [Nat.min_eq_left (by have := hsg j; omega)]
      rw [if_pos e2, ih (j + 1) fuel (by omega) (by omega)]
      simp only [e, decide_true, Bool.true_and]
    · have e2 : ¬ cdO (C.1 (sb j)) = nI (sg j) := fun z => e (cdO_inj (hsg j) z)
      rw [if_neg e2]
      simp only [e, decide_false, Bool.false_and, Bool.false_eq_true, if_false]
theorem f_allSee {n k q : Nat} {w sg sb : Nat → Nat} {tH : HouS} (hH : HouR tH (n, k, q, w, sg, sb)) (hq : q ≤ 6) (hsg : ∀ j, sg j < 8) (hsb : ∀ j, sb j < 8) {kk : Nat} {C : AIn} {t : InnS} (hI : InR kk C t) : f_X2_allSightsHold tH t = some (nI (if seeB sg sb C q 0 = true then 1 else 0)) := by
  obtain ⟨H_beds, H_law, H_sights, H_isKept, H_worths, H_sightGuests, H_sightBeds⟩ := tH
  obtain ⟨I_law, I_there, I_sleepers, I_empty, I_empties, I_yard, I_waiting, I_nights, I_used, I_sheets, I_lastOnes, I_guestsWithFleas, I_bedsWithFleas, I_isCounting⟩ := t
  rw [f_X2_allSightsHold]
  exact lp_sights hH hq hsg hsb hI q 0 FU (by omega) (by rw [FU_eq]; omega)
theorem lp_keep45 {u c : Nat} (hu : u ≤ 3) {Tr : Nat → Int32} (hT : ∀ i, i < u → Tr i = nI (dig u c i)) (kL : Int32 → (Nat → Int32) → Option GueS) {s : Nat → Nat} : ∀ (r j fuel : Nat) (Y : Nat → Int32), u = j + r → r < fuel → (∀ i, i < u → s i < 256) → (∀ i, j ≤ i → i < u → Y i = nI (s i)) → (∀ i, i < j → Y i = nI (s i ||| 2 ^ dig u c i)) → ∃ x Y', f_X1_keepIfSeen_L45 (nI u) Tr fuel (nI j) Y kL = kL x Y' ∧ ∀ i, i < u → Y' i = nI (s i ||| 2 ^ dig u c i) := by
  intro r
  induction r with
  | zero =>
    intro j fuel Y h1 h3 hs hY1 hY2
    obtain ⟨fuel, rfl⟩ : ∃ n, fuel = n + 1 := ⟨fuel - 1, by omega⟩
    rw [f_X1_keepIfSeen_L45]
    by_cases h6 : 3 ≤ j
    · rw [if_pos (by rw [n_le (by omega) (by omega)]; exact h6)]
      exact ⟨_, Y, rfl, fun i hi => hY2 i (by omega)⟩
    · rw [if_neg (by rw [n_le (by omega) (by omega)]; exact h6), if_pos (by rw [n_le (by omega) (by omega)]; omega)]
      exact ⟨_, Y, rfl, fun i hi => hY2 i (by omega)⟩
  | succ r ih =>
    intro j fuel Y h1 h3 hs hY1 hY2
    obtain ⟨fuel, rfl⟩ : ∃ n, fuel = n + 1 := ⟨fuel - 1, by omega⟩
    have hd := dig_lt u c j
    have ho := b_or (s j) (hs j (by omega)) (dig u c j) hd
    rw [f_X1_keepIfSeen_L45]
    simp (disch := omega) only [n_le, c_leF, if_false, n_lt0, n_cl, false_or, n_add, hT j (show j < u by omega), hY1 j (show j ≤ j by omega) (show j < u by omega), b_sh _ hd, ho.1]
    refine ih (j + 1) fuel _ (by omega) (by omega) hs (fun i hi1 hi2 => ?_) (fun i hi => ?_)
    · simp only [upd]
      rw [if_neg (by omega)]
      exact hY1 i (by omega) hi2
    · simp only [upd]
      by_cases e : i = j
      · rw [if_pos e, e]
      · rw [if_neg e]
        exact hY2 i (by omega)
theorem or_lt {a g : Nat} (ha : a < 256) (hg : g < 8) : a ||| 2 ^ g < 256 := (b_or a ha g hg).2
theorem f_keepSeen {n k q : Nat} {w sg sb : Nat → Nat} {tH : HouS} (hH : HouR tH (n, k, q, w, sg, sb)) (hq : q ≤ 6) (hsg : ∀ j, sg j < 8) (hsb : ∀ j, sb j < 8) {kk : Nat} {C : AIn} {t : InnS} (hI : InR kk C t) {u c : Nat} (hu : u ≤ 3) {st : KpS} (hst : st.1 < 1000) {Q : GueS} (hQ : GuR u st Q) (hT : ∀ i, i < u → gTri Q i = nI (dig u c i)) {fit : Nat → Bool} (hfit : fit c = seeB sg sb C q 0) : ∃ Q', f_X1_keepIfSeen tH Q t = some Q' ∧ GuR u (kpA fit u st c) Q' ∧ gTri Q' = gTri Q := by
  have hs := f_allSee hH hq hsg hsb hI
  obtain ⟨H_beds, H_law, H_sights, H_isKept, H_worths, H_sightGuests, H_sightBeds⟩ := tH
  obtain ⟨I_law, I_there, I_sleepers, I_empty, I_empties, I_yard, I_waiting, I_nights, I_used, I_sheets, I_lastOnes, I_guestsWithFleas, I_bedsWithFleas, I_isCounting⟩ := t
  obtain ⟨q1, q2, q3, q4, q5⟩ := Q
  obtain ⟨rfl, rfl, h3, h4, h5⟩ := hQ
  have hT' : ∀ i, i < u → q3 i = nI (dig u c i) := hT
  rw [f_X1_keepIfSeen, hs]
  simp only [Option.bind_some]
  unfold kpA
  rw [hfit]
  by_cases e : seeB sg sb C q 0 = true
  · rw [if_pos e, if_pos e, if_neg (show ¬ nI 1 = 0 by decide)]
    obtain ⟨F, hF⟩ : ∃ F, FU = F := ⟨_, rfl⟩
    have hF2 : 20 < F := by rw [← hF, FU_eq]; omega
    rw [hF]
    unfold gJn
    dsimp only
    by_cases h0 : st.1 = 0
    · rw [if_pos (by rw [n_eq0 (by omega)]; exact h0)]
      obtain ⟨x, Y', e1, e2⟩ := lp_keep45 hu hT' (fun x2_L45 Q_suspects_L45 => some ((nI st.1 + (nI 1)), nI u, q3, va_cpy q3 q4 0 0 (nI 3).toNatClampNeg, Q_suspects_L45)) (s := st.2.2) u 0 F q5 (by omega) (by omega) (fun i hi => (h5 i hi).2) (fun i _ hi => (h5 i hi).1) (fun i hi => absurd hi (by omega))
      rw [e1]
      refine ⟨_, rfl, ⟨by rw [n_add], rfl, fun _ => ⟨c, by simp only [if_pos h0], fun i hi => ?_⟩, fun h => absurd h (by simp only; omega), fun i hi => ⟨e2 i hi, or_lt (h5 i hi).2 (dig_lt _ _ _)⟩⟩, rfl⟩
      rw [cpy_at (n_cl (by omega)) (by omega)]
      exact hT' i hi
    · rw [if_neg (by rw [n_eq0 (by omega)]; exact h0)]
      obtain ⟨x, Y', e1, e2⟩ := lp_keep45 hu hT' (fun x2_L45 Q_suspects_L45 => some ((nI st.1 + (nI 1)), nI u, q3, q4, Q_suspects_L45)) (s := st.2.2) u 0 F q5 (by omega) (by omega) (fun i hi => (h5 i hi).2) (fun i _ hi => (h5 i hi).1) (fun i hi => absurd hi (by omega))
      rw [e1]
      obtain ⟨c0, hc0, hc1⟩ := h3 h0
      exact ⟨_, rfl, ⟨by rw [n_add], rfl, fun _ => ⟨c0, by simp only [if_neg h0]; exact hc0, hc1⟩, fun h => absurd h (by simp only; omega), fun i hi => ⟨e2 i hi, or_lt (h5 i hi).2 (dig_lt _ _ _)⟩⟩, rfl⟩
  · rw [if_neg e, if_neg e, if_pos (show nI 0 = 0 from rfl)]
    exact ⟨_, rfl, ⟨rfl, rfl, h3, h4, h5⟩, rfl⟩
theorem cnt_same {d : Nat → Nat} {a : Nat} : ∀ (c : Nat), (∀ i, a ≤ i → i < a + c → d i ≠ 63) → cntQ d (a + c) = cntQ d a
  | 0, _ => rfl
  | c + 1, h => by
    have h1 := cnt_same c (fun i h1 h2 => h i h1 (by omega))
    show cntQ d (a + c) + (if d (a + c) = 63 then 1 else 0) = cntQ d a
    rw [if_neg (h _ (by omega) (by omega)), h1]
    rfl
theorem dig_sub {u p r j c : Nat} (hj : j < 8) (h1 : (8 * p + j) * 8 ^ r ≤ c) (h2 : c < (8 * p + j) * 8 ^ r + 8 ^ r) {dep : Nat} (hd : dep + (r + 1) = u) : dig u c dep = j := by
  unfold dig
  have e : u - 1 - dep = r := by omega
  rw [e]
  have h3 : c / 8 ^ r = 8 * p + j := by
    refine Nat.div_eq_of_lt_le h1 ?_
    rw [Nat.succ_mul]
    exact h2
  rw [h3]
  omega
