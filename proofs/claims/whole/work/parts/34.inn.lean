/-! the class's inn as a picture of the abstract one -/
def cdO : Option Nat → Int32
  | none => -1
  | some g => nI (min g 8)
def InR (k : Nat) (C : AIn) : InnS → Prop
  | (I_law, I_there, I_sleepers, I_empty, I_empties, I_yard, I_waiting, I_nights, I_used, I_sheets, I_lastOnes, I_guestsWithFleas, I_bedsWithFleas, I_isCounting) => I_law = nI k ∧ (∃ tm, tm < 256 ∧ I_there = nI tm ∧ ∀ g, g < 8 → (tm.testBit g = true ↔ presA C g)) ∧ (∀ b, b < 8 → I_sleepers b = cdO (C.1 b)) ∧ I_empties = nI C.2.1.length ∧ (∀ i, i < C.2.1.length → I_empty i = nI (C.2.1.getD i 0)) ∧ I_waiting = nI C.2.2.length ∧ ∀ i, i < C.2.2.length → I_yard i = nI (min (C.2.2.getD i 0) 8)
/-- what is counted: nights, used, sheets, who was last, fleas -/
abbrev AKn : Type := (Nat → Nat) × (Nat → Nat) × (Nat → Nat) × (Nat → Option Nat) × Nat × Nat
def cdL : Option Nat → Int32
  | none => -1
  | some g => nI g
def KnR : AKn → InnS → Prop
  | (ni, us, sh, la, gf, bf), (I_law, I_there, I_sleepers, I_empty, I_empties, I_yard, I_waiting, I_nights, I_used, I_sheets, I_lastOnes, I_guestsWithFleas, I_bedsWithFleas, I_isCounting) => (∀ b, b < 8 → I_nights b = nI (ni b)) ∧ (∀ b, b < 8 → I_used b = nI (us b)) ∧ (∀ b, b < 8 → I_sheets b = nI (sh b)) ∧ (∀ b, b < 8 → I_lastOnes b = cdL (la b)) ∧ I_guestsWithFleas = nI gf ∧ I_bedsWithFleas = nI bf ∧ I_isCounting = nI 1 ∧ (∀ b g, la b = some g → g < 8) ∧ gf < 256 ∧ bf < 256
def takeK (b g : Nat) : AKn → AKn
  | (ni, us, sh, la, gf, bf) => (ni, upO us b (us b + 1), if la b = some g then sh else upO sh b (sh b + 1), upO la b (some g), gf, bf)
def comeK (ch g : Nat) (C : AIn) (K : AKn) : AKn := if C.2.1 = [] then K else takeK (C.2.1.getD ch 0) g K
def freeK (b : Nat) (C : AIn) (K : AKn) : AKn := match C.2.2 with
  | [] => K
  | y :: _ => takeK b y K
/-- which of the empty beds -/
def pickA (b : Nat → Nat → Bool) : Nat → Nat
  | 0 => 0
  | n + 1 => if n = 0 then 0 else if b n (pickA b n) then n else pickA b n
theorem pickA_lt (b : Nat → Nat → Bool) : ∀ n, 0 < n → pickA b n < n
  | 0, h => absurd h (by omega)
  | n + 1, _ => by
    simp only [pickA]
    by_cases h0 : n = 0
    · rw [if_pos h0]; omega
    · rw [if_neg h0]
      have := pickA_lt b n (by omega)
      split <;> omega
def wA (w : Nat → Nat) (g b : Nat) : Nat := if g < 8 then w (8 * g + b) else 0
def chA (k : Nat) (w : Nat → Nat) (em : List Nat) : Nat := if k = 0 then em.length - 1 else if k = 1 then 0 else if k = 2 then pickA (fun i j => decide (em.getD i 0 < em.getD j 0)) em.length else pickA (fun i j => decide (w (em.getD j 0) ≤ w (em.getD i 0))) em.length
theorem chA_lt (k : Nat) (w : Nat → Nat) (em : List Nat) (h : em ≠ []) : chA k w em < em.length := by
  have h0 : 0 < em.length := List.length_pos_iff.mpr h
  simp only [chA]
  split
  · omega
  · split
    · omega
    · split
      · exact pickA_lt _ _ h0
      · exact pickA_lt _ _ h0
theorem wA_le {w : Nat → Nat} (hw : ∀ j, w j ≤ 99) (g b : Nat) : wA w g b ≤ 99 := by
  unfold wA
  split
  · exact hw _
  · omega
theorem f_worthOf {n k q : Nat} {w sg sb : Nat → Nat} {tH : HouS} (h : HouR tH (n, k, q, w, sg, sb)) {g b : Nat} (hb : b < 8) : f_X2_worthOf (nI (min g 8)) (nI b) tH = some (nI (wA w g b)) := by
  obtain ⟨H_beds, H_law, H_sights, H_isKept, H_worths, H_sightGuests, H_sightBeds⟩ := tH
  obtain ⟨rfl, rfl, rfl, hW, hSG, hSB⟩ := h
  unfold f_X2_worthOf wA
  by_cases hg : g < 8
  · rw [Nat.min_eq_left (by omega)]
    simp (disch := omega) only [n_lt, n_le, n_eq, n_lt0, n_ge0, n_eq0, n_gt0, n_le0, n_cl, n_add, n_sub, n_mul, n_m1, n_m6, m1_lt, m6_lt, m1_ge, m6_ge, m1_eq, m6_eq0, m1_eq0, c_leT, c_leF, c_ltT, c_ltF, c_eqF, false_or, or_false, or_self, if_true, if_false, ite_true, ite_false, Option.bind_some, not_true_eq_false, not_false_eq_true, reduceIte]
    rw [hW _ (by omega), show g * 8 + b = 8 * g + b by omega]
  · rw [Nat.min_eq_right (by omega)]
    simp (disch := omega) only [n_lt, n_le, n_eq, n_lt0, n_ge0, n_eq0, n_gt0, n_le0, n_cl, n_add, n_sub, n_mul, n_m1, n_m6, m1_lt, m6_lt, m1_ge, m6_ge, m1_eq, m6_eq0, m1_eq0, c_leT, c_leF, c_ltT, c_ltF, c_eqF, false_or, or_false, or_self, if_true, if_false, ite_true, ite_false, Option.bind_some, not_true_eq_false, not_false_eq_true, reduceIte]
theorem lp_least {len : Nat} (hlen : len ≤ 8) (E : Nat → Int32) (em : Nat → Nat) (hE : ∀ i, i < len → E i = nI (em i)) (hs : ∀ i, i < len → em i < 2147483648) (kL : Int32 → Int32 → Option Int32) : ∀ (d j fuel : Nat), len = j + d → 1 ≤ j → d < fuel → f_X3_leastOfEmpty_L4 E (nI len) fuel (nI (pickA (fun i j => decide (em i < em j)) j)) (nI j) kL = kL (nI (pickA (fun i j => decide (em i < em j)) len)) (nI len) := by
  intro d
  induction d with
  | zero =>
    intro j fuel h1 h2 h3
    obtain ⟨fuel, rfl⟩ : ∃ n, fuel = n + 1 := ⟨fuel - 1, by omega⟩
    have hj : j = len := by omega
    subst hj
    rw [f_X3_leastOfEmpty_L4]
    by_cases h8 : 8 ≤ j
    · simp (disch := omega) only [n_lt, n_le, n_eq, n_lt0, n_ge0, n_eq0, n_gt0, n_le0, n_cl, n_add, n_sub, n_mul, n_m1, n_m6, m1_lt, m6_lt, m1_ge, m6_ge, m1_eq, m6_eq0, m1_eq0, c_leT, c_leF, c_ltT, c_ltF, c_eqF, false_or, or_false, or_self, if_true, if_false, ite_true, ite_false, Option.bind_some, not_true_eq_false, not_false_eq_true, reduceIte]
    · simp (disch := omega) only [n_lt, n_le, n_eq, n_lt0, n_ge0, n_eq0, n_gt0, n_le0, n_cl, n_add, n_sub, n_mul, n_m1, n_m6, m1_lt, m6_lt, m1_ge, m6_ge, m1_eq, m6_eq0, m1_eq0, c_leT, c_leF, c_ltT, c_ltF, c_eqF, false_or, or_false, or_self, if_true, if_false, ite_true, ite_false, Option.bind_some, not_true_eq_false, not_false_eq_true, reduceIte]
  | succ d ih =>
    intro j fuel h1 h2 h3
    obtain ⟨fuel, rfl⟩ : ∃ n, fuel = n + 1 := ⟨fuel - 1, by omega⟩
    rw [f_X3_leastOfEmpty_L4]
    have hp := pickA_lt (fun i j => decide (em i < em j)) j (by omega)
    have e1 := hE _ (show pickA (fun i j => decide (em i < em j)) j < len by omega)
    have e2 := hE j (by omega)
    have s1 := hs _ (show pickA (fun i j => decide (em i < em j)) j < len by omega)
    have s2 := hs j (by omega)
    have ih' := ih (j + 1) fuel (by omega) (by omega) (by omega)
    simp only [pickA, if_neg (show ¬ j = 0 by omega), decide_eq_true_eq] at ih'
    generalize pickA (fun i j => decide (em i < em j)) j = q at *
    simp (disch := omega) only [n_lt, n_le, n_eq, n_lt0, n_ge0, n_eq0, n_gt0, n_le0, n_cl, n_add, n_sub, n_mul, n_m1, n_m6, m1_lt, m6_lt, m1_ge, m6_ge, m1_eq, m6_eq0, m1_eq0, c_leT, c_leF, c_ltT, c_ltF, c_eqF, false_or, or_false, or_self, if_true, if_false, ite_true, ite_false, Option.bind_some, not_true_eq_false, not_false_eq_true, reduceIte, e1, e2]
    by_cases h : em q ≤ em j
    · rw [if_pos h]
      rw [if_neg (by omega)] at ih'
      exact ih'
    · rw [if_neg h]
      rw [if_pos (by omega)] at ih'
      exact ih'
theorem lp_dearest {n k q0 : Nat} {w sg sb : Nat → Nat} {H_beds H_law H_sights H_isKept : Int32} {H_worths H_sightGuests H_sightBeds : Nat → Int32} (h : HouR (H_beds, H_law, H_sights, H_isKept, H_worths, H_sightGuests, H_sightBeds) (n, k, q0, w, sg, sb)) (hw : ∀ j, w j ≤ 99) {g len : Nat} (hlen : len ≤ 8) (E : Nat → Int32) (em : Nat → Nat) (hE : ∀ i, i < len → E i = nI (em i)) (hs : ∀ i, i < len → em i < 8) (kL : Int32 → Int32 → Option Int32) : ∀ (d j fuel : Nat), len = j + d → 1 ≤ j → d < fuel → f_X3_dearestOfEmpty_L4 (nI (min g 8)) H_beds H_law H_sights H_isKept H_worths H_sightGuests H_sightBeds E (nI len) fuel (nI (pickA (fun i j => decide (wA w g (em j) ≤ wA w g (em i))) j)) (nI j) kL = kL (nI (pickA (fun i j => decide (wA w g (em j) ≤ wA w g (em i))) len)) (nI len) := by
  intro d
  induction d with
  | zero =>
    intro j fuel h1 h2 h3
    obtain ⟨fuel, rfl⟩ : ∃ n, fuel = n + 1 := ⟨fuel - 1, by omega⟩
    have hj : j = len := by omega
    subst hj
    rw [f_X3_dearestOfEmpty_L4]
    by_cases h8 : 8 ≤ j
    · simp (disch := omega) only [n_lt, n_le, n_eq, n_lt0, n_ge0, n_eq0, n_gt0, n_le0, n_cl, n_add, n_sub, n_mul, n_m1, n_m6, m1_lt, m6_lt, m1_ge, m6_ge, m1_eq, m6_eq0, m1_eq0, c_leT, c_leF, c_ltT, c_ltF, c_eqF, false_or, or_false, or_self, if_true, if_false, ite_true, ite_false, Option.bind_some, not_true_eq_false, not_false_eq_true, reduceIte]
    · simp (disch := omega) only [n_lt, n_le, n_eq, n_lt0, n_ge0, n_eq0, n_gt0, n_le0, n_cl, n_add, n_sub, n_mul, n_m1, n_m6, m1_lt, m6_lt, m1_ge, m6_ge, m1_eq, m6_eq0, m1_eq0, c_leT, c_leF, c_ltT, c_ltF, c_eqF, false_or, or_false, or_self, if_true, if_false, ite_true, ite_false, Option.bind_some, not_true_eq_false, not_false_eq_true, reduceIte]
  | succ d ih =>
    intro j fuel h1 h2 h3
    obtain ⟨fuel, rfl⟩ : ∃ n, fuel = n + 1 := ⟨fuel - 1, by omega⟩
    rw [f_X3_dearestOfEmpty_L4]
    have hp := pickA_lt (fun i j => decide (wA w g (em j) ≤ wA w g (em i))) j (by omega)
    have e1 := hE _ (show pickA (fun i j => decide (wA w g (em j) ≤ wA w g (em i))) j < len by omega)
    have e2 := hE j (by omega)
    have s1 := hs _ (show pickA (fun i j => decide (wA w g (em j) ≤ wA w g (em i))) j < len by omega)
    have s2 := hs j (by omega)
    have ih' := ih (j + 1) fuel (by omega) (by omega) (by omega)
    simp only [pickA, if_neg (show ¬ j = 0 by omega), decide_eq_true_eq] at ih'
    generalize pickA (fun i j => decide (wA w g (em j) ≤ wA w g (em i))) j = q at *
    have w1 := wA_le hw g (em q)
    have w2 := wA_le hw g (em j)
    simp (disch := omega) only [n_lt, n_le, n_eq, n_lt0, n_ge0, n_eq0, n_gt0, n_le0, n_cl, n_add, n_sub, n_mul, n_m1, n_m6, m1_lt, m6_lt, m1_ge, m6_ge, m1_eq, m6_eq0, m1_eq0, c_leT, c_leF, c_ltT, c_ltF, c_eqF, false_or, or_false, or_self, if_true, if_false, ite_true, ite_false, Option.bind_some, not_true_eq_false, not_false_eq_true, reduceIte, e1, e2, f_worthOf h s1, f_worthOf h s2]
    by_cases hc : wA w g (em j) < wA w g (em q)
    · rw [if_pos hc]
      rw [if_neg (by omega)] at ih'
      exact ih'
    · rw [if_neg hc]
      rw [if_pos (by omega)] at ih'
      exact ih'
theorem f_choice {n k q : Nat} {w sg sb : Nat → Nat} {tH : HouS} (h : HouR tH (n, k, q, w, sg, sb)) (hw : ∀ j, w j ≤ 99) {g kk : Nat} (hkk : kk < 4) {em : List Nat} (hlen : em.length ≤ 8) (hs : ∀ i, i < em.length → em.getD i 0 < 8) {I_law I_there I_empties I_waiting I_guestsWithFleas I_bedsWithFleas I_isCounting : Int32} {I_sleepers I_empty I_yard I_nights I_used I_sheets I_lastOnes : Nat → Int32} (hl : I_law = nI kk) (he : I_empties = nI em.length) (hE : ∀ i, i < em.length → I_empty i = nI (em.getD i 0)) : f_X3_choice (nI (min g 8)) tH (I_law, I_there, I_sleepers, I_empty, I_empties, I_yard, I_waiting, I_nights, I_used, I_sheets, I_lastOnes, I_guestsWithFleas, I_bedsWithFleas, I_isCounting) = some (if em = [] then -1 else nI (chA kk (wA w g) em)) := by
  obtain ⟨H_beds, H_law, H_sights, H_isKept, H_worths, H_sightGuests, H_sightBeds⟩ := tH
  subst hl he
  rw [f_X3_choice]
  by_cases h0 : em = []
  · subst h0
    rfl
  · rw [if_neg h0]
    have hp : 0 < em.length := List.length_pos_iff.mpr h0
    simp only [chA]
    rcases (show kk = 0 ∨ kk = 1 ∨ kk = 2 ∨ kk = 3 by omega) with rfl | rfl | rfl | rfl
    · simp (disch := omega) only [n_lt, n_le, n_eq, n_lt0, n_ge0, n_eq0, n_gt0, n_le0, n_cl, n_add, n_sub, n_mul, n_m1, n_m6, m1_lt, m6_lt, m1_ge, m6_ge, m1_eq, m6_eq0, m1_eq0, c_leT, c_leF, c_ltT, c_ltF, c_eqF, false_or, or_false, or_self, if_true, if_false, ite_true, ite_false, Option.bind_some, not_true_eq_false, not_false_eq_true, reduceIte]
    · simp (disch := omega) only [n_lt, n_le, n_eq, n_lt0, n_ge0, n_eq0, n_gt0, n_le0, n_cl, n_add, n_sub, n_mul, n_m1, n_m6, m1_lt, m6_lt, m1_ge, m6_ge, m1_eq, m6_eq0, m1_eq0, c_leT, c_leF, c_ltT, c_ltF, c_eqF, false_or, or_false, or_self, if_true, if_false, ite_true, ite_false, Option.bind_some, not_true_eq_false, not_false_eq_true, reduceIte]
    · simp (disch := omega) only [n_lt, n_le, n_eq, n_lt0, n_ge0, n_eq0, n_gt0, n_le0, n_cl, n_add, n_sub, n_mul, n_m1, n_m6, m1_lt, m6_lt, m1_ge, m6_ge, m1_eq, m6_eq0, m1_eq0, c_leT, c_leF, c_ltT, c_ltF, c_eqF, false_or, or_false, or_self, if_true, if_false, ite_true, ite_false, Option.bind_some, not_true_eq_false, not_false_eq_true, reduceIte]
      rw [f_X3_leastOfEmpty]
      have e := lp_least hlen I_empty (fun i => em.getD i 0) hE (fun i hi => by have := hs i hi; omega) (fun x1 x2 => some x1) (em.length - 1) 1 FU (by omega) (by omega) (by rw [FU_eq]; omega)
      simp only [pickA, if_true] at e
      rw [show (nI 0) = nI 0 from rfl]
      rw [e]
      rfl
    · simp (disch := omega) only [n_lt, n_le, n_eq, n_lt0, n_ge0, n_eq0, n_gt0, n_le0, n_cl, n_add, n_sub, n_mul, n_m1, n_m6, m1_lt, m6_lt, m1_ge, m6_ge, m1_eq, m6_eq0, m1_eq0, c_leT, c_leF, c_ltT, c_ltF, c_eqF, false_or, or_false, or_self, if_true, if_false, ite_true, ite_false, Option.bind_some, not_true_eq_false, not_false_eq_true, reduceIte]
      rw [f_X3_dearestOfEmpty]
      have e := lp_dearest h hw (g := g) hlen I_empty (fun i => em.getD i 0) hE (fun i hi => by have := hs i hi; omega) (fun x1 x2 => some x1) (em.length - 1) 1 FU (by omega) (by omega) (by rw [FU_eq]; omega)
      simp only [pickA, if_true] at e
      rw [e]
      rfl
