/-! the loops that move a row of cells down by one -/
theorem FU_eq : FU = 2000 := rfl
def shY (Y : Nat → Int32) (p k : Nat) : Nat → Int32 := fun i => if p ≤ i ∧ i + 1 < k then Y (i + 1) else Y i
theorem shY_0 (Y : Nat → Int32) (p k : Nat) (h : k ≤ p + 1) : shY Y p k = Y := by
  funext i
  simp only [shY]
  rw [if_neg (by omega)]
theorem shY_s (Y : Nat → Int32) (p j : Nat) (h : p ≤ j) : upd (shY Y p (j + 1)) j (shY Y p (j + 1) (j + 1)) = shY Y p (j + 2) := by
  funext i
  simp only [shY, upd]
  by_cases hi : i = j
  · subst hi
    rw [if_pos rfl, if_neg (by omega), if_pos (by omega)]
  · rw [if_neg hi]
    by_cases h1 : p ≤ i ∧ i + 1 < j + 1
    · rw [if_pos h1, if_pos (by omega)]
    · rw [if_neg h1, if_neg (by omega)]
theorem upd_same {Y : Nat → Int32} {j : Nat} {x : Int32} (h : Y j = x) : upd Y j x = Y := by
  funext i
  simp only [upd]
  by_cases hi : i = j
  · rw [if_pos hi, hi, h]
  · rw [if_neg hi]
/-- a row of cells that holds a list, shifted at p, holds the list without its p-th -/
theorem shY_hold {f : Nat → Int32} {Y : Nat → Int32} {l : List Nat} (hY : ∀ i, i < l.length → Y i = f (l.getD i 0)) {p : Nat} (hp : p < l.length) : ∀ i, i < (l.eraseIdx p).length → shY Y p l.length i = f ((l.eraseIdx p).getD i 0) := by
  intro i hi
  rw [List.length_eraseIdx_of_lt hp] at hi
  simp only [shY, List.getD_eq_getElem?_getD, List.getElem?_eraseIdx]
  by_cases h : i < p
  · rw [if_neg (by omega), if_pos h, hY i (by omega), List.getD_eq_getElem?_getD]
  · rw [if_pos (by omega), if_neg h, hY (i + 1) (by omega), List.getD_eq_getElem?_getD]
theorem lp_takeFromEmpty {len p : Nat} (hlen : len ≤ 8) (E : Nat → Int32) (kL : Int32 → (Nat → Int32) → Option (Int32 × InnS)) : ∀ (d j fuel : Nat), len = j + d → p + 1 ≤ j → d < fuel → f_X3_takeFromEmpty_L31 (nI len) fuel (nI j) (shY E p j) kL = kL (nI len) (shY E p len) := by
  intro d
  induction d with
  | zero =>
    intro j fuel h1 h2 h3
    obtain ⟨fuel, rfl⟩ : ∃ n, fuel = n + 1 := ⟨fuel - 1, by omega⟩
    have hj : j = len := by omega
    subst hj
    rw [f_X3_takeFromEmpty_L31]
    by_cases h8 : 8 ≤ j
    · simp (disch := omega) only [n_lt, n_le, n_eq, n_lt0, n_ge0, n_eq0, n_gt0, n_le0, n_cl, n_add, n_sub, n_mul, n_m1, n_m6, m1_lt, m6_lt, m1_ge, m6_ge, m1_eq, m6_eq0, m1_eq0, c_leT, c_leF, c_ltT, c_ltF, c_eqF, false_or, or_false, or_self, if_true, if_false, ite_true, ite_false, Option.bind_some, not_true_eq_false, not_false_eq_true, reduceIte]
    · simp (disch := omega) only [n_lt, n_le, n_eq, n_lt0, n_ge0, n_eq0, n_gt0, n_le0, n_cl, n_add, n_sub, n_mul, n_m1, n_m6, m1_lt, m6_lt, m1_ge, m6_ge, m1_eq, m6_eq0, m1_eq0, c_leT, c_leF, c_ltT, c_ltF, c_eqF, false_or, or_false, or_self, if_true, if_false, ite_true, ite_false, Option.bind_some, not_true_eq_false, not_false_eq_true, reduceIte]
  | succ d ih =>
    intro j fuel h1 h2 h3
    obtain ⟨fuel, rfl⟩ : ∃ n, fuel = n + 1 := ⟨fuel - 1, by omega⟩
    rw [f_X3_takeFromEmpty_L31]
    obtain ⟨j', rfl⟩ : ∃ n, j = n + 1 := ⟨j - 1, by omega⟩
    simp (disch := omega) only [n_lt, n_le, n_eq, n_lt0, n_ge0, n_eq0, n_gt0, n_le0, n_cl, n_add, n_sub, n_mul, n_m1, n_m6, m1_lt, m6_lt, m1_ge, m6_ge, m1_eq, m6_eq0, m1_eq0, c_leT, c_leF, c_ltT, c_ltF, c_eqF, false_or, or_false, or_self, if_true, if_false, ite_true, ite_false, Option.bind_some, not_true_eq_false, not_false_eq_true, reduceIte]
    rw [show j' + 1 - 1 = j' by omega, shY_s E p j' (by omega)]
    exact ih (j' + 1 + 1) fuel (by omega) (by omega) (by omega)
theorem lp_comeIn54 {len p : Nat} (hlen : len ≤ 8) (E : Nat → Int32) (kL : Int32 → (Nat → Int32) → Option ModS) : ∀ (d j fuel : Nat), len = j + 1 + d → p ≤ j → d < fuel → f_X6_comeIn_L54 (nI (len - 1)) fuel (nI j) (shY E p (j + 1)) kL = kL (nI (len - 1)) (shY E p len) := by
  intro d
  induction d with
  | zero =>
    intro j fuel h1 h2 h3
    obtain ⟨fuel, rfl⟩ : ∃ n, fuel = n + 1 := ⟨fuel - 1, by omega⟩
    have hj : len = j + 1 := by omega
    subst hj
    rw [f_X6_comeIn_L54]
    simp (disch := omega) only [n_lt, n_le, n_eq, n_lt0, n_ge0, n_eq0, n_gt0, n_le0, n_cl, n_add, n_sub, n_mul, n_m1, n_m6, m1_lt, m6_lt, m1_ge, m6_ge, m1_eq, m6_eq0, m1_eq0, c_leT, c_leF, c_ltT, c_ltF, c_eqF, false_or, or_false, or_self, if_true, if_false, ite_true, ite_false, Option.bind_some, not_true_eq_false, not_false_eq_true, reduceIte, Nat.add_sub_cancel]
  | succ d ih =>
    intro j fuel h1 h2 h3
    obtain ⟨fuel, rfl⟩ : ∃ n, fuel = n + 1 := ⟨fuel - 1, by omega⟩
    rw [f_X6_comeIn_L54]
    simp (disch := omega) only [n_lt, n_le, n_eq, n_lt0, n_ge0, n_eq0, n_gt0, n_le0, n_cl, n_add, n_sub, n_mul, n_m1, n_m6, m1_lt, m6_lt, m1_ge, m6_ge, m1_eq, m6_eq0, m1_eq0, c_leT, c_leF, c_ltT, c_ltF, c_eqF, false_or, or_false, or_self, if_true, if_false, ite_true, ite_false, Option.bind_some, not_true_eq_false, not_false_eq_true, reduceIte]
    rw [shY_s E p j (by omega)]
    exact ih (j + 1) fuel (by omega) (by omega) (by omega)
theorem lp_outOfYard {len p : Nat} (hlen : len ≤ 64) (E : Nat → Int32) (kL : Int32 → (Nat → Int32) → Option ModS) : ∀ (d j fuel : Nat), len = j + 1 + d → p ≤ j → d < fuel → f_X6_outOfYard_L12 (nI (len - 1)) fuel (nI j) (shY E p (j + 1)) kL = kL (nI (len - 1)) (shY E p len) := by
  intro d
  induction d with
  | zero =>
    intro j fuel h1 h2 h3
    obtain ⟨fuel, rfl⟩ : ∃ n, fuel = n + 1 := ⟨fuel - 1, by omega⟩
    have hj : len = j + 1 := by omega
    subst hj
    rw [f_X6_outOfYard_L12]
    simp (disch := omega) only [n_lt, n_le, n_eq, n_lt0, n_ge0, n_eq0, n_gt0, n_le0, n_cl, n_add, n_sub, n_mul, n_m1, n_m6, m1_lt, m6_lt, m1_ge, m6_ge, m1_eq, m6_eq0, m1_eq0, c_leT, c_leF, c_ltT, c_ltF, c_eqF, false_or, or_false, or_self, if_true, if_false, ite_true, ite_false, Option.bind_some, not_true_eq_false, not_false_eq_true, reduceIte, Nat.add_sub_cancel]
  | succ d ih =>
    intro j fuel h1 h2 h3
    obtain ⟨fuel, rfl⟩ : ∃ n, fuel = n + 1 := ⟨fuel - 1, by omega⟩
    rw [f_X6_outOfYard_L12]
    simp (disch := omega) only [n_lt, n_le, n_eq, n_lt0, n_ge0, n_eq0, n_gt0, n_le0, n_cl, n_add, n_sub, n_mul, n_m1, n_m6, m1_lt, m6_lt, m1_ge, m6_ge, m1_eq, m6_eq0, m1_eq0, c_leT, c_leF, c_ltT, c_ltF, c_eqF, false_or, or_false, or_self, if_true, if_false, ite_true, ite_false, Option.bind_some, not_true_eq_false, not_false_eq_true, reduceIte]
    rw [shY_s E p j (by omega)]
    exact ih (j + 1) fuel (by omega) (by omega) (by omega)
/-- leaveYard behind the one that goes -/
theorem lp_leaveYardB {len p : Nat} (x : Int32) (hlen : len ≤ 16) (Y : Nat → Int32) (kL : Int32 → Int32 → Int32 → (Nat → Int32) → Option InnS) : ∀ (d j fuel : Nat), len = j + 1 + d → p ≤ j → d < fuel → f_X3_leaveYard_L7 x (nI len) fuel (nI j) (nI 1) (nI (j + 1)) (shY Y p (j + 1)) kL = kL (nI (len - 1)) (nI 1) (nI len) (shY Y p len) := by
  intro d
  induction d with
  | zero =>
    intro j fuel h1 h2 h3
    obtain ⟨fuel, rfl⟩ : ∃ n, fuel = n + 1 := ⟨fuel - 1, by omega⟩
    have hj : len = j + 1 := by omega
    subst hj
    rw [f_X3_leaveYard_L7]
    by_cases h8 : 16 ≤ j + 1
    · simp (disch := omega) only [n_lt, n_le, n_eq, n_lt0, n_ge0, n_eq0, n_gt0, n_le0, n_cl, n_add, n_sub, n_mul, n_m1, n_m6, m1_lt, m6_lt, m1_ge, m6_ge, m1_eq, m6_eq0, m1_eq0, c_leT, c_leF, c_ltT, c_ltF, c_eqF, false_or, or_false, or_self, if_true, if_false, ite_true, ite_false, Option.bind_some, not_true_eq_false, not_false_eq_true, reduceIte, Nat.add_sub_cancel]
    · simp (disch := omega) only [n_lt, n_le, n_eq, n_lt0, n_ge0, n_eq0, n_gt0, n_le0, n_cl, n_add, n_sub, n_mul, n_m1, n_m6, m1_lt, m6_lt, m1_ge, m6_ge, m1_eq, m6_eq0, m1_eq0, c_leT, c_leF, c_ltT, c_ltF, c_eqF, false_or, or_false, or_self, if_true, if_false, ite_true, ite_false, Option.bind_some, not_true_eq_false, not_false_eq_true, reduceIte, Nat.add_sub_cancel]
  | succ d ih =>
    intro j fuel h1 h2 h3
    obtain ⟨fuel, rfl⟩ : ∃ n, fuel = n + 1 := ⟨fuel - 1, by omega⟩
    rw [f_X3_leaveYard_L7]
    simp (disch := omega) only [n_lt, n_le, n_eq, n_lt0, n_ge0, n_eq0, n_gt0, n_le0, n_cl, n_add, n_sub, n_mul, n_m1, n_m6, m1_lt, m6_lt, m1_ge, m6_ge, m1_eq, m6_eq0, m1_eq0, c_leT, c_leF, c_ltT, c_ltF, c_eqF, false_or, or_false, or_self, if_true, if_false, ite_true, ite_false, Option.bind_some, not_true_eq_false, not_false_eq_true, reduceIte]
    rw [shY_s Y p j (by omega)]
    exact ih (j + 1) fuel (by omega) (by omega) (by omega)
/-- leaveYard from its first: p is the place of the one that goes -/
theorem lp_leaveYard {len p : Nat} (x : Int32) (hlen : len ≤ 16) (hp : p < len) (Y : Nat → Int32) (hx : Y p = x) (hn : ∀ i, i < p → Y i ≠ x) (kL : Int32 → Int32 → Int32 → (Nat → Int32) → Option InnS) : ∀ (d j fuel : Nat), p = j + d → len < fuel + j → f_X3_leaveYard_L7 x (nI len) fuel (nI j) (nI 0) (nI j) Y kL = kL (nI (len - 1)) (nI 1) (nI len) (shY Y p len) := by
  intro d
  induction d with
  | zero =>
    intro j fuel h1 h3
    obtain ⟨fuel, rfl⟩ : ∃ n, fuel = n + 1 := ⟨fuel - 1, by omega⟩
    have hj : p = j := by omega
    subst hj
    rw [f_X3_leaveYard_L7]
    simp (disch := omega) only [n_lt, n_le, n_eq, n_lt0, n_ge0, n_eq0, n_gt0, n_le0, n_cl, n_add, n_sub, n_mul, n_m1, n_m6, m1_lt, m6_lt, m1_ge, m6_ge, m1_eq, m6_eq0, m1_eq0, c_leT, c_leF, c_ltT, c_ltF, c_eqF, false_or, or_false, or_self, if_true, if_false, ite_true, ite_false, Option.bind_some, not_true_eq_false, not_false_eq_true, reduceIte, hx]
    have h := lp_leaveYardB (p := p) x hlen Y kL (len - (p + 1)) p fuel (by omega) (by omega) (by omega)
    rw [shY_0 Y p (p + 1) (by omega)] at h
    exact h
  | succ d ih =>
    intro j fuel h1 h3
    obtain ⟨fuel, rfl⟩ : ∃ n, fuel = n + 1 := ⟨fuel - 1, by omega⟩
    rw [f_X3_leaveYard_L7]
    have hne : (Y j = x) = False := eq_false (hn j (by omega))
    simp (disch := omega) only [n_lt, n_le, n_eq, n_lt0, n_ge0, n_eq0, n_gt0, n_le0, n_cl, n_add, n_sub, n_mul, n_m1, n_m6, m1_lt, m6_lt, m1_ge, m6_ge, m1_eq, m6_eq0, m1_eq0, c_leT, c_leF, c_ltT, c_ltF, c_eqF, false_or, or_false, or_self, if_true, if_false, ite_true, ite_false, Option.bind_some, not_true_eq_false, not_false_eq_true, reduceIte, hne]
    rw [upd_same rfl]
    exact ih (j + 1) fuel (by omega) (by omega)
/-- goOut's search in the yard -/
theorem lp_goOut {p : Nat} (x : Int32) (hp : p < 64) (Y : Nat → Int32) (hx : Y p = x) (hn : ∀ i, i < p → Y i ≠ x) (kL : Int32 → Option ModS) : ∀ (d j fuel : Nat), p = j + d → d < fuel → f_X6_goOut_L12 x Y fuel (nI j) kL = kL (nI p) := by
  intro d
  induction d with
  | zero =>
    intro j fuel h1 h3
    obtain ⟨fuel, rfl⟩ : ∃ n, fuel = n + 1 := ⟨fuel - 1, by omega⟩
    have hj : p = j := by omega
    subst hj
    rw [f_X6_goOut_L12]
    simp (disch := omega) only [n_lt, n_le, n_eq, n_lt0, n_ge0, n_eq0, n_gt0, n_le0, n_cl, n_add, n_sub, n_mul, n_m1, n_m6, m1_lt, m6_lt, m1_ge, m6_ge, m1_eq, m6_eq0, m1_eq0, c_leT, c_leF, c_ltT, c_ltF, c_eqF, false_or, or_false, or_self, if_true, if_false, ite_true, ite_false, Option.bind_some, not_true_eq_false, not_false_eq_true, reduceIte, hx]
  | succ d ih =>
    intro j fuel h1 h3
    obtain ⟨fuel, rfl⟩ : ∃ n, fuel = n + 1 := ⟨fuel - 1, by omega⟩
    rw [f_X6_goOut_L12]
    have hne : (Y j = x) = False := eq_false (hn j (by omega))
    simp (disch := omega) only [n_lt, n_le, n_eq, n_lt0, n_ge0, n_eq0, n_gt0, n_le0, n_cl, n_add, n_sub, n_mul, n_m1, n_m6, m1_lt, m6_lt, m1_ge, m6_ge, m1_eq, m6_eq0, m1_eq0, c_leT, c_leF, c_ltT, c_ltF, c_eqF, false_or, or_false, or_self, if_true, if_false, ite_true, ite_false, Option.bind_some, not_true_eq_false, not_false_eq_true, reduceIte, hne]
    exact ih (j + 1) fuel (by omega) (by omega)
