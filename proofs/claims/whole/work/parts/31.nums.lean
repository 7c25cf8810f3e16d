/-! numbers: nI of naturals below 2^31; the rows that evaluate the printed functions -/
theorem n_lt {a b : Nat} (ha : a < 2147483648) (hb : b < 2147483648) : (nI a < nI b) = (a < b) := propext (nI_ltI (by omega) (by omega))
theorem n_le {a b : Nat} (ha : a < 2147483648) (hb : b < 2147483648) : (nI a ≤ nI b) = (a ≤ b) := propext (nI_leI (by omega) (by omega))
theorem n_eq {a b : Nat} (ha : a < 2147483648) (hb : b < 2147483648) : (nI a = nI b) = (a = b) := propext (nI_eq (by omega) (by omega))
theorem n_lt0 {a : Nat} (ha : a < 2147483648) : (nI a < 0) = False := eq_false (nI_pos (by omega))
theorem n_ge0 {a : Nat} (ha : a < 2147483648) : (0 ≤ nI a) = True := eq_true (nI_pos' (by omega))
theorem n_eq0 {a : Nat} (ha : a < 2147483648) : (nI a = 0) = (a = 0) := by
  have h := n_eq (a := a) (b := 0) ha (by omega)
  exact h
theorem n_gt0 {a : Nat} (ha : a < 2147483648) : (0 < nI a) = (0 < a) := by
  have h := n_lt (a := 0) (b := a) (by omega) ha
  exact h
theorem n_le0 {a : Nat} (ha : a < 2147483648) : (nI a ≤ 0) = (a = 0) := by
  have h := n_le (a := a) (b := 0) ha (by omega)
  have h2 : (a ≤ 0) = (a = 0) := propext (by omega)
  exact h.trans h2
theorem n_cl {a : Nat} (ha : a < 2147483648) : (nI a).toNatClampNeg = a := nI_clamp (by omega)
theorem n_add (a b : Nat) : nI a + nI b = nI (a + b) := nI_add a b
theorem n_sub {a b : Nat} (h : b ≤ a) : nI a - nI b = nI (a - b) := pk_sub h
theorem n_mul (a b : Nat) : nI a * nI b = nI (a * b) := pk_mul a b
theorem n_m1 {a : Nat} (ha : a < 2147483648) : (nI a = -1) = False := eq_false (fun h => by
  have h1 := nI_pos' (n := a) (by omega)
  rw [h] at h1
  exact absurd h1 (by decide))
theorem n_m6 {a : Nat} (ha : a < 2147483648) : (nI a = -6) = False := eq_false (fun h => by
  have h1 := nI_pos' (n := a) (by omega)
  rw [h] at h1
  exact absurd h1 (by decide))
theorem m1_lt : ((-1 : Int32) < 0) = True := by decide
theorem m6_lt : ((-6 : Int32) < 0) = True := by decide
theorem m1_ge : ((0 : Int32) ≤ -1) = False := by decide
theorem m6_ge : ((0 : Int32) ≤ -6) = False := by decide
theorem m1_eq {a : Nat} (ha : a < 2147483648) : ((-1 : Int32) = nI a) = False := eq_false (fun h => by
  have h1 := n_m1 ha
  rw [h] at h1
  exact absurd rfl (of_eq_false h1))
theorem m1_eq0 : ((-1 : Int32) = 0) = False := by decide
theorem m6_eq0 : ((-6 : Int32) = 0) = False := by decide
theorem c_leT {a b : Nat} (h : a ≤ b) : (a ≤ b) = True := eq_true h
theorem c_leF {a b : Nat} (h : b < a) : (a ≤ b) = False := eq_false (by omega)
theorem c_ltT {a b : Nat} (h : a < b) : (a < b) = True := eq_true h
theorem c_ltF {a b : Nat} (h : b ≤ a) : (a < b) = False := eq_false (by omega)
theorem c_eqF {a b : Nat} (h : a ≠ b) : (a = b) = False := eq_false h
/-- bits of a set of guests, of beds -/
def bitN (g : Nat) : Nat := if g < 8 then 2 ^ g else 0
def clr (tm g : Nat) : Nat := if tm.testBit g then tm - 2 ^ g else tm
theorem b_sh : ∀ g, g < 8 → nI 1 <<< (nI g &&& 31) = nI (2 ^ g) := by decide +kernel
theorem b_tst : ∀ tm, tm < 256 → ∀ g, g < 8 → ((nI tm &&& nI (2 ^ g)) = 0 ↔ tm.testBit g = false) := by decide +kernel
theorem b_or : ∀ tm, tm < 256 → ∀ g, g < 8 → nI tm ||| nI (2 ^ g) = nI (tm ||| 2 ^ g) ∧ tm ||| 2 ^ g < 256 := by decide +kernel
theorem b_clr : ∀ tm, tm < 256 → ∀ g, g < 8 → nI tm &&& (nI (2 ^ g) ^^^ (-1)) = nI (clr tm g) ∧ clr tm g < 256 := by decide +kernel
theorem b_or0 (tm : Nat) : nI tm ||| nI 0 = nI tm := by
  show Int32.ofNat tm ||| 0 = Int32.ofNat tm
  simp
theorem b_clr0 : ∀ tm, tm < 256 → nI tm &&& (nI 0 ^^^ (-1)) = nI tm := by decide +kernel
theorem b_tst0 : ∀ tm, tm < 256 → (nI tm &&& nI 0) = 0 := by decide +kernel
theorem b_torR : ∀ tm, tm < 256 → ∀ g, g < 8 → ∀ j, j < 8 → ((tm ||| 2 ^ g).testBit j = true ↔ (j = g ∨ tm.testBit j = true)) := by decide +kernel
theorem b_tclr : ∀ tm, tm < 256 → ∀ g, g < 8 → ∀ j, j < 8 → ((clr tm g).testBit j = true ↔ (j ≠ g ∧ tm.testBit j = true)) := by decide +kernel
theorem f_bitOf {g : Nat} (hg : g < 2147483648) : f_X3_bitOf (nI g) = some (nI (bitN g)) := by
  unfold f_X3_bitOf bitN
  by_cases h : g < 8
  · simp (disch := omega) only [n_lt, n_le, n_eq, n_lt0, n_ge0, n_eq0, n_gt0, n_le0, n_cl, n_add, n_sub, n_mul, n_m1, n_m6, m1_lt, m6_lt, m1_ge, m6_ge, m1_eq, m6_eq0, m1_eq0, c_leT, c_leF, c_ltT, c_ltF, c_eqF, false_or, or_false, or_self, if_true, if_false, ite_true, ite_false, Option.bind_some, not_true_eq_false, not_false_eq_true, reduceIte, b_sh g h]
  · simp (disch := omega) only [n_lt, n_le, n_eq, n_lt0, n_ge0, n_eq0, n_gt0, n_le0, n_cl, n_add, n_sub, n_mul, n_m1, n_m6, m1_lt, m6_lt, m1_ge, m6_ge, m1_eq, m6_eq0, m1_eq0, c_leT, c_leF, c_ltT, c_ltF, c_eqF, false_or, or_false, or_self, if_true, if_false, ite_true, ite_false, Option.bind_some, not_true_eq_false, not_false_eq_true, reduceIte]
theorem f_bitOf_m1 : f_X3_bitOf (-1) = some (nI 0) := by
  unfold f_X3_bitOf
  simp only [m1_lt, if_true]
