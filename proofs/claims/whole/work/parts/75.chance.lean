/-! chance: numbers -/
theorem l_cmp0 {a : Nat} (ha : a < 9223372036854775808) : (lg_cmp (lN a) (lN 0) = 0) = (a = 0) := by
  unfold lg_cmp
  have h1 := pk_lLT (a := 0) (b := a) (by omega) (by omega)
  have h2 := pk_lEQ (a := a) (b := 0) (by omega) (by omega)
  by_cases e : a = 0
  · have h3 : ¬ (lN a > lN 0) := fun z => by have := h1.mp z; omega
    rw [if_neg h3, if_pos (h2.mpr e)]
    simp only [e]
  · have h3 : lN a > lN 0 := h1.mpr (by omega)
    rw [if_pos h3]
    refine propext ⟨fun z => absurd z (by decide), fun z => absurd z e⟩
theorem l_ne0 {a : Nat} (ha : a < 9223372036854775808) (h : a ≠ 0) : ¬ lN a = 0 := fun e => h ((pk_lEQ (a := a) (b := 0) (by omega) (by omega)).mp e)
def twA (u l : Nat) : Nat × Nat := if u % 2 = 0 ∧ l % 2 = 0 then (u / 2, l / 2) else (u, l)
def fiA (u l : Nat) : Nat × Nat := if u % 5 = 0 ∧ l % 5 = 0 then (u / 5, l / 5) else (u, l)
def redA : Nat → Nat → Nat → Nat × Nat
  | 0, u, l => (u, l)
  | r + 1, u, l => redA r (fiA (twA u l).1 (twA u l).2).1 (fiA (twA u l).1 (twA u l).2).2
def nrm (u l : Nat) : Nat × Nat := (u / Nat.gcd u l, l / Nat.gcd u l)
theorem nrm_mul {c u l : Nat} (hc : 0 < c) : nrm (c * u) (c * l) = nrm u l := by
  unfold nrm
  rw [Nat.gcd_mul_left, Nat.mul_div_mul_left _ _ hc, Nat.mul_div_mul_left _ _ hc]
theorem nrm_tw (u l : Nat) : nrm (twA u l).1 (twA u l).2 = nrm u l := by
  unfold twA
  split
  · rename_i h
    have h1 : u = 2 * (u / 2) := by omega
    have h2 : l = 2 * (l / 2) := by omega
    have h3 := nrm_mul (c := 2) (u := u / 2) (l := l / 2) (by omega)
    rw [← h1, ← h2] at h3
    exact h3.symm
  · rfl
theorem nrm_fi (u l : Nat) : nrm (fiA u l).1 (fiA u l).2 = nrm u l := by
  unfold fiA
  split
  · rename_i h
    have h1 : u = 5 * (u / 5) := by omega
    have h2 : l = 5 * (l / 5) := by omega
    have h3 := nrm_mul (c := 5) (u := u / 5) (l := l / 5) (by omega)
    rw [← h1, ← h2] at h3
    exact h3.symm
  · rfl
def RdI (r u l : Nat) : Prop := ∃ a b, l = 2 ^ a * 5 ^ b ∧ (a ≤ r ∨ u % 2 = 1) ∧ (b ≤ r ∨ u % 5 ≠ 0)
theorem rd_step {r u l : Nat} (h : RdI (r + 1) u l) : RdI r (fiA (twA u l).1 (twA u l).2).1 (fiA (twA u l).1 (twA u l).2).2 := by
  obtain ⟨a, b, h1, h2, h3⟩ := h
  have h5o : ∀ z, 5 ^ z % 2 = 1 := fun z => by
    rw [Nat.pow_mod]
    simp
  have h2m : ∀ z, 2 ^ z % 5 ≠ 0 := fun z hz => by
    have hd := Nat.dvd_of_mod_eq_zero hz
    have hc : Nat.Coprime 5 (2 ^ z) := Nat.Coprime.pow_right z (by decide)
    have := Nat.Coprime.eq_one_of_dvd hc hd
    omega
  have k1 : ∃ a', (twA u l).2 = 2 ^ a' * 5 ^ b ∧ (a' ≤ r ∨ (twA u l).1 % 2 = 1) ∧ (b ≤ r + 1 ∨ (twA u l).1 % 5 ≠ 0) := by
    unfold twA
    by_cases hc : u % 2 = 0 ∧ l % 2 = 0
    · rw [if_pos hc]
      cases a with
      | zero =>
        rw [Nat.pow_zero, Nat.one_mul] at h1
        have := h5o b
        rw [← h1] at this
        omega
      | succ a =>
        refine ⟨a, ?_, Or.inl (by omega), ?_⟩
        · rw [h1, Nat.pow_succ, Nat.mul_comm (2 ^ a) 2, Nat.mul_assoc, Nat.mul_div_cancel_left _ (by omega)]
        · rcases h3 with h3 | h3
          · exact Or.inl h3
          · refine Or.inr (fun z => h3 ?_)
            have z' : u / 2 % 5 = 0 := z
            omega
    · rw [if_neg hc]
      refine ⟨a, h1, ?_, h3⟩
      by_cases hu : u % 2 = 0
      · have hl : l % 2 ≠ 0 := fun z => hc ⟨hu, z⟩
        cases a with
        | zero => exact Or.inl (Nat.zero_le _)
        | succ a =>
          exfalso
          rw [h1, Nat.pow_succ, Nat.mul_comm (2 ^ a) 2, Nat.mul_assoc] at hl
          omega
      · exact Or.inr (by omega)
  obtain ⟨a', k2, k3, k4⟩ := k1
  generalize (twA u l).1 = u' at *
  generalize (twA u l).2 = l' at *
  unfold fiA
  by_cases hc : u' % 5 = 0 ∧ l' % 5 = 0
  · rw [if_pos hc]
    cases b with
    | zero =>
      rw [Nat.pow_zero, Nat.mul_one] at k2
      have := h2m a'
      rw [← k2] at this
      omega
    | succ b =>
      refine ⟨a', b, ?_, ?_, Or.inl (by omega)⟩
      · rw [k2, Nat.pow_succ, ← Nat.mul_assoc, Nat.mul_div_cancel _ (by omega)]
      · rcases k3 with k3 | k3
        · exact Or.inl k3
        · refine Or.inr ?_
          show u' / 5 % 2 = 1
          omega
  · rw [if_neg hc]
    refine ⟨a', b, k2, k3, ?_⟩
    by_cases hu : u' % 5 = 0
    · have hl : l' % 5 ≠ 0 := fun z => hc ⟨hu, z⟩
      cases b with
      | zero => exact Or.inl (Nat.zero_le _)
      | succ b =>
        exfalso
        rw [k2, Nat.pow_succ, ← Nat.mul_assoc] at hl
        omega
    · exact Or.inr hu
theorem redA_nrm : ∀ (r u l : Nat), RdI r u l → redA r u l = nrm u l
  | 0, u, l, h => by
    obtain ⟨a, b, h1, h2, h3⟩ := h
    have c2 : Nat.Coprime u (2 ^ a) := by
      rcases h2 with h2 | h2
      · have : a = 0 := by omega
        rw [this, Nat.pow_zero]
        exact Nat.coprime_one_right u
      · refine Nat.Coprime.pow_right a ?_
        show Nat.gcd u 2 = 1
        rw [Nat.gcd_comm, Nat.gcd_rec, h2]
        decide
    have c5 : Nat.Coprime u (5 ^ b) := by
      rcases h3 with h3 | h3
      · have : b = 0 := by omega
        rw [this, Nat.pow_zero]
        exact Nat.coprime_one_right u
      · refine Nat.Coprime.pow_right b ?_
        show Nat.gcd u 5 = 1
        rw [Nat.gcd_comm, Nat.gcd_rec]
        have h4 : u % 5 = 1 ∨ u % 5 = 2 ∨ u % 5 = 3 ∨ u % 5 = 4 := by omega
        rcases h4 with h4 | h4 | h4 | h4 <;> rw [h4] <;> decide
    have hg : Nat.gcd u l = 1 := by
      rw [h1]
      exact Nat.Coprime.mul_right c2 c5
    unfold nrm
    rw [hg, Nat.div_one, Nat.div_one]
    rfl
  | r + 1, u, l, h => by
    simp only [redA]
    rw [redA_nrm r _ _ (rd_step h), nrm_fi, nrm_tw]
theorem redA_10 {m u : Nat} : redA m u (10 ^ m) = nrm u (10 ^ m) := by
  refine redA_nrm m u _ ⟨m, m, ?_, Or.inl (Nat.le_refl m), Or.inl (Nat.le_refl m)⟩
  rw [← Nat.mul_pow]
theorem lp_pl9 {m : Nat} (hm : m ≤ 8) (kL : Int64 → Int32 → Option Int64) : ∀ (c j fuel : Nat), m = j + c → c < fuel → f_X5_partInLowestTerms_L9 (nI m) fuel (lN (10 ^ j)) (nI j) kL = kL (lN (10 ^ m)) (nI m) := by
  intro c
  induction c with
  | zero =>
    intro j fuel h1 h3
    obtain ⟨fuel, rfl⟩ : ∃ n, fuel = n + 1 := ⟨fuel - 1, by omega⟩
    rw [f_X5_partInLowestTerms_L9, if_pos (by rw [n_le (by omega) (by omega)]; omega), show j = m by omega]
  | succ c ih =>
    intro j fuel h1 h3
    obtain ⟨fuel, rfl⟩ : ∃ n, fuel = n + 1 := ⟨fuel - 1, by omega⟩
    rw [f_X5_partInLowestTerms_L9, if_neg (by rw [n_le (by omega) (by omega)]; omega), lN_mul, n_add, ← Nat.pow_succ]
    exact ih (j + 1) fuel (by omega) (by omega)
theorem lp_pl32 {m : Nat} (hm : m ≤ 8) (kL : Int64 → Int64 → Int32 → Option Int64) : ∀ (c j fuel u l : Nat), m = j + c → c < fuel → u < 9223372036854775808 → l < 9223372036854775808 → f_X5_partInLowestTerms_L32 (nI m) fuel (lN u) (lN l) (nI j) kL = kL (lN (redA c u l).1) (lN (redA c u l).2) (nI m) := by
  intro c
  induction c with
  | zero =>
    intro j fuel u l h1 h3 hu hl
    obtain ⟨fuel, rfl⟩ : ∃ n, fuel = n + 1 := ⟨fuel - 1, by omega⟩
    rw [f_X5_partInLowestTerms_L32, if_pos (by rw [n_le (by omega) (by omega)]; omega), show j = m by omega]
    rfl
  | succ c ih =>
    intro j fuel u l h1 h3 hu hl
    obtain ⟨fuel, rfl⟩ : ∃ n, fuel = n + 1 := ⟨fuel - 1, by omega⟩
    have five : ∀ u l : Nat, u < 9223372036854775808 → l < 9223372036854775808 → (if (lg_cmp (lN u - lN u / (lN 5) * (lN 5)) (lN 0)) = 0 then (if (lg_cmp (lN l - lN l / (lN 5) * (lN 5)) (lN 0)) = 0 then f_X5_partInLowestTerms_L32 (nI m) fuel (lN u / (lN 5)) (lN l / (lN 5)) (nI j + (nI 1)) kL else f_X5_partInLowestTerms_L32 (nI m) fuel (lN u) (lN l) (nI j + (nI 1)) kL) else f_X5_partInLowestTerms_L32 (nI m) fuel (lN u) (lN l) (nI j + (nI 1)) kL) = kL (lN (redA c (fiA u l).1 (fiA u l).2).1) (lN (redA c (fiA u l).1 (fiA u l).2).2) (nI m) := by
      intro u l hu hl
      have hu5 := Nat.div_le_self u 5
      have hl5 := Nat.div_le_self l 5
      rw [pk_lRem (by omega) (by omega) (by omega), pk_lRem (by omega) (by omega) (by omega), pk_lDiv (by omega) (by omega) (by omega), pk_lDiv (by omega) (by omega) (by omega), n_add]
      unfold fiA
      by_cases h5 : u % 5 = 0
      · rw [if_pos (by rw [l_cmp0 (by omega)]; exact h5)]
        by_cases h6 : l % 5 = 0
        · rw [if_pos (by rw [l_cmp0 (by omega)]; exact h6)]
          simp only [if_pos (And.intro h5 h6)]
          exact ih (j + 1) fuel _ _ (by omega) (by omega) (by omega) (by omega)
        · rw [if_neg (by rw [l_cmp0 (by omega)]; exact h6)]
          simp only [if_neg (show ¬ (u % 5 = 0 ∧ l % 5 = 0) from fun z => h6 z.2)]
          exact ih (j + 1) fuel _ _ (by omega) (by omega) (by omega) (by omega)
      · rw [if_neg (by rw [l_cmp0 (by omega)]; exact h5)]
        simp only [if_neg (show ¬ (u % 5 = 0 ∧ l % 5 = 0) from fun z => h5 z.1)]
        exact ih (j + 1) fuel _ _ (by omega) (by omega) (by omega) (by omega)
    have hu2 := Nat.div_le_self u 2
    have hl2 := Nat.div_le_self l 2
    rw [f_X5_partInLowestTerms_L32, if_neg (by rw [n_le (by omega) (by omega)]; omega)]
    unfold gJn
    dsimp only
    rw [pk_lRem (a := u) (b := 2) (by omega) (by omega) (by omega), pk_lRem (a := l) (b := 2) (by omega) (by omega) (by omega), pk_lDiv (a := u) (b := 2) (by omega) (by omega) (by omega), pk_lDiv (a := l) (b := 2) (by omega) (by omega) (by omega)]
    simp only [redA]
    unfold twA
    by_cases h5 : u % 2 = 0
    · rw [if_pos (by rw [l_cmp0 (by omega)]; exact h5)]
      by_cases h6 : l % 2 = 0
      · rw [if_pos (by rw [l_cmp0 (by omega)]; exact h6)]
        simp only [if_pos (And.intro h5 h6)]
        exact five _ _ (by omega) (by omega)
      · rw [if_neg (by rw [l_cmp0 (by omega)]; exact h6)]
        simp only [if_neg (show ¬ (u % 2 = 0 ∧ l % 2 = 0) from fun z => h6 z.2)]
        exact five _ _ (by omega) (by omega)
    · rw [if_neg (by rw [l_cmp0 (by omega)]; exact h5)]
      simp only [if_neg (show ¬ (u % 2 = 0 ∧ l % 2 = 0) from fun z => h5 z.1)]
      exact five _ _ (by omega) (by omega)
theorem f_partIn {m w : Nat} (hm : m ≤ 8) (hw : w < 9223372036854775808) (x3 : Int32) : f_X5_partInLowestTerms (lN w) (nI m) x3 = some (if x3 = 0 then lN (nrm w (10 ^ m)).1 else lN (nrm w (10 ^ m)).2) := by
  have h10 : 10 ^ m ≤ 10 ^ 8 := Nat.pow_le_pow_right (by omega) hm
  rw [f_X5_partInLowestTerms]
  obtain ⟨F, hF⟩ : ∃ F, FU = F := ⟨_, rfl⟩
  have hF2 : 20 < F := by rw [← hF, FU_eq]; omega
  rw [hF]
  have e1 := fun kL => lp_pl9 hm kL m 0 F (by omega) (by omega)
  rw [Nat.pow_zero] at e1
  rw [e1, lp_pl32 hm _ m 0 F w (10 ^ m) (by omega) (by omega) hw (by omega), redA_10]
  split <;> rfl
/-- Euclid -/
theorem lp_254 (kL : Int64 → Int64 → Option (Int64 × ModS)) : ∀ (f x y fuel : Nat), y < 2 ^ f → 2 * f < fuel → x < 9223372036854775808 → y < 9223372036854775808 → ∃ z, f_X6_chance_L254 fuel (lN x) (lN y) kL = kL (lN (Nat.gcd x y)) z := by
  intro f
  induction f with
  | zero =>
    intro x y fuel hy hf hx1 hy1
    obtain ⟨fuel, rfl⟩ : ∃ n, fuel = n + 1 := ⟨fuel - 1, by omega⟩
    have h0 : y = 0 := by rw [Nat.pow_zero] at hy; omega
    subst h0
    rw [f_X6_chance_L254, if_pos (by rw [l_cmp0 (by omega)]), Nat.gcd_zero_right]
    exact ⟨_, rfl⟩
  | succ f ih =>
    intro x y fuel hy hf hx1 hy1
    obtain ⟨fuel, rfl⟩ : ∃ n, fuel = n + 1 + 1 := ⟨fuel - 2, by omega⟩
    rw [Nat.pow_succ] at hy
    by_cases h0 : y = 0
    · subst h0
      rw [f_X6_chance_L254, if_pos (by rw [l_cmp0 (by omega)]), Nat.gcd_zero_right]
      exact ⟨_, rfl⟩
    · have hlt := Nat.mod_lt x (show y > 0 by omega)
      have hg1 : Nat.gcd x y = Nat.gcd y (x % y) := by
        rw [Nat.gcd_comm x y, Nat.gcd_rec, Nat.gcd_comm]
      rw [f_X6_chance_L254, if_neg (by rw [l_cmp0 (by omega)]; exact h0), if_neg (l_ne0 (by omega) h0), pk_lRem (by omega) (by omega) (by omega), hg1]
      by_cases h1 : x % y = 0
      · rw [h1, f_X6_chance_L254, if_pos (by rw [l_cmp0 (by omega)]), Nat.gcd_zero_right]
        exact ⟨_, rfl⟩
      · generalize x % y = r at *
        have hlt2 := Nat.mod_lt y (show r > 0 by omega)
        have hg2 : Nat.gcd y r = Nat.gcd r (y % r) := by
          rw [Nat.gcd_comm y r, Nat.gcd_rec, Nat.gcd_comm]
        have hle : y % r ≤ y - r := by
          have e1 := Nat.div_add_mod y r
          have e2 : 1 ≤ y / r := Nat.div_pos (by omega) (by omega)
          have e3 : r * 1 ≤ r * (y / r) := Nat.mul_le_mul_left r e2
          omega
        rw [f_X6_chance_L254, if_neg (by rw [l_cmp0 (by omega)]; exact h1), if_neg (l_ne0 (by omega) h1), pk_lRem (by omega) (by omega) (by omega), hg2]
        exact ih r (y % r) fuel (by omega) (by omega) (by omega) (by omega)
