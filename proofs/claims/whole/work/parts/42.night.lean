/-! the reference's night, its beginning, an event -/
theorem m_hasAny (x y : Int32) : ∃ r, f_X6_has x y = some r := by
  rw [f_X6_has]
  split <;> exact ⟨_, rfl⟩
theorem m_has : ∀ gf, gf < 256 → ∀ b, b < 8 → f_X6_has (nI gf) (nI b) = some (nI (if gf.testBit b = true then 1 else 0)) := by decide +kernel
def PnR (K : AKn) (N : Nat → Int32) : Prop := ∀ b, b < 8 → N b = nI (K.1 b)
def PfR (K : AKn) (G B : Int32) : Prop := G = nI K.2.2.2.2.1 ∧ B = nI K.2.2.2.2.2 ∧ K.2.2.2.2.1 < 256 ∧ K.2.2.2.2.2 < 256
theorem nbK_none {sl : Nat → Option Nat} {b : Nat} (h : sl b = none) (K : AKn) : nbK sl b K = K := by
  obtain ⟨ni, us, sh, la, gf, bf⟩ := K
  simp only [nbK, h]
theorem nightK_none {sl : Nat → Option Nat} {n : Nat} (h : ∀ b, n ≤ b → sl b = none) (K : AKn) : ∀ d, nightK sl (n + d) K = nightK sl n K
  | 0 => rfl
  | d + 1 => by
    show nbK sl (n + d) (nightK sl (n + d) K) = nightK sl n K
    rw [nbK_none (h _ (by omega)), nightK_none h K d]
theorem nbK_keep (sl : Nat → Option Nat) (b : Nat) (K : AKn) : (nbK sl b K).2.1 = K.2.1 ∧ (nbK sl b K).2.2.1 = K.2.2.1 ∧ (nbK sl b K).2.2.2.1 = K.2.2.2.1 := by
  obtain ⟨ni, us, sh, la, gf, bf⟩ := K
  simp only [nbK]
  cases sl b with
  | none => exact ⟨rfl, rfl, rfl⟩
  | some g =>
    simp only
    split <;> exact ⟨rfl, rfl, rfl⟩
theorem nightK_keep (sl : Nat → Option Nat) (K : AKn) : ∀ b, (nightK sl b K).2.1 = K.2.1 ∧ (nightK sl b K).2.2.1 = K.2.2.1 ∧ (nightK sl b K).2.2.2.1 = K.2.2.2.1
  | 0 => ⟨rfl, rfl, rfl⟩
  | b + 1 => by
    obtain ⟨h1, h2, h3⟩ := nbK_keep sl b (nightK sl b K)
    obtain ⟨h4, h5, h6⟩ := nightK_keep sl K b
    exact ⟨h1.trans h4, h2.trans h5, h3.trans h6⟩
theorem nbK_n {sl : Nat → Option Nat} {b g : Nat} (h : sl b = some g) (K : AKn) : (nbK sl b K).1 = upO K.1 b (K.1 b + 1) := by
  obtain ⟨ni, us, sh, la, gf, bf⟩ := K
  simp only [nbK, h]
  split <;> rfl
theorem nbK_f1 {sl : Nat → Option Nat} {b g : Nat} (h : sl b = some g) (K : AKn) (hc : K.2.2.2.2.1.testBit g = true ∨ K.2.2.2.2.2.testBit b = true) : (nbK sl b K).2.2.2.2.1 = K.2.2.2.2.1 ||| 2 ^ g ∧ (nbK sl b K).2.2.2.2.2 = K.2.2.2.2.2 ||| 2 ^ b := by
  obtain ⟨ni, us, sh, la, gf, bf⟩ := K
  simp only at hc
  simp only [nbK, h, if_pos hc]
  exact ⟨trivial, trivial⟩
theorem nbK_f0 {sl : Nat → Option Nat} {b g : Nat} (h : sl b = some g) (K : AKn) (hc : ¬ (K.2.2.2.2.1.testBit g = true ∨ K.2.2.2.2.2.testBit b = true)) : (nbK sl b K).2.2.2.2.1 = K.2.2.2.2.1 ∧ (nbK sl b K).2.2.2.2.2 = K.2.2.2.2.2 := by
  obtain ⟨ni, us, sh, la, gf, bf⟩ := K
  simp only at hc
  simp only [nbK, h, if_neg hc]
  exact ⟨trivial, trivial⟩
theorem i_or0 (x : Int32) : x ||| nI 0 = x := by
  show x ||| 0 = x
  simp
theorem lp_pass {n : Nat} (hn : n ≤ 8) {sl : Nat → Option Nat} {Y : Nat → Int32} (hl : ∀ b, b < 8 → Y b = cdM (sl b)) (hg : ∀ b g, sl b = some g → g < 8) (kL : Int32 → (Nat → Int32) → Int32 → Int32 → Option ModS) : ∀ (d j fuel : Nat) (N : Nat → Int32) (G B : Int32), n = j + d → d < fuel → ∃ N' G' B', f_X6_pass_L2 (nI n) Y fuel (nI j) N G B kL = kL (nI n) N' G' B' ∧ (∀ K, PnR (nightK sl j K) N → PnR (nightK sl n K) N') ∧ ∀ K, PfR (nightK sl j K) G B → PfR (nightK sl n K) G' B' := by
  intro d
  induction d with
  | zero =>
    intro j fuel N G B h1 h3
    obtain ⟨fuel, rfl⟩ : ∃ n, fuel = n + 1 := ⟨fuel - 1, by omega⟩
    have hj : j = n := by omega
    subst hj
    rw [f_X6_pass_L2]
    simp (disch := omega) only [n_lt, n_le, n_eq, n_lt0, n_ge0, n_eq0, n_gt0, n_le0, n_cl, n_add, n_sub, n_mul, n_m1, n_m6, m1_lt, m6_lt, m1_ge, m6_ge, m1_eq, m6_eq0, m1_eq0, c_leT, c_leF, c_ltT, c_ltF, c_eqF, false_or, or_false, or_self, if_true, if_false, ite_true, ite_false, Option.bind_some, not_true_eq_false, not_false_eq_true, reduceIte]
    exact ⟨N, G, B, rfl, fun K h => h, fun K h => h⟩
  | succ d ih =>
    intro j fuel N G B h1 h3
    obtain ⟨fuel, rfl⟩ : ∃ n, fuel = n + 1 := ⟨fuel - 1, by omega⟩
    rw [f_X6_pass_L2]
    have hj := hl j (by omega)
    cases ho : sl j with
    | none =>
      simp (disch := omega) only [n_lt, n_le, n_eq, n_lt0, n_ge0, n_eq0, n_gt0, n_le0, n_cl, n_add, n_sub, n_mul, n_m1, n_m6, m1_lt, m6_lt, m1_ge, m6_ge, m1_eq, m6_eq0, m1_eq0, c_leT, c_leF, c_ltT, c_ltF, c_eqF, false_or, or_false, or_self, if_true, if_false, ite_true, ite_false, Option.bind_some, not_true_eq_false, not_false_eq_true, reduceIte, hj, ho, cdM, m6_lt]
      obtain ⟨N', G', B', e1, e2, e3⟩ := ih (j + 1) fuel N G B (by omega) (by omega)
      refine ⟨N', G', B', e1, fun K h => e2 K ?_, fun K h => e3 K ?_⟩
      · simp only [nightK]; rw [nbK_none ho]; exact h
      · simp only [nightK]; rw [nbK_none ho]; exact h
    | some g =>
      have g8 := hg j g ho
      obtain ⟨r1, hr1⟩ := m_hasAny B (nI j)
      obtain ⟨r2, hr2⟩ := m_hasAny G (nI g)
      have hfin : ∀ z : Prop, (∀ K, PfR (nightK sl j K) G B → (z ↔ ((nightK sl j K).2.2.2.2.1.testBit g = true ∨ (nightK sl j K).2.2.2.2.2.testBit j = true))) → (z → ∃ N' G' B', f_X6_pass_L2 (nI n) Y fuel (nI (j + 1)) (upd N j (N j + nI 1)) (G ||| nI (2 ^ g)) (B ||| nI (2 ^ j)) kL = kL (nI n) N' G' B' ∧ (∀ K, PnR (nightK sl j K) N → PnR (nightK sl n K) N') ∧ ∀ K, PfR (nightK sl j K) G B → PfR (nightK sl n K) G' B') ∧ (¬ z → ∃ N' G' B', f_X6_pass_L2 (nI n) Y fuel (nI (j + 1)) (upd N j (N j + nI 1)) G B kL = kL (nI n) N' G' B' ∧ (∀ K, PnR (nightK sl j K) N → PnR (nightK sl n K) N') ∧ ∀ K, PfR (nightK sl j K) G B → PfR (nightK sl n K) G' B') := by
        intro z hz
        have hN : ∀ K, PnR (nightK sl j K) N → PnR (nightK sl (j + 1) K) (upd N j (N j + nI 1)) := by
          intro K h b hb
          simp only [nightK, nbK_n ho]
          exact upd_n h (by omega) b hb
        constructor
        · intro hzz
          obtain ⟨N', G', B', e1, e2, e3⟩ := ih (j + 1) fuel (upd N j (N j + nI 1)) (G ||| nI (2 ^ g)) (B ||| nI (2 ^ j)) (by omega) (by omega)
          refine ⟨N', G', B', e1, fun K h => e2 K (hN K h), fun K h => e3 K ?_⟩
          obtain ⟨f1, f2⟩ := nbK_f1 ho _ ((hz K h).mp hzz)
          obtain ⟨p1, p2, p3, p4⟩ := h
          unfold PfR
          simp only [nightK]
          rw [f1, f2, p1, p2]
          have b1 := b_or _ p3 g g8
          have b2 := b_or _ p4 j (by omega)
          exact ⟨b1.1, b2.1, b1.2, b2.2⟩
        · intro hzz
          obtain ⟨N', G', B', e1, e2, e3⟩ := ih (j + 1) fuel (upd N j (N j + nI 1)) G B (by omega) (by omega)
          refine ⟨N', G', B', e1, fun K h => e2 K (hN K h), fun K h => e3 K ?_⟩
          obtain ⟨f1, f2⟩ := nbK_f0 ho _ (fun e => hzz ((hz K h).mpr e))
          unfold PfR
          simp only [nightK]
          rw [f1, f2]
          exact h
      have hr1' : ∀ K, PfR (nightK sl j K) G B → (r1 = 0 ↔ ¬ (nightK sl j K).2.2.2.2.2.testBit j = true) := by
        intro K h
        obtain ⟨p1, p2, p3, p4⟩ := h
        rw [p2, m_has _ p4 j (by omega)] at hr1
        have := Option.some.inj hr1
        rw [← this]
        by_cases hb : (nightK sl j K).2.2.2.2.2.testBit j = true
        · simp [hb]; decide
        · simp [hb]; decide
      have hr2' : ∀ K, PfR (nightK sl j K) G B → (r2 = 0 ↔ ¬ (nightK sl j K).2.2.2.2.1.testBit g = true) := by
        intro K h
        obtain ⟨p1, p2, p3, p4⟩ := h
        rw [p1, m_has _ p3 g g8] at hr2
        have := Option.some.inj hr2
        rw [← this]
        by_cases hb : (nightK sl j K).2.2.2.2.1.testBit g = true
        · simp [hb]; decide
        · simp [hb]; decide
      have s1 := b_sh j (by omega)
      have s2 := b_sh g g8
      have one0 : (nI 1 = 0) = False := eq_false (by decide)
      have zer0 : (nI 0 = 0) = True := eq_true rfl
      unfold gJn
      by_cases h1 : r1 = 0
      · by_cases h2 : r2 = 0
        · have hf := (hfin False (fun K h => by
            have e1 := (hr1' K h).mp h1
            have e2 := (hr2' K h).mp h2
            constructor
            · intro f; exact f.elim
            · rintro (e | e)
              · exact e2 e
              · exact e1 e)).2 id
          simp (disch := omega) only [n_lt, n_le, n_eq, n_lt0, n_ge0, n_eq0, n_gt0, n_le0, n_cl, n_add, n_sub, n_mul, n_m1, n_m6, m1_lt, m6_lt, m1_ge, m6_ge, m1_eq, m6_eq0, m1_eq0, c_leT, c_leF, c_ltT, c_ltF, c_eqF, false_or, or_false, or_self, if_true, if_false, ite_true, ite_false, Option.bind_some, not_true_eq_false, not_false_eq_true, reduceIte, hj, ho, cdM, hr1, hr2, h1, h2, zer0, i_or0]
          exact hf
        · have hf := (hfin True (fun K h => by
            have e2 := mt (hr2' K h).mpr h2
            constructor
            · intro _; exact Or.inl (by simpa using e2)
            · intro _; trivial)).1 trivial
          simp (disch := omega) only [n_lt, n_le, n_eq, n_lt0, n_ge0, n_eq0, n_gt0, n_le0, n_cl, n_add, n_sub, n_mul, n_m1, n_m6, m1_lt, m6_lt, m1_ge, m6_ge, m1_eq, m6_eq0, m1_eq0, c_leT, c_leF, c_ltT, c_ltF, c_eqF, false_or, or_false, or_self, if_true, if_false, ite_true, ite_false, Option.bind_some, not_true_eq_false, not_false_eq_true, reduceIte, hj, ho, cdM, hr1, hr2, h1, h2, one0, s1, s2]
          exact hf
      · have hf := (hfin True (fun K h => by
          have e2 := mt (hr1' K h).mpr h1
          constructor
          · intro _; exact Or.inr (by simpa using e2)
          · intro _; trivial)).1 trivial
        simp (disch := omega) only [n_lt, n_le, n_eq, n_lt0, n_ge0, n_eq0, n_gt0, n_le0, n_cl, n_add, n_sub, n_mul, n_m1, n_m6, m1_lt, m6_lt, m1_ge, m6_ge, m1_eq, m6_eq0, m1_eq0, c_leT, c_leF, c_ltT, c_ltF, c_eqF, false_or, or_false, or_self, if_true, if_false, ite_true, ite_false, Option.bind_some, not_true_eq_false, not_false_eq_true, reduceIte, hj, ho, cdM, hr1, hr2, h1, one0, s1, s2]
        exact hf
theorem m_pass {n k q : Nat} {w sg sb : Nat → Nat} {t : ModS} (hM : ModHR t (n, k, q, w, sg, sb)) (hn : n ≤ 8) {C : AIn} (hC : AOk n C) (hG : GO C) (h : MoR C t) : ∃ t', f_X6_pass t = some t' ∧ mP t' = mP t ∧ (mF t').2.2 = (mF t).2.2 ∧ MoR C t' ∧ (∀ K, MnR K t → MnR (nightK C.1 8 K) t') ∧ ∀ K, MfR K t → MfR (nightK C.1 8 K) t' := by
  obtain ⟨M_beds, M_law, M_worths, M_sights, M_sight, M_signs, M_pad, M_lies, M_empty, M_list, M_waits, M_yard, M_last, M_used, M_sheets, M_nights, M_fleasOfGuests, M_fleasOfBeds, M_reason, M_row, M_bestRow, M_image, M_isKept⟩ := t
  obtain ⟨sl, em, ya⟩ := C
  obtain ⟨hl, he, hem, hwt, hya⟩ := h
  obtain rfl : M_beds = nI n := hM.1
  have hno : ∀ b, n ≤ b → sl b = none := hC.2.2.1
  have hall : ∀ K, nightK sl 8 K = nightK sl n K := fun K => by
    have := nightK_none hno K (8 - n)
    rw [show n + (8 - n) = 8 by omega] at this
    exact this
  rw [f_X6_pass]
  obtain ⟨N', G', B', e1, e2, e3⟩ := lp_pass hn hl (fun b g hb => hG g (Or.inl ⟨b, hb⟩)) (fun x1_L2 M_nights_L2 M_fleasOfGuests_L2 M_fleasOfBeds_L2 => some (nI n, M_law, M_worths, M_sights, M_sight, M_signs, M_pad, M_lies, M_empty, M_list, M_waits, M_yard, M_last, M_used, M_sheets, M_nights_L2, M_fleasOfGuests_L2, M_fleasOfBeds_L2, M_reason, M_row, M_bestRow, M_image, M_isKept)) n 0 FU M_nights M_fleasOfGuests M_fleasOfBeds (by omega) (by rw [FU_eq]; omega)
  rw [e1]
  refine ⟨_, rfl, by simp only [mP], by simp only [mF], ⟨hl, he, hem, hwt, hya⟩, fun K hK => ?_, fun K hK => ?_⟩
  · simp only [hall]
    have k0 := nightK_keep sl K n
    have k9 := e2 K
    have k8 : (nightK sl 0 K) = K := rfl
    rw [k8] at k9
    generalize nightK sl n K = K1 at k0 k9 ⊢
    obtain ⟨ni, us, sh, la, gf, bf⟩ := K
    obtain ⟨ni1, us1, sh1, la1, gf1, bf1⟩ := K1
    obtain ⟨rfl, rfl, rfl⟩ := k0
    obtain ⟨k1, k2, k3, k4, k5⟩ := hK
    exact ⟨k9 k1, k2, k3, k4, k5⟩
  · simp only [hall]
    have k9 := e3 K
    have k8 : (nightK sl 0 K) = K := rfl
    rw [k8] at k9
    generalize nightK sl n K = K1 at k9 ⊢
    obtain ⟨ni, us, sh, la, gf, bf⟩ := K
    obtain ⟨ni1, us1, sh1, la1, gf1, bf1⟩ := K1
    exact k9 hK
theorem lp_begin (kL : Int32 → (Nat → Int32) → (Nat → Int32) → (Nat → Int32) → (Nat → Int32) → (Nat → Int32) → (Nat → Int32) → Option ModS) : ∀ (d j fuel : Nat) (A B C D E F : Nat → Int32), 8 = j + d → d < fuel → (∀ i, i < j → A i = -6 ∧ B i = nI i ∧ C i = -6 ∧ D i = nI 0 ∧ E i = nI 0 ∧ F i = nI 0) → ∃ A' B' C' D' E' F', f_X6_begin_L15 fuel (nI j) A B C D E F kL = kL (nI 8) A' B' C' D' E' F' ∧ ∀ i, i < 8 → A' i = -6 ∧ B' i = nI i ∧ C' i = -6 ∧ D' i = nI 0 ∧ E' i = nI 0 ∧ F' i = nI 0 := by
  intro d
  induction d with
  | zero =>
    intro j fuel A B C D E F h1 h3 h
    obtain ⟨fuel, rfl⟩ : ∃ n, fuel = n + 1 := ⟨fuel - 1, by omega⟩
    have hj : j = 8 := by omega
    subst hj
    rw [f_X6_begin_L15]
    simp (disch := omega) only [n_lt, n_le, n_eq, n_lt0, n_ge0, n_eq0, n_gt0, n_le0, n_cl, n_add, n_sub, n_mul, n_m1, n_m6, m1_lt, m6_lt, m1_ge, m6_ge, m1_eq, m6_eq0, m1_eq0, c_leT, c_leF, c_ltT, c_ltF, c_eqF, false_or, or_false, or_self, if_true, if_false, ite_true, ite_false, Option.bind_some, not_true_eq_false, not_false_eq_true, reduceIte]
    exact ⟨A, B, C, D, E, F, rfl, h⟩
  | succ d ih =>
    intro j fuel A B C D E F h1 h3 h
    obtain ⟨fuel, rfl⟩ : ∃ n, fuel = n + 1 := ⟨fuel - 1, by omega⟩
    rw [f_X6_begin_L15]
    simp (disch := omega) only [n_lt, n_le, n_eq, n_lt0, n_ge0, n_eq0, n_gt0, n_le0, n_cl, n_add, n_sub, n_mul, n_m1, n_m6, m1_lt, m6_lt, m1_ge, m6_ge, m1_eq, m6_eq0, m1_eq0, c_leT, c_leF, c_ltT, c_ltF, c_eqF, false_or, or_false, or_self, if_true, if_false, ite_true, ite_false, Option.bind_some, not_true_eq_false, not_false_eq_true, reduceIte]
    refine ih (j + 1) fuel _ _ _ _ _ _ (by omega) (by omega) (fun i hi => ?_)
    simp only [upd]
    by_cases e : i = j
    · subst e
      simp only [if_true]
      exact ⟨trivial, trivial, trivial, trivial, trivial, trivial⟩
    · simp only [if_neg e]
      exact h i (by omega)
def K0f (gf bf : Nat) : AKn := (fun _ => 0, fun _ => 0, fun _ => 0, fun _ => none, gf, bf)
theorem m_begin {n k q : Nat} {w sg sb : Nat → Nat} {t : ModS} (hM : ModHR t (n, k, q, w, sg, sb)) (hn : n ≤ 8) : ∃ t', f_X6_begin t = some t' ∧ mP t' = mP t ∧ mF t' = mF t ∧ MoR (openA n) t' ∧ ∀ gf bf, MnR (K0f gf bf) t' := by
  obtain ⟨M_beds, M_law, M_worths, M_sights, M_sight, M_signs, M_pad, M_lies, M_empty, M_list, M_waits, M_yard, M_last, M_used, M_sheets, M_nights, M_fleasOfGuests, M_fleasOfBeds, M_reason, M_row, M_bestRow, M_image, M_isKept⟩ := t
  obtain rfl : M_beds = nI n := hM.1
  rw [f_X6_begin]
  obtain ⟨A, B, C, D, E, F, e1, e2⟩ := lp_begin (fun x1_L15 M_lies_L15 M_list_L15 M_last_L15 M_used_L15 M_sheets_L15 M_nights_L15 => some (nI n, M_law, M_worths, M_sights, M_sight, M_signs, M_pad, M_lies_L15, nI n, M_list_L15, nI 0, M_yard, M_last_L15, M_used_L15, M_sheets_L15, M_nights_L15, M_fleasOfGuests, M_fleasOfBeds, M_reason, M_row, M_bestRow, M_image, M_isKept)) 8 0 FU M_lies M_list M_last M_used M_sheets M_nights (by omega) (by rw [FU_eq]; omega) (fun i hi => absurd hi (by omega))
  rw [e1]
  refine ⟨_, rfl, by simp only [mP], by simp only [mF], ⟨fun b hb => (e2 b hb).1, by simp [openA], fun i hi => ?_, rfl, fun i hi => by simp [openA] at hi⟩, fun gf bf => ⟨fun b hb => (e2 b hb).2.2.2.2.2, fun b hb => (e2 b hb).2.2.2.1, fun b hb => (e2 b hb).2.2.2.2.1, fun b hb => (e2 b hb).2.2.1, fun b g h => (by cases h)⟩⟩
  simp only [openA, List.length_range] at hi ⊢
  rw [(e2 i (by omega)).2.1, List.getD_eq_getElem?_getD, List.getElem?_range (by omega)]
  rfl
def evN (s : Nat) : Nat := if s = 46 then 100 else if s ≤ 72 then s - 65 else s - 89
def okS (s : Nat) : Prop := s = 46 ∨ (65 ≤ s ∧ s ≤ 72) ∨ (97 ≤ s ∧ s ≤ 104)
theorem m_eventOf {s : Nat} (hs : okS s) : f_X6_eventOf (nI s) = some (nI (evN s)) := by
  rw [f_X6_eventOf]
  unfold evN
  rcases hs with rfl | ⟨h1, h2⟩ | ⟨h1, h2⟩
  · rfl
  · rw [if_neg (show ¬ s = 46 by omega), if_pos h2]
    simp (disch := omega) only [f_X6_in, n_lt, n_le, n_eq, n_lt0, n_ge0, n_eq0, n_gt0, n_le0, n_cl, n_add, n_sub, n_mul, n_m1, n_m6, m1_lt, m6_lt, m1_ge, m6_ge, m1_eq, m6_eq0, m1_eq0, c_leT, c_leF, c_ltT, c_ltF, c_eqF, false_or, or_false, or_self, if_true, if_false, ite_true, ite_false, Option.bind_some, not_true_eq_false, not_false_eq_true, reduceIte]
  · rw [if_neg (show ¬ s = 46 by omega), if_neg (show ¬ s ≤ 72 by omega)]
    simp (disch := omega) only [f_X6_in, n_lt, n_le, n_eq, n_lt0, n_ge0, n_eq0, n_gt0, n_le0, n_cl, n_add, n_sub, n_mul, n_m1, n_m6, m1_lt, m6_lt, m1_ge, m6_ge, m1_eq, m6_eq0, m1_eq0, c_leT, c_leF, c_ltT, c_ltF, c_eqF, false_or, or_false, or_self, if_true, if_false, ite_true, ite_false, Option.bind_some, not_true_eq_false, not_false_eq_true, reduceIte]
    rw [show 8 + s - 97 = s - 89 by omega]
theorem n_rem8 : ∀ e, e < 16 → nI e - nI e / nI 8 * nI 8 = nI (e % 8) := by decide +kernel
theorem comeK_f (ch g : Nat) (C : AIn) (K : AKn) : (comeK ch g C K).2.2.2.2 = K.2.2.2.2 := by
  obtain ⟨ni, us, sh, la, gf, bf⟩ := K
  unfold comeK
  split <;> rfl
theorem goK_f (g : Nat) (C : AIn) (K : AKn) : (goK g C K).2.2.2.2 = K.2.2.2.2 := by
  obtain ⟨ni, us, sh, la, gf, bf⟩ := K
  unfold goK freeK
  split
  · split <;> rfl
  · rfl
theorem MfR_eq {K K' : AKn} (e : K'.2.2.2.2 = K.2.2.2.2) {t : ModS} (h : MfR K t) : MfR K' t := by
  obtain ⟨ni, us, sh, la, gf, bf⟩ := K
  obtain ⟨ni', us', sh', la', gf', bf'⟩ := K'
  obtain ⟨M_beds, M_law, M_worths, M_sights, M_sight, M_signs, M_pad, M_lies, M_empty, M_list, M_waits, M_yard, M_last, M_used, M_sheets, M_nights, M_fleasOfGuests, M_fleasOfBeds, M_reason, M_row, M_bestRow, M_image, M_isKept⟩ := t
  simp only [Prod.mk.injEq] at e
  obtain ⟨rfl, rfl⟩ := e
  exact h
theorem mF_reason {t t' : ModS} (e : mF t' = mF t) : (mF t').2.2 = (mF t).2.2 := by rw [e]
theorem m_happen {n k q : Nat} {w sg sb : Nat → Nat} {t : ModS} (hM : ModHR t (n, k, q, w, sg, sb)) (hw : ∀ j, w j ≤ 99) (hk : k < 4) (hn : n ≤ 8) {C : AIn} (hC : AOk n C) (hG : GO C) (h : MoR C t) {s : Nat} (hs : okS s) : ∃ t', f_X6_happen (nI (evN s)) t = some (nI (whyA s C), t') ∧ mP t' = mP t ∧ (mF t').2.2 = (mF t).2.2 ∧ (whyA s C ≠ 0 → t' = t) ∧ (whyA s C = 0 → MoR (evC k w s C) t' ∧ (∀ K, MnR K t → MnR (evK k w s C K) t') ∧ ∀ K, MfR K t → MfR (evK k w s C K) t') := by
  rcases hs with rfl | h1 | h1
  · obtain ⟨t', e1, e2, e3, e4, e5, e6⟩ := m_pass hM hn hC hG h
    obtain ⟨M_beds, M_law, M_worths, M_sights, M_sight, M_signs, M_pad, M_lies, M_empty, M_list, M_waits, M_yard, M_last, M_used, M_sheets, M_nights, M_fleasOfGuests, M_fleasOfBeds, M_reason, M_row, M_bestRow, M_image, M_isKept⟩ := t
    obtain ⟨L_beds, L_law, L_worths, L_sights, L_sight, L_signs, L_pad, L_lies, L_empty, L_list, L_waits, L_yard, L_last, L_used, L_sheets, L_nights, L_fleasOfGuests, L_fleasOfBeds, L_reason, L_row, L_bestRow, L_image, L_isKept⟩ := t'
    refine ⟨_, ?_, e2, e3, fun z => absurd rfl z, fun _ => ⟨e4, e5, e6⟩⟩
    have ev : evN 46 = 100 := rfl
    have wy : whyA 46 C = 0 := rfl
    rw [f_X6_happen, ev, wy, if_pos rfl, e1]
    rfl
  · have ev : evN s = s - 65 := by unfold evN; rw [if_neg (by omega), if_pos (by omega)]
    have h2 : ¬ (97 ≤ s ∧ s ≤ 104) := by omega
    have hi := m_isThere hM hn hC h (g := s - 65) (by omega)
    have e9 : (s - 65) % 8 = s - 65 := by omega
    unfold evC evK whyA
    simp only [if_pos h1]
    rw [ev]
    by_cases hp : presB C (s - 65) = true
    · obtain ⟨M_beds, M_law, M_worths, M_sights, M_sight, M_signs, M_pad, M_lies, M_empty, M_list, M_waits, M_yard, M_last, M_used, M_sheets, M_nights, M_fleasOfGuests, M_fleasOfBeds, M_reason, M_row, M_bestRow, M_image, M_isKept⟩ := t
      refine ⟨_, ?_, rfl, rfl, fun _ => rfl, fun z => ?_⟩
      · rw [f_X6_happen, n_rem8 _ (by omega), e9, hi]
        simp (disch := omega) only [n_lt, n_le, n_eq, n_lt0, n_ge0, n_eq0, n_gt0, n_le0, n_cl, n_add, n_sub, n_mul, n_m1, n_m6, m1_lt, m6_lt, m1_ge, m6_ge, m1_eq, m6_eq0, m1_eq0, c_leT, c_leF, c_ltT, c_ltF, c_eqF, false_or, or_false, or_self, if_true, if_false, ite_true, ite_false, Option.bind_some, not_true_eq_false, not_false_eq_true, reduceIte, if_pos hp]
      · rw [if_pos hp] at z; cases z
    · have hpn : ¬ presA C (s - 65) := fun e => hp ((presB_iff hC hn).mpr e)
      obtain ⟨t', e1, e2, e3, e4, e5⟩ := m_comeIn hM hw hk hn hC h (g := s - 65) (by omega) hpn
      obtain ⟨M_beds, M_law, M_worths, M_sights, M_sight, M_signs, M_pad, M_lies, M_empty, M_list, M_waits, M_yard, M_last, M_used, M_sheets, M_nights, M_fleasOfGuests, M_fleasOfBeds, M_reason, M_row, M_bestRow, M_image, M_isKept⟩ := t
      obtain ⟨L_beds, L_law, L_worths, L_sights, L_sight, L_signs, L_pad, L_lies, L_empty, L_list, L_waits, L_yard, L_last, L_used, L_sheets, L_nights, L_fleasOfGuests, L_fleasOfBeds, L_reason, L_row, L_bestRow, L_image, L_isKept⟩ := t'
      refine ⟨_, ?_, e2, mF_reason e3, fun z => ?_, fun _ => ⟨e4, e5, fun K hK => MfR_eq (comeK_f _ _ _ _) (mF_f e3 hK)⟩⟩
      · rw [f_X6_happen, n_rem8 _ (by omega), e9, hi, e1]
        simp (disch := omega) only [n_lt, n_le, n_eq, n_lt0, n_ge0, n_eq0, n_gt0, n_le0, n_cl, n_add, n_sub, n_mul, n_m1, n_m6, m1_lt, m6_lt, m1_ge, m6_ge, m1_eq, m6_eq0, m1_eq0, c_leT, c_leF, c_ltT, c_ltF, c_eqF, false_or, or_false, or_self, if_true, if_false, ite_true, ite_false, Option.bind_some, not_true_eq_false, not_false_eq_true, reduceIte, if_neg hp]
      · rw [if_neg hp] at z; exact absurd rfl z
  · have ev : evN s = s - 89 := by unfold evN; rw [if_neg (by omega), if_neg (by omega)]
    have h2 : ¬ (65 ≤ s ∧ s ≤ 72) := by omega
    have hi := m_isThere hM hn hC h (g := s - 97) (by omega)
    have e9 : (s - 89) % 8 = s - 97 := by omega
    unfold evC evK whyA
    simp only [if_pos h1, if_neg h2]
    rw [ev]
    by_cases hp : presB C (s - 97) = true
    · have hpn : presA C (s - 97) := (presB_iff hC hn).mp hp
      obtain ⟨t', e1, e2, e3, e4, e5⟩ := m_goOut hM hn hC h (g := s - 97) (by omega) hpn
      obtain ⟨M_beds, M_law, M_worths, M_sights, M_sight, M_signs, M_pad, M_lies, M_empty, M_list, M_waits, M_yard, M_last, M_used, M_sheets, M_nights, M_fleasOfGuests, M_fleasOfBeds, M_reason, M_row, M_bestRow, M_image, M_isKept⟩ := t
      obtain ⟨L_beds, L_law, L_worths, L_sights, L_sight, L_signs, L_pad, L_lies, L_empty, L_list, L_waits, L_yard, L_last, L_used, L_sheets, L_nights, L_fleasOfGuests, L_fleasOfBeds, L_reason, L_row, L_bestRow, L_image, L_isKept⟩ := t'
      refine ⟨_, ?_, e2, mF_reason e3, fun z => ?_, fun _ => ⟨e4, e5, fun K hK => MfR_eq (goK_f _ _ _) (mF_f e3 hK)⟩⟩
      · rw [f_X6_happen, n_rem8 _ (by omega), e9, hi, e1]
        simp (disch := omega) only [n_lt, n_le, n_eq, n_lt0, n_ge0, n_eq0, n_gt0, n_le0, n_cl, n_add, n_sub, n_mul, n_m1, n_m6, m1_lt, m6_lt, m1_ge, m6_ge, m1_eq, m6_eq0, m1_eq0, c_leT, c_leF, c_ltT, c_ltF, c_eqF, false_or, or_false, or_self, if_true, if_false, ite_true, ite_false, Option.bind_some, not_true_eq_false, not_false_eq_true, reduceIte, if_pos hp]
      · rw [if_pos hp] at z; exact absurd rfl z
    · obtain ⟨M_beds, M_law, M_worths, M_sights, M_sight, M_signs, M_pad, M_lies, M_empty, M_list, M_waits, M_yard, M_last, M_used, M_sheets, M_nights, M_fleasOfGuests, M_fleasOfBeds, M_reason, M_row, M_bestRow, M_image, M_isKept⟩ := t
      refine ⟨_, ?_, rfl, rfl, fun _ => rfl, fun z => ?_⟩
      · rw [f_X6_happen, n_rem8 _ (by omega), e9, hi]
        simp (disch := omega) only [n_lt, n_le, n_eq, n_lt0, n_ge0, n_eq0, n_gt0, n_le0, n_cl, n_add, n_sub, n_mul, n_m1, n_m6, m1_lt, m6_lt, m1_ge, m6_ge, m1_eq, m6_eq0, m1_eq0, c_leT, c_leF, c_ltT, c_ltF, c_eqF, false_or, or_false, or_self, if_true, if_false, ite_true, ite_false, Option.bind_some, not_true_eq_false, not_false_eq_true, reduceIte, if_neg hp]
      · rw [if_neg hp] at z; cases z
