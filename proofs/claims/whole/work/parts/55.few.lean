/-! fewest -/
def sumN (f : Nat → Nat) : Nat → Nat
  | 0 => 0
  | j + 1 => sumN f j + f j
theorem sumN_ext {f : Nat → Nat} {n : Nat} (h : ∀ b, n ≤ b → f b = 0) : ∀ c, sumN f (n + c) = sumN f n
  | 0 => rfl
  | c + 1 => by
    show sumN f (n + c) + f (n + c) = sumN f n
    rw [sumN_ext h c, h _ (by omega), Nat.add_zero]
theorem sumN_le {f : Nat → Nat} {z : Nat} (h : ∀ b, f b ≤ z) : ∀ c, sumN f c ≤ c * z
  | 0 => by simp only [sumN]; omega
  | c + 1 => by
    have h1 := sumN_le h c
    have h2 := h c
    simp only [sumN]
    rw [Nat.add_mul]
    omega
theorem presB_eq {n n' g : Nat} {C C' : AIn} (hC : AOk n C) (hC' : AOk n' C') (hn : n ≤ 8) (hn' : n' ≤ 8) (h : presA C g ↔ presA C' g) : presB C g = presB C' g := by
  have h1 := presB_iff hC hn (g := g)
  have h2 := presB_iff hC' hn' (g := g)
  cases e1 : presB C g with
  | true => exact (h2.mpr (h.mp (h1.mp e1))).symm
  | false =>
    cases e2 : presB C' g with
    | true =>
      have := h1.mpr (h.mpr (h2.mp e2))
      rw [e1] at this
      cases this
    | false => rfl
theorem evC_pres {n kk s : Nat} {w : Nat → Nat} {C : AIn} (hC : AOk n C) (hn : n ≤ 8) (hs : whyA s C = 0) (x : Nat) : presA (evC kk w s C) x ↔ ((65 ≤ s ∧ s ≤ 72) ∧ (x = s - 65 ∨ presA C x)) ∨ (¬ (65 ≤ s ∧ s ≤ 72) ∧ (97 ≤ s ∧ s ≤ 104) ∧ x ≠ s - 97 ∧ presA C x) ∨ (¬ (65 ≤ s ∧ s ≤ 72) ∧ ¬ (97 ≤ s ∧ s ≤ 104) ∧ presA C x) := by
  unfold evC
  unfold whyA at hs
  by_cases h1 : 65 ≤ s ∧ s ≤ 72
  · rw [if_pos h1, comeA_pres hC (fun e => chA_lt kk _ _ e)]
    constructor
    · intro h; exact Or.inl ⟨h1, h⟩
    · rintro (h | h | h)
      · exact h.2
      · exact absurd h1 h.1
      · exact absurd h1 h.1
  · rw [if_neg h1] at hs ⊢
    by_cases h2 : 97 ≤ s ∧ s ≤ 104
    · rw [if_pos h2] at hs ⊢
      have hp : presA C (s - 97) := by
        by_cases hp : presB C (s - 97) = true
        · exact (presB_iff hC hn).mp hp
        · rw [if_neg hp] at hs; cases hs
      rw [goA_pres hC hn hp]
      constructor
      · intro h; exact Or.inr (Or.inl ⟨h1, h2, h⟩)
      · rintro (h | h | h)
        · exact absurd h.1 h1
        · exact h.2.2
        · exact absurd h2 h.2.1
    · rw [if_neg h2]
      constructor
      · intro h; exact Or.inr (Or.inr ⟨h1, h2, h⟩)
      · rintro (h | h | h)
        · exact absurd h.1 h1
        · exact absurd h.2.1 h2
        · exact h.2.2
theorem whyA_eq {n n' s : Nat} {C C' : AIn} (hC : AOk n C) (hC' : AOk n' C') (hn : n ≤ 8) (hn' : n' ≤ 8) (h : ∀ x, presA C x ↔ presA C' x) : whyA s C = whyA s C' := by
  unfold whyA
  rw [presB_eq hC hC' hn hn' (h (s - 65)), presB_eq hC hC' hn hn' (h (s - 97))]
theorem run_law {n kk kk' : Nat} {w w' d : Nat → Nat} (hn : n ≤ 8) : ∀ (c p : Nat) (C C' : AIn), AOk n C → AOk n C' → (∀ x, presA C x ↔ presA C' x) → (runA kk w d c p C).1 = (runA kk' w' d c p C').1
  | 0, _, _, _, _, _, _ => rfl
  | c + 1, p, C, C', hC, hC', h => by
    simp only [runA]
    rw [whyA_eq hC hC' hn hn h]
    by_cases hz : whyA (d p) C' = 0
    · have hz2 : whyA (d p) C = 0 := by rw [whyA_eq hC hC' hn hn h]; exact hz
      rw [if_pos hz, if_pos hz]
      refine run_law hn c (p + 1) _ _ (evC_ok hC hn hz2) (evC_ok hC' hn hz) (fun x => ?_)
      rw [evC_pres hC hn hz2, evC_pres hC' hn hz]
      simp only [h x]
    · rw [if_neg hz, if_neg hz]
def shO (K : AKn) : Nat → Nat := K.2.2.1
theorem takeK_sh (b g : Nat) (K : AKn) : (∀ x, shO (takeK b g K) x ≤ shO K x + 1) ∧ ∀ x, x ≠ b → shO (takeK b g K) x = shO K x := by
  obtain ⟨ni, us, sh, la, gf, bf⟩ := K
  simp only [takeK, shO]
  by_cases h : la b = some g
  · rw [if_pos h]
    exact ⟨fun x => by omega, fun x _ => rfl⟩
  · rw [if_neg h]
    refine ⟨fun x => ?_, fun x hx => ?_⟩
    · simp only [upO]
      by_cases e : x = b
      · rw [if_pos e, e]; omega
      · rw [if_neg e]; omega
    · simp only [upO]
      rw [if_neg hx]
theorem evK_sh {n kk s : Nat} {w : Nat → Nat} {C : AIn} (hC : AOk n C) (K : AKn) : (∀ x, shO (evK kk w s C K) x ≤ shO K x + 1) ∧ ∀ x, n ≤ x → shO (evK kk w s C K) x = shO K x := by
  have key0 : (∀ x, shO K x ≤ shO K x + 1) ∧ ∀ x, n ≤ x → shO K x = shO K x := ⟨fun x => by omega, fun x _ => rfl⟩
  have keyb : ∀ b g, b < n → (∀ x, shO (takeK b g K) x ≤ shO K x + 1) ∧ ∀ x, n ≤ x → shO (takeK b g K) x = shO K x := by
    intro b g hb
    obtain ⟨h1, h2⟩ := takeK_sh b g K
    exact ⟨h1, fun x hx => h2 x (by omega)⟩
  unfold evK
  by_cases h1 : 65 ≤ s ∧ s ≤ 72
  · rw [if_pos h1]
    unfold comeK
    by_cases he : C.2.1 = []
    · rw [if_pos he]; exact key0
    · rw [if_neg he]
      refine keyb _ _ ?_
      have hlt := chA_lt kk (wA w (s - 65)) C.2.1 he
      refine ((hC.2.1 _).mp ?_).1
      rw [List.getD_eq_getElem?_getD, List.getElem?_eq_getElem hlt]
      exact List.getElem_mem hlt
  · rw [if_neg h1]
    by_cases h2 : 97 ≤ s ∧ s ≤ 104
    · rw [if_pos h2]
      unfold goK
      cases hb : bedA C.1 (s - 97) with
      | none => exact key0
      | some b =>
        simp only [freeK]
        obtain ⟨h3, h4⟩ := bedA_some hb
        have hbn : b < n := by
          rcases Nat.lt_or_ge b n with h | h
          · exact h
          · have := hC.2.2.1 b h
            rw [this] at h3
            cases h3
        split
        · exact key0
        · exact keyb _ _ hbn
    · rw [if_neg h2]
      by_cases h3 : s = 46
      · rw [if_pos h3]
        have := (nightK_keep C.1 K 8).2.1
        unfold shO
        rw [this]
        exact key0
      · rw [if_neg h3]
        exact key0
theorem runK_sh {n kk : Nat} {w d : Nat → Nat} (hn : n ≤ 8) : ∀ (c p : Nat) (C : AIn) (K : AKn), AOk n C → (∀ x, shO (runK kk w d c p C K) x ≤ shO K x + c) ∧ ∀ x, n ≤ x → shO (runK kk w d c p C K) x = shO K x
  | 0, _, _, _, _ => ⟨fun x => Nat.le_refl _, fun x _ => rfl⟩
  | c + 1, p, C, K, hC => by
    simp only [runK]
    by_cases hz : whyA (d p) C = 0
    · rw [if_pos hz]
      obtain ⟨h1, h2⟩ := runK_sh hn c (p + 1) _ (evK kk w (d p) C K) (evC_ok (kk := kk) (w := w) hC hn hz)
      obtain ⟨h3, h4⟩ := evK_sh (kk := kk) (w := w) (s := d p) hC K
      exact ⟨fun x => by have := h1 x; have := h3 x; omega, fun x hx => (h2 x hx).trans (h4 x hx)⟩
    · rw [if_neg hz]
      exact ⟨fun x => by omega, fun x _ => rfl⟩
def shS (n kk : Nat) (w d : Nat → Nat) (m : Nat) : Nat := sumN (shO (runK kk w d m 0 (openA n) K0)) n
theorem shS_8 {n kk m : Nat} {w d : Nat → Nat} (hn : n ≤ 8) : sumN (shO (runK kk w d m 0 (openA n) K0)) 8 = shS n kk w d m := by
  have h := (runK_sh (kk := kk) (w := w) (d := d) hn m 0 (openA n) K0 (openA_ok n)).2
  have h2 := sumN_ext (f := shO (runK kk w d m 0 (openA n) K0)) (n := n) (fun b hb => h b hb) (8 - n)
  rw [show n + (8 - n) = 8 by omega] at h2
  exact h2
theorem shS_lt {n kk m : Nat} {w d : Nat → Nat} (hn : n ≤ 8) (hm : m ≤ 48) : shS n kk w d m < 1000 := by
  have h := (runK_sh (kk := kk) (w := w) (d := d) hn m 0 (openA n) K0 (openA_ok n)).1
  have h2 := sumN_le (f := shO (runK kk w d m 0 (openA n) K0)) (z := 48) (fun b => by have h3 := h b; have h4 : shO K0 b = 0 := rfl; omega) n
  unfold shS
  omega
theorem lp_allSheets {sh : Nat → Nat} {Y : Nat → Int32} (hY : ∀ b, b < 8 → Y b = nI (sh b)) (kL : Int32 → Int32 → Option Int32) : ∀ (c j fuel : Nat), 8 = j + c → c < fuel → f_X3_allSheets_L4 Y fuel (nI (sumN sh j)) (nI j) kL = kL (nI (sumN sh 8)) (nI 8) := by
  intro c
  induction c with
  | zero =>
    intro j fuel h1 h3
    obtain ⟨fuel, rfl⟩ : ∃ n, fuel = n + 1 := ⟨fuel - 1, by omega⟩
    have hj : j = 8 := by omega
    subst hj
    rw [f_X3_allSheets_L4]
    simp (disch := omega) only [n_lt, n_le, n_eq, n_lt0, n_ge0, n_eq0, n_gt0, n_le0, n_cl, n_add, n_sub, n_mul, n_m1, n_m6, m1_lt, m6_lt, m1_ge, m6_ge, m1_eq, m6_eq0, m1_eq0, c_leT, c_leF, c_ltT, c_ltF, c_eqF, false_or, or_false, or_self, if_true, if_false, ite_true, ite_false, Option.bind_some, not_true_eq_false, not_false_eq_true, reduceIte]
  | succ c ih =>
    intro j fuel h1 h3
    obtain ⟨fuel, rfl⟩ : ∃ n, fuel = n + 1 := ⟨fuel - 1, by omega⟩
    rw [f_X3_allSheets_L4]
    simp (disch := omega) only [n_lt, n_le, n_eq, n_lt0, n_ge0, n_eq0, n_gt0, n_le0, n_cl, n_add, n_sub, n_mul, n_m1, n_m6, m1_lt, m6_lt, m1_ge, m6_ge, m1_eq, m6_eq0, m1_eq0, c_leT, c_leF, c_ltT, c_ltF, c_eqF, false_or, or_false, or_self, if_true, if_false, ite_true, ite_false, Option.bind_some, not_true_eq_false, not_false_eq_true, reduceIte, hY j (show j < 8 by omega)]
    exact ih (j + 1) fuel (by omega) (by omega)
theorem lp_few86 {sh : Nat → Nat} {n : Nat} (hn : n ≤ 8) {Y : Nat → Int32} (hY : ∀ b, b < 8 → Y b = nI (sh b)) (kL : Int32 → Int32 → Option (Int32 × ModS)) : ∀ (c j fuel : Nat), n = j + c → c < fuel → f_X6_fewest_L86 (nI n) Y fuel (nI (sumN sh j)) (nI j) kL = kL (nI (sumN sh n)) (nI n) := by
  intro c
  induction c with
  | zero =>
    intro j fuel h1 h3
    obtain ⟨fuel, rfl⟩ : ∃ n, fuel = n + 1 := ⟨fuel - 1, by omega⟩
    have hj : j = n := by omega
    subst hj
    rw [f_X6_fewest_L86]
    simp (disch := omega) only [n_lt, n_le, n_eq, n_lt0, n_ge0, n_eq0, n_gt0, n_le0, n_cl, n_add, n_sub, n_mul, n_m1, n_m6, m1_lt, m6_lt, m1_ge, m6_ge, m1_eq, m6_eq0, m1_eq0, c_leT, c_leF, c_ltT, c_ltF, c_eqF, false_or, or_false, or_self, if_true, if_false, ite_true, ite_false, Option.bind_some, not_true_eq_false, not_false_eq_true, reduceIte]
  | succ c ih =>
    intro j fuel h1 h3
    obtain ⟨fuel, rfl⟩ : ∃ n, fuel = n + 1 := ⟨fuel - 1, by omega⟩
    rw [f_X6_fewest_L86]
    simp (disch := omega) only [n_lt, n_le, n_eq, n_lt0, n_ge0, n_eq0, n_gt0, n_le0, n_cl, n_add, n_sub, n_mul, n_m1, n_m6, m1_lt, m6_lt, m1_ge, m6_ge, m1_eq, m6_eq0, m1_eq0, c_leT, c_leF, c_ltT, c_ltF, c_eqF, false_or, or_false, or_self, if_true, if_false, ite_true, ite_false, Option.bind_some, not_true_eq_false, not_false_eq_true, reduceIte, hY j (show j < 8 by omega)]
    exact ih (j + 1) fuel (by omega) (by omega)
theorem f_sheetsBy {n k q : Nat} {w sg sb : Nat → Nat} {tH : HouS} (hH : HouR tH (n, k, q, w, sg, sb)) (hw : ∀ j, w j ≤ 99) (hn : n ≤ 8) {tD : DayS} {m : Nat} {d : Nat → Nat} (hD : DayR tD m d) (tB : WbS) (t : InnS) {v : Nat} (hv : v < 4) : ∃ t', f_X5_sheetsBy (nI v) tB tH tD t = some (nI (shS n v w d m), t') := by
  obtain ⟨t1, o1, o2, o3⟩ := f_open hH hn v t
  obtain ⟨t3, l1, l2, l3⟩ := f_live hH hw hn hv hD (fr := 0) (to := m) (by omega) (Nat.le_refl m) (openA_ok n) o2
  have l4 := l3 _ (openA_go n) o3
  have h8 := shS_8 (kk := v) (m := m) (w := w) (d := d) hn
  simp only [Nat.sub_zero] at l1 l4
  obtain ⟨H_beds, H_law, H_sights, H_isKept, H_worths, H_sightGuests, H_sightBeds⟩ := tH
  obtain ⟨len, S⟩ := tD
  obtain ⟨I_law, I_there, I_sleepers, I_empty, I_empties, I_yard, I_waiting, I_nights, I_used, I_sheets, I_lastOnes, I_guestsWithFleas, I_bedsWithFleas, I_isCounting⟩ := t
  obtain ⟨J_law, J_there, J_sleepers, J_empty, J_empties, J_yard, J_waiting, J_nights, J_used, J_sheets, J_lastOnes, J_guestsWithFleas, J_bedsWithFleas, J_isCounting⟩ := t1
  obtain ⟨b1, b2, b3, b4, b5, b6, b7, b8, b9, b10, b11, b12, b13, b14⟩ := t3
  obtain rfl : len = nI m := hD.1
  rw [f_X5_sheetsBy, o1]
  simp only [Option.bind_some, l1]
  rw [f_X3_allSheets]
  have hY : ∀ b, b < 8 → b10 b = nI (shO (runK v w d m 0 (openA n) K0) b) := by
    generalize runK v w d m 0 (openA n) K0 = K at l4
    obtain ⟨ni, us, sh, la, gf, bf⟩ := K
    exact l4.2.2.1
  have e := lp_allSheets hY (fun x1_L4 x2_L4 => some x1_L4) 8 0 FU (by omega) (by rw [FU_eq]; omega)
  simp only [sumN] at e
  rw [e]
  simp only [Option.bind_some]
  have h9 : sumN (shO (runK v w d m 0 (openA n) K0)) 7 + shO (runK v w d m 0 (openA n) K0) 7 = shS n v w d m := h8
  first
    | exact ⟨_, by rw [← h8]; rfl⟩
    | exact ⟨_, by rw [← h8]⟩
def fwA (s : Nat → Nat) : Nat → Nat → Nat → Nat → Nat × Nat
  | 0, _, b, l => (b, l)
  | c + 1, v, b, l => if l ≤ s v then fwA s c (v + 1) b l else fwA s c (v + 1) v (s v)
theorem lp_ffew {n k q : Nat} {w sg sb : Nat → Nat} {H_beds H_law H_sights H_isKept : Int32} {H_worths H_sightGuests H_sightBeds : Nat → Int32} (hH : HouR (H_beds, H_law, H_sights, H_isKept, H_worths, H_sightGuests, H_sightBeds) (n, k, q, w, sg, sb)) (hw : ∀ j, w j ≤ 99) (hn : n ≤ 8) {len : Int32} {S : Nat → Int32} {m : Nat} {d : Nat → Nat} (hD : DayR (len, S) m d) (hm : m ≤ 48) (tB : WbS) (x1 : Int32) : ∀ (c v fuel b l : Nat) {I_law I_there I_empties I_waiting I_guestsWithFleas I_bedsWithFleas I_isCounting : Int32} {I_sleepers I_empty I_yard I_nights I_used I_sheets I_lastOnes : Nat → Int32}, 4 = v + c → c < fuel → l < 1000 → ∃ t', f_X5_fewest_L34 tB H_beds H_law H_sights H_isKept H_worths H_sightGuests H_sightBeds len S fuel (nI b) (nI l) (nI v) I_law I_there I_sleepers I_empty I_empties I_yard I_waiting I_nights I_used I_sheets I_lastOnes I_guestsWithFleas I_bedsWithFleas I_isCounting (fun x3_L34 x4_L34 x5_L34 I_law I_there I_sleepers I_empty I_empties I_yard I_waiting I_nights I_used I_sheets I_lastOnes I_guestsWithFleas I_bedsWithFleas I_isCounting => (if x1 = 0 then some (x3_L34, (I_law, I_there, I_sleepers, I_empty, I_empties, I_yard, I_waiting, I_nights, I_used, I_sheets, I_lastOnes, I_guestsWithFleas, I_bedsWithFleas, I_isCounting)) else some (x4_L34, (I_law, I_there, I_sleepers, I_empty, I_empties, I_yard, I_waiting, I_nights, I_used, I_sheets, I_lastOnes, I_guestsWithFleas, I_bedsWithFleas, I_isCounting)))) = some (if x1 = 0 then nI (fwA (fun v => shS n v w d m) c v b l).1 else nI (fwA (fun v => shS n v w d m) c v b l).2, t') := by
  intro c
  induction c with
  | zero =>
    intro v fuel b l I_law I_there I_empties I_waiting I_guestsWithFleas I_bedsWithFleas I_isCounting I_sleepers I_empty I_yard I_nights I_used I_sheets I_lastOnes h1 h3 hl
    obtain ⟨fuel, rfl⟩ : ∃ n, fuel = n + 1 := ⟨fuel - 1, by omega⟩
    rw [f_X5_fewest_L34, if_pos (by rw [n_le (by omega) (by omega)]; omega)]
    simp only [fwA, ite_some]
    exact ⟨_, rfl⟩
  | succ c ih =>
    intro v fuel b l I_law I_there I_empties I_waiting I_guestsWithFleas I_bedsWithFleas I_isCounting I_sleepers I_empty I_yard I_nights I_used I_sheets I_lastOnes h1 h3 hl
    obtain ⟨fuel, rfl⟩ : ∃ n, fuel = n + 1 := ⟨fuel - 1, by omega⟩
    obtain ⟨t', s1⟩ := f_sheetsBy hH hw hn hD tB (I_law, I_there, I_sleepers, I_empty, I_empties, I_yard, I_waiting, I_nights, I_used, I_sheets, I_lastOnes, I_guestsWithFleas, I_bedsWithFleas, I_isCounting) (v := v) (by omega)
    have hsl := shS_lt (kk := v) (w := w) (d := d) hn hm
    obtain ⟨J_law, J_there, J_sleepers, J_empty, J_empties, J_yard, J_waiting, J_nights, J_used, J_sheets, J_lastOnes, J_guestsWithFleas, J_bedsWithFleas, J_isCounting⟩ := t'
    rw [f_X5_fewest_L34, if_neg (by rw [n_le (by omega) (by omega)]; omega), s1]
    simp only [Option.bind_some, n_add, fwA]
    by_cases e : l ≤ shS n v w d m
    · rw [if_pos (by rw [n_le (by omega) (by omega)]; exact e)]
      simp only [if_pos e]
      exact ih (v + 1) fuel b l (by omega) (by omega) hl
    · rw [if_neg (by rw [n_le (by omega) (by omega)]; exact e)]
      simp only [if_neg e]
      exact ih (v + 1) fuel v _ (by omega) (by omega) hsl
def mSetL (v : Int32) : ModS → ModS
  | (M_beds, M_law, M_worths, M_sights, M_sight, M_signs, M_pad, M_lies, M_empty, M_list, M_waits, M_yard, M_last, M_used, M_sheets, M_nights, M_fleasOfGuests, M_fleasOfBeds, M_reason, M_row, M_bestRow, M_image, M_isKept) => (M_beds, v, M_worths, M_sights, M_sight, M_signs, M_pad, M_lies, M_empty, M_list, M_waits, M_yard, M_last, M_used, M_sheets, M_nights, M_fleasOfGuests, M_fleasOfBeds, M_reason, M_row, M_bestRow, M_image, M_isKept)
theorem mSetL_P {v z : Int32} {t t1 : ModS} (h : mP t1 = mP (mSetL v t)) : mP (mSetL z t1) = mP (mSetL z t) := by
  obtain ⟨M_beds, M_law, M_worths, M_sights, M_sight, M_signs, M_pad, M_lies, M_empty, M_list, M_waits, M_yard, M_last, M_used, M_sheets, M_nights, M_fleasOfGuests, M_fleasOfBeds, M_reason, M_row, M_bestRow, M_image, M_isKept⟩ := t
  obtain ⟨L_beds, L_law, L_worths, L_sights, L_sight, L_signs, L_pad, L_lies, L_empty, L_list, L_waits, L_yard, L_last, L_used, L_sheets, L_nights, L_fleasOfGuests, L_fleasOfBeds, L_reason, L_row, L_bestRow, L_image, L_isKept⟩ := t1
  simp only [mP, mSetL, Prod.mk.injEq] at h ⊢
  obtain ⟨h1, h2, h3, h4, h5, h6, h7, h8, h9, h10, h11⟩ := h
  exact ⟨h1, trivial, h3, h4, h5, h6, h7, h8, h9, h10, h11⟩
theorem mSetL_H {v k' n k q : Nat} {w sg sb : Nat → Nat} {t : ModS} (h : ModHR t (n, k', q, w, sg, sb)) (hv : v = k) : ModHR (mSetL (nI v) t) (n, k, q, w, sg, sb) := by
  subst hv
  obtain ⟨M_beds, M_law, M_worths, M_sights, M_sight, M_signs, M_pad, M_lies, M_empty, M_list, M_waits, M_yard, M_last, M_used, M_sheets, M_nights, M_fleasOfGuests, M_fleasOfBeds, M_reason, M_row, M_bestRow, M_image, M_isKept⟩ := t
  obtain ⟨h1, h2, h3, h4, h5⟩ := h
  exact ⟨h1, rfl, h3, h4, h5⟩
theorem mSetL_D {v : Int32} {t : ModS} {m : Nat} {d : Nat → Nat} (h : ModDR t m d) : ModDR (mSetL v t) m d := by
  obtain ⟨M_beds, M_law, M_worths, M_sights, M_sight, M_signs, M_pad, M_lies, M_empty, M_list, M_waits, M_yard, M_last, M_used, M_sheets, M_nights, M_fleasOfGuests, M_fleasOfBeds, M_reason, M_row, M_bestRow, M_image, M_isKept⟩ := t
  obtain ⟨h1, h2⟩ := h
  exact ⟨h1, h2⟩
def gFw (x1 z : Int32) (fuel : Nat) (x4 x5 x6 : Int32) : ModS → Option (Int32 × ModS)
  | (M_beds, M_law, M_worths, M_sights, M_sight, M_signs, M_pad, M_lies, M_empty, M_list, M_waits, M_yard, M_last, M_used, M_sheets, M_nights, M_fleasOfGuests, M_fleasOfBeds, M_reason, M_row, M_bestRow, M_image, M_isKept) => f_X6_fewest_L43 fuel x4 x5 x6 M_beds M_law M_worths M_sights M_sight M_signs M_pad M_lies M_empty M_list M_waits M_yard M_last M_used M_sheets M_nights M_fleasOfGuests M_fleasOfBeds M_reason M_row M_bestRow M_image M_isKept (fun x4_L43 x5_L43 x6_L43 M_beds M_law M_worths M_sights M_sight M_signs M_pad M_lies M_empty M_list M_waits M_yard M_last M_used M_sheets M_nights M_fleasOfGuests M_fleasOfBeds M_reason M_row M_bestRow M_image M_isKept => (if x1 = 0 then some (x4_L43, (M_beds, z, M_worths, M_sights, M_sight, M_signs, M_pad, M_lies, M_empty, M_list, M_waits, M_yard, M_last, M_used, M_sheets, M_nights, M_fleasOfGuests, M_fleasOfBeds, M_reason, M_row, M_bestRow, M_image, M_isKept)) else some (x5_L43, (M_beds, z, M_worths, M_sights, M_sight, M_signs, M_pad, M_lies, M_empty, M_list, M_waits, M_yard, M_last, M_used, M_sheets, M_nights, M_fleasOfGuests, M_fleasOfBeds, M_reason, M_row, M_bestRow, M_image, M_isKept))))
theorem gFw_step {n k q : Nat} {w sg sb : Nat → Nat} (hw : ∀ j, w j ≤ 99) (hn : n ≤ 8) {m : Nat} {d : Nat → Nat} (hd : ∀ j, j < 48 → d j < 127) (hm : m ≤ 48) (hf : fA d m 0 0 = none) (hc : cntQ d m = 0) {kk : Nat} (hr : (runA kk w d m 0 (openA n)).1 = none) (x1 z x4 x5 : Int32) {v fuel : Nat} (hv : v < 4) {t : ModS} (hM : ModHR t (n, k, q, w, sg, sb)) (hD : ModDR t m d) : ∃ t', gFw x1 z (fuel + 1) x4 x5 (nI v) t = gFw x1 z fuel (if x4 < 0 then nI v else if x5 ≤ nI (shS n v w d m) then x4 else nI v) (if x5 < 0 then nI (shS n v w d m) else if x5 ≤ nI (shS n v w d m) then x5 else nI (shS n v w d m)) (nI (v + 1)) t' ∧ mP (mSetL z t') = mP (mSetL z t) ∧ ModHR t' (n, v, q, w, sg, sb) ∧ ModDR t' m d := by
  have hM1 := mSetL_H hM (v := v) (k := v) rfl
  have hD1 := mSetL_D (v := nI v) hD
  obtain ⟨t', g1, g2, g3, g4⟩ := m_goD hw hv hn hd hm hf hc (x4 := nI 0) hM1 hD1
  have hr2 : (runA v w d m 0 (openA n)).1 = none := (run_law hn m 0 _ _ (openA_ok n) (openA_ok n) (fun x => Iff.rfl)).trans hr
  rw [hr2] at g1
  have g5 := (g4 0 0).1
  have hY : ∀ (L : Nat → Int32), (∀ T : ModS, T = t' → True) → True := fun _ _ => trivial
  refine ⟨t', ?_, mSetL_P g2, mP_H g2 hM1, mP_D g2 hD1⟩
  have hM2 := mP_H g2 hM1
  obtain ⟨M_beds, M_law, M_worths, M_sights, M_sight, M_signs, M_pad, M_lies, M_empty, M_list, M_waits, M_yard, M_last, M_used, M_sheets, M_nights, M_fleasOfGuests, M_fleasOfBeds, M_reason, M_row, M_bestRow, M_image, M_isKept⟩ := t
  obtain ⟨L_beds, L_law, L_worths, L_sights, L_sight, L_signs, L_pad, L_lies, L_empty, L_list, L_waits, L_yard, L_last, L_used, L_sheets, L_nights, L_fleasOfGuests, L_fleasOfBeds, L_reason, L_row, L_bestRow, L_image, L_isKept⟩ := t'
  obtain rfl : M_signs = nI m := hD.1
  obtain rfl : L_beds = nI n := hM2.1
  have hsh : ∀ b, b < 8 → L_sheets b = nI (shO (runK v w d m 0 (openA n) K0) b) := by
    have hK0 : K0 = K0f 0 0 := rfl
    rw [hK0]
    generalize runK v w d m 0 (openA n) (K0f 0 0) = K at g5
    obtain ⟨ni, us, sh, la, gf, bf⟩ := K
    exact g5.2.2.1
  simp only [mSetL] at g1
  show f_X6_fewest_L43 (fuel + 1) x4 x5 (nI v) M_beds M_law M_worths M_sights M_sight (nI m) M_pad M_lies M_empty M_list M_waits M_yard M_last M_used M_sheets M_nights M_fleasOfGuests M_fleasOfBeds M_reason M_row M_bestRow M_image M_isKept (fun x4_L43 x5_L43 x6_L43 M_beds M_law M_worths M_sights M_sight M_signs M_pad M_lies M_empty M_list M_waits M_yard M_last M_used M_sheets M_nights M_fleasOfGuests M_fleasOfBeds M_reason M_row M_bestRow M_image M_isKept => (if x1 = 0 then some (x4_L43, (M_beds, z, M_worths, M_sights, M_sight, M_signs, M_pad, M_lies, M_empty, M_list, M_waits, M_yard, M_last, M_used, M_sheets, M_nights, M_fleasOfGuests, M_fleasOfBeds, M_reason, M_row, M_bestRow, M_image, M_isKept)) else some (x5_L43, (M_beds, z, M_worths, M_sights, M_sight, M_signs, M_pad, M_lies, M_empty, M_list, M_waits, M_yard, M_last, M_used, M_sheets, M_nights, M_fleasOfGuests, M_fleasOfBeds, M_reason, M_row, M_bestRow, M_image, M_isKept)))) = _
  rw [f_X6_fewest_L43, if_neg (by rw [n_le (by omega) (by omega)]; omega), g1]
  simp only [Option.bind_some, cdP]
  unfold gJn
  dsimp only
  rw [if_neg (show ¬ (0 : Int32) ≤ -6 by decide)]
  have e := lp_few86 hn hsh
  have e2 := fun kL => e kL n 0 FU (by omega) (by rw [FU_eq]; omega)
  have e3 : sumN (shO (runK v w d m 0 (openA n) K0)) 0 = 0 := rfl
  rw [e3] at e2
  rw [e2]
  have e4 : sumN (shO (runK v w d m 0 (openA n) K0)) n = shS n v w d m := rfl
  rw [e4, n_add]
  by_cases c1 : x4 < 0
  · by_cases c2 : x5 < 0
    · simp only [if_pos c1, if_pos c2]
      rfl
    · by_cases c3 : x5 ≤ nI (shS n v w d m)
      · simp only [if_pos c1, if_neg c2, if_pos c3]
        rfl
      · simp only [if_pos c1, if_neg c2, if_neg c3]
        rfl
  · by_cases c2 : x5 < 0
    · by_cases c3 : x5 ≤ nI (shS n v w d m)
      · simp only [if_neg c1, if_pos c2, if_pos c3]
        rfl
      · simp only [if_neg c1, if_pos c2, if_neg c3]
        rfl
    · by_cases c3 : x5 ≤ nI (shS n v w d m)
      · simp only [if_neg c1, if_neg c2, if_pos c3]
        rfl
      · simp only [if_neg c1, if_neg c2, if_neg c3]
        rfl
theorem gFw_end {x1 z x4 x5 : Int32} {fuel : Nat} {t : ModS} : gFw x1 z (fuel + 1) x4 x5 (nI 4) t = some (if x1 = 0 then x4 else x5, mSetL z t) := by
  obtain ⟨M_beds, M_law, M_worths, M_sights, M_sight, M_signs, M_pad, M_lies, M_empty, M_list, M_waits, M_yard, M_last, M_used, M_sheets, M_nights, M_fleasOfGuests, M_fleasOfBeds, M_reason, M_row, M_bestRow, M_image, M_isKept⟩ := t
  show f_X6_fewest_L43 (fuel + 1) x4 x5 (nI 4) M_beds M_law M_worths M_sights M_sight M_signs M_pad M_lies M_empty M_list M_waits M_yard M_last M_used M_sheets M_nights M_fleasOfGuests M_fleasOfBeds M_reason M_row M_bestRow M_image M_isKept (fun x4_L43 x5_L43 x6_L43 M_beds M_law M_worths M_sights M_sight M_signs M_pad M_lies M_empty M_list M_waits M_yard M_last M_used M_sheets M_nights M_fleasOfGuests M_fleasOfBeds M_reason M_row M_bestRow M_image M_isKept => (if x1 = 0 then some (x4_L43, (M_beds, z, M_worths, M_sights, M_sight, M_signs, M_pad, M_lies, M_empty, M_list, M_waits, M_yard, M_last, M_used, M_sheets, M_nights, M_fleasOfGuests, M_fleasOfBeds, M_reason, M_row, M_bestRow, M_image, M_isKept)) else some (x5_L43, (M_beds, z, M_worths, M_sights, M_sight, M_signs, M_pad, M_lies, M_empty, M_list, M_waits, M_yard, M_last, M_used, M_sheets, M_nights, M_fleasOfGuests, M_fleasOfBeds, M_reason, M_row, M_bestRow, M_image, M_isKept)))) = _
  rw [f_X6_fewest_L43, if_pos (by decide), ite_some]
  rfl
theorem lp_mfew {n q : Nat} {w sg sb : Nat → Nat} (hw : ∀ j, w j ≤ 99) (hn : n ≤ 8) {m : Nat} {d : Nat → Nat} (hd : ∀ j, j < 48 → d j < 127) (hm : m ≤ 48) (hf : fA d m 0 0 = none) (hc : cntQ d m = 0) {kk : Nat} (hr : (runA kk w d m 0 (openA n)).1 = none) (x1 z : Int32) : ∀ (c v fuel b l k : Nat) (t : ModS), 4 = v + c → c < fuel → b < 4 → l < 1000 → ModHR t (n, k, q, w, sg, sb) → ModDR t m d → ∃ t', gFw x1 z fuel (nI b) (nI l) (nI v) t = some (if x1 = 0 then nI (fwA (fun v => shS n v w d m) c v b l).1 else nI (fwA (fun v => shS n v w d m) c v b l).2, t') ∧ mP t' = mP (mSetL z t) := by
  intro c
  induction c with
  | zero =>
    intro v fuel b l k t h1 h3 hb hl hM hD
    obtain ⟨fuel, rfl⟩ : ∃ n, fuel = n + 1 := ⟨fuel - 1, by omega⟩
    have hv : v = 4 := by omega
    subst hv
    rw [gFw_end]
    exact ⟨_, rfl, rfl⟩
  | succ c ih =>
    intro v fuel b l k t h1 h3 hb hl hM hD
    obtain ⟨fuel, rfl⟩ : ∃ n, fuel = n + 1 := ⟨fuel - 1, by omega⟩
    obtain ⟨t1, e1, e2, e3, e4⟩ := gFw_step hw hn hd hm hf hc hr x1 z (nI b) (nI l) (v := v) (fuel := fuel) (by omega) hM hD
    have hsl := shS_lt (kk := v) (w := w) (d := d) hn hm
    rw [e1, if_neg (show ¬ nI b < 0 by rw [n_lt0 (by omega)]; exact id), if_neg (show ¬ nI l < 0 by rw [n_lt0 (by omega)]; exact id)]
    simp only [fwA]
    by_cases e : l ≤ shS n v w d m
    · have e' : nI l ≤ nI (shS n v w d m) := by rw [n_le (by omega) (by omega)]; exact e
      rw [if_pos e', if_pos e']
      simp only [if_pos e]
      obtain ⟨t', g1, g2⟩ := ih (v + 1) fuel b l v t1 (by omega) (by omega) hb hl e3 e4
      exact ⟨t', g1, g2.trans e2⟩
    · have e' : ¬ nI l ≤ nI (shS n v w d m) := by rw [n_le (by omega) (by omega)]; exact e
      rw [if_neg e', if_neg e']
      simp only [if_neg e]
      obtain ⟨t', g1, g2⟩ := ih (v + 1) fuel v _ v t1 (by omega) (by omega) (by omega) hsl e3 e4
      exact ⟨t', g1, g2.trans e2⟩
