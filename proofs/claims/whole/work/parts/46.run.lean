/-! the whole day of the reference -/
def whyR (e : Nat → Nat) : Option Nat × AIn → Nat
  | (none, _) => 0
  | (some p, C) => whyA (e p) C
/-- the signs as they are read: for each ? a digit of the code -/
def effE (d : Nat → Nat) (u code : Nat) (i : Nat) : Nat := if d i = 63 then 65 + code / 8 ^ (u - 1 - cntQ d i) % 8 else d i
theorem whyA_lt (s : Nat) (C : AIn) : whyA s C < 3 := by
  unfold whyA
  split
  · split <;> omega
  · split
    · split <;> omega
    · omega
theorem pow8_lt {u c : Nat} (hu : u ≤ 3) : 8 ^ (u - 1 - c) < 2147483648 ∧ 0 < 8 ^ (u - 1 - c) := by
  have : 8 ^ (u - 1 - c) ≤ 8 ^ 2 := Nat.pow_le_pow_right (by omega) (by omega)
  exact ⟨by omega, Nat.pow_pos (by omega)⟩
theorem pow8_next {u c : Nat} : (if 8 ^ (u - 1 - c) ≤ 1 then 8 ^ (u - 1 - c) else 8 ^ (u - 1 - c) / 8) = 8 ^ (u - 1 - (c + 1)) := by
  rcases (show u - 1 - c = 0 ∨ ∃ j, u - 1 - c = j + 1 from by
    cases u - 1 - c with
    | zero => exact Or.inl rfl
    | succ j => exact Or.inr ⟨j, rfl⟩) with h | ⟨j, h⟩
  · rw [h, show u - 1 - (c + 1) = 0 by omega]
    rfl
  · rw [h, show u - 1 - (c + 1) = j by omega, Nat.pow_succ]
    have : 0 < 8 ^ j := Nat.pow_pos (by omega)
    rw [if_neg (by omega)]
    omega
theorem m_goL {n k q : Nat} {w sg sb : Nat → Nat} (hw : ∀ j, w j ≤ 99) (hk : k < 4) (hn : n ≤ 8) {m : Nat} {d : Nat → Nat} {ev u code : Nat} (hev : ev ≤ 48) (hu : u ≤ 3) (hc : code < 2147483648) {x3 x4 : Int32} (hok : ∀ i, i < ev → d i = 63 ∨ okS (d i)) : ∀ (c p fuel : Nat) (C : AIn) (t t0 : ModS), ev = p + c → c + 1 < fuel → (∀ i, p < i → i ≤ ev → nI i ≠ x3) → gPre x3 x4 p t t0 → AOk n C → GO C → ModHR t0 (n, k, q, w, sg, sb) → ModDR t0 m d → MoR C t0 → (mF t0).2.2 = nI 0 →
    ∃ t', gGo (nI ev) (nI code) x3 x4 fuel (nI (8 ^ (u - 1 - cntQ d p))) (nI p) t = some (cdP (runA k w (effE d u code) c p C).1, t') ∧ mP t' = mP t0 ∧ (mF t').2.2 = nI (whyR (effE d u code) (runA k w (effE d u code) c p C)) ∧ MoR (runA k w (effE d u code) c p C).2 t' ∧ (∀ K, MnR K t0 → MnR (runK k w (effE d u code) c p C K) t') ∧ ∀ K, MfR K t0 → MfR (runK k w (effE d u code) c p C K) t' := by
  intro c
  induction c with
  | zero =>
    intro p fuel C t t0 h1 h2 hx hp hC hG hM hD ho hr
    obtain ⟨fuel, rfl⟩ : ∃ n, fuel = n + 1 + 1 := ⟨fuel - 2, by omega⟩
    have hpe : ev = p := by omega
    subst hpe
    rw [gGo_last (by omega) hp hr, gGo_end (by omega) (by omega)]
    exact ⟨t0, rfl, rfl, hr, ho, fun K h => h, fun K h => h⟩
  | succ c ih =>
    intro p fuel C t t0 h1 h2 hx hp hC hG hM hD ho hr
    obtain ⟨fuel, rfl⟩ : ∃ n, fuel = n + 1 := ⟨fuel - 1, by omega⟩
    have heff : okS (effE d u code p) := by
      unfold effE
      rcases hok p (by omega) with h | h
      · rw [if_pos h]
        have := Nat.mod_lt (code / 8 ^ (u - 1 - cntQ d p)) (show 8 > 0 by omega)
        exact Or.inr (Or.inl ⟨by omega, by omega⟩)
      · rw [if_neg (by rcases h with h | h | h <;> omega)]
        exact h
    obtain ⟨t1, e1, e2, e3, e4, e5⟩ := m_happen hM hw hk hn hC hG ho heff
    have hstep : gGo (nI ev) (nI code) x3 x4 (fuel + 1) (nI (8 ^ (u - 1 - cntQ d p))) (nI p) t = if nI (whyA (effE d u code p) C) ≤ 0 then gGo (nI ev) (nI code) x3 x4 fuel (nI (8 ^ (u - 1 - cntQ d (p + 1)))) (nI (p + 1)) (mSet (nI (whyA (effE d u code p) C)) t1) else some (nI p, mSet (nI (whyA (effE d u code p) C)) t1) := by
      have hpw := pow8_lt (u := u) (c := cntQ d p) hu
      by_cases h : d p = 63
      · have he : effE d u code p = 65 + code / 8 ^ (u - 1 - cntQ d p) % 8 := if_pos h
        have hml := Nat.mod_lt (code / 8 ^ (u - 1 - cntQ d p)) (show 8 > 0 by omega)
        have hev3 : evN (effE d u code p) = code / 8 ^ (u - 1 - cntQ d p) % 8 := by
          rw [he]
          unfold evN
          rw [if_neg (by omega), if_pos (by omega)]
          omega
        rw [hev3] at e1
        rw [gGo_quest (by omega) hev hp hr hD h hc hpw.2 hpw.1 e1, pow8_next]
        have hq : cntQ d (p + 1) = cntQ d p + 1 := by simp only [cntQ, if_pos h]
        rw [hq]
      · have he : effE d u code p = d p := if_neg h
        rw [he] at e1 heff ⊢
        rw [gGo_plain (by omega) hev hp hr hD rfl heff e1]
        have hq : cntQ d (p + 1) = cntQ d p := by simp only [cntQ, if_neg h, Nat.add_zero]
        rw [hq]
    rw [hstep]
    simp only [runA, runK]
    have hwl := whyA_lt (effE d u code p) C
    by_cases hz : whyA (effE d u code p) C = 0
    · obtain ⟨e6, e7, e8⟩ := e5 hz
      simp only [hz, if_true]
      rw [if_pos (by rw [n_le0 (by omega)])]
      have hP : mP (mSet (nI 0) t1) = mP t0 := (mSet_P _ _).trans e2
      obtain ⟨t', g1, g2, g3, g4, g5, g6⟩ := ih (p + 1) fuel (evC k w (effE d u code p) C) (mSet (nI 0) t1) (mSet (nI 0) t1) (by omega) (by omega) (fun i h3 h4 => hx i (by omega) h4) (Or.inl ⟨hx (p + 1) (by omega) (by omega), rfl⟩) (evC_ok hC hn hz) (evC_go hC hn hz hG) (mP_H hP hM) (mP_D hP hD) (mSet_o e6) (mSet_r _ _)
      exact ⟨t', g1, g2.trans hP, g3, g4, fun K h => g5 _ (mSet_n (e7 K h)), fun K h => g6 _ (mSet_f (e8 K h))⟩
    · have ht := e4 hz
      subst ht
      simp only [if_neg hz]
      rw [if_neg (by rw [n_le0 (by omega)]; exact hz)]
      exact ⟨_, rfl, mSet_P _ _, mSet_r _ _, mSet_o ho, fun K h => mSet_n h, fun K h => mSet_f h⟩
theorem lp_go15 {M_beds M_law M_sights M_signs M_empty M_waits M_fleasOfGuests M_fleasOfBeds M_reason : Int32} {M_worths M_sight M_pad M_lies M_list M_yard M_last M_used M_sheets M_nights M_row M_bestRow M_image M_isKept : Nat → Int32} {u : Nat} (hu : u ≤ 3) (ho : f_X6_opens M_signs (M_beds, M_law, M_worths, M_sights, M_sight, M_signs, M_pad, M_lies, M_empty, M_list, M_waits, M_yard, M_last, M_used, M_sheets, M_nights, M_fleasOfGuests, M_fleasOfBeds, M_reason, M_row, M_bestRow, M_image, M_isKept) = some (nI u)) (kL : Int32 → Int32 → Option (Int32 × ModS)) : ∀ (c i fuel : Nat), u - i = c → 1 ≤ i → i ≤ 3 → c < fuel → ∃ x6, f_X6_go_L15 M_beds M_law M_worths M_sights M_sight M_signs M_pad M_lies M_empty M_list M_waits M_yard M_last M_used M_sheets M_nights M_fleasOfGuests M_fleasOfBeds M_reason M_row M_bestRow M_image M_isKept fuel (nI (8 ^ (i - 1))) (nI i) kL = kL (nI (8 ^ (i - 1 + c))) x6 := by
  intro c
  induction c with
  | zero =>
    intro i fuel h1 h2 h4 h3
    obtain ⟨fuel, rfl⟩ : ∃ n, fuel = n + 1 := ⟨fuel - 1, by omega⟩
    rw [f_X6_go_L15, ho]
    simp (disch := omega) only [n_lt, n_le, n_eq, n_lt0, n_ge0, n_eq0, n_gt0, n_le0, n_cl, n_add, n_sub, n_mul, n_m1, n_m6, m1_lt, m6_lt, m1_ge, m6_ge, m1_eq, m6_eq0, m1_eq0, c_leT, c_leF, c_ltT, c_ltF, c_eqF, false_or, or_false, or_self, if_true, if_false, ite_true, ite_false, Option.bind_some, not_true_eq_false, not_false_eq_true, reduceIte]
    exact ⟨_, rfl⟩
  | succ c ih =>
    intro i fuel h1 h2 h4 h3
    obtain ⟨fuel, rfl⟩ : ∃ n, fuel = n + 1 := ⟨fuel - 1, by omega⟩
    rw [f_X6_go_L15, ho]
    simp (disch := omega) only [n_lt, n_le, n_eq, n_lt0, n_ge0, n_eq0, n_gt0, n_le0, n_cl, n_add, n_sub, n_mul, n_m1, n_m6, m1_lt, m6_lt, m1_ge, m6_ge, m1_eq, m6_eq0, m1_eq0, c_leT, c_leF, c_ltT, c_ltF, c_eqF, false_or, or_false, or_self, if_true, if_false, ite_true, ite_false, Option.bind_some, not_true_eq_false, not_false_eq_true, reduceIte]
    have e := ih (i + 1) fuel (by omega) (by omega) (by omega) (by omega)
    rw [show i + 1 - 1 = i - 1 + 1 by omega, Nat.pow_succ, show i - 1 + 1 + c = i - 1 + (c + 1) by omega] at e
    exact e
theorem m_go {n k q : Nat} {w sg sb : Nat → Nat} (hw : ∀ j, w j ≤ 99) (hk : k < 4) (hn : n ≤ 8) {m : Nat} {d : Nat → Nat} (hd : ∀ j, j < 48 → d j < 127) {ev code : Nat} (hev : ev ≤ m) (hm : m ≤ 48) (hu : cntQ d m ≤ 3) (hc : code < 2147483648) (hok : ∀ i, i < ev → d i = 63 ∨ okS (d i)) {x4 : Int32} {t : ModS} (hM : ModHR t (n, k, q, w, sg, sb)) (hD : ModDR t m d) :
    ∃ t', f_X6_go (nI ev) (nI code) (-6) x4 t = some (cdP (runA k w (effE d (cntQ d m) code) ev 0 (openA n)).1, t') ∧ mP t' = mP t ∧ (mF t').2.2 = nI (whyR (effE d (cntQ d m) code) (runA k w (effE d (cntQ d m) code) ev 0 (openA n))) ∧ MoR (runA k w (effE d (cntQ d m) code) ev 0 (openA n)).2 t' ∧ ∀ gf bf, MnR (runK k w (effE d (cntQ d m) code) ev 0 (openA n) (K0f gf bf)) t' ∧ (MfR (K0f gf bf) t → MfR (runK k w (effE d (cntQ d m) code) ev 0 (openA n) (K0f gf bf)) t') := by
  obtain ⟨t1, b1, b2, b3, b4, b5⟩ := m_begin hM hn
  have hP : mP (mSet (nI 0) t1) = mP t := (mSet_P _ _).trans b2
  have hD1 := mP_D hP hD
  have hop := m_opens hD1 hd (ev := m) hm
  have hL := m_goL hw hk hn (ev := ev) (u := cntQ d m) (code := code) (by omega) hu hc (x3 := -6) (x4 := x4) hok ev 0 FU (openA n) (mSet (nI 0) t1) (mSet (nI 0) t1) (by omega) (by rw [FU_eq]; omega) (fun i h1 h2 e => of_eq_false (n_m6 (a := i) (by omega)) e) (Or.inl ⟨fun e => of_eq_false (n_m6 (a := 0) (by omega)) e, rfl⟩) (openA_ok n) (openA_go n) (mP_H hP hM) hD1 (mSet_o b4) (mSet_r _ _)
  obtain ⟨t', g1, g2, g3, g4, g5, g6⟩ := hL
  refine ⟨t', ?_, g2.trans hP, g3, g4, fun gf bf => ⟨g5 _ (mSet_n (b5 gf bf)), fun h => g6 _ (mSet_f (mF_f b3 h))⟩⟩
  obtain ⟨M_beds, M_law, M_worths, M_sights, M_sight, M_signs, M_pad, M_lies, M_empty, M_list, M_waits, M_yard, M_last, M_used, M_sheets, M_nights, M_fleasOfGuests, M_fleasOfBeds, M_reason, M_row, M_bestRow, M_image, M_isKept⟩ := t
  obtain ⟨L_beds, L_law, L_worths, L_sights, L_sight, L_signs, L_pad, L_lies, L_empty, L_list, L_waits, L_yard, L_last, L_used, L_sheets, L_nights, L_fleasOfGuests, L_fleasOfBeds, L_reason, L_row, L_bestRow, L_image, L_isKept⟩ := t1
  obtain rfl : L_signs = nI m := hD1.1
  simp only [mSet] at hop g1
  rw [f_X6_go, b1]
  simp only [Option.bind_some]
  obtain ⟨x6, e6⟩ := lp_go15 hu hop (fun x5_L15 x6_L15 => f_X6_go_L44 (nI ev) (nI code) (-6) x4 FU x5_L15 (nI 0) L_beds L_law L_worths L_sights L_sight (nI m) L_pad L_lies L_empty L_list L_waits L_yard L_last L_used L_sheets L_nights L_fleasOfGuests L_fleasOfBeds (nI 0) L_row L_bestRow L_image L_isKept (fun _ _ M_beds M_law M_worths M_sights M_sight M_signs M_pad M_lies M_empty M_list M_waits M_yard M_last M_used M_sheets M_nights M_fleasOfGuests M_fleasOfBeds M_reason M_row M_bestRow M_image M_isKept => some ((-6 : Int32), (M_beds, M_law, M_worths, M_sights, M_sight, M_signs, M_pad, M_lies, M_empty, M_list, M_waits, M_yard, M_last, M_used, M_sheets, M_nights, M_fleasOfGuests, M_fleasOfBeds, M_reason, M_row, M_bestRow, M_image, M_isKept)))) (cntQ d m - 1) 1 FU rfl (by omega) (by omega) (by rw [FU_eq]; omega)
  rw [show 1 - 1 + (cntQ d m - 1) = cntQ d m - 1 - cntQ d 0 by simp only [cntQ]; omega] at e6
  exact e6.trans g1
