/-! refusals: liveThrough and barOf -/
theorem runA_congr {kk : Nat} {w d e : Nat → Nat} : ∀ (c p : Nat) (C : AIn), (∀ i, p ≤ i → i < p + c → e i = d i) → runA kk w e c p C = runA kk w d c p C
  | 0, _, _, _ => rfl
  | c + 1, p, C, h => by
    simp only [runA, h p (by omega) (by omega)]
    rw [runA_congr c (p + 1) _ (fun i h1 h2 => h i (by omega) (by omega))]
theorem runK_congr {kk : Nat} {w d e : Nat → Nat} : ∀ (c p : Nat) (C : AIn) (K : AKn), (∀ i, p ≤ i → i < p + c → e i = d i) → runK kk w e c p C K = runK kk w d c p C K
  | 0, _, _, _, _ => rfl
  | c + 1, p, C, K, h => by
    simp only [runK, h p (by omega) (by omega)]
    rw [runK_congr c (p + 1) _ _ (fun i h1 h2 => h i (by omega) (by omega))]
theorem runA_lt {kk : Nat} {w d : Nat → Nat} : ∀ (c p : Nat) (C : AIn) (r : Nat), (runA kk w d c p C).1 = some r → p ≤ r ∧ r < p + c
  | 0, _, _, _, h => by simp only [runA] at h; cases h
  | c + 1, p, C, r, h => by
    simp only [runA] at h
    split at h
    · have := runA_lt c (p + 1) _ r h
      omega
    · cases h
      omega
theorem fA_lt {d : Nat → Nat} : ∀ (m p c r : Nat), fA d m p c = some r → r < p + m
  | 0, _, _, _, h => by simp only [fA] at h; cases h
  | m + 1, p, c, r, h => by
    simp only [fA] at h
    split at h
    · split at h
      · have := fA_lt m (p + 1) _ r h
        omega
      · cases h
        omega
    · split at h
      · have := fA_lt m (p + 1) _ r h
        omega
      · cases h
        omega
theorem cdP_m6 {o : Option Nat} (ho : ∀ p, o = some p → p < 2147483648) : (cdP o = -6) = (o = none) := by
  cases o with
  | none => exact propext ⟨fun _ => rfl, fun _ => rfl⟩
  | some p =>
    simp only [cdP]
    rw [n_m6 (ho p rfl)]
    exact propext ⟨False.elim, fun h => by cases h⟩
theorem cdP_lt0 {o : Option Nat} (ho : ∀ p, o = some p → p < 2147483648) : (cdP o < 0) = (o = none) := by
  cases o with
  | none => exact propext ⟨fun _ => rfl, fun _ => by decide⟩
  | some p =>
    simp only [cdP]
    rw [n_lt0 (ho p rfl)]
    exact propext ⟨False.elim, fun h => by cases h⟩
theorem fa_m6 {d : Nat → Nat} {m : Nat} (hm : m ≤ 48) : (cdP (fA d m 0 0) = -6) = (fA d m 0 0 = none) := cdP_m6 (fun p hp => by have := fA_lt m 0 0 p hp; omega)
theorem fa_lt0 {d : Nat → Nat} {m : Nat} (hm : m ≤ 48) : (cdP (fA d m 0 0) < 0) = (fA d m 0 0 = none) := cdP_lt0 (fun p hp => by have := fA_lt m 0 0 p hp; omega)
theorem ru_m6 {k : Nat} {w d : Nat → Nat} {c p : Nat} {C : AIn} (hm : p + c ≤ 48) : (cdP (runA k w d c p C).1 = -6) = ((runA k w d c p C).1 = none) := cdP_m6 (fun x hx => by have := runA_lt c p C x hx; omega)
theorem ru_lt0 {k : Nat} {w d : Nat → Nat} {c p : Nat} {C : AIn} (hm : p + c ≤ 48) : (cdP (runA k w d c p C).1 < 0) = ((runA k w d c p C).1 = none) := cdP_lt0 (fun x hx => by have := runA_lt c p C x hx; omega)
theorem effE_eq {d : Nat → Nat} {ev u code i : Nat} (h : cntQ d ev = 0) (hi : i < ev) : effE d u code i = d i := if_neg (cnt0 ev |>.mp h i hi)
def barA (n k : Nat) (w d : Nat → Nat) (m ev : Nat) : Int32 := if fA d m 0 0 = none then (if cntQ d ev = 0 then (if (runA k w d ev 0 (openA n)).1 = none then nI 0 else -5) else -3) else -5
theorem barA_0 {n k : Nat} {w d : Nat → Nat} {m ev : Nat} (h : barA n k w d m ev = nI 0) : fA d m 0 0 = none ∧ cntQ d ev = 0 ∧ (runA k w d ev 0 (openA n)).1 = none := by
  unfold barA at h
  by_cases h1 : fA d m 0 0 = none
  · rw [if_pos h1] at h
    by_cases h2 : cntQ d ev = 0
    · rw [if_pos h2] at h
      by_cases h3 : (runA k w d ev 0 (openA n)).1 = none
      · exact ⟨h1, h2, h3⟩
      · rw [if_neg h3] at h; exact absurd h (by decide)
    · rw [if_neg h2] at h; exact absurd h (by decide)
  · rw [if_neg h1] at h; exact absurd h (by decide)
theorem barA_c (n k : Nat) (w d : Nat → Nat) (m ev : Nat) : barA n k w d m ev = nI 0 ∨ (barA n k w d m ev ≠ nI 0 ∧ (barA n k w d m ev = 0) = False ∧ (0 ≤ barA n k w d m ev) = False) := by
  unfold barA
  split
  · split
    · split
      · exact Or.inl rfl
      · exact Or.inr (by decide)
    · exact Or.inr (by decide)
  · exact Or.inr (by decide)
theorem ev_ref {x : Int32} {ev m : Nat} (hm : m < 2147483648) (hev : ev ≤ m) (hx : x = nI ev ∨ (x = -1 ∧ ev = m)) {β : Type} (r : Int32 → β) : gJn r (fun kJ => if 0 ≤ x then kJ x else kJ (nI m)) = r (nI ev) := by
  show (_ : β) = _
  unfold gJn
  dsimp only
  rcases hx with rfl | ⟨rfl, rfl⟩
  · rw [if_pos (by rw [n_ge0 (by omega)]; trivial)]
  · rw [if_neg (by decide)]
theorem ev_cls {x : Int32} {ev m : Nat} (hm : m < 2147483648) (hev : ev ≤ m) (hx : x = nI ev ∨ (x = -1 ∧ ev = m)) {β : Type} (r : Int32 → β) : gJn r (fun kJ => if x = (-1 : Int32) then kJ (nI m) else kJ x) = r (nI ev) := by
  show (_ : β) = _
  unfold gJn
  dsimp only
  rcases hx with rfl | ⟨rfl, rfl⟩
  · rw [if_neg (by rw [n_m1 (by omega)]; exact id)]
  · rw [if_pos rfl]
theorem f_liveThrough {n k q : Nat} {w sg sb : Nat → Nat} {tH : HouS} (hH : HouR tH (n, k, q, w, sg, sb)) (hw : ∀ j, w j ≤ 99) (hn : n ≤ 8) (hk : k < 4) {tD : DayS} {m : Nat} {d : Nat → Nat} (hD : DayR tD m d) (tB : WbS) (t : InnS) {x1 : Int32} {ev : Nat} (hev : ev ≤ m) (hx : x1 = nI ev ∨ (x1 = -1 ∧ ev = m)) : ∃ t', f_X5_liveThrough x1 tB tH tD t = some (barA n k w d m ev, t') ∧ (barA n k w d m ev = nI 0 → InR k (runA k w d ev 0 (openA n)).2 t' ∧ KnR (runK k w d ev 0 (openA n) K0) t') := by
  have e1 := f_firstFault hD
  have e2 := f_isUntold hD hev
  have hm := hD.2.1
  obtain ⟨t1, o1, o2, o3⟩ := f_open hH hn k t
  obtain ⟨t2, l1, l2, l3⟩ := f_live hH hw hn hk hD (fr := 0) (to := ev) (by omega) hev (openA_ok n) o2
  have l3' := l3 K0 (openA_go n) o3
  simp only [Nat.sub_zero] at l1 l2 l3'
  obtain ⟨H_beds, H_law, H_sights, H_isKept, H_worths, H_sightGuests, H_sightBeds⟩ := tH
  obtain ⟨len, S⟩ := tD
  obtain ⟨I_law, I_there, I_sleepers, I_empty, I_empties, I_yard, I_waiting, I_nights, I_used, I_sheets, I_lastOnes, I_guestsWithFleas, I_bedsWithFleas, I_isCounting⟩ := t
  obtain ⟨J_law, J_there, J_sleepers, J_empty, J_empties, J_yard, J_waiting, J_nights, J_used, J_sheets, J_lastOnes, J_guestsWithFleas, J_bedsWithFleas, J_isCounting⟩ := t1
  obtain ⟨a1, a2, a3, a4, a5, a6, a7, a8, a9, a10, a11, a12, a13, a14⟩ := t2
  obtain rfl : H_law = nI k := hH.2.1
  obtain rfl : len = nI m := hD.1
  rw [f_X5_liveThrough, ev_cls (by omega) hev hx]
  simp only [e1, Option.bind_some, fa_m6 hm]
  unfold barA
  by_cases h1 : fA d m 0 0 = none
  · simp only [if_pos h1, e2, Option.bind_some]
    by_cases h2 : cntQ d ev = 0
    · simp only [if_pos h2]
      rw [if_pos (show nI 0 = 0 from rfl)]
      simp only [o1, Option.bind_some]
      simp only [l1, Option.bind_some]
      simp only [ru_m6 (show 0 + ev ≤ 48 by omega)]
      by_cases h3 : (runA k w d ev 0 (openA n)).1 = none
      · simp only [if_pos h3]
        exact ⟨_, rfl, fun _ => ⟨l2, l3'⟩⟩
      · simp only [if_neg h3]
        exact ⟨_, rfl, fun h => absurd h (by decide)⟩
    · simp only [if_neg h2]
      rw [if_neg (show ¬ nI 1 = 0 by decide)]
      exact ⟨_, rfl, fun h => absurd h (by decide)⟩
  · simp only [if_neg h1]
    exact ⟨_, rfl, fun h => absurd h (by decide)⟩
theorem m_barOf {n k q : Nat} {w sg sb : Nat → Nat} (hw : ∀ j, w j ≤ 99) (hk : k < 4) (hn : n ≤ 8) {m : Nat} {d : Nat → Nat} (hd : ∀ j, j < 48 → d j < 127) {ev : Nat} (hev : ev ≤ m) (hm : m ≤ 48) {t : ModS} (hM : ModHR t (n, k, q, w, sg, sb)) (hD : ModDR t m d) : ∃ t', f_X6_barOf (nI ev) t = some (barA n k w d m ev, t') ∧ mP t' = mP t ∧ (barA n k w d m ev = nI 0 → MoR (runA k w d ev 0 (openA n)).2 t' ∧ ∀ gf bf, MnR (runK k w d ev 0 (openA n) (K0f gf bf)) t') := by
  have e1 := m_faultOf hD hm hd
  have e2 := m_opens hD hd (ev := ev) (by omega)
  have hc := cntQ_le d ev
  by_cases h1 : fA d m 0 0 = none
  · by_cases h2 : cntQ d ev = 0
    · obtain ⟨hok, hu⟩ := fA_none (d := d) m 0 h1 (by simp only [cntQ]; omega)
      rw [Nat.zero_add] at hu
      obtain ⟨t', g1, g2, g3, g4, g5⟩ := m_go hw hk hn hd (ev := ev) (code := 0) hev hm hu (by omega) (fun i hi => hok i (by omega) (by omega)) (x4 := nI 0) hM hD
      have hcg : ∀ i, 0 ≤ i → i < 0 + ev → effE d (cntQ d m) 0 i = d i := fun i _ hi => effE_eq h2 (by omega)
      rw [runA_congr ev 0 _ hcg] at g1 g4
      simp only [runK_congr ev 0 _ _ hcg] at g5
      unfold barA
      simp only [if_pos h1, if_pos h2]
      obtain ⟨M_beds, M_law, M_worths, M_sights, M_sight, M_signs, M_pad, M_lies, M_empty, M_list, M_waits, M_yard, M_last, M_used, M_sheets, M_nights, M_fleasOfGuests, M_fleasOfBeds, M_reason, M_row, M_bestRow, M_image, M_isKept⟩ := t
      obtain ⟨L_beds, L_law, L_worths, L_sights, L_sight, L_signs, L_pad, L_lies, L_empty, L_list, L_waits, L_yard, L_last, L_used, L_sheets, L_nights, L_fleasOfGuests, L_fleasOfBeds, L_reason, L_row, L_bestRow, L_image, L_isKept⟩ := t'
      rw [f_X6_barOf]
      simp only [e1, Option.bind_some]
      rw [if_pos (by rw [h1]; decide), e2]
      simp only [Option.bind_some, h2]
      rw [if_pos (by decide), g1]
      simp only [Option.bind_some, ru_lt0 (show 0 + ev ≤ 48 by omega)]
      by_cases h3 : (runA k w d ev 0 (openA n)).1 = none
      · simp only [if_pos h3]
        exact ⟨_, rfl, g2, fun _ => ⟨g4, fun gf bf => (g5 gf bf).1⟩⟩
      · simp only [if_neg h3]
        exact ⟨_, rfl, g2, fun h => absurd h (by decide)⟩
    · unfold barA
      simp only [if_pos h1, if_neg h2]
      obtain ⟨M_beds, M_law, M_worths, M_sights, M_sight, M_signs, M_pad, M_lies, M_empty, M_list, M_waits, M_yard, M_last, M_used, M_sheets, M_nights, M_fleasOfGuests, M_fleasOfBeds, M_reason, M_row, M_bestRow, M_image, M_isKept⟩ := t
      rw [f_X6_barOf]
      simp only [e1, Option.bind_some]
      rw [if_pos (by rw [h1]; decide), e2]
      simp only [Option.bind_some]
      rw [if_neg (by rw [n_le0 (by omega)]; exact h2)]
      exact ⟨_, rfl, rfl, fun h => absurd h (by decide)⟩
  · unfold barA
    simp only [if_neg h1]
    obtain ⟨M_beds, M_law, M_worths, M_sights, M_sight, M_signs, M_pad, M_lies, M_empty, M_list, M_waits, M_yard, M_last, M_used, M_sheets, M_nights, M_fleasOfGuests, M_fleasOfBeds, M_reason, M_row, M_bestRow, M_image, M_isKept⟩ := t
    rw [f_X6_barOf]
    simp only [e1, Option.bind_some]
    rw [if_neg (by rw [fa_lt0 hm]; exact h1)]
    exact ⟨_, rfl, rfl, fun h => absurd h (by decide)⟩
/-! what Inv holds -/
theorem inv_use {tH tY tZ : HouS} {tD : DayS} {tT : List InnS} {tM : ModS} (hI : Inv tH tY tZ tD tT tM) : tT.length = 8 ∧ ∃ n k q w sg sb m d, (2 ≤ n ∧ n ≤ 8 ∧ k < 4 ∧ q ≤ 6 ∧ (∀ j, w j ≤ 99) ∧ (∀ j, sg j < 8) ∧ ∀ j, sb j < 8) ∧ HouR tH (n, k, q, w, sg, sb) ∧ ModHR tM (n, k, q, w, sg, sb) ∧ DayR tD m d ∧ ModDR tM m d ∧ m ≤ 48 ∧ ∀ j, j < 48 → d j < 127 := by
  obtain ⟨h1, ⟨⟨n, k, q, w, sg, sb⟩, h2, h3, h4⟩, ⟨m, d, h5, h6⟩, -, -⟩ := hI
  obtain ⟨len, S⟩ := tD
  exact ⟨h1, n, k, q, w, sg, sb, m, d, h2, h3, h4, h5, h6, h5.2.1, fun j hj => (h5.2.2 j hj).2⟩
theorem inv_keepT {tH tY tZ : HouS} {tD : DayS} {tT tT' : List InnS} {tM t' : ModS} (hI : Inv tH tY tZ tD tT tM) (e : mP t' = mP tM) (hl : tT'.length = tT.length) : Inv tH tY tZ tD tT' t' := by
  obtain ⟨h1, ⟨h, h2, h3, h4⟩, ⟨m, d, h5, h6⟩, h7, h8⟩ := hI
  exact ⟨hl.trans h1, ⟨h, h2, h3, mP_H e h4⟩, ⟨m, d, h5, mP_D e h6⟩, mP_I e h7, mP_I e h8⟩
theorem inv_keep {tH tY tZ : HouS} {tD : DayS} {tT : List InnS} {tM t' : ModS} (hI : Inv tH tY tZ tD tT tM) (e : mP t' = mP tM) : Inv tH tY tZ tD tT t' := inv_keepT hI e rfl
/-! the arguments -/
theorem in_c (x : Int32) {a b : Nat} (ha : a < 2147483648) (hb : b < 2147483647) : (f_X6_in x (nI a) (nI b) = some (nI 0) ∧ (x < nI a ∨ nI b < x)) ∨ ∃ j, a ≤ j ∧ j ≤ b ∧ x = nI j ∧ f_X6_in x (nI a) (nI b) = some (nI 1) := by
  rw [f_X6_in]
  by_cases h1 : x < nI a
  · rw [if_pos h1]
    exact Or.inl ⟨rfl, Or.inl h1⟩
  · rw [if_neg h1]
    by_cases h2 : nI b < x
    · rw [if_pos h2]
      exact Or.inl ⟨rfl, Or.inr h2⟩
    · rw [if_neg h2]
      rcases pk_ix x (n := b + 1) (by omega) with h | h | ⟨j, hj, rfl⟩
      · exact absurd (show x < nI a from Int32.lt_of_lt_of_le h (nI_pos' (by omega))) h1
      · refine absurd (Int32.lt_of_lt_of_le ?_ h) h2
        rw [n_lt (by omega) (by omega)]
        omega
      · rw [n_lt (by omega) (by omega)] at h1
        exact Or.inr ⟨j, by omega, by omega, rfl, rfl⟩
theorem one0 : (nI 1 = 0) = False := eq_false (by decide)
theorem zer0 : (nI 0 = 0) = True := eq_true rfl
theorem n01 : (nI 0 = 0 ∨ nI 0 = 1) = True := eq_true (by decide)
theorem n11 : (nI 1 = 0 ∨ nI 1 = 1) = True := eq_true (by decide)
theorem lt_nI0 {x : Int32} : (x < nI 0) = (x < 0) := rfl
theorem guest_c (x : Int32) : (f_X5_isGuest x = some (nI 0) ∧ f_X6_isGuest x = some (nI 0)) ∨ ∃ g, g < 8 ∧ x = nI g ∧ f_X5_isGuest x = some (nI 1) ∧ f_X6_isGuest x = some (nI 1) := by
  rw [f_X5_isGuest, f_X6_isGuest]
  rcases in_c x (a := 0) (b := 7) (by omega) (by omega) with ⟨h1, h2⟩ | ⟨j, h1, h2, rfl, h3⟩
  · left
    rw [h1]
    simp only [Option.bind_some, n01, if_true]
    refine ⟨?_, trivial⟩
    rcases h2 with h2 | h2
    · rw [if_pos (show x < 0 from h2)]
    · by_cases h3 : x < 0
      · rw [if_pos h3]
      · rw [if_neg h3]
        rcases pk_ix x (n := 8) (by omega) with h | h | ⟨j, hj, rfl⟩
        · exact absurd h h3
        · rw [if_pos h]
        · rw [n_lt (by omega) (by omega)] at h2
          omega
  · right
    rw [h3]
    refine ⟨j, by omega, rfl, ?_, ?_⟩
    · simp (disch := omega) only [n_lt, n_le, n_eq, n_lt0, n_ge0, n_eq0, n_gt0, n_le0, n_cl, n_add, n_sub, n_mul, n_m1, n_m6, m1_lt, m6_lt, m1_ge, m6_ge, m1_eq, m6_eq0, m1_eq0, c_leT, c_leF, c_ltT, c_ltF, c_eqF, false_or, or_false, or_self, if_true, if_false, ite_true, ite_false, Option.bind_some, not_true_eq_false, not_false_eq_true, reduceIte]
    · simp only [Option.bind_some, n11, if_true]
theorem bed_c {n k q : Nat} {w sg sb : Nat → Nat} {tH : HouS} (hH : HouR tH (n, k, q, w, sg, sb)) {t : ModS} (hM : ModHR t (n, k, q, w, sg, sb)) (hn : n ≤ 8) (hn2 : 2 ≤ n) (x : Int32) (tB : WbS) : (f_X5_isBed x tB tH = some (nI 0) ∧ f_X6_isBed x t = some (nI 0)) ∨ ∃ b, b < n ∧ x = nI b ∧ f_X5_isBed x tB tH = some (nI 1) ∧ f_X6_isBed x t = some (nI 1) := by
  obtain ⟨H_beds, H_law, H_sights, H_isKept, H_worths, H_sightGuests, H_sightBeds⟩ := tH
  obtain ⟨M_beds, M_law, M_worths, M_sights, M_sight, M_signs, M_pad, M_lies, M_empty, M_list, M_waits, M_yard, M_last, M_used, M_sheets, M_nights, M_fleasOfGuests, M_fleasOfBeds, M_reason, M_row, M_bestRow, M_image, M_isKept⟩ := t
  obtain rfl : H_beds = nI n := hH.1
  obtain rfl : M_beds = nI n := hM.1
  rw [f_X5_isBed, f_X6_isBed, n_sub (by omega)]
  rcases in_c x (a := 0) (b := n - 1) (by omega) (by omega) with ⟨h1, h2⟩ | ⟨j, h1, h2, rfl, h3⟩
  · left
    rw [h1]
    simp only [Option.bind_some, n01, if_true]
    refine ⟨?_, trivial⟩
    rcases h2 with h2 | h2
    · rw [if_pos (show x < 0 from h2)]
    · by_cases h3 : x < 0
      · rw [if_pos h3]
      · rw [if_neg h3]
        rcases pk_ix x (n := n) (by omega) with h | h | ⟨j, hj, rfl⟩
        · exact absurd h h3
        · rw [if_pos h]
        · rw [n_lt (by omega) (by omega)] at h2
          omega
  · right
    rw [h3]
    refine ⟨j, by omega, rfl, ?_, ?_⟩
    · simp (disch := omega) only [n_lt, n_le, n_eq, n_lt0, n_ge0, n_eq0, n_gt0, n_le0, n_cl, n_add, n_sub, n_mul, n_m1, n_m6, m1_lt, m6_lt, m1_ge, m6_ge, m1_eq, m6_eq0, m1_eq0, c_leT, c_leF, c_ltT, c_ltF, c_eqF, false_or, or_false, or_self, if_true, if_false, ite_true, ite_false, Option.bind_some, not_true_eq_false, not_false_eq_true, reduceIte]
    · simp only [Option.bind_some, n11, if_true]
theorem either_c (x : Int32) : (f_X5_isEither x = some (nI 0) ∧ f_X6_in x (nI 0) (nI 1) = some (nI 0)) ∨ ∃ j, j < 2 ∧ x = nI j ∧ f_X5_isEither x = some (nI 1) ∧ f_X6_in x (nI 0) (nI 1) = some (nI 1) := by
  rw [f_X5_isEither]
  rcases in_c x (a := 0) (b := 1) (by omega) (by omega) with ⟨h1, h2⟩ | ⟨j, h1, h2, rfl, h3⟩
  · left
    refine ⟨?_, h1⟩
    rw [if_neg (fun e => by rw [e] at h2; revert h2; decide), if_neg (fun e => by rw [e] at h2; revert h2; decide)]
  · right
    refine ⟨j, by omega, rfl, ?_, h3⟩
    rcases (show j = 0 ∨ j = 1 by omega) with rfl | rfl
    · rw [if_pos (show nI 0 = 0 from rfl)]
    · rw [if_neg (by decide), if_pos rfl]
theorem m1_succ_lt {x : Int32} {m : Nat} (hm : m < 2147483647) (h1 : ¬ x < -1) (h2 : ¬ nI m < x) : ∃ ev, ev ≤ m ∧ (x = nI ev ∨ (x = -1 ∧ ev = m)) := by
  rcases pk_ix x (n := m + 1) (by omega) with h | h | ⟨j, hj, rfl⟩
  · refine ⟨m, Nat.le_refl m, Or.inr ⟨?_, rfl⟩⟩
    have e1 : ¬ x.toInt < -1 := fun e => h1 (Int32.lt_iff_toInt_lt.mpr e)
    have e2 : x.toInt < 0 := Int32.lt_iff_toInt_lt.mp h
    exact Int32.toInt_inj.mp (show x.toInt = (-1 : Int32).toInt from by
      have : (-1 : Int32).toInt = -1 := by decide
      omega)
  · refine absurd (Int32.lt_of_lt_of_le ?_ h) h2
    rw [n_lt (by omega) (by omega)]
    omega
  · exact ⟨j, by omega, Or.inl rfl⟩
theorem events_c {tD : DayS} {m : Nat} {d : Nat → Nat} (hD : DayR tD m d) (x : Int32) (tB : WbS) : (f_X5_isCountOfEvents x tB tD = some (nI 0) ∧ f_X6_in x (-1) (nI m) = some (nI 0)) ∨ ∃ ev, ev ≤ m ∧ (x = nI ev ∨ (x = -1 ∧ ev = m)) ∧ f_X5_isCountOfEvents x tB tD = some (nI 1) ∧ f_X6_in x (-1) (nI m) = some (nI 1) := by
  obtain ⟨len, S⟩ := tD
  obtain rfl : len = nI m := hD.1
  have hm := hD.2.1
  rw [f_X5_isCountOfEvents, f_X6_in]
  by_cases h1 : x < -1
  · rw [if_pos h1]
    exact Or.inl ⟨rfl, rfl⟩
  · rw [if_neg h1]
    by_cases h2 : nI m < x
    · rw [if_pos h2]
      exact Or.inl ⟨rfl, rfl⟩
    · rw [if_neg h2]
      obtain ⟨ev, h3, h4⟩ := m1_succ_lt (by omega) h1 h2
      exact Or.inr ⟨ev, h3, h4, rfl, rfl⟩
