/-! year, reach -/
def yrA (kk : Nat) (w : Nat → Nat) : Nat → Nat → AIn → AKn → AIn × AKn
  | 0, _, C, K => (C, K)
  | c + 1, x, C, K => if presB C ((75 * x + 74) % 65537 % 8) = true then yrA kk w c ((75 * x + 74) % 65537) (goA ((75 * x + 74) % 65537 % 8) C) (goK ((75 * x + 74) % 65537 % 8) C K) else yrA kk w c ((75 * x + 74) % 65537) (comeA (chA kk (wA w ((75 * x + 74) % 65537 % 8)) C.2.1) ((75 * x + 74) % 65537 % 8) C) (comeK (chA kk (wA w ((75 * x + 74) % 65537 % 8)) C.2.1) ((75 * x + 74) % 65537 % 8) C K)
theorem f_isThereB {n k : Nat} {C : AIn} {t : InnS} (hC : AOk n C) (hn : n ≤ 8) (h : InR k C t) {g : Nat} (hg : g < 8) : f_X3_isThere (nI g) t = some (nI (if presB C g = true then 1 else 0)) := by
  obtain ⟨r, h1, h2⟩ := f_isThere h hg
  rw [h1]
  rcases h2 with ⟨rfl, h2⟩ | ⟨rfl, h2⟩
  · rw [if_neg (fun e => h2 ((presB_iff hC hn).mp e))]
  · rw [if_pos ((presB_iff hC hn).mpr h2)]
theorem x_next {x : Nat} (hx : x < 65537) : nI 75 * nI x + nI 74 - (nI 75 * nI x + nI 74) / nI 65537 * nI 65537 = nI ((75 * x + 74) % 65537) := by
  rw [n_mul, n_add]
  exact pk_rem (by omega) (by omega) (by omega)
theorem lp_fyear {n k q : Nat} {w sg sb : Nat → Nat} {H_beds H_law H_sights H_isKept : Int32} {H_worths H_sightGuests H_sightBeds : Nat → Int32} (hH : HouR (H_beds, H_law, H_sights, H_isKept, H_worths, H_sightGuests, H_sightBeds) (n, k, q, w, sg, sb)) (hw : ∀ j, w j ≤ 99) (hn : n ≤ 8) (hk : k < 4) {y b : Nat} (hy : y ≤ 99) (hb : b < 8) : ∀ (c j fuel x : Nat) (C : AIn) (K : AKn) {I_law I_there I_empties I_waiting I_guestsWithFleas I_bedsWithFleas I_isCounting : Int32} {I_sleepers I_empty I_yard I_nights I_used I_sheets I_lastOnes : Nat → Int32}, y = j + c → c < fuel → x < 65537 → AOk n C → GO C → InR k C (I_law, I_there, I_sleepers, I_empty, I_empties, I_yard, I_waiting, I_nights, I_used, I_sheets, I_lastOnes, I_guestsWithFleas, I_bedsWithFleas, I_isCounting) → KnR K (I_law, I_there, I_sleepers, I_empty, I_empties, I_yard, I_waiting, I_nights, I_used, I_sheets, I_lastOnes, I_guestsWithFleas, I_bedsWithFleas, I_isCounting) → ∃ t', f_X5_year_L55 (nI y) H_beds H_law H_sights H_isKept H_worths H_sightGuests H_sightBeds fuel (nI x) (nI j) I_law I_there I_sleepers I_empty I_empties I_yard I_waiting I_nights I_used I_sheets I_lastOnes I_guestsWithFleas I_bedsWithFleas I_isCounting (fun x4_L55 x5_L55 I_law I_there I_sleepers I_empty I_empties I_yard I_waiting I_nights I_used I_sheets I_lastOnes I_guestsWithFleas I_bedsWithFleas I_isCounting => (Option.bind (f_X3_timesUsed (nI b) (I_law, I_there, I_sleepers, I_empty, I_empties, I_yard, I_waiting, I_nights, I_used, I_sheets, I_lastOnes, I_guestsWithFleas, I_bedsWithFleas, I_isCounting)) (fun r_125 => some (r_125, (I_law, I_there, I_sleepers, I_empty, I_empties, I_yard, I_waiting, I_nights, I_used, I_sheets, I_lastOnes, I_guestsWithFleas, I_bedsWithFleas, I_isCounting))))) = some (nI ((yrA k w c x C K).2.2.1 b), t') := by
  intro c
  induction c with
  | zero =>
    intro j fuel x C K I_law I_there I_empties I_waiting I_guestsWithFleas I_bedsWithFleas I_isCounting I_sleepers I_empty I_yard I_nights I_used I_sheets I_lastOnes h1 h3 hx hC hG h hK
    obtain ⟨fuel, rfl⟩ : ∃ n, fuel = n + 1 := ⟨fuel - 1, by omega⟩
    have hj : j = y := by omega
    subst hj
    obtain ⟨ni, us, sh, la, gf, bf⟩ := K
    have hu := hK.2.1 b hb
    rw [f_X5_year_L55]
    simp (disch := omega) only [n_lt, n_le, n_eq, n_lt0, n_ge0, n_eq0, n_gt0, n_le0, n_cl, n_add, n_sub, n_mul, n_m1, n_m6, m1_lt, m6_lt, m1_ge, m6_ge, m1_eq, m6_eq0, m1_eq0, c_leT, c_leF, c_ltT, c_ltF, c_eqF, false_or, or_false, or_self, if_true, if_false, ite_true, ite_false, Option.bind_some, not_true_eq_false, not_false_eq_true, reduceIte, f_X3_timesUsed, yrA, hu]
    exact ⟨_, rfl⟩
  | succ c ih =>
    intro j fuel x C K I_law I_there I_empties I_waiting I_guestsWithFleas I_bedsWithFleas I_isCounting I_sleepers I_empty I_yard I_nights I_used I_sheets I_lastOnes h1 h3 hx hC hG h hK
    obtain ⟨fuel, rfl⟩ : ∃ n, fuel = n + 1 := ⟨fuel - 1, by omega⟩
    rw [f_X5_year_L55, x_next hx]
    have hx2 : (75 * x + 74) % 65537 < 65537 := Nat.mod_lt _ (by omega)
    simp only [yrA]
    generalize (75 * x + 74) % 65537 = x2 at *
    have hr : nI x2 - nI x2 / nI 8 * nI 8 = nI (x2 % 8) := pk_rem (by omega) (by omega) (by omega)
    have hg8 : x2 % 8 < 8 := Nat.mod_lt _ (by omega)
    rw [if_neg (by rw [n_le (by omega) (by omega)]; omega), hr, f_isThereB hC hn h hg8]
    simp only [Option.bind_some]
    by_cases hp : presB C (x2 % 8) = true
    · have hpr := (presB_iff hC hn).mp hp
      obtain ⟨t1, e1, e2, e3⟩ := f_letGo hC hn h hg8 hpr
      obtain ⟨J_law, J_there, J_sleepers, J_empty, J_empties, J_yard, J_waiting, J_nights, J_used, J_sheets, J_lastOnes, J_guestsWithFleas, J_bedsWithFleas, J_isCounting⟩ := t1
      simp only [if_pos hp, one0, if_false, e1, Option.bind_some, n_add]
      exact ih (j + 1) fuel x2 _ _ (by omega) (by omega) hx2 (goA_ok hC hn hpr) (fun z hz => hG z ((goA_pres hC hn hpr z).mp hz).2) e2 (e3 K hG hK)
    · have hpr : ¬ presA C (x2 % 8) := fun e => hp ((presB_iff hC hn).mpr e)
      obtain ⟨t1, e1, e2, e3⟩ := f_takeIn hH hw hn hk hC h (g := x2 % 8) (by omega) hpr
      rw [Nat.min_eq_left (by omega)] at e1
      obtain ⟨J_law, J_there, J_sleepers, J_empty, J_empties, J_yard, J_waiting, J_nights, J_used, J_sheets, J_lastOnes, J_guestsWithFleas, J_bedsWithFleas, J_isCounting⟩ := t1
      simp only [if_neg hp, zer0, if_true, e1, Option.bind_some, n_add]
      refine ih (j + 1) fuel x2 _ _ (by omega) (by omega) hx2 (comeA_ok hC (by omega) hpr (fun e => chA_lt k _ _ e)) (fun z hz => ?_) e2 (e3 K hg8 hK)
      rcases (comeA_pres hC (fun e => chA_lt k _ _ e) z).mp hz with h | h
      · omega
      · exact hG z h
theorem lp_myear {n k q : Nat} {w sg sb : Nat → Nat} (hw : ∀ j, w j ≤ 99) (hn : n ≤ 8) (hk : k < 4) {y b : Nat} (hy : y ≤ 99) (hb : b < 8) : ∀ (c j fuel x : Nat) (C : AIn) (K : AKn) {M_beds M_law M_sights M_signs M_empty M_waits M_fleasOfGuests M_fleasOfBeds M_reason : Int32} {M_worths M_sight M_pad M_lies M_list M_yard M_last M_used M_sheets M_nights M_row M_bestRow M_image M_isKept : Nat → Int32}, ModHR (M_beds, M_law, M_worths, M_sights, M_sight, M_signs, M_pad, M_lies, M_empty, M_list, M_waits, M_yard, M_last, M_used, M_sheets, M_nights, M_fleasOfGuests, M_fleasOfBeds, M_reason, M_row, M_bestRow, M_image, M_isKept) (n, k, q, w, sg, sb) → y = j + c → c < fuel → x < 65537 → AOk n C → MoR C (M_beds, M_law, M_worths, M_sights, M_sight, M_signs, M_pad, M_lies, M_empty, M_list, M_waits, M_yard, M_last, M_used, M_sheets, M_nights, M_fleasOfGuests, M_fleasOfBeds, M_reason, M_row, M_bestRow, M_image, M_isKept) → MnR K (M_beds, M_law, M_worths, M_sights, M_sight, M_signs, M_pad, M_lies, M_empty, M_list, M_waits, M_yard, M_last, M_used, M_sheets, M_nights, M_fleasOfGuests, M_fleasOfBeds, M_reason, M_row, M_bestRow, M_image, M_isKept) → ∃ t', f_X6_year_L44 (nI y) fuel (nI x) (nI j) M_beds M_law M_worths M_sights M_sight M_signs M_pad M_lies M_empty M_list M_waits M_yard M_last M_used M_sheets M_nights M_fleasOfGuests M_fleasOfBeds M_reason M_row M_bestRow M_image M_isKept (fun x4_L44 x5_L44 M_beds M_law M_worths M_sights M_sight M_signs M_pad M_lies M_empty M_list M_waits M_yard M_last M_used M_sheets M_nights M_fleasOfGuests M_fleasOfBeds M_reason M_row M_bestRow M_image M_isKept => (if nI b < 0 ∨ 8 ≤ (nI b).toNatClampNeg then none else some ((M_used (nI b).toNatClampNeg), (M_beds, M_law, M_worths, M_sights, M_sight, M_signs, M_pad, M_lies, M_empty, M_list, M_waits, M_yard, M_last, M_used, M_sheets, M_nights, M_fleasOfGuests, M_fleasOfBeds, M_reason, M_row, M_bestRow, M_image, M_isKept)))) = some (nI ((yrA k w c x C K).2.2.1 b), t') ∧ mP t' = mP (M_beds, M_law, M_worths, M_sights, M_sight, M_signs, M_pad, M_lies, M_empty, M_list, M_waits, M_yard, M_last, M_used, M_sheets, M_nights, M_fleasOfGuests, M_fleasOfBeds, M_reason, M_row, M_bestRow, M_image, M_isKept) := by
  intro c
  induction c with
  | zero =>
    intro j fuel x C K M_beds M_law M_sights M_signs M_empty M_waits M_fleasOfGuests M_fleasOfBeds M_reason M_worths M_sight M_pad M_lies M_list M_yard M_last M_used M_sheets M_nights M_row M_bestRow M_image M_isKept hM h1 h3 hx hC h hK
    obtain ⟨fuel, rfl⟩ : ∃ n, fuel = n + 1 := ⟨fuel - 1, by omega⟩
    have hj : j = y := by omega
    subst hj
    obtain ⟨ni, us, sh, la, gf, bf⟩ := K
    have hu := hK.2.1 b hb
    rw [f_X6_year_L44]
    simp (disch := omega) only [n_lt, n_le, n_eq, n_lt0, n_ge0, n_eq0, n_gt0, n_le0, n_cl, n_add, n_sub, n_mul, n_m1, n_m6, m1_lt, m6_lt, m1_ge, m6_ge, m1_eq, m6_eq0, m1_eq0, c_leT, c_leF, c_ltT, c_ltF, c_eqF, false_or, or_false, or_self, if_true, if_false, ite_true, ite_false, Option.bind_some, not_true_eq_false, not_false_eq_true, reduceIte, yrA, hu]
    exact ⟨_, rfl, by simp only [mP]⟩
  | succ c ih =>
    intro j fuel x C K M_beds M_law M_sights M_signs M_empty M_waits M_fleasOfGuests M_fleasOfBeds M_reason M_worths M_sight M_pad M_lies M_list M_yard M_last M_used M_sheets M_nights M_row M_bestRow M_image M_isKept hM h1 h3 hx hC h hK
    obtain ⟨fuel, rfl⟩ : ∃ n, fuel = n + 1 := ⟨fuel - 1, by omega⟩
    rw [f_X6_year_L44, x_next hx]
    have hx2 : (75 * x + 74) % 65537 < 65537 := Nat.mod_lt _ (by omega)
    simp only [yrA]
    generalize (75 * x + 74) % 65537 = x2 at *
    have hr : nI x2 - nI x2 / nI 8 * nI 8 = nI (x2 % 8) := pk_rem (by omega) (by omega) (by omega)
    have hg8 : x2 % 8 < 8 := Nat.mod_lt _ (by omega)
    rw [if_neg (by rw [n_le (by omega) (by omega)]; omega), hr, m_isThere hM hn hC h (g := x2 % 8) (by omega)]
    simp only [Option.bind_some]
    by_cases hp : presB C (x2 % 8) = true
    · have hpr := (presB_iff hC hn).mp hp
      obtain ⟨t1, e1, e2, e3, e4, e5⟩ := m_goOut hM hn hC h (g := x2 % 8) (by omega) hpr
      have hM' := mP_H e2 hM
      have e5' := e5 K hK
      obtain ⟨L_beds, L_law, L_worths, L_sights, L_sight, L_signs, L_pad, L_lies, L_empty, L_list, L_waits, L_yard, L_last, L_used, L_sheets, L_nights, L_fleasOfGuests, L_fleasOfBeds, L_reason, L_row, L_bestRow, L_image, L_isKept⟩ := t1
      simp only [if_pos hp, one0, if_false, e1, Option.bind_some, n_add]
      obtain ⟨t2, g1, g2⟩ := ih (j + 1) fuel x2 _ _ hM' (by omega) (by omega) hx2 (goA_ok hC hn hpr) e4 e5'
      exact ⟨t2, g1, g2.trans e2⟩
    · have hpr : ¬ presA C (x2 % 8) := fun e => hp ((presB_iff hC hn).mpr e)
      obtain ⟨t1, e1, e2, e3, e4, e5⟩ := m_comeIn hM hw hk hn hC h (g := x2 % 8) (by omega) hpr
      have hM' := mP_H e2 hM
      have e5' := e5 K hK
      obtain ⟨L_beds, L_law, L_worths, L_sights, L_sight, L_signs, L_pad, L_lies, L_empty, L_list, L_waits, L_yard, L_last, L_used, L_sheets, L_nights, L_fleasOfGuests, L_fleasOfBeds, L_reason, L_row, L_bestRow, L_image, L_isKept⟩ := t1
      simp only [if_neg hp, zer0, if_true, e1, Option.bind_some, n_add]
      obtain ⟨t2, g1, g2⟩ := ih (j + 1) fuel x2 _ _ hM' (by omega) (by omega) hx2 (comeA_ok hC (by omega) hpr (fun e => chA_lt k _ _ e)) e4 e5'
      exact ⟨t2, g1, g2.trans e2⟩
theorem op_year (tB : WbS) (tP : ParS) (tQ : GueS) (tI : InnS) {tH tY tZ : HouS} {tD : DayS} {tT : List InnS} {tM : ModS} (hI : Inv tH tY tZ tD tT tM) (x1 x2 x3 : Int32) : ∃ (r : Int32) (wI : InnS) (wM : ModS), f_X5_year x1 x2 x3 tB tH tI = some (r, wI) ∧ f_X6_year x1 x2 x3 tM = some (r, wM) ∧ Inv tH tY tZ tD tT wM := by
  obtain ⟨hl, n, k, q, w, sg, sb, m, d, ⟨hn2, hn, hk, hq, hw, hsg, hsb⟩, hH, hM, hD, hDM, hm, hd⟩ := inv_use hI
  have hbc := bed_c hH hM hn hn2 x3 tB
  obtain ⟨t1, o1, o2, o3⟩ := f_open hH hn k tI
  obtain ⟨t2, b1, b2, b3, b4, b5⟩ := m_begin hM hn
  have hI2 := inv_keep hI b2
  have hM2 := mP_H b2 hM
  obtain ⟨H_beds, H_law, H_sights, H_isKept, H_worths, H_sightGuests, H_sightBeds⟩ := tH
  obtain ⟨M_beds, M_law, M_worths, M_sights, M_sight, M_signs, M_pad, M_lies, M_empty, M_list, M_waits, M_yard, M_last, M_used, M_sheets, M_nights, M_fleasOfGuests, M_fleasOfBeds, M_reason, M_row, M_bestRow, M_image, M_isKept⟩ := tM
  obtain ⟨I_law, I_there, I_sleepers, I_empty, I_empties, I_yard, I_waiting, I_nights, I_used, I_sheets, I_lastOnes, I_guestsWithFleas, I_bedsWithFleas, I_isCounting⟩ := tI
  obtain rfl : H_law = nI k := hH.2.1
  rw [f_X5_year, f_X6_year]
  rcases hbc with ⟨g1, g2⟩ | ⟨b, hb8, rfl, g1, g2⟩
  · rw [g1, g2]
    exact ⟨_, _, _, rfl, rfl, hI⟩
  rw [g1, g2]
  simp only [Option.bind_some, one0, if_false]
  rcases in_c x1 (a := 0) (b := 9999) (by omega) (by omega) with ⟨h1, h2⟩ | ⟨s, h1, h2, rfl, h3⟩
  · rw [h1]
    refine ⟨-2, ?_⟩
    apply Exists.intro
    apply Exists.intro
    apply And.intro
    · rcases h2 with h2 | h2
      · rw [if_pos (show x1 < 0 from h2)]
      · rw [if_pos h2]
        split <;> rfl
    · exact ⟨rfl, hI⟩
  rw [h3, if_neg (by rw [n_lt0 (by omega)]; exact id), if_neg (by rw [n_lt (by omega) (by omega)]; omega)]
  simp only [Option.bind_some, one0, if_false]
  rcases in_c x2 (a := 1) (b := 99) (by omega) (by omega) with ⟨h4, h5⟩ | ⟨y, h4, h5, rfl, h6⟩
  · rw [h4]
    refine ⟨-2, ?_⟩
    apply Exists.intro
    apply Exists.intro
    apply And.intro
    · rcases h5 with h5 | h5
      · rw [if_pos h5]
      · rw [if_neg (gt_nle h5)]
        split <;> rfl
    · exact ⟨rfl, hI⟩
  rw [h6, if_neg (by rw [n_lt (by omega) (by omega)]; omega), if_pos (by rw [n_le (by omega) (by omega)]; omega), o1, b1]
  simp only [Option.bind_some, one0, if_false]
  obtain ⟨J_law, J_there, J_sleepers, J_empty, J_empties, J_yard, J_waiting, J_nights, J_used, J_sheets, J_lastOnes, J_guestsWithFleas, J_bedsWithFleas, J_isCounting⟩ := t1
  obtain ⟨L_beds, L_law, L_worths, L_sights, L_sight, L_signs, L_pad, L_lies, L_empty, L_list, L_waits, L_yard, L_last, L_used, L_sheets, L_nights, L_fleasOfGuests, L_fleasOfBeds, L_reason, L_row, L_bestRow, L_image, L_isKept⟩ := t2
  obtain ⟨t3, e1⟩ := lp_fyear hH hw hn hk (y := y) (b := b) (by omega) (by omega) y 0 FU s (openA n) K0 (by omega) (by rw [FU_eq]; omega) (by omega) (openA_ok n) (openA_go n) o2 o3
  obtain ⟨t4, e2, e3⟩ := lp_myear hw hn hk (y := y) (b := b) (by omega) (by omega) y 0 FU s (openA n) K0 hM2 (by omega) (by rw [FU_eq]; omega) (by omega) (openA_ok n) b4 (b5 0 0)
  rw [e1]
  simp only [e2]
  exact ⟨_, _, _, rfl, rfl, inv_keep hI2 e3⟩
theorem em_come {n ch g : Nat} {C : AIn} (hC : AOk n C) (hch : C.2.1 ≠ [] → ch < C.2.1.length) (hne : C.2.1 ≠ []) : (comeA ch g C).2.1.length + 1 = C.2.1.length := by
  obtain ⟨sl, em, ya⟩ := C
  simp only at hne hch ⊢
  simp only [comeA, if_neg hne]
  rw [List.length_eraseIdx_of_lt (hch hne)]
  have := hch hne
  omega
theorem lp_reach {n k q : Nat} {w sg sb : Nat → Nat} {H_beds H_law H_sights H_isKept : Int32} {H_worths H_sightGuests H_sightBeds : Nat → Int32} (hH : HouR (H_beds, H_law, H_sights, H_isKept, H_worths, H_sightGuests, H_sightBeds) (n, k, q, w, sg, sb)) (hw : ∀ j, w j ≤ 99) (hn : n ≤ 8) (hk : k < 4) {b : Nat} (hb : b < n) : ∀ (L j fuel fuel2 : Nat) (C : AIn) {I_law I_there I_empties I_waiting I_guestsWithFleas I_bedsWithFleas I_isCounting : Int32} {I_sleepers I_empty I_yard I_nights I_used I_sheets I_lastOnes : Nat → Int32} {M_beds M_law M_sights M_signs M_empty M_waits M_fleasOfGuests M_fleasOfBeds M_reason : Int32} {M_worths M_sight M_pad M_lies M_list M_yard M_last M_used M_sheets M_nights M_row M_bestRow M_image M_isKept : Nat → Int32}, C.2.1.length = L → j + L ≤ 8 → L < fuel → L < fuel2 → AOk n C → (∀ x, presA C x → x < 8 + j) → InR k C (I_law, I_there, I_sleepers, I_empty, I_empties, I_yard, I_waiting, I_nights, I_used, I_sheets, I_lastOnes, I_guestsWithFleas, I_bedsWithFleas, I_isCounting) → ModHR (M_beds, M_law, M_worths, M_sights, M_sight, M_signs, M_pad, M_lies, M_empty, M_list, M_waits, M_yard, M_last, M_used, M_sheets, M_nights, M_fleasOfGuests, M_fleasOfBeds, M_reason, M_row, M_bestRow, M_image, M_isKept) (n, k, q, w, sg, sb) → MoR C (M_beds, M_law, M_worths, M_sights, M_sight, M_signs, M_pad, M_lies, M_empty, M_list, M_waits, M_yard, M_last, M_used, M_sheets, M_nights, M_fleasOfGuests, M_fleasOfBeds, M_reason, M_row, M_bestRow, M_image, M_isKept) → ∃ r t' tm', f_X5_reach_L24 (nI b) H_beds H_law H_sights H_isKept H_worths H_sightGuests H_sightBeds fuel (nI j) I_law I_there I_sleepers I_empty I_empties I_yard I_waiting I_nights I_used I_sheets I_lastOnes I_guestsWithFleas I_bedsWithFleas I_isCounting (fun x3_L24 I_law I_there I_sleepers I_empty I_empties I_yard I_waiting I_nights I_used I_sheets I_lastOnes I_guestsWithFleas I_bedsWithFleas I_isCounting => some (x3_L24, (I_law, I_there, I_sleepers, I_empty, I_empties, I_yard, I_waiting, I_nights, I_used, I_sheets, I_lastOnes, I_guestsWithFleas, I_bedsWithFleas, I_isCounting))) = some (r, t') ∧ f_X6_reach_L27 (nI b) fuel2 (nI j) M_beds M_law M_worths M_sights M_sight M_signs M_pad M_lies M_empty M_list M_waits M_yard M_last M_used M_sheets M_nights M_fleasOfGuests M_fleasOfBeds M_reason M_row M_bestRow M_image M_isKept (fun x3_L27 M_beds M_law M_worths M_sights M_sight M_signs M_pad M_lies M_empty M_list M_waits M_yard M_last M_used M_sheets M_nights M_fleasOfGuests M_fleasOfBeds M_reason M_row M_bestRow M_image M_isKept => some (x3_L27, (M_beds, M_law, M_worths, M_sights, M_sight, M_signs, M_pad, M_lies, M_empty, M_list, M_waits, M_yard, M_last, M_used, M_sheets, M_nights, M_fleasOfGuests, M_fleasOfBeds, M_reason, M_row, M_bestRow, M_image, M_isKept))) = some (r, tm') ∧ mP tm' = mP (M_beds, M_law, M_worths, M_sights, M_sight, M_signs, M_pad, M_lies, M_empty, M_list, M_waits, M_yard, M_last, M_used, M_sheets, M_nights, M_fleasOfGuests, M_fleasOfBeds, M_reason, M_row, M_bestRow, M_image, M_isKept) := by
  intro L
  induction L with
  | zero =>
    intro j fuel fuel2 C I_law I_there I_empties I_waiting I_guestsWithFleas I_bedsWithFleas I_isCounting I_sleepers I_empty I_yard I_nights I_used I_sheets I_lastOnes M_beds M_law M_sights M_signs M_empty M_waits M_fleasOfGuests M_fleasOfBeds M_reason M_worths M_sight M_pad M_lies M_list M_yard M_last M_used M_sheets M_nights M_row M_bestRow M_image M_isKept h1 h2 h3 h4 hC hp h hM ho
    obtain ⟨fuel, rfl⟩ : ∃ n, fuel = n + 1 := ⟨fuel - 1, by omega⟩
    obtain ⟨fuel2, rfl⟩ : ∃ n, fuel2 = n + 1 := ⟨fuel2 - 1, by omega⟩
    rw [f_X5_reach_L24, f_X6_reach_L27]
    have hsl : ∃ g, C.1 b = some g := by
      cases hs : C.1 b with
      | some g => exact ⟨g, rfl⟩
      | none =>
        have hm := (hC.2.1 b).mpr ⟨hb, hs⟩
        rw [List.length_eq_zero_iff.mp h1] at hm
        cases hm
    obtain ⟨g, hg⟩ := hsl
    have hg16 := hp g (Or.inl ⟨b, hg⟩)
    have e1 : I_sleepers b = nI (min g 8) := by rw [h.2.2.1 b (by omega), hg]; rfl
    have e2 : M_lies b = nI g := by rw [ho.1 b (by omega), hg]; rfl
    refine ⟨nI j, ?_⟩
    apply Exists.intro
    apply Exists.intro
    apply And.intro
    · by_cases h8 : 8 ≤ j
      · rw [if_pos (by rw [n_le (by omega) (by omega)]; exact h8)]
      · rw [if_neg (by rw [n_le (by omega) (by omega)]; exact h8), f_sleeperOf (by omega), e1]
        simp only [Option.bind_some]
        rw [if_neg (by rw [n_m1 (by omega)]; exact id)]
    apply And.intro
    · simp (disch := omega) only [n_lt, n_le, n_eq, n_lt0, n_ge0, n_eq0, n_gt0, n_le0, n_cl, n_add, n_sub, n_mul, n_m1, n_m6, m1_lt, m6_lt, m1_ge, m6_ge, m1_eq, m6_eq0, m1_eq0, c_leT, c_leF, c_ltT, c_ltF, c_eqF, false_or, or_false, or_self, if_true, if_false, ite_true, ite_false, Option.bind_some, not_true_eq_false, not_false_eq_true, reduceIte, e2]
      rfl
    · simp only [mP]
  | succ L ih =>
    intro j fuel fuel2 C I_law I_there I_empties I_waiting I_guestsWithFleas I_bedsWithFleas I_isCounting I_sleepers I_empty I_yard I_nights I_used I_sheets I_lastOnes M_beds M_law M_sights M_signs M_empty M_waits M_fleasOfGuests M_fleasOfBeds M_reason M_worths M_sight M_pad M_lies M_list M_yard M_last M_used M_sheets M_nights M_row M_bestRow M_image M_isKept h1 h2 h3 h4 hC hp h hM ho
    obtain ⟨fuel, rfl⟩ : ∃ n, fuel = n + 1 := ⟨fuel - 1, by omega⟩
    obtain ⟨fuel2, rfl⟩ : ∃ n, fuel2 = n + 1 := ⟨fuel2 - 1, by omega⟩
    rw [f_X5_reach_L24, f_X6_reach_L27]
    rw [if_neg (by rw [n_le (by omega) (by omega)]; omega), f_sleeperOf (by omega)]
    have e1 : I_sleepers b = cdO (C.1 b) := h.2.2.1 b (by omega)
    have e2 : M_lies b = cdM (C.1 b) := ho.1 b (by omega)
    simp only [Option.bind_some]
    cases hs : C.1 b with
    | some g =>
      have hg16 := hp g (Or.inl ⟨b, hs⟩)
      refine ⟨nI j, ?_⟩
      apply Exists.intro
      apply Exists.intro
      apply And.intro
      · rw [if_neg (by rw [e1, hs]; exact fun e => by have := cdO_m1.mp e; cases this)]
      apply And.intro
      · simp (disch := omega) only [n_lt, n_le, n_eq, n_lt0, n_ge0, n_eq0, n_gt0, n_le0, n_cl, n_add, n_sub, n_mul, n_m1, n_m6, m1_lt, m6_lt, m1_ge, m6_ge, m1_eq, m6_eq0, m1_eq0, c_leT, c_leF, c_ltT, c_ltF, c_eqF, false_or, or_false, or_self, if_true, if_false, ite_true, ite_false, Option.bind_some, not_true_eq_false, not_false_eq_true, reduceIte, e2, hs, cdM]
        rfl
      · simp only [mP]
    | none =>
      have hne : C.2.1 ≠ [] := fun e => by rw [e] at h1; cases h1
      have hpr : ¬ presA C (8 + j) := fun e => by have := hp _ e; omega
      obtain ⟨t1, i1, i2, -⟩ := f_takeIn hH hw hn hk hC h (g := 8 + j) (by omega) hpr
      rw [Nat.min_eq_right (by omega)] at i1
      obtain ⟨t2, m1, m2, m3, m4, -⟩ := m_comeIn hM hw hk hn hC ho (g := 8 + j) (by omega) hpr
      have hM' := mP_H m2 hM
      obtain ⟨J_law, J_there, J_sleepers, J_empty, J_empties, J_yard, J_waiting, J_nights, J_used, J_sheets, J_lastOnes, J_guestsWithFleas, J_bedsWithFleas, J_isCounting⟩ := t1
      obtain ⟨L_beds, L_law, L_worths, L_sights, L_sight, L_signs, L_pad, L_lies, L_empty, L_list, L_waits, L_yard, L_last, L_used, L_sheets, L_nights, L_fleasOfGuests, L_fleasOfBeds, L_reason, L_row, L_bestRow, L_image, L_isKept⟩ := t2
      have hch : C.2.1 ≠ [] → chA k (wA w (8 + j)) C.2.1 < C.2.1.length := fun e => chA_lt k _ _ e
      have hec := em_come (g := 8 + j) hC hch hne
      obtain ⟨r, t', tm', g1, g2, g3⟩ := ih (j + 1) fuel fuel2 _ (by omega) (by omega) (by omega) (by omega) (comeA_ok hC (by omega) hpr hch) (fun x hx => by
        rcases (comeA_pres hC hch x).mp hx with e | e
        · omega
        · have := hp x e
          omega) i2 hM' m4
      refine ⟨r, t', tm', ?_, ?_, g3.trans m2⟩
      · rw [if_pos (by rw [e1, hs]; rfl), i1]
        simp only [Option.bind_some, n_add]
        exact g1
      · simp (disch := omega) only [n_lt, n_le, n_eq, n_lt0, n_ge0, n_eq0, n_gt0, n_le0, n_cl, n_add, n_sub, n_mul, n_m1, n_m6, m1_lt, m6_lt, m1_ge, m6_ge, m1_eq, m6_eq0, m1_eq0, c_leT, c_leF, c_ltT, c_ltF, c_eqF, false_or, or_false, or_self, if_true, if_false, ite_true, ite_false, Option.bind_some, not_true_eq_false, not_false_eq_true, reduceIte, e2, hs, cdM, m6_ge, m1]
        exact g2
theorem op_reach (tB : WbS) (tP : ParS) (tQ : GueS) (tI : InnS) {tH tY tZ : HouS} {tD : DayS} {tT : List InnS} {tM : ModS} (hI : Inv tH tY tZ tD tT tM) (x1 : Int32) : ∃ (r : Int32) (wI : InnS) (wM : ModS), f_X5_reach x1 tB tH tD tI = some (r, wI) ∧ f_X6_reach x1 tM = some (r, wM) ∧ Inv tH tY tZ tD tT wM := by
  obtain ⟨hl, n, k, q, w, sg, sb, m, d, ⟨hn2, hn, hk, hq, hw, hsg, hsb⟩, hH, hM, hD, hDM, hm, hd⟩ := inv_use hI
  have hbc := bed_c hH hM hn hn2 x1 tB
  obtain ⟨t1, l1, l2⟩ := f_liveThrough hH hw hn hk hD tB tI (x1 := -1) (ev := m) (by omega) (Or.inr ⟨rfl, rfl⟩)
  obtain ⟨t2, c1, c2, c3⟩ := m_barOf hw hk hn hd (ev := m) (by omega) hm hM hDM
  have hI2 := inv_keep hI c2
  have hM2 := mP_H c2 hM
  obtain ⟨H_beds, H_law, H_sights, H_isKept, H_worths, H_sightGuests, H_sightBeds⟩ := tH
  obtain ⟨len, S⟩ := tD
  obtain ⟨M_beds, M_law, M_worths, M_sights, M_sight, M_signs, M_pad, M_lies, M_empty, M_list, M_waits, M_yard, M_last, M_used, M_sheets, M_nights, M_fleasOfGuests, M_fleasOfBeds, M_reason, M_row, M_bestRow, M_image, M_isKept⟩ := tM
  obtain ⟨I_law, I_there, I_sleepers, I_empty, I_empties, I_yard, I_waiting, I_nights, I_used, I_sheets, I_lastOnes, I_guestsWithFleas, I_bedsWithFleas, I_isCounting⟩ := tI
  obtain rfl : M_signs = nI m := hDM.1
  rw [f_X5_reach, f_X6_reach]
  rcases hbc with ⟨g1, g2⟩ | ⟨b, hb8, rfl, g1, g2⟩
  · rw [g1, g2]
    exact ⟨_, _, _, rfl, rfl, hI⟩
  simp only [g1, g2, Option.bind_some, one0, if_false, l1, c1]
  rcases barA_c n k w d m m with hb | ⟨hb, hb1, hb2⟩
  · obtain ⟨hz1, hz2⟩ := barA_z hb
    obtain ⟨l3, l4⟩ := l2 hb
    obtain ⟨c4, c5⟩ := c3 hb
    obtain ⟨r1, r2⟩ := GO_run (kk := k) (w := w) (d := d) hn m 0
    have hel := em_le r1
    obtain ⟨J_law, J_there, J_sleepers, J_empty, J_empties, J_yard, J_waiting, J_nights, J_used, J_sheets, J_lastOnes, J_guestsWithFleas, J_bedsWithFleas, J_isCounting⟩ := t1
    obtain ⟨L_beds, L_law, L_worths, L_sights, L_sight, L_signs, L_pad, L_lies, L_empty, L_list, L_waits, L_yard, L_last, L_used, L_sheets, L_nights, L_fleasOfGuests, L_fleasOfBeds, L_reason, L_row, L_bestRow, L_image, L_isKept⟩ := t2
    simp only [hz1, hz2, if_true]
    obtain ⟨r, t', tm', e1, e2, e3⟩ := lp_reach hH hw hn hk hb8 _ 0 FU FU _ rfl (by omega) (by rw [FU_eq]; omega) (by rw [FU_eq]; omega) r1 (fun x hx => by have := r2 x hx; omega) l3 hM2 c4
    rw [e1, e2]
    exact ⟨_, _, _, rfl, rfl, inv_keep hI2 e3⟩
  · obtain ⟨J_law, J_there, J_sleepers, J_empty, J_empties, J_yard, J_waiting, J_nights, J_used, J_sheets, J_lastOnes, J_guestsWithFleas, J_bedsWithFleas, J_isCounting⟩ := t1
    obtain ⟨L_beds, L_law, L_worths, L_sights, L_sight, L_signs, L_pad, L_lies, L_empty, L_list, L_waits, L_yard, L_last, L_used, L_sheets, L_nights, L_fleasOfGuests, L_fleasOfBeds, L_reason, L_row, L_bestRow, L_image, L_isKept⟩ := t2
    simp only [hb1, hb2, if_false]
    exact ⟨_, _, _, rfl, rfl, hI2⟩
