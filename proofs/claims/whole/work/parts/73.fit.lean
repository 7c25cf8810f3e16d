/-! filled, could: the reference's codes -/
theorem lp_isFit {n k q : Nat} {w sg sb : Nat → Nat} {M_beds M_law M_sights M_signs M_empty M_waits M_fleasOfGuests M_fleasOfBeds M_reason : Int32} {M_worths M_sight M_pad M_lies M_list M_yard M_last M_used M_sheets M_nights M_row M_bestRow M_image M_isKept : Nat → Int32} (hM : ModHR (M_beds, M_law, M_worths, M_sights, M_sight, M_signs, M_pad, M_lies, M_empty, M_list, M_waits, M_yard, M_last, M_used, M_sheets, M_nights, M_fleasOfGuests, M_fleasOfBeds, M_reason, M_row, M_bestRow, M_image, M_isKept) (n, k, q, w, sg, sb)) (hq : q ≤ 6) (hsg : ∀ j, sg j < 8) (hsb : ∀ j, sb j < 8) {C : AIn} (hC : AOk n C) (ho : MoR C (M_beds, M_law, M_worths, M_sights, M_sight, M_signs, M_pad, M_lies, M_empty, M_list, M_waits, M_yard, M_last, M_used, M_sheets, M_nights, M_fleasOfGuests, M_fleasOfBeds, M_reason, M_row, M_bestRow, M_image, M_isKept)) (kL : Int32 → Int32 → Option (Int32 × ModS)) : ∀ (r j fuel : Nat), q = j + r → r + 1 < fuel → ∃ x, f_X6_isFit_L23 M_sights M_sight M_lies fuel (nI 1) (nI j) kL = kL (nI (if seeB sg sb C r j = true then 1 else 0)) x := by
  obtain ⟨m1, m2, rfl, m4, m5⟩ := hM
  intro r
  induction r with
  | zero =>
    intro j fuel h1 h3
    obtain ⟨fuel, rfl⟩ : ∃ n, fuel = n + 1 := ⟨fuel - 1, by omega⟩
    rw [f_X6_isFit_L23, if_pos (by rw [n_le (by omega) (by omega)]; omega)]
    exact ⟨_, rfl⟩
  | succ r ih =>
    intro j fuel h1 h3
    obtain ⟨fuel, rfl⟩ : ∃ n, fuel = n + 1 := ⟨fuel - 1, by omega⟩
    have h8 := hsb j
    have hg8 := hsg j
    obtain ⟨p1, p2⟩ := m5 j (by omega)
    have hli : M_lies (sb j) = cdM (C.1 (sb j)) := ho.1 _ h8
    have hst : seeB sg sb C (r + 1) j = (decide (C.1 (sb j) = some (sg j)) && seeB sg sb C r (j + 1)) := rfl
    have h16 : ∀ x, C.1 (sb j) = some x → x < 16 := fun x hx => by
      obtain ⟨sl, em, ya⟩ := C
      exact hC.2.2.2.2.1 _ _ hx
    have hinj := cdM_inj h16 (g := sg j) (by omega)
    rw [f_X6_isFit_L23, hst]
    simp (disch := omega) only [n_le, c_leF, if_false, one0, n_mul, n_add, n_lt0, n_cl, false_or, p1, p2]
    rw [hli]
    by_cases e : C.1 (sb j) = some (sg j)
    · rw [if_pos (hinj.mpr e)]
      simp only [e, decide_true, Bool.true_and]
      exact ih (j + 1) fuel (by omega) (by omega)
    · rw [if_neg (fun z => e (hinj.mp z))]
      simp only [e, decide_false, Bool.false_and, Bool.false_eq_true, if_false]
      obtain ⟨fuel, rfl⟩ : ∃ n, fuel = n + 1 := ⟨fuel - 1, by omega⟩
      rw [f_X6_isFit_L23]
      by_cases h : nI (j + (r + 1)) ≤ nI (j + 1)
      · rw [h1, if_pos h]
        exact ⟨_, rfl⟩
      · rw [h1, if_neg h, if_pos (show nI 0 = 0 from rfl)]
        exact ⟨_, rfl⟩
theorem m_isFit {n k q : Nat} {w sg sb : Nat → Nat} (hw : ∀ j, w j ≤ 99) (hk : k < 4) (hn : n ≤ 8) (hq : q ≤ 6) (hsg : ∀ j, sg j < 8) (hsb : ∀ j, sb j < 8) {m : Nat} {d : Nat → Nat} (hd : ∀ j, j < 48 → d j < 127) (hm : m ≤ 48) (hf : fA d m 0 0 = none) {c : Nat} (hc : c < 2147483648) {t : ModS} (hM : ModHR t (n, k, q, w, sg, sb)) (hD : ModDR t m d) : ∃ t', f_X6_isFit (nI c) t = some (nI (if fitB n k q w sg sb d m (cntQ d m) c = true then 1 else 0), t') ∧ mP t' = mP t := by
  obtain ⟨hok, hu⟩ := fA_none (d := d) m 0 hf (by simp only [cntQ]; omega)
  rw [Nat.zero_add] at hu
  obtain ⟨t', g1, g2, g3, g4, g5⟩ := m_go hw hk hn hd (ev := m) (code := c) (Nat.le_refl m) hm hu hc (fun i hi => hok i (by omega) (by omega)) (x4 := nI 0) hM hD
  obtain ⟨r1, r2⟩ := GO_run (kk := k) (w := w) (d := effE d (cntQ d m) c) hn m 0
  have hM2 := mP_H g2 hM
  refine ⟨t', ?_, g2⟩
  obtain ⟨M_beds, M_law, M_worths, M_sights, M_sight, M_signs, M_pad, M_lies, M_empty, M_list, M_waits, M_yard, M_last, M_used, M_sheets, M_nights, M_fleasOfGuests, M_fleasOfBeds, M_reason, M_row, M_bestRow, M_image, M_isKept⟩ := t
  obtain ⟨L_beds, L_law, L_worths, L_sights, L_sight, L_signs, L_pad, L_lies, L_empty, L_list, L_waits, L_yard, L_last, L_used, L_sheets, L_nights, L_fleasOfGuests, L_fleasOfBeds, L_reason, L_row, L_bestRow, L_image, L_isKept⟩ := t'
  obtain rfl : M_signs = nI m := hD.1
  rw [f_X6_isFit, g1]
  obtain ⟨F, hF⟩ : ∃ F, FU = F := ⟨_, rfl⟩
  have hF2 : 20 < F := by rw [← hF, FU_eq]; omega
  rw [hF]
  simp only [Option.bind_some]
  unfold gJn fitB
  dsimp only
  cases hr : (runA k w (effE d (cntQ d m) c) m 0 (openA n)).1 with
  | none =>
    rw [if_neg (show ¬ 0 ≤ cdP none by decide)]
    obtain ⟨x, e1⟩ := lp_isFit hM2 hq hsg hsb r1 g4 (fun x2_L23 x3_L23 => (if x2_L23 = 0 ∨ x2_L23 = 1 then some (x2_L23, (L_beds, L_law, L_worths, L_sights, L_sight, L_signs, L_pad, L_lies, L_empty, L_list, L_waits, L_yard, L_last, L_used, L_sheets, L_nights, L_fleasOfGuests, L_fleasOfBeds, L_reason, L_row, L_bestRow, L_image, L_isKept)) else none)) q 0 F (by omega) (by omega)
    rw [e1]
    simp only [decide_true, Bool.true_and]
    by_cases h : seeB sg sb (runA k w (effE d (cntQ d m) c) m 0 (openA n)).2 q 0 = true
    · simp only [if_pos h, n11, if_true]
    · simp only [if_neg h, n01, if_true]
  | some p =>
    have hp := runA_lt m 0 (openA n) p hr
    rw [if_pos (show 0 ≤ cdP (some p) by show 0 ≤ nI p; rw [n_ge0 (by omega)]; trivial)]
    have hne : ¬ ((some p : Option Nat) = none) := fun z => by cases z
    simp only [hne, decide_false, Bool.false_and, Bool.false_eq_true, if_false]
    obtain ⟨F, rfl⟩ : ∃ z, F = z + 1 := ⟨F - 1, by omega⟩
    rw [f_X6_isFit_L23]
    by_cases h : L_sights ≤ nI 0
    · rw [if_pos h, if_pos (show nI 0 = 0 ∨ nI 0 = 1 from Or.inl rfl)]
    · rw [if_neg h, if_pos (show nI 0 = 0 from rfl), if_pos (show nI 0 = 0 ∨ nI 0 = 1 from Or.inl rfl)]
theorem m_codes {t : ModS} {m : Nat} {d : Nat → Nat} (hD : ModDR t m d) (hm : m ≤ 48) (hd : ∀ j, j < 48 → d j < 127) (hu : cntQ d m ≤ 3) : f_X6_codes t = some (nI (8 ^ cntQ d m)) := by
  have hop := m_opens hD hd (ev := m) hm
  obtain ⟨M_beds, M_law, M_worths, M_sights, M_sight, M_signs, M_pad, M_lies, M_empty, M_list, M_waits, M_yard, M_last, M_used, M_sheets, M_nights, M_fleasOfGuests, M_fleasOfBeds, M_reason, M_row, M_bestRow, M_image, M_isKept⟩ := t
  obtain rfl : M_signs = nI m := hD.1
  rw [f_X6_codes]
  have key : ∀ (c i fuel : Nat), cntQ d m = i + c → c < fuel → f_X6_codes_L4 M_beds M_law M_worths M_sights M_sight (nI m) M_pad M_lies M_empty M_list M_waits M_yard M_last M_used M_sheets M_nights M_fleasOfGuests M_fleasOfBeds M_reason M_row M_bestRow M_image M_isKept fuel (nI (8 ^ i)) (nI i) (fun x1_L4 x2_L4 => some x1_L4) = some (nI (8 ^ cntQ d m)) := by
    intro c
    induction c with
    | zero =>
      intro i fuel h1 h3
      obtain ⟨fuel, rfl⟩ : ∃ n, fuel = n + 1 := ⟨fuel - 1, by omega⟩
      rw [f_X6_codes_L4, hop, Option.bind_some, if_pos (by rw [n_le (by omega) (by omega)]; omega), h1]
      rfl
    | succ c ih =>
      intro i fuel h1 h3
      obtain ⟨fuel, rfl⟩ : ∃ n, fuel = n + 1 := ⟨fuel - 1, by omega⟩
      rw [f_X6_codes_L4, hop, Option.bind_some, if_neg (by rw [n_le (by omega) (by omega)]; omega), n_mul, n_add, ← Nat.pow_succ]
      exact ih (i + 1) fuel (by omega) (by omega)
  exact key (cntQ d m) 0 FU (by omega) (by rw [FU_eq]; omega)
theorem m_guestAt {t : ModS} {m : Nat} {d : Nat → Nat} (hD : ModDR t m d) (hm : m ≤ 48) (hd : ∀ j, j < 48 → d j < 127) (hu : cntQ d m ≤ 3) {c i : Nat} (hc : c < 2147483648) (hi : i < cntQ d m) : f_X6_guestAt (nI c) (nI i) t = some (nI (dig (cntQ d m) c i)) := by
  have hop := m_opens hD hd (ev := m) hm
  obtain ⟨M_beds, M_law, M_worths, M_sights, M_sight, M_signs, M_pad, M_lies, M_empty, M_list, M_waits, M_yard, M_last, M_used, M_sheets, M_nights, M_fleasOfGuests, M_fleasOfBeds, M_reason, M_row, M_bestRow, M_image, M_isKept⟩ := t
  obtain rfl : M_signs = nI m := hD.1
  rw [f_X6_guestAt, hop, Option.bind_some, n_sub (by omega)]
  have key : ∀ (e y fuel : Nat), y < 2147483648 → i + e < 10 → e < fuel → f_X6_guestAt_L14 (nI i) fuel (nI y) (nI (i + e)) (fun x3_L14 x4_L14 => some (x3_L14 - x3_L14 / (nI 8) * (nI 8))) = some (nI (y / 8 ^ e % 8)) := by
    intro e
    induction e with
    | zero =>
      intro y fuel hy h1 h3
      obtain ⟨fuel, rfl⟩ : ∃ n, fuel = n + 1 := ⟨fuel - 1, by omega⟩
      rw [f_X6_guestAt_L14, if_pos (by rw [n_le (by omega) (by omega)]; omega), pk_rem (by omega) (by omega) (by omega), Nat.pow_zero, Nat.div_one]
    | succ e ih =>
      intro y fuel hy h1 h3
      obtain ⟨fuel, rfl⟩ : ∃ n, fuel = n + 1 := ⟨fuel - 1, by omega⟩
      have hle := Nat.div_le_self y 8
      rw [f_X6_guestAt_L14, if_neg (by rw [n_le (by omega) (by omega)]; omega), pk_div (by omega) (by omega) (by omega), ← Nat.add_assoc, pk_m1]
      rw [ih (y / 8) fuel (by omega) (by omega) (by omega), Nat.div_div_eq_div_mul, Nat.pow_succ, Nat.mul_comm 8]
  have e := key (cntQ d m - 1 - i) c FU hc (by omega) (by rw [FU_eq]; omega)
  rw [show i + (cntQ d m - 1 - i) = cntQ d m - 1 by omega] at e
  exact e
def KIv (st : KpS) : Prop := (st.1 = 0 ↔ st.2.1 = none) ∧ ∀ c, st.2.1 = some c → c < 1000
theorem kiv_step {fit : Nat → Bool} {u c : Nat} {st : KpS} (h : KIv st) (hc : c < 1000) : KIv (kpA fit u st c) := by
  unfold kpA
  split
  · refine ⟨⟨fun h2 => absurd h2 (by simp only; omega), fun h2 => ?_⟩, fun x hx => ?_⟩
    · simp only at h2
      split at h2
      · cases h2
      · rename_i h3
        exact absurd (h.1.mpr h2) h3
    · simp only at hx
      split at hx
      · cases hx; exact hc
      · exact h.2 x hx
  · exact h
def gFin (x1 a b : Int32) : ModS → Option (Int32 × ModS)
  | (M_beds, M_law, M_worths, M_sights, M_sight, M_signs, M_pad, M_lies, M_empty, M_list, M_waits, M_yard, M_last, M_used, M_sheets, M_nights, M_fleasOfGuests, M_fleasOfBeds, M_reason, M_row, M_bestRow, M_image, M_isKept) => (if x1 = (-1 : Int32) then some (a, (M_beds, M_law, M_worths, M_sights, M_sight, M_signs, M_pad, M_lies, M_empty, M_list, M_waits, M_yard, M_last, M_used, M_sheets, M_nights, M_fleasOfGuests, M_fleasOfBeds, M_reason, M_row, M_bestRow, M_image, M_isKept)) else (if b < 0 then some ((-6 : Int32), (M_beds, M_law, M_worths, M_sights, M_sight, M_signs, M_pad, M_lies, M_empty, M_list, M_waits, M_yard, M_last, M_used, M_sheets, M_nights, M_fleasOfGuests, M_fleasOfBeds, M_reason, M_row, M_bestRow, M_image, M_isKept)) else (Option.bind (f_X6_opens M_signs (M_beds, M_law, M_worths, M_sights, M_sight, M_signs, M_pad, M_lies, M_empty, M_list, M_waits, M_yard, M_last, M_used, M_sheets, M_nights, M_fleasOfGuests, M_fleasOfBeds, M_reason, M_row, M_bestRow, M_image, M_isKept)) (fun r_74 => (Option.bind (f_X6_in x1 (nI 0) (r_74 - (nI 1))) (fun r_79 => (if r_79 = 0 then some ((-6 : Int32), (M_beds, M_law, M_worths, M_sights, M_sight, M_signs, M_pad, M_lies, M_empty, M_list, M_waits, M_yard, M_last, M_used, M_sheets, M_nights, M_fleasOfGuests, M_fleasOfBeds, M_reason, M_row, M_bestRow, M_image, M_isKept)) else (Option.bind (f_X6_guestAt b x1 (M_beds, M_law, M_worths, M_sights, M_sight, M_signs, M_pad, M_lies, M_empty, M_list, M_waits, M_yard, M_last, M_used, M_sheets, M_nights, M_fleasOfGuests, M_fleasOfBeds, M_reason, M_row, M_bestRow, M_image, M_isKept)) (fun r_88 => some (r_88, (M_beds, M_law, M_worths, M_sights, M_sight, M_signs, M_pad, M_lies, M_empty, M_list, M_waits, M_yard, M_last, M_used, M_sheets, M_nights, M_fleasOfGuests, M_fleasOfBeds, M_reason, M_row, M_bestRow, M_image, M_isKept)))))))))))
def gFl (x1 : Int32) (fuel : Nat) (x2 x3 x4 : Int32) : ModS → Option (Int32 × ModS)
  | (M_beds, M_law, M_worths, M_sights, M_sight, M_signs, M_pad, M_lies, M_empty, M_list, M_waits, M_yard, M_last, M_used, M_sheets, M_nights, M_fleasOfGuests, M_fleasOfBeds, M_reason, M_row, M_bestRow, M_image, M_isKept) => f_X6_filled_L18 fuel x2 x3 x4 M_beds M_law M_worths M_sights M_sight M_signs M_pad M_lies M_empty M_list M_waits M_yard M_last M_used M_sheets M_nights M_fleasOfGuests M_fleasOfBeds M_reason M_row M_bestRow M_image M_isKept (fun x2_L18 x3_L18 x4_L18 M_beds M_law M_worths M_sights M_sight M_signs M_pad M_lies M_empty M_list M_waits M_yard M_last M_used M_sheets M_nights M_fleasOfGuests M_fleasOfBeds M_reason M_row M_bestRow M_image M_isKept => (if x1 = (-1 : Int32) then some (x2_L18, (M_beds, M_law, M_worths, M_sights, M_sight, M_signs, M_pad, M_lies, M_empty, M_list, M_waits, M_yard, M_last, M_used, M_sheets, M_nights, M_fleasOfGuests, M_fleasOfBeds, M_reason, M_row, M_bestRow, M_image, M_isKept)) else (if x3_L18 < 0 then some ((-6 : Int32), (M_beds, M_law, M_worths, M_sights, M_sight, M_signs, M_pad, M_lies, M_empty, M_list, M_waits, M_yard, M_last, M_used, M_sheets, M_nights, M_fleasOfGuests, M_fleasOfBeds, M_reason, M_row, M_bestRow, M_image, M_isKept)) else (Option.bind (f_X6_opens M_signs (M_beds, M_law, M_worths, M_sights, M_sight, M_signs, M_pad, M_lies, M_empty, M_list, M_waits, M_yard, M_last, M_used, M_sheets, M_nights, M_fleasOfGuests, M_fleasOfBeds, M_reason, M_row, M_bestRow, M_image, M_isKept)) (fun r_74 => (Option.bind (f_X6_in x1 (nI 0) (r_74 - (nI 1))) (fun r_79 => (if r_79 = 0 then some ((-6 : Int32), (M_beds, M_law, M_worths, M_sights, M_sight, M_signs, M_pad, M_lies, M_empty, M_list, M_waits, M_yard, M_last, M_used, M_sheets, M_nights, M_fleasOfGuests, M_fleasOfBeds, M_reason, M_row, M_bestRow, M_image, M_isKept)) else (Option.bind (f_X6_guestAt x3_L18 x1 (M_beds, M_law, M_worths, M_sights, M_sight, M_signs, M_pad, M_lies, M_empty, M_list, M_waits, M_yard, M_last, M_used, M_sheets, M_nights, M_fleasOfGuests, M_fleasOfBeds, M_reason, M_row, M_bestRow, M_image, M_isKept)) (fun r_88 => some (r_88, (M_beds, M_law, M_worths, M_sights, M_sight, M_signs, M_pad, M_lies, M_empty, M_list, M_waits, M_yard, M_last, M_used, M_sheets, M_nights, M_fleasOfGuests, M_fleasOfBeds, M_reason, M_row, M_bestRow, M_image, M_isKept))))))))))))
theorem gFl_def (x1 : Int32) (fuel : Nat) (x2 x3 x4 : Int32) {M_beds M_law M_sights M_signs M_empty M_waits M_fleasOfGuests M_fleasOfBeds M_reason : Int32} {M_worths M_sight M_pad M_lies M_list M_yard M_last M_used M_sheets M_nights M_row M_bestRow M_image M_isKept : Nat → Int32} : gFl x1 fuel x2 x3 x4 (M_beds, M_law, M_worths, M_sights, M_sight, M_signs, M_pad, M_lies, M_empty, M_list, M_waits, M_yard, M_last, M_used, M_sheets, M_nights, M_fleasOfGuests, M_fleasOfBeds, M_reason, M_row, M_bestRow, M_image, M_isKept) = f_X6_filled_L18 fuel x2 x3 x4 M_beds M_law M_worths M_sights M_sight M_signs M_pad M_lies M_empty M_list M_waits M_yard M_last M_used M_sheets M_nights M_fleasOfGuests M_fleasOfBeds M_reason M_row M_bestRow M_image M_isKept (fun x2_L18 x3_L18 x4_L18 M_beds M_law M_worths M_sights M_sight M_signs M_pad M_lies M_empty M_list M_waits M_yard M_last M_used M_sheets M_nights M_fleasOfGuests M_fleasOfBeds M_reason M_row M_bestRow M_image M_isKept => (if x1 = (-1 : Int32) then some (x2_L18, (M_beds, M_law, M_worths, M_sights, M_sight, M_signs, M_pad, M_lies, M_empty, M_list, M_waits, M_yard, M_last, M_used, M_sheets, M_nights, M_fleasOfGuests, M_fleasOfBeds, M_reason, M_row, M_bestRow, M_image, M_isKept)) else (if x3_L18 < 0 then some ((-6 : Int32), (M_beds, M_law, M_worths, M_sights, M_sight, M_signs, M_pad, M_lies, M_empty, M_list, M_waits, M_yard, M_last, M_used, M_sheets, M_nights, M_fleasOfGuests, M_fleasOfBeds, M_reason, M_row, M_bestRow, M_image, M_isKept)) else (Option.bind (f_X6_opens M_signs (M_beds, M_law, M_worths, M_sights, M_sight, M_signs, M_pad, M_lies, M_empty, M_list, M_waits, M_yard, M_last, M_used, M_sheets, M_nights, M_fleasOfGuests, M_fleasOfBeds, M_reason, M_row, M_bestRow, M_image, M_isKept)) (fun r_74 => (Option.bind (f_X6_in x1 (nI 0) (r_74 - (nI 1))) (fun r_79 => (if r_79 = 0 then some ((-6 : Int32), (M_beds, M_law, M_worths, M_sights, M_sight, M_signs, M_pad, M_lies, M_empty, M_list, M_waits, M_yard, M_last, M_used, M_sheets, M_nights, M_fleasOfGuests, M_fleasOfBeds, M_reason, M_row, M_bestRow, M_image, M_isKept)) else (Option.bind (f_X6_guestAt x3_L18 x1 (M_beds, M_law, M_worths, M_sights, M_sight, M_signs, M_pad, M_lies, M_empty, M_list, M_waits, M_yard, M_last, M_used, M_sheets, M_nights, M_fleasOfGuests, M_fleasOfBeds, M_reason, M_row, M_bestRow, M_image, M_isKept)) (fun r_88 => some (r_88, (M_beds, M_law, M_worths, M_sights, M_sight, M_signs, M_pad, M_lies, M_empty, M_list, M_waits, M_yard, M_last, M_used, M_sheets, M_nights, M_fleasOfGuests, M_fleasOfBeds, M_reason, M_row, M_bestRow, M_image, M_isKept)))))))))))) := rfl
theorem gFl_loop {n k q : Nat} {w sg sb : Nat → Nat} (hw : ∀ j, w j ≤ 99) (hk : k < 4) (hn : n ≤ 8) (hq : q ≤ 6) (hsg : ∀ j, sg j < 8) (hsb : ∀ j, sb j < 8) {m : Nat} {d : Nat → Nat} (hd : ∀ j, j < 48 → d j < 127) (hm : m ≤ 48) (hf : fA d m 0 0 = none) (hu : cntQ d m ≤ 3) (x1 : Int32) : ∀ (len j fuel : Nat) (st : KpS) (t : ModS), j + len = 8 ^ cntQ d m → len < fuel → KIv st → st.1 ≤ j → ModHR t (n, k, q, w, sg, sb) → ModDR t m d → ∃ t', gFl x1 fuel (nI st.1) (cdP st.2.1) (nI j) t = gFin x1 (nI ((List.range' j len).foldl (kpA (fitB n k q w sg sb d m (cntQ d m)) (cntQ d m)) st).1) (cdP ((List.range' j len).foldl (kpA (fitB n k q w sg sb d m (cntQ d m)) (cntQ d m)) st).2.1) t' ∧ mP t' = mP t := by
  have h8 : 8 ^ cntQ d m ≤ 8 ^ 3 := Nat.pow_le_pow_right (by omega) hu
  intro len
  induction len with
  | zero =>
    intro j fuel st t h1 h3 hK hst hM hD
    obtain ⟨fuel, rfl⟩ : ∃ n, fuel = n + 1 := ⟨fuel - 1, by omega⟩
    have hco := m_codes hD hm hd hu
    refine ⟨t, ?_, rfl⟩
    obtain ⟨M_beds, M_law, M_worths, M_sights, M_sight, M_signs, M_pad, M_lies, M_empty, M_list, M_waits, M_yard, M_last, M_used, M_sheets, M_nights, M_fleasOfGuests, M_fleasOfBeds, M_reason, M_row, M_bestRow, M_image, M_isKept⟩ := t
    rw [gFl_def, f_X6_filled_L18, hco, Option.bind_some, if_pos (by rw [n_le (by omega) (by omega)]; omega)]
    rfl
  | succ len ih =>
    intro j fuel st t h1 h3 hK hst hM hD
    obtain ⟨fuel, rfl⟩ : ∃ n, fuel = n + 1 := ⟨fuel - 1, by omega⟩
    have hco := m_codes hD hm hd hu
    obtain ⟨t1, e1, e2⟩ := m_isFit hw hk hn hq hsg hsb hd hm hf (c := j) (by omega) hM hD
    have hK1 := kiv_step (fit := fitB n k q w sg sb d m (cntQ d m)) (u := cntQ d m) (c := j) hK (by omega)
    have hst1 : (kpA (fitB n k q w sg sb d m (cntQ d m)) (cntQ d m) st j).1 ≤ j + 1 := by
      unfold kpA
      split
      · simp only; omega
      · omega
    obtain ⟨t', g1, g2⟩ := ih (j + 1) fuel _ t1 (by omega) (by omega) hK1 hst1 (mP_H e2 hM) (mP_D e2 hD)
    refine ⟨t', ?_, g2.trans e2⟩
    rw [show List.range' j (len + 1) = j :: List.range' (j + 1) len from rfl, List.foldl_cons, ← g1]
    obtain ⟨M_beds, M_law, M_worths, M_sights, M_sight, M_signs, M_pad, M_lies, M_empty, M_list, M_waits, M_yard, M_last, M_used, M_sheets, M_nights, M_fleasOfGuests, M_fleasOfBeds, M_reason, M_row, M_bestRow, M_image, M_isKept⟩ := t
    obtain ⟨L_beds, L_law, L_worths, L_sights, L_sight, L_signs, L_pad, L_lies, L_empty, L_list, L_waits, L_yard, L_last, L_used, L_sheets, L_nights, L_fleasOfGuests, L_fleasOfBeds, L_reason, L_row, L_bestRow, L_image, L_isKept⟩ := t1
    rw [gFl_def, gFl_def, f_X6_filled_L18, hco, Option.bind_some, if_neg (by rw [n_le (by omega) (by omega)]; omega), e1, Option.bind_some]
    dsimp only
    unfold kpA
    by_cases hfit : fitB n k q w sg sb d m (cntQ d m) j = true
    · rw [if_pos hfit, if_neg (show ¬ nI 1 = 0 by decide), if_pos hfit, n_add, n_add]
      by_cases h0 : st.1 = 0
      · have h01 := hK.1.mp h0
        rw [if_neg (show ¬ 0 ≤ cdP st.2.1 by rw [h01]; decide)]
        simp only [if_pos h0]
        rfl
      · have h01 : st.2.1 ≠ none := fun z => h0 (hK.1.mpr z)
        rw [if_pos (show 0 ≤ cdP st.2.1 by rw [cdP_ge0 (fun p hp => by have := hK.2 p hp; omega)]; exact h01)]
        simp only [if_neg h0]
    · rw [if_neg hfit, if_pos (show nI 0 = 0 from rfl), if_neg hfit, n_add]
