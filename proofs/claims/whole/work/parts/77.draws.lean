/-! chance: the reference's draws -/
theorem lp160 {n : Nat} (hn : n ≤ 8) {C : AIn} (hC : AOk n C) {Y : Nat → Int32} (hY : ∀ b, b < 8 → Y b = cdM (C.1 b)) (kL : Int32 → Option (Int64 × ModS)) : ∀ (c j fuel : Nat), n = j + c → c < fuel → (∀ i, i < j → C.1 i = none) → (∃ b g, b < n ∧ C.1 b = some g ∧ (∀ i, i < b → C.1 i = none) ∧ f_X6_chance_L160 (nI n) Y fuel (nI j) kL = kL (nI b)) ∨ ((∀ i, i < n → C.1 i = none) ∧ f_X6_chance_L160 (nI n) Y fuel (nI j) kL = kL (nI n)) := by
  intro c
  induction c with
  | zero =>
    intro j fuel h1 h3 hno
    obtain ⟨fuel, rfl⟩ : ∃ n, fuel = n + 1 := ⟨fuel - 1, by omega⟩
    right
    refine ⟨fun i hi => hno i (by omega), ?_⟩
    rw [f_X6_chance_L160, if_pos (by rw [n_le (by omega) (by omega)]; omega), show j = n by omega]
  | succ c ih =>
    intro j fuel h1 h3 hno
    obtain ⟨fuel, rfl⟩ : ∃ n, fuel = n + 1 := ⟨fuel - 1, by omega⟩
    have hnb : ¬ (nI j < 0 ∨ 8 ≤ (nI j).toNatClampNeg) := by
      rw [n_lt0 (by omega), n_cl (by omega)]
      rintro (h | h)
      · exact h
      · omega
    rw [f_X6_chance_L160, if_neg (by rw [n_le (by omega) (by omega)]; omega), if_neg hnb, n_cl (by omega), hY j (by omega)]
    cases hs : C.1 j with
    | none =>
      rw [if_neg (show ¬ 0 ≤ cdM none by decide), n_add]
      refine ih (j + 1) fuel (by omega) (by omega) (fun i hi => ?_)
      by_cases e : i = j
      · rw [e]; exact hs
      · exact hno i (by omega)
    | some g =>
      have hg : g < 16 := by
        obtain ⟨sl, em, ya⟩ := C
        exact hC.2.2.2.2.1 _ _ hs
      left
      refine ⟨j, g, by omega, hs, hno, ?_⟩
      rw [if_pos (show 0 ≤ cdM (some g) by show 0 ≤ nI g; rw [n_ge0 (by omega)]; trivial)]
theorem drop_some {n b g : Nat} {C : AIn} (hC : AOk n C) (hn : n ≤ 8) (hb : b < n) (hs : C.1 b = some g) (hno : ∀ i, i < b → C.1 i = none) : dropA C = goA g C := by
  have e1 : (List.range 8).find? (fun b => (C.1 b).isSome) = some b := by
    rw [List.find?_range_eq_some]
    exact ⟨by rw [hs]; rfl, by simpa using (show b < 8 by omega), fun i hi => by rw [hno i hi]; rfl⟩
  have e2 : bedA C.1 g = some b := by
    cases hq : bedA C.1 g with
    | none => exact absurd hs (bedA_none hq b (by omega))
    | some b' =>
      obtain ⟨h1, h2⟩ := bedA_some hq
      obtain ⟨sl, em, ya⟩ := C
      rw [hC.2.2.2.2.2.2.1 b b' g hs h1]
  unfold dropA goA
  rw [e1, e2]
theorem drop_none {n : Nat} {C : AIn} (hC : AOk n C) (hno : ∀ i, i < n → C.1 i = none) : dropA C = C := by
  have e1 : (List.range 8).find? (fun b => (C.1 b).isSome) = none := by
    rw [List.find?_eq_none]
    intro x hx
    have : C.1 x = none := by
      rcases Nat.lt_or_ge x n with h | h
      · exact hno x h
      · obtain ⟨sl, em, ya⟩ := C
        exact hC.2.2.1 x h
    rw [this]
    simp
  unfold dropA
  rw [e1]
set_option maxHeartbeats 1000000 in
theorem lp112 {n k q : Nat} {w sg sb : Nat → Nat} (hw : ∀ j, w j ≤ 99) (hk : k < 4) (hn : n ≤ 8) {mm t b c : Nat} (hm : mm ≤ 8) (ht : t ≤ 10) (hc : c < 256) : ∀ (r i fuel own : Nat) (C : AIn) {M_beds M_law M_sights M_signs M_empty M_waits M_fleasOfGuests M_fleasOfBeds M_reason : Int32} {M_worths M_sight M_pad M_lies M_list M_yard M_last M_used M_sheets M_nights M_row M_bestRow M_image M_isKept : Nat → Int32}, mm = i + r → r < fuel → AOk n C → (∀ x, presA C x → x < 8 + i) → ModHR (M_beds, M_law, M_worths, M_sights, M_sight, M_signs, M_pad, M_lies, M_empty, M_list, M_waits, M_yard, M_last, M_used, M_sheets, M_nights, M_fleasOfGuests, M_fleasOfBeds, M_reason, M_row, M_bestRow, M_image, M_isKept) (n, k, q, w, sg, sb) → MoR C (M_beds, M_law, M_worths, M_sights, M_sight, M_signs, M_pad, M_lies, M_empty, M_list, M_waits, M_yard, M_last, M_used, M_sheets, M_nights, M_fleasOfGuests, M_fleasOfBeds, M_reason, M_row, M_bestRow, M_image, M_isKept) → ∃ own' L_beds L_law L_worths L_sights L_sight L_signs L_pad L_lies L_empty L_list L_waits L_yard L_last L_used L_sheets L_nights L_fleasOfGuests L_fleasOfBeds L_reason L_row L_bestRow L_image L_isKept C', (∀ kL : Int64 → Int32 → Int32 → Int32 → (Nat → Int32) → Int32 → (Nat → Int32) → Int32 → (Nat → Int32) → (Nat → Int32) → Int32 → (Nat → Int32) → Int32 → (Nat → Int32) → (Nat → Int32) → (Nat → Int32) → (Nat → Int32) → (Nat → Int32) → Int32 → Int32 → Int32 → (Nat → Int32) → (Nat → Int32) → (Nat → Int32) → (Nat → Int32) → Option (Int64 × ModS), f_X6_chance_L112 (nI c) (nI mm) (nI t) fuel (lN own) (nI i) M_beds M_law M_worths M_sights M_sight M_signs M_pad M_lies M_empty M_list M_waits M_yard M_last M_used M_sheets M_nights M_fleasOfGuests M_fleasOfBeds M_reason M_row M_bestRow M_image M_isKept kL = kL (lN own') (nI mm) L_beds L_law L_worths L_sights L_sight L_signs L_pad L_lies L_empty L_list L_waits L_yard L_last L_used L_sheets L_nights L_fleasOfGuests L_fleasOfBeds L_reason L_row L_bestRow L_image L_isKept) ∧ mP (L_beds, L_law, L_worths, L_sights, L_sight, L_signs, L_pad, L_lies, L_empty, L_list, L_waits, L_yard, L_last, L_used, L_sheets, L_nights, L_fleasOfGuests, L_fleasOfBeds, L_reason, L_row, L_bestRow, L_image, L_isKept) = mP (M_beds, M_law, M_worths, M_sights, M_sight, M_signs, M_pad, M_lies, M_empty, M_list, M_waits, M_yard, M_last, M_used, M_sheets, M_nights, M_fleasOfGuests, M_fleasOfBeds, M_reason, M_row, M_bestRow, M_image, M_isKept) ∧ MoR C' (L_beds, L_law, L_worths, L_sights, L_sight, L_signs, L_pad, L_lies, L_empty, L_list, L_waits, L_yard, L_last, L_used, L_sheets, L_nights, L_fleasOfGuests, L_fleasOfBeds, L_reason, L_row, L_bestRow, L_image, L_isKept) ∧ AOk n C' ∧ (if C'.1 b = none then 0 else own') = pvA k w t b r i own (c / 2 ^ i) C := by
  intro r
  induction r with
  | zero =>
    intro i fuel own C M_beds M_law M_sights M_signs M_empty M_waits M_fleasOfGuests M_fleasOfBeds M_reason M_worths M_sight M_pad M_lies M_list M_yard M_last M_used M_sheets M_nights M_row M_bestRow M_image M_isKept h1 h3 hC hp hM ho
    obtain ⟨fuel, rfl⟩ : ∃ n, fuel = n + 1 := ⟨fuel - 1, by omega⟩
    refine ⟨own, M_beds, M_law, M_worths, M_sights, M_sight, M_signs, M_pad, M_lies, M_empty, M_list, M_waits, M_yard, M_last, M_used, M_sheets, M_nights, M_fleasOfGuests, M_fleasOfBeds, M_reason, M_row, M_bestRow, M_image, M_isKept, C, fun kL => ?_, rfl, ho, hC, rfl⟩
    rw [f_X6_chance_L112, if_pos (by rw [n_le (by omega) (by omega)]; omega), show i = mm by omega]
  | succ r ih =>
    intro i fuel own C M_beds M_law M_sights M_signs M_empty M_waits M_fleasOfGuests M_fleasOfBeds M_reason M_worths M_sight M_pad M_lies M_list M_yard M_last M_used M_sheets M_nights M_row M_bestRow M_image M_isKept h1 h3 hC hp hM ho
    obtain ⟨fuel, rfl⟩ : ∃ n, fuel = n + 1 := ⟨fuel - 1, by omega⟩
    obtain ⟨s1, s2, s3, s4, s5⟩ := st_facts (k := k) (w := w) hC (show i < 8 by omega) hp
    have hh := m_has c hc i (by omega)
    have htb : c.testBit i = decide (c / 2 ^ i % 2 = 1) := Nat.testBit_eq_decide_div_mod_eq
    have hdd : c / 2 ^ i / 2 = c / 2 ^ (i + 1) := by rw [Nat.div_div_eq_div_mul, Nat.pow_succ]
    have hle : ¬ nI mm ≤ nI i := by rw [n_le (by omega) (by omega)]; omega
    by_cases hb : c / 2 ^ i % 2 = 1
    · have hpv : pvA k w t b (r + 1) i own (c / 2 ^ i) C = pvA k w t b r (i + 1) (own * t) (c / 2 ^ (i + 1)) (stA k w i C) := by
        show (if c / 2 ^ i % 2 = 1 then _ else _) = _
        rw [if_pos hb, hdd]
      rw [htb, decide_eq_true hb] at hh
      obtain ⟨t1, m1, m2, m3, m4, -⟩ := m_comeIn hM hw hk hn hC ho (g := 8 + i) (by omega) s1
      have hM' := mP_H m2 hM
      obtain ⟨Q_beds, Q_law, Q_worths, Q_sights, Q_sight, Q_signs, Q_pad, Q_lies, Q_empty, Q_list, Q_waits, Q_yard, Q_last, Q_used, Q_sheets, Q_nights, Q_fleasOfGuests, Q_fleasOfBeds, Q_reason, Q_row, Q_bestRow, Q_image, Q_isKept⟩ := t1
      obtain ⟨own', L_beds, L_law, L_worths, L_sights, L_sight, L_signs, L_pad, L_lies, L_empty, L_list, L_waits, L_yard, L_last, L_used, L_sheets, L_nights, L_fleasOfGuests, L_fleasOfBeds, L_reason, L_row, L_bestRow, L_image, L_isKept, C', e1, e2, e3, e4, e5⟩ := ih (i + 1) fuel (own * t) (stA k w i C) (by omega) (by omega) s2 s3 hM' m4
      refine ⟨own', L_beds, L_law, L_worths, L_sights, L_sight, L_signs, L_pad, L_lies, L_empty, L_list, L_waits, L_yard, L_last, L_used, L_sheets, L_nights, L_fleasOfGuests, L_fleasOfBeds, L_reason, L_row, L_bestRow, L_image, L_isKept, C', fun kL => ?_, e2.trans m2, e3, e4, by rw [hpv]; exact e5⟩
      rw [f_X6_chance_L112, if_neg hle, hh, Option.bind_some, if_pos rfl, if_neg (show ¬ nI 1 = 0 by decide), n_add, m1, Option.bind_some]
      dsimp only
      rw [nI_l (by omega), lN_mul, n_add]
      exact e1 kL
    · have hpv : pvA k w t b (r + 1) i own (c / 2 ^ i) C = pvA k w t b r (i + 1) (own * (10 - t)) (c / 2 ^ (i + 1)) (dropA C) := by
        show (if c / 2 ^ i % 2 = 1 then _ else _) = _
        rw [if_neg hb, hdd]
      rw [htb, decide_eq_false hb] at hh
      obtain ⟨F, hF⟩ : ∃ F, FU = F := ⟨_, rfl⟩
      have hF2 : 20 < F := by rw [← hF, FU_eq]; omega
      obtain rfl : M_beds = nI n := hM.1
      have h160 := fun kL => lp160 hn hC ho.1 kL n 0 F (by omega) (by omega) (fun i hi => absurd hi (by omega))
      rcases (h160 (fun _ => none)) with ⟨b0, g0, k1, k2, k3, -⟩ | ⟨k1, -⟩
      · have e160 : ∀ kL : Int32 → Option (Int64 × ModS), f_X6_chance_L160 (nI n) M_lies F (nI 0) kL = kL (nI b0) := fun kL => by
          rcases h160 kL with ⟨b1, g1, j1, j2, j3, j4⟩ | ⟨j1, -⟩
          · have : b1 = b0 := by
              rcases Nat.lt_trichotomy b1 b0 with h | h | h
              · rw [k3 b1 h] at j2; cases j2
              · exact h
              · rw [j3 b0 h] at k2; cases k2
            rw [j4, this]
          · rw [j1 b0 k1] at k2; cases k2
        have hg16 : g0 < 16 := by
          obtain ⟨sl, em, ya⟩ := C
          exact hC.2.2.2.2.1 _ _ k2
        have hpr : presA C g0 := by
          obtain ⟨sl, em, ya⟩ := C
          exact Or.inl ⟨b0, k2⟩
        have hli : M_lies b0 = nI g0 := by rw [ho.1 b0 (by omega), k2]; rfl
        obtain ⟨t1, m1, m2, m3, m4, -⟩ := m_goOut hM hn hC ho hg16 hpr
        rw [← drop_some hC hn k1 k2 k3] at m4
        have hM' := mP_H m2 hM
        obtain ⟨Q_beds, Q_law, Q_worths, Q_sights, Q_sight, Q_signs, Q_pad, Q_lies, Q_empty, Q_list, Q_waits, Q_yard, Q_last, Q_used, Q_sheets, Q_nights, Q_fleasOfGuests, Q_fleasOfBeds, Q_reason, Q_row, Q_bestRow, Q_image, Q_isKept⟩ := t1
        obtain ⟨own', L_beds, L_law, L_worths, L_sights, L_sight, L_signs, L_pad, L_lies, L_empty, L_list, L_waits, L_yard, L_last, L_used, L_sheets, L_nights, L_fleasOfGuests, L_fleasOfBeds, L_reason, L_row, L_bestRow, L_image, L_isKept, C', e1, e2, e3, e4, e5⟩ := ih (i + 1) fuel (own * (10 - t)) (dropA C) (by omega) (by omega) s4 s5 hM' m4
        refine ⟨own', L_beds, L_law, L_worths, L_sights, L_sight, L_signs, L_pad, L_lies, L_empty, L_list, L_waits, L_yard, L_last, L_used, L_sheets, L_nights, L_fleasOfGuests, L_fleasOfBeds, L_reason, L_row, L_bestRow, L_image, L_isKept, C', fun kL => ?_, e2.trans m2, e3, e4, by rw [hpv]; exact e5⟩
        have hnb : ¬ (nI b0 < 0 ∨ 8 ≤ (nI b0).toNatClampNeg) := by
          rw [n_lt0 (by omega), n_cl (by omega)]
          rintro (h | h)
          · exact h
          · omega
        rw [f_X6_chance_L112, if_neg hle, hh, Option.bind_some, if_neg (show ¬ false = true by decide), if_pos (show nI 0 = 0 from rfl), hF, e160, if_neg (by rw [n_le (by omega) (by omega)]; omega), if_neg hnb, n_cl (by omega), hli, m1, Option.bind_some]
        dsimp only
        rw [n_sub (by omega), nI_l (by omega), lN_mul, n_add]
        exact e1 kL
      · have e160 : ∀ kL : Int32 → Option (Int64 × ModS), f_X6_chance_L160 (nI n) M_lies F (nI 0) kL = kL (nI n) := fun kL => by
          rcases h160 kL with ⟨b1, g1, j1, j2, j3, j4⟩ | ⟨-, j1⟩
          · rw [k1 b1 j1] at j2; cases j2
          · exact j1
        have hdn := drop_none hC k1
        obtain ⟨own', L_beds, L_law, L_worths, L_sights, L_sight, L_signs, L_pad, L_lies, L_empty, L_list, L_waits, L_yard, L_last, L_used, L_sheets, L_nights, L_fleasOfGuests, L_fleasOfBeds, L_reason, L_row, L_bestRow, L_image, L_isKept, C', e1, e2, e3, e4, e5⟩ := ih (i + 1) fuel (own * (10 - t)) (dropA C) (by omega) (by omega) s4 s5 hM (by rw [hdn]; exact ho)
        refine ⟨own', L_beds, L_law, L_worths, L_sights, L_sight, L_signs, L_pad, L_lies, L_empty, L_list, L_waits, L_yard, L_last, L_used, L_sheets, L_nights, L_fleasOfGuests, L_fleasOfBeds, L_reason, L_row, L_bestRow, L_image, L_isKept, C', fun kL => ?_, e2, e3, e4, by rw [hpv]; exact e5⟩
        rw [f_X6_chance_L112, if_neg hle, hh, Option.bind_some, if_neg (show ¬ false = true by decide), if_pos (show nI 0 = 0 from rfl), hF, e160, if_pos (by rw [n_le (by omega) (by omega)]; omega), n_sub (by omega), nI_l (by omega), lN_mul, n_add]
        exact e1 kL
theorem b_sh9 : ∀ g, g < 9 → nI 1 <<< (nI g &&& 31) = nI (2 ^ g) := by decide +kernel
theorem gJ107 {β : Type} (r : Int64 → β) : gJn r (fun kJ => if (0 : Int32) ≤ -6 then kJ (lN 0) else kJ (lN 1)) = r (lN 1) := by
  unfold gJn
  dsimp only
  rw [if_neg (show ¬ (0 : Int32) ≤ -6 by decide)]
set_option maxHeartbeats 1000000 in
theorem lp75 {n k q : Nat} {w sg sb : Nat → Nat} (hw : ∀ j, w j ≤ 99) (hk : k < 4) (hn : n ≤ 8) {m : Nat} {d : Nat → Nat} (hd : ∀ j, j < 48 → d j < 127) (hm : m ≤ 48) (hf : fA d m 0 0 = none) (hc : cntQ d m = 0) (hr0 : (runA k w d m 0 (openA n)).1 = none) {mm t b : Nat} (hmm : mm ≤ 8) (ht : t ≤ 10) (hb : b < 8) : ∀ (len c fuel : Nat) {M_beds M_law M_sights M_signs M_empty M_waits M_fleasOfGuests M_fleasOfBeds M_reason : Int32} {M_worths M_sight M_pad M_lies M_list M_yard M_last M_used M_sheets M_nights M_row M_bestRow M_image M_isKept : Nat → Int32}, 2 ^ mm = c + len → len < fuel → ModHR (M_beds, M_law, M_worths, M_sights, M_sight, M_signs, M_pad, M_lies, M_empty, M_list, M_waits, M_yard, M_last, M_used, M_sheets, M_nights, M_fleasOfGuests, M_fleasOfBeds, M_reason, M_row, M_bestRow, M_image, M_isKept) (n, k, q, w, sg, sb) → ModDR (M_beds, M_law, M_worths, M_sights, M_sight, M_signs, M_pad, M_lies, M_empty, M_list, M_waits, M_yard, M_last, M_used, M_sheets, M_nights, M_fleasOfGuests, M_fleasOfBeds, M_reason, M_row, M_bestRow, M_image, M_isKept) m d → ∃ x8 L_beds L_law L_worths L_sights L_sight L_signs L_pad L_lies L_empty L_list L_waits L_yard L_last L_used L_sheets L_nights L_fleasOfGuests L_fleasOfBeds L_reason L_row L_bestRow L_image L_isKept, (∀ kL : Int64 → Int32 → Int32 → Int32 → (Nat → Int32) → Int32 → (Nat → Int32) → Int32 → (Nat → Int32) → (Nat → Int32) → Int32 → (Nat → Int32) → Int32 → (Nat → Int32) → (Nat → Int32) → (Nat → Int32) → (Nat → Int32) → (Nat → Int32) → Int32 → Int32 → Int32 → (Nat → Int32) → (Nat → Int32) → (Nat → Int32) → (Nat → Int32) → Option (Int64 × ModS), f_X6_chance_L75 (nI b) (nI mm) (nI t) fuel (lN (sumN (fun h => pvA k w t b mm 0 1 h (runA k w d m 0 (openA n)).2) c)) (nI c) M_beds M_law M_worths M_sights M_sight M_signs M_pad M_lies M_empty M_list M_waits M_yard M_last M_used M_sheets M_nights M_fleasOfGuests M_fleasOfBeds M_reason M_row M_bestRow M_image M_isKept kL = kL (lN (sumN (fun h => pvA k w t b mm 0 1 h (runA k w d m 0 (openA n)).2) (2 ^ mm))) x8 L_beds L_law L_worths L_sights L_sight L_signs L_pad L_lies L_empty L_list L_waits L_yard L_last L_used L_sheets L_nights L_fleasOfGuests L_fleasOfBeds L_reason L_row L_bestRow L_image L_isKept) ∧ mP (L_beds, L_law, L_worths, L_sights, L_sight, L_signs, L_pad, L_lies, L_empty, L_list, L_waits, L_yard, L_last, L_used, L_sheets, L_nights, L_fleasOfGuests, L_fleasOfBeds, L_reason, L_row, L_bestRow, L_image, L_isKept) = mP (M_beds, M_law, M_worths, M_sights, M_sight, M_signs, M_pad, M_lies, M_empty, M_list, M_waits, M_yard, M_last, M_used, M_sheets, M_nights, M_fleasOfGuests, M_fleasOfBeds, M_reason, M_row, M_bestRow, M_image, M_isKept) := by
  have h28 : 2 ^ mm ≤ 2 ^ 8 := Nat.pow_le_pow_right (by omega) hmm
  obtain ⟨r1, r2⟩ := GO_run (kk := k) (w := w) (d := d) hn m 0
  intro len
  induction len with
  | zero =>
    intro c fuel M_beds M_law M_sights M_signs M_empty M_waits M_fleasOfGuests M_fleasOfBeds M_reason M_worths M_sight M_pad M_lies M_list M_yard M_last M_used M_sheets M_nights M_row M_bestRow M_image M_isKept h1 h3 hM hD
    obtain ⟨fuel, rfl⟩ : ∃ n, fuel = n + 1 := ⟨fuel - 1, by omega⟩
    refine ⟨nI c, M_beds, M_law, M_worths, M_sights, M_sight, M_signs, M_pad, M_lies, M_empty, M_list, M_waits, M_yard, M_last, M_used, M_sheets, M_nights, M_fleasOfGuests, M_fleasOfBeds, M_reason, M_row, M_bestRow, M_image, M_isKept, fun kL => ?_, rfl⟩
    rw [f_X6_chance_L75, b_sh9 mm (by omega), if_pos (by rw [n_le (by omega) (by omega)]; omega), show c = 2 ^ mm by omega]
  | succ len ih =>
    intro c fuel M_beds M_law M_sights M_signs M_empty M_waits M_fleasOfGuests M_fleasOfBeds M_reason M_worths M_sight M_pad M_lies M_list M_yard M_last M_used M_sheets M_nights M_row M_bestRow M_image M_isKept h1 h3 hM hD
    obtain ⟨fuel, rfl⟩ : ∃ n, fuel = n + 1 := ⟨fuel - 1, by omega⟩
    obtain ⟨t1, g1, g2, g3, -⟩ := m_goD hw hk hn hd hm hf hc (x4 := nI 0) hM hD
    rw [hr0] at g1
    have hM1 := mP_H g2 hM
    have hD1 := mP_D g2 hD
    obtain ⟨F, hF⟩ : ∃ F, FU = F := ⟨_, rfl⟩
    have hF2 : 20 < F := by rw [← hF, FU_eq]; omega
    obtain ⟨Q_beds, Q_law, Q_worths, Q_sights, Q_sight, Q_signs, Q_pad, Q_lies, Q_empty, Q_list, Q_waits, Q_yard, Q_last, Q_used, Q_sheets, Q_nights, Q_fleasOfGuests, Q_fleasOfBeds, Q_reason, Q_row, Q_bestRow, Q_image, Q_isKept⟩ := t1
    obtain ⟨own', L_beds, L_law, L_worths, L_sights, L_sight, L_signs, L_pad, L_lies, L_empty, L_list, L_waits, L_yard, L_last, L_used, L_sheets, L_nights, L_fleasOfGuests, L_fleasOfBeds, L_reason, L_row, L_bestRow, L_image, L_isKept, C', e1, e2, e3, e4, e5⟩ := lp112 hw hk hn (b := b) (c := c) hmm ht (by omega) mm 0 F 1 (runA k w d m 0 (openA n)).2 (by omega) (by omega) r1 (fun x hx => by have := r2 x hx; omega) hM1 g3
    rw [Nat.pow_zero, Nat.div_one] at e5
    have hM2 := mP_H e2 hM1
    have hD2 := mP_D e2 hD1
    have hli : L_lies b = cdM (C'.1 b) := e3.1 b hb
    obtain ⟨x8, N_beds, N_law, N_worths, N_sights, N_sight, N_signs, N_pad, N_lies, N_empty, N_list, N_waits, N_yard, N_last, N_used, N_sheets, N_nights, N_fleasOfGuests, N_fleasOfBeds, N_reason, N_row, N_bestRow, N_image, N_isKept, f1, f2⟩ := ih (c + 1) fuel (by omega) (by omega) hM2 hD2
    refine ⟨x8, N_beds, N_law, N_worths, N_sights, N_sight, N_signs, N_pad, N_lies, N_empty, N_list, N_waits, N_yard, N_last, N_used, N_sheets, N_nights, N_fleasOfGuests, N_fleasOfBeds, N_reason, N_row, N_bestRow, N_image, N_isKept, fun kL => ?_, f2.trans (e2.trans g2)⟩
    obtain rfl : M_signs = nI m := hD.1
    have hnb : ¬ (nI b < 0 ∨ 8 ≤ (nI b).toNatClampNeg) := by
      rw [n_lt0 (by omega), n_cl (by omega)]
      rintro (h | h)
      · exact h
      · omega
    have hs1 : sumN (fun h => pvA k w t b mm 0 1 h (runA k w d m 0 (openA n)).2) (c + 1) = sumN (fun h => pvA k w t b mm 0 1 h (runA k w d m 0 (openA n)).2) c + (if C'.1 b = none then 0 else own') := by
      rw [e5]
      rfl
    have f1' := f1 kL
    rw [hs1] at f1'
    rw [f_X6_chance_L75, b_sh9 mm (by omega), if_neg (by rw [n_le (by omega) (by omega)]; omega), g1, Option.bind_some]
    have hcd : cdP none = (-6 : Int32) := rfl
    dsimp only
    rw [hcd, gJ107, hF, e1, if_neg hnb, n_cl (by omega), hli, n_add]
    cases hs : C'.1 b with
    | none =>
      rw [hs] at f1'
      rw [if_pos rfl] at f1'
      rw [if_pos (show cdM none < 0 by decide), lN_add]
      exact f1'
    | some g =>
      have hg : g < 16 := by
        obtain ⟨sl, em, ya⟩ := C'
        exact e4.2.2.2.2.1 _ _ hs
      rw [hs, if_neg (fun z => by cases z)] at f1'
      rw [if_neg (show ¬ cdM (some g) < 0 by show ¬ nI g < 0; rw [n_lt0 (by omega)]; exact id), lN_add]
      exact f1'
