/-! the reference's parties: one order -/
def comesA (k : Nat) (w : Nat → Nat) : AIn → List Nat → AIn
  | C, [] => C
  | C, g :: r => comesA k w (cmA k w g C) r
def sumB (w : Nat → Nat) (C : AIn) : List Nat → Nat
  | [] => 0
  | g :: r => wvA w g (bedA C.1 g) + sumB w C r
theorem bedA_come {n k g g' : Nat} {w : Nat → Nat} {C : AIn} (hC : AOk n C) (hne : g ≠ g') : bedA (cmA k w g' C).1 g = bedA C.1 g := by
  obtain ⟨sl, em, ya⟩ := C
  unfold cmA
  simp only [comeA]
  by_cases he : em = []
  · rw [if_pos he]
  · rw [if_neg he]
    have hlt := chA_lt k (wA w g') em he
    have hb0 : em.getD (chA k (wA w g') em) 0 ∈ em := by
      rw [List.getD_eq_getElem?_getD, List.getElem?_eq_getElem hlt]
      exact List.getElem_mem hlt
    have hs := ((hC.2.1 _).mp hb0).2
    unfold bedA
    congr 1
    funext b
    refine decide_eq_decide.mpr ?_
    show (if b = em.getD (chA k (wA w g') em) 0 then some g' else sl b) = some g ↔ sl b = some g
    by_cases e : b = em.getD (chA k (wA w g') em) 0
    · rw [if_pos e, e, hs]
      exact ⟨fun z => absurd (by cases z; rfl) hne, fun z => by cases z⟩
    · rw [if_neg e]
theorem comes_ok {n k : Nat} {w : Nat → Nat} : ∀ (r : List Nat) (C : AIn), AOk n C → r.Nodup → (∀ g, g ∈ r → g < 8 ∧ ¬ presA C g) → AOk n (comesA k w C r) ∧ (∀ g, g ∉ r → bedA (comesA k w C r).1 g = bedA C.1 g)
  | [], C, h, _, _ => ⟨h, fun g _ => rfl⟩
  | a :: r, C, h, hn, hr => by
    simp only [comesA]
    obtain ⟨ha1, ha2⟩ := hr a (by simp)
    have hn2 := List.nodup_cons.mp hn
    have hC1 : AOk n (cmA k w a C) := comeA_ok h (by omega) ha2 (fun e => chA_lt k (wA w a) _ e)
    obtain ⟨i1, i2⟩ := comes_ok (k := k) (w := w) r (cmA k w a C) hC1 hn2.2 (fun g hg => ⟨(hr g (by simp [hg])).1, fun hp => by
      rcases (comeA_pres h (fun e => chA_lt k (wA w a) _ e) g).mp hp with e | e
      · exact hn2.1 (e ▸ hg)
      · exact (hr g (by simp [hg])).2 e⟩)
    refine ⟨i1, fun g hg => ?_⟩
    simp only [List.mem_cons, not_or] at hg
    rw [i2 g hg.2, bedA_come h hg.1]
theorem sumB_eq {n k : Nat} {w : Nat → Nat} : ∀ (r : List Nat) (C : AIn), AOk n C → r.Nodup → (∀ g, g ∈ r → g < 8 ∧ ¬ presA C g) → sumB w (comesA k w C r) r = sumW k w C r
  | [], _, _, _, _ => rfl
  | a :: r, C, h, hn, hr => by
    simp only [comesA, sumB, sumW]
    obtain ⟨ha1, ha2⟩ := hr a (by simp)
    have hn2 := List.nodup_cons.mp hn
    have hC1 : AOk n (cmA k w a C) := comeA_ok h (by omega) ha2 (fun e => chA_lt k (wA w a) _ e)
    have hr1 : ∀ g, g ∈ r → g < 8 ∧ ¬ presA (cmA k w a C) g := fun g hg => ⟨(hr g (by simp [hg])).1, fun hp => by
      rcases (comeA_pres h (fun e => chA_lt k (wA w a) _ e) g).mp hp with e | e
      · exact hn2.1 (e ▸ hg)
      · exact (hr g (by simp [hg])).2 e⟩
    rw [sumB_eq r (cmA k w a C) hC1 hn2.2 hr1, (comes_ok (k := k) (w := w) r (cmA k w a C) hC1 hn2.2 hr1).2 a hn2.1]
theorem sumW_le {k : Nat} {w : Nat → Nat} (hw : ∀ j, w j ≤ 99) : ∀ (r : List Nat) (C : AIn), sumW k w C r ≤ 99 * r.length
  | [], _ => Nat.zero_le _
  | a :: r, C => by
    have h1 := wv_le hw a (bedA (cmA k w a C).1 a)
    have h2 := sumW_le (k := k) hw r (cmA k w a C)
    simp only [sumW, List.length_cons]
    omega
theorem drop_cons {r : List Nat} {j : Nat} (h : j < r.length) : r.drop j = r.getD j 0 :: r.drop (j + 1) := by
  rw [List.drop_eq_getElem_cons h, List.getD_eq_getElem?_getD, List.getElem?_eq_getElem h]
  rfl
theorem lp147 {n k q : Nat} {w sg sb : Nat → Nat} (hw : ∀ j, w j ≤ 99) (hk : k < 4) (hn : n ≤ 8) {r : List Nat} (hr6 : r.length ≤ 6) : ∀ (c j fuel : Nat) (C : AIn) {M_beds M_law M_sights M_signs M_empty M_waits M_fleasOfGuests M_fleasOfBeds M_reason : Int32} {M_worths M_sight M_pad M_lies M_list M_yard M_last M_used M_sheets M_nights M_row M_bestRow M_image M_isKept : Nat → Int32}, r.length = j + c → c < fuel → AOk n C → (r.drop j).Nodup → (∀ g, g ∈ r.drop j → g < 8 ∧ ¬ presA C g) → ModHR (M_beds, M_law, M_worths, M_sights, M_sight, M_signs, M_pad, M_lies, M_empty, M_list, M_waits, M_yard, M_last, M_used, M_sheets, M_nights, M_fleasOfGuests, M_fleasOfBeds, M_reason, M_row, M_bestRow, M_image, M_isKept) (n, k, q, w, sg, sb) → MoR C (M_beds, M_law, M_worths, M_sights, M_sight, M_signs, M_pad, M_lies, M_empty, M_list, M_waits, M_yard, M_last, M_used, M_sheets, M_nights, M_fleasOfGuests, M_fleasOfBeds, M_reason, M_row, M_bestRow, M_image, M_isKept) → (∀ i, i < r.length → M_row i = nI (r.getD i 0)) → ∃ L_beds L_law L_worths L_sights L_sight L_signs L_pad L_lies L_empty L_list L_waits L_yard L_last L_used L_sheets L_nights L_fleasOfGuests L_fleasOfBeds L_reason L_row L_bestRow L_image L_isKept, (∀ kL : Int32 → Int32 → Int32 → (Nat → Int32) → Int32 → (Nat → Int32) → Int32 → (Nat → Int32) → (Nat → Int32) → Int32 → (Nat → Int32) → Int32 → (Nat → Int32) → (Nat → Int32) → (Nat → Int32) → (Nat → Int32) → (Nat → Int32) → Int32 → Int32 → Int32 → (Nat → Int32) → (Nat → Int32) → (Nat → Int32) → (Nat → Int32) → Option (Int32 × ModS), f_X6_party_L147 (nI r.length) fuel (nI j) M_beds M_law M_worths M_sights M_sight M_signs M_pad M_lies M_empty M_list M_waits M_yard M_last M_used M_sheets M_nights M_fleasOfGuests M_fleasOfBeds M_reason M_row M_bestRow M_image M_isKept kL = kL (nI r.length) L_beds L_law L_worths L_sights L_sight L_signs L_pad L_lies L_empty L_list L_waits L_yard L_last L_used L_sheets L_nights L_fleasOfGuests L_fleasOfBeds L_reason L_row L_bestRow L_image L_isKept) ∧ mP (L_beds, L_law, L_worths, L_sights, L_sight, L_signs, L_pad, L_lies, L_empty, L_list, L_waits, L_yard, L_last, L_used, L_sheets, L_nights, L_fleasOfGuests, L_fleasOfBeds, L_reason, L_row, L_bestRow, L_image, L_isKept) = mP (M_beds, M_law, M_worths, M_sights, M_sight, M_signs, M_pad, M_lies, M_empty, M_list, M_waits, M_yard, M_last, M_used, M_sheets, M_nights, M_fleasOfGuests, M_fleasOfBeds, M_reason, M_row, M_bestRow, M_image, M_isKept) ∧ MoR (comesA k w C (r.drop j)) (L_beds, L_law, L_worths, L_sights, L_sight, L_signs, L_pad, L_lies, L_empty, L_list, L_waits, L_yard, L_last, L_used, L_sheets, L_nights, L_fleasOfGuests, L_fleasOfBeds, L_reason, L_row, L_bestRow, L_image, L_isKept) := by
  intro c
  induction c with
  | zero =>
    intro j fuel C M_beds M_law M_sights M_signs M_empty M_waits M_fleasOfGuests M_fleasOfBeds M_reason M_worths M_sight M_pad M_lies M_list M_yard M_last M_used M_sheets M_nights M_row M_bestRow M_image M_isKept h1 h3 hC hnd hno hM ho hrow
    obtain ⟨fuel, rfl⟩ : ∃ n, fuel = n + 1 := ⟨fuel - 1, by omega⟩
    have hd : r.drop j = [] := List.drop_eq_nil_of_le (by omega)
    rw [hd]
    refine ⟨M_beds, M_law, M_worths, M_sights, M_sight, M_signs, M_pad, M_lies, M_empty, M_list, M_waits, M_yard, M_last, M_used, M_sheets, M_nights, M_fleasOfGuests, M_fleasOfBeds, M_reason, M_row, M_bestRow, M_image, M_isKept, fun kL => ?_, rfl, ho⟩
    rw [f_X6_party_L147, if_pos (by rw [n_le (by omega) (by omega)]; omega), show j = r.length by omega]
  | succ c ih =>
    intro j fuel C M_beds M_law M_sights M_signs M_empty M_waits M_fleasOfGuests M_fleasOfBeds M_reason M_worths M_sight M_pad M_lies M_list M_yard M_last M_used M_sheets M_nights M_row M_bestRow M_image M_isKept h1 h3 hC hnd hno hM ho hrow
    obtain ⟨fuel, rfl⟩ : ∃ n, fuel = n + 1 := ⟨fuel - 1, by omega⟩
    have hj : j < r.length := by omega
    have hdc := drop_cons hj
    rw [hdc] at hnd hno
    have hnd2 := List.nodup_cons.mp hnd
    obtain ⟨g1, g2⟩ := hno (r.getD j 0) (by simp)
    obtain ⟨t1, m1, m2, m3, m4, -⟩ := m_comeIn hM hw hk hn hC ho (g := r.getD j 0) (by omega) g2
    have hM' := mP_H m2 hM
    have hrw := (mQ_of m2).2.2
    have hC1 : AOk n (cmA k w (r.getD j 0) C) := comeA_ok hC (by omega) g2 (fun e => chA_lt k (wA w (r.getD j 0)) _ e)
    obtain ⟨Q_beds, Q_law, Q_worths, Q_sights, Q_sight, Q_signs, Q_pad, Q_lies, Q_empty, Q_list, Q_waits, Q_yard, Q_last, Q_used, Q_sheets, Q_nights, Q_fleasOfGuests, Q_fleasOfBeds, Q_reason, Q_row, Q_bestRow, Q_image, Q_isKept⟩ := t1
    have hrw2 : Q_row = M_row := hrw
    have hnb : ¬ (nI j < 0 ∨ 8 ≤ (nI j).toNatClampNeg) := by
      rw [n_lt0 (by omega), n_cl (by omega)]
      rintro (h | h)
      · exact h
      · omega
    rw [hdc]
    simp only [comesA]
    have hrow' : ∀ i, i < r.length → Q_row i = nI (r.getD i 0) := fun i hi => by rw [hrw2]; exact hrow i hi
    obtain ⟨L_beds, L_law, L_worths, L_sights, L_sight, L_signs, L_pad, L_lies, L_empty, L_list, L_waits, L_yard, L_last, L_used, L_sheets, L_nights, L_fleasOfGuests, L_fleasOfBeds, L_reason, L_row, L_bestRow, L_image, L_isKept, e1, e2, e3⟩ := ih (j + 1) fuel (cmA k w (r.getD j 0) C) (by omega) (by omega) hC1 hnd2.2 (fun g hg => ⟨(hno g (by simp [hg])).1, fun hp => by
      rcases (comeA_pres hC (fun e => chA_lt k (wA w (r.getD j 0)) _ e) g).mp hp with e | e
      · exact hnd2.1 (e ▸ hg)
      · exact (hno g (by simp [hg])).2 e⟩) hM' m4 hrow'
    refine ⟨L_beds, L_law, L_worths, L_sights, L_sight, L_signs, L_pad, L_lies, L_empty, L_list, L_waits, L_yard, L_last, L_used, L_sheets, L_nights, L_fleasOfGuests, L_fleasOfBeds, L_reason, L_row, L_bestRow, L_image, L_isKept, fun kL => ?_, e2.trans m2, e3⟩
    rw [f_X6_party_L147, if_neg (by rw [n_le (by omega) (by omega)]; omega), if_neg hnb, n_cl (by omega), hrow j hj, m1]
    simp only [Option.bind_some, n_add]
    exact e1 kL
theorem lp187 {n k q : Nat} {w sg sb : Nat → Nat} (hn : n ≤ 8) {r : List Nat} (hr6 : r.length ≤ 6) (h8 : ∀ g, g ∈ r → g < 8) {C : AIn} (hC : AOk n C) {M_beds M_law M_sights M_signs M_empty M_waits M_fleasOfGuests M_fleasOfBeds M_reason : Int32} {M_worths M_sight M_pad M_lies M_list M_yard M_last M_used M_sheets M_nights M_row M_bestRow M_image M_isKept : Nat → Int32} (hM : ModHR (M_beds, M_law, M_worths, M_sights, M_sight, M_signs, M_pad, M_lies, M_empty, M_list, M_waits, M_yard, M_last, M_used, M_sheets, M_nights, M_fleasOfGuests, M_fleasOfBeds, M_reason, M_row, M_bestRow, M_image, M_isKept) (n, k, q, w, sg, sb)) (ho : MoR C (M_beds, M_law, M_worths, M_sights, M_sight, M_signs, M_pad, M_lies, M_empty, M_list, M_waits, M_yard, M_last, M_used, M_sheets, M_nights, M_fleasOfGuests, M_fleasOfBeds, M_reason, M_row, M_bestRow, M_image, M_isKept)) (hrow : ∀ i, i < r.length → M_row i = nI (r.getD i 0)) (kL : Int32 → Int32 → Option (Int32 × ModS)) : ∀ (c j a fuel : Nat), r.length = j + c → c < fuel → f_X6_party_L187 (nI r.length) M_beds M_law M_worths M_sights M_sight M_signs M_pad M_lies M_empty M_list M_waits M_yard M_last M_used M_sheets M_nights M_fleasOfGuests M_fleasOfBeds M_reason M_row M_bestRow M_image M_isKept fuel (nI a) (nI j) kL = kL (nI (a + sumB w C (r.drop j))) (nI r.length) := by
  intro c
  induction c with
  | zero =>
    intro j a fuel h1 h3
    obtain ⟨fuel, rfl⟩ : ∃ n, fuel = n + 1 := ⟨fuel - 1, by omega⟩
    rw [f_X6_party_L187, if_pos (by rw [n_le (by omega) (by omega)]; omega)]
    have hd : r.drop j = [] := List.drop_eq_nil_of_le (by omega)
    rw [hd, show j = r.length by omega]
    rfl
  | succ c ih =>
    intro j a fuel h1 h3
    obtain ⟨fuel, rfl⟩ : ∃ n, fuel = n + 1 := ⟨fuel - 1, by omega⟩
    have hj : j < r.length := by omega
    have hdc := drop_cons hj
    have hg8 : r.getD j 0 < 8 := h8 _ (by
      rw [List.getD_eq_getElem?_getD, List.getElem?_eq_getElem hj]
      exact List.getElem_mem hj)
    have e4 := m_bedOf hM hn hC ho (g := r.getD j 0) (by omega)
    have hW : ∀ j, j < 64 → M_worths j = nI (w j) := hM.2.2.2.1
    have hnb : ¬ (nI j < 0 ∨ 8 ≤ (nI j).toNatClampNeg) := by
      rw [n_lt0 (by omega), n_cl (by omega)]
      rintro (h | h)
      · exact h
      · omega
    rw [f_X6_party_L187, if_neg (by rw [n_le (by omega) (by omega)]; omega), if_neg hnb, n_cl (by omega), hrow j hj, e4, hdc]
    simp only [Option.bind_some, sumB, n_add]
    generalize hob : bedA C.1 (r.getD j 0) = o
    cases o with
    | none =>
      rw [if_neg (show ¬ 0 ≤ cdM none by decide)]
      simp only [wvA, Nat.zero_add, Nat.add_zero]
      exact ih (j + 1) a fuel (by omega) (by omega)
    | some b =>
      have hb := (bedA_some hob).2
      rw [if_pos (show 0 ≤ cdM (some b) by show 0 ≤ nI b; rw [n_ge0 (by omega)]; trivial)]
      simp only [cdM, wvA, n_mul, n_add]
      have hnb2 : ¬ (nI (8 * r.getD j 0 + b) < 0 ∨ 64 ≤ (nI (8 * r.getD j 0 + b)).toNatClampNeg) := by
        rw [n_lt0 (by omega), n_cl (by omega)]
        rintro (h | h)
        · exact h
        · omega
      have hnb3 : ¬ (nI j < 0 ∨ 8 ≤ j) := by
        rw [n_lt0 (by omega)]
        rintro (h | h)
        · exact h
        · omega
      rw [if_neg hnb3, if_neg hnb2, n_cl (by omega), hW _ (by omega), n_add]
      have e := ih (j + 1) (a + w (8 * r.getD j 0 + b)) fuel (by omega) (by omega)
      rw [Nat.add_assoc] at e
      exact e
theorem lp248 {r : List Nat} (hr6 : r.length ≤ 6) {Y : Nat → Int32} (hrow : ∀ i, i < r.length → Y i = nI (r.getD i 0)) {x9 x6 : Int32} (hlt : ¬ x9 ≤ x6) : ∀ (c j fuel : Nat) (B : Nat → Int32), r.length = j + c → c < fuel → (∀ i, i < j → B i = nI (r.getD i 0)) → ∃ B', (∀ kL : Int32 → (Nat → Int32) → Option (Int32 × ModS), f_X6_party_L248 x9 x6 (nI r.length) Y fuel (nI j) B kL = kL (nI r.length) B') ∧ ∀ i, i < r.length → B' i = nI (r.getD i 0) := by
  intro c
  induction c with
  | zero =>
    intro j fuel B h1 h3 hB
    obtain ⟨fuel, rfl⟩ : ∃ n, fuel = n + 1 := ⟨fuel - 1, by omega⟩
    refine ⟨B, fun kL => ?_, fun i hi => hB i (by omega)⟩
    rw [f_X6_party_L248, if_pos (by rw [n_le (by omega) (by omega)]; omega), show j = r.length by omega]
  | succ c ih =>
    intro j fuel B h1 h3 hB
    obtain ⟨fuel, rfl⟩ : ∃ n, fuel = n + 1 := ⟨fuel - 1, by omega⟩
    have hnb : ¬ (nI j < 0 ∨ 8 ≤ (nI j).toNatClampNeg) := by
      rw [n_lt0 (by omega), n_cl (by omega)]
      rintro (h | h)
      · exact h
      · omega
    obtain ⟨B', g1, g2⟩ := ih (j + 1) fuel (upd B j (nI (r.getD j 0))) (by omega) (by omega) (fun i hi => by
      simp only [upd]
      by_cases e : i = j
      · rw [if_pos e, e]
      · rw [if_neg e]
        exact hB i (by omega))
    refine ⟨B', fun kL => ?_, g2⟩
    rw [f_X6_party_L248, if_neg (by rw [n_le (by omega) (by omega)]; omega), if_neg hlt, if_neg hnb, if_neg hnb, n_cl (by omega), hrow j (by omega), n_add]
    exact g1 kL
theorem lp248n {n : Nat} (hn1 : 1 ≤ n) (hn : n ≤ 6) {Y : Nat → Int32} {x9 x6 : Int32} (hle : x9 ≤ x6) (kL : Int32 → (Nat → Int32) → Option (Int32 × ModS)) {fuel : Nat} (hf : 0 < fuel) (B : Nat → Int32) : f_X6_party_L248 x9 x6 (nI n) Y fuel (nI 0) B kL = kL (nI 0) B := by
  obtain ⟨fuel, rfl⟩ : ∃ n, fuel = n + 1 := ⟨fuel - 1, by omega⟩
  rw [f_X6_party_L248, if_neg (by rw [n_le (by omega) (by omega)]; omega), if_pos hle]
