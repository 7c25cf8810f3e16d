/-! the reference's inn: who comes, who goes, a night -/
theorem m_take {b : Nat} (hb : b < 8) (c : Int32) {M_beds M_law M_sights M_signs M_empty M_waits M_fleasOfGuests M_fleasOfBeds M_reason : Int32} {M_worths M_sight M_pad M_lies M_list M_yard M_last M_used M_sheets M_nights M_row M_bestRow M_image M_isKept : Nat → Int32} : f_X6_take (nI b) c (M_beds, M_law, M_worths, M_sights, M_sight, M_signs, M_pad, M_lies, M_empty, M_list, M_waits, M_yard, M_last, M_used, M_sheets, M_nights, M_fleasOfGuests, M_fleasOfBeds, M_reason, M_row, M_bestRow, M_image, M_isKept) = some (M_beds, M_law, M_worths, M_sights, M_sight, M_signs, M_pad, upd M_lies b c, M_empty, M_list, M_waits, M_yard, upd M_last b c, upd M_used b (M_used b + nI 1), upd M_sheets b (M_sheets b + nI (if M_last b = c then 0 else 1)), M_nights, M_fleasOfGuests, M_fleasOfBeds, M_reason, M_row, M_bestRow, M_image, M_isKept) := by
  rw [f_X6_take]
  unfold gJn
  by_cases h : M_last b = c
  · simp (disch := omega) only [n_lt, n_le, n_eq, n_lt0, n_ge0, n_eq0, n_gt0, n_le0, n_cl, n_add, n_sub, n_mul, n_m1, n_m6, m1_lt, m6_lt, m1_ge, m6_ge, m1_eq, m6_eq0, m1_eq0, c_leT, c_leF, c_ltT, c_ltF, c_eqF, false_or, or_false, or_self, if_true, if_false, ite_true, ite_false, Option.bind_some, not_true_eq_false, not_false_eq_true, reduceIte, h]
  · simp (disch := omega) only [n_lt, n_le, n_eq, n_lt0, n_ge0, n_eq0, n_gt0, n_le0, n_cl, n_add, n_sub, n_mul, n_m1, n_m6, m1_lt, m6_lt, m1_ge, m6_ge, m1_eq, m6_eq0, m1_eq0, c_leT, c_leF, c_ltT, c_ltF, c_eqF, false_or, or_false, or_self, if_true, if_false, ite_true, ite_false, Option.bind_some, not_true_eq_false, not_false_eq_true, reduceIte, h]
theorem upd_cdM {sl : Nat → Option Nat} {S : Nat → Int32} (h : ∀ b, b < 8 → S b = cdM (sl b)) (b0 : Nat) {o : Option Nat} {c : Int32} (hc : c = cdM o) : ∀ b, b < 8 → upd S b0 c b = cdM (upO sl b0 o b) := by
  intro b hb
  simp only [upd, upO]
  by_cases e : b = b0
  · rw [if_pos e, if_pos e, hc]
  · rw [if_neg e, if_neg e, h b hb]
theorem mn_take {K : AKn} {b g : Nat} (hb : b < 8) (hg : g < 16) {M_beds M_law M_sights M_signs M_empty M_waits M_fleasOfGuests M_fleasOfBeds M_reason : Int32} {M_worths M_sight M_pad M_lies M_list M_yard M_last M_used M_sheets M_nights M_row M_bestRow M_image M_isKept : Nat → Int32} {li ls ya : Nat → Int32} {e w : Int32} (h : MnR K (M_beds, M_law, M_worths, M_sights, M_sight, M_signs, M_pad, M_lies, M_empty, M_list, M_waits, M_yard, M_last, M_used, M_sheets, M_nights, M_fleasOfGuests, M_fleasOfBeds, M_reason, M_row, M_bestRow, M_image, M_isKept)) : MnR (takeK b g K) (M_beds, M_law, M_worths, M_sights, M_sight, M_signs, M_pad, li, e, ls, w, ya, upd M_last b (nI g), upd M_used b (M_used b + nI 1), upd M_sheets b (M_sheets b + nI (if M_last b = nI g then 0 else 1)), M_nights, M_fleasOfGuests, M_fleasOfBeds, M_reason, M_row, M_bestRow, M_image, M_isKept) := by
  obtain ⟨ni, us, sh, la, gf, bf⟩ := K
  obtain ⟨k1, k2, k3, k4, k8⟩ := h
  have hl := cdM_inj (fun x hx => k8 b x hx) hg (o := la b)
  rw [← k4 b hb] at hl
  refine ⟨k1, upd_n k2 hb, ?_, upd_cdM k4 b rfl, fun b' x hx => ?_⟩
  · by_cases e : la b = some g
    · rw [if_pos e, if_pos (hl.mpr e), upd_same (by rw [k3 b hb, n_add]; rfl)]
      exact k3
    · rw [if_neg e, if_neg (fun z => e (hl.mp z))]; exact upd_n k3 hb
  · simp only [upO] at hx
    split at hx
    · cases hx; exact hg
    · exact k8 b' x hx
theorem m_worthTo {n k q : Nat} {w sg sb : Nat → Nat} {t : ModS} (hM : ModHR t (n, k, q, w, sg, sb)) {g b : Nat} (hg : g < 16) (hb : b < 8) : f_X6_worthTo (nI g) (nI b) t = some (nI (wA w g b)) := by
  obtain ⟨M_beds, M_law, M_worths, M_sights, M_sight, M_signs, M_pad, M_lies, M_empty, M_list, M_waits, M_yard, M_last, M_used, M_sheets, M_nights, M_fleasOfGuests, M_fleasOfBeds, M_reason, M_row, M_bestRow, M_image, M_isKept⟩ := t
  obtain ⟨rfl, rfl, rfl, hW, hSI⟩ := hM
  rw [f_X6_worthTo]
  unfold wA
  by_cases h : g < 8
  · simp (disch := omega) only [n_lt, n_le, n_eq, n_lt0, n_ge0, n_eq0, n_gt0, n_le0, n_cl, n_add, n_sub, n_mul, n_m1, n_m6, m1_lt, m6_lt, m1_ge, m6_ge, m1_eq, m6_eq0, m1_eq0, c_leT, c_leF, c_ltT, c_ltF, c_eqF, false_or, or_false, or_self, if_true, if_false, ite_true, ite_false, Option.bind_some, not_true_eq_false, not_false_eq_true, reduceIte, h]
    rw [hW _ (by omega)]
  · simp (disch := omega) only [n_lt, n_le, n_eq, n_lt0, n_ge0, n_eq0, n_gt0, n_le0, n_cl, n_add, n_sub, n_mul, n_m1, n_m6, m1_lt, m6_lt, m1_ge, m6_ge, m1_eq, m6_eq0, m1_eq0, c_leT, c_leF, c_ltT, c_ltF, c_eqF, false_or, or_false, or_self, if_true, if_false, ite_true, ite_false, Option.bind_some, not_true_eq_false, not_false_eq_true, reduceIte, h]
theorem lp_chosen {n k q : Nat} {w sg sb : Nat → Nat} {M_beds M_law M_sights M_signs M_empty M_waits M_fleasOfGuests M_fleasOfBeds M_reason : Int32} {M_worths M_sight M_pad M_lies M_list M_yard M_last M_used M_sheets M_nights M_row M_bestRow M_image M_isKept : Nat → Int32} (hM : ModHR (M_beds, M_law, M_worths, M_sights, M_sight, M_signs, M_pad, M_lies, M_empty, M_list, M_waits, M_yard, M_last, M_used, M_sheets, M_nights, M_fleasOfGuests, M_fleasOfBeds, M_reason, M_row, M_bestRow, M_image, M_isKept) (n, k, q, w, sg, sb)) (hw : ∀ j, w j ≤ 99) (hk : k < 4) (h2 : 2 ≤ k) {g : Nat} (hg : g < 16) {em : List Nat} (hlen : em.length ≤ 8) (he : M_empty = nI em.length) (hE : ∀ i, i < em.length → M_list i = nI (em.getD i 0)) (hs : ∀ i, i < em.length → em.getD i 0 < 8) (B : Nat → Nat → Bool) (hB : ∀ i j, B i j = if k = 2 then decide (em.getD i 0 < em.getD j 0) else decide (wA w g (em.getD j 0) ≤ wA w g (em.getD i 0))) (kL : Int32 → Int32 → Option Int32) : ∀ (d j fuel : Nat), em.length = j + d → 1 ≤ j → d < fuel → f_X6_chosen_L20 (nI g) M_beds M_law M_worths M_sights M_sight M_signs M_pad M_lies M_empty M_list M_waits M_yard M_last M_used M_sheets M_nights M_fleasOfGuests M_fleasOfBeds M_reason M_row M_bestRow M_image M_isKept fuel (nI (pickA B j)) (nI j) kL = kL (nI (pickA B em.length)) (nI em.length) := by
  obtain rfl : M_law = nI k := hM.2.1
  subst he
  intro d
  induction d with
  | zero =>
    intro j fuel h1 h2' h3
    obtain ⟨fuel, rfl⟩ : ∃ n, fuel = n + 1 := ⟨fuel - 1, by omega⟩
    have hj : em.length = j := by omega
    rw [f_X6_chosen_L20, hj]
    simp (disch := omega) only [n_lt, n_le, n_eq, n_lt0, n_ge0, n_eq0, n_gt0, n_le0, n_cl, n_add, n_sub, n_mul, n_m1, n_m6, m1_lt, m6_lt, m1_ge, m6_ge, m1_eq, m6_eq0, m1_eq0, c_leT, c_leF, c_ltT, c_ltF, c_eqF, false_or, or_false, or_self, if_true, if_false, ite_true, ite_false, Option.bind_some, not_true_eq_false, not_false_eq_true, reduceIte]
  | succ d ih =>
    intro j fuel h1 h2' h3
    obtain ⟨fuel, rfl⟩ : ∃ n, fuel = n + 1 := ⟨fuel - 1, by omega⟩
    have hp := pickA_lt B j (by omega)
    have e1 := hE _ (show pickA B j < em.length by omega)
    have e2 := hE j (by omega)
    have s1 := hs _ (show pickA B j < em.length by omega)
    have s2 := hs j (by omega)
    have ih' := ih (j + 1) fuel (by omega) (by omega) (by omega)
    simp only [pickA, if_neg (show ¬ j = 0 by omega)] at ih'
    have hBj := hB j (pickA B j)
    rw [f_X6_chosen_L20]
    unfold gJn
    generalize pickA B j = q2 at *
    have w1 := wA_le hw g (em.getD q2 0)
    have w2 := wA_le hw g (em.getD j 0)
    have wt1 := m_worthTo hM hg s1
    have wt2 := m_worthTo hM hg s2
    simp (disch := omega) only [n_le, n_eq, c_leF, if_false, n_add]
    rcases (show k = 2 ∨ k = 3 by omega) with rfl | rfl
    · simp (disch := omega) only [n_lt, n_le, n_eq, n_lt0, n_ge0, n_eq0, n_gt0, n_le0, n_cl, n_add, n_sub, n_mul, n_m1, n_m6, m1_lt, m6_lt, m1_ge, m6_ge, m1_eq, m6_eq0, m1_eq0, c_leT, c_leF, c_ltT, c_ltF, c_eqF, false_or, or_false, or_self, if_true, if_false, ite_true, ite_false, Option.bind_some, not_true_eq_false, not_false_eq_true, reduceIte, e1, e2]
      rw [if_pos rfl] at hBj
      by_cases hc : em.getD q2 0 ≤ em.getD j 0
      · rw [if_pos hc]
        rw [hBj, if_neg (by rw [decide_eq_true_eq]; omega)] at ih'
        exact ih'
      · rw [if_neg hc]
        rw [hBj, if_pos (by rw [decide_eq_true_eq]; omega)] at ih'
        exact ih'
    · simp (disch := omega) only [n_lt, n_le, n_eq, n_lt0, n_ge0, n_eq0, n_gt0, n_le0, n_cl, n_add, n_sub, n_mul, n_m1, n_m6, m1_lt, m6_lt, m1_ge, m6_ge, m1_eq, m6_eq0, m1_eq0, c_leT, c_leF, c_ltT, c_ltF, c_eqF, false_or, or_false, or_self, if_true, if_false, ite_true, ite_false, Option.bind_some, not_true_eq_false, not_false_eq_true, reduceIte, e1, e2, wt1, wt2]
      rw [if_neg (by omega)] at hBj
      by_cases hc : wA w g (em.getD j 0) < wA w g (em.getD q2 0)
      · rw [if_pos hc]
        rw [hBj, if_neg (by rw [decide_eq_true_eq]; omega)] at ih'
        exact ih'
      · rw [if_neg hc]
        rw [hBj, if_pos (by rw [decide_eq_true_eq]; omega)] at ih'
        exact ih'
theorem m_chosen {n k q : Nat} {w sg sb : Nat → Nat} {t : ModS} (hM : ModHR t (n, k, q, w, sg, sb)) (hw : ∀ j, w j ≤ 99) (hk : k < 4) {g : Nat} (hg : g < 16) {C : AIn} (hC : AOk n C) (hn : n ≤ 8) (h : MoR C t) (hne : C.2.1 ≠ []) : f_X6_chosen (nI g) t = some (nI (chA k (wA w g) C.2.1)) := by
  have hel := em_le hC
  obtain ⟨M_beds, M_law, M_worths, M_sights, M_sight, M_signs, M_pad, M_lies, M_empty, M_list, M_waits, M_yard, M_last, M_used, M_sheets, M_nights, M_fleasOfGuests, M_fleasOfBeds, M_reason, M_row, M_bestRow, M_image, M_isKept⟩ := t
  obtain ⟨sl, em, ya⟩ := C
  obtain ⟨a1, a2, a3, a4, a5, a6, a7, a8, a9⟩ := hC
  have hM0 := hM
  obtain ⟨hl, rfl, hem, hwt, hya⟩ := h
  obtain ⟨hb, rfl, hsi, hW, hSI⟩ := hM
  simp only at hem hel hne ⊢
  have hs : ∀ i, i < em.length → em.getD i 0 < 8 := fun i hi => by
    have := ((a2 (em.getD i 0)).mp (by
      rw [List.getD_eq_getElem?_getD, List.getElem?_eq_getElem hi]
      exact List.getElem_mem hi)).1
    omega
  have hp : 0 < em.length := List.length_pos_iff.mpr hne
  obtain ⟨fu, hfu⟩ : ∃ m, FU = m + 1 := ⟨1999, FU_eq⟩
  rw [f_X6_chosen]
  unfold gJn
  simp only [chA]
  rcases (show k = 0 ∨ k = 1 ∨ 2 ≤ k by omega) with rfl | rfl | h2
  · rw [if_pos rfl, if_pos (show nI 0 = 0 from rfl), hfu, f_X6_chosen_L20, n_sub (by omega)]
    by_cases h1 : nI em.length ≤ nI 1
    · rw [if_pos h1]
    · rw [if_neg h1, if_pos (by rw [n_le (by omega) (by omega)]; omega)]
  · rw [if_neg (show ¬ (1 : Nat) = 0 by omega), if_pos rfl, if_neg (show ¬ nI 1 = 0 by decide), hfu, f_X6_chosen_L20]
    by_cases h1 : nI em.length ≤ nI 1
    · rw [if_pos h1]
    · rw [if_neg h1, if_pos (by rw [n_le (by omega) (by omega)]; omega)]
  · have e := lp_chosen hM0 hw hk h2 hg (em := em) (by omega) rfl hem hs (fun i j => if k = 2 then decide (em.getD i 0 < em.getD j 0) else decide (wA w g (em.getD j 0) ≤ wA w g (em.getD i 0))) (fun i j => rfl) (fun x1 x2 => some x1) (em.length - 1) 1 FU (by omega) (by omega) (by rw [FU_eq]; omega)
    rw [if_neg (by rw [n_eq0 (by omega)]; omega)]
    have e0 : pickA (fun i j => if k = 2 then decide (em.getD i 0 < em.getD j 0) else decide (wA w g (em.getD j 0) ≤ wA w g (em.getD i 0))) 1 = 0 := rfl
    rw [e0] at e
    rw [e, if_neg (by omega), if_neg (by omega)]
    by_cases h3 : k = 2
    · rw [if_pos h3]; simp only [if_pos h3]
    · rw [if_neg h3]; simp only [if_neg h3]
theorem m_comeIn {n k q : Nat} {w sg sb : Nat → Nat} {t : ModS} (hM : ModHR t (n, k, q, w, sg, sb)) (hw : ∀ j, w j ≤ 99) (hk : k < 4) (hn : n ≤ 8) {g : Nat} {C : AIn} (hC : AOk n C) (h : MoR C t) (hg : g < 16) (hp : ¬ presA C g) :
    ∃ t', f_X6_comeIn (nI g) t = some t' ∧ mP t' = mP t ∧ mF t' = mF t ∧ MoR (comeA (chA k (wA w g) C.2.1) g C) t' ∧ ∀ K, MnR K t → MnR (comeK (chA k (wA w g) C.2.1) g C K) t' := by
  have hyl := ya_lt hC hg hp
  have hel := em_le hC
  have hch0 := m_chosen hM hw hk hg hC hn h
  obtain ⟨M_beds, M_law, M_worths, M_sights, M_sight, M_signs, M_pad, M_lies, M_empty, M_list, M_waits, M_yard, M_last, M_used, M_sheets, M_nights, M_fleasOfGuests, M_fleasOfBeds, M_reason, M_row, M_bestRow, M_image, M_isKept⟩ := t
  obtain ⟨sl, em, ya⟩ := C
  obtain ⟨a1, a2, a3, a4, a5, a6, a7, a8, a9⟩ := hC
  obtain ⟨hl, rfl, hem, rfl, hya⟩ := h
  simp only at hem hya hl hyl hel hch0 ⊢
  rw [f_X6_comeIn]
  by_cases he : em = []
  · subst he
    simp (disch := omega) only [n_lt, n_le, n_eq, n_lt0, n_ge0, n_eq0, n_gt0, n_le0, n_cl, n_add, n_sub, n_mul, n_m1, n_m6, m1_lt, m6_lt, m1_ge, m6_ge, m1_eq, m6_eq0, m1_eq0, c_leT, c_leF, c_ltT, c_ltF, c_eqF, false_or, or_false, or_self, if_true, if_false, ite_true, ite_false, Option.bind_some, not_true_eq_false, not_false_eq_true, reduceIte, List.length_nil]
    refine ⟨_, rfl, by simp only [mP], by simp only [mF], ?_, fun K hK => ?_⟩
    · simp only [comeA, if_true]
      refine ⟨hl, rfl, fun i hi => by simp at hi, by simp, fun i hi => ?_⟩
      simp only [List.length_append, List.length_singleton] at hi
      simp only [upd]
      by_cases hie : i = ya.length
      · rw [if_pos hie, hie, List.getD_eq_getElem?_getD, List.getElem?_append_right (by omega)]
        simp
      · rw [if_neg hie, hya i (by omega), List.getD_eq_getElem?_getD, List.getD_eq_getElem?_getD, List.getElem?_append_left (by omega)]
    · simp only [comeK, if_true]
      obtain ⟨ni, us, sh, la, gf, bf⟩ := K
      obtain ⟨k1, k2, k3, k4, k8⟩ := hK
      exact ⟨k1, k2, k3, k4, k8⟩
  · have hlp : 0 < em.length := List.length_pos_iff.mpr he
    have hch := chA_lt k (wA w g) em he
    have hbe : em.getD (chA k (wA w g) em) 0 < n := by
      refine ((a2 _).mp ?_).1
      rw [List.getD_eq_getElem?_getD, List.getElem?_eq_getElem hch]
      exact List.getElem_mem hch
    rw [hch0 he]
    generalize chA k (wA w g) em = c at *
    simp (disch := omega) only [n_lt, n_le, n_eq, n_lt0, n_ge0, n_eq0, n_gt0, n_le0, n_cl, n_add, n_sub, n_mul, n_m1, n_m6, m1_lt, m6_lt, m1_ge, m6_ge, m1_eq, m6_eq0, m1_eq0, c_leT, c_leF, c_ltT, c_ltF, c_eqF, false_or, or_false, or_self, if_true, if_false, ite_true, ite_false, Option.bind_some, not_true_eq_false, not_false_eq_true, reduceIte]
    have e5 := lp_comeIn54 (len := em.length) (p := c) (by omega) M_list
    have e6 := shY_0 M_list c (c + 1) (by omega)
    have e7 := fun kL => e5 kL (em.length - (c + 1)) c FU (by omega) (by omega) (by rw [FU_eq]; omega)
    rw [e6] at e7
    rw [e7, hem c hch]
    simp only [m_take (show em.getD c 0 < 8 by omega), Option.bind_some]
    refine ⟨_, rfl, by simp only [mP], by simp only [mF], ?_, fun K hK => ?_⟩
    · simp only [comeA, if_neg he]
      exact ⟨upd_cdM hl _ rfl, by simp only [List.length_eraseIdx_of_lt hch], shY_hold (f := nI) hem hch, rfl, hya⟩
    · simp only [comeK, if_neg he]
      exact mn_take (by omega) hg hK
theorem m_outOfYard {p len : Nat} (hp : p < len) (hlen : len ≤ 64) {M_beds M_law M_sights M_signs M_empty M_waits M_fleasOfGuests M_fleasOfBeds M_reason : Int32} {M_worths M_sight M_pad M_lies M_list M_yard M_last M_used M_sheets M_nights M_row M_bestRow M_image M_isKept : Nat → Int32} (hw : M_waits = nI len) : f_X6_outOfYard (nI p) (M_beds, M_law, M_worths, M_sights, M_sight, M_signs, M_pad, M_lies, M_empty, M_list, M_waits, M_yard, M_last, M_used, M_sheets, M_nights, M_fleasOfGuests, M_fleasOfBeds, M_reason, M_row, M_bestRow, M_image, M_isKept) = some (M_beds, M_law, M_worths, M_sights, M_sight, M_signs, M_pad, M_lies, M_empty, M_list, nI (len - 1), shY M_yard p len, M_last, M_used, M_sheets, M_nights, M_fleasOfGuests, M_fleasOfBeds, M_reason, M_row, M_bestRow, M_image, M_isKept) := by
  subst hw
  rw [f_X6_outOfYard, n_sub (by omega)]
  have e := lp_outOfYard (len := len) (p := p) (by omega) M_yard
  have e7 := fun kL => e kL (len - (p + 1)) p FU (by omega) (by omega) (by rw [FU_eq]; omega)
  rw [shY_0 M_yard p (p + 1) (by omega)] at e7
  rw [e7]
theorem m_goOut {n k q : Nat} {w sg sb : Nat → Nat} {t : ModS} (hM : ModHR t (n, k, q, w, sg, sb)) (hn : n ≤ 8) {C : AIn} (hC : AOk n C) (h : MoR C t) {g : Nat} (hg : g < 16) (hp : presA C g) : ∃ t', f_X6_goOut (nI g) t = some t' ∧ mP t' = mP t ∧ mF t' = mF t ∧ MoR (goA g C) t' ∧ ∀ K, MnR K t → MnR (goK g C K) t' := by
  have hyle := ya_le hC
  have hel := em_le hC
  have hbed := m_bedOf hM hn hC h hg
  have hpn := pres_none hC hn hp
  obtain ⟨M_beds, M_law, M_worths, M_sights, M_sight, M_signs, M_pad, M_lies, M_empty, M_list, M_waits, M_yard, M_last, M_used, M_sheets, M_nights, M_fleasOfGuests, M_fleasOfBeds, M_reason, M_row, M_bestRow, M_image, M_isKept⟩ := t
  obtain ⟨sl, em, ya⟩ := C
  obtain ⟨a1, a2, a3, a4, a5, a6, a7, a8, a9⟩ := hC
  obtain ⟨hl, rfl, hem, rfl, hya⟩ := h
  simp only at hem hya hl hyle hel hbed hpn ⊢
  rw [f_X6_goOut, hbed]
  unfold goA goK
  simp only
  rcases (show bedA sl g = none ∨ ∃ b, bedA sl g = some b by cases bedA sl g <;> simp) with hq | ⟨b, hq⟩
  · simp only [hq, cdM, Option.bind_some, m6_ge, if_false]
    obtain ⟨h1, h2⟩ := hpn hq
    obtain ⟨p, p1, p2, p3, p4⟩ := yard_place h1
    have hlt : ∀ i, i < ya.length → ya.getD i 0 < 16 := fun i hi => a6 _ (by
      rw [List.getD_eq_getElem?_getD, List.getElem?_eq_getElem hi]
      exact List.getElem_mem hi)
    rw [lp_goOut (p := p) (nI g) (by omega) M_yard (by rw [hya p p1, p2]) (fun i hi e => by
      rw [hya i (by omega)] at e
      have := hlt i (by omega)
      exact p3 i hi ((nI_eq (by omega) (by omega)).mp e)) _ p 0 FU (by omega) (by rw [FU_eq]; omega)]
    rw [m_outOfYard p1 (by omega) rfl]
    simp only [Option.bind_some]
    refine ⟨_, rfl, by simp only [mP], by simp only [mF], ⟨hl, rfl, hem, ?_, ?_⟩, fun K hK => by
      obtain ⟨ni, us, sh, la, gf, bf⟩ := K
      obtain ⟨k1, k2, k3, k4, k8⟩ := hK
      exact ⟨k1, k2, k3, k4, k8⟩⟩
    · simp only [leaveA, p4, List.length_eraseIdx_of_lt p1]
    · simp only [leaveA, p4]
      exact shY_hold (f := nI) hya p1
  · obtain ⟨h1, h2⟩ := bedA_some hq
    have hbn : b < n := by
      rcases Nat.lt_or_ge b n with h | h
      · exact h
      · have := a3 b h; rw [this] at h1; cases h1
    simp (disch := omega) only [hq, cdM, Option.bind_some, n_ge0, if_true]
    cases ya with
    | nil =>
      have hnb : b ∉ em := fun e => by have := ((a2 b).mp e).2; rw [this] at h1; cases h1
      have hlt : em.length < 8 := by
        have h1 := nodup_le n (b :: em) (List.nodup_cons.mpr ⟨hnb, a1⟩) (fun x hx => by
          rcases List.mem_cons.mp hx with e | e
          · omega
          · exact ((a2 x).mp e).1)
        have h2 : (b :: em).length = em.length + 1 := rfl
        omega
      simp (disch := omega) only [n_lt, n_le, n_eq, n_lt0, n_ge0, n_eq0, n_gt0, n_le0, n_cl, n_add, n_sub, n_mul, n_m1, n_m6, m1_lt, m6_lt, m1_ge, m6_ge, m1_eq, m6_eq0, m1_eq0, c_leT, c_leF, c_ltT, c_ltF, c_eqF, false_or, or_false, or_self, if_true, if_false, ite_true, ite_false, Option.bind_some, not_true_eq_false, not_false_eq_true, reduceIte, List.length_nil]
      refine ⟨_, rfl, by simp only [mP], by simp only [mF], ⟨upd_cdM hl _ rfl, by simp [freeA], fun i hi => ?_, rfl, fun i hi => by simp [freeA] at hi⟩, fun K hK => by
      obtain ⟨ni, us, sh, la, gf, bf⟩ := K
      obtain ⟨k1, k2, k3, k4, k8⟩ := hK
      exact ⟨k1, k2, k3, k4, k8⟩⟩
      simp only [freeA, List.length_append, List.length_singleton] at hi ⊢
      simp only [upd]
      by_cases hie : i = em.length
      · rw [if_pos hie, hie, List.getD_eq_getElem?_getD, List.getElem?_append_right (by omega)]
        simp
      · rw [if_neg hie, hem i (by omega), List.getD_eq_getElem?_getD, List.getD_eq_getElem?_getD, List.getElem?_append_left (by omega)]
    | cons y ys =>
      simp only [List.length_cons] at hyle hya ⊢
      have e0 : (nI (ys.length + 1) ≤ 0) = False := by rw [n_le0 (by omega)]; exact eq_false (by omega)
      simp only [e0, if_false]
      have e1 : M_yard (nI 0).toNatClampNeg = nI y := by
        rw [n_cl (by omega)]
        exact hya 0 (by omega)
      rw [e1, m_outOfYard (p := 0) (len := ys.length + 1) (by omega) (by omega) rfl]
      simp only [Option.bind_some]
      rw [m_take (by omega)]
      refine ⟨_, rfl, by simp only [mP], by simp only [mF], ⟨upd_cdM hl _ rfl, rfl, hem, by simp [freeA], fun i hi => ?_⟩, fun K hK => ?_⟩
      · have h1 := shY_hold (f := nI) (l := y :: ys) (Y := M_yard) (fun i hi => hya i (by simpa using hi)) (p := 0) (by simp) i (by simpa [freeA] using hi)
        simpa [freeA] using h1
      · simp only [freeK]
        exact mn_take (by omega) (a6 y (by simp)) hK
