/-! the class's inn: opened, copied -/
def openA (n : Nat) : AIn := (fun _ => none, List.range n, [])
def K0 : AKn := (fun _ => 0, fun _ => 0, fun _ => 0, fun _ => none, 0, 0)
theorem openA_ok (n : Nat) : AOk n (openA n) := by
  refine ⟨List.nodup_range, fun b => ?_, fun b _ => rfl, fun h => absurd rfl h, fun b g h => (by cases h), fun g h => (by cases h), fun b b' g h => (by cases h), fun b g h => (by cases h), List.nodup_nil⟩
  simp only [openA, List.mem_range, and_true]
theorem openA_go (n : Nat) : GO (openA n) := by
  intro x hx
  rcases hx with ⟨b, h⟩ | h
  · cases h
  · cases h
theorem lp_open37 (P : Option InnS → Prop) (kL : Int32 → (Nat → Int32) → (Nat → Int32) → (Nat → Int32) → (Nat → Int32) → (Nat → Int32) → Option InnS) (hk : ∀ S N U H L : Nat → Int32, (∀ i, i < 8 → S i = -1) → (∀ i, i < 8 → N i = nI 0) → (∀ i, i < 8 → U i = nI 0) → (∀ i, i < 8 → H i = nI 0) → (∀ i, i < 8 → L i = -1) → P (kL (nI 8) S N U H L)) :
    ∀ (d j fuel : Nat) (S N U H L : Nat → Int32), 8 = j + d → d < fuel → (∀ i, i < j → S i = -1) → (∀ i, i < j → N i = nI 0) → (∀ i, i < j → U i = nI 0) → (∀ i, i < j → H i = nI 0) → (∀ i, i < j → L i = -1) → P (f_X3_open_L37 fuel (nI j) S N U H L kL) := by
  have up : ∀ (j : Nat) (F : Nat → Int32) (v : Int32), (∀ i, i < j → F i = v) → ∀ i, i < j + 1 → upd F j v i = v := by
    intro j F v h i hi
    simp only [upd]
    by_cases e : i = j
    · rw [if_pos e]
    · rw [if_neg e]; exact h i (by omega)
  intro d
  induction d with
  | zero =>
    intro j fuel S N U H L h1 h3 p1 p2 p3 p4 p5
    obtain ⟨fuel, rfl⟩ : ∃ n, fuel = n + 1 := ⟨fuel - 1, by omega⟩
    have hj : j = 8 := by omega
    subst hj
    rw [f_X3_open_L37]
    simp (disch := omega) only [n_lt, n_le, n_eq, n_lt0, n_ge0, n_eq0, n_gt0, n_le0, n_cl, n_add, n_sub, n_mul, n_m1, n_m6, m1_lt, m6_lt, m1_ge, m6_ge, m1_eq, m6_eq0, m1_eq0, c_leT, c_leF, c_ltT, c_ltF, c_eqF, false_or, or_false, or_self, if_true, if_false, ite_true, ite_false, Option.bind_some, not_true_eq_false, not_false_eq_true, reduceIte]
    exact hk S N U H L p1 p2 p3 p4 p5
  | succ d ih =>
    intro j fuel S N U H L h1 h3 p1 p2 p3 p4 p5
    obtain ⟨fuel, rfl⟩ : ∃ n, fuel = n + 1 := ⟨fuel - 1, by omega⟩
    rw [f_X3_open_L37]
    simp (disch := omega) only [n_lt, n_le, n_eq, n_lt0, n_ge0, n_eq0, n_gt0, n_le0, n_cl, n_add, n_sub, n_mul, n_m1, n_m6, m1_lt, m6_lt, m1_ge, m6_ge, m1_eq, m6_eq0, m1_eq0, c_leT, c_leF, c_ltT, c_ltF, c_eqF, false_or, or_false, or_self, if_true, if_false, ite_true, ite_false, Option.bind_some, not_true_eq_false, not_false_eq_true, reduceIte]
    exact ih (j + 1) fuel _ _ _ _ _ (by omega) (by omega) (up j S _ p1) (up j N _ p2) (up j U _ p3) (up j H _ p4) (up j L _ p5)
theorem lp_open86 {n kk : Nat} (hn : n ≤ 8) : ∀ (d j fuel : Nat) {I_law I_there I_empties I_waiting I_guestsWithFleas I_bedsWithFleas I_isCounting : Int32} {I_sleepers I_empty I_yard I_nights I_used I_sheets I_lastOnes : Nat → Int32}, n = j + d → d < fuel → InR kk (fun _ => none, List.range j, []) (I_law, I_there, I_sleepers, I_empty, I_empties, I_yard, I_waiting, I_nights, I_used, I_sheets, I_lastOnes, I_guestsWithFleas, I_bedsWithFleas, I_isCounting) → KnR K0 (I_law, I_there, I_sleepers, I_empty, I_empties, I_yard, I_waiting, I_nights, I_used, I_sheets, I_lastOnes, I_guestsWithFleas, I_bedsWithFleas, I_isCounting) → ∃ t', f_X3_open_L86 (nI n) fuel (nI j) I_law I_there I_sleepers I_empty I_empties I_yard I_waiting I_nights I_used I_sheets I_lastOnes I_guestsWithFleas I_bedsWithFleas I_isCounting (fun _ a1 a2 a3 a4 a5 a6 a7 a8 a9 a10 a11 a12 a13 a14 => some (a1, a2, a3, a4, a5, a6, a7, a8, a9, a10, a11, a12, a13, a14)) = some t' ∧ InR kk (openA n) t' ∧ KnR K0 t' := by
  intro d
  induction d with
  | zero =>
    intro j fuel I_law I_there I_empties I_waiting I_guestsWithFleas I_bedsWithFleas I_isCounting I_sleepers I_empty I_yard I_nights I_used I_sheets I_lastOnes h1 h3 h hK
    obtain ⟨fuel, rfl⟩ : ∃ n, fuel = n + 1 := ⟨fuel - 1, by omega⟩
    have hj : j = n := by omega
    subst hj
    rw [f_X3_open_L86]
    simp (disch := omega) only [n_lt, n_le, n_eq, n_lt0, n_ge0, n_eq0, n_gt0, n_le0, n_cl, n_add, n_sub, n_mul, n_m1, n_m6, m1_lt, m6_lt, m1_ge, m6_ge, m1_eq, m6_eq0, m1_eq0, c_leT, c_leF, c_ltT, c_ltF, c_eqF, false_or, or_false, or_self, if_true, if_false, ite_true, ite_false, Option.bind_some, not_true_eq_false, not_false_eq_true, reduceIte]
    exact ⟨_, rfl, h, hK⟩
  | succ d ih =>
    intro j fuel I_law I_there I_empties I_waiting I_guestsWithFleas I_bedsWithFleas I_isCounting I_sleepers I_empty I_yard I_nights I_used I_sheets I_lastOnes h1 h3 h hK
    obtain ⟨fuel, rfl⟩ : ∃ n, fuel = n + 1 := ⟨fuel - 1, by omega⟩
    rw [f_X3_open_L86]
    obtain ⟨rfl, ⟨tm, htm, rfl, hth⟩, hsl, rfl, hem, rfl, hya⟩ := h
    simp only [List.length_range] at hem ⊢
    simp (disch := omega) only [n_le, c_leF, if_false, n_add, f_leaveEmpty (show j < 8 by omega) (show j < 8 by omega) rfl, Option.bind_some]
    refine ih (j + 1) fuel (by omega) (by omega) ⟨rfl, ⟨tm, htm, rfl, hth⟩, fun b hb => ?_, by simp, fun i hi => ?_, rfl, fun i hi => by simp at hi⟩ hK
    · simp only [upd]
      split
      · rfl
      · exact hsl b hb
    · simp only [List.length_range] at hi
      simp only [upd]
      by_cases e : i = j
      · rw [if_pos e, e]
        simp
      · rw [if_neg e, hem i (by omega)]
        simp only [List.getD_eq_getElem?_getD]
        rw [List.getElem?_range (by omega), List.getElem?_range (by omega)]
theorem f_open {n k q : Nat} {w sg sb : Nat → Nat} {tH : HouS} (hH : HouR tH (n, k, q, w, sg, sb)) (hn : n ≤ 8) (kk : Nat) (t : InnS) : ∃ t', f_X3_open (nI kk) tH t = some t' ∧ InR kk (openA n) t' ∧ KnR K0 t' := by
  obtain ⟨I_law, I_there, I_sleepers, I_empty, I_empties, I_yard, I_waiting, I_nights, I_used, I_sheets, I_lastOnes, I_guestsWithFleas, I_bedsWithFleas, I_isCounting⟩ := t
  obtain ⟨H_beds, H_law, H_sights, H_isKept, H_worths, H_sightGuests, H_sightBeds⟩ := tH
  obtain ⟨rfl, rfl, rfl, hW, hSG, hSB⟩ := hH
  rw [f_X3_open]
  refine lp_open37 (fun o => ∃ t', o = some t' ∧ InR kk (openA n) t' ∧ KnR K0 t') _ (fun S N U H L p1 p2 p3 p4 p5 => ?_) 8 0 FU _ _ _ _ _ (by omega) (by rw [FU_eq]; omega) (fun i hi => absurd hi (by omega)) (fun i hi => absurd hi (by omega)) (fun i hi => absurd hi (by omega)) (fun i hi => absurd hi (by omega)) (fun i hi => absurd hi (by omega))
  refine lp_open86 hn n 0 FU (by omega) (by rw [FU_eq]; omega) ⟨rfl, ⟨0, by omega, rfl, fun g hg => ?_⟩, p1, rfl, fun i hi => by simp at hi, rfl, fun i hi => by simp at hi⟩ ⟨p2, p3, p4, p5, rfl, rfl, rfl, fun b g h => (by cases h), by omega, by omega⟩
  simp only [Nat.zero_testBit, presA]
  constructor
  · intro h; cases h
  · rintro (⟨b, h⟩ | h)
    · cases h
    · cases h
theorem cpy_at {f g : Nat → Int32} {n z i : Nat} (hz : (nI z).toNatClampNeg = n) (hi : i < n) : va_cpy f g 0 0 (nI z).toNatClampNeg i = f i := by
  rw [hz]
  simp only [va_cpy]
  rw [if_pos (by omega)]
  congr 1
  omega
theorem f_standAs {n kk : Nat} {C : AIn} {t u : InnS} (hC : AOk n C) (hn : n ≤ 8) (h : InR kk C u) : ∃ t', f_X3_standAs t u = some t' ∧ InR kk C t' := by
  have h1 := em_le hC
  have h2 := ya_le hC
  obtain ⟨I_law, I_there, I_sleepers, I_empty, I_empties, I_yard, I_waiting, I_nights, I_used, I_sheets, I_lastOnes, I_guestsWithFleas, I_bedsWithFleas, I_isCounting⟩ := t
  obtain ⟨J_law, J_there, J_sleepers, J_empty, J_empties, J_yard, J_waiting, J_nights, J_used, J_sheets, J_lastOnes, J_guestsWithFleas, J_bedsWithFleas, J_isCounting⟩ := u
  obtain ⟨rfl, ⟨tm, htm, rfl, hth⟩, hsl, rfl, hem, rfl, hya⟩ := h
  rw [f_X3_standAs]
  refine ⟨_, rfl, rfl, ⟨tm, htm, rfl, hth⟩, fun b hb => ?_, rfl, fun i hi => ?_, rfl, fun i hi => ?_⟩
  · rw [cpy_at (n_cl (by omega)) hb]; exact hsl b hb
  · rw [cpy_at (n_cl (by omega)) (by omega)]; exact hem i hi
  · rw [cpy_at (n_cl (by omega)) (by omega)]; exact hya i hi
