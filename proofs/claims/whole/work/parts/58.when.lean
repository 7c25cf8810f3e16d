/-! when, best -/
def barC (n k : Nat) (w d : Nat → Nat) (m : Nat) : Int32 := if barA n k w d m m = nI 0 then (if m = 48 then -4 else nI 0) else barA n k w d m m
theorem barC_c (n k : Nat) (w d : Nat → Nat) (m : Nat) : (barC n k w d m = nI 0 ∧ barA n k w d m m = nI 0 ∧ m ≠ 48) ∨ ((barC n k w d m = 0) = False ∧ (0 ≤ barC n k w d m) = False) := by
  unfold barC
  rcases barA_c n k w d m m with hb | ⟨hb, hb1, hb2⟩
  · rw [if_pos hb]
    by_cases h : m = 48
    · rw [if_pos h]
      exact Or.inr (by decide)
    · rw [if_neg h]
      exact Or.inl ⟨rfl, hb, h⟩
  · rw [if_neg hb]
    exact Or.inr ⟨hb1, hb2⟩
theorem f_refC {n k q : Nat} {w sg sb : Nat → Nat} {tH : HouS} (hH : HouR tH (n, k, q, w, sg, sb)) (hw : ∀ j, w j ≤ 99) (hn : n ≤ 8) (hk : k < 4) {tD : DayS} {m : Nat} {d : Nat → Nat} (hD : DayR tD m d) (tB : WbS) (t : InnS) {x : Int32} (hx : f_X5_isEither x = some (nI 1)) : ∃ t', f_X5_refusalOfComing x tB tH tD t = some (barC n k w d m, t') := by
  obtain ⟨t1, l1, l2⟩ := f_liveThrough hH hw hn hk hD tB t (x1 := -1) (ev := m) (by omega) (Or.inr ⟨rfl, rfl⟩)
  have hm := hD.2.1
  obtain ⟨H_beds, H_law, H_sights, H_isKept, H_worths, H_sightGuests, H_sightBeds⟩ := tH
  obtain ⟨len, S⟩ := tD
  obtain ⟨I_law, I_there, I_sleepers, I_empty, I_empties, I_yard, I_waiting, I_nights, I_used, I_sheets, I_lastOnes, I_guestsWithFleas, I_bedsWithFleas, I_isCounting⟩ := t
  obtain ⟨J_law, J_there, J_sleepers, J_empty, J_empties, J_yard, J_waiting, J_nights, J_used, J_sheets, J_lastOnes, J_guestsWithFleas, J_bedsWithFleas, J_isCounting⟩ := t1
  obtain rfl : len = nI m := hD.1
  rw [f_X5_refusalOfComing, hx]
  simp only [Option.bind_some, one0, if_false, l1, f_X0_isFull]
  unfold barC
  rcases barA_c n k w d m m with hb | ⟨hb, hb1, hb2⟩
  · obtain ⟨hz1, hz2⟩ := barA_z hb
    simp only [hz1, if_true, if_pos hb]
    by_cases h : m = 48
    · subst h
      rw [if_neg (show ¬ nI 48 < nI 48 by decide)]
      simp only [Option.bind_some, one0, if_false, if_true]
      exact ⟨_, rfl⟩
    · rw [if_pos (by rw [n_lt (by omega) (by omega)]; omega)]
      simp only [Option.bind_some, zer0, if_true, if_neg h]
      exact ⟨_, rfl⟩
  · simp only [hb1, if_false, if_neg hb]
    exact ⟨_, rfl⟩
theorem m_refC {n k q : Nat} {w sg sb : Nat → Nat} (hw : ∀ j, w j ≤ 99) (hk : k < 4) (hn : n ≤ 8) {m : Nat} {d : Nat → Nat} (hd : ∀ j, j < 48 → d j < 127) (hm : m ≤ 48) {t : ModS} (hM : ModHR t (n, k, q, w, sg, sb)) (hD : ModDR t m d) : ∃ t', f_X6_barOfComing t = some (barC n k w d m, t') ∧ mP t' = mP t := by
  obtain ⟨t2, c1, c2, c3⟩ := m_barOf hw hk hn hd (ev := m) (by omega) hm hM hD
  have hD2 := mP_D c2 hD
  obtain ⟨M_beds, M_law, M_worths, M_sights, M_sight, M_signs, M_pad, M_lies, M_empty, M_list, M_waits, M_yard, M_last, M_used, M_sheets, M_nights, M_fleasOfGuests, M_fleasOfBeds, M_reason, M_row, M_bestRow, M_image, M_isKept⟩ := t
  obtain ⟨L_beds, L_law, L_worths, L_sights, L_sight, L_signs, L_pad, L_lies, L_empty, L_list, L_waits, L_yard, L_last, L_used, L_sheets, L_nights, L_fleasOfGuests, L_fleasOfBeds, L_reason, L_row, L_bestRow, L_image, L_isKept⟩ := t2
  obtain rfl : M_signs = nI m := hD.1
  obtain rfl : L_signs = nI m := hD2.1
  rw [f_X6_barOfComing, c1]
  simp only [Option.bind_some]
  unfold barC
  rcases barA_c n k w d m m with hb | ⟨hb, hb1, hb2⟩
  · obtain ⟨hz1, hz2⟩ := barA_z hb
    simp only [hz2, if_true, if_pos hb]
    by_cases h : m = 48
    · subst h
      simp only [if_true]
      exact ⟨_, rfl, c2⟩
    · rw [if_neg (by rw [n_eq (by omega) (by omega)]; exact h)]
      simp only [if_neg h]
      exact ⟨_, rfl, c2⟩
  · simp only [hb2, if_false, if_neg hb]
    exact ⟨_, rfl, c2⟩
def whA (f : Nat → Bool) : Nat → Nat → Nat → Option Nat → Nat × Option Nat
  | 0, _, c, o => (c, o)
  | r + 1, p, c, o => if f p = true then whA f r (p + 1) (c + 1) (if c = 0 then some p else o) else whA f r (p + 1) c o
theorem f_comingAt {B : Nat → Int32} {p : Nat} (hp : p < 48) {o : Option Nat} (hB : B p = cdL o) : f_X5_bedComingAt (nI p) B = some (cdL o) := by
  rw [f_X5_bedComingAt]
  simp (disch := omega) only [n_lt, n_le, n_eq, n_lt0, n_ge0, n_eq0, n_gt0, n_le0, n_cl, n_add, n_sub, n_mul, n_m1, n_m6, m1_lt, m6_lt, m1_ge, m6_ge, m1_eq, m6_eq0, m1_eq0, c_leT, c_leF, c_ltT, c_ltF, c_eqF, false_or, or_false, or_self, if_true, if_false, ite_true, ite_false, Option.bind_some, not_true_eq_false, not_false_eq_true, reduceIte, hB]
theorem lp_fwhen {m b : Nat} (hm : m ≤ 47) (hb : b < 8) {B : Nat → Int32} {bw : Nat → Option Nat} (hB : ∀ i, i ≤ m → B i = cdL (bw i)) (h8 : ∀ i x, bw i = some x → x < 8) (kL : Int32 → Int32 → Int32 → Option (Int32 × WbS × InnS × InnS)) : ∀ (r p c fuel : Nat) (o : Option Nat), m + 1 = p + r → r < fuel → c ≤ p → (c = 0 → o = none) → f_X5_when_L58 (nI b) B (nI m) fuel (nI c) (cdP o) (nI p) kL = kL (nI (whA (fun i => decide (bw i = some b)) r p c o).1) (cdP (whA (fun i => decide (bw i = some b)) r p c o).2) (nI (m + 1)) := by
  intro r
  induction r with
  | zero =>
    intro p c fuel o h1 h3 hc ho
    obtain ⟨fuel, rfl⟩ : ∃ n, fuel = n + 1 := ⟨fuel - 1, by omega⟩
    rw [f_X5_when_L58, if_pos (by rw [n_lt (by omega) (by omega)]; omega), h1, Nat.add_zero]
    rfl
  | succ r ih =>
    intro p c fuel o h1 h3 hc ho
    obtain ⟨fuel, rfl⟩ : ∃ n, fuel = n + 1 := ⟨fuel - 1, by omega⟩
    have e1 := cdL_eq (h8 p) hb
    rw [f_X5_when_L58, if_neg (by rw [n_lt (by omega) (by omega)]; omega), f_comingAt (by omega) (hB p (by omega))]
    simp only [Option.bind_some, whA, decide_eq_true_eq, n_add]
    by_cases h : bw p = some b
    · rw [if_pos (e1.mpr h), if_pos h]
      by_cases hc0 : c = 0
      · rw [if_pos (by rw [n_eq0 (by omega)]; exact hc0), if_pos hc0]
        exact ih (p + 1) (c + 1) fuel (some p) (by omega) (by omega) (by omega) (fun h => absurd h (by omega))
      · rw [if_neg (by rw [n_eq0 (by omega)]; exact hc0), if_neg hc0]
        exact ih (p + 1) (c + 1) fuel o (by omega) (by omega) (by omega) (fun h => absurd h (by omega))
    · rw [if_neg (fun z => h (e1.mp z)), if_neg h]
      exact ih (p + 1) c fuel o (by omega) (by omega) (by omega) ho
theorem cdP_ge0 {o : Option Nat} (ho : ∀ p, o = some p → p < 2147483648) : (0 ≤ cdP o) = (o ≠ none) := by
  cases o with
  | none => exact propext ⟨fun h => absurd h (by decide), fun h => absurd rfl h⟩
  | some p =>
    simp only [cdP]
    rw [n_ge0 (ho p rfl)]
    exact propext ⟨fun _ => (by intro h; cases h), fun _ => trivial⟩
theorem lp_mwhen {n k q : Nat} {w sg sb : Nat → Nat} (hw : ∀ j, w j ≤ 99) (hk : k < 4) (hn : n ≤ 8) {m : Nat} {d : Nat → Nat} (hd : ∀ j, j < 48 → d j < 127) (hm : m ≤ 47) (hf : fA d m 0 0 = none) (hc : cntQ d m = 0) (hr : (runA k w d m 0 (openA n)).1 = none) {g b : Nat} (hg : g < 8) (hb : b < 8) (hnm : nmA d g m 0 = false) (x3 : Int32) : ∀ (r p c fuel : Nat) (o : Option Nat) {M_beds M_law M_sights M_signs M_empty M_waits M_fleasOfGuests M_fleasOfBeds M_reason : Int32} {M_worths M_sight M_pad M_lies M_list M_yard M_last M_used M_sheets M_nights M_row M_bestRow M_image M_isKept : Nat → Int32}, m + 1 = p + r → r < fuel → (c = 0 ↔ o = none) → c ≤ p → (∀ x, o = some x → x < 2147483648) → ModHR (M_beds, M_law, M_worths, M_sights, M_sight, M_signs, M_pad, M_lies, M_empty, M_list, M_waits, M_yard, M_last, M_used, M_sheets, M_nights, M_fleasOfGuests, M_fleasOfBeds, M_reason, M_row, M_bestRow, M_image, M_isKept) (n, k, q, w, sg, sb) → ModDR (M_beds, M_law, M_worths, M_sights, M_sight, M_signs, M_pad, M_lies, M_empty, M_list, M_waits, M_yard, M_last, M_used, M_sheets, M_nights, M_fleasOfGuests, M_fleasOfBeds, M_reason, M_row, M_bestRow, M_image, M_isKept) m d → ∃ t', f_X6_when_L61 (nI g) (nI b) fuel (nI c) (cdP o) (nI p) M_beds M_law M_worths M_sights M_sight M_signs M_pad M_lies M_empty M_list M_waits M_yard M_last M_used M_sheets M_nights M_fleasOfGuests M_fleasOfBeds M_reason M_row M_bestRow M_image M_isKept (fun x5_L61 x6_L61 x7_L61 M_beds M_law M_worths M_sights M_sight M_signs M_pad M_lies M_empty M_list M_waits M_yard M_last M_used M_sheets M_nights M_fleasOfGuests M_fleasOfBeds M_reason M_row M_bestRow M_image M_isKept => (if x3 = 0 then some (x5_L61, (M_beds, M_law, M_worths, M_sights, M_sight, M_signs, M_pad, M_lies, M_empty, M_list, M_waits, M_yard, M_last, M_used, M_sheets, M_nights, M_fleasOfGuests, M_fleasOfBeds, M_reason, M_row, M_bestRow, M_image, M_isKept)) else some (x6_L61, (M_beds, M_law, M_worths, M_sights, M_sight, M_signs, M_pad, M_lies, M_empty, M_list, M_waits, M_yard, M_last, M_used, M_sheets, M_nights, M_fleasOfGuests, M_fleasOfBeds, M_reason, M_row, M_bestRow, M_image, M_isKept)))) = some (if x3 = 0 then nI (whA (fun i => decide ((bedA (atC k w d n m g i).1 g) = some b)) r p c o).1 else cdP (whA (fun i => decide ((bedA (atC k w d n m g i).1 g) = some b)) r p c o).2, t') ∧ mP t' = mP (M_beds, M_law, M_worths, M_sights, M_sight, M_signs, M_pad, M_lies, M_empty, M_list, M_waits, M_yard, M_last, M_used, M_sheets, M_nights, M_fleasOfGuests, M_fleasOfBeds, M_reason, M_row, M_bestRow, M_image, M_isKept) := by
  intro r
  induction r with
  | zero =>
    intro p c fuel o M_beds M_law M_sights M_signs M_empty M_waits M_fleasOfGuests M_fleasOfBeds M_reason M_worths M_sight M_pad M_lies M_list M_yard M_last M_used M_sheets M_nights M_row M_bestRow M_image M_isKept h1 h3 hco hcp ho hM hD
    obtain ⟨fuel, rfl⟩ : ∃ n, fuel = n + 1 := ⟨fuel - 1, by omega⟩
    obtain rfl : M_signs = nI m := hD.1
    rw [f_X6_when_L61, if_pos (by rw [n_lt (by omega) (by omega)]; omega)]
    simp only [ite_some]
    exact ⟨_, rfl, by simp only [mP]⟩
  | succ r ih =>
    intro p c fuel o M_beds M_law M_sights M_signs M_empty M_waits M_fleasOfGuests M_fleasOfBeds M_reason M_worths M_sight M_pad M_lies M_list M_yard M_last M_used M_sheets M_nights M_row M_bestRow M_image M_isKept h1 h3 hco hcp ho hM hD
    obtain ⟨fuel, rfl⟩ : ∃ n, fuel = n + 1 := ⟨fuel - 1, by omega⟩
    obtain rfl : M_signs = nI m := hD.1
    obtain ⟨t1, e1, e2, e3⟩ := m_goAt hw hk hn hd (by omega) hf hc hr hg (show p ≤ m by omega) hnm hM hD
    obtain ⟨a1, a2, a3, a4, a5⟩ := at_facts hn hg (show p ≤ m by omega) hr hnm
    have hCc := comeA_ok a2 (show g < 16 by omega) a4 (fun e => chA_lt k (wA w g) _ e)
    have hat : AOk n (atC k w d n m g p) := runA_ok hn _ _ _ hCc
    have e4 := m_bedOf (mP_H e2 hM) hn hat e3 (g := g) (by omega)
    have hinj := cdM_inj (o := bedA (atC k w d n m g p).1 g) (g := b) (fun x hx => by have := (bedA_some hx).2; omega) (by omega)
    have hM2 := mP_H e2 hM
    have hD2 := mP_D e2 hD
    obtain ⟨L_beds, L_law, L_worths, L_sights, L_sight, L_signs, L_pad, L_lies, L_empty, L_list, L_waits, L_yard, L_last, L_used, L_sheets, L_nights, L_fleasOfGuests, L_fleasOfBeds, L_reason, L_row, L_bestRow, L_image, L_isKept⟩ := t1
    rw [f_X6_when_L61, if_neg (by rw [n_lt (by omega) (by omega)]; omega), e1]
    simp only [Option.bind_some, m6_ge, if_false, e4, whA, decide_eq_true_eq, n_add]
    by_cases h : bedA (atC k w d n m g p).1 g = some b
    · simp only [if_pos (hinj.mpr h), if_pos h, cdP_ge0 ho]
      by_cases hc0 : c = 0
      · have ho0 := hco.mp hc0
        rw [if_neg (fun z => z ho0)]
        simp only [if_pos hc0]
        obtain ⟨t', g1, g2⟩ := ih (p + 1) (c + 1) fuel (some p) (by omega) (by omega) ⟨fun h => absurd h (by omega), fun h => by cases h⟩ (by omega) (fun x hx => by cases hx; omega) hM2 hD2
        exact ⟨t', g1, g2.trans e2⟩
      · have ho0 : o ≠ none := fun z => hc0 (hco.mpr z)
        rw [if_pos ho0]
        simp only [if_neg hc0]
        obtain ⟨t', g1, g2⟩ := ih (p + 1) (c + 1) fuel o (by omega) (by omega) ⟨fun h => absurd h (by omega), fun h => absurd h ho0⟩ (by omega) ho hM2 hD2
        exact ⟨t', g1, g2.trans e2⟩
    · simp only [if_neg (fun z => h (hinj.mp z)), if_neg h]
      obtain ⟨t', g1, g2⟩ := ih (p + 1) c fuel o (by omega) (by omega) hco (by omega) ho hM2 hD2
      exact ⟨t', g1, g2.trans e2⟩
theorem op_when {tJ : InnS} (tB : WbS) (tP : ParS) (tQ : GueS) (tI : InnS) {tH tY tZ : HouS} {tD : DayS} {tT : List InnS} {tM : ModS} (hI : Inv tH tY tZ tD (tJ :: tT) tM) (x1 x2 x3 : Int32) : ∃ (r : Int32) (wB : WbS) (wI : InnS) (wJ : InnS) (wM : ModS), f_X5_when x1 x2 x3 tB tH tD tI tJ = some (r, wB, wI, wJ) ∧ f_X6_when x1 x2 x3 tM = some (r, wM) ∧ Inv tH tY tZ tD (wJ :: tT) wM := by
  obtain ⟨hl, n, k, q, w, sg, sb, m, d, ⟨hn2, hn, hk, hq, hw, hsg, hsb⟩, hH, hM, hD, hDM, hm, hd⟩ := inv_use hI
  have hbc := bed_c hH hM hn hn2 x2 tB
  have hnf := fun g hg => f_names hD (g := g) hg
  have hnm := fun g hg => m_isInDay hDM hm hd (g := g) hg
  have hrf := fun hx => f_refC hH hw hn hk hD tB tI (x := x3) hx
  obtain ⟨t2, c1, c2⟩ := m_refC hw hk hn hd hm hM hDM
  have hI2 : ∀ wJ, Inv tH tY tZ tD (wJ :: tT) t2 := fun wJ => inv_keepT hI c2 rfl
  have hM2 := mP_H c2 hM
  have hD2 := mP_D c2 hDM
  have hta := fun (h47 : m ≤ 47) hr g (hg : g < 8) hno t => f_tryAll hH hw hn hk hD h47 hr hg hno tB t tJ
  obtain ⟨H_beds, H_law, H_sights, H_isKept, H_worths, H_sightGuests, H_sightBeds⟩ := tH
  obtain ⟨len, S⟩ := tD
  obtain ⟨M_beds, M_law, M_worths, M_sights, M_sight, M_signs, M_pad, M_lies, M_empty, M_list, M_waits, M_yard, M_last, M_used, M_sheets, M_nights, M_fleasOfGuests, M_fleasOfBeds, M_reason, M_row, M_bestRow, M_image, M_isKept⟩ := tM
  obtain ⟨I_law, I_there, I_sleepers, I_empty, I_empties, I_yard, I_waiting, I_nights, I_used, I_sheets, I_lastOnes, I_guestsWithFleas, I_bedsWithFleas, I_isCounting⟩ := tI
  obtain ⟨J_law, J_there, J_sleepers, J_empty, J_empties, J_yard, J_waiting, J_nights, J_used, J_sheets, J_lastOnes, J_guestsWithFleas, J_bedsWithFleas, J_isCounting⟩ := tJ
  rw [f_X5_when, f_X6_when]
  obtain ⟨F, hF⟩ : ∃ F, FU = F := ⟨_, rfl⟩
  rw [hF]
  rcases guest_c x1 with ⟨g1, g2⟩ | ⟨g, hg, rfl, g1, g2⟩
  · simp only [g1, g2, Option.bind_some, one0, zer0, if_true, if_false]
    exact ⟨_, _, _, _, _, rfl, rfl, hI⟩
  rcases hbc with ⟨g3, g4⟩ | ⟨b, hb8, rfl, g3, g4⟩
  · simp only [g1, g2, g3, g4, Option.bind_some, one0, zer0, if_true, if_false]
    exact ⟨_, _, _, _, _, rfl, rfl, hI⟩
  simp only [g1, g2, g3, g4, hnf g hg, hnm g hg, Option.bind_some, one0, if_false]
  by_cases hno : nmA d g m 0 = true
  · simp only [if_pos hno, one0, if_false]
    exact ⟨_, _, _, _, _, rfl, rfl, hI⟩
  have hno2 : nmA d g m 0 = false := by simpa using hno
  simp only [if_neg hno, zer0, if_true]
  rcases either_c x3 with ⟨h4, h5⟩ | ⟨j, hj, hx3, h4, h5⟩
  · have e1 : f_X5_refusalOfComing x3 tB (H_beds, H_law, H_sights, H_isKept, H_worths, H_sightGuests, H_sightBeds) (len, S) (I_law, I_there, I_sleepers, I_empty, I_empties, I_yard, I_waiting, I_nights, I_used, I_sheets, I_lastOnes, I_guestsWithFleas, I_bedsWithFleas, I_isCounting) = some (-2, (I_law, I_there, I_sleepers, I_empty, I_empties, I_yard, I_waiting, I_nights, I_used, I_sheets, I_lastOnes, I_guestsWithFleas, I_bedsWithFleas, I_isCounting)) := by
      rw [f_X5_refusalOfComing, h4]
      rfl
    rw [e1, h5]
    exact ⟨_, _, _, _, _, rfl, rfl, hI⟩
  obtain ⟨t1, l1⟩ := hrf h4
  obtain ⟨Q_beds, Q_law, Q_worths, Q_sights, Q_sight, Q_signs, Q_pad, Q_lies, Q_empty, Q_list, Q_waits, Q_yard, Q_last, Q_used, Q_sheets, Q_nights, Q_fleasOfGuests, Q_fleasOfBeds, Q_reason, Q_row, Q_bestRow, Q_image, Q_isKept⟩ := t2
  obtain ⟨u1, u2, u3, u4, u5, u6, u7, u8, u9, u10, u11, u12, u13, u14⟩ := t1
  rw [l1, h5]
  simp only [Option.bind_some, one0, if_false, c1]
  rcases barC_c n k w d m with ⟨hb, hb1, hb2⟩ | ⟨hb1, hb2⟩
  · obtain ⟨b1, b2, b3⟩ := barA_0 hb1
    obtain ⟨B', t3, t4, f1, f2⟩ := hta (by omega) b3 g hg hno2 (u1, u2, u3, u4, u5, u6, u7, u8, u9, u10, u11, u12, u13, u14)
    obtain rfl : len = nI m := hD.1
    obtain ⟨v1, v2, v3, v4, v5, v6, v7, v8, v9, v10, v11, v12, v13, v14⟩ := t3
    obtain ⟨y1, y2, y3, y4, y5, y6, y7, y8, y9, y10, y11, y12, y13, y14⟩ := t4
    rw [hb]
    simp only [zer0, if_true, show (0 ≤ nI 0) = True from eq_true (by decide), f1, Option.bind_some]
    have hFm : m + 1 < F := by rw [← hF, FU_eq]; omega
    have e1 := lp_fwhen (by omega) (show b < 8 by omega) f2 (fun i x hx => (bedA_some hx).2) (fun x5_L58 x6_L58 x7_L58 => (if x3 = 0 then some (x5_L58, B', (v1, v2, v3, v4, v5, v6, v7, v8, v9, v10, v11, v12, v13, v14), (y1, y2, y3, y4, y5, y6, y7, y8, y9, y10, y11, y12, y13, y14)) else some (x6_L58, B', (v1, v2, v3, v4, v5, v6, v7, v8, v9, v10, v11, v12, v13, v14), (y1, y2, y3, y4, y5, y6, y7, y8, y9, y10, y11, y12, y13, y14)))) (m + 1) 0 0 F none (by omega) hFm (by omega) (fun _ => rfl)
    obtain ⟨t5, e2, e3⟩ := lp_mwhen hw hk hn hd (by omega) b1 b2 b3 hg (show b < 8 by omega) hno2 x3 (m + 1) 0 0 F none (by omega) hFm ⟨fun _ => rfl, fun _ => rfl⟩ (by omega) (fun x hx => by cases hx) hM2 hD2
    simp only [cdP] at e1 e2
    rw [e1, e2, ite_some]
    exact ⟨_, _, _, _, _, rfl, rfl, inv_keep (hI2 _) e3⟩
  · simp only [hb1, hb2, if_false]
    exact ⟨_, _, _, _, _, rfl, rfl, hI2 _⟩
def ownA (w : Nat → Nat) (g : Nat) : Option Nat → Int32
  | none => -1
  | some b => nI (w (8 * g + b))
def bsA (own : Nat → Int32) : Nat → Nat → Nat → Int32 → Nat × Int32
  | 0, _, b, l => (b, l)
  | r + 1, p, b, l => if own p ≤ l then bsA own r (p + 1) b l else bsA own r (p + 1) p (own p)
theorem f_worthComing {n k q : Nat} {w sg sb : Nat → Nat} {tH : HouS} (hH : HouR tH (n, k, q, w, sg, sb)) {g : Nat} (hg : g < 8) {B : WbS} {p : Nat} (hp : p < 48) {o : Option Nat} (h8 : ∀ x, o = some x → x < 8) (hB : B p = cdL o) : f_X5_worthComingAt (nI g) (nI p) B tH = some (ownA w g o) := by
  have hwo := fun b (hb : b < 8) => f_worthOf hH (g := g) (b := b) hb
  have hca := f_comingAt hp hB
  obtain ⟨H_beds, H_law, H_sights, H_isKept, H_worths, H_sightGuests, H_sightBeds⟩ := tH
  rw [f_X5_worthComingAt, hca]
  simp only [Option.bind_some]
  cases o with
  | none => rfl
  | some b =>
    have hb := h8 b rfl
    have h1 := hwo b hb
    rw [Nat.min_eq_left (by omega)] at h1
    have e2 : wA w g b = w (8 * g + b) := if_pos hg
    rw [e2] at h1
    have hne : ¬ cdL (some b) = -1 := by
      simp only [cdL]
      rw [n_m1 (by omega)]
      exact id
    rw [if_neg hne]
    show Option.bind (f_X2_worthOf (nI g) (nI b) (H_beds, H_law, H_sights, H_isKept, H_worths, H_sightGuests, H_sightBeds)) (fun r_21 => some r_21) = some (nI (w (8 * g + b)))
    rw [h1]
    rfl
theorem lp_fbest {n k q : Nat} {w sg sb : Nat → Nat} {H_beds H_law H_sights H_isKept : Int32} {H_worths H_sightGuests H_sightBeds : Nat → Int32} (hH : HouR (H_beds, H_law, H_sights, H_isKept, H_worths, H_sightGuests, H_sightBeds) (n, k, q, w, sg, sb)) {g m : Nat} (hg : g < 8) (hm : m ≤ 47) {B : WbS} {bw : Nat → Option Nat} (hB : ∀ i, i ≤ m → B i = cdL (bw i)) (h8 : ∀ i x, bw i = some x → x < 8) (kL : Int32 → Int32 → Int32 → Option (Int32 × WbS × InnS × InnS)) : ∀ (r p b fuel : Nat) (l : Int32), m + 1 = p + r → r < fuel → f_X5_best_L51 (nI g) B H_beds H_law H_sights H_isKept H_worths H_sightGuests H_sightBeds (nI m) fuel (nI b) l (nI p) kL = kL (nI (bsA (fun i => ownA w g (bw i)) r p b l).1) (bsA (fun i => ownA w g (bw i)) r p b l).2 (nI (m + 1)) := by
  intro r
  induction r with
  | zero =>
    intro p b fuel l h1 h3
    obtain ⟨fuel, rfl⟩ : ∃ n, fuel = n + 1 := ⟨fuel - 1, by omega⟩
    rw [f_X5_best_L51, if_pos (by rw [n_lt (by omega) (by omega)]; omega), h1, Nat.add_zero]
    rfl
  | succ r ih =>
    intro p b fuel l h1 h3
    obtain ⟨fuel, rfl⟩ : ∃ n, fuel = n + 1 := ⟨fuel - 1, by omega⟩
    rw [f_X5_best_L51, if_neg (by rw [n_lt (by omega) (by omega)]; omega), f_worthComing hH hg (by omega) (h8 p) (hB p (by omega))]
    simp only [Option.bind_some, bsA, n_add]
    by_cases h : ownA w g (bw p) ≤ l
    · rw [if_pos h, if_pos h]
      exact ih (p + 1) b fuel l (by omega) (by omega)
    · rw [if_neg h, if_neg h]
      exact ih (p + 1) p fuel _ (by omega) (by omega)
def gBs (g : Nat) (x2 : Int32) (fuel : Nat) (x4 x5 x6 : Int32) : ModS → Option (Int32 × ModS)
  | (M_beds, M_law, M_worths, M_sights, M_sight, M_signs, M_pad, M_lies, M_empty, M_list, M_waits, M_yard, M_last, M_used, M_sheets, M_nights, M_fleasOfGuests, M_fleasOfBeds, M_reason, M_row, M_bestRow, M_image, M_isKept) => f_X6_best_L51 (nI g) fuel x4 x5 x6 M_beds M_law M_worths M_sights M_sight M_signs M_pad M_lies M_empty M_list M_waits M_yard M_last M_used M_sheets M_nights M_fleasOfGuests M_fleasOfBeds M_reason M_row M_bestRow M_image M_isKept (fun x4_L51 x5_L51 x6_L51 M_beds M_law M_worths M_sights M_sight M_signs M_pad M_lies M_empty M_list M_waits M_yard M_last M_used M_sheets M_nights M_fleasOfGuests M_fleasOfBeds M_reason M_row M_bestRow M_image M_isKept => (if x2 = 0 then some (x4_L51, (M_beds, M_law, M_worths, M_sights, M_sight, M_signs, M_pad, M_lies, M_empty, M_list, M_waits, M_yard, M_last, M_used, M_sheets, M_nights, M_fleasOfGuests, M_fleasOfBeds, M_reason, M_row, M_bestRow, M_image, M_isKept)) else some (x5_L51, (M_beds, M_law, M_worths, M_sights, M_sight, M_signs, M_pad, M_lies, M_empty, M_list, M_waits, M_yard, M_last, M_used, M_sheets, M_nights, M_fleasOfGuests, M_fleasOfBeds, M_reason, M_row, M_bestRow, M_image, M_isKept))))
theorem gBs_def (g : Nat) (x2 : Int32) (fuel : Nat) (x4 x5 x6 : Int32) {M_beds M_law M_sights M_signs M_empty M_waits M_fleasOfGuests M_fleasOfBeds M_reason : Int32} {M_worths M_sight M_pad M_lies M_list M_yard M_last M_used M_sheets M_nights M_row M_bestRow M_image M_isKept : Nat → Int32} : gBs g x2 fuel x4 x5 x6 (M_beds, M_law, M_worths, M_sights, M_sight, M_signs, M_pad, M_lies, M_empty, M_list, M_waits, M_yard, M_last, M_used, M_sheets, M_nights, M_fleasOfGuests, M_fleasOfBeds, M_reason, M_row, M_bestRow, M_image, M_isKept) = f_X6_best_L51 (nI g) fuel x4 x5 x6 M_beds M_law M_worths M_sights M_sight M_signs M_pad M_lies M_empty M_list M_waits M_yard M_last M_used M_sheets M_nights M_fleasOfGuests M_fleasOfBeds M_reason M_row M_bestRow M_image M_isKept (fun x4_L51 x5_L51 x6_L51 M_beds M_law M_worths M_sights M_sight M_signs M_pad M_lies M_empty M_list M_waits M_yard M_last M_used M_sheets M_nights M_fleasOfGuests M_fleasOfBeds M_reason M_row M_bestRow M_image M_isKept => (if x2 = 0 then some (x4_L51, (M_beds, M_law, M_worths, M_sights, M_sight, M_signs, M_pad, M_lies, M_empty, M_list, M_waits, M_yard, M_last, M_used, M_sheets, M_nights, M_fleasOfGuests, M_fleasOfBeds, M_reason, M_row, M_bestRow, M_image, M_isKept)) else some (x5_L51, (M_beds, M_law, M_worths, M_sights, M_sight, M_signs, M_pad, M_lies, M_empty, M_list, M_waits, M_yard, M_last, M_used, M_sheets, M_nights, M_fleasOfGuests, M_fleasOfBeds, M_reason, M_row, M_bestRow, M_image, M_isKept)))) := rfl
theorem gBs_step {n k q : Nat} {w sg sb : Nat → Nat} (hw : ∀ j, w j ≤ 99) (hk : k < 4) (hn : n ≤ 8) {m : Nat} {d : Nat → Nat} (hd : ∀ j, j < 48 → d j < 127) (hm : m ≤ 47) (hf : fA d m 0 0 = none) (hc : cntQ d m = 0) (hr : (runA k w d m 0 (openA n)).1 = none) {g : Nat} (hg : g < 8) (hnm : nmA d g m 0 = false) (x2 x4 x5 : Int32) {p fuel : Nat} (hp : p ≤ m) {t : ModS} (hM : ModHR t (n, k, q, w, sg, sb)) (hD : ModDR t m d) : ∃ t', gBs g x2 (fuel + 1) x4 x5 (nI p) t = gBs g x2 fuel (if ownA w g (bedA (atC k w d n m g p).1 g) ≤ x5 then x4 else nI p) (if ownA w g (bedA (atC k w d n m g p).1 g) ≤ x5 then x5 else ownA w g (bedA (atC k w d n m g p).1 g)) (nI (p + 1)) t' ∧ mP t' = mP t := by
  obtain ⟨t1, e1, e2, e3⟩ := m_goAt hw hk hn hd (by omega) hf hc hr hg hp hnm hM hD
  obtain ⟨a1, a2, a3, a4, a5⟩ := at_facts hn hg hp hr hnm
  have hCc := comeA_ok a2 (show g < 16 by omega) a4 (fun e => chA_lt k (wA w g) _ e)
  have hat : AOk n (atC k w d n m g p) := runA_ok hn _ _ _ hCc
  have e4 := m_bedOf (mP_H e2 hM) hn hat e3 (g := g) (by omega)
  have hM2 := mP_H e2 hM
  refine ⟨t1, ?_, e2⟩
  obtain ⟨M_beds, M_law, M_worths, M_sights, M_sight, M_signs, M_pad, M_lies, M_empty, M_list, M_waits, M_yard, M_last, M_used, M_sheets, M_nights, M_fleasOfGuests, M_fleasOfBeds, M_reason, M_row, M_bestRow, M_image, M_isKept⟩ := t
  obtain ⟨L_beds, L_law, L_worths, L_sights, L_sight, L_signs, L_pad, L_lies, L_empty, L_list, L_waits, L_yard, L_last, L_used, L_sheets, L_nights, L_fleasOfGuests, L_fleasOfBeds, L_reason, L_row, L_bestRow, L_image, L_isKept⟩ := t1
  obtain rfl : M_signs = nI m := hD.1
  have hW : ∀ j, j < 64 → L_worths j = nI (w j) := hM2.2.2.2.1
  rw [gBs_def, gBs_def, f_X6_best_L51, if_neg (by rw [n_lt (by omega) (by omega)]; omega), e1]
  simp only [Option.bind_some, n_add]
  generalize ho : bedA (atC k w d n m g p).1 g = o at e4 ⊢
  cases o with
  | none =>
    have e4' : f_X6_bedOf (nI g) (L_beds, L_law, L_worths, L_sights, L_sight, L_signs, L_pad, L_lies, L_empty, L_list, L_waits, L_yard, L_last, L_used, L_sheets, L_nights, L_fleasOfGuests, L_fleasOfBeds, L_reason, L_row, L_bestRow, L_image, L_isKept) = some (-6) := e4
    rw [e4']
    simp only [Option.bind_some]
    unfold gJn
    dsimp only
    simp only [m6_ge, if_false]
    by_cases h : ownA w g none ≤ x5
    · have h' : (-1 : Int32) ≤ x5 := h
      rw [if_pos h, if_pos h]
      simp only [if_pos h']
    · have h' : ¬ (-1 : Int32) ≤ x5 := h
      rw [if_neg h, if_neg h]
      simp only [if_neg h']
      rfl
  | some b =>
    have hb := (bedA_some ho).2
    have e4' : f_X6_bedOf (nI g) (L_beds, L_law, L_worths, L_sights, L_sight, L_signs, L_pad, L_lies, L_empty, L_list, L_waits, L_yard, L_last, L_used, L_sheets, L_nights, L_fleasOfGuests, L_fleasOfBeds, L_reason, L_row, L_bestRow, L_image, L_isKept) = some (nI b) := e4
    rw [e4']
    simp only [Option.bind_some]
    unfold gJn
    dsimp only
    simp only [m6_ge, if_false]
    rw [if_pos (show 0 ≤ nI b by rw [n_ge0 (by omega)]; trivial), n_mul, n_add]
    have hnb : ¬ (nI (8 * g + b) < 0 ∨ 64 ≤ (nI (8 * g + b)).toNatClampNeg) := by
      rw [n_lt0 (by omega), n_cl (by omega)]
      rintro (h | h)
      · exact h
      · omega
    rw [if_neg hnb, n_cl (by omega), hW _ (by omega)]
    by_cases h : ownA w g (some b) ≤ x5
    · have h' : nI (w (8 * g + b)) ≤ x5 := h
      rw [if_pos h, if_pos h]
      simp only [if_pos h']
    · have h' : ¬ nI (w (8 * g + b)) ≤ x5 := h
      rw [if_neg h, if_neg h]
      simp only [if_neg h']
      rfl
theorem lp_mbest {n k q : Nat} {w sg sb : Nat → Nat} (hw : ∀ j, w j ≤ 99) (hk : k < 4) (hn : n ≤ 8) {m : Nat} {d : Nat → Nat} (hd : ∀ j, j < 48 → d j < 127) (hm : m ≤ 47) (hf : fA d m 0 0 = none) (hc : cntQ d m = 0) (hr : (runA k w d m 0 (openA n)).1 = none) {g : Nat} (hg : g < 8) (hnm : nmA d g m 0 = false) (x2 : Int32) : ∀ (r p b fuel : Nat) (l : Int32) (t : ModS), m + 1 = p + r → r < fuel → ModHR t (n, k, q, w, sg, sb) → ModDR t m d → ∃ t', gBs g x2 fuel (nI b) l (nI p) t = some (if x2 = 0 then nI (bsA (fun i => ownA w g (bedA (atC k w d n m g i).1 g)) r p b l).1 else (bsA (fun i => ownA w g (bedA (atC k w d n m g i).1 g)) r p b l).2, t') ∧ mP t' = mP t := by
  intro r
  induction r with
  | zero =>
    intro p b fuel l t h1 h3 hM hD
    obtain ⟨fuel, rfl⟩ : ∃ n, fuel = n + 1 := ⟨fuel - 1, by omega⟩
    obtain ⟨M_beds, M_law, M_worths, M_sights, M_sight, M_signs, M_pad, M_lies, M_empty, M_list, M_waits, M_yard, M_last, M_used, M_sheets, M_nights, M_fleasOfGuests, M_fleasOfBeds, M_reason, M_row, M_bestRow, M_image, M_isKept⟩ := t
    obtain rfl : M_signs = nI m := hD.1
    rw [gBs_def, f_X6_best_L51, if_pos (by rw [n_lt (by omega) (by omega)]; omega)]
    simp only [ite_some]
    exact ⟨_, rfl, by simp only [mP]⟩
  | succ r ih =>
    intro p b fuel l t h1 h3 hM hD
    obtain ⟨fuel, rfl⟩ : ∃ n, fuel = n + 1 := ⟨fuel - 1, by omega⟩
    obtain ⟨t1, e1, e2⟩ := gBs_step hw hk hn hd hm hf hc hr hg hnm x2 (nI b) l (p := p) (fuel := fuel) (by omega) hM hD
    rw [e1]
    simp only [bsA]
    by_cases h : ownA w g (bedA (atC k w d n m g p).1 g) ≤ l
    · simp only [if_pos h]
      obtain ⟨t', g1, g2⟩ := ih (p + 1) b fuel l t1 (by omega) (by omega) (mP_H e2 hM) (mP_D e2 hD)
      exact ⟨t', g1, g2.trans e2⟩
    · simp only [if_neg h]
      obtain ⟨t', g1, g2⟩ := ih (p + 1) p fuel _ t1 (by omega) (by omega) (mP_H e2 hM) (mP_D e2 hD)
      exact ⟨t', g1, g2.trans e2⟩
theorem own_m2 {w : Nat → Nat} (hw : ∀ j, w j ≤ 99) {g : Nat} {o : Option Nat} : ¬ ownA w g o ≤ -2 := by
  cases o with
  | none =>
    show ¬ (-1 : Int32) ≤ -2
    decide
  | some b =>
    simp only [ownA]
    have h1 := hw (8 * g + b)
    have h2 : (0 : Int32) ≤ nI (w (8 * g + b)) := by rw [n_ge0 (by omega)]; trivial
    intro h
    exact absurd (Int32.le_trans h2 h) (by decide)
theorem op_best {tJ : InnS} (tB : WbS) (tP : ParS) (tQ : GueS) (tI : InnS) {tH tY tZ : HouS} {tD : DayS} {tT : List InnS} {tM : ModS} (hI : Inv tH tY tZ tD (tJ :: tT) tM) (x1 x2 : Int32) : ∃ (r : Int32) (wB : WbS) (wI : InnS) (wJ : InnS) (wM : ModS), f_X5_best x1 x2 tB tH tD tI tJ = some (r, wB, wI, wJ) ∧ f_X6_best x1 x2 tM = some (r, wM) ∧ Inv tH tY tZ tD (wJ :: tT) wM := by
  obtain ⟨hl, n, k, q, w, sg, sb, m, d, ⟨hn2, hn, hk, hq, hw, hsg, hsb⟩, hH, hM, hD, hDM, hm, hd⟩ := inv_use hI
  have hnf := fun g hg => f_names hD (g := g) hg
  have hnm := fun g hg => m_isInDay hDM hm hd (g := g) hg
  have hrf := fun hx => f_refC hH hw hn hk hD tB tI (x := x2) hx
  obtain ⟨t2, c1, c2⟩ := m_refC hw hk hn hd hm hM hDM
  have hI2 : ∀ wJ, Inv tH tY tZ tD (wJ :: tT) t2 := fun wJ => inv_keepT hI c2 rfl
  have hM2 := mP_H c2 hM
  have hD2 := mP_D c2 hDM
  have hta := fun (h47 : m ≤ 47) hr g (hg : g < 8) hno t => f_tryAll hH hw hn hk hD h47 hr hg hno tB t tJ
  have hwc := fun g (hg : g < 8) (B : WbS) p (hp : p < 48) o h8 hB => f_worthComing hH hg (B := B) hp (o := o) h8 hB
  obtain ⟨H_beds, H_law, H_sights, H_isKept, H_worths, H_sightGuests, H_sightBeds⟩ := tH
  obtain ⟨len, S⟩ := tD
  obtain ⟨M_beds, M_law, M_worths, M_sights, M_sight, M_signs, M_pad, M_lies, M_empty, M_list, M_waits, M_yard, M_last, M_used, M_sheets, M_nights, M_fleasOfGuests, M_fleasOfBeds, M_reason, M_row, M_bestRow, M_image, M_isKept⟩ := tM
  obtain ⟨I_law, I_there, I_sleepers, I_empty, I_empties, I_yard, I_waiting, I_nights, I_used, I_sheets, I_lastOnes, I_guestsWithFleas, I_bedsWithFleas, I_isCounting⟩ := tI
  obtain ⟨J_law, J_there, J_sleepers, J_empty, J_empties, J_yard, J_waiting, J_nights, J_used, J_sheets, J_lastOnes, J_guestsWithFleas, J_bedsWithFleas, J_isCounting⟩ := tJ
  rw [f_X5_best, f_X6_best]
  obtain ⟨F, hF⟩ : ∃ F, FU = F := ⟨_, rfl⟩
  rw [hF]
  rcases guest_c x1 with ⟨g1, g2⟩ | ⟨g, hg, rfl, g1, g2⟩
  · simp only [g1, g2, Option.bind_some, one0, zer0, if_true, if_false]
    exact ⟨_, _, _, _, _, rfl, rfl, hI⟩
  simp only [g1, g2, hnf g hg, hnm g hg, Option.bind_some, one0, if_false]
  by_cases hno : nmA d g m 0 = true
  · simp only [if_pos hno, one0, if_false]
    exact ⟨_, _, _, _, _, rfl, rfl, hI⟩
  have hno2 : nmA d g m 0 = false := by simpa using hno
  simp only [if_neg hno, zer0, if_true]
  rcases either_c x2 with ⟨h4, h5⟩ | ⟨j, hj, hx2, h4, h5⟩
  · have e1 : f_X5_refusalOfComing x2 tB (H_beds, H_law, H_sights, H_isKept, H_worths, H_sightGuests, H_sightBeds) (len, S) (I_law, I_there, I_sleepers, I_empty, I_empties, I_yard, I_waiting, I_nights, I_used, I_sheets, I_lastOnes, I_guestsWithFleas, I_bedsWithFleas, I_isCounting) = some (-2, (I_law, I_there, I_sleepers, I_empty, I_empties, I_yard, I_waiting, I_nights, I_used, I_sheets, I_lastOnes, I_guestsWithFleas, I_bedsWithFleas, I_isCounting)) := by
      rw [f_X5_refusalOfComing, h4]
      rfl
    rw [e1, h5]
    exact ⟨_, _, _, _, _, rfl, rfl, hI⟩
  obtain ⟨t1, l1⟩ := hrf h4
  have hFm : m + 1 < F := by rw [← hF, FU_eq]; omega
  obtain ⟨fu, hfu⟩ : ∃ fu, F = fu + 1 := ⟨F - 1, by omega⟩
  rcases barC_c n k w d m with ⟨hb, hb1, hb2⟩ | ⟨hb1, hb2⟩
  · obtain ⟨b1, b2, b3⟩ := barA_0 hb1
    obtain ⟨t5, e5, e6⟩ := gBs_step hw hk hn hd (by omega) b1 b2 b3 hg hno2 x2 (-6) (-2) (p := 0) (fuel := fu) (by omega) hM2 hD2
    rw [← hfu, if_neg (own_m2 hw), if_neg (own_m2 hw)] at e5
    obtain ⟨t6, e7, e8⟩ := lp_mbest hw hk hn hd (by omega) b1 b2 b3 hg hno2 x2 m 1 0 fu (ownA w g (bedA (atC k w d n m g 0).1 g)) t5 (by omega) (by omega) (mP_H e6 hM2) (mP_D e6 hD2)
    have e9 := e5.trans e7
    obtain ⟨Q_beds, Q_law, Q_worths, Q_sights, Q_sight, Q_signs, Q_pad, Q_lies, Q_empty, Q_list, Q_waits, Q_yard, Q_last, Q_used, Q_sheets, Q_nights, Q_fleasOfGuests, Q_fleasOfBeds, Q_reason, Q_row, Q_bestRow, Q_image, Q_isKept⟩ := t2
    rw [gBs_def] at e9
    obtain ⟨u1, u2, u3, u4, u5, u6, u7, u8, u9, u10, u11, u12, u13, u14⟩ := t1
    obtain ⟨B', t3, t4, f1, f2⟩ := hta (by omega) b3 g hg hno2 (u1, u2, u3, u4, u5, u6, u7, u8, u9, u10, u11, u12, u13, u14)
    have hw0 := hwc g hg B' 0 (by omega) (bedA (atC k w d n m g 0).1 g) (fun x hx => (bedA_some hx).2) (f2 0 (by omega))
    obtain rfl : len = nI m := hD.1
    obtain ⟨v1, v2, v3, v4, v5, v6, v7, v8, v9, v10, v11, v12, v13, v14⟩ := t3
    obtain ⟨y1, y2, y3, y4, y5, y6, y7, y8, y9, y10, y11, y12, y13, y14⟩ := t4
    rw [l1, h5]
    simp only [Option.bind_some, one0, if_false, c1]
    rw [hb]
    simp only [zer0, if_true, show (0 ≤ nI 0) = True from eq_true (by decide), f1, Option.bind_some, hw0]
    have e1 := lp_fbest hH hg (m := m) (by omega) f2 (fun i x hx => (bedA_some hx).2) (fun x4_L51 x5_L51 x6_L51 => (if x2 = 0 then some (x4_L51, B', (v1, v2, v3, v4, v5, v6, v7, v8, v9, v10, v11, v12, v13, v14), (y1, y2, y3, y4, y5, y6, y7, y8, y9, y10, y11, y12, y13, y14)) else some (x5_L51, B', (v1, v2, v3, v4, v5, v6, v7, v8, v9, v10, v11, v12, v13, v14), (y1, y2, y3, y4, y5, y6, y7, y8, y9, y10, y11, y12, y13, y14)))) m 1 0 F (ownA w g (bedA (atC k w d n m g 0).1 g)) (by omega) (by omega)
    rw [e1, e9, ite_some]
    exact ⟨_, _, _, _, _, rfl, rfl, inv_keep (inv_keep (hI2 _) e6) e8⟩
  · obtain ⟨Q_beds, Q_law, Q_worths, Q_sights, Q_sight, Q_signs, Q_pad, Q_lies, Q_empty, Q_list, Q_waits, Q_yard, Q_last, Q_used, Q_sheets, Q_nights, Q_fleasOfGuests, Q_fleasOfBeds, Q_reason, Q_row, Q_bestRow, Q_image, Q_isKept⟩ := t2
    obtain ⟨u1, u2, u3, u4, u5, u6, u7, u8, u9, u10, u11, u12, u13, u14⟩ := t1
    rw [l1, h5]
    simp only [Option.bind_some, one0, if_false, c1, hb1, hb2]
    exact ⟨_, _, _, _, _, rfl, rfl, hI2 _⟩
