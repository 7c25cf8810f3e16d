/-! a guest who comes besides -/
theorem runA_add {kk : Nat} {w d : Nat → Nat} : ∀ (a b p : Nat) (C : AIn), (runA kk w d a p C).1 = none → runA kk w d (a + b) p C = runA kk w d b (p + a) (runA kk w d a p C).2
  | 0, b, p, C, _ => by rw [Nat.zero_add]; rfl
  | a + 1, b, p, C, h => by
    rw [show a + 1 + b = (a + b) + 1 by omega]
    simp only [runA] at h ⊢
    by_cases hz : whyA (d p) C = 0
    · rw [if_pos hz] at h ⊢
      rw [runA_add a b (p + 1) _ h, if_pos hz, show p + 1 + a = p + (a + 1) by omega]
    · rw [if_neg hz] at h
      cases h
theorem runA_pre {kk : Nat} {w d : Nat → Nat} : ∀ (a b p : Nat) (C : AIn), (runA kk w d (a + b) p C).1 = none → (runA kk w d a p C).1 = none
  | 0, _, _, _, _ => rfl
  | a + 1, b, p, C, h => by
    rw [show a + 1 + b = (a + b) + 1 by omega] at h
    simp only [runA] at h ⊢
    by_cases hz : whyA (d p) C = 0
    · rw [if_pos hz] at h ⊢
      exact runA_pre a b (p + 1) _ h
    · rw [if_neg hz] at h
      cases h
theorem run_besides {n kk : Nat} {w d : Nat → Nat} (hn : n ≤ 8) {g : Nat} : ∀ (c p : Nat) (C C' : AIn), AOk n C → AOk n C' → (∀ x, x ≠ g → (presA C x ↔ presA C' x)) → (∀ i, p ≤ i → i < p + c → d i ≠ 65 + g ∧ d i ≠ 97 + g) → (runA kk w d c p C).1 = (runA kk w d c p C').1
  | 0, _, _, _, _, _, _, _ => rfl
  | c + 1, p, C, C', hC, hC', h, hd => by
    simp only [runA]
    obtain ⟨d1, d2⟩ := hd p (by omega) (by omega)
    have hwy : whyA (d p) C = whyA (d p) C' := by
      unfold whyA
      by_cases h1 : 65 ≤ d p ∧ d p ≤ 72
      · rw [if_pos h1, if_pos h1, presB_eq hC hC' hn hn (h (d p - 65) (by omega))]
      · rw [if_neg h1, if_neg h1]
        by_cases h2 : 97 ≤ d p ∧ d p ≤ 104
        · rw [if_pos h2, if_pos h2, presB_eq hC hC' hn hn (h (d p - 97) (by omega))]
        · rw [if_neg h2, if_neg h2]
    rw [hwy]
    by_cases hz : whyA (d p) C' = 0
    · have hz2 : whyA (d p) C = 0 := hwy.trans hz
      rw [if_pos hz, if_pos hz]
      refine run_besides hn c (p + 1) _ _ (evC_ok hC hn hz2) (evC_ok hC' hn hz) (fun x hx => ?_) (fun i h1 h2 => hd i (by omega) (by omega))
      rw [evC_pres hC hn hz2, evC_pres hC' hn hz]
      simp only [h x hx]
    · rw [if_neg hz, if_neg hz]
/-- is a guest named in the day -/
def nmA (d : Nat → Nat) (g : Nat) : Nat → Nat → Bool
  | 0, _ => false
  | c + 1, p => decide (d p = 65 + g) || (decide (d p = 97 + g) || nmA d g c (p + 1))
theorem nmA_no {d : Nat → Nat} {g : Nat} : ∀ (c p : Nat), nmA d g c p = false → ∀ i, p ≤ i → i < p + c → d i ≠ 65 + g ∧ d i ≠ 97 + g
  | 0, p, _, i, h1, h2 => absurd h2 (by omega)
  | c + 1, p, h, i, h1, h2 => by
    simp only [nmA, Bool.or_eq_false_iff, decide_eq_false_iff_not] at h
    obtain ⟨h3, h4, h5⟩ := h
    by_cases e : i = p
    · rw [e]; exact ⟨h3, h4⟩
    · exact nmA_no c (p + 1) h5 i (by omega) (by omega)
theorem f_names {tD : DayS} {m : Nat} {d : Nat → Nat} (hD : DayR tD m d) {g : Nat} (hg : g < 8) : f_X0_names (nI g) tD = some (nI (if nmA d g m 0 = true then 1 else 0)) := by
  obtain ⟨len, S⟩ := tD
  have hm := hD.2.1
  rw [f_X0_names]
  have key : ∀ (c j fuel : Nat), m = j + c → c < fuel → f_X0_names_L2 (nI g) len S fuel (nI j) (fun x2_L2 => some (nI 0)) = some (nI (if nmA d g c j = true then 1 else 0)) := by
    obtain rfl : len = nI m := hD.1
    intro c
    induction c with
    | zero =>
      intro j fuel h1 h3
      obtain ⟨fuel, rfl⟩ : ∃ n, fuel = n + 1 := ⟨fuel - 1, by omega⟩
      rw [f_X0_names_L2, if_pos (by rw [n_le (by omega) (by omega)]; omega)]
      rfl
    | succ c ih =>
      intro j fuel h1 h3
      obtain ⟨fuel, rfl⟩ : ∃ n, fuel = n + 1 := ⟨fuel - 1, by omega⟩
      have hdj := (hD.2.2 j (by omega)).2
      rw [f_X0_names_L2]
      simp (disch := omega) only [n_le, c_leF, if_false, f_signAt hD (show j < m by omega), Option.bind_some, n_add, n_eq]
      simp only [nmA]
      by_cases e1 : d j = 65 + g
      · rw [if_pos e1]
        simp only [e1, decide_true, Bool.true_or, if_true]
      · rw [if_neg e1]
        by_cases e2 : d j = 97 + g
        · rw [if_pos e2]
          simp only [e2, decide_true, Bool.true_or, Bool.or_true, if_true]
        · rw [if_neg e2, ih (j + 1) fuel (by omega) (by omega)]
          simp only [e1, e2, decide_false, Bool.false_or]
  exact key m 0 FU (by omega) (by rw [FU_eq]; omega)
theorem lp_inDay1 {m : Nat} (hm : m ≤ 48) {x : Int32} {Y : Nat → Int32} (kL : Int32 → Int32 → Option Int32) : ∀ (c j fuel : Nat), m = j + c → c < fuel → f_X6_isInDay_L4 x (nI m) Y fuel (nI 1) (nI j) kL = kL (nI 1) (nI m) := by
  intro c
  induction c with
  | zero =>
    intro j fuel h1 h3
    obtain ⟨fuel, rfl⟩ : ∃ n, fuel = n + 1 := ⟨fuel - 1, by omega⟩
    have hj : j = m := by omega
    subst hj
    rw [f_X6_isInDay_L4, if_pos (by rw [n_le (by omega) (by omega)]; omega)]
  | succ c ih =>
    intro j fuel h1 h3
    obtain ⟨fuel, rfl⟩ : ∃ n, fuel = n + 1 := ⟨fuel - 1, by omega⟩
    rw [f_X6_isInDay_L4, if_neg (by rw [n_le (by omega) (by omega)]; omega), if_neg (by decide), n_add]
    exact ih (j + 1) fuel (by omega) (by omega)
theorem m_isInDay {t : ModS} {m : Nat} {d : Nat → Nat} (hD : ModDR t m d) (hm : m ≤ 48) (hd : ∀ j, j < 48 → d j < 127) {g : Nat} (hg : g < 8) : f_X6_isInDay (nI g) t = some (nI (if nmA d g m 0 = true then 1 else 0)) := by
  obtain ⟨M_beds, M_law, M_worths, M_sights, M_sight, M_signs, M_pad, M_lies, M_empty, M_list, M_waits, M_yard, M_last, M_used, M_sheets, M_nights, M_fleasOfGuests, M_fleasOfBeds, M_reason, M_row, M_bestRow, M_image, M_isKept⟩ := t
  obtain ⟨rfl, hY⟩ := hD
  rw [f_X6_isInDay]
  have key : ∀ (c j fuel : Nat), m = j + c → c < fuel → f_X6_isInDay_L4 (nI g) (nI m) M_pad fuel (nI 0) (nI j) (fun x2_L4 x3_L4 => (if x2_L4 = 0 ∨ x2_L4 = 1 then some x2_L4 else none)) = some (nI (if nmA d g c j = true then 1 else 0)) := by
    intro c
    induction c with
    | zero =>
      intro j fuel h1 h3
      obtain ⟨fuel, rfl⟩ : ∃ n, fuel = n + 1 := ⟨fuel - 1, by omega⟩
      rw [f_X6_isInDay_L4, if_pos (by rw [n_le (by omega) (by omega)]; omega)]
      rfl
    | succ c ih =>
      intro j fuel h1 h3
      obtain ⟨fuel, rfl⟩ : ∃ n, fuel = n + 1 := ⟨fuel - 1, by omega⟩
      have hdj := hd j (by omega)
      have h11 := lp_inDay1 hm (x := nI g) (Y := M_pad) (fun x2_L4 x3_L4 => (if x2_L4 = 0 ∨ x2_L4 = 1 then some x2_L4 else none)) c (j + 1) fuel (by omega) (by omega)
      rw [f_X6_isInDay_L4]
      simp (disch := omega) only [n_le, c_leF, if_false, n_lt0, n_cl, false_or, n_add, hY j (show j < 48 by omega), n_eq, zer0, if_true]
      simp only [nmA]
      by_cases e1 : d j = 65 + g
      · rw [if_pos e1, h11]
        simp only [e1, decide_true, Bool.true_or, if_true, n11]
      · rw [if_neg e1]
        by_cases e2 : d j = 97 + g
        · rw [if_pos e2, h11]
          simp only [e2, decide_true, Bool.true_or, Bool.or_true, if_true, n11]
        · rw [if_neg e2, ih (j + 1) fuel (by omega) (by omega)]
          simp only [e1, e2, decide_false, Bool.false_or]
  exact key m 0 FU (by omega) (by rw [FU_eq]; omega)
theorem m_goPre {n k q : Nat} {w sg sb : Nat → Nat} (hw : ∀ j, w j ≤ 99) (hk : k < 4) (hn : n ≤ 8) {m : Nat} {d : Nat → Nat} {ev : Nat} (hev : ev ≤ 48) {x2 x4 y : Int32} {pl : Nat} (hpl : pl ≤ ev) (hok : ∀ i, i < ev → okS (d i)) : ∀ (c i : Nat) (C : AIn) (t : ModS), pl = i + c → (runA k w d c i C).1 = none → AOk n C → GO C → ModHR t (n, k, q, w, sg, sb) → ModDR t m d → MoR C t → (mF t).2.2 = nI 0 → ∃ t', (∀ fuel, gGo (nI ev) x2 (nI pl) x4 (fuel + c) y (nI i) t = gGo (nI ev) x2 (nI pl) x4 fuel y (nI pl) t') ∧ mP t' = mP t ∧ MoR (runA k w d c i C).2 t' ∧ (mF t').2.2 = nI 0 := by
  intro c
  induction c with
  | zero =>
    intro i C t h1 h2 hC hG hM hD ho hr
    have hi : i = pl := by omega
    subst hi
    exact ⟨t, fun fuel => rfl, rfl, ho, hr⟩
  | succ c ih =>
    intro i C t h1 h2 hC hG hM hD ho hr
    have hs := hok i (by omega)
    obtain ⟨t1, e1, e2, e3, e4, e5⟩ := m_happen hM hw hk hn hC hG ho hs
    simp only [runA] at h2 ⊢
    by_cases hz : whyA (d i) C = 0
    · rw [if_pos hz] at h2 ⊢
      obtain ⟨e6, -, -⟩ := e5 hz
      rw [hz] at e1
      have hP : mP (mSet (nI 0) t1) = mP t := (mSet_P _ _).trans e2
      obtain ⟨t', g1, g2, g3, g4⟩ := ih (i + 1) (evC k w (d i) C) (mSet (nI 0) t1) (by omega) h2 (evC_ok hC hn hz) (evC_go hC hn hz hG) (mP_H hP hM) (mP_D hP hD) (mSet_o e6) (mSet_r _ _)
      refine ⟨t', fun fuel => ?_, g2.trans hP, g3, g4⟩
      rw [show fuel + (c + 1) = (fuel + c) + 1 by omega, gGo_plain (by omega) hev (Or.inl ⟨fun e => by have := (nI_eq (by omega) (by omega)).mp e; omega, rfl⟩) hr hD rfl hs e1, if_pos (by decide)]
      exact g1 fuel
    · rw [if_neg hz] at h2
      cases h2
/-- the inn behind the day with the guest who comes besides at a place -/
def atC (k : Nat) (w d : Nat → Nat) (n m g p : Nat) : AIn := (runA k w d (m - p) p (comeA (chA k (wA w g) (runA k w d p 0 (openA n)).2.2.1) g (runA k w d p 0 (openA n)).2)).2
theorem dayPres {kk : Nat} {w d : Nat → Nat} {n g : Nat} (hn : n ≤ 8) : ∀ (c p : Nat) (C : AIn), AOk n C → ¬ presA C g → (∀ i, p ≤ i → i < p + c → d i ≠ 65 + g ∧ d i ≠ 97 + g) → ¬ presA (runA kk w d c p C).2 g
  | 0, _, _, _, h, _ => h
  | c + 1, p, C, hC, h, hd => by
    simp only [runA]
    obtain ⟨d1, d2⟩ := hd p (by omega) (by omega)
    by_cases hz : whyA (d p) C = 0
    · rw [if_pos hz]
      refine dayPres hn c (p + 1) _ (evC_ok hC hn hz) (fun hp => ?_) (fun i h1 h2 => hd i (by omega) (by omega))
      rcases (evC_pres hC hn hz g).mp hp with ⟨h1, h2 | h2⟩ | ⟨h1, h2, h3, h4⟩ | ⟨h1, h2, h3⟩
      · omega
      · exact h h2
      · exact h h4
      · exact h h3
    · rw [if_neg hz]
      exact h
theorem at_facts {k n m g p : Nat} {w d : Nat → Nat} (hn : n ≤ 8) (hg : g < 8) (hp : p ≤ m) (hr : (runA k w d m 0 (openA n)).1 = none) (hnm : nmA d g m 0 = false) : (runA k w d p 0 (openA n)).1 = none ∧ AOk n (runA k w d p 0 (openA n)).2 ∧ GO (runA k w d p 0 (openA n)).2 ∧ ¬ presA (runA k w d p 0 (openA n)).2 g ∧ (runA k w d (m - p) p (comeA (chA k (wA w g) (runA k w d p 0 (openA n)).2.2.1) g (runA k w d p 0 (openA n)).2)).1 = none := by
  have hno := nmA_no m 0 hnm
  have h1 : (runA k w d p 0 (openA n)).1 = none := runA_pre p (m - p) 0 _ (by rw [show p + (m - p) = m by omega]; exact hr)
  obtain ⟨h2, h3⟩ := GO_run (kk := k) (w := w) (d := d) hn p 0
  have h4 : ¬ presA (runA k w d p 0 (openA n)).2 g := dayPres hn p 0 _ (openA_ok n) (fun e => by
    rcases e with ⟨b, e⟩ | e
    · cases e
    · cases e) (fun i h5 h6 => hno i h5 (by omega))
  refine ⟨h1, h2, h3, h4, ?_⟩
  have h5 := runA_add (kk := k) (w := w) (d := d) p (m - p) 0 (openA n) h1
  rw [show p + (m - p) = m by omega, Nat.zero_add] at h5
  rw [h5] at hr
  rw [← hr]
  refine run_besides hn (g := g) (m - p) p _ _ (comeA_ok h2 (by omega) h4 (fun e => chA_lt k _ _ e)) h2 (fun x hx => ?_) (fun i h6 h7 => hno i (by omega) (by omega))
  rw [comeA_pres h2 (fun e => chA_lt k _ _ e)]
  constructor
  · rintro (h | h)
    · exact absurd h hx
    · exact h
  · exact Or.inr
theorem m_goAt {n k q : Nat} {w sg sb : Nat → Nat} (hw : ∀ j, w j ≤ 99) (hk : k < 4) (hn : n ≤ 8) {m : Nat} {d : Nat → Nat} (hd : ∀ j, j < 48 → d j < 127) (hm : m ≤ 48) (hf : fA d m 0 0 = none) (hc : cntQ d m = 0) (hr : (runA k w d m 0 (openA n)).1 = none) {g p : Nat} (hg : g < 8) (hp : p ≤ m) (hnm : nmA d g m 0 = false) {t : ModS} (hM : ModHR t (n, k, q, w, sg, sb)) (hD : ModDR t m d) :
    ∃ t', f_X6_go (nI m) (nI 0) (nI p) (nI g) t = some (-6, t') ∧ mP t' = mP t ∧ MoR (atC k w d n m g p) t' := by
  obtain ⟨hok0, hu⟩ := fA_none (d := d) m 0 hf (by simp only [cntQ]; omega)
  have hok : ∀ i, i < m → okS (d i) := fun i hi => (hok0 i (by omega) (by omega)).resolve_left (fun e => cnt0 m |>.mp hc i hi e)
  obtain ⟨a1, a2, a3, a4, a5⟩ := at_facts hn hg hp hr hnm
  obtain ⟨t1, b1, b2, b3, b4, b5⟩ := m_begin hM hn
  have hP : mP (mSet (nI 0) t1) = mP t := (mSet_P _ _).trans b2
  have hD1 := mP_D hP hD
  have hM1 := mP_H hP hM
  have hop := m_opens hD1 hd (ev := m) hm
  rw [hc] at hop
  obtain ⟨t2, c1, c2, c3, c4⟩ := m_goPre hw hk hn (ev := m) hm (x2 := nI 0) (x4 := nI g) (y := nI 1) hp hok p 0 (openA n) (mSet (nI 0) t1) (by omega) a1 (openA_ok n) (openA_go n) hM1 hD1 (mSet_o b4) (mSet_r _ _)
  have hs : okS (65 + g) := Or.inr (Or.inl ⟨by omega, by omega⟩)
  obtain ⟨t3, e1, e2, e3, e4, e5⟩ := m_happen (mP_H c2 hM1) hw hk hn a2 a3 c3 hs
  have hev : evN (65 + g) = g := by
    unfold evN
    rw [if_neg (by omega), if_pos (by omega)]
    omega
  have hwy : whyA (65 + g) (runA k w d p 0 (openA n)).2 = 0 := by
    unfold whyA
    rw [if_pos (by omega), show 65 + g - 65 = g by omega, if_neg (fun e => a4 ((presB_iff a2 hn).mp e))]
  have hevC : evC k w (65 + g) (runA k w d p 0 (openA n)).2 = comeA (chA k (wA w g) (runA k w d p 0 (openA n)).2.2.1) g (runA k w d p 0 (openA n)).2 := by
    unfold evC
    rw [if_pos (by omega), show 65 + g - 65 = g by omega]
  obtain ⟨e6, -, -⟩ := e5 hwy
  rw [hwy, hev] at e1
  rw [hevC] at e6
  have hP3 : mP (mSet (nI 0) t3) = mP (mSet (nI 0) t1) := (mSet_P _ _).trans (e2.trans c2)
  have hL := m_goL hw hk hn (ev := m) (u := 0) (code := 0) hm (by omega) (by omega) (x3 := nI p) (x4 := nI g) (fun i hi => Or.inr (hok i hi)) (m - p) p (FU - p) (comeA (chA k (wA w g) (runA k w d p 0 (openA n)).2.2.1) g (runA k w d p 0 (openA n)).2) t2 (mSet (nI 0) t3) (by omega) (by rw [FU_eq]; omega) (fun i h1 h2 e => by have := (nI_eq (by omega) (by omega)).mp e; omega) (Or.inr ⟨rfl, t3, e1, rfl⟩) (comeA_ok a2 (by omega) a4 (fun e => chA_lt k _ _ e)) (fun x hx => by
    rcases (comeA_pres a2 (fun e => chA_lt k _ _ e) x).mp hx with h | h
    · omega
    · exact a3 x h) (mP_H hP3 hM1) (mP_D hP3 hD1) (mSet_o e6) (mSet_r _ _)
  have hcg : ∀ i, p ≤ i → i < p + (m - p) → effE d 0 0 i = d i := fun i _ hi => effE_eq hc (by omega)
  rw [runA_congr (m - p) p _ hcg, a5] at hL
  obtain ⟨t', g1, g2, g3, g4, g5, g6⟩ := hL
  refine ⟨t', ?_, g2.trans (hP3.trans hP), g4⟩
  have c5 := c1 (FU - p)
  rw [show FU - p + p = FU by rw [FU_eq]; omega] at c5
  have h80 : 8 ^ (0 - 1 - cntQ d p) = 1 := by rw [show 0 - 1 - cntQ d p = 0 by omega]
  rw [h80] at g1
  have c6 := c5.trans g1
  obtain ⟨M_beds, M_law, M_worths, M_sights, M_sight, M_signs, M_pad, M_lies, M_empty, M_list, M_waits, M_yard, M_last, M_used, M_sheets, M_nights, M_fleasOfGuests, M_fleasOfBeds, M_reason, M_row, M_bestRow, M_image, M_isKept⟩ := t
  obtain ⟨L_beds, L_law, L_worths, L_sights, L_sight, L_signs, L_pad, L_lies, L_empty, L_list, L_waits, L_yard, L_last, L_used, L_sheets, L_nights, L_fleasOfGuests, L_fleasOfBeds, L_reason, L_row, L_bestRow, L_image, L_isKept⟩ := t1
  obtain rfl : L_signs = nI m := hD1.1
  simp only [mSet] at hop c6
  rw [f_X6_go, b1]
  simp only [Option.bind_some]
  obtain ⟨x6, e7⟩ := lp_go15 (u := 0) (by omega) hop (fun x5_L15 x6_L15 => f_X6_go_L44 (nI m) (nI 0) (nI p) (nI g) FU x5_L15 (nI 0) L_beds L_law L_worths L_sights L_sight (nI m) L_pad L_lies L_empty L_list L_waits L_yard L_last L_used L_sheets L_nights L_fleasOfGuests L_fleasOfBeds (nI 0) L_row L_bestRow L_image L_isKept (fun _ _ M_beds M_law M_worths M_sights M_sight M_signs M_pad M_lies M_empty M_list M_waits M_yard M_last M_used M_sheets M_nights M_fleasOfGuests M_fleasOfBeds M_reason M_row M_bestRow M_image M_isKept => some ((-6 : Int32), (M_beds, M_law, M_worths, M_sights, M_sight, M_signs, M_pad, M_lies, M_empty, M_list, M_waits, M_yard, M_last, M_used, M_sheets, M_nights, M_fleasOfGuests, M_fleasOfBeds, M_reason, M_row, M_bestRow, M_image, M_isKept)))) 0 1 FU rfl (by omega) (by omega) (by rw [FU_eq]; omega)
  exact e7.trans c6
theorem f_liveOff {tH : HouS} {tD : DayS} {m : Nat} {d : Nat → Nat} (hD : DayR tD m d) (t : InnS) : ∃ r t', f_X3_live (nI m) (nI (m + 1)) tH tD t = some (r, t') := by
  have hm := hD.2.1
  obtain ⟨H_beds, H_law, H_sights, H_isKept, H_worths, H_sightGuests, H_sightBeds⟩ := tH
  obtain ⟨len, S⟩ := tD
  obtain ⟨I_law, I_there, I_sleepers, I_empty, I_empties, I_yard, I_waiting, I_nights, I_used, I_sheets, I_lastOnes, I_guestsWithFleas, I_bedsWithFleas, I_isCounting⟩ := t
  obtain rfl : len = nI m := hD.1
  obtain ⟨fu, hfu⟩ : ∃ fu, FU = fu + 1 + 1 := ⟨1998, FU_eq⟩
  rw [f_X3_live, hfu, f_X3_live_L3]
  have e1 : f_X0_signAt (nI m) (nI m, S) = some (nI 0) := by
    rw [f_X0_signAt]
    simp (disch := omega) only [n_lt, n_le, n_eq, n_lt0, n_ge0, n_eq0, n_gt0, n_le0, n_cl, n_add, n_sub, n_mul, n_m1, n_m6, m1_lt, m6_lt, m1_ge, m6_ge, m1_eq, m6_eq0, m1_eq0, c_leT, c_leF, c_ltT, c_ltF, c_eqF, false_or, or_false, or_self, if_true, if_false, ite_true, ite_false, Option.bind_some, not_true_eq_false, not_false_eq_true, reduceIte]
  have e2 : f_X3_whyNot (nI 0) (I_law, I_there, I_sleepers, I_empty, I_empties, I_yard, I_waiting, I_nights, I_used, I_sheets, I_lastOnes, I_guestsWithFleas, I_bedsWithFleas, I_isCounting) = some (nI 0) := by
    rw [f_X3_whyNot, f_isComing (by omega), f_isGoing (by omega)]
    simp only [Option.bind_some]
    rfl
  rw [if_neg (by rw [n_le (by omega) (by omega)]; omega), e1]
  simp only [Option.bind_some, e2, zer0, if_true, f_isComing (show 0 < 2147483648 by omega), f_isGoing (show 0 < 2147483648 by omega)]
  rw [if_neg (show ¬ (65 ≤ 0 ∧ 0 ≤ 72) by omega), if_neg (show ¬ (97 ≤ 0 ∧ 0 ≤ 104) by omega), n_add]
  simp only [zer0, if_true]
  rw [if_neg (show ¬ nI 0 = nI 46 by decide), f_X3_live_L3, if_pos (by rw [n_le (by omega) (by omega)]; omega)]
  exact ⟨_, _, rfl⟩
theorem lp_try {n k q : Nat} {w sg sb : Nat → Nat} {H_beds H_law H_sights H_isKept : Int32} {H_worths H_sightGuests H_sightBeds : Nat → Int32} (hH : HouR (H_beds, H_law, H_sights, H_isKept, H_worths, H_sightGuests, H_sightBeds) (n, k, q, w, sg, sb)) (hw : ∀ j, w j ≤ 99) (hn : n ≤ 8) (hk : k < 4) {len : Int32} {S : Nat → Int32} {m : Nat} {d : Nat → Nat} (hD : DayR (len, S) m d) (hm47 : m ≤ 47) (hr : (runA k w d m 0 (openA n)).1 = none) {g : Nat} (hg : g < 8) (hnm : nmA d g m 0 = false) : ∀ (c p fuel : Nat) (B : Nat → Int32) {I_law I_there I_empties I_waiting I_guestsWithFleas I_bedsWithFleas I_isCounting : Int32} {I_sleepers I_empty I_yard I_nights I_used I_sheets I_lastOnes : Nat → Int32} {J_law J_there J_empties J_waiting J_guestsWithFleas J_bedsWithFleas J_isCounting : Int32} {J_sleepers J_empty J_yard J_nights J_used J_sheets J_lastOnes : Nat → Int32}, m + 1 = p + c → c < fuel → (∀ i, i < p → B i = cdL (bedA (atC k w d n m g i).1 g)) → (p ≤ m → InR k (runA k w d p 0 (openA n)).2 (I_law, I_there, I_sleepers, I_empty, I_empties, I_yard, I_waiting, I_nights, I_used, I_sheets, I_lastOnes, I_guestsWithFleas, I_bedsWithFleas, I_isCounting)) → ∃ B' t1 t2, f_X5_tryAllPlaces_L24 (nI g) H_beds H_law H_sights H_isKept H_worths H_sightGuests H_sightBeds len S fuel (nI p) B I_law I_there I_sleepers I_empty I_empties I_yard I_waiting I_nights I_used I_sheets I_lastOnes I_guestsWithFleas I_bedsWithFleas I_isCounting J_law J_there J_sleepers J_empty J_empties J_yard J_waiting J_nights J_used J_sheets J_lastOnes J_guestsWithFleas J_bedsWithFleas J_isCounting (fun x3_L24 B_bedsByPlace_L24 I_law I_there I_sleepers I_empty I_empties I_yard I_waiting I_nights I_used I_sheets I_lastOnes I_guestsWithFleas I_bedsWithFleas I_isCounting J_law J_there J_sleepers J_empty J_empties J_yard J_waiting J_nights J_used J_sheets J_lastOnes J_guestsWithFleas J_bedsWithFleas J_isCounting => some (B_bedsByPlace_L24, (I_law, I_there, I_sleepers, I_empty, I_empties, I_yard, I_waiting, I_nights, I_used, I_sheets, I_lastOnes, I_guestsWithFleas, I_bedsWithFleas, I_isCounting), (J_law, J_there, J_sleepers, J_empty, J_empties, J_yard, J_waiting, J_nights, J_used, J_sheets, J_lastOnes, J_guestsWithFleas, J_bedsWithFleas, J_isCounting))) = some (B', t1, t2) ∧ ∀ i, i ≤ m → B' i = cdL (bedA (atC k w d n m g i).1 g) := by
  obtain rfl : len = nI m := hD.1
  intro c
  induction c with
  | zero =>
    intro p fuel B I_law I_there I_empties I_waiting I_guestsWithFleas I_bedsWithFleas I_isCounting I_sleepers I_empty I_yard I_nights I_used I_sheets I_lastOnes J_law J_there J_empties J_waiting J_guestsWithFleas J_bedsWithFleas J_isCounting J_sleepers J_empty J_yard J_nights J_used J_sheets J_lastOnes h1 h3 hB hI
    obtain ⟨fuel, rfl⟩ : ∃ n, fuel = n + 1 := ⟨fuel - 1, by omega⟩
    rw [f_X5_tryAllPlaces_L24, if_pos (by rw [n_lt (by omega) (by omega)]; omega)]
    exact ⟨_, _, _, rfl, fun i hi => hB i (by omega)⟩
  | succ c ih =>
    intro p fuel B I_law I_there I_empties I_waiting I_guestsWithFleas I_bedsWithFleas I_isCounting I_sleepers I_empty I_yard I_nights I_used I_sheets I_lastOnes J_law J_there J_empties J_waiting J_guestsWithFleas J_bedsWithFleas J_isCounting J_sleepers J_empty J_yard J_nights J_used J_sheets J_lastOnes h1 h3 hB hI
    obtain ⟨fuel, rfl⟩ : ∃ n, fuel = n + 1 := ⟨fuel - 1, by omega⟩
    have hp : p ≤ m := by omega
    obtain ⟨a1, a2, a3, a4, a5⟩ := at_facts hn hg hp hr hnm
    have hI1 := hI hp
    rw [f_X5_tryAllPlaces_L24, if_neg (by rw [n_lt (by omega) (by omega)]; omega), if_neg (by rw [n_le (by omega) (by omega)]; omega)]
    obtain ⟨t1, s1, s2⟩ := f_standAs (t := (J_law, J_there, J_sleepers, J_empty, J_empties, J_yard, J_waiting, J_nights, J_used, J_sheets, J_lastOnes, J_guestsWithFleas, J_bedsWithFleas, J_isCounting)) a2 hn hI1
    obtain ⟨t2, k1, k2, -⟩ := f_takeIn hH hw hn hk a2 s2 (g := g) (by omega) a4
    rw [Nat.min_eq_left (by omega)] at k1
    have hCc := comeA_ok a2 (show g < 16 by omega) a4 (fun e => chA_lt k (wA w g) _ e)
    obtain ⟨t3, l1, l2, -⟩ := f_live hH hw hn hk hD (fr := p) (to := m) hp (Nat.le_refl m) hCc k2
    have e1 := f_bedOf (runA_ok (kk := k) (w := w) (d := d) hn (m - p) p _ hCc) hn l2 hg
    have hnext : ∃ r t4, f_X3_live (nI p) (nI (p + 1)) (H_beds, H_law, H_sights, H_isKept, H_worths, H_sightGuests, H_sightBeds) (nI m, S) (I_law, I_there, I_sleepers, I_empty, I_empties, I_yard, I_waiting, I_nights, I_used, I_sheets, I_lastOnes, I_guestsWithFleas, I_bedsWithFleas, I_isCounting) = some (r, t4) ∧ (p + 1 ≤ m → InR k (runA k w d (p + 1) 0 (openA n)).2 t4) := by
      by_cases hpm : p + 1 ≤ m
      · obtain ⟨t4, f1, f2, -⟩ := f_live hH hw hn hk hD (fr := p) (to := p + 1) (by omega) hpm a2 hI1
        rw [runA_add p 1 0 _ a1, Nat.zero_add]
        rw [show p + 1 - p = 1 by omega] at f2
        exact ⟨_, t4, f1, fun _ => f2⟩
      · have hpe : p = m := by omega
        subst hpe
        obtain ⟨r, t4, f1⟩ := f_liveOff (tH := (H_beds, H_law, H_sights, H_isKept, H_worths, H_sightGuests, H_sightBeds)) hD (I_law, I_there, I_sleepers, I_empty, I_empties, I_yard, I_waiting, I_nights, I_used, I_sheets, I_lastOnes, I_guestsWithFleas, I_bedsWithFleas, I_isCounting)
        exact ⟨r, t4, f1, fun h => absurd h hpm⟩
    obtain ⟨r, t4, f1, f2⟩ := hnext
    obtain ⟨u1, u2, u3, u4, u5, u6, u7, u8, u9, u10, u11, u12, u13, u14⟩ := t1
    obtain ⟨v1, v2, v3, v4, v5, v6, v7, v8, v9, v10, v11, v12, v13, v14⟩ := t2
    obtain ⟨x1, x2, x3, x4, x5, x6, x7, x8, x9, x10, x11, x12, x13, x14⟩ := t3
    obtain ⟨y1, y2, y3, y4, y5, y6, y7, y8, y9, y10, y11, y12, y13, y14⟩ := t4
    simp only [s1, Option.bind_some, k1, l1, e1, n_add, f1]
    have hnb : ¬ (nI p < 0 ∨ 48 ≤ (nI p).toNatClampNeg) := by
      rw [n_lt0 (by omega), n_cl (by omega)]
      rintro (h | h)
      · exact h
      · omega
    rw [if_neg hnb, n_cl (by omega)]
    refine ih (p + 1) fuel _ (by omega) (by omega) (fun i hi => ?_) f2
    simp only [upd]
    by_cases e : i = p
    · subst e
      rw [if_pos rfl]
      rfl
    · rw [if_neg e]
      exact hB i (by omega)
theorem f_tryAll {n k q : Nat} {w sg sb : Nat → Nat} {tH : HouS} (hH : HouR tH (n, k, q, w, sg, sb)) (hw : ∀ j, w j ≤ 99) (hn : n ≤ 8) (hk : k < 4) {tD : DayS} {m : Nat} {d : Nat → Nat} (hD : DayR tD m d) (hm47 : m ≤ 47) (hr : (runA k w d m 0 (openA n)).1 = none) {g : Nat} (hg : g < 8) (hnm : nmA d g m 0 = false) (tB : WbS) (t u : InnS) : ∃ B' t1 t2, f_X5_tryAllPlaces (nI g) tB tH tD t u = some (B', t1, t2) ∧ ∀ i, i ≤ m → B' i = cdL (bedA (atC k w d n m g i).1 g) := by
  obtain ⟨t1, o1, o2, o3⟩ := f_open hH hn k t
  obtain ⟨H_beds, H_law, H_sights, H_isKept, H_worths, H_sightGuests, H_sightBeds⟩ := tH
  obtain ⟨len, S⟩ := tD
  obtain ⟨I_law, I_there, I_sleepers, I_empty, I_empties, I_yard, I_waiting, I_nights, I_used, I_sheets, I_lastOnes, I_guestsWithFleas, I_bedsWithFleas, I_isCounting⟩ := t
  obtain ⟨J_law, J_there, J_sleepers, J_empty, J_empties, J_yard, J_waiting, J_nights, J_used, J_sheets, J_lastOnes, J_guestsWithFleas, J_bedsWithFleas, J_isCounting⟩ := u
  obtain ⟨a1, a2, a3, a4, a5, a6, a7, a8, a9, a10, a11, a12, a13, a14⟩ := t1
  obtain rfl : H_law = nI k := hH.2.1
  rw [f_X5_tryAllPlaces, o1]
  obtain ⟨F, hF⟩ : ∃ F, FU = F := ⟨_, rfl⟩
  rw [hF]
  simp only [Option.bind_some]
  exact lp_try hH hw hn hk hD hm47 hr hg hnm (m + 1) 0 F tB (by omega) (by rw [← hF, FU_eq]; omega) (fun i hi => absurd hi (by omega)) (fun _ => o2)
