/-! the class's inn: who comes, who goes -/
theorem f_occupy {b : Nat} (hb : b < 8) (c : Int32) {I_law I_there I_empties I_waiting I_guestsWithFleas I_bedsWithFleas I_isCounting : Int32} {I_sleepers I_empty I_yard I_nights I_used I_sheets I_lastOnes : Nat → Int32} : f_X3_occupy (nI b) c (I_law, I_there, I_sleepers, I_empty, I_empties, I_yard, I_waiting, I_nights, I_used, I_sheets, I_lastOnes, I_guestsWithFleas, I_bedsWithFleas, I_isCounting) = some (I_law, I_there, upd I_sleepers b c, I_empty, I_empties, I_yard, I_waiting, I_nights, upd I_used b (I_used b + nI 1), if I_lastOnes b = c then I_sheets else upd I_sheets b (I_sheets b + nI 1), upd I_lastOnes b c, I_guestsWithFleas, I_bedsWithFleas, I_isCounting) := by
  rw [f_X3_occupy]
  by_cases h : I_lastOnes b = c
  · simp (disch := omega) only [n_lt, n_le, n_eq, n_lt0, n_ge0, n_eq0, n_gt0, n_le0, n_cl, n_add, n_sub, n_mul, n_m1, n_m6, m1_lt, m6_lt, m1_ge, m6_ge, m1_eq, m6_eq0, m1_eq0, c_leT, c_leF, c_ltT, c_ltF, c_eqF, false_or, or_false, or_self, if_true, if_false, ite_true, ite_false, Option.bind_some, not_true_eq_false, not_false_eq_true, reduceIte, h]
  · simp (disch := omega) only [n_lt, n_le, n_eq, n_lt0, n_ge0, n_eq0, n_gt0, n_le0, n_cl, n_add, n_sub, n_mul, n_m1, n_m6, m1_lt, m6_lt, m1_ge, m6_ge, m1_eq, m6_eq0, m1_eq0, c_leT, c_leF, c_ltT, c_ltF, c_eqF, false_or, or_false, or_self, if_true, if_false, ite_true, ite_false, Option.bind_some, not_true_eq_false, not_false_eq_true, reduceIte, h]
theorem f_takeFromEmpty {p len : Nat} (hp : p < len) (hlen : len ≤ 8) {I_law I_there I_empties I_waiting I_guestsWithFleas I_bedsWithFleas I_isCounting : Int32} {I_sleepers I_empty I_yard I_nights I_used I_sheets I_lastOnes : Nat → Int32} (he : I_empties = nI len) : f_X3_takeFromEmpty (nI p) (I_law, I_there, I_sleepers, I_empty, I_empties, I_yard, I_waiting, I_nights, I_used, I_sheets, I_lastOnes, I_guestsWithFleas, I_bedsWithFleas, I_isCounting) = some (I_empty p, (I_law, I_there, I_sleepers, shY I_empty p len, nI (len - 1), I_yard, I_waiting, I_nights, I_used, I_sheets, I_lastOnes, I_guestsWithFleas, I_bedsWithFleas, I_isCounting)) := by
  subst he
  rw [f_X3_takeFromEmpty]
  simp (disch := omega) only [n_lt, n_le, n_eq, n_lt0, n_ge0, n_eq0, n_gt0, n_le0, n_cl, n_add, n_sub, n_mul, n_m1, n_m6, m1_lt, m6_lt, m1_ge, m6_ge, m1_eq, m6_eq0, m1_eq0, c_leT, c_leF, c_ltT, c_ltF, c_eqF, false_or, or_false, or_self, if_true, if_false, ite_true, ite_false, Option.bind_some, not_true_eq_false, not_false_eq_true, reduceIte]
  have e := lp_takeFromEmpty hlen I_empty (fun x3_L31 I_empty_L31 => some (I_empty p, (I_law, I_there, I_sleepers, I_empty_L31, nI (len - 1), I_yard, I_waiting, I_nights, I_used, I_sheets, I_lastOnes, I_guestsWithFleas, I_bedsWithFleas, I_isCounting))) (p := p) (len - (p + 1)) (p + 1) FU (by omega) (by omega) (by rw [FU_eq]; omega)
  rw [shY_0 I_empty p (p + 1) (by omega)] at e
  exact e
theorem f_waitInYard {wt : Nat} (hw : wt < 16) (c : Int32) {I_law I_there I_empties I_waiting I_guestsWithFleas I_bedsWithFleas I_isCounting : Int32} {I_sleepers I_empty I_yard I_nights I_used I_sheets I_lastOnes : Nat → Int32} (he : I_waiting = nI wt) : f_X3_waitInYard c (I_law, I_there, I_sleepers, I_empty, I_empties, I_yard, I_waiting, I_nights, I_used, I_sheets, I_lastOnes, I_guestsWithFleas, I_bedsWithFleas, I_isCounting) = some (I_law, I_there, I_sleepers, I_empty, I_empties, upd I_yard wt c, nI (wt + 1), I_nights, I_used, I_sheets, I_lastOnes, I_guestsWithFleas, I_bedsWithFleas, I_isCounting) := by
  subst he
  rw [f_X3_waitInYard]
  simp (disch := omega) only [n_lt, n_le, n_eq, n_lt0, n_ge0, n_eq0, n_gt0, n_le0, n_cl, n_add, n_sub, n_mul, n_m1, n_m6, m1_lt, m6_lt, m1_ge, m6_ge, m1_eq, m6_eq0, m1_eq0, c_leT, c_leF, c_ltT, c_ltF, c_eqF, false_or, or_false, or_self, if_true, if_false, ite_true, ite_false, Option.bind_some, not_true_eq_false, not_false_eq_true, reduceIte]
theorem f_leaveEmpty {b len : Nat} (hb : b < 8) (hlen : len < 8) {I_law I_there I_empties I_waiting I_guestsWithFleas I_bedsWithFleas I_isCounting : Int32} {I_sleepers I_empty I_yard I_nights I_used I_sheets I_lastOnes : Nat → Int32} (he : I_empties = nI len) : f_X3_leaveEmpty (nI b) (I_law, I_there, I_sleepers, I_empty, I_empties, I_yard, I_waiting, I_nights, I_used, I_sheets, I_lastOnes, I_guestsWithFleas, I_bedsWithFleas, I_isCounting) = some (I_law, I_there, upd I_sleepers b (-1), upd I_empty len (nI b), nI (len + 1), I_yard, I_waiting, I_nights, I_used, I_sheets, I_lastOnes, I_guestsWithFleas, I_bedsWithFleas, I_isCounting) := by
  subst he
  rw [f_X3_leaveEmpty]
  simp (disch := omega) only [n_lt, n_le, n_eq, n_lt0, n_ge0, n_eq0, n_gt0, n_le0, n_cl, n_add, n_sub, n_mul, n_m1, n_m6, m1_lt, m6_lt, m1_ge, m6_ge, m1_eq, m6_eq0, m1_eq0, c_leT, c_leF, c_ltT, c_ltF, c_eqF, false_or, or_false, or_self, if_true, if_false, ite_true, ite_false, Option.bind_some, not_true_eq_false, not_false_eq_true, reduceIte]
theorem f_leaveYard {p len : Nat} (hp : p < len) (hlen : len ≤ 16) (c : Int32) {I_law I_there I_empties I_waiting I_guestsWithFleas I_bedsWithFleas I_isCounting : Int32} {I_sleepers I_empty I_yard I_nights I_used I_sheets I_lastOnes : Nat → Int32} (he : I_waiting = nI len) (hx : I_yard p = c) (hn : ∀ i, i < p → I_yard i ≠ c) : f_X3_leaveYard c (I_law, I_there, I_sleepers, I_empty, I_empties, I_yard, I_waiting, I_nights, I_used, I_sheets, I_lastOnes, I_guestsWithFleas, I_bedsWithFleas, I_isCounting) = some (I_law, I_there, I_sleepers, I_empty, I_empties, shY I_yard p len, nI (len - 1), I_nights, I_used, I_sheets, I_lastOnes, I_guestsWithFleas, I_bedsWithFleas, I_isCounting) := by
  subst he
  rw [f_X3_leaveYard]
  rw [lp_leaveYard c hlen hp I_yard hx hn _ p 0 FU (by omega) (by rw [FU_eq]; omega)]
theorem f_sleeperOf {b : Nat} (hb : b < 8) {I_law I_there I_empties I_waiting I_guestsWithFleas I_bedsWithFleas I_isCounting : Int32} {I_sleepers I_empty I_yard I_nights I_used I_sheets I_lastOnes : Nat → Int32} : f_X3_sleeperOf (nI b) (I_law, I_there, I_sleepers, I_empty, I_empties, I_yard, I_waiting, I_nights, I_used, I_sheets, I_lastOnes, I_guestsWithFleas, I_bedsWithFleas, I_isCounting) = some (I_sleepers b) := by
  rw [f_X3_sleeperOf]
  simp (disch := omega) only [n_lt, n_le, n_eq, n_lt0, n_ge0, n_eq0, n_gt0, n_le0, n_cl, n_add, n_sub, n_mul, n_m1, n_m6, m1_lt, m6_lt, m1_ge, m6_ge, m1_eq, m6_eq0, m1_eq0, c_leT, c_leF, c_ltT, c_ltF, c_eqF, false_or, or_false, or_self, if_true, if_false, ite_true, ite_false, Option.bind_some, not_true_eq_false, not_false_eq_true, reduceIte]
theorem cdO_inj {o : Option Nat} {g : Nat} (hg : g < 8) (h : cdO o = nI g) : o = some g := by
  cases o with
  | none => exact absurd h (by simp only [cdO]; rw [m1_eq (by omega)]; exact id)
  | some x =>
    simp only [cdO] at h
    have h2 := (nI_eq (by omega) (by omega)).mp h
    exact congrArg some (by omega)
theorem lp_bedOf_none {x : Int32} {S : Nat → Int32} (hn : ∀ i, i < 8 → S i ≠ x) (kL : Int32 → Option Int32) : ∀ (d j fuel : Nat), 8 = j + d → d < fuel → f_X3_bedOf_L2 x S fuel (nI j) kL = kL (nI 8) := by
  intro d
  induction d with
  | zero =>
    intro j fuel h1 h3
    obtain ⟨fuel, rfl⟩ : ∃ n, fuel = n + 1 := ⟨fuel - 1, by omega⟩
    have hj : j = 8 := by omega
    subst hj
    rw [f_X3_bedOf_L2]
    simp (disch := omega) only [n_lt, n_le, n_eq, n_lt0, n_ge0, n_eq0, n_gt0, n_le0, n_cl, n_add, n_sub, n_mul, n_m1, n_m6, m1_lt, m6_lt, m1_ge, m6_ge, m1_eq, m6_eq0, m1_eq0, c_leT, c_leF, c_ltT, c_ltF, c_eqF, false_or, or_false, or_self, if_true, if_false, ite_true, ite_false, Option.bind_some, not_true_eq_false, not_false_eq_true, reduceIte]
  | succ d ih =>
    intro j fuel h1 h3
    obtain ⟨fuel, rfl⟩ : ∃ n, fuel = n + 1 := ⟨fuel - 1, by omega⟩
    rw [f_X3_bedOf_L2]
    have hne : (S j = x) = False := eq_false (hn j (by omega))
    simp (disch := omega) only [n_lt, n_le, n_eq, n_lt0, n_ge0, n_eq0, n_gt0, n_le0, n_cl, n_add, n_sub, n_mul, n_m1, n_m6, m1_lt, m6_lt, m1_ge, m6_ge, m1_eq, m6_eq0, m1_eq0, c_leT, c_leF, c_ltT, c_ltF, c_eqF, false_or, or_false, or_self, if_true, if_false, ite_true, ite_false, Option.bind_some, not_true_eq_false, not_false_eq_true, reduceIte, hne]
    exact ih (j + 1) fuel (by omega) (by omega)
theorem lp_bedOf_some {x : Int32} {S : Nat → Int32} {b : Nat} (hb : b < 8) (hx : S b = x) (hn : ∀ i, i < b → S i ≠ x) (kL : Int32 → Option Int32) : ∀ (d j fuel : Nat), b = j + d → d < fuel → f_X3_bedOf_L2 x S fuel (nI j) kL = some (nI b) := by
  intro d
  induction d with
  | zero =>
    intro j fuel h1 h3
    obtain ⟨fuel, rfl⟩ : ∃ n, fuel = n + 1 := ⟨fuel - 1, by omega⟩
    have hj : b = j := by omega
    subst hj
    rw [f_X3_bedOf_L2]
    simp (disch := omega) only [n_lt, n_le, n_eq, n_lt0, n_ge0, n_eq0, n_gt0, n_le0, n_cl, n_add, n_sub, n_mul, n_m1, n_m6, m1_lt, m6_lt, m1_ge, m6_ge, m1_eq, m6_eq0, m1_eq0, c_leT, c_leF, c_ltT, c_ltF, c_eqF, false_or, or_false, or_self, if_true, if_false, ite_true, ite_false, Option.bind_some, not_true_eq_false, not_false_eq_true, reduceIte, hx]
  | succ d ih =>
    intro j fuel h1 h3
    obtain ⟨fuel, rfl⟩ : ∃ n, fuel = n + 1 := ⟨fuel - 1, by omega⟩
    rw [f_X3_bedOf_L2]
    have hne : (S j = x) = False := eq_false (hn j (by omega))
    simp (disch := omega) only [n_lt, n_le, n_eq, n_lt0, n_ge0, n_eq0, n_gt0, n_le0, n_cl, n_add, n_sub, n_mul, n_m1, n_m6, m1_lt, m6_lt, m1_ge, m6_ge, m1_eq, m6_eq0, m1_eq0, c_leT, c_leF, c_ltT, c_ltF, c_eqF, false_or, or_false, or_self, if_true, if_false, ite_true, ite_false, Option.bind_some, not_true_eq_false, not_false_eq_true, reduceIte, hne]
    exact ih (j + 1) fuel (by omega) (by omega)
/-- a guest's bed -/
theorem f_bedOf_some {n k g b : Nat} {C : AIn} {t : InnS} (hC : AOk n C) (hn : n ≤ 8) (h : InR k C t) (hg : g < 8) (hb : C.1 b = some g) : f_X3_bedOf (nI g) t = some (nI b) := by
  obtain ⟨I_law, I_there, I_sleepers, I_empty, I_empties, I_yard, I_waiting, I_nights, I_used, I_sheets, I_lastOnes, I_guestsWithFleas, I_bedsWithFleas, I_isCounting⟩ := t
  obtain ⟨sl, em, ya⟩ := C
  obtain ⟨a1, a2, a3, a4, a5, a6, a7, a8, a9⟩ := hC
  obtain ⟨rfl, ⟨tm, htm, rfl, hth⟩, hsl, rfl, hem, rfl, hya⟩ := h
  simp only at hb hsl
  have hb8 : b < 8 := by
    rcases Nat.lt_or_ge b n with h | h
    · omega
    · have := a3 b h; rw [this] at hb; cases hb
  rw [f_X3_bedOf]
  refine lp_bedOf_some hb8 ?_ ?_ _ b 0 FU (by omega) (by rw [FU_eq]; omega)
  · rw [hsl b hb8, hb]
    simp only [cdO]
    rw [Nat.min_eq_left (by omega)]
  · intro i hi e
    rw [hsl i (by omega)] at e
    have := a7 i b g (cdO_inj hg e) hb
    omega
theorem f_bedOf_none {k g : Nat} {C : AIn} {t : InnS} (h : InR k C t) (hg : g < 8) (hb : ∀ b, C.1 b ≠ some g) : f_X3_bedOf (nI g) t = some (-1) := by
  obtain ⟨I_law, I_there, I_sleepers, I_empty, I_empties, I_yard, I_waiting, I_nights, I_used, I_sheets, I_lastOnes, I_guestsWithFleas, I_bedsWithFleas, I_isCounting⟩ := t
  obtain ⟨sl, em, ya⟩ := C
  obtain ⟨rfl, ⟨tm, htm, rfl, hth⟩, hsl, rfl, hem, rfl, hya⟩ := h
  rw [f_X3_bedOf]
  rw [lp_bedOf_none (fun i hi e => hb i (cdO_inj hg (by rw [← hsl i hi]; exact e))) _ 8 0 FU (by omega) (by rw [FU_eq]; omega)]
/-- is a guest there -/
theorem f_isThere {k g : Nat} {C : AIn} {t : InnS} (h : InR k C t) (hg : g < 8) : ∃ r : Nat, f_X3_isThere (nI g) t = some (nI r) ∧ ((r = 0 ∧ ¬ presA C g) ∨ (r = 1 ∧ presA C g)) := by
  obtain ⟨I_law, I_there, I_sleepers, I_empty, I_empties, I_yard, I_waiting, I_nights, I_used, I_sheets, I_lastOnes, I_guestsWithFleas, I_bedsWithFleas, I_isCounting⟩ := t
  obtain ⟨sl, em, ya⟩ := C
  obtain ⟨rfl, ⟨tm, htm, rfl, hth⟩, hsl, rfl, hem, rfl, hya⟩ := h
  rw [f_X3_isThere]
  have e0 : bitN g = 2 ^ g := if_pos hg
  have e1 := b_tst tm htm g hg
  by_cases hp : tm.testBit g = true
  · refine ⟨1, ?_, Or.inr ⟨rfl, (hth g hg).mp hp⟩⟩
    have e2 : ((nI tm &&& nI (2 ^ g)) = 0) = False := eq_false (fun e => by rw [e1.mp e] at hp; cases hp)
    simp (disch := omega) only [n_lt, n_le, n_eq, n_lt0, n_ge0, n_eq0, n_gt0, n_le0, n_cl, n_add, n_sub, n_mul, n_m1, n_m6, m1_lt, m6_lt, m1_ge, m6_ge, m1_eq, m6_eq0, m1_eq0, c_leT, c_leF, c_ltT, c_ltF, c_eqF, false_or, or_false, or_self, if_true, if_false, ite_true, ite_false, Option.bind_some, not_true_eq_false, not_false_eq_true, reduceIte, f_bitOf (show g < 2147483648 by omega), e0, e2]
  · refine ⟨0, ?_, Or.inl ⟨rfl, fun e => hp ((hth g hg).mpr e)⟩⟩
    have e2 : ((nI tm &&& nI (2 ^ g)) = 0) = True := eq_true (e1.mpr (by simpa using hp))
    simp (disch := omega) only [n_lt, n_le, n_eq, n_lt0, n_ge0, n_eq0, n_gt0, n_le0, n_cl, n_add, n_sub, n_mul, n_m1, n_m6, m1_lt, m6_lt, m1_ge, m6_ge, m1_eq, m6_eq0, m1_eq0, c_leT, c_leF, c_ltT, c_ltF, c_eqF, false_or, or_false, or_self, if_true, if_false, ite_true, ite_false, Option.bind_some, not_true_eq_false, not_false_eq_true, reduceIte, f_bitOf (show g < 2147483648 by omega), e0, e2]
/-- the set of who is there, with one more -/
theorem th_come {tm g : Nat} {C C' : AIn} (htm : tm < 256) (hth : ∀ x, x < 8 → (tm.testBit x = true ↔ presA C x)) (hC : ∀ x, presA C' x ↔ (x = g ∨ presA C x)) : ∃ tm', tm' < 256 ∧ nI tm ||| nI (bitN (min g 8)) = nI tm' ∧ ∀ x, x < 8 → (tm'.testBit x = true ↔ presA C' x) := by
  by_cases hg : g < 8
  · have e0 : bitN (min g 8) = 2 ^ g := by rw [Nat.min_eq_left (by omega)]; exact if_pos hg
    rw [e0]
    have e1 := b_or tm htm g hg
    refine ⟨tm ||| 2 ^ g, e1.2, e1.1, fun x hx => ?_⟩
    rw [b_torR tm htm g hg x hx, hth x hx, hC]
  · have e0 : bitN (min g 8) = 0 := by rw [Nat.min_eq_right (by omega)]; rfl
    rw [e0, b_or0]
    refine ⟨tm, htm, rfl, fun x hx => ?_⟩
    rw [hth x hx, hC]
    exact ⟨Or.inr, fun h => h.resolve_left (by omega)⟩
theorem th_go {tm g : Nat} {C C' : AIn} (htm : tm < 256) (hth : ∀ x, x < 8 → (tm.testBit x = true ↔ presA C x)) (hC : ∀ x, presA C' x ↔ (x ≠ g ∧ presA C x)) : ∃ tm', tm' < 256 ∧ nI tm &&& (nI (bitN (min g 8)) ^^^ (-1)) = nI tm' ∧ ∀ x, x < 8 → (tm'.testBit x = true ↔ presA C' x) := by
  by_cases hg : g < 8
  · have e0 : bitN (min g 8) = 2 ^ g := by rw [Nat.min_eq_left (by omega)]; exact if_pos hg
    rw [e0]
    have e1 := b_clr tm htm g hg
    refine ⟨clr tm g, e1.2, e1.1, fun x hx => ?_⟩
    rw [b_tclr tm htm g hg x hx, hth x hx, hC]
  · have e0 : bitN (min g 8) = 0 := by rw [Nat.min_eq_right (by omega)]; rfl
    rw [e0, b_clr0 tm htm]
    refine ⟨tm, htm, rfl, fun x hx => ?_⟩
    rw [hth x hx, hC]
    exact ⟨fun h => ⟨by omega, h⟩, fun h => h.2⟩
theorem upd_cdO {sl : Nat → Option Nat} {S : Nat → Int32} (h : ∀ b, b < 8 → S b = cdO (sl b)) (b0 : Nat) {o : Option Nat} {c : Int32} (hc : c = cdO o) : ∀ b, b < 8 → upd S b0 c b = cdO (upO sl b0 o b) := by
  intro b hb
  simp only [upd, upO]
  by_cases e : b = b0
  · rw [if_pos e, if_pos e, hc]
  · rw [if_neg e, if_neg e, h b hb]
theorem upd_n {s : Nat → Nat} {S : Nat → Int32} (h : ∀ b, b < 8 → S b = nI (s b)) {b0 : Nat} (hb0 : b0 < 8) : ∀ b, b < 8 → upd S b0 (S b0 + nI 1) b = nI (upO s b0 (s b0 + 1) b) := by
  intro b hb
  simp only [upd, upO]
  by_cases e : b = b0
  · rw [if_pos e, if_pos e, h b0 hb0, n_add]
  · rw [if_neg e, if_neg e, h b hb]
theorem upd_cdL {sl : Nat → Option Nat} {S : Nat → Int32} (h : ∀ b, b < 8 → S b = cdL (sl b)) (b0 g : Nat) : ∀ b, b < 8 → upd S b0 (nI g) b = cdL (upO sl b0 (some g) b) := by
  intro b hb
  simp only [upd, upO]
  by_cases e : b = b0
  · rw [if_pos e, if_pos e]; rfl
  · rw [if_neg e, if_neg e, h b hb]
theorem cdL_eq {o : Option Nat} {g : Nat} (ho : ∀ x, o = some x → x < 8) (hg : g < 8) : (cdL o = nI g) ↔ o = some g := by
  cases o with
  | none =>
    simp only [cdL]
    rw [m1_eq (by omega)]
    exact ⟨False.elim, fun h => by cases h⟩
  | some x =>
    have := ho x rfl
    simp only [cdL]
    rw [nI_eq (by omega) (by omega)]
    exact ⟨fun h => by rw [h], fun h => by cases h; rfl⟩
/-- what is counted when a guest takes a bed -/
theorem kn_take {K : AKn} {b g : Nat} (hb : b < 8) (hg : g < 8) {I_law I_there I_empties I_waiting I_guestsWithFleas I_bedsWithFleas I_isCounting : Int32} {I_sleepers I_empty I_yard I_nights I_used I_sheets I_lastOnes : Nat → Int32} {th : Int32} {sl em ya : Nat → Int32} {e w : Int32} (h : KnR K (I_law, I_there, I_sleepers, I_empty, I_empties, I_yard, I_waiting, I_nights, I_used, I_sheets, I_lastOnes, I_guestsWithFleas, I_bedsWithFleas, I_isCounting)) : KnR (takeK b g K) (I_law, th, sl, em, e, ya, w, I_nights, upd I_used b (I_used b + nI 1), if I_lastOnes b = nI g then I_sheets else upd I_sheets b (I_sheets b + nI 1), upd I_lastOnes b (nI g), I_guestsWithFleas, I_bedsWithFleas, I_isCounting) := by
  obtain ⟨ni, us, sh, la, gf, bf⟩ := K
  obtain ⟨k1, k2, k3, k4, k5, k6, k7, k8, k9, k10⟩ := h
  have hl := cdL_eq (fun x hx => k8 b x hx) hg (o := la b)
  rw [← k4 b hb] at hl
  refine ⟨k1, upd_n k2 hb, ?_, upd_cdL k4 b g, k5, k6, k7, fun b' x hx => ?_, k9, k10⟩
  · by_cases e : la b = some g
    · rw [if_pos e, if_pos (hl.mpr e)]; exact k3
    · rw [if_neg e, if_neg (fun z => e (hl.mp z))]; exact upd_n k3 hb
  · simp only [upO] at hx
    split at hx
    · cases hx; exact hg
    · exact k8 b' x hx
/-- somebody comes -/
theorem f_takeIn {n k q : Nat} {w sg sb : Nat → Nat} {tH : HouS} (hH : HouR tH (n, k, q, w, sg, sb)) (hw : ∀ j, w j ≤ 99) (hn : n ≤ 8) {kk g : Nat} (hkk : kk < 4) {C : AIn} {t : InnS} (hC : AOk n C) (h : InR kk C t) (hg : g < 16) (hp : ¬ presA C g) :
    ∃ t', f_X3_takeIn (nI (min g 8)) tH t = some t' ∧ InR kk (comeA (chA kk (wA w g) C.2.1) g C) t' ∧ ∀ K, g < 8 → KnR K t → KnR (comeK (chA kk (wA w g) C.2.1) g C K) t' := by
  obtain ⟨I_law, I_there, I_sleepers, I_empty, I_empties, I_yard, I_waiting, I_nights, I_used, I_sheets, I_lastOnes, I_guestsWithFleas, I_bedsWithFleas, I_isCounting⟩ := t
  obtain ⟨H_beds, H_law, H_sights, H_isKept, H_worths, H_sightGuests, H_sightBeds⟩ := tH
  have hpres := comeA_pres (g := g) hC (fun e => chA_lt kk (wA w g) _ e)
  have hyl := ya_lt hC hg hp
  have hel := em_le hC
  obtain ⟨sl, em, ya⟩ := C
  obtain ⟨a1, a2, a3, a4, a5, a6, a7, a8, a9⟩ := hC
  obtain ⟨rfl, ⟨tm, htm, rfl, hth⟩, hsl, rfl, hem, rfl, hya⟩ := h
  simp only at hem hya hsl hyl hel hpres ⊢
  obtain ⟨tm', htm', etm, hth'⟩ := th_come (C' := comeA (chA kk (wA w g) em) g (sl, em, ya)) htm hth hpres
  rw [f_X3_takeIn]
  have hmin : min g 8 < 2147483648 := by omega
  have hemb : ∀ i, i < em.length → em.getD i 0 < n := fun i hi => by
    refine ((a2 _).mp ?_).1
    rw [List.getD_eq_getElem?_getD, List.getElem?_eq_getElem hi]
    exact List.getElem_mem hi
  simp only [f_bitOf hmin, Option.bind_some, etm]
  rw [f_choice hH hw hkk (em := em) (by omega) (fun i hi => by have := hemb i hi; omega) rfl rfl hem]
  simp only [Option.bind_some]
  by_cases he : em = []
  · rw [if_pos he, if_pos rfl, f_waitInYard hyl _ rfl]
    refine ⟨_, rfl, ?_, ?_⟩
    · simp only [comeA, if_pos he]
      refine ⟨rfl, ⟨tm', htm', rfl, ?_⟩, hsl, rfl, hem, ?_, ?_⟩
      · simpa only [comeA, if_pos he] using hth'
      · simp
      · intro i hi
        simp only [List.length_append, List.length_singleton] at hi
        simp only [upd]
        by_cases hie : i = ya.length
        · rw [if_pos hie, hie, List.getD_eq_getElem?_getD, List.getElem?_append_right (by omega)]
          simp
        · rw [if_neg hie, hya i (by omega), List.getD_eq_getElem?_getD, List.getD_eq_getElem?_getD, List.getElem?_append_left (by omega)]
    · intro K _ hK
      simp only [comeK, if_pos he]
      exact hK
  · rw [if_neg he]
    have hch := chA_lt kk (wA w g) em he
    have hbe := hemb _ hch
    have e1 : (nI (chA kk (wA w g) em) = -1) = False := n_m1 (by omega)
    simp only [e1, if_false]
    rw [f_takeFromEmpty hch (by omega) rfl]
    simp only [Option.bind_some]
    rw [hem _ hch, f_occupy (by omega)]
    refine ⟨_, rfl, ?_, ?_⟩
    · simp only [comeA, if_neg he]
      refine ⟨rfl, ⟨tm', htm', rfl, ?_⟩, upd_cdO hsl _ rfl, ?_, ?_, rfl, hya⟩
      · simpa only [comeA, if_neg he] using hth'
      · simp only [List.length_eraseIdx_of_lt hch]
      · exact shY_hold (f := nI) hem hch
    · intro K hg8 hK
      simp only [comeK, if_neg he]
      have e2 : min g 8 = g := by omega
      rw [e2]
      exact kn_take (by omega) hg8 hK
