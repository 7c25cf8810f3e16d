/-! the class's inn: nights and days -/
def nbK (sl : Nat → Option Nat) (b : Nat) : AKn → AKn
  | (ni, us, sh, la, gf, bf) => match sl b with
    | none => (ni, us, sh, la, gf, bf)
    | some g => if gf.testBit g = true ∨ bf.testBit b = true then (upO ni b (ni b + 1), us, sh, la, gf ||| 2 ^ g, bf ||| 2 ^ b) else (upO ni b (ni b + 1), us, sh, la, gf, bf)
def nightK (sl : Nat → Option Nat) : Nat → AKn → AKn
  | 0, K => K
  | b + 1, K => nbK sl b (nightK sl b K)
def GO (C : AIn) : Prop := ∀ x, presA C x → x < 8
theorem f_bitOf_any (x : Int32) : ∃ r, f_X3_bitOf x = some r := by
  rw [f_X3_bitOf]
  split
  · exact ⟨_, rfl⟩
  · split <;> exact ⟨_, rfl⟩
theorem f_share (x1 x2 : Int32) {I_law I_there I_empties I_waiting I_guestsWithFleas I_bedsWithFleas I_isCounting : Int32} {I_sleepers I_empty I_yard I_nights I_used I_sheets I_lastOnes : Nat → Int32} : ∃ gf' bf', f_X3_shareFleas x1 x2 (I_law, I_there, I_sleepers, I_empty, I_empties, I_yard, I_waiting, I_nights, I_used, I_sheets, I_lastOnes, I_guestsWithFleas, I_bedsWithFleas, I_isCounting) = some (I_law, I_there, I_sleepers, I_empty, I_empties, I_yard, I_waiting, I_nights, I_used, I_sheets, I_lastOnes, gf', bf', I_isCounting) ∧
    ∀ b g gN bN : Nat, b < 8 → g < 8 → gN < 256 → bN < 256 → x1 = nI b → x2 = nI g → I_guestsWithFleas = nI gN → I_bedsWithFleas = nI bN → (((gN.testBit g = true ∨ bN.testBit b = true) ∧ gf' = nI (gN ||| 2 ^ g) ∧ bf' = nI (bN ||| 2 ^ b)) ∨ (¬ (gN.testBit g = true ∨ bN.testBit b = true) ∧ gf' = nI gN ∧ bf' = nI bN)) := by
  obtain ⟨r, hr⟩ := f_bitOf_any x2
  have key : ∀ b g gN bN : Nat, b < 8 → g < 8 → gN < 256 → bN < 256 → x1 = nI b → x2 = nI g → I_guestsWithFleas = nI gN → I_bedsWithFleas = nI bN → (((I_guestsWithFleas &&& r) = 0) ↔ gN.testBit g = false) ∧ (((I_bedsWithFleas &&& (nI 1 <<< (x1 &&& 31))) = 0) ↔ bN.testBit b = false) ∧ I_guestsWithFleas ||| r = nI (gN ||| 2 ^ g) ∧ I_bedsWithFleas ||| (nI 1 <<< (x1 &&& 31)) = nI (bN ||| 2 ^ b) := by
    intro b g gN bN hb hg hgN hbN e1 e2 e3 e4
    subst e1 e2 e3 e4
    rw [f_bitOf (by omega)] at hr
    have e0 : bitN g = 2 ^ g := if_pos hg
    rw [e0] at hr
    obtain rfl := Option.some.inj hr
    rw [b_sh b hb]
    exact ⟨b_tst gN hgN g hg, b_tst bN hbN b hb, (b_or gN hgN g hg).1, (b_or bN hbN b hb).1⟩
  rw [f_X3_shareFleas]
  simp only [hr, Option.bind_some]
  by_cases h1 : (I_guestsWithFleas &&& r) = 0
  · by_cases h2 : (I_bedsWithFleas &&& (nI 1 <<< (x1 &&& 31))) = 0
    · rw [if_pos h1, if_pos h2]
      refine ⟨_, _, rfl, fun b g gN bN hb hg hgN hbN e1 e2 e3 e4 => Or.inr ?_⟩
      obtain ⟨k1, k2, k3, k4⟩ := key b g gN bN hb hg hgN hbN e1 e2 e3 e4
      exact ⟨by rw [k1.mp h1, k2.mp h2]; simp, e3, e4⟩
    · rw [if_pos h1, if_neg h2]
      refine ⟨_, _, rfl, fun b g gN bN hb hg hgN hbN e1 e2 e3 e4 => Or.inl ?_⟩
      obtain ⟨k1, k2, k3, k4⟩ := key b g gN bN hb hg hgN hbN e1 e2 e3 e4
      exact ⟨Or.inr (by have := mt k2.mpr h2; simpa using this), k3, k4⟩
  · rw [if_neg h1]
    refine ⟨_, _, rfl, fun b g gN bN hb hg hgN hbN e1 e2 e3 e4 => Or.inl ?_⟩
    obtain ⟨k1, k2, k3, k4⟩ := key b g gN bN hb hg hgN hbN e1 e2 e3 e4
    exact ⟨Or.inl (by have := mt k1.mpr h1; simpa using this), k3, k4⟩
theorem lp_passNight {k : Nat} {C : AIn} : ∀ (d j fuel : Nat) {I_law I_there I_empties I_waiting I_guestsWithFleas I_bedsWithFleas I_isCounting : Int32} {I_sleepers I_empty I_yard I_nights I_used I_sheets I_lastOnes : Nat → Int32}, 8 = j + d → d < fuel → InR k C (I_law, I_there, I_sleepers, I_empty, I_empties, I_yard, I_waiting, I_nights, I_used, I_sheets, I_lastOnes, I_guestsWithFleas, I_bedsWithFleas, I_isCounting) → ∃ t', f_X3_passNight_L2 fuel (nI j) I_law I_there I_sleepers I_empty I_empties I_yard I_waiting I_nights I_used I_sheets I_lastOnes I_guestsWithFleas I_bedsWithFleas I_isCounting (fun _ a1 a2 a3 a4 a5 a6 a7 a8 a9 a10 a11 a12 a13 a14 => some (a1, a2, a3, a4, a5, a6, a7, a8, a9, a10, a11, a12, a13, a14)) = some t' ∧ InR k C t' ∧ ∀ K, GO C → KnR (nightK C.1 j K) (I_law, I_there, I_sleepers, I_empty, I_empties, I_yard, I_waiting, I_nights, I_used, I_sheets, I_lastOnes, I_guestsWithFleas, I_bedsWithFleas, I_isCounting) → KnR (nightK C.1 8 K) t' := by
  intro d
  induction d with
  | zero =>
    intro j fuel I_law I_there I_empties I_waiting I_guestsWithFleas I_bedsWithFleas I_isCounting I_sleepers I_empty I_yard I_nights I_used I_sheets I_lastOnes h1 h3 h
    obtain ⟨fuel, rfl⟩ : ∃ n, fuel = n + 1 := ⟨fuel - 1, by omega⟩
    have hj : j = 8 := by omega
    subst hj
    rw [f_X3_passNight_L2]
    simp (disch := omega) only [n_lt, n_le, n_eq, n_lt0, n_ge0, n_eq0, n_gt0, n_le0, n_cl, n_add, n_sub, n_mul, n_m1, n_m6, m1_lt, m6_lt, m1_ge, m6_ge, m1_eq, m6_eq0, m1_eq0, c_leT, c_leF, c_ltT, c_ltF, c_eqF, false_or, or_false, or_self, if_true, if_false, ite_true, ite_false, Option.bind_some, not_true_eq_false, not_false_eq_true, reduceIte]
    exact ⟨_, rfl, h, fun K _ hK => hK⟩
  | succ d ih =>
    intro j fuel I_law I_there I_empties I_waiting I_guestsWithFleas I_bedsWithFleas I_isCounting I_sleepers I_empty I_yard I_nights I_used I_sheets I_lastOnes h1 h3 h
    obtain ⟨fuel, rfl⟩ : ∃ n, fuel = n + 1 := ⟨fuel - 1, by omega⟩
    rw [f_X3_passNight_L2]
    have hslj : I_sleepers j = cdO (C.1 j) := h.2.2.1 j (by omega)
    simp (disch := omega) only [n_lt, n_le, n_eq, n_lt0, n_ge0, n_eq0, n_gt0, n_le0, n_cl, n_add, n_sub, n_mul, n_m1, n_m6, m1_lt, m6_lt, m1_ge, m6_ge, m1_eq, m6_eq0, m1_eq0, c_leT, c_leF, c_ltT, c_ltF, c_eqF, false_or, or_false, or_self, if_true, if_false, ite_true, ite_false, Option.bind_some, not_true_eq_false, not_false_eq_true, reduceIte, hslj]
    cases ho : C.1 j with
    | none =>
      simp only [cdO, if_true]
      obtain ⟨t', e1, e2, e3⟩ := ih (j + 1) fuel (by omega) (by omega) h
      refine ⟨t', e1, e2, fun K hgo hK => e3 K hgo ?_⟩
      simp only [nightK, nbK, ho]
      exact hK
    | some g =>
      have e1 : (cdO (some g) = -1) = False := eq_false (fun e => by have := cdO_m1.mp e; cases this)
      simp only [e1, if_false]
      obtain ⟨gf', bf', e2, e3⟩ := f_share (nI j) (cdO (some g)) (I_law := I_law) (I_there := I_there) (I_sleepers := I_sleepers) (I_empty := I_empty) (I_empties := I_empties) (I_yard := I_yard) (I_waiting := I_waiting) (I_nights := upd I_nights j (I_nights j + nI 1)) (I_used := I_used) (I_sheets := I_sheets) (I_lastOnes := I_lastOnes) (I_guestsWithFleas := I_guestsWithFleas) (I_bedsWithFleas := I_bedsWithFleas) (I_isCounting := I_isCounting)
      simp only [e2, Option.bind_some]
      obtain ⟨t', e4, e5, e6⟩ := ih (j + 1) fuel (I_law := I_law) (I_there := I_there) (I_sleepers := I_sleepers) (I_empty := I_empty) (I_empties := I_empties) (I_yard := I_yard) (I_waiting := I_waiting) (I_nights := upd I_nights j (I_nights j + nI 1)) (I_used := I_used) (I_sheets := I_sheets) (I_lastOnes := I_lastOnes) (I_guestsWithFleas := gf') (I_bedsWithFleas := bf') (I_isCounting := I_isCounting) (by omega) (by omega) h
      refine ⟨t', e4, e5, fun K hgo hK => e6 K hgo ?_⟩
      have hg8 : g < 8 := hgo g (Or.inl ⟨j, ho⟩)
      simp only [nightK]
      generalize nightK C.1 j K = K1 at hK
      obtain ⟨ni, us, sh, la, gf, bf⟩ := K1
      obtain ⟨k1, k2, k3, k4, k5, k6, k7, k8, k9, k10⟩ := hK
      have e7 := e3 j g gf bf (by omega) hg8 k9 k10 rfl (by simp only [cdO]; rw [Nat.min_eq_left (by omega)]) k5 k6
      simp only [nbK, ho]
      rcases e7 with ⟨c1, c2, c3⟩ | ⟨c1, c2, c3⟩
      · rw [if_pos c1]
        exact ⟨upd_n k1 (by omega), k2, k3, k4, c2, c3, k7, k8, (b_or gf k9 g hg8).2, (b_or bf k10 j (by omega)).2⟩
      · rw [if_neg c1]
        exact ⟨upd_n k1 (by omega), k2, k3, k4, c2, c3, k7, k8, k9, k10⟩
theorem f_passNight {k : Nat} {C : AIn} {t : InnS} (h : InR k C t) : ∃ t', f_X3_passNight t = some t' ∧ InR k C t' ∧ ∀ K, GO C → KnR K t → KnR (nightK C.1 8 K) t' := by
  obtain ⟨I_law, I_there, I_sleepers, I_empty, I_empties, I_yard, I_waiting, I_nights, I_used, I_sheets, I_lastOnes, I_guestsWithFleas, I_bedsWithFleas, I_isCounting⟩ := t
  rw [f_X3_passNight]
  exact lp_passNight 8 0 FU (by omega) (by rw [FU_eq]; omega) h
/-- events -/
def presB (C : AIn) (g : Nat) : Bool := (bedA C.1 g).isSome || decide (g ∈ C.2.2)
theorem presB_iff {n g : Nat} {C : AIn} (hC : AOk n C) (hn : n ≤ 8) : presB C g = true ↔ presA C g := by
  obtain ⟨sl, em, ya⟩ := C
  simp only [presB, presA, Bool.or_eq_true, decide_eq_true_eq]
  constructor
  · rintro (h | h)
    · obtain ⟨b, hb⟩ := Option.isSome_iff_exists.mp h
      exact Or.inl ⟨b, (bedA_some hb).1⟩
    · exact Or.inr h
  · rintro (⟨b, hb⟩ | h)
    · left
      cases hq : bedA sl g with
      | some b' => rfl
      | none =>
        exfalso
        rcases Nat.lt_or_ge b 8 with h8 | h8
        · exact bedA_none hq b h8 hb
        · have := hC.2.2.1 b (by omega); rw [this] at hb; cases hb
    · exact Or.inr h
def isCo (s : Nat) : Prop := 65 ≤ s ∧ s ≤ 72
def isGo (s : Nat) : Prop := 97 ≤ s ∧ s ≤ 104
def whyA (s : Nat) (C : AIn) : Nat := if 65 ≤ s ∧ s ≤ 72 then (if presB C (s - 65) = true then 1 else 0) else if 97 ≤ s ∧ s ≤ 104 then (if presB C (s - 97) = true then 0 else 2) else 0
def evC (kk : Nat) (w : Nat → Nat) (s : Nat) (C : AIn) : AIn := if 65 ≤ s ∧ s ≤ 72 then comeA (chA kk (wA w (s - 65)) C.2.1) (s - 65) C else if 97 ≤ s ∧ s ≤ 104 then goA (s - 97) C else C
def evK (kk : Nat) (w : Nat → Nat) (s : Nat) (C : AIn) (K : AKn) : AKn := if 65 ≤ s ∧ s ≤ 72 then comeK (chA kk (wA w (s - 65)) C.2.1) (s - 65) C K else if 97 ≤ s ∧ s ≤ 104 then goK (s - 97) C K else if s = 46 then nightK C.1 8 K else K
theorem evC_ok {n kk s : Nat} {w : Nat → Nat} {C : AIn} (hC : AOk n C) (hn : n ≤ 8) (hs : whyA s C = 0) : AOk n (evC kk w s C) := by
  unfold evC
  unfold whyA at hs
  by_cases h1 : 65 ≤ s ∧ s ≤ 72
  · rw [if_pos h1] at hs ⊢
    refine comeA_ok hC (by omega) (fun hp => ?_) (fun e => chA_lt kk _ _ e)
    rw [if_pos ((presB_iff hC hn).mpr hp)] at hs
    cases hs
  · rw [if_neg h1] at hs ⊢
    by_cases h2 : 97 ≤ s ∧ s ≤ 104
    · rw [if_pos h2] at hs ⊢
      refine goA_ok hC hn ?_
      by_cases hp : presB C (s - 97) = true
      · exact (presB_iff hC hn).mp hp
      · rw [if_neg hp] at hs; cases hs
    · rw [if_neg h2]
      exact hC
theorem evC_go {n kk s : Nat} {w : Nat → Nat} {C : AIn} (hC : AOk n C) (hn : n ≤ 8) (hs : whyA s C = 0) (hg : GO C) : GO (evC kk w s C) := by
  unfold evC
  unfold whyA at hs
  by_cases h1 : 65 ≤ s ∧ s ≤ 72
  · rw [if_pos h1]
    intro x hx
    rcases (comeA_pres hC (fun e => chA_lt kk _ _ e) x).mp hx with h | h
    · omega
    · exact hg x h
  · rw [if_neg h1] at hs ⊢
    by_cases h2 : 97 ≤ s ∧ s ≤ 104
    · rw [if_pos h2] at hs ⊢
      intro x hx
      refine hg x ((goA_pres hC hn ?_ x).mp hx).2
      by_cases hp : presB C (s - 97) = true
      · exact (presB_iff hC hn).mp hp
      · rw [if_neg hp] at hs; cases hs
    · rw [if_neg h2]
      exact hg
def runA (kk : Nat) (w d : Nat → Nat) : Nat → Nat → AIn → Option Nat × AIn
  | 0, _, C => (none, C)
  | m + 1, p, C => if whyA (d p) C = 0 then runA kk w d m (p + 1) (evC kk w (d p) C) else (some p, C)
def runK (kk : Nat) (w d : Nat → Nat) : Nat → Nat → AIn → AKn → AKn
  | 0, _, _, K => K
  | m + 1, p, C, K => if whyA (d p) C = 0 then runK kk w d m (p + 1) (evC kk w (d p) C) (evK kk w (d p) C K) else K
theorem runA_ok {n kk : Nat} {w d : Nat → Nat} (hn : n ≤ 8) : ∀ (m p : Nat) (C : AIn), AOk n C → AOk n (runA kk w d m p C).2
  | 0, _, _, h => h
  | m + 1, p, C, h => by
    simp only [runA]
    split
    · rename_i hs
      exact runA_ok hn m (p + 1) _ (evC_ok h hn hs)
    · exact h
theorem runA_go {n kk : Nat} {w d : Nat → Nat} (hn : n ≤ 8) : ∀ (m p : Nat) (C : AIn), AOk n C → GO C → GO (runA kk w d m p C).2
  | 0, _, _, _, h => h
  | m + 1, p, C, h, hg => by
    simp only [runA]
    split
    · rename_i hs
      exact runA_go hn m (p + 1) _ (evC_ok h hn hs) (evC_go h hn hs hg)
    · exact hg
theorem f_isComing {s : Nat} (hs : s < 2147483648) : f_X0_isComing (nI s) = some (nI (if 65 ≤ s ∧ s ≤ 72 then 1 else 0)) := by
  unfold f_X0_isComing
  by_cases h1 : s < 65
  · rw [if_neg (show ¬ (65 ≤ s ∧ s ≤ 72) by omega)]
    simp (disch := omega) only [n_lt, n_le, n_eq, n_lt0, n_ge0, n_eq0, n_gt0, n_le0, n_cl, n_add, n_sub, n_mul, n_m1, n_m6, m1_lt, m6_lt, m1_ge, m6_ge, m1_eq, m6_eq0, m1_eq0, c_leT, c_leF, c_ltT, c_ltF, c_eqF, false_or, or_false, or_self, if_true, if_false, ite_true, ite_false, Option.bind_some, not_true_eq_false, not_false_eq_true, reduceIte]
  · by_cases h2 : 72 < s
    · rw [if_neg (show ¬ (65 ≤ s ∧ s ≤ 72) by omega)]
      simp (disch := omega) only [n_lt, n_le, n_eq, n_lt0, n_ge0, n_eq0, n_gt0, n_le0, n_cl, n_add, n_sub, n_mul, n_m1, n_m6, m1_lt, m6_lt, m1_ge, m6_ge, m1_eq, m6_eq0, m1_eq0, c_leT, c_leF, c_ltT, c_ltF, c_eqF, false_or, or_false, or_self, if_true, if_false, ite_true, ite_false, Option.bind_some, not_true_eq_false, not_false_eq_true, reduceIte]
    · rw [if_pos (show (65 ≤ s ∧ s ≤ 72) by omega)]
      simp (disch := omega) only [n_lt, n_le, n_eq, n_lt0, n_ge0, n_eq0, n_gt0, n_le0, n_cl, n_add, n_sub, n_mul, n_m1, n_m6, m1_lt, m6_lt, m1_ge, m6_ge, m1_eq, m6_eq0, m1_eq0, c_leT, c_leF, c_ltT, c_ltF, c_eqF, false_or, or_false, or_self, if_true, if_false, ite_true, ite_false, Option.bind_some, not_true_eq_false, not_false_eq_true, reduceIte]
theorem f_isGoing {s : Nat} (hs : s < 2147483648) : f_X0_isGoing (nI s) = some (nI (if 97 ≤ s ∧ s ≤ 104 then 1 else 0)) := by
  unfold f_X0_isGoing
  by_cases h1 : s < 97
  · rw [if_neg (show ¬ (97 ≤ s ∧ s ≤ 104) by omega)]
    simp (disch := omega) only [n_lt, n_le, n_eq, n_lt0, n_ge0, n_eq0, n_gt0, n_le0, n_cl, n_add, n_sub, n_mul, n_m1, n_m6, m1_lt, m6_lt, m1_ge, m6_ge, m1_eq, m6_eq0, m1_eq0, c_leT, c_leF, c_ltT, c_ltF, c_eqF, false_or, or_false, or_self, if_true, if_false, ite_true, ite_false, Option.bind_some, not_true_eq_false, not_false_eq_true, reduceIte]
  · by_cases h2 : 104 < s
    · rw [if_neg (show ¬ (97 ≤ s ∧ s ≤ 104) by omega)]
      simp (disch := omega) only [n_lt, n_le, n_eq, n_lt0, n_ge0, n_eq0, n_gt0, n_le0, n_cl, n_add, n_sub, n_mul, n_m1, n_m6, m1_lt, m6_lt, m1_ge, m6_ge, m1_eq, m6_eq0, m1_eq0, c_leT, c_leF, c_ltT, c_ltF, c_eqF, false_or, or_false, or_self, if_true, if_false, ite_true, ite_false, Option.bind_some, not_true_eq_false, not_false_eq_true, reduceIte]
    · rw [if_pos (show (97 ≤ s ∧ s ≤ 104) by omega)]
      simp (disch := omega) only [n_lt, n_le, n_eq, n_lt0, n_ge0, n_eq0, n_gt0, n_le0, n_cl, n_add, n_sub, n_mul, n_m1, n_m6, m1_lt, m6_lt, m1_ge, m6_ge, m1_eq, m6_eq0, m1_eq0, c_leT, c_leF, c_ltT, c_ltF, c_eqF, false_or, or_false, or_self, if_true, if_false, ite_true, ite_false, Option.bind_some, not_true_eq_false, not_false_eq_true, reduceIte]
theorem f_signAt {tD : DayS} {m : Nat} {d : Nat → Nat} (h : DayR tD m d) {p : Nat} (hp : p < m) : f_X0_signAt (nI p) tD = some (nI (d p)) := by
  obtain ⟨len, S⟩ := tD
  obtain ⟨rfl, h2, h3⟩ := h
  rw [f_X0_signAt]
  simp (disch := omega) only [n_lt, n_le, n_eq, n_lt0, n_ge0, n_eq0, n_gt0, n_le0, n_cl, n_add, n_sub, n_mul, n_m1, n_m6, m1_lt, m6_lt, m1_ge, m6_ge, m1_eq, m6_eq0, m1_eq0, c_leT, c_leF, c_ltT, c_ltF, c_eqF, false_or, or_false, or_self, if_true, if_false, ite_true, ite_false, Option.bind_some, not_true_eq_false, not_false_eq_true, reduceIte, (h3 p (by omega)).1]
theorem f_whyNot {n kk s : Nat} {C : AIn} {t : InnS} (hC : AOk n C) (hn : n ≤ 8) (h : InR kk C t) (hs : s < 127) : f_X3_whyNot (nI s) t = some (nI (whyA s C)) := by
  have ht : ∀ g, g < 8 → f_X3_isThere (nI g) t = some (nI (if presB C g = true then 1 else 0)) := by
    intro g hg
    obtain ⟨r, h1, h2⟩ := f_isThere h hg
    rw [h1]
    rcases h2 with ⟨rfl, h2⟩ | ⟨rfl, h2⟩
    · rw [if_neg (fun e => h2 ((presB_iff hC hn).mp e))]
    · rw [if_pos ((presB_iff hC hn).mpr h2)]
  obtain ⟨I_law, I_there, I_sleepers, I_empty, I_empties, I_yard, I_waiting, I_nights, I_used, I_sheets, I_lastOnes, I_guestsWithFleas, I_bedsWithFleas, I_isCounting⟩ := t
  rw [f_X3_whyNot]
  unfold whyA
  simp only [f_isComing (show s < 2147483648 by omega), f_isGoing (show s < 2147483648 by omega), Option.bind_some]
  by_cases h1 : 65 ≤ s ∧ s ≤ 72
  · have h2 : ¬ (97 ≤ s ∧ s ≤ 104) := by omega
    simp only [if_pos h1, if_neg h2]
    rw [n_sub (show 65 ≤ s by omega), ht (s - 65) (by omega)]
    by_cases hp : presB C (s - 65) = true
    · simp (disch := omega) only [n_lt, n_le, n_eq, n_lt0, n_ge0, n_eq0, n_gt0, n_le0, n_cl, n_add, n_sub, n_mul, n_m1, n_m6, m1_lt, m6_lt, m1_ge, m6_ge, m1_eq, m6_eq0, m1_eq0, c_leT, c_leF, c_ltT, c_ltF, c_eqF, false_or, or_false, or_self, if_true, if_false, ite_true, ite_false, Option.bind_some, not_true_eq_false, not_false_eq_true, reduceIte, if_pos hp]
    · simp (disch := omega) only [n_lt, n_le, n_eq, n_lt0, n_ge0, n_eq0, n_gt0, n_le0, n_cl, n_add, n_sub, n_mul, n_m1, n_m6, m1_lt, m6_lt, m1_ge, m6_ge, m1_eq, m6_eq0, m1_eq0, c_leT, c_leF, c_ltT, c_ltF, c_eqF, false_or, or_false, or_self, if_true, if_false, ite_true, ite_false, Option.bind_some, not_true_eq_false, not_false_eq_true, reduceIte, if_neg hp]
  · by_cases h2 : 97 ≤ s ∧ s ≤ 104
    · simp only [if_neg h1, if_pos h2]
      rw [n_sub (show 97 ≤ s by omega), ht (s - 97) (by omega)]
      by_cases hp : presB C (s - 97) = true
      · simp (disch := omega) only [n_lt, n_le, n_eq, n_lt0, n_ge0, n_eq0, n_gt0, n_le0, n_cl, n_add, n_sub, n_mul, n_m1, n_m6, m1_lt, m6_lt, m1_ge, m6_ge, m1_eq, m6_eq0, m1_eq0, c_leT, c_leF, c_ltT, c_ltF, c_eqF, false_or, or_false, or_self, if_true, if_false, ite_true, ite_false, Option.bind_some, not_true_eq_false, not_false_eq_true, reduceIte, if_pos hp]
      · simp (disch := omega) only [n_lt, n_le, n_eq, n_lt0, n_ge0, n_eq0, n_gt0, n_le0, n_cl, n_add, n_sub, n_mul, n_m1, n_m6, m1_lt, m6_lt, m1_ge, m6_ge, m1_eq, m6_eq0, m1_eq0, c_leT, c_leF, c_ltT, c_ltF, c_eqF, false_or, or_false, or_self, if_true, if_false, ite_true, ite_false, Option.bind_some, not_true_eq_false, not_false_eq_true, reduceIte, if_neg hp]
    · simp only [if_neg h1, if_neg h2]
      simp (disch := omega) only [n_lt, n_le, n_eq, n_lt0, n_ge0, n_eq0, n_gt0, n_le0, n_cl, n_add, n_sub, n_mul, n_m1, n_m6, m1_lt, m6_lt, m1_ge, m6_ge, m1_eq, m6_eq0, m1_eq0, c_leT, c_leF, c_ltT, c_ltF, c_eqF, false_or, or_false, or_self, if_true, if_false, ite_true, ite_false, Option.bind_some, not_true_eq_false, not_false_eq_true, reduceIte]
def cdP : Option Nat → Int32
  | none => -6
  | some p => nI p
theorem lp_live {n k q : Nat} {w sg sb : Nat → Nat} {H_beds H_law H_sights H_isKept : Int32} {H_worths H_sightGuests H_sightBeds : Nat → Int32} (hH : HouR (H_beds, H_law, H_sights, H_isKept, H_worths, H_sightGuests, H_sightBeds) (n, k, q, w, sg, sb)) (hw : ∀ j, w j ≤ 99) (hn : n ≤ 8) {kk : Nat} (hkk : kk < 4) {len : Int32} {S : Nat → Int32} {m : Nat} {d : Nat → Nat} (hD : DayR (len, S) m d) {to : Nat} (hto : to ≤ m) : ∀ (c p fuel : Nat) (C : AIn) {I_law I_there I_empties I_waiting I_guestsWithFleas I_bedsWithFleas I_isCounting : Int32} {I_sleepers I_empty I_yard I_nights I_used I_sheets I_lastOnes : Nat → Int32}, to = p + c → c < fuel → AOk n C → InR kk C (I_law, I_there, I_sleepers, I_empty, I_empties, I_yard, I_waiting, I_nights, I_used, I_sheets, I_lastOnes, I_guestsWithFleas, I_bedsWithFleas, I_isCounting) →
    ∃ t', f_X3_live_L3 (nI to) H_beds H_law H_sights H_isKept H_worths H_sightGuests H_sightBeds len S fuel (nI p) I_law I_there I_sleepers I_empty I_empties I_yard I_waiting I_nights I_used I_sheets I_lastOnes I_guestsWithFleas I_bedsWithFleas I_isCounting (fun _ a1 a2 a3 a4 a5 a6 a7 a8 a9 a10 a11 a12 a13 a14 => some ((-6 : Int32), (a1, a2, a3, a4, a5, a6, a7, a8, a9, a10, a11, a12, a13, a14))) = some (cdP (runA kk w d c p C).1, t') ∧ InR kk (runA kk w d c p C).2 t' ∧ ∀ K, GO C → KnR K (I_law, I_there, I_sleepers, I_empty, I_empties, I_yard, I_waiting, I_nights, I_used, I_sheets, I_lastOnes, I_guestsWithFleas, I_bedsWithFleas, I_isCounting) → KnR (runK kk w d c p C K) t' := by
  have hm := hD.2.1
  intro c
  induction c with
  | zero =>
    intro p fuel C I_law I_there I_empties I_waiting I_guestsWithFleas I_bedsWithFleas I_isCounting I_sleepers I_empty I_yard I_nights I_used I_sheets I_lastOnes h1 h3 hC h
    obtain ⟨fuel, rfl⟩ : ∃ n, fuel = n + 1 := ⟨fuel - 1, by omega⟩
    have hj : to = p := by omega
    subst hj
    rw [f_X3_live_L3]
    simp (disch := omega) only [n_lt, n_le, n_eq, n_lt0, n_ge0, n_eq0, n_gt0, n_le0, n_cl, n_add, n_sub, n_mul, n_m1, n_m6, m1_lt, m6_lt, m1_ge, m6_ge, m1_eq, m6_eq0, m1_eq0, c_leT, c_leF, c_ltT, c_ltF, c_eqF, false_or, or_false, or_self, if_true, if_false, ite_true, ite_false, Option.bind_some, not_true_eq_false, not_false_eq_true, reduceIte]
    exact ⟨_, rfl, h, fun K _ hK => hK⟩
  | succ c ih =>
    intro p fuel C I_law I_there I_empties I_waiting I_guestsWithFleas I_bedsWithFleas I_isCounting I_sleepers I_empty I_yard I_nights I_used I_sheets I_lastOnes h1 h3 hC h
    obtain ⟨fuel, rfl⟩ : ∃ n, fuel = n + 1 := ⟨fuel - 1, by omega⟩
    rw [f_X3_live_L3]
    have hs := (hD.2.2 p (by omega)).2
    simp (disch := omega) only [n_le, c_leF, if_false, f_signAt hD (show p < m by omega), Option.bind_some, f_whyNot hC hn h hs]
    simp only [runA, runK]
    by_cases hz : whyA (d p) C = 0
    · have hCo := evC_ok (kk := kk) (w := w) hC hn hz
      have hGo := evC_go (kk := kk) (w := w) hC hn hz
      simp only [hz, if_true]
      rw [if_pos (show nI 0 = 0 from rfl)]
      simp only [f_isComing (show d p < 2147483648 by omega), f_isGoing (show d p < 2147483648 by omega), Option.bind_some, n_add]
      by_cases h1' : 65 ≤ d p ∧ d p ≤ 72
      · simp only [if_pos h1']
        rw [if_neg (show ¬ nI 1 = 0 by decide)]
        rw [n_sub (show 65 ≤ d p by omega)]
        have hp : ¬ presA C (d p - 65) := fun e => by
          unfold whyA at hz
          rw [if_pos h1', if_pos ((presB_iff hC hn).mpr e)] at hz
          cases hz
        obtain ⟨t1, e1, e2, e3⟩ := f_takeIn hH hw hn hkk hC h (show d p - 65 < 16 by omega) hp
        rw [show min (d p - 65) 8 = d p - 65 by omega] at e1
        obtain ⟨J_law, J_there, J_sleepers, J_empty, J_empties, J_yard, J_waiting, J_nights, J_used, J_sheets, J_lastOnes, J_guestsWithFleas, J_bedsWithFleas, J_isCounting⟩ := t1
        simp only [e1, Option.bind_some]
        have ee : evC kk w (d p) C = comeA (chA kk (wA w (d p - 65)) C.2.1) (d p - 65) C := if_pos h1'
        have ek : ∀ K, evK kk w (d p) C K = comeK (chA kk (wA w (d p - 65)) C.2.1) (d p - 65) C K := fun K => if_pos h1'
        rw [← ee] at e2
        obtain ⟨t', e4, e5, e6⟩ := ih (p + 1) fuel _ (by omega) (by omega) hCo e2
        exact ⟨t', e4, e5, fun K hg hK => e6 _ (hGo hg) (by rw [ek]; exact e3 K (by omega) hK)⟩
      · simp only [if_neg h1']
        rw [if_pos (show nI 0 = 0 from rfl)]
        by_cases h2' : 97 ≤ d p ∧ d p ≤ 104
        · simp only [if_pos h2']
          rw [if_neg (show ¬ nI 1 = 0 by decide)]
          rw [n_sub (show 97 ≤ d p by omega)]
          have hp : presA C (d p - 97) := by
            unfold whyA at hz
            rw [if_neg h1', if_pos h2'] at hz
            by_cases hp : presB C (d p - 97) = true
            · exact (presB_iff hC hn).mp hp
            · rw [if_neg hp] at hz; cases hz
          obtain ⟨t1, e1, e2, e3⟩ := f_letGo hC hn h (show d p - 97 < 8 by omega) hp
          obtain ⟨J_law, J_there, J_sleepers, J_empty, J_empties, J_yard, J_waiting, J_nights, J_used, J_sheets, J_lastOnes, J_guestsWithFleas, J_bedsWithFleas, J_isCounting⟩ := t1
          simp only [e1, Option.bind_some]
          have ee : evC kk w (d p) C = goA (d p - 97) C := by unfold evC; rw [if_neg h1', if_pos h2']
          have ek : ∀ K, evK kk w (d p) C K = goK (d p - 97) C K := fun K => by unfold evK; rw [if_neg h1', if_pos h2']
          rw [← ee] at e2
          obtain ⟨t', e4, e5, e6⟩ := ih (p + 1) fuel _ (by omega) (by omega) hCo e2
          exact ⟨t', e4, e5, fun K hg hK => e6 _ (hGo hg) (by rw [ek]; exact e3 K hg hK)⟩
        · simp only [if_neg h2']
          rw [if_pos (show nI 0 = 0 from rfl)]
          have ee : evC kk w (d p) C = C := by unfold evC; rw [if_neg h1', if_neg h2']
          rw [ee] at hCo hGo ⊢
          by_cases h4 : d p = 46
          · rw [if_pos (by rw [h4])]
            have ek : ∀ K, evK kk w (d p) C K = nightK C.1 8 K := fun K => by unfold evK; rw [if_neg h1', if_neg h2', if_pos h4]
            by_cases hc : I_isCounting = 0
            · rw [if_pos hc]
              obtain ⟨t', e4, e5, e6⟩ := ih (p + 1) fuel C (by omega) (by omega) hC h
              refine ⟨t', e4, e5, fun K hg hK => ?_⟩
              obtain ⟨ni, us, sh, la, gf, bf⟩ := K
              have h7 := hK.2.2.2.2.2.2.1
              rw [hc] at h7
              exact absurd h7 (by decide)
            · rw [if_neg hc]
              obtain ⟨t1, e1, e2, e3⟩ := f_passNight h
              obtain ⟨J_law, J_there, J_sleepers, J_empty, J_empties, J_yard, J_waiting, J_nights, J_used, J_sheets, J_lastOnes, J_guestsWithFleas, J_bedsWithFleas, J_isCounting⟩ := t1
              simp only [e1, Option.bind_some]
              obtain ⟨t', e4, e5, e6⟩ := ih (p + 1) fuel C (by omega) (by omega) hC e2
              exact ⟨t', e4, e5, fun K hg hK => e6 _ hg (by rw [ek]; exact e3 K hg hK)⟩
          · rw [if_neg (fun e => h4 ((nI_eq (by omega) (by omega)).mp e))]
            have ek : ∀ K, evK kk w (d p) C K = K := fun K => by unfold evK; rw [if_neg h1', if_neg h2', if_neg h4]
            obtain ⟨t', e4, e5, e6⟩ := ih (p + 1) fuel C (by omega) (by omega) hC h
            exact ⟨t', e4, e5, fun K hg hK => e6 _ hg (by rw [ek]; exact hK)⟩
    · have hlt : whyA (d p) C < 3 := by unfold whyA; split <;> (try split) <;> (try split) <;> omega
      simp only [if_neg hz]
      rw [if_neg (by rw [n_eq0 (by omega)]; exact hz)]
      exact ⟨_, rfl, h, fun K _ hK => hK⟩
theorem f_live {n k q : Nat} {w sg sb : Nat → Nat} {tH : HouS} (hH : HouR tH (n, k, q, w, sg, sb)) (hw : ∀ j, w j ≤ 99) (hn : n ≤ 8) {kk : Nat} (hkk : kk < 4) {tD : DayS} {m : Nat} {d : Nat → Nat} (hD : DayR tD m d) {fr to : Nat} (hft : fr ≤ to) (hto : to ≤ m) {C : AIn} {t : InnS} (hC : AOk n C) (h : InR kk C t) :
    ∃ t', f_X3_live (nI fr) (nI to) tH tD t = some (cdP (runA kk w d (to - fr) fr C).1, t') ∧ InR kk (runA kk w d (to - fr) fr C).2 t' ∧ ∀ K, GO C → KnR K t → KnR (runK kk w d (to - fr) fr C K) t' := by
  obtain ⟨I_law, I_there, I_sleepers, I_empty, I_empties, I_yard, I_waiting, I_nights, I_used, I_sheets, I_lastOnes, I_guestsWithFleas, I_bedsWithFleas, I_isCounting⟩ := t
  obtain ⟨H_beds, H_law, H_sights, H_isKept, H_worths, H_sightGuests, H_sightBeds⟩ := tH
  obtain ⟨len, S⟩ := tD
  have hm := hD.2.1
  rw [f_X3_live]
  exact lp_live hH hw hn hkk hD hto (to - fr) fr FU C (by omega) (by rw [FU_eq]; omega) hC h
