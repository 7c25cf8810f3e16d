/-! the reference's inn as a picture of the abstract one -/
def cdM : Option Nat → Int32
  | none => -6
  | some g => nI g
def MoR (C : AIn) : ModS → Prop
  | (M_beds, M_law, M_worths, M_sights, M_sight, M_signs, M_pad, M_lies, M_empty, M_list, M_waits, M_yard, M_last, M_used, M_sheets, M_nights, M_fleasOfGuests, M_fleasOfBeds, M_reason, M_row, M_bestRow, M_image, M_isKept) => (∀ b, b < 8 → M_lies b = cdM (C.1 b)) ∧ M_empty = nI C.2.1.length ∧ (∀ i, i < C.2.1.length → M_list i = nI (C.2.1.getD i 0)) ∧ M_waits = nI C.2.2.length ∧ ∀ i, i < C.2.2.length → M_yard i = nI (C.2.2.getD i 0)
def MnR : AKn → ModS → Prop
  | (ni, us, sh, la, _, _), (M_beds, M_law, M_worths, M_sights, M_sight, M_signs, M_pad, M_lies, M_empty, M_list, M_waits, M_yard, M_last, M_used, M_sheets, M_nights, M_fleasOfGuests, M_fleasOfBeds, M_reason, M_row, M_bestRow, M_image, M_isKept) => (∀ b, b < 8 → M_nights b = nI (ni b)) ∧ (∀ b, b < 8 → M_used b = nI (us b)) ∧ (∀ b, b < 8 → M_sheets b = nI (sh b)) ∧ (∀ b, b < 8 → M_last b = cdM (la b)) ∧ (∀ b g, la b = some g → g < 16)
/-- the fleas of the reference -/
def MfR : AKn → ModS → Prop
  | (_, _, _, _, gf, bf), (M_beds, M_law, M_worths, M_sights, M_sight, M_signs, M_pad, M_lies, M_empty, M_list, M_waits, M_yard, M_last, M_used, M_sheets, M_nights, M_fleasOfGuests, M_fleasOfBeds, M_reason, M_row, M_bestRow, M_image, M_isKept) => M_fleasOfGuests = nI gf ∧ M_fleasOfBeds = nI bf ∧ gf < 256 ∧ bf < 256
/-- fleas and the reason -/
def mF : ModS → Int32 × Int32 × Int32
  | (M_beds, M_law, M_worths, M_sights, M_sight, M_signs, M_pad, M_lies, M_empty, M_list, M_waits, M_yard, M_last, M_used, M_sheets, M_nights, M_fleasOfGuests, M_fleasOfBeds, M_reason, M_row, M_bestRow, M_image, M_isKept) => (M_fleasOfGuests, M_fleasOfBeds, M_reason)
theorem mF_f {t t' : ModS} (e : mF t' = mF t) {K : AKn} (h : MfR K t) : MfR K t' := by
  obtain ⟨M_beds, M_law, M_worths, M_sights, M_sight, M_signs, M_pad, M_lies, M_empty, M_list, M_waits, M_yard, M_last, M_used, M_sheets, M_nights, M_fleasOfGuests, M_fleasOfBeds, M_reason, M_row, M_bestRow, M_image, M_isKept⟩ := t
  obtain ⟨L_beds, L_law, L_worths, L_sights, L_sight, L_signs, L_pad, L_lies, L_empty, L_list, L_waits, L_yard, L_last, L_used, L_sheets, L_nights, L_fleasOfGuests, L_fleasOfBeds, L_reason, L_row, L_bestRow, L_image, L_isKept⟩ := t'
  obtain ⟨ni, us, sh, la, gf, bf⟩ := K
  simp only [mF, Prod.mk.injEq] at e
  obtain ⟨rfl, rfl, rfl⟩ := e
  exact h
/-- what no stay of guests changes -/
def mP : ModS → Int32 × Int32 × (Nat → Int32) × Int32 × (Nat → Int32) × Int32 × (Nat → Int32) × (Nat → Int32) × (Nat → Int32) × (Nat → Int32) × (Nat → Int32)
  | (M_beds, M_law, M_worths, M_sights, M_sight, M_signs, M_pad, M_lies, M_empty, M_list, M_waits, M_yard, M_last, M_used, M_sheets, M_nights, M_fleasOfGuests, M_fleasOfBeds, M_reason, M_row, M_bestRow, M_image, M_isKept) => (M_beds, M_law, M_worths, M_sights, M_sight, M_signs, M_pad, M_row, M_bestRow, M_image, M_isKept)
theorem mP_H {t t' : ModS} (e : mP t' = mP t) {h : AHs} (hh : ModHR t h) : ModHR t' h := by
  obtain ⟨M_beds, M_law, M_worths, M_sights, M_sight, M_signs, M_pad, M_lies, M_empty, M_list, M_waits, M_yard, M_last, M_used, M_sheets, M_nights, M_fleasOfGuests, M_fleasOfBeds, M_reason, M_row, M_bestRow, M_image, M_isKept⟩ := t
  obtain ⟨L_beds, L_law, L_worths, L_sights, L_sight, L_signs, L_pad, L_lies, L_empty, L_list, L_waits, L_yard, L_last, L_used, L_sheets, L_nights, L_fleasOfGuests, L_fleasOfBeds, L_reason, L_row, L_bestRow, L_image, L_isKept⟩ := t'
  obtain ⟨n, k, q, w, sg, sb⟩ := h
  simp only [mP, Prod.mk.injEq] at e
  obtain ⟨rfl, rfl, rfl, rfl, rfl, rfl, rfl, rfl, rfl, rfl, rfl⟩ := e
  exact hh
theorem mP_D {t t' : ModS} (e : mP t' = mP t) {m : Nat} {d : Nat → Nat} (hh : ModDR t m d) : ModDR t' m d := by
  obtain ⟨M_beds, M_law, M_worths, M_sights, M_sight, M_signs, M_pad, M_lies, M_empty, M_list, M_waits, M_yard, M_last, M_used, M_sheets, M_nights, M_fleasOfGuests, M_fleasOfBeds, M_reason, M_row, M_bestRow, M_image, M_isKept⟩ := t
  obtain ⟨L_beds, L_law, L_worths, L_sights, L_sight, L_signs, L_pad, L_lies, L_empty, L_list, L_waits, L_yard, L_last, L_used, L_sheets, L_nights, L_fleasOfGuests, L_fleasOfBeds, L_reason, L_row, L_bestRow, L_image, L_isKept⟩ := t'
  simp only [mP, Prod.mk.injEq] at e
  obtain ⟨rfl, rfl, rfl, rfl, rfl, rfl, rfl, rfl, rfl, rfl, rfl⟩ := e
  exact hh
theorem mP_I {t t' : ModS} (e : mP t' = mP t) {tY : HouS} {i : Nat} (hh : ImgR tY t i) : ImgR tY t' i := by
  obtain ⟨M_beds, M_law, M_worths, M_sights, M_sight, M_signs, M_pad, M_lies, M_empty, M_list, M_waits, M_yard, M_last, M_used, M_sheets, M_nights, M_fleasOfGuests, M_fleasOfBeds, M_reason, M_row, M_bestRow, M_image, M_isKept⟩ := t
  obtain ⟨L_beds, L_law, L_worths, L_sights, L_sight, L_signs, L_pad, L_lies, L_empty, L_list, L_waits, L_yard, L_last, L_used, L_sheets, L_nights, L_fleasOfGuests, L_fleasOfBeds, L_reason, L_row, L_bestRow, L_image, L_isKept⟩ := t'
  simp only [mP, Prod.mk.injEq] at e
  obtain ⟨rfl, rfl, rfl, rfl, rfl, rfl, rfl, rfl, rfl, rfl, rfl⟩ := e
  exact hh
theorem cdM_inj {o : Option Nat} {g : Nat} (ho : ∀ x, o = some x → x < 16) (hg : g < 16) : cdM o = nI g ↔ o = some g := by
  cases o with
  | none =>
    simp only [cdM]
    have h2 : ((-6 : Int32) = nI g) = False := eq_false (fun e => by have := n_m6 (a := g) (by omega); rw [← e] at this; exact absurd rfl (of_eq_false this))
    rw [h2]
    exact ⟨False.elim, fun h => by cases h⟩
  | some x =>
    have := ho x rfl
    simp only [cdM]
    rw [nI_eq (by omega) (by omega)]
    exact ⟨fun h => by rw [h], fun h => by cases h; rfl⟩
theorem lp_mbed_rest {n : Nat} (hn : n ≤ 8) {x f0 : Int32} {Y : Nat → Int32} (kL : Int32 → Int32 → Option Int32) : ∀ (d j fuel : Nat), n = j + d → d < fuel → (∀ i, j ≤ i → i < n → Y i ≠ x) → f_X6_bedOf_L5 x (nI n) Y fuel f0 (nI j) kL = kL f0 (nI n) := by
  intro d
  induction d with
  | zero =>
    intro j fuel h1 h3 hno
    obtain ⟨fuel, rfl⟩ : ∃ n, fuel = n + 1 := ⟨fuel - 1, by omega⟩
    have hj : j = n := by omega
    subst hj
    rw [f_X6_bedOf_L5]
    simp (disch := omega) only [n_lt, n_le, n_eq, n_lt0, n_ge0, n_eq0, n_gt0, n_le0, n_cl, n_add, n_sub, n_mul, n_m1, n_m6, m1_lt, m6_lt, m1_ge, m6_ge, m1_eq, m6_eq0, m1_eq0, c_leT, c_leF, c_ltT, c_ltF, c_eqF, false_or, or_false, or_self, if_true, if_false, ite_true, ite_false, Option.bind_some, not_true_eq_false, not_false_eq_true, reduceIte]
  | succ d ih =>
    intro j fuel h1 h3 hno
    obtain ⟨fuel, rfl⟩ : ∃ n, fuel = n + 1 := ⟨fuel - 1, by omega⟩
    rw [f_X6_bedOf_L5]
    have hne : (Y j = x) = False := eq_false (hno j (by omega) (by omega))
    simp (disch := omega) only [n_lt, n_le, n_eq, n_lt0, n_ge0, n_eq0, n_gt0, n_le0, n_cl, n_add, n_sub, n_mul, n_m1, n_m6, m1_lt, m6_lt, m1_ge, m6_ge, m1_eq, m6_eq0, m1_eq0, c_leT, c_leF, c_ltT, c_ltF, c_eqF, false_or, or_false, or_self, if_true, if_false, ite_true, ite_false, Option.bind_some, not_true_eq_false, not_false_eq_true, reduceIte, hne]
    exact ih (j + 1) fuel (by omega) (by omega) (fun i h1 h2 => hno i (by omega) h2)
theorem lp_mbed_some {n b : Nat} (hn : n ≤ 8) (hb : b < n) {x : Int32} {Y : Nat → Int32} (hx : Y b = x) (hu : ∀ i, i < n → Y i = x → i = b) (kL : Int32 → Int32 → Option Int32) (f0 : Int32) : ∀ (d j fuel : Nat), b = j + d → n < fuel + j → f_X6_bedOf_L5 x (nI n) Y fuel f0 (nI j) kL = kL (nI b) (nI n) := by
  intro d
  induction d with
  | zero =>
    intro j fuel h1 h3
    obtain ⟨fuel, rfl⟩ : ∃ n, fuel = n + 1 := ⟨fuel - 1, by omega⟩
    have hj : b = j := by omega
    subst hj
    rw [f_X6_bedOf_L5]
    simp (disch := omega) only [n_lt, n_le, n_eq, n_lt0, n_ge0, n_eq0, n_gt0, n_le0, n_cl, n_add, n_sub, n_mul, n_m1, n_m6, m1_lt, m6_lt, m1_ge, m6_ge, m1_eq, m6_eq0, m1_eq0, c_leT, c_leF, c_ltT, c_ltF, c_eqF, false_or, or_false, or_self, if_true, if_false, ite_true, ite_false, Option.bind_some, not_true_eq_false, not_false_eq_true, reduceIte, hx]
    exact lp_mbed_rest hn kL (n - (b + 1)) (b + 1) fuel (by omega) (by omega) (fun i h1 h2 e => by have := hu i h2 e; omega)
  | succ d ih =>
    intro j fuel h1 h3
    obtain ⟨fuel, rfl⟩ : ∃ n, fuel = n + 1 := ⟨fuel - 1, by omega⟩
    rw [f_X6_bedOf_L5]
    have hne : (Y j = x) = False := eq_false (fun e => by have := hu j (by omega) e; omega)
    simp (disch := omega) only [n_lt, n_le, n_eq, n_lt0, n_ge0, n_eq0, n_gt0, n_le0, n_cl, n_add, n_sub, n_mul, n_m1, n_m6, m1_lt, m6_lt, m1_ge, m6_ge, m1_eq, m6_eq0, m1_eq0, c_leT, c_leF, c_ltT, c_ltF, c_eqF, false_or, or_false, or_self, if_true, if_false, ite_true, ite_false, Option.bind_some, not_true_eq_false, not_false_eq_true, reduceIte, hne]
    exact ih (j + 1) fuel (by omega) (by omega)
theorem m_bedOf {n k q : Nat} {w sg sb : Nat → Nat} {t : ModS} (hM : ModHR t (n, k, q, w, sg, sb)) (hn : n ≤ 8) {C : AIn} (hC : AOk n C) (h : MoR C t) {g : Nat} (hg : g < 16) : f_X6_bedOf (nI g) t = some (cdM (bedA C.1 g)) := by
  obtain ⟨M_beds, M_law, M_worths, M_sights, M_sight, M_signs, M_pad, M_lies, M_empty, M_list, M_waits, M_yard, M_last, M_used, M_sheets, M_nights, M_fleasOfGuests, M_fleasOfBeds, M_reason, M_row, M_bestRow, M_image, M_isKept⟩ := t
  obtain ⟨sl, em, ya⟩ := C
  obtain ⟨a1, a2, a3, a4, a5, a6, a7, a8, a9⟩ := hC
  obtain ⟨hl, rfl, hem, rfl, hya⟩ := h
  obtain ⟨rfl, rfl, rfl, hW, hSI⟩ := hM
  simp only at hl ⊢
  rw [f_X6_bedOf]
  cases hq : bedA sl g with
  | some b =>
    obtain ⟨h1, h2⟩ := bedA_some hq
    have hbn : b < n := by
      rcases Nat.lt_or_ge b n with h | h
      · exact h
      · have := a3 b h; rw [this] at h1; cases h1
    rw [lp_mbed_some hn hbn (by rw [hl b h2, h1]; rfl) (fun i hi e => by
      rw [hl i (by omega)] at e
      exact a7 i b g ((cdM_inj (fun x hx => a5 i x hx) hg).mp e) h1) _ _ b 0 FU (by omega) (by rw [FU_eq]; omega)]
    rfl
  | none =>
    have h1 := bedA_none hq
    rw [lp_mbed_rest hn _ n 0 FU (by omega) (by rw [FU_eq]; omega) (fun i _ hi e => by
      rw [hl i (by omega)] at e
      exact h1 i (by omega) ((cdM_inj (fun x hx => a5 i x hx) hg).mp e))]
    rfl
theorem lp_wait1 {len : Nat} (hlen : len ≤ 64) {x : Int32} {Y : Nat → Int32} (kL : Int32 → Int32 → Option Int32) : ∀ (d j fuel : Nat), len = j + d → d < fuel → f_X6_isWaiting_L4 x (nI len) Y fuel (nI 1) (nI j) kL = kL (nI 1) (nI len) := by
  intro d
  induction d with
  | zero =>
    intro j fuel h1 h3
    obtain ⟨fuel, rfl⟩ : ∃ n, fuel = n + 1 := ⟨fuel - 1, by omega⟩
    have hj : j = len := by omega
    subst hj
    rw [f_X6_isWaiting_L4]
    simp (disch := omega) only [n_lt, n_le, n_eq, n_lt0, n_ge0, n_eq0, n_gt0, n_le0, n_cl, n_add, n_sub, n_mul, n_m1, n_m6, m1_lt, m6_lt, m1_ge, m6_ge, m1_eq, m6_eq0, m1_eq0, c_leT, c_leF, c_ltT, c_ltF, c_eqF, false_or, or_false, or_self, if_true, if_false, ite_true, ite_false, Option.bind_some, not_true_eq_false, not_false_eq_true, reduceIte]
  | succ d ih =>
    intro j fuel h1 h3
    obtain ⟨fuel, rfl⟩ : ∃ n, fuel = n + 1 := ⟨fuel - 1, by omega⟩
    rw [f_X6_isWaiting_L4]
    simp (disch := omega) only [n_lt, n_le, n_eq, n_lt0, n_ge0, n_eq0, n_gt0, n_le0, n_cl, n_add, n_sub, n_mul, n_m1, n_m6, m1_lt, m6_lt, m1_ge, m6_ge, m1_eq, m6_eq0, m1_eq0, c_leT, c_leF, c_ltT, c_ltF, c_eqF, false_or, or_false, or_self, if_true, if_false, ite_true, ite_false, Option.bind_some, not_true_eq_false, not_false_eq_true, reduceIte]
    exact ih (j + 1) fuel (by omega) (by omega)
theorem lp_wait0 {len : Nat} (hlen : len ≤ 64) {x : Int32} {Y : Nat → Int32} (kL : Int32 → Int32 → Option Int32) : ∀ (d j fuel : Nat), len = j + d → d < fuel → (∀ i, j ≤ i → i < len → Y i ≠ x) → f_X6_isWaiting_L4 x (nI len) Y fuel (nI 0) (nI j) kL = kL (nI 0) (nI len) := by
  intro d
  induction d with
  | zero =>
    intro j fuel h1 h3 hno
    obtain ⟨fuel, rfl⟩ : ∃ n, fuel = n + 1 := ⟨fuel - 1, by omega⟩
    have hj : j = len := by omega
    subst hj
    rw [f_X6_isWaiting_L4]
    simp (disch := omega) only [n_lt, n_le, n_eq, n_lt0, n_ge0, n_eq0, n_gt0, n_le0, n_cl, n_add, n_sub, n_mul, n_m1, n_m6, m1_lt, m6_lt, m1_ge, m6_ge, m1_eq, m6_eq0, m1_eq0, c_leT, c_leF, c_ltT, c_ltF, c_eqF, false_or, or_false, or_self, if_true, if_false, ite_true, ite_false, Option.bind_some, not_true_eq_false, not_false_eq_true, reduceIte]
  | succ d ih =>
    intro j fuel h1 h3 hno
    obtain ⟨fuel, rfl⟩ : ∃ n, fuel = n + 1 := ⟨fuel - 1, by omega⟩
    rw [f_X6_isWaiting_L4]
    have hne : (Y j = x) = False := eq_false (hno j (by omega) (by omega))
    simp (disch := omega) only [n_lt, n_le, n_eq, n_lt0, n_ge0, n_eq0, n_gt0, n_le0, n_cl, n_add, n_sub, n_mul, n_m1, n_m6, m1_lt, m6_lt, m1_ge, m6_ge, m1_eq, m6_eq0, m1_eq0, c_leT, c_leF, c_ltT, c_ltF, c_eqF, false_or, or_false, or_self, if_true, if_false, ite_true, ite_false, Option.bind_some, not_true_eq_false, not_false_eq_true, reduceIte, hne]
    exact ih (j + 1) fuel (by omega) (by omega) (fun i h1 h2 => hno i (by omega) h2)
theorem lp_waitp {len p : Nat} (hlen : len ≤ 64) (hp : p < len) {x : Int32} {Y : Nat → Int32} (hx : Y p = x) (hno : ∀ i, i < p → Y i ≠ x) (kL : Int32 → Int32 → Option Int32) : ∀ (d j fuel : Nat), p = j + d → len < fuel + j → f_X6_isWaiting_L4 x (nI len) Y fuel (nI 0) (nI j) kL = kL (nI 1) (nI len) := by
  intro d
  induction d with
  | zero =>
    intro j fuel h1 h3
    obtain ⟨fuel, rfl⟩ : ∃ n, fuel = n + 1 := ⟨fuel - 1, by omega⟩
    have hj : p = j := by omega
    subst hj
    rw [f_X6_isWaiting_L4]
    simp (disch := omega) only [n_lt, n_le, n_eq, n_lt0, n_ge0, n_eq0, n_gt0, n_le0, n_cl, n_add, n_sub, n_mul, n_m1, n_m6, m1_lt, m6_lt, m1_ge, m6_ge, m1_eq, m6_eq0, m1_eq0, c_leT, c_leF, c_ltT, c_ltF, c_eqF, false_or, or_false, or_self, if_true, if_false, ite_true, ite_false, Option.bind_some, not_true_eq_false, not_false_eq_true, reduceIte, hx]
    exact lp_wait1 hlen kL (len - (p + 1)) (p + 1) fuel (by omega) (by omega)
  | succ d ih =>
    intro j fuel h1 h3
    obtain ⟨fuel, rfl⟩ : ∃ n, fuel = n + 1 := ⟨fuel - 1, by omega⟩
    rw [f_X6_isWaiting_L4]
    have hne : (Y j = x) = False := eq_false (hno j (by omega))
    simp (disch := omega) only [n_lt, n_le, n_eq, n_lt0, n_ge0, n_eq0, n_gt0, n_le0, n_cl, n_add, n_sub, n_mul, n_m1, n_m6, m1_lt, m6_lt, m1_ge, m6_ge, m1_eq, m6_eq0, m1_eq0, c_leT, c_leF, c_ltT, c_ltF, c_eqF, false_or, or_false, or_self, if_true, if_false, ite_true, ite_false, Option.bind_some, not_true_eq_false, not_false_eq_true, reduceIte, hne]
    exact ih (j + 1) fuel (by omega) (by omega)
theorem m_isWaiting {n : Nat} {t : ModS} {C : AIn} (hC : AOk n C) (h : MoR C t) {g : Nat} (hg : g < 16) : f_X6_isWaiting (nI g) t = some (nI (if g ∈ C.2.2 then 1 else 0)) := by
  have hyle := ya_le hC
  obtain ⟨M_beds, M_law, M_worths, M_sights, M_sight, M_signs, M_pad, M_lies, M_empty, M_list, M_waits, M_yard, M_last, M_used, M_sheets, M_nights, M_fleasOfGuests, M_fleasOfBeds, M_reason, M_row, M_bestRow, M_image, M_isKept⟩ := t
  obtain ⟨sl, em, ya⟩ := C
  obtain ⟨a1, a2, a3, a4, a5, a6, a7, a8, a9⟩ := hC
  obtain ⟨hl, rfl, hem, rfl, hya⟩ := h
  simp only at hya hyle ⊢
  have hlt : ∀ i, i < ya.length → ya.getD i 0 < 16 := fun i hi => a6 _ (by
    rw [List.getD_eq_getElem?_getD, List.getElem?_eq_getElem hi]
    exact List.getElem_mem hi)
  rw [f_X6_isWaiting]
  by_cases hp : g ∈ ya
  · obtain ⟨p, p1, p2, p3, -⟩ := yard_place hp
    rw [if_pos hp, lp_waitp (by omega) p1 (by rw [hya p p1, p2]) (fun i hi e => by
      rw [hya i (by omega)] at e
      have := hlt i (by omega)
      exact p3 i hi ((nI_eq (by omega) (by omega)).mp e)) _ p 0 FU (by omega) (by rw [FU_eq]; omega)]
    rfl
  · rw [if_neg hp, lp_wait0 (by omega) _ ya.length 0 FU (by omega) (by rw [FU_eq]; omega) (fun i _ hi e => by
      rw [hya i hi] at e
      have := hlt i hi
      have e2 := (nI_eq (by omega) (by omega)).mp e
      refine hp ?_
      rw [← e2, List.getD_eq_getElem?_getD, List.getElem?_eq_getElem hi]
      exact List.getElem_mem hi)]
    rfl
theorem m_isThere {n k q : Nat} {w sg sb : Nat → Nat} {t : ModS} (hM : ModHR t (n, k, q, w, sg, sb)) (hn : n ≤ 8) {C : AIn} (hC : AOk n C) (h : MoR C t) {g : Nat} (hg : g < 16) : f_X6_isThere (nI g) t = some (nI (if presB C g = true then 1 else 0)) := by
  have h1 := m_bedOf hM hn hC h hg
  have h2 := m_isWaiting hC h hg
  obtain ⟨M_beds, M_law, M_worths, M_sights, M_sight, M_signs, M_pad, M_lies, M_empty, M_list, M_waits, M_yard, M_last, M_used, M_sheets, M_nights, M_fleasOfGuests, M_fleasOfBeds, M_reason, M_row, M_bestRow, M_image, M_isKept⟩ := t
  rw [f_X6_isThere, h1]
  simp only [Option.bind_some, h2, presB]
  rcases (show bedA C.1 g = none ∨ ∃ b, bedA C.1 g = some b by cases bedA C.1 g <;> simp) with hq | ⟨b, hq⟩
  · by_cases hp : g ∈ C.2.2
    · simp (disch := omega) only [n_lt, n_le, n_eq, n_lt0, n_ge0, n_eq0, n_gt0, n_le0, n_cl, n_add, n_sub, n_mul, n_m1, n_m6, m1_lt, m6_lt, m1_ge, m6_ge, m1_eq, m6_eq0, m1_eq0, c_leT, c_leF, c_ltT, c_ltF, c_eqF, false_or, or_false, or_self, if_true, if_false, ite_true, ite_false, Option.bind_some, not_true_eq_false, not_false_eq_true, reduceIte, hq, cdM, hp, Option.isSome_none, Bool.false_or, decide_true]
    · simp (disch := omega) only [n_lt, n_le, n_eq, n_lt0, n_ge0, n_eq0, n_gt0, n_le0, n_cl, n_add, n_sub, n_mul, n_m1, n_m6, m1_lt, m6_lt, m1_ge, m6_ge, m1_eq, m6_eq0, m1_eq0, c_leT, c_leF, c_ltT, c_ltF, c_eqF, false_or, or_false, or_self, if_true, if_false, ite_true, ite_false, Option.bind_some, not_true_eq_false, not_false_eq_true, reduceIte, hq, cdM, hp, Option.isSome_none, Bool.false_or, decide_false, Bool.false_eq_true]
  · have hb := (bedA_some hq).2
    simp (disch := omega) only [n_lt, n_le, n_eq, n_lt0, n_ge0, n_eq0, n_gt0, n_le0, n_cl, n_add, n_sub, n_mul, n_m1, n_m6, m1_lt, m6_lt, m1_ge, m6_ge, m1_eq, m6_eq0, m1_eq0, c_leT, c_leF, c_ltT, c_ltF, c_eqF, false_or, or_false, or_self, if_true, if_false, ite_true, ite_false, Option.bind_some, not_true_eq_false, not_false_eq_true, reduceIte, hq, cdM, Option.isSome_some, Bool.true_or]
