/-! the abstract inn: who is in a bed (guests 0 to 7, strangers 8 to 15), the empty beds as they were left, the yard -/
abbrev AIn : Type := (Nat → Option Nat) × List Nat × List Nat
def upO {α : Type} (f : Nat → α) (k : Nat) (v : α) : Nat → α := fun j => if j = k then v else f j
def presA : AIn → Nat → Prop
  | (sl, _, ya), g => (∃ b, sl b = some g) ∨ g ∈ ya
def AOk (n : Nat) : AIn → Prop
  | (sl, em, ya) => em.Nodup ∧ (∀ b, b ∈ em ↔ (b < n ∧ sl b = none)) ∧ (∀ b, n ≤ b → sl b = none) ∧ (ya ≠ [] → em = []) ∧ (∀ b g, sl b = some g → g < 16) ∧ (∀ g, g ∈ ya → g < 16) ∧ (∀ b b' g, sl b = some g → sl b' = some g → b = b') ∧ (∀ b g, sl b = some g → g ∉ ya) ∧ ya.Nodup
def comeA (ch g : Nat) : AIn → AIn
  | (sl, em, ya) => if em = [] then (sl, em, ya ++ [g]) else (upO sl (em.getD ch 0) (some g), em.eraseIdx ch, ya)
def freeA (b : Nat) : AIn → AIn
  | (sl, em, []) => (upO sl b none, em ++ [b], [])
  | (sl, em, y :: ys) => (upO sl b (some y), em, ys)
def leaveA (g : Nat) : AIn → AIn
  | (sl, em, ya) => (sl, em, ya.erase g)
theorem comeA_ok {n ch g : Nat} {C : AIn} (h : AOk n C) (hg : g < 16) (hp : ¬ presA C g) (hc : C.2.1 ≠ [] → ch < C.2.1.length) : AOk n (comeA ch g C) := by
  obtain ⟨sl, em, ya⟩ := C
  obtain ⟨a1, a2, a3, a4, a5, a6, a7, a8, a9⟩ := h
  have hns : ∀ b, sl b ≠ some g := fun b e => hp (Or.inl ⟨b, e⟩)
  have hny : g ∉ ya := fun e => hp (Or.inr e)
  simp only [comeA]
  by_cases he : em = []
  · rw [if_pos he]
    refine ⟨a1, a2, a3, fun _ => he, a5, fun x hx => ?_, a7, fun b x hb hx => ?_, ?_⟩
    · rcases List.mem_append.mp hx with h | h
      · exact a6 x h
      · rw [List.mem_singleton.mp h]; exact hg
    · rcases List.mem_append.mp hx with h | h
      · exact a8 b x hb h
      · rw [List.mem_singleton.mp h] at hb; exact hns b hb
    · rw [List.nodup_append]
      refine ⟨a9, by simp, fun x hx y hy => ?_⟩
      rw [List.mem_singleton.mp hy]
      exact fun e => hny (e ▸ hx)
  · rw [if_neg he]
    have hlt := hc he
    have hb0 : em.getD ch 0 ∈ em := by
      rw [List.getD_eq_getElem?_getD, List.getElem?_eq_getElem hlt]
      exact List.getElem_mem hlt
    have hya : ya = [] := by
      cases ya with
      | nil => rfl
      | cons y ys => exact absurd (a4 (by simp)) he
    subst hya
    have hbn := (a2 _).mp hb0
    have hmem : ∀ b, b ∈ em.eraseIdx ch ↔ (b ∈ em ∧ b ≠ em.getD ch 0) := by
      intro b
      have e1 : em.eraseIdx ch = em.erase (em.getD ch 0) := by
        rw [List.getD_eq_getElem?_getD, List.getElem?_eq_getElem hlt]
        show em.eraseIdx ch = em.erase em[ch]
        exact (List.erase_eq_eraseIdx_of_idxOf (List.Nodup.idxOf_getElem a1 ch hlt)).symm
      rw [e1, List.Nodup.mem_erase_iff a1]
      exact And.comm
    refine ⟨List.Nodup.sublist (List.eraseIdx_sublist em ch) a1, fun b => ?_, fun b hb => ?_, fun h => absurd rfl h, fun b x hb => ?_, fun x hx => by simp at hx, fun b b' x hb hb' => ?_, fun b x _ => by simp, by simp⟩
    · rw [hmem, a2]
      simp only [upO]
      constructor
      · rintro ⟨⟨h1, h2⟩, h3⟩
        exact ⟨h1, by rw [if_neg h3]; exact h2⟩
      · rintro ⟨h1, h2⟩
        by_cases h3 : b = em.getD ch 0
        · rw [if_pos h3] at h2; cases h2
        · rw [if_neg h3] at h2; exact ⟨⟨h1, h2⟩, h3⟩
    · simp only [upO]
      rw [if_neg (by omega)]
      exact a3 b hb
    · simp only [upO] at hb
      by_cases h3 : b = em.getD ch 0
      · rw [if_pos h3] at hb; cases hb; exact hg
      · rw [if_neg h3] at hb; exact a5 b x hb
    · simp only [upO] at hb hb'
      by_cases h3 : b = em.getD ch 0 <;> by_cases h4 : b' = em.getD ch 0
      · rw [h3, h4]
      · rw [if_pos h3] at hb; rw [if_neg h4] at hb'; cases hb; exact absurd hb' (hns b')
      · rw [if_neg h3] at hb; rw [if_pos h4] at hb'; cases hb'; exact absurd hb (hns b)
      · rw [if_neg h3] at hb; rw [if_neg h4] at hb'; exact a7 b b' x hb hb'
theorem comeA_pres {n ch g : Nat} {C : AIn} (h : AOk n C) (hc : C.2.1 ≠ [] → ch < C.2.1.length) (x : Nat) : presA (comeA ch g C) x ↔ (x = g ∨ presA C x) := by
  obtain ⟨sl, em, ya⟩ := C
  obtain ⟨a1, a2, a3, a4, a5, a6, a7, a8, a9⟩ := h
  simp only [comeA]
  by_cases he : em = []
  · rw [if_pos he]
    simp only [presA, List.mem_append, List.mem_singleton]
    constructor
    · rintro (h | h | h)
      · exact Or.inr (Or.inl h)
      · exact Or.inr (Or.inr h)
      · exact Or.inl h
    · rintro (h | h | h)
      · exact Or.inr (Or.inr h)
      · exact Or.inl h
      · exact Or.inr (Or.inl h)
  · rw [if_neg he]
    have hlt := hc he
    have hb0 : em.getD ch 0 ∈ em := by
      rw [List.getD_eq_getElem?_getD, List.getElem?_eq_getElem hlt]
      exact List.getElem_mem hlt
    have hbn := (a2 _).mp hb0
    simp only [presA, upO]
    constructor
    · rintro (⟨b, hb⟩ | h)
      · by_cases h3 : b = em.getD ch 0
        · rw [if_pos h3] at hb; cases hb; exact Or.inl rfl
        · rw [if_neg h3] at hb; exact Or.inr (Or.inl ⟨b, hb⟩)
      · exact Or.inr (Or.inr h)
    · rintro (h | ⟨b, hb⟩ | h)
      · exact Or.inl ⟨em.getD ch 0, by rw [if_pos rfl, h]⟩
      · refine Or.inl ⟨b, ?_⟩
        rw [if_neg (fun e => by rw [e, hbn.2] at hb; cases hb)]
        exact hb
      · exact Or.inr h
theorem freeA_ok {n b0 g0 : Nat} {C : AIn} (h : AOk n C) (hb : C.1 b0 = some g0) : AOk n (freeA b0 C) := by
  obtain ⟨sl, em, ya⟩ := C
  obtain ⟨a1, a2, a3, a4, a5, a6, a7, a8, a9⟩ := h
  have hbn : b0 < n := by
    rcases Nat.lt_or_ge b0 n with h | h
    · exact h
    · have h2 := a3 b0 h; simp only at hb; rw [h2] at hb; cases hb
  simp only at hb
  have hne : b0 ∉ em := fun e => by have := ((a2 b0).mp e).2; rw [this] at hb; cases hb
  cases ya with
  | nil =>
    simp only [freeA]
    refine ⟨?_, fun b => ?_, fun b hbb => ?_, fun h => absurd rfl h, fun b x hx => ?_, fun x hx => by simp at hx, fun b b' x h1 h2 => ?_, fun b x _ => by simp, by simp⟩
    · rw [List.nodup_append]
      refine ⟨a1, by simp, fun x hx y hy => ?_⟩
      rw [List.mem_singleton.mp hy]
      exact fun e => hne (e ▸ hx)
    · simp only [List.mem_append, List.mem_singleton, upO]
      rw [a2]
      constructor
      · rintro (⟨h1, h2⟩ | h)
        · exact ⟨h1, by split <;> first | rfl | exact h2⟩
        · exact ⟨by omega, by rw [if_pos h]⟩
      · rintro ⟨h1, h2⟩
        by_cases h3 : b = b0
        · exact Or.inr h3
        · rw [if_neg h3] at h2; exact Or.inl ⟨h1, h2⟩
    · simp only [upO]
      split
      · rfl
      · exact a3 b hbb
    · simp only [upO] at hx
      split at hx
      · cases hx
      · exact a5 b x hx
    · simp only [upO] at h1 h2
      split at h1
      · cases h1
      · split at h2
        · cases h2
        · exact a7 b b' x h1 h2
  | cons y ys =>
    have hem : em = [] := a4 (by simp)
    simp only [freeA]
    have hyn : ∀ b, sl b ≠ some y := fun b e => a8 b y e (by simp)
    have hyd := List.nodup_cons.mp a9
    refine ⟨a1, fun b => ?_, fun b hbb => ?_, fun _ => hem, fun b x hx => ?_, fun x hx => a6 x (List.mem_cons_of_mem _ hx), fun b b' x h1 h2 => ?_, fun b x hx => ?_, hyd.2⟩
    · simp only [upO]
      rw [a2]
      constructor
      · rintro ⟨h1, h2⟩
        exact ⟨h1, by rw [if_neg (fun e => by rw [e, hb] at h2; cases h2)]; exact h2⟩
      · rintro ⟨h1, h2⟩
        by_cases h3 : b = b0
        · rw [if_pos h3] at h2; cases h2
        · rw [if_neg h3] at h2; exact ⟨h1, h2⟩
    · simp only [upO]
      rw [if_neg (by omega)]
      exact a3 b hbb
    · simp only [upO] at hx
      split at hx
      · cases hx; exact a6 y (by simp)
      · exact a5 b x hx
    · simp only [upO] at h1 h2
      by_cases h3 : b = b0 <;> by_cases h4 : b' = b0
      · rw [h3, h4]
      · rw [if_pos h3] at h1; rw [if_neg h4] at h2; cases h1; exact absurd h2 (hyn b')
      · rw [if_neg h3] at h1; rw [if_pos h4] at h2; cases h2; exact absurd h1 (hyn b)
      · rw [if_neg h3] at h1; rw [if_neg h4] at h2; exact a7 b b' x h1 h2
    · simp only [upO] at hx
      split at hx
      · cases hx; exact hyd.1
      · exact fun e => a8 b x hx (List.mem_cons_of_mem _ e)
theorem freeA_pres {n b0 g0 : Nat} {C : AIn} (h : AOk n C) (hb : C.1 b0 = some g0) (x : Nat) : presA (freeA b0 C) x ↔ (x ≠ g0 ∧ presA C x) := by
  obtain ⟨sl, em, ya⟩ := C
  obtain ⟨a1, a2, a3, a4, a5, a6, a7, a8, a9⟩ := h
  simp only at hb
  have hg0 := a8 b0 g0 hb
  cases ya with
  | nil =>
    simp only [freeA, presA, upO, List.not_mem_nil, or_false]
    constructor
    · rintro ⟨b, hx⟩
      split at hx
      · cases hx
      · rename_i hbb
        exact ⟨fun e => hbb (a7 b b0 g0 (e ▸ hx) hb), b, hx⟩
    · rintro ⟨h1, b, hx⟩
      refine ⟨b, ?_⟩
      rw [if_neg (fun e => h1 (by rw [e, hb] at hx; cases hx; rfl))]
      exact hx
  | cons y ys =>
    simp only [freeA, presA, upO]
    have hyd := List.nodup_cons.mp a9
    constructor
    · rintro (⟨b, hx⟩ | hx)
      · split at hx
        · cases hx
          exact ⟨fun e => hg0 (by rw [← e]; simp), Or.inr (by simp)⟩
        · rename_i hbb
          exact ⟨fun e => hbb (a7 b b0 g0 (e ▸ hx) hb), Or.inl ⟨b, hx⟩⟩
      · exact ⟨fun e => hg0 (by rw [← e]; exact List.mem_cons_of_mem _ hx), Or.inr (List.mem_cons_of_mem _ hx)⟩
    · rintro ⟨h1, ⟨b, hx⟩ | hx⟩
      · refine Or.inl ⟨b, ?_⟩
        rw [if_neg (fun e => h1 (by rw [e, hb] at hx; cases hx; rfl))]
        exact hx
      · rcases List.mem_cons.mp hx with e | e
        · exact Or.inl ⟨b0, by rw [if_pos rfl, e]⟩
        · exact Or.inr e
theorem leaveA_ok {n g : Nat} {C : AIn} (h : AOk n C) (hg : g ∈ C.2.2) : AOk n (leaveA g C) := by
  obtain ⟨sl, em, ya⟩ := C
  obtain ⟨a1, a2, a3, a4, a5, a6, a7, a8, a9⟩ := h
  simp only [leaveA]
  exact ⟨a1, a2, a3, fun _ => a4 (fun e => by simp only at hg; rw [e] at hg; simp at hg), a5, fun x hx => a6 x (List.mem_of_mem_erase hx), a7, fun b x hb hx => a8 b x hb (List.mem_of_mem_erase hx), List.Nodup.erase g a9⟩
theorem leaveA_pres {n g : Nat} {C : AIn} (h : AOk n C) (hg : g ∈ C.2.2) (x : Nat) : presA (leaveA g C) x ↔ (x ≠ g ∧ presA C x) := by
  obtain ⟨sl, em, ya⟩ := C
  obtain ⟨a1, a2, a3, a4, a5, a6, a7, a8, a9⟩ := h
  simp only at hg
  simp only [leaveA, presA]
  rw [List.Nodup.mem_erase_iff a9]
  constructor
  · rintro (⟨b, hb⟩ | ⟨h1, h2⟩)
    · exact ⟨fun e => a8 b g (e ▸ hb) hg, Or.inl ⟨b, hb⟩⟩
    · exact ⟨h1, Or.inr h2⟩
  · rintro ⟨h1, h | h⟩
    · exact Or.inl h
    · exact Or.inr ⟨h1, h⟩
/-- no more than sixteen are there -/
theorem nodup_le : ∀ (m : Nat) (l : List Nat), l.Nodup → (∀ x, x ∈ l → x < m) → l.length ≤ m
  | 0, l, _, h => by
    cases l with
    | nil => simp
    | cons x l => exact absurd (h x (by simp)) (by omega)
  | m + 1, l, hn, h => by
    by_cases hm : m ∈ l
    · have h1 := nodup_le m (l.erase m) (hn.erase m) (fun x hx => by
        have h2 := h x (List.mem_of_mem_erase hx)
        have h3 := (List.Nodup.mem_erase_iff hn).mp hx
        omega)
      have h4 := List.length_erase_of_mem hm
      have h5 : 0 < l.length := List.length_pos_of_mem hm
      omega
    · have h1 := nodup_le m l hn (fun x hx => by
        have h2 := h x hx
        have h3 : x ≠ m := fun e => hm (e ▸ hx)
        omega)
      omega
theorem em_le {n : Nat} {C : AIn} (h : AOk n C) : C.2.1.length ≤ n := nodup_le n _ h.1 (fun x hx => ((h.2.1 x).mp hx).1)
theorem ya_lt {n g : Nat} {C : AIn} (h : AOk n C) (hg : g < 16) (hp : ¬ presA C g) : C.2.2.length < 16 := by
  obtain ⟨sl, em, ya⟩ := C
  obtain ⟨a1, a2, a3, a4, a5, a6, a7, a8, a9⟩ := h
  have h1 := nodup_le 16 (g :: ya) (List.nodup_cons.mpr ⟨fun e => hp (Or.inr e), a9⟩) (fun x hx => by
    rcases List.mem_cons.mp hx with e | e
    · omega
    · exact a6 x e)
  have h2 : (g :: ya).length = ya.length + 1 := rfl
  show ya.length < 16
  omega
theorem ya_le {n : Nat} {C : AIn} (h : AOk n C) : C.2.2.length ≤ 16 := nodup_le 16 _ h.2.2.2.2.2.2.2.2 h.2.2.2.2.2.1
