/-! orders of guests -/
def gsFrom (s : Nat) : Nat → Nat → List Nat
  | 0, _ => []
  | c + 1, j => bif s.testBit j then j :: gsFrom s c (j + 1) else gsFrom s c (j + 1)
def permsL : Nat → List Nat → List (List Nat)
  | 0, _ => [[]]
  | n + 1, l => l.flatMap (fun g => (permsL n (l.erase g)).map (fun r => g :: r))
/-- the next order of a row of n, as the reference seeks it -/
def kF (R : Nat → Nat) : Nat → Option Nat
  | 0 => none
  | j + 1 => bif Nat.ble (R j) (R (j + 1)) then some j else kF R j
def jF (R : Nat → Nat) (k : Nat) : Nat → Nat
  | 0 => 0
  | j + 1 => bif Nat.ble (R k) (R (j + 1)) then j + 1 else jF R k j
def swF (R : Nat → Nat) (i j : Nat) : Nat → Nat := fun x => bif Nat.beq x j then R i else bif Nat.beq x i then R j else R x
def rvF : Nat → Nat → Nat → (Nat → Nat) → (Nat → Nat)
  | 0, _, _, R => R
  | f + 1, lo, hi, R => bif Nat.ble hi lo then R else rvF f (lo + 1) (hi - 1) (swF R lo hi)
def nextF (n : Nat) (R : Nat → Nat) : Option (Nat → Nat) := match kF R (n - 1) with
  | none => none
  | some k => some (rvF 8 (k + 1) (n - 1) (swF R k (jF R k (n - 1))))
def isNext (a b : List Nat) : Bool := match nextF a.length (fun i => a.getD i 0) with
  | none => false
  | some R => Nat.beq a.length b.length && (List.range a.length).all (fun i => Nat.beq (R i) (b.getD i 0))
def isLast (a : List Nat) : Bool := match nextF a.length (fun i => a.getD i 0) with
  | none => true
  | some _ => false
def chainB : List (List Nat) → Bool
  | [] => false
  | a :: t => match t with
    | [] => isLast a
    | b :: _ => isNext a b && chainB t
theorem bc_len : ∀ s, s < 256 → f_J6_bitCount_0f7a4 (nI s) = some (nI (gsFrom s 8 0).length) := by decide +kernel
theorem chain_ix : ∀ n, n < 7 → 0 < n → chainB (permsL n (List.range n)) = true := by decide +kernel
theorem erase_map {f : Nat → Nat} {g : Nat} : ∀ (l : List Nat), (∀ x, x ∈ l → f x = f g → x = g) → (l.map f).erase (f g) = (l.erase g).map f
  | [], _ => rfl
  | x :: l, h => by
    have ih := erase_map l (fun y hy => h y (List.mem_cons_of_mem _ hy))
    simp only [List.map_cons, List.erase_cons]
    by_cases e : x = g
    · rw [e]
      simp
    · have e2 : ¬ f x = f g := fun z => e (h x (by simp) z)
      rw [if_neg (by simpa using e2), if_neg (by simpa using e), ih]
      rfl
theorem fm_congr {α β : Type} {f g : α → List β} : ∀ (l : List α), (∀ x, x ∈ l → f x = g x) → l.flatMap f = l.flatMap g
  | [], _ => rfl
  | x :: l, h => by
    simp only [List.flatMap_cons]
    rw [h x (by simp), fm_congr l (fun y hy => h y (List.mem_cons_of_mem _ hy))]
theorem perms_map {f : Nat → Nat} : ∀ (n : Nat) (l : List Nat), (∀ x y, x ∈ l → y ∈ l → f x = f y → x = y) → permsL n (l.map f) = (permsL n l).map (List.map f)
  | 0, _, _ => rfl
  | n + 1, l, h => by
    simp only [permsL, List.flatMap_map, List.map_flatMap]
    refine fm_congr _ (fun g hg => ?_)
    rw [erase_map l (fun x hx e => h x g hx hg e), perms_map n (l.erase g) (fun x y hx hy e => h x y (List.mem_of_mem_erase hx) (List.mem_of_mem_erase hy) e)]
    simp only [List.map_map]
    rfl
theorem gs_range (l : List Nat) : l = (List.range l.length).map (fun i => l.getD i 0) := by
  apply List.ext_getElem
  · simp
  · intro i h1 h2
    simp [List.getD_eq_getElem?_getD, List.getElem?_eq_getElem h1]
theorem gsFrom_mem {s : Nat} : ∀ (c j x : Nat), x ∈ gsFrom s c j ↔ (j ≤ x ∧ x < j + c ∧ s.testBit x = true)
  | 0, j, x => by
    simp only [gsFrom, List.not_mem_nil, false_iff]
    rintro ⟨h1, h2, -⟩
    omega
  | c + 1, j, x => by
    have ih := gsFrom_mem (s := s) c (j + 1) x
    simp only [gsFrom]
    cases hb : s.testBit j with
    | true =>
      simp only [cond_true, List.mem_cons, ih]
      constructor
      · rintro (h | ⟨h1, h2, h3⟩)
        · exact ⟨by omega, by omega, by rw [h]; exact hb⟩
        · exact ⟨by omega, by omega, h3⟩
      · rintro ⟨h1, h2, h3⟩
        by_cases e : x = j
        · exact Or.inl e
        · exact Or.inr ⟨by omega, by omega, h3⟩
    | false =>
      simp only [cond_false, ih]
      constructor
      · rintro ⟨h1, h2, h3⟩
        exact ⟨by omega, by omega, h3⟩
      · rintro ⟨h1, h2, h3⟩
        by_cases e : x = j
        · rw [e, hb] at h3; cases h3
        · exact ⟨by omega, by omega, h3⟩
theorem gsFrom_sorted {s : Nat} : ∀ (c j : Nat), (gsFrom s c j).Pairwise (· < ·)
  | 0, _ => List.Pairwise.nil
  | c + 1, j => by
    have ih := gsFrom_sorted (s := s) c (j + 1)
    simp only [gsFrom]
    cases hb : s.testBit j with
    | true =>
      simp only [cond_true]
      refine List.Pairwise.cons (fun x hx => ?_) ih
      have := (gsFrom_mem c (j + 1) x).mp hx
      omega
    | false => exact ih
theorem gsFrom_nodup (s c j : Nat) : (gsFrom s c j).Nodup := (gsFrom_sorted c j).imp (fun h => by omega)
theorem gs_mono {s i j : Nat} (hi : i < j) (hj : j < (gsFrom s 8 0).length) : (gsFrom s 8 0).getD i 0 < (gsFrom s 8 0).getD j 0 := by
  have h := List.pairwise_iff_getElem.mp (gsFrom_sorted (s := s) 8 0) i j (by omega) hj hi
  simp only [List.getD_eq_getElem?_getD]
  rw [List.getElem?_eq_getElem (by omega), List.getElem?_eq_getElem hj]
  exact h
theorem gs_clr : ∀ s, s < 256 → ∀ g, g < 8 → s.testBit g = true → gsFrom (clr s g) 8 0 = (gsFrom s 8 0).erase g := by decide +kernel
theorem gs_nil : ∀ s, s < 256 → (gsFrom s 8 0 = [] ↔ s = 0) := by decide +kernel
theorem perms_len : ∀ (n : Nat) (l r : List Nat), l.length = n → r ∈ permsL n l → r.length = n
  | 0, _, r, _, h => by
    simp only [permsL, List.mem_singleton] at h
    rw [h]
    rfl
  | n + 1, l, r, hl, h => by
    simp only [permsL, List.mem_flatMap, List.mem_map] at h
    obtain ⟨g, hg, r', hr', rfl⟩ := h
    have := perms_len n (l.erase g) r' (by rw [List.length_erase_of_mem hg]; omega) hr'
    simp only [List.length_cons]
    omega
theorem perms_sub : ∀ (n : Nat) (l r : List Nat), l.length = n → l.Nodup → r ∈ permsL n l → r.Nodup ∧ ∀ x, x ∈ r → x ∈ l
  | 0, _, r, _, _, h => by
    simp only [permsL, List.mem_singleton] at h
    rw [h]
    exact ⟨List.nodup_nil, fun x hx => by cases hx⟩
  | n + 1, l, r, hl, hn, h => by
    simp only [permsL, List.mem_flatMap, List.mem_map] at h
    obtain ⟨g, hg, r', hr', rfl⟩ := h
    obtain ⟨h1, h2⟩ := perms_sub n (l.erase g) r' (by rw [List.length_erase_of_mem hg]; omega) (hn.erase g) hr'
    refine ⟨List.nodup_cons.mpr ⟨fun e => ?_, h1⟩, fun x hx => ?_⟩
    · exact ((List.Nodup.mem_erase_iff hn).mp (h2 g e)).1 rfl
    · rcases List.mem_cons.mp hx with e | e
      · rw [e]; exact hg
      · exact List.mem_of_mem_erase (h2 x e)
