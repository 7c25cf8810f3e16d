/-! chance: weights -/
/-- a stranger comes -/
def stA (k : Nat) (w : Nat → Nat) (i : Nat) (C : AIn) : AIn := comeA (chA k (wA w (8 + i)) C.2.1) (8 + i) C
def wtA (k : Nat) (w : Nat → Nat) (t b : Nat) : Nat → Nat → AIn → Nat
  | 0, _, C => if C.1 b = none then 0 else 1
  | r + 1, i, C => t * wtA k w t b r (i + 1) (stA k w i C) + (10 - t) * wtA k w t b r (i + 1) (dropA C)
theorem wtA_le {k : Nat} {w : Nat → Nat} {t b : Nat} (ht : t ≤ 10) : ∀ (r i : Nat) (C : AIn), wtA k w t b r i C ≤ 10 ^ r
  | 0, i, C => by
    simp only [wtA]
    split <;> omega
  | r + 1, i, C => by
    have h1 := wtA_le (k := k) (w := w) (b := b) ht r (i + 1) (stA k w i C)
    have h2 := wtA_le (k := k) (w := w) (b := b) ht r (i + 1) (dropA C)
    simp only [wtA, Nat.pow_succ]
    have h3 := Nat.mul_le_mul_left t h1
    have h4 := Nat.mul_le_mul_left (10 - t) h2
    have h5 : t * 10 ^ r + (10 - t) * 10 ^ r = 10 ^ r * 10 := by
      rw [← Nat.add_mul, Nat.mul_comm]
      congr 1
      omega
    omega
theorem dropA_pres {n : Nat} {C : AIn} (hC : AOk n C) (x : Nat) (h : presA (dropA C) x) : presA C x := by
  unfold dropA at h
  split at h
  · rename_i b hb
    have h1 := List.find?_some hb
    obtain ⟨g, hg⟩ := Option.isSome_iff_exists.mp h1
    exact ((freeA_pres hC hg x).mp h).2
  · exact h
theorem st_facts {n k i : Nat} {w : Nat → Nat} {C : AIn} (hC : AOk n C) (hi : i < 8) (hp : ∀ x, presA C x → x < 8 + i) : ¬ presA C (8 + i) ∧ AOk n (stA k w i C) ∧ (∀ x, presA (stA k w i C) x → x < 8 + (i + 1)) ∧ AOk n (dropA C) ∧ ∀ x, presA (dropA C) x → x < 8 + (i + 1) := by
  have h1 : ¬ presA C (8 + i) := fun e => by have := hp _ e; omega
  refine ⟨h1, comeA_ok hC (by omega) h1 (fun e => chA_lt k _ _ e), fun x hx => ?_, dropA_ok hC, fun x hx => ?_⟩
  · rcases (comeA_pres hC (fun e => chA_lt k _ _ e) x).mp hx with e | e
    · omega
    · have := hp x e
      omega
  · have := hp x (dropA_pres hC x hx)
    omega
theorem f_weightOf {n k q : Nat} {w sg sb : Nat → Nat} {tH : HouS} (hH : HouR tH (n, k, q, w, sg, sb)) (hw : ∀ j, w j ≤ 99) (hn : n ≤ 8) (hk : k < 4) {t b : Nat} (ht : t ≤ 10) (hb : b < 8) : ∀ (r i R : Nat) (C : AIn) (I : InnS) (T : List InnS), i + r ≤ 8 → r < R → r ≤ T.length → AOk n C → (∀ x, presA C x → x < 8 + i) → InR k C I → ∃ T', f_X5_weightOf R (nI b) (nI r) (nI t) tH I T = some (lN (wtA k w t b r i C), T') ∧ T'.length = T.length := by
  obtain ⟨H_beds, H_law, H_sights, H_isKept, H_worths, H_sightGuests, H_sightBeds⟩ := tH
  intro r
  induction r with
  | zero =>
    intro i R C I T h1 h2 h3 hC hp hI
    obtain ⟨R, rfl⟩ : ∃ z, R = z + 1 := ⟨R - 1, by omega⟩
    obtain ⟨I_law, I_there, I_sleepers, I_empty, I_empties, I_yard, I_waiting, I_nights, I_used, I_sheets, I_lastOnes, I_guestsWithFleas, I_bedsWithFleas, I_isCounting⟩ := I
    have hsl : I_sleepers b = cdO (C.1 b) := hI.2.2.1 b hb
    have hfin : (Option.bind (f_X3_sleeperOf (nI b) (I_law, I_there, I_sleepers, I_empty, I_empties, I_yard, I_waiting, I_nights, I_used, I_sheets, I_lastOnes, I_guestsWithFleas, I_bedsWithFleas, I_isCounting)) (fun r_6 => (if r_6 = (-1 : Int32) then some ((lN 0), T) else some ((lN 1), T)))) = some (lN (wtA k w t b 0 i C), T) := by
      rw [f_sleeperOf hb, hsl, Option.bind_some]
      simp only [wtA]
      by_cases e : C.1 b = none
      · rw [if_pos (cdO_m1.mpr e), if_pos e]
      · rw [if_neg (fun z => e (cdO_m1.mp z)), if_neg e]
    refine ⟨T, ?_, rfl⟩
    rcases T with _ | ⟨⟨J_law, J_there, J_sleepers, J_empty, J_empties, J_yard, J_waiting, J_nights, J_used, J_sheets, J_lastOnes, J_guestsWithFleas, J_bedsWithFleas, J_isCounting⟩, T⟩
    · rw [f_X5_weightOf, if_neg (show ¬ 0 < nI 0 by decide)]
      exact hfin
    · rw [f_X5_weightOf, if_neg (show ¬ 0 < nI 0 by decide)]
      exact hfin
  | succ r ih =>
    intro i R C I T h1 h2 h3 hC hp hI
    obtain ⟨R, rfl⟩ : ∃ z, R = z + 1 := ⟨R - 1, by omega⟩
    cases T with
    | nil => simp at h3
    | cons J T =>
      simp only [List.length_cons] at h3
      obtain ⟨s1, s2, s3, s4, s5⟩ := st_facts (k := k) (w := w) hC (show i < 8 by omega) hp
      obtain ⟨t1, a1, a2⟩ := f_standAs (t := J) hC hn hI
      obtain ⟨t2, b1, b2, -⟩ := f_takeIn hH hw hn hk hC a2 (g := 8 + i) (by omega) s1
      rw [Nat.min_eq_right (by omega)] at b1
      obtain ⟨T1, c1, c2⟩ := ih (i + 1) R (stA k w i C) t2 T (by omega) (by omega) (by omega) s2 s3 b2
      obtain ⟨t3, d1, d2⟩ := f_standAs (t := t2) hC hn hI
      obtain ⟨t4, e1, e2⟩ := f_emptyLeast hC hn d2
      obtain ⟨T2, g1, g2⟩ := ih (i + 1) R (dropA C) t4 T1 (by omega) (by omega) (by omega) s4 s5 e2
      obtain ⟨I_law, I_there, I_sleepers, I_empty, I_empties, I_yard, I_waiting, I_nights, I_used, I_sheets, I_lastOnes, I_guestsWithFleas, I_bedsWithFleas, I_isCounting⟩ := I
      obtain ⟨J_law, J_there, J_sleepers, J_empty, J_empties, J_yard, J_waiting, J_nights, J_used, J_sheets, J_lastOnes, J_guestsWithFleas, J_bedsWithFleas, J_isCounting⟩ := J
      obtain ⟨u1, u2, u3, u4, u5, u6, u7, u8, u9, u10, u11, u12, u13, u14⟩ := t1
      obtain ⟨v1, v2, v3, v4, v5, v6, v7, v8, v9, v10, v11, v12, v13, v14⟩ := t2
      obtain ⟨x1, x2, x3, x4, x5, x6, x7, x8, x9, x10, x11, x12, x13, x14⟩ := t3
      obtain ⟨y1, y2, y3, y4, y5, y6, y7, y8, y9, y10, y11, y12, y13, y14⟩ := t4
      refine ⟨(y1, y2, y3, y4, y5, y6, y7, y8, y9, y10, y11, y12, y13, y14) :: T2, ?_, by simp only [List.length_cons]; omega⟩
      rw [f_X5_weightOf, if_pos (by rw [n_gt0 (by omega)]; omega), n_sub (by omega), Nat.add_sub_cancel, a1, Option.bind_some]
      dsimp only
      rw [b1, Option.bind_some]
      dsimp only
      rw [c1, Option.bind_some]
      dsimp only
      rw [if_pos c2, d1, Option.bind_some]
      dsimp only
      rw [e1, Option.bind_some]
      dsimp only
      rw [g1, Option.bind_some]
      dsimp only
      rw [if_pos g2, n_sub (by omega), nI_l (by omega), nI_l (by omega), lN_mul, lN_mul, lN_add]
      rfl
/-- a row of draws, told by a number -/
def pvA (k : Nat) (w : Nat → Nat) (t b : Nat) : Nat → Nat → Nat → Nat → AIn → Nat
  | 0, _, own, _, C => if C.1 b = none then 0 else own
  | r + 1, i, own, h, C => if h % 2 = 1 then pvA k w t b r (i + 1) (own * t) (h / 2) (stA k w i C) else pvA k w t b r (i + 1) (own * (10 - t)) (h / 2) (dropA C)
theorem sumN_two (f : Nat → Nat) : ∀ N, sumN f (2 * N) = sumN (fun h => f (2 * h) + f (2 * h + 1)) N
  | 0 => rfl
  | N + 1 => by
    rw [show 2 * (N + 1) = 2 * N + 1 + 1 by omega]
    simp only [sumN]
    rw [sumN_two f N]
    omega
theorem sumN_add (f g : Nat → Nat) : ∀ N, sumN (fun h => f h + g h) N = sumN f N + sumN g N
  | 0 => rfl
  | N + 1 => by
    simp only [sumN]
    rw [sumN_add f g N]
    omega
theorem sumN_congr {f g : Nat → Nat} : ∀ N, (∀ h, h < N → f h = g h) → sumN f N = sumN g N
  | 0, _ => rfl
  | N + 1, h => by
    simp only [sumN]
    rw [sumN_congr N (fun x hx => h x (by omega)), h N (by omega)]
theorem pv_sum {k : Nat} {w : Nat → Nat} {t b : Nat} : ∀ (r i own : Nat) (C : AIn), sumN (fun h => pvA k w t b r i own h C) (2 ^ r) = own * wtA k w t b r i C
  | 0, i, own, C => by
    rw [Nat.pow_zero]
    simp only [sumN, pvA, wtA]
    split <;> simp
  | r + 1, i, own, C => by
    rw [Nat.pow_succ, Nat.mul_comm, sumN_two]
    have e1 : ∀ h, h < 2 ^ r → pvA k w t b (r + 1) i own (2 * h) C + pvA k w t b (r + 1) i own (2 * h + 1) C = pvA k w t b r (i + 1) (own * (10 - t)) h (dropA C) + pvA k w t b r (i + 1) (own * t) h (stA k w i C) := by
      intro h _
      have a1 : pvA k w t b (r + 1) i own (2 * h) C = pvA k w t b r (i + 1) (own * (10 - t)) h (dropA C) := by
        show (if 2 * h % 2 = 1 then _ else _) = _
        rw [if_neg (by omega), show 2 * h / 2 = h by omega]
      have a2 : pvA k w t b (r + 1) i own (2 * h + 1) C = pvA k w t b r (i + 1) (own * t) h (stA k w i C) := by
        show (if (2 * h + 1) % 2 = 1 then _ else _) = _
        rw [if_pos (by omega), show (2 * h + 1) / 2 = h by omega]
      rw [a1, a2]
    rw [sumN_congr _ e1, sumN_add, pv_sum r (i + 1) (own * (10 - t)) (dropA C), pv_sum r (i + 1) (own * t) (stA k w i C)]
    simp only [wtA]
    rw [Nat.mul_add, Nat.mul_assoc, Nat.mul_assoc, Nat.add_comm]
theorem pv_le {k : Nat} {w : Nat → Nat} {t b : Nat} (ht : t ≤ 10) : ∀ (r i own h : Nat) (C : AIn), pvA k w t b r i own h C ≤ own * 10 ^ r
  | 0, i, own, h, C => by
    rw [Nat.pow_zero, Nat.mul_one]
    simp only [pvA]
    split <;> omega
  | r + 1, i, own, h, C => by
    have h1 := pv_le (k := k) (w := w) (b := b) ht r (i + 1) (own * t) (h / 2) (stA k w i C)
    have h2 := pv_le (k := k) (w := w) (b := b) ht r (i + 1) (own * (10 - t)) (h / 2) (dropA C)
    have h3 : own * t * 10 ^ r ≤ own * 10 ^ (r + 1) := by
      rw [Nat.pow_succ, Nat.mul_assoc, Nat.mul_comm (10 ^ r) 10]
      exact Nat.mul_le_mul_left own (Nat.mul_le_mul_right _ ht)
    have h4 : own * (10 - t) * 10 ^ r ≤ own * 10 ^ (r + 1) := by
      rw [Nat.pow_succ, Nat.mul_assoc, Nat.mul_comm (10 ^ r) 10]
      exact Nat.mul_le_mul_left own (Nat.mul_le_mul_right _ (by omega))
    simp only [pvA]
    split <;> omega
