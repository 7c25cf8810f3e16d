/-! what the class's cells and the reference's cells have in common, between calls -/
abbrev AHs : Type := Nat × Nat × Nat × (Nat → Nat) × (Nat → Nat) × (Nat → Nat)
/-- beds 2 to 8, law 0 to 3, at most 6 sights, worths to 99, sights of guests and beds that there may be -/
def AHok : AHs → Prop
  | (n, k, q, w, sg, sb) => 2 ≤ n ∧ n ≤ 8 ∧ k < 4 ∧ q ≤ 6 ∧ (∀ j, w j ≤ 99) ∧ (∀ j, sg j < 8) ∧ ∀ j, sb j < 8
def HouR : HouS → AHs → Prop
  | (bd, lw, si, _, W, SG, SB), (n, k, q, w, sg, sb) => bd = nI n ∧ lw = nI k ∧ si = nI q ∧ (∀ j, j < 64 → W j = nI (w j)) ∧ (∀ j, j < 6 → SG j = nI (sg j)) ∧ ∀ j, j < 6 → SB j = nI (sb j)
def DayR : DayS → Nat → (Nat → Nat) → Prop
  | (len, S), m, d => len = nI m ∧ m ≤ 48 ∧ ∀ j, j < 48 → S j = nI (d j) ∧ d j < 127
def ModHR : ModS → AHs → Prop
  | (bd, lw, W, si, SI, _, _, _, _, _, _, _, _, _, _, _, _, _, _, _, _, _, _), (n, k, q, w, sg, sb) => bd = nI n ∧ lw = nI k ∧ si = nI q ∧ (∀ j, j < 64 → W j = nI (w j)) ∧ ∀ j, j < 6 → SI (2 * j) = nI (sg j) ∧ SI (2 * j + 1) = nI (sb j)
def ModDR : ModS → Nat → (Nat → Nat) → Prop
  | (_, _, _, _, _, sn, pad, _, _, _, _, _, _, _, _, _, _, _, _, _, _, _, _), m, d => sn = nI m ∧ ∀ j, j < 48 → pad j = nI (d j)
/-- an image: the class's house of it, the reference's stretch of it -/
def ModIR : ModS → Nat → AHs → Prop
  | (_, _, _, _, _, _, _, _, _, _, _, _, _, _, _, _, _, _, _, _, _, im, _), i, (n, k, q, w, sg, sb) => (∀ j, j < 64 → im (80 * i + j) = nI (w j)) ∧ (∀ j, j < 6 → im (80 * i + 64 + 2 * j) = nI (sg j) ∧ im (80 * i + 64 + (2 * j + 1)) = nI (sb j)) ∧ im (80 * i + 76) = nI n ∧ im (80 * i + 77) = nI k ∧ im (80 * i + 78) = nI q
def ModKR : ModS → Nat → Int32 → Prop
  | (_, _, _, _, _, _, _, _, _, _, _, _, _, _, _, _, _, _, _, _, _, _, kp), i, z => kp i = z
def HouK : HouS → Int32
  | (_, _, _, kp, _, _, _) => kp
def ImgR (t : HouS) (tM : ModS) (i : Nat) : Prop := (HouK t = nI 0 ∧ ModKR tM i (nI 0)) ∨ (HouK t = nI 1 ∧ ModKR tM i (nI 1) ∧ ∃ h, AHok h ∧ HouR t h ∧ ModIR tM i h)
def Inv (tH tY tZ : HouS) (tD : DayS) (tT : List InnS) (tM : ModS) : Prop := tT.length = 8 ∧ (∃ h, AHok h ∧ HouR tH h ∧ ModHR tM h) ∧ (∃ m d, DayR tD m d ∧ ModDR tM m d) ∧ ImgR tY tM 0 ∧ ImgR tZ tM 1
/-- the cells of each component have the same addresses, whatever they hold -/
theorem bC_fst (cI : ClassId) (a : Nat → Nat) (r0 r1 r2 r3 r4 r5 r6 : Nat) (t : WbS) : (bC cI a r0 r1 r2 r3 r4 r5 r6 t).map (fun q => q.1) = [a 0, a 1] := rfl
theorem hC_fst (cI : ClassId) (a : Nat → Nat) (t : HouS) : (hC cI a t).map (fun q => q.1) = [a 0, a 1, a 2, a 3] := by
  obtain ⟨x1, x2, x3, x4, x5, x6, x7⟩ := t
  rfl
theorem dC_fst (cI : ClassId) (a : Nat → Nat) (t : DayS) : (dC cI a t).map (fun q => q.1) = [a 0, a 1] := by
  obtain ⟨x1, x2⟩ := t
  rfl
theorem pC_fst (cI : ClassId) (a : Nat → Nat) (t : ParS) : (pC cI a t).map (fun q => q.1) = [a 0, a 1, a 2] := by
  obtain ⟨x1, x2, x3, x4⟩ := t
  rfl
theorem qC_fst (cI : ClassId) (a : Nat → Nat) (t : GueS) : (qC cI a t).map (fun q => q.1) = [a 0, a 1, a 2, a 3] := by
  obtain ⟨x1, x2, x3, x4, x5⟩ := t
  rfl
theorem mC_fst (cI cZ : ClassId) (a : Nat → Nat) (t : ModS) : (mC cI cZ a t).map (fun q => q.1) = [a 0, a 1, a 2, a 3, a 4, a 5, a 6, a 7, a 8, a 9, a 10, a 11, a 12, a 13, a 14] := by
  obtain ⟨x1, x2, x3, x4, x5, x6, x7, x8, x9, x10, x11, x12, x13, x14, x15, x16, x17, x18, x19, x20, x21, x22, x23⟩ := t
  rfl
theorem mC_get0 (cI cZ : ClassId) (a : Nat → Nat) (t : ModS) : ∃ fs, (mC cI cZ a t)[0]? = some (a 0, .inr (6, fs)) := by
  obtain ⟨x1, x2, x3, x4, x5, x6, x7, x8, x9, x10, x11, x12, x13, x14, x15, x16, x17, x18, x19, x20, x21, x22, x23⟩ := t
  exact ⟨_, rfl⟩
