abbrev DayS : Type := Int32 × (Nat → Int32)
abbrev GueS : Type := Int32 × Int32 × (Nat → Int32) × (Nat → Int32) × (Nat → Int32)
abbrev HouS : Type := Int32 × Int32 × Int32 × Int32 × (Nat → Int32) × (Nat → Int32) × (Nat → Int32)
abbrev InnS : Type := Int32 × Int32 × (Nat → Int32) × (Nat → Int32) × Int32 × (Nat → Int32) × Int32 × (Nat → Int32) × (Nat → Int32) × (Nat → Int32) × (Nat → Int32) × Int32 × Int32 × Int32
abbrev ParS : Type := Int32 × Int32 × (Nat → Int32) × (Nat → Int32)
abbrev WbS : Type := (Nat → Int32)
abbrev ModS : Type := Int32 × Int32 × (Nat → Int32) × Int32 × (Nat → Int32) × Int32 × (Nat → Int32) × (Nat → Int32) × Int32 × (Nat → Int32) × Int32 × (Nat → Int32) × (Nat → Int32) × (Nat → Int32) × (Nat → Int32) × (Nat → Int32) × Int32 × Int32 × Int32 × (Nat → Int32) × (Nat → Int32) × (Nat → Int32) × (Nat → Int32)
def dC (cI : ClassId) (a : Nat → Nat) : DayS → va_W
  | (v_length, v_signs) => [(a 0, .inr (0, [.int v_length, .ref (a 1)])), (a 1, .inl (cI, 48, .inl v_signs))]
def qC (cI : ClassId) (a : Nat → Nat) : GueS → va_W
  | (v_ways, v_untold, v_trial, v_first, v_suspects) => [(a 0, .inr (1, [.int v_ways, .int v_untold, .ref (a 1), .ref (a 2), .ref (a 3)])), (a 1, .inl (cI, 3, .inl v_trial)), (a 2, .inl (cI, 3, .inl v_first)), (a 3, .inl (cI, 3, .inl v_suspects))]
def hC (cI : ClassId) (a : Nat → Nat) : HouS → va_W
  | (v_beds, v_law, v_sights, v_isKept, v_worths, v_sightGuests, v_sightBeds) => [(a 0, .inr (2, [.int v_beds, .int v_law, .int v_sights, .int v_isKept, .ref (a 1), .ref (a 2), .ref (a 3)])), (a 1, .inl (cI, 64, .inl v_worths)), (a 2, .inl (cI, 6, .inl v_sightGuests)), (a 3, .inl (cI, 6, .inl v_sightBeds))]
def iC (cI : ClassId) (a : Nat → Nat) (hh : Nat) (dp : Option Nat) : InnS → va_W
  | (v_law, v_there, v_sleepers, v_empty, v_empties, v_yard, v_waiting, v_nights, v_used, v_sheets, v_lastOnes, v_guestsWithFleas, v_bedsWithFleas, v_isCounting) => [(a 0, .inr (3, [.ref hh, va_rf dp, .int v_law, .int v_there, .ref (a 1), .ref (a 2), .int v_empties, .ref (a 3), .int v_waiting, .ref (a 4), .ref (a 5), .ref (a 6), .ref (a 7), .int v_guestsWithFleas, .int v_bedsWithFleas, .int v_isCounting])), (a 1, .inl (cI, 8, .inl v_sleepers)), (a 2, .inl (cI, 8, .inl v_empty)), (a 3, .inl (cI, 16, .inl v_yard)), (a 4, .inl (cI, 8, .inl v_nights)), (a 5, .inl (cI, 8, .inl v_used)), (a 6, .inl (cI, 8, .inl v_sheets)), (a 7, .inl (cI, 8, .inl v_lastOnes))]
def pC (cI : ClassId) (a : Nat → Nat) : ParS → va_W
  | (v_most, v_size, v_bestOrder, v_trial) => [(a 0, .inr (4, [.int v_most, .int v_size, .ref (a 1), .ref (a 2)])), (a 1, .inl (cI, 6, .inl v_bestOrder)), (a 2, .inl (cI, 6, .inl v_trial))]
def bC (cI : ClassId) (a : Nat → Nat) (r0 r1 r2 r3 r4 r5 r6 : Nat) : WbS → va_W
  | v_bedsByPlace => [(a 0, .inr (5, [.ref r0, .ref r1, .ref r2, .ref r3, .ref r4, .ref r5, .ref r6, .ref (a 1)])), (a 1, .inl (cI, 48, .inl v_bedsByPlace))]
def mC (cI : ClassId) (cZ : ClassId) (a : Nat → Nat) : ModS → va_W
  | (v_beds, v_law, v_worths, v_sights, v_sight, v_signs, v_pad, v_lies, v_empty, v_list, v_waits, v_yard, v_last, v_used, v_sheets, v_nights, v_fleasOfGuests, v_fleasOfBeds, v_reason, v_row, v_bestRow, v_image, v_isKept) => [(a 0, .inr (6, [.int v_beds, .int v_law, .ref (a 1), .int v_sights, .ref (a 2), .int v_signs, .ref (a 3), .ref (a 4), .int v_empty, .ref (a 5), .int v_waits, .ref (a 6), .ref (a 7), .ref (a 8), .ref (a 9), .ref (a 10), .int v_fleasOfGuests, .int v_fleasOfBeds, .int v_reason, .ref (a 11), .ref (a 12), .ref (a 13), .ref (a 14)])), (a 1, .inl (cI, 64, .inl v_worths)), (a 2, .inl (cI, 12, .inl v_sight)), (a 3, .inl (cI, 48, .inl v_pad)), (a 4, .inl (cI, 8, .inl v_lies)), (a 5, .inl (cI, 8, .inl v_list)), (a 6, .inl (cI, 64, .inl v_yard)), (a 7, .inl (cI, 8, .inl v_last)), (a 8, .inl (cI, 8, .inl v_used)), (a 9, .inl (cI, 8, .inl v_sheets)), (a 10, .inl (cI, 8, .inl v_nights)), (a 11, .inl (cI, 8, .inl v_row)), (a 12, .inl (cI, 8, .inl v_bestRow)), (a 13, .inl (cI, 160, .inl v_image)), (a 14, .inl (cZ, 2, .inl v_isKept))]
/-- rows on options: what a printed function says where it answers -/
theorem gq_ifp {α : Type} {c : Prop} [Decidable c] {a b : Option α} {r : α} (h : c) (hf : (if c then a else b) = some r) : a = some r := by rw [if_pos h] at hf; exact hf
theorem gq_ifn {α : Type} {c : Prop} [Decidable c] {a b : Option α} {r : α} (h : ¬ c) (hf : (if c then a else b) = some r) : b = some r := by rw [if_neg h] at hf; exact hf
theorem gq_ok {α : Type} {c : Prop} [Decidable c] {a : Option α} {r : α} (hf : (if c then none else a) = some r) : ¬ c ∧ a = some r := by
  by_cases h : c
  · rw [if_pos h] at hf; cases hf
  · rw [if_neg h] at hf; exact ⟨h, hf⟩
theorem gq_bd {α β : Type} {o : Option α} {g : α → Option β} {r : β} (hf : Option.bind o g = some r) : ∃ u, o = some u ∧ g u = some r := by
  cases o with
  | none => cases hf
  | some u => exact ⟨u, rfl, hf⟩
theorem gq_lf {α : Type} {x r : α} (hf : some x = some r) : x = r := Option.some.inj hf
def gJn {α β : Type} (r : α) (B : α → β) : β := B r
theorem gq_jn {α β : Type} {r : α} {B : α → Option β} {rr : β} {T : Prop} (P : α → Prop) (hf : gJn r B = some rr) (hP : P r) (kk : ∀ k, P k → B k = some rr → T) : T := kk r hP hf
theorem gPost.rf {v : Option Value} {W1 : List va_W} : gPost v W1 v W1 := ⟨rfl, rfl⟩
theorem gq_out1 {x : Int32} (h0 : ¬ x = 0) (h1 : ¬ x = 1) : x.toInt < 0 ∨ 1 < x.toInt := by
  have a0 : x.toInt ≠ 0 := fun h => h0 (Int32.toInt_inj.mp h)
  have a1 : x.toInt ≠ 1 := fun h => h1 (Int32.toInt_inj.mp h)
  omega
theorem gq_out2 {x : Int32} (h0 : ¬ x = 0) (h1 : ¬ x = 1) (h2 : ¬ x = 2) : x.toInt < 0 ∨ 2 < x.toInt := by
  have a0 : x.toInt ≠ 0 := fun h => h0 (Int32.toInt_inj.mp h)
  have a1 : x.toInt ≠ 1 := fun h => h1 (Int32.toInt_inj.mp h)
  have a2 : x.toInt ≠ 2 := fun h => h2 (Int32.toInt_inj.mp h)
  omega
theorem gq_out3 {x : Int32} (h0 : ¬ x = 0) (h1 : ¬ x = 1) (h2 : ¬ x = 2) (h3 : ¬ x = 3) : x.toInt < 0 ∨ 3 < x.toInt := by
  have a0 : x.toInt ≠ 0 := fun h => h0 (Int32.toInt_inj.mp h)
  have a1 : x.toInt ≠ 1 := fun h => h1 (Int32.toInt_inj.mp h)
  have a2 : x.toInt ≠ 2 := fun h => h2 (Int32.toInt_inj.mp h)
  have a3 : x.toInt ≠ 3 := fun h => h3 (Int32.toInt_inj.mp h)
  omega
section CTS
variable {l : Launch} {D : va_G} {cI cZ : ClassId} {y : MethodName} {cc : ByteArray} {mL : Nat} {fr lo mc ms : Nat} {argl : List Value} {W0 : List va_W} {post : Option Value → List va_W → Prop}
theorem CT.mkI (hpl : plainName y.cls = true) (hnl : (lg_sl argl).length ≤ mL)
    (body : ∀ {p : Program} {e : Env} {R : Room} {s : State} {m : MethodId} {args : Array Value} {below : List Frame} {meth : Method} {c : Code} {A : Nat → Prop} {H0 : Heap} {Q : State → Prop}, gC p s m args c cc mL y.cls D cI cZ → (∀ q, H0.size ≤ q → A q) → (fr ≤ R.frames ∧ lo ≤ R.locals ∧ mc ≤ R.cells ∧ ms ≤ R.slots) →
      (∀ {x : Int32} {ws : List va_W} {pc : Nat} {lv : List (Nat × Value)}, decode cc pc = .ok (.ireturn, 1) → post (some (.int x)) ws → G p l e R s m args below meth c mL D A H0 mc ms Q ws pc lv [.int x]) → G p l e R s m args below meth c mL D A H0 0 0 Q W0 0 (lv_args 0 argl) []) : CT l D cI cZ y cc mL (some .int) fr lo mc ms argl W0 post :=
  CT.mk hpl hnl fun _ _ _ _ _ _ _ C hr hlk _ => body C (fun _ h => Or.inr h) ⟨Nat.le_refl _, Nat.le_refl _, Nat.le_refl _, Nat.le_refl _⟩ (fun hdg hp => gq_iret C hr hlk hdg hp)
theorem CT.mkZ (hpl : plainName y.cls = true) (hnl : (lg_sl argl).length ≤ mL)
    (body : ∀ {p : Program} {e : Env} {R : Room} {s : State} {m : MethodId} {args : Array Value} {below : List Frame} {meth : Method} {c : Code} {A : Nat → Prop} {H0 : Heap} {Q : State → Prop}, gC p s m args c cc mL y.cls D cI cZ → (∀ q, H0.size ≤ q → A q) → (fr ≤ R.frames ∧ lo ≤ R.locals ∧ mc ≤ R.cells ∧ ms ≤ R.slots) →
      (∀ {x : Int32} {ws : List va_W} {pc : Nat} {lv : List (Nat × Value)}, decode cc pc = .ok (.ireturn, 1) → narrow .boolean (.int x) = .int x → post (some (.int x)) ws → G p l e R s m args below meth c mL D A H0 mc ms Q ws pc lv [.int x]) → G p l e R s m args below meth c mL D A H0 0 0 Q W0 0 (lv_args 0 argl) []) : CT l D cI cZ y cc mL (some .boolean) fr lo mc ms argl W0 post :=
  CT.mk hpl hnl fun _ _ _ _ _ _ _ C hr hlk _ => body C (fun _ h => Or.inr h) ⟨Nat.le_refl _, Nat.le_refl _, Nat.le_refl _, Nat.le_refl _⟩ (fun hdg hx hp => gq_zret C hr hlk hdg hx hp)
theorem CT.mkL (hpl : plainName y.cls = true) (hnl : (lg_sl argl).length ≤ mL)
    (body : ∀ {p : Program} {e : Env} {R : Room} {s : State} {m : MethodId} {args : Array Value} {below : List Frame} {meth : Method} {c : Code} {A : Nat → Prop} {H0 : Heap} {Q : State → Prop}, gC p s m args c cc mL y.cls D cI cZ → (∀ q, H0.size ≤ q → A q) → (fr ≤ R.frames ∧ lo ≤ R.locals ∧ mc ≤ R.cells ∧ ms ≤ R.slots) →
      (∀ {x : Int64} {ws : List va_W} {pc : Nat} {lv : List (Nat × Value)}, decode cc pc = .ok (.lreturn, 1) → post (some (.long x)) ws → G p l e R s m args below meth c mL D A H0 mc ms Q ws pc lv [.long x]) → G p l e R s m args below meth c mL D A H0 0 0 Q W0 0 (lv_args 0 argl) []) : CT l D cI cZ y cc mL (some .long) fr lo mc ms argl W0 post :=
  CT.mk hpl hnl fun _ _ _ _ _ _ _ C hr hlk _ => body C (fun _ h => Or.inr h) ⟨Nat.le_refl _, Nat.le_refl _, Nat.le_refl _, Nat.le_refl _⟩ (fun hdg hp => gq_lret C hr hlk hdg hp)
theorem CT.mkV (hpl : plainName y.cls = true) (hnl : (lg_sl argl).length ≤ mL)
    (body : ∀ {p : Program} {e : Env} {R : Room} {s : State} {m : MethodId} {args : Array Value} {below : List Frame} {meth : Method} {c : Code} {A : Nat → Prop} {H0 : Heap} {Q : State → Prop}, gC p s m args c cc mL y.cls D cI cZ → (∀ q, H0.size ≤ q → A q) → (fr ≤ R.frames ∧ lo ≤ R.locals ∧ mc ≤ R.cells ∧ ms ≤ R.slots) → meth.name = y.name →
      (∀ {ws : List va_W} {pc : Nat} {lv : List (Nat × Value)}, decode cc pc = .ok (.return_, 1) → post none ws → G p l e R s m args below meth c mL D A H0 mc ms Q ws pc lv []) → G p l e R s m args below meth c mL D A H0 0 0 Q W0 0 (lv_args 0 argl) []) : CT l D cI cZ y cc mL none fr lo mc ms argl W0 post :=
  CT.mk hpl hnl fun _ _ _ _ _ _ _ C hr hlk hn => body C (fun _ h => Or.inr h) ⟨Nat.le_refl _, Nat.le_refl _, Nat.le_refl _, Nat.le_refl _⟩ hn (fun hdg hp => gq_vret C hr hlk hdg hp)
end CTS
theorem gq_gd {α : Type} {c : Prop} [Decidable c] {a : Option α} {r : α} (hf : (if c then a else none) = some r) : c ∧ a = some r := by
  by_cases h : c
  · rw [if_pos h] at hf; exact ⟨h, hf⟩
  · rw [if_neg h] at hf; cases hf
theorem gq_bool {x : Int32} (h : x = 0 ∨ x = 1) : narrow .boolean (.int x) = .int x := by rcases h with rfl | rfl <;> rfl
/-- enough for every loop here -/
def FU : Nat := 2000
theorem gq_lk13 {x : Int32} (h0 : ¬ x = 0) (h1 : ¬ x = 1) : Op.lookupswitch.offset (#[(0, 27), (1, 34)] : Array (Int × Int)).toList 41 x.toInt = 41 := by
  have a0 : ¬ (0 : Int) = x.toInt := fun h => h0 (Int32.toInt_inj.mp h.symm)
  have a1 : ¬ (1 : Int) = x.toInt := fun h => h1 (Int32.toInt_inj.mp h.symm)
  simp only [Op.lookupswitch.offset_cons, if_neg a0, if_neg a1, Op.lookupswitch.offset_nil]
theorem gq_len {α β : Type} {a : List α} {t : List β} (h : a.length = t.length) : (a = [] ∧ t = []) ∨ (∃ (x : α) (u : List α) (y : β) (v : List β), a = x :: u ∧ t = y :: v ∧ u.length = v.length) := by
  cases a with
  | nil =>
    cases t with
    | nil => exact Or.inl ⟨rfl, rfl⟩
    | cons y v => simp at h
  | cons x u =>
    cases t with
    | nil => simp at h
    | cons y v => exact Or.inr ⟨x, u, y, v, rfl, rfl, by simpa using h⟩

