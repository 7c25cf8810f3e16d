/-! A layer of mine over the kit's judgement: G says of a frame at pc, over a world ws and locals lv, that every heap which holds them goes on to Q. One list of words (wsL_law) for every method. -/
def gTY (cI cZ : ClassId) : List (ClassId × FieldType) := [(cI, .int), (cZ, .boolean)]
def gNF : List (String × Nat × String × String × String × String) := [(RX5, 56, RX2, "beds", "I", RX5), (RX3, 64, RX2, "beds", "I", RX5), (RX1, 37, RX2, "law", "I", RX5), (RX5, 79, RX2, "law", "I", RX5), (RX5, 185, RX2, "sights", "I", RX5), (RX5, 233, RX2, "isKept", "Z", RX5), (RX1, 28, RX0, "length", "I", RX5), (RX5, 89, RX0, "length", "I", RX5), (RX5, 170, RX4, "most", "I", RX5), (RX5, 196, RX1, "ways", "I", RX5), (RX4, 52, RX3, "house", "LWarmBeds$House;", RX5), (RX1, 77, RX3, "house", "LWarmBeds$House;", RX5), (RX4, 39, RX3, "deeper", "LWarmBeds$Inn;", RX5), (RX1, 63, RX3, "deeper", "LWarmBeds$Inn;", RX5), (RX5, 243, RX3, "deeper", "LWarmBeds$Inn;", RX5), (RX5, 158, RX3, "there", "I", RX5), (RX5, 128, RX3, "waiting", "I", RX5), (RX5, 179, RX3, "guestsWithFleas", "I", RX5), (RX5, 182, RX3, "bedsWithFleas", "I", RX5)]
def gNM : List (String × Nat × MethodName × String) := [(RX5, 11, yX2_init, RX5), (RX5, 24, yX0_init, RX5), (RX5, 31, yX4_init, RX5), (RX5, 38, yX1_init, RX5), (RX5, 49, yX3_init, RX5), (RX5, 60, yX2_furnish, RX5), (RX5, 71, yX2_worthOf, RX5), (RX5, 75, yX2_setWorth, RX5), (RX2, 28, yX5_isGuest, RX5), (RX5, 82, yX0_isFull, RX5), (RX5, 86, yX0_write, RX5), (RX5, 92, yX0_firstFault, RX5), (RX5, 99, yX0_isUntold, RX5), (RX5, 102, yX3_open, RX5), (RX5, 105, yX3_live, RX5), (RX3, 79, yX0_signAt, RX5), (RX3, 88, yX0_isComing, RX5), (RX3, 95, yX0_isGoing, RX5), (RX3, 145, yX2_worthOf, RX5), (RX5, 109, yX0_signAt, RX5), (RX5, 113, yX3_whyNot, RX5), (RX5, 122, yX3_bedOf, RX5), (RX5, 125, yX3_sleeperOf, RX5), (RX5, 131, yX3_emptyBed, RX5), (RX5, 134, yX3_countOf, RX5), (RX5, 240, yX3_allSheets, RX5), (RX5, 140, yX0_names, RX5), (RX5, 246, yX3_standAs, RX5), (RX5, 155, yX3_takeIn, RX5), (RX5, 166, yX4_order, RX5), (RX4, 45, yX3_standAs, RX5), (RX4, 49, yX3_takeIn, RX5), (RX4, 56, yX3_bedOf, RX5), (RX4, 59, yX2_worthOf, RX5), (RX5, 173, yX4_guestAt, RX5), (RX5, 250, yX3_infest, RX5), (RX5, 188, yX2_addSight, RX5), (RX5, 192, yX1_search, RX5), (RX1, 33, yX0_signAt, RX5), (RX1, 42, yX3_open, RX5), (RX1, 52, yX0_nextUntold, RX5), (RX1, 55, yX3_live, RX5), (RX1, 81, yX2_allSightsHold, RX5), (RX2, 32, yX3_sleeperOf, RX5), (RX1, 67, yX3_isThere, RX5), (RX1, 71, yX3_standAs, RX5), (RX1, 74, yX3_takeIn, RX5), (RX5, 199, yX1_firstAt, RX5), (RX5, 202, yX1_suspectsAt, RX5), (RX5, 253, yX3_emptyLeastBed, RX5), (RX5, 220, yX3_isThere, RX5), (RX5, 223, yX3_letGo, RX5), (RX5, 226, yX3_timesUsed, RX5), (RX5, 229, yX2_copy, RX5)]
def gNW (U : State) : Prop := (∀ q ∈ gNF, va_Nw (.fieldLinkNest q.1 q.2.1 q.2.2.1 q.2.2.2.1 q.2.2.2.2.1 q.2.2.2.2.2) U) ∧ ∀ q ∈ gNM, va_Nw (.methodLinkNest q.1 q.2.1 q.2.2.1 q.2.2.2) U
theorem gNW.warm {s U : State} (hW : s.WarmedH U.vm) (h : gNW s) : gNW U := ⟨fun q hq => va_Nw.warmF hW (h.1 q hq), fun q hq => va_Nw.warmM hW (h.2 q hq)⟩
theorem gNW.same {u U : State} (hvm : u.vm = U.vm) (h : gNW u) : gNW U := ⟨fun q hq => va_Nw.same rfl hvm (h.1 q hq), fun q hq => va_Nw.same rfl hvm (h.2 q hq)⟩
theorem gGood : GoodIn wsL_law wsL_law := goodIn_sub (fun _ h => h) gGoodAll
def gC (p : Program) (s : State) (m : MethodId) (args : Array Value) (c : Code) (cc : ByteArray) (nL : Nat) (own : String) (D : va_G) (cI cZ : ClassId) : Prop :=
  p.tables.exec = Jvm.exec ∧ c.code = cc ∧ c.maxLocals = nL ∧ s.vm.findClass own = some m.cls ∧ (∀ w ∈ wsL_law, w.before args s = true) ∧ gNW s ∧ va_K D vwCl (gTY cI cZ) s
def G (p : Program) (l : Launch) (e : Env) (R : Room) (s : State) (m : MethodId) (args : Array Value) (below : List Frame) (meth : Method) (c : Code) (nL : Nat) (D : va_G) (A : Nat → Prop) (H0 : Heap) (kc ks : Nat) (Q : State → Prop) (ws : List va_W) (pc : Nat) (lv : List (Nat × Value)) (st : List Value) : Prop :=
  ∀ (H : Heap) (locs : List Loc) (ls : Array Slot), va_P D vwCl ws.flatten H → va_D A ws.flatten → va_S A H0 H locs → lv_has ls nL lv → W p l e R s m args below meth c H locs kc ks Q (F0 m pc ls st)
/-- what a method starts with, and ends with -/
def gPc (D : va_G) (cI cZ : ClassId) (argl : List Value) (W0 : List va_W) (sz : Nat) : Array Value → State → Prop := va_Pc argl (fun U => U.heap.size = sz ∧ va_P D vwCl W0.flatten U.heap ∧ va_K D vwCl (gTY cI cZ) U ∧ gNW U ∧ va_D (fun _ => True) W0.flatten)
def gQc (D : va_G) (W0 : List va_W) (sz : Nat) (post : Option Value → List va_W → Prop) : Array Value → State → Outcome → State → Prop := fun _ st oc t => (∃ (v : Option Value) (W1 : List va_W), oc = .returned v ∧ post v W1 ∧ va_P D vwCl W1.flatten t.heap ∧ va_D (va_A W0.flatten sz) W1.flatten) ∧ va_F (va_A W0.flatten sz) st t
def gPost (v : Option Value) (W1 : List va_W) : Option Value → List va_W → Prop := fun v' W' => v' = v ∧ W' = W1
theorem gPc_blind (D : va_G) (cI cZ : ClassId) (argl : List Value) (W0 : List va_W) (sz : Nat) : FrameBlind (gPc D cI cZ argl W0 sz) := fun a U g mk h => by
  obtain ⟨q0, q1, qP, qK, qN, qD⟩ := h
  exact ⟨q0, q1, qP, va_K.moved (u := U) (U := U.calling g mk a) (Vm.Alike.refl U.vm) qK, gNW.same (u := U) (U := U.calling g mk a) rfl qN, qD⟩
/-- a contract -/
def CT (l : Launch) (D : va_G) (cI cZ : ClassId) (y : MethodName) (cc : ByteArray) (mL : Nat) (ret : Option FieldType) (fr lo mc ms : Nat) (argl : List Value) (W0 : List va_W) (post : Option Value → List va_W → Prop) : Prop :=
  ∀ sz : Nat, Met l y (.code y cc mL ret :: wsL_law) ({ frames := fr, cells := mc, slots := ms, locals := lo }) (gPc D cI cZ argl W0 sz) (gQc D W0 sz post) mc ms (va_A W0.flatten sz)
theorem CT.mk {l : Launch} {D : va_G} {cI cZ : ClassId} {y : MethodName} {cc : ByteArray} {mL : Nat} {ret : Option FieldType} {fr lo mc ms : Nat} {argl : List Value} {W0 : List va_W} {post : Option Value → List va_W → Prop} (hpl : plainName y.cls = true) (hnl : (lg_sl argl).length ≤ mL)
    (body : ∀ (p : Program) (e : Env) (s : State) (m : MethodId) (below : List Frame) (meth : Method) (c : Code), gC p s m argl.toArray c cc mL y.cls D cI cZ → meth.sig.returnType = ret → meth.locks = false → meth.name = y.name →
      G p l e ({ frames := fr, cells := mc, slots := ms, locals := lo }) s m argl.toArray below meth c mL D (va_A W0.flatten s.heap.size) s.heap 0 0 (MQ below (gQc D W0 s.heap.size post) argl.toArray s mc ms (va_A W0.flatten s.heap.size)) W0 0 (lv_args 0 argl) []) :
    CT l D cI cZ y cc mL ret fr lo mc ms argl W0 post := by
  intro sz
  refine Met.ofW (cc := cc) (maxL := mL) (ret := ret) hpl rfl ?_
  intro p e s m args below meth c s₁ B hml hv
  obtain ⟨rfl, hsz, hP, hK, hN, hD⟩ := hv
  subst hsz
  have hts := atoms_spec (ws := .code y cc mL ret :: wsL_law) B.pre
  have hl := lv_entry argl hnl
  rw [lg_entry_eq]
  exact body p e s m below meth c ⟨B.exec, B.bytes, hml, findClass_of_methodNamed B.named, fun w hw => hts w (List.mem_cons_of_mem _ hw), hN, hK⟩ B.returns B.notSynchronized (name_of_methodNamed B.named B.method).1 s.heap [] _ hP hD.self va_S.rf hl
/-- components put back into their places -/
def gRepl {α : Type} : List α → List Nat → List α → List α
  | ws, i :: pl, e :: w1 => gRepl (ws.set i e) pl w1
  | ws, _, _ => ws
theorem gRepl_get {α : Type} : ∀ (pl : List Nat) (w1 ws : List α), pl.length = w1.length → ∀ (k : Nat) (q : α), (gRepl ws pl w1)[k]? = some q → (∃ j : Nat, w1[j]? = some q) ∨ (k ∉ pl ∧ ws[k]? = some q)
  | [], [], ws, _, k, q, h => Or.inr ⟨List.not_mem_nil, h⟩
  | [], e :: w1, ws, hl, k, q, h => by simp at hl
  | i :: pl, [], ws, hl, k, q, h => by simp at hl
  | i :: pl, e :: w1, ws, hl, k, q, h => by
    rcases gRepl_get pl w1 (ws.set i e) (by simpa using hl) k q h with ⟨j, hj⟩ | ⟨hk, hq⟩
    · exact Or.inl ⟨j + 1, by simpa using hj⟩
    · by_cases hki : k = i
      · subst hki
        have hlt : k < (ws.set k e).length := (List.getElem?_eq_some_iff.mp hq).1
        rw [List.getElem?_set_self (by simpa using hlt)] at hq
        exact Or.inl ⟨0, by simpa using hq⟩
      · rw [List.getElem?_set_ne (Ne.symm hki)] at hq
        exact Or.inr ⟨fun hm => (List.mem_cons.mp hm).elim hki hk, hq⟩
theorem gRepl_map {α β : Type} (f : α → β) : ∀ (pl : List Nat) (wc w1 ws : List α), pl.map (fun i => ws[i]?) = wc.map some → w1.map f = wc.map f → (gRepl ws pl w1).map f = ws.map f := by
  have key : ∀ (pl : List Nat) (w1 ws : List α), (∀ (j i : Nat) (q : α), pl[j]? = some i → w1[j]? = some q → (ws.map f)[i]? = some (f q)) → (gRepl ws pl w1).map f = ws.map f := by
    intro pl
    induction pl with
    | nil => intro w1 ws _; cases w1 <;> rfl
    | cons i pl ih =>
      intro w1 ws h
      cases w1 with
      | nil => rfl
      | cons e w1 =>
        have h0 := h 0 i e rfl rfl
        have hset : (ws.set i e).map f = ws.map f := by
          rw [List.map_set]
          have hlt : i < (ws.map f).length := (List.getElem?_eq_some_iff.mp h0).1
          have h1 : (ws.map f)[i] = f e := (List.getElem?_eq_some_iff.mp h0).2
          rw [← h1]
          exact List.set_getElem_self hlt
        show (gRepl (ws.set i e) pl w1).map f = _
        rw [ih w1 (ws.set i e) (fun j i' q hj hq => by rw [hset]; exact h (j + 1) i' q (by simpa using hj) (by simpa using hq)), hset]
  intro pl wc w1 ws hs hf
  refine key pl w1 ws (fun j i q hj hq => ?_)
  have h1 : (pl.map (fun i => ws[i]?))[j]? = some ws[i]? := by rw [List.getElem?_map, hj]; rfl
  rw [hs, List.getElem?_map] at h1
  have h2 : (w1.map f)[j]? = some (f q) := by rw [List.getElem?_map, hq]; rfl
  rw [hf, List.getElem?_map] at h2
  cases hc : wc[j]? with
  | none => rw [hc] at h1; cases h1
  | some z =>
    rw [hc] at h1 h2
    have h3 : some z = ws[i]? := Option.some.inj h1
    have h4 : f z = f q := Option.some.inj h2
    rw [List.getElem?_map, ← h3, ← h4]
    rfl
theorem va_D.of_fst {A : Nat → Prop} {ws ws' : va_W} (h : va_D A ws) (hf : ws'.map (fun q => q.1) = ws.map (fun q => q.1)) : va_D A ws' := by
  have key : ∀ (k : Nat) (q : Nat × va_E), ws'[k]? = some q → ∃ q0, ws[k]? = some q0 ∧ q0.1 = q.1 := by
    intro k q hk
    have h1 : (ws'.map (fun q => q.1))[k]? = some q.1 := by rw [List.getElem?_map, hk]; rfl
    rw [hf, List.getElem?_map] at h1
    cases hw : ws[k]? with
    | none => rw [hw] at h1; cases h1
    | some z => rw [hw] at h1; exact ⟨z, rfl, Option.some.inj h1⟩
  refine ⟨fun i j x y hi hj hxy => ?_, fun k q hk => ?_⟩
  · obtain ⟨x0, h1, h2⟩ := key i x hi
    obtain ⟨y0, h3, h4⟩ := key j y hj
    exact h.1 i j x0 y0 h1 h3 (h2.trans (hxy.trans h4.symm))
  · obtain ⟨q0, h1, h2⟩ := key k q hk
    rw [← h2]
    exact h.2 k q0 h1
theorem fl_get {α : Type} : ∀ (cs : List (List α)) (i j : Nat) (w : List α) (q : α), cs[i]? = some w → w[j]? = some q → cs.flatten[(cs.take i).flatten.length + j]? = some q
  | [], i, j, w, q, h, _ => by simp at h
  | c :: cs, 0, j, w, q, h, hq => by
    have hc : c = w := by simpa using h
    subst hc
    have hlt : j < c.length := (List.getElem?_eq_some_iff.mp hq).1
    simp only [List.take_zero, List.flatten_nil, List.length_nil, Nat.zero_add, List.flatten_cons]
    rw [List.getElem?_append_left hlt]
    exact hq
  | c :: cs, i + 1, j, w, q, h, hq => by
    have ih := fl_get cs i j w q (by simpa using h) hq
    simp only [List.take_succ_cons, List.flatten_cons, List.length_append]
    rw [List.getElem?_append_right (by omega), show c.length + (cs.take i).flatten.length + j - c.length = (cs.take i).flatten.length + j by omega]
    exact ih
theorem fl_set {α : Type} (x : α) : ∀ (cs : List (List α)) (i j : Nat) (w : List α), cs[i]? = some w → j < w.length → cs.flatten.set ((cs.take i).flatten.length + j) x = (cs.set i (w.set j x)).flatten
  | [], i, j, w, h, _ => by simp at h
  | c :: cs, 0, j, w, h, hj => by
    have hc : c = w := by simpa using h
    subst hc
    simp only [List.take_zero, List.flatten_nil, List.length_nil, Nat.zero_add, List.flatten_cons, List.set_cons_zero]
    rw [List.set_append_left _ _ hj]
  | c :: cs, i + 1, j, w, h, hj => by
    have ih := fl_set x cs i j w (by simpa using h) hj
    simp only [List.take_succ_cons, List.flatten_cons, List.length_append, List.set_cons_succ]
    rw [List.set_append_right _ _ (by omega), show c.length + (cs.take i).flatten.length + j - c.length = (cs.take i).flatten.length + j by omega, ih]
theorem fl_off {α : Type} : ∀ (cs : List (List α)) (k i : Nat) (u : List α), k < i → cs[k]? = some u → (cs.take k).flatten.length + u.length ≤ (cs.take i).flatten.length
  | [], k, i, u, _, h => by simp at h
  | c :: cs, 0, i, u, hk, h => by
    have hc : c = u := by simpa using h
    subst hc
    cases i with
    | zero => omega
    | succ i => simp
  | c :: cs, k + 1, i, u, hk, h => by
    cases i with
    | zero => omega
    | succ i =>
      have ih := fl_off cs k i u (by omega) (by simpa using h)
      simp only [List.take_succ_cons, List.flatten_cons, List.length_append]
      omega
theorem fl_apart {A : Nat → Prop} {cs : List va_W} (hD : va_D A cs.flatten) {k i a b : Nat} {u w : va_W} {x y : Nat × va_E} (hki : k ≠ i) (hu : cs[k]? = some u) (hx : u[a]? = some x) (hw : cs[i]? = some w) (hy : w[b]? = some y) : x.1 ≠ y.1 := by
  intro h
  have h1 := fl_get cs k a u x hu hx
  have h2 := fl_get cs i b w y hw hy
  have h3 := hD.1 _ _ x y h1 h2 h
  have la : a < u.length := (List.getElem?_eq_some_iff.mp hx).1
  have lb : b < w.length := (List.getElem?_eq_some_iff.mp hy).1
  rcases Nat.lt_or_gt_of_ne hki with hlt | hgt
  · have := fl_off cs k i u hlt hu
    omega
  · have := fl_off cs i k w hgt hw
    omega
/-- a place of the flat list lies in a component -/
theorem fl_mem {α : Type} : ∀ (cs : List (List α)) (n : Nat) (q : α), cs.flatten[n]? = some q → ∃ (i j : Nat) (w : List α), cs[i]? = some w ∧ w[j]? = some q ∧ n = (cs.take i).flatten.length + j
  | [], n, q, h => by simp at h
  | c :: cs, n, q, h => by
    rw [List.flatten_cons] at h
    by_cases hn : n < c.length
    · rw [List.getElem?_append_left hn] at h
      exact ⟨0, n, c, rfl, h, by simp⟩
    · rw [List.getElem?_append_right (by omega)] at h
      obtain ⟨i, j, w, h1, h2, h3⟩ := fl_mem cs _ q h
      exact ⟨i + 1, j, w, by simpa using h1, h2, by simp only [List.take_succ_cons, List.flatten_cons, List.length_append]; omega⟩
theorem sub_at {α : Type} {ws wc : List α} {pl : List Nat} (hs : pl.map (fun i => ws[i]?) = wc.map some) {k : Nat} {q : α} (h : wc[k]? = some q) : ∃ i, pl[k]? = some i ∧ ws[i]? = some q := by
  have h1 : (pl.map (fun i => ws[i]?))[k]? = some (some q) := by rw [hs, List.getElem?_map, h]; rfl
  rw [List.getElem?_map] at h1
  cases hi : pl[k]? with
  | none => rw [hi] at h1; cases h1
  | some i => rw [hi] at h1; exact ⟨i, rfl, Option.some.inj h1⟩
/-- a callee's components are a part of the caller's -/
theorem sub_P {D : va_G} {cl : List vw_C} {ws wc : List va_W} {H : Heap} {pl : List Nat} (hP : va_P D cl ws.flatten H) (hs : pl.map (fun i => ws[i]?) = wc.map some) : va_P D cl wc.flatten H := by
  intro n q hn
  obtain ⟨k, j, w, h1, h2, -⟩ := fl_mem wc n q hn
  obtain ⟨i, -, h3⟩ := sub_at hs h1
  exact hP _ q (fl_get ws i j w q h3 h2)
theorem sub_D {A : Nat → Prop} {ws wc : List va_W} {pl : List Nat} (hD : va_D A ws.flatten) (hnd : va_nd pl = true) (hs : pl.map (fun i => ws[i]?) = wc.map some) : va_D A wc.flatten := by
  refine ⟨fun n n' x y hn hn' hxy => ?_, fun n q hn => ?_⟩
  · obtain ⟨k, j, w, h1, h2, e1⟩ := fl_mem wc n x hn
    obtain ⟨k', j', w', h1', h2', e2⟩ := fl_mem wc n' y hn'
    obtain ⟨i, g1, h3⟩ := sub_at hs h1
    obtain ⟨i', g1', h3'⟩ := sub_at hs h1'
    by_cases hii : i = i'
    · subst hii
      have hk : k = k' := va_nd_inj pl hnd k k' i g1 g1'
      subst hk
      have hww : w = w' := Option.some.inj (h1.symm.trans h1')
      subst hww
      have h5 := hD.1 _ _ x y (fl_get ws i j w x h3 h2) (fl_get ws i j' w y h3' h2') hxy
      omega
    · exact absurd hxy (fl_apart hD hii h3 h2 h3' h2')
  · obtain ⟨k, j, w, h1, h2, -⟩ := fl_mem wc n q hn
    obtain ⟨i, -, h3⟩ := sub_at hs h1
    exact hD.2 _ q (fl_get ws i j w q h3 h2)
theorem gRepl_ok {A0 : Nat → Prop} {D : va_G} {cl : List vw_C} {ws wc w1 : List va_W} {H H1 : Heap} (hP : va_P D cl ws.flatten H) (hD : va_D A0 ws.flatten) (pl : List Nat) (hs : pl.map (fun i => ws[i]?) = wc.map some) (hf : w1.map (fun w => w.map (fun q => q.1)) = wc.map (fun w => w.map (fun q => q.1)))
    (hk : ∀ q : Nat, q < H.size → ¬ va_A wc.flatten H.size q → H1[q]? = H[q]?) (hP1 : va_P D cl w1.flatten H1) : va_P D cl (gRepl ws pl w1).flatten H1 ∧ va_D A0 (gRepl ws pl w1).flatten := by
  have hlen : pl.length = w1.length := by
    have h1 := congrArg List.length hs
    have h2 := congrArg List.length hf
    simp only [List.length_map] at h1 h2
    rw [h1, h2]
  have hmap := gRepl_map (fun w : va_W => w.map (fun q => q.1)) pl wc w1 ws hs hf
  refine ⟨fun n q hn => ?_, hD.of_fst ?_⟩
  · obtain ⟨k, j, w, g1, g2, -⟩ := fl_mem _ n q hn
    rcases gRepl_get pl w1 ws hlen k w g1 with ⟨j2, hj⟩ | ⟨hnk, hw⟩
    · exact hP1 _ q (fl_get w1 j2 j w q hj g2)
    · have h0 := hP _ q (fl_get ws k j w q hw g2)
      refine h0.kept (hk q.1 h0.lt (fun h => ?_))
      rcases h with ⟨k2, e, h⟩ | h
      · obtain ⟨k3, j3, w3, g3, g4, -⟩ := fl_mem wc k2 _ h
        obtain ⟨i, g5, g6⟩ := sub_at hs g3
        exact fl_apart hD (fun e => hnk (by rw [e]; exact List.mem_of_getElem? g5)) hw g2 g6 g4 rfl
      · have := h0.lt
        omega
  · rw [List.map_flatten, List.map_flatten, hmap]
section GQ
variable {p : Program} {l : Launch} {e : Env} {R : Room} {s : State} {m : MethodId} {args : Array Value} {below : List Frame} {meth : Method} {c : Code} {cc : ByteArray} {nL : Nat} {own : String} {D : va_G} {cI cZ : ClassId} {A : Nat → Prop} {H0 : Heap} {kc ks : Nat} {Q : State → Prop} {ws : List va_W} {pc : Nat} {lv : List (Nat × Value)} {st : List Value}
theorem gq_lv {lv' : List (Nat × Value)} (is : List Nat) (hl : lv_pick lv is = lv') (k : G p l e R s m args below meth c nL D A H0 kc ks Q ws pc lv' st) : G p l e R s m args below meth c nL D A H0 kc ks Q ws pc lv st :=
  fun H locs ls hP hD hS h => k H locs ls hP hD hS (lv_sub h is hl)
theorem gq_ws {ws' : List va_W} (hw : ws = ws') (k : G p l e R s m args below meth c nL D A H0 kc ks Q ws' pc lv st) : G p l e R s m args below meth c nL D A H0 kc ks Q ws pc lv st := hw ▸ k
theorem gq_iconst (C : gC p s m args c cc nL own D cI cZ) {i : Int} (v : Int32) (n : Nat) (hdg : decode cc pc = .ok (.iconst i, 1)) (hv : Int32.ofInt i = v) (hn : pc + 1 = n) (k : G p l e R s m args below meth c nL D A H0 kc ks Q ws n lv (.int v :: st)) : G p l e R s m args below meth c nL D A H0 kc ks Q ws pc lv st := by
  subst hn
  exact fun H locs ls hP hD hS hl => lv_iconst C.1 C.2.1 hdg hv (k H locs ls hP hD hS hl)
theorem gq_bipush (C : gC p s m args c cc nL own D cI cZ) {i : Int} (v : Int32) (n : Nat) (hdg : decode cc pc = .ok (.bipush i, 2)) (hv : (Int8.ofInt i).toInt32 = v) (hn : pc + 2 = n) (k : G p l e R s m args below meth c nL D A H0 kc ks Q ws n lv (.int v :: st)) : G p l e R s m args below meth c nL D A H0 kc ks Q ws pc lv st := by
  subst hn
  exact fun H locs ls hP hD hS hl => lv_bipush C.1 C.2.1 hdg hv (k H locs ls hP hD hS hl)
theorem gq_sipush (C : gC p s m args c cc nL own D cI cZ) {i : Int} (v : Int32) (n : Nat) (hdg : decode cc pc = .ok (.sipush i, 3)) (hv : (Int16.ofInt i).toInt32 = v) (hn : pc + 3 = n) (k : G p l e R s m args below meth c nL D A H0 kc ks Q ws n lv (.int v :: st)) : G p l e R s m args below meth c nL D A H0 kc ks Q ws pc lv st := by
  subst hn
  exact fun H locs ls hP hD hS hl => lv_sipush C.1 C.2.1 hdg hv (k H locs ls hP hD hS hl)
theorem gq_lconst (C : gC p s m args c cc nL own D cI cZ) {i : Fin 2} (v : Int64) (n : Nat) (hdg : decode cc pc = .ok (.lconst i, 1)) (hv : Int64.ofNat (i : Nat) = v) (hn : pc + 1 = n) (k : G p l e R s m args below meth c nL D A H0 kc ks Q ws n lv (.long v :: st)) : G p l e R s m args below meth c nL D A H0 kc ks Q ws pc lv st := by
  subst hn
  exact fun H locs ls hP hD hS hl => lv_lconst C.1 C.2.1 hdg hv (k H locs ls hP hD hS hl)
theorem gq_ldc (C : gC p s m args c cc nL own D cI cZ) {i : Nat} (v : Int32) (n : Nat) (hw : Jvm.Cond.constant own i v ∈ wsL_law) (hdg : decode cc pc = .ok (.ldc i, 2)) (hn : pc + 2 = n) (k : G p l e R s m args below meth c nL D A H0 kc ks Q ws n lv (.int v :: st)) : G p l e R s m args below meth c nL D A H0 kc ks Q ws pc lv st := by
  subst hn
  exact fun H locs ls hP hD hS hl => lv_ldc C.1 C.2.1 C.2.2.2.1 (C.2.2.2.2.1 _ hw) hdg (k H locs ls hP hD hS hl)
theorem gq_ldcw (C : gC p s m args c cc nL own D cI cZ) {i : Nat} (v : Int32) (n : Nat) (hw : Jvm.Cond.constant own i v ∈ wsL_law) (hdg : decode cc pc = .ok (.ldc_w i, 3)) (hn : pc + 3 = n) (k : G p l e R s m args below meth c nL D A H0 kc ks Q ws n lv (.int v :: st)) : G p l e R s m args below meth c nL D A H0 kc ks Q ws pc lv st := by
  subst hn
  exact fun H locs ls hP hD hS hl => lv_ldcw C.1 C.2.1 C.2.2.2.1 (C.2.2.2.2.1 _ hw) hdg (k H locs ls hP hD hS hl)
theorem gq_ldc2 (C : gC p s m args c cc nL own D cI cZ) {i : Nat} (v : Int64) (n : Nat) (hw : Jvm.Cond.constantLong own i v ∈ wsL_law) (hdg : decode cc pc = .ok (.ldc2_w i, 3)) (hn : pc + 3 = n) (k : G p l e R s m args below meth c nL D A H0 kc ks Q ws n lv (.long v :: st)) : G p l e R s m args below meth c nL D A H0 kc ks Q ws pc lv st := by
  subst hn
  exact fun H locs ls hP hD hS hl => lv_ldc2 C.1 C.2.1 C.2.2.2.1 (C.2.2.2.2.1 _ hw) hdg (k H locs ls hP hD hS hl)
theorem gq_iload_n (C : gC p s m args c cc nL own D cI cZ) {k : Fin 4} {x : Int32} (j n : Nat) (hdg : decode cc pc = .ok (.iload_n k, 1)) (hk : lv[j]? = some ((k : Nat), .int x)) (hn : pc + 1 = n) (kk : G p l e R s m args below meth c nL D A H0 kc ks Q ws n lv (.int x :: st)) : G p l e R s m args below meth c nL D A H0 kc ks Q ws pc lv st := by
  subst hn
  exact fun H locs ls hP hD hS hl => lv_iload_n C.1 C.2.1 hdg rfl (lv_at hl j hk) (kk H locs ls hP hD hS hl)
theorem gq_iload (C : gC p s m args c cc nL own D cI cZ) {i : Nat} {x : Int32} (j n : Nat) (hdg : decode cc pc = .ok (.iload i, 2)) (hk : lv[j]? = some (i, .int x)) (hn : pc + 2 = n) (kk : G p l e R s m args below meth c nL D A H0 kc ks Q ws n lv (.int x :: st)) : G p l e R s m args below meth c nL D A H0 kc ks Q ws pc lv st := by
  subst hn
  exact fun H locs ls hP hD hS hl => lv_iload C.1 C.2.1 hdg (lv_at hl j hk) (kk H locs ls hP hD hS hl)
theorem gq_lload_n (C : gC p s m args c cc nL own D cI cZ) {k : Fin 4} {x : Int64} (j n : Nat) (hdg : decode cc pc = .ok (.lload_n k, 1)) (hk : lv[j]? = some ((k : Nat), .long x)) (hn : pc + 1 = n) (kk : G p l e R s m args below meth c nL D A H0 kc ks Q ws n lv (.long x :: st)) : G p l e R s m args below meth c nL D A H0 kc ks Q ws pc lv st := by
  subst hn
  exact fun H locs ls hP hD hS hl => lv_lload_n C.1 C.2.1 hdg rfl (lv_at hl j hk) (kk H locs ls hP hD hS hl)
theorem gq_lload (C : gC p s m args c cc nL own D cI cZ) {i : Nat} {x : Int64} (j n : Nat) (hdg : decode cc pc = .ok (.lload i, 2)) (hk : lv[j]? = some (i, .long x)) (hn : pc + 2 = n) (kk : G p l e R s m args below meth c nL D A H0 kc ks Q ws n lv (.long x :: st)) : G p l e R s m args below meth c nL D A H0 kc ks Q ws pc lv st := by
  subst hn
  exact fun H locs ls hP hD hS hl => lv_lload C.1 C.2.1 hdg (lv_at hl j hk) (kk H locs ls hP hD hS hl)
theorem gq_aload_n (C : gC p s m args c cc nL own D cI cZ) {k : Fin 4} {x : Nat} (j n : Nat) (hdg : decode cc pc = .ok (.aload_n k, 1)) (hk : lv[j]? = some ((k : Nat), .ref x)) (hn : pc + 1 = n) (kk : G p l e R s m args below meth c nL D A H0 kc ks Q ws n lv (.ref x :: st)) : G p l e R s m args below meth c nL D A H0 kc ks Q ws pc lv st := by
  subst hn
  exact fun H locs ls hP hD hS hl => lv_aload_n C.1 C.2.1 hdg rfl (lv_at hl j hk) (kk H locs ls hP hD hS hl)
theorem gq_aload (C : gC p s m args c cc nL own D cI cZ) {i x : Nat} (j n : Nat) (hdg : decode cc pc = .ok (.aload i, 2)) (hk : lv[j]? = some (i, .ref x)) (hn : pc + 2 = n) (kk : G p l e R s m args below meth c nL D A H0 kc ks Q ws n lv (.ref x :: st)) : G p l e R s m args below meth c nL D A H0 kc ks Q ws pc lv st := by
  subst hn
  exact fun H locs ls hP hD hS hl => lv_aload C.1 C.2.1 hdg (lv_at hl j hk) (kk H locs ls hP hD hS hl)
theorem gq_istore_n (C : gC p s m args c cc nL own D cI cZ) {k : Fin 4} {x : Int32} (lv' : List (Nat × Value)) (n : Nat) (hdg : decode cc pc = .ok (.istore_n k, 1)) (hi : (k : Nat) < nL) (hl : ((k : Nat), Value.int x) :: lv.filter (fun q => !(q.1 == (k : Nat)) && !(q.1 + 1 == (k : Nat) && q.2.category == 2)) = lv') (hn : pc + 1 = n) (kk : G p l e R s m args below meth c nL D A H0 kc ks Q ws n lv' st) : G p l e R s m args below meth c nL D A H0 kc ks Q ws pc lv (.int x :: st) := by
  subst hn
  exact fun H locs ls hP hD hS h => lv_istore_n C.1 C.2.1 hdg rfl h hi hl (fun ls' h' => kk H locs ls' hP hD hS h')
theorem gq_istore (C : gC p s m args c cc nL own D cI cZ) {i : Nat} {x : Int32} (lv' : List (Nat × Value)) (n : Nat) (hdg : decode cc pc = .ok (.istore i, 2)) (hi : i < nL) (hl : (i, Value.int x) :: lv.filter (fun q => !(q.1 == i) && !(q.1 + 1 == i && q.2.category == 2)) = lv') (hn : pc + 2 = n) (kk : G p l e R s m args below meth c nL D A H0 kc ks Q ws n lv' st) : G p l e R s m args below meth c nL D A H0 kc ks Q ws pc lv (.int x :: st) := by
  subst hn
  exact fun H locs ls hP hD hS h => lv_istore C.1 C.2.1 hdg h hi hl (fun ls' h' => kk H locs ls' hP hD hS h')
theorem gq_lstore_n (C : gC p s m args c cc nL own D cI cZ) {k : Fin 4} {x : Int64} (lv' : List (Nat × Value)) (n : Nat) (hdg : decode cc pc = .ok (.lstore_n k, 1)) (hi : (k : Nat) + 1 < nL) (hl : ((k : Nat), Value.long x) :: lv.filter (fun q => !(q.1 == (k : Nat)) && (!(q.1 == (k : Nat) + 1) && !(q.1 + 1 == (k : Nat) && q.2.category == 2))) = lv') (hn : pc + 1 = n) (kk : G p l e R s m args below meth c nL D A H0 kc ks Q ws n lv' st) : G p l e R s m args below meth c nL D A H0 kc ks Q ws pc lv (.long x :: st) := by
  subst hn
  exact fun H locs ls hP hD hS h => lv_lstore_n C.1 C.2.1 hdg rfl h hi hl (fun ls' h' => kk H locs ls' hP hD hS h')
theorem gq_lstore (C : gC p s m args c cc nL own D cI cZ) {i : Nat} {x : Int64} (lv' : List (Nat × Value)) (n : Nat) (hdg : decode cc pc = .ok (.lstore i, 2)) (hi : i + 1 < nL) (hl : (i, Value.long x) :: lv.filter (fun q => !(q.1 == i) && (!(q.1 == i + 1) && !(q.1 + 1 == i && q.2.category == 2))) = lv') (hn : pc + 2 = n) (kk : G p l e R s m args below meth c nL D A H0 kc ks Q ws n lv' st) : G p l e R s m args below meth c nL D A H0 kc ks Q ws pc lv (.long x :: st) := by
  subst hn
  exact fun H locs ls hP hD hS h => lv_lstore C.1 C.2.1 hdg h hi hl (fun ls' h' => kk H locs ls' hP hD hS h')
theorem gq_astore_n (C : gC p s m args c cc nL own D cI cZ) {k : Fin 4} {x : Nat} (lv' : List (Nat × Value)) (n : Nat) (hdg : decode cc pc = .ok (.astore_n k, 1)) (hi : (k : Nat) < nL) (hl : ((k : Nat), Value.ref x) :: lv.filter (fun q => !(q.1 == (k : Nat)) && !(q.1 + 1 == (k : Nat) && q.2.category == 2)) = lv') (hn : pc + 1 = n) (kk : G p l e R s m args below meth c nL D A H0 kc ks Q ws n lv' st) : G p l e R s m args below meth c nL D A H0 kc ks Q ws pc lv (.ref x :: st) := by
  subst hn
  exact fun H locs ls hP hD hS h => lv_astore_n C.1 C.2.1 hdg rfl h hi hl (fun ls' h' => kk H locs ls' hP hD hS h')
theorem gq_astore (C : gC p s m args c cc nL own D cI cZ) {i x : Nat} (lv' : List (Nat × Value)) (n : Nat) (hdg : decode cc pc = .ok (.astore i, 2)) (hi : i < nL) (hl : (i, Value.ref x) :: lv.filter (fun q => !(q.1 == i) && !(q.1 + 1 == i && q.2.category == 2)) = lv') (hn : pc + 2 = n) (kk : G p l e R s m args below meth c nL D A H0 kc ks Q ws n lv' st) : G p l e R s m args below meth c nL D A H0 kc ks Q ws pc lv (.ref x :: st) := by
  subst hn
  exact fun H locs ls hP hD hS h => lv_astore C.1 C.2.1 hdg h hi hl (fun ls' h' => kk H locs ls' hP hD hS h')
theorem gq_iinc (C : gC p s m args c cc nL own D cI cZ) {i : Nat} {d : Int} {x v : Int32} (j : Nat) (lv' : List (Nat × Value)) (n : Nat) (hdg : decode cc pc = .ok (.iinc i d, 3)) (hk : lv[j]? = some (i, .int x)) (hv : x + Int32.ofInt d = v) (hi : i < nL) (hl : (i, Value.int v) :: lv.filter (fun q => !(q.1 == i) && !(q.1 + 1 == i && q.2.category == 2)) = lv') (hn : pc + 3 = n) (kk : G p l e R s m args below meth c nL D A H0 kc ks Q ws n lv' st) : G p l e R s m args below meth c nL D A H0 kc ks Q ws pc lv st := by
  subst hn
  exact fun H locs ls hP hD hS h => lv_iinc C.1 C.2.1 hdg h hk hv hi hl (fun ls' h' => kk H locs ls' hP hD hS h')
theorem gq_iadd (C : gC p s m args c cc nL own D cI cZ) {x y : Int32} (n : Nat) (hdg : decode cc pc = .ok (.iadd, 1)) (hn : pc + 1 = n) (k : G p l e R s m args below meth c nL D A H0 kc ks Q ws n lv (.int (x + y) :: st)) : G p l e R s m args below meth c nL D A H0 kc ks Q ws pc lv (.int y :: .int x :: st) := by
  subst hn
  exact fun H locs ls hP hD hS hl => lv_iadd C.1 C.2.1 hdg (k H locs ls hP hD hS hl)
theorem gq_isub (C : gC p s m args c cc nL own D cI cZ) {x y : Int32} (n : Nat) (hdg : decode cc pc = .ok (.isub, 1)) (hn : pc + 1 = n) (k : G p l e R s m args below meth c nL D A H0 kc ks Q ws n lv (.int (x - y) :: st)) : G p l e R s m args below meth c nL D A H0 kc ks Q ws pc lv (.int y :: .int x :: st) := by
  subst hn
  exact fun H locs ls hP hD hS hl => lv_isub C.1 C.2.1 hdg (k H locs ls hP hD hS hl)
theorem gq_imul (C : gC p s m args c cc nL own D cI cZ) {x y : Int32} (n : Nat) (hdg : decode cc pc = .ok (.imul, 1)) (hn : pc + 1 = n) (k : G p l e R s m args below meth c nL D A H0 kc ks Q ws n lv (.int (x * y) :: st)) : G p l e R s m args below meth c nL D A H0 kc ks Q ws pc lv (.int y :: .int x :: st) := by
  subst hn
  exact fun H locs ls hP hD hS hl => lv_imul C.1 C.2.1 hdg (k H locs ls hP hD hS hl)
theorem gq_iand (C : gC p s m args c cc nL own D cI cZ) {x y : Int32} (n : Nat) (hdg : decode cc pc = .ok (.iand, 1)) (hn : pc + 1 = n) (k : G p l e R s m args below meth c nL D A H0 kc ks Q ws n lv (.int (x &&& y) :: st)) : G p l e R s m args below meth c nL D A H0 kc ks Q ws pc lv (.int y :: .int x :: st) := by
  subst hn
  exact fun H locs ls hP hD hS hl => lv_iand C.1 C.2.1 hdg (k H locs ls hP hD hS hl)
theorem gq_ior (C : gC p s m args c cc nL own D cI cZ) {x y : Int32} (n : Nat) (hdg : decode cc pc = .ok (.ior, 1)) (hn : pc + 1 = n) (k : G p l e R s m args below meth c nL D A H0 kc ks Q ws n lv (.int (x ||| y) :: st)) : G p l e R s m args below meth c nL D A H0 kc ks Q ws pc lv (.int y :: .int x :: st) := by
  subst hn
  exact fun H locs ls hP hD hS hl => lv_ior C.1 C.2.1 hdg (k H locs ls hP hD hS hl)
theorem gq_ixor (C : gC p s m args c cc nL own D cI cZ) {x y : Int32} (n : Nat) (hdg : decode cc pc = .ok (.ixor, 1)) (hn : pc + 1 = n) (k : G p l e R s m args below meth c nL D A H0 kc ks Q ws n lv (.int (x ^^^ y) :: st)) : G p l e R s m args below meth c nL D A H0 kc ks Q ws pc lv (.int y :: .int x :: st) := by
  subst hn
  exact fun H locs ls hP hD hS hl => lv_ixor C.1 C.2.1 hdg (k H locs ls hP hD hS hl)
theorem gq_ishl (C : gC p s m args c cc nL own D cI cZ) {x y : Int32} (n : Nat) (hdg : decode cc pc = .ok (.ishl, 1)) (hn : pc + 1 = n) (k : G p l e R s m args below meth c nL D A H0 kc ks Q ws n lv (.int (x <<< (y &&& 31)) :: st)) : G p l e R s m args below meth c nL D A H0 kc ks Q ws pc lv (.int y :: .int x :: st) := by
  subst hn
  exact fun H locs ls hP hD hS hl => lv_ishl C.1 C.2.1 hdg (k H locs ls hP hD hS hl)
theorem gq_ishr (C : gC p s m args c cc nL own D cI cZ) {x y : Int32} (n : Nat) (hdg : decode cc pc = .ok (.ishr, 1)) (hn : pc + 1 = n) (k : G p l e R s m args below meth c nL D A H0 kc ks Q ws n lv (.int (x >>> (y &&& 31)) :: st)) : G p l e R s m args below meth c nL D A H0 kc ks Q ws pc lv (.int y :: .int x :: st) := by
  subst hn
  exact fun H locs ls hP hD hS hl => lv_ishr C.1 C.2.1 hdg (k H locs ls hP hD hS hl)
theorem gq_ladd (C : gC p s m args c cc nL own D cI cZ) {x y : Int64} (n : Nat) (hdg : decode cc pc = .ok (.ladd, 1)) (hn : pc + 1 = n) (k : G p l e R s m args below meth c nL D A H0 kc ks Q ws n lv (.long (x + y) :: st)) : G p l e R s m args below meth c nL D A H0 kc ks Q ws pc lv (.long y :: .long x :: st) := by
  subst hn
  exact fun H locs ls hP hD hS hl => lv_ladd C.1 C.2.1 hdg (k H locs ls hP hD hS hl)
theorem gq_lsub (C : gC p s m args c cc nL own D cI cZ) {x y : Int64} (n : Nat) (hdg : decode cc pc = .ok (.lsub, 1)) (hn : pc + 1 = n) (k : G p l e R s m args below meth c nL D A H0 kc ks Q ws n lv (.long (x - y) :: st)) : G p l e R s m args below meth c nL D A H0 kc ks Q ws pc lv (.long y :: .long x :: st) := by
  subst hn
  exact fun H locs ls hP hD hS hl => lv_lsub C.1 C.2.1 hdg (k H locs ls hP hD hS hl)
theorem gq_lmul (C : gC p s m args c cc nL own D cI cZ) {x y : Int64} (n : Nat) (hdg : decode cc pc = .ok (.lmul, 1)) (hn : pc + 1 = n) (k : G p l e R s m args below meth c nL D A H0 kc ks Q ws n lv (.long (x * y) :: st)) : G p l e R s m args below meth c nL D A H0 kc ks Q ws pc lv (.long y :: .long x :: st) := by
  subst hn
  exact fun H locs ls hP hD hS hl => lv_lmul C.1 C.2.1 hdg (k H locs ls hP hD hS hl)
theorem gq_idiv (C : gC p s m args c cc nL own D cI cZ) {x y : Int32} (n : Nat) (hdg : decode cc pc = .ok (.idiv, 1)) (hne : ¬ y = 0) (hn : pc + 1 = n) (k : G p l e R s m args below meth c nL D A H0 kc ks Q ws n lv (.int (x / y) :: st)) : G p l e R s m args below meth c nL D A H0 kc ks Q ws pc lv (.int y :: .int x :: st) := by
  subst hn
  exact fun H locs ls hP hD hS hl => lv_idiv C.1 C.2.1 hdg hne (k H locs ls hP hD hS hl)
theorem gq_irem (C : gC p s m args c cc nL own D cI cZ) {x y : Int32} (n : Nat) (hdg : decode cc pc = .ok (.irem, 1)) (hne : ¬ y = 0) (hn : pc + 1 = n) (k : G p l e R s m args below meth c nL D A H0 kc ks Q ws n lv (.int (x - x / y * y) :: st)) : G p l e R s m args below meth c nL D A H0 kc ks Q ws pc lv (.int y :: .int x :: st) := by
  subst hn
  exact fun H locs ls hP hD hS hl => lv_irem C.1 C.2.1 hdg hne (k H locs ls hP hD hS hl)
theorem gq_ldiv (C : gC p s m args c cc nL own D cI cZ) {x y : Int64} (n : Nat) (hdg : decode cc pc = .ok (.ldiv, 1)) (hne : ¬ y = 0) (hn : pc + 1 = n) (k : G p l e R s m args below meth c nL D A H0 kc ks Q ws n lv (.long (x / y) :: st)) : G p l e R s m args below meth c nL D A H0 kc ks Q ws pc lv (.long y :: .long x :: st) := by
  subst hn
  exact fun H locs ls hP hD hS hl => lv_ldiv C.1 C.2.1 hdg hne (k H locs ls hP hD hS hl)
theorem gq_lrem (C : gC p s m args c cc nL own D cI cZ) {x y : Int64} (n : Nat) (hdg : decode cc pc = .ok (.lrem, 1)) (hne : ¬ y = 0) (hn : pc + 1 = n) (k : G p l e R s m args below meth c nL D A H0 kc ks Q ws n lv (.long (x - x / y * y) :: st)) : G p l e R s m args below meth c nL D A H0 kc ks Q ws pc lv (.long y :: .long x :: st) := by
  subst hn
  exact fun H locs ls hP hD hS hl => lv_lrem C.1 C.2.1 hdg hne (k H locs ls hP hD hS hl)
theorem gq_lcmp (C : gC p s m args c cc nL own D cI cZ) {x y : Int64} (n : Nat) (hdg : decode cc pc = .ok (.lcmp, 1)) (hn : pc + 1 = n) (k : G p l e R s m args below meth c nL D A H0 kc ks Q ws n lv (.int (lg_cmp x y) :: st)) : G p l e R s m args below meth c nL D A H0 kc ks Q ws pc lv (.long y :: .long x :: st) := by
  subst hn
  exact fun H locs ls hP hD hS hl => W.lcmp C.1 C.2.1 hdg (k H locs ls hP hD hS hl)
theorem gq_iushr (C : gC p s m args c cc nL own D cI cZ) {x y : Int32} (n : Nat) (hdg : decode cc pc = .ok (.iushr, 1)) (hn : pc + 1 = n) (k : G p l e R s m args below meth c nL D A H0 kc ks Q ws n lv (.int (x.toUInt32 >>> (y.toUInt32 &&& Int32.toUInt32 31)).toInt32 :: st)) : G p l e R s m args below meth c nL D A H0 kc ks Q ws pc lv (.int y :: .int x :: st) := by
  subst hn
  exact fun H locs ls hP hD hS hl => lv_iushr C.1 C.2.1 hdg rfl (k H locs ls hP hD hS hl)
theorem gq_i2l (C : gC p s m args c cc nL own D cI cZ) {x : Int32} (n : Nat) (hdg : decode cc pc = .ok (.i2l, 1)) (hn : pc + 1 = n) (k : G p l e R s m args below meth c nL D A H0 kc ks Q ws n lv (.long x.toInt64 :: st)) : G p l e R s m args below meth c nL D A H0 kc ks Q ws pc lv (.int x :: st) := by
  subst hn
  exact fun H locs ls hP hD hS hl => lv_i2l C.1 C.2.1 hdg rfl (k H locs ls hP hD hS hl)
theorem gq_pop (C : gC p s m args c cc nL own D cI cZ) {v : Value} (n : Nat) (hdg : decode cc pc = .ok (.pop, 1)) (hva : v.category = 1) (hn : pc + 1 = n) (k : G p l e R s m args below meth c nL D A H0 kc ks Q ws n lv st) : G p l e R s m args below meth c nL D A H0 kc ks Q ws pc lv (v :: st) := by
  subst hn
  exact fun H locs ls hP hD hS hl => lv_pop C.1 C.2.1 hdg hva (k H locs ls hP hD hS hl)
theorem gq_dup (C : gC p s m args c cc nL own D cI cZ) {v : Value} (n : Nat) (hdg : decode cc pc = .ok (.dup, 1)) (hva : v.category = 1) (hn : pc + 1 = n) (k : G p l e R s m args below meth c nL D A H0 kc ks Q ws n lv (v :: v :: st)) : G p l e R s m args below meth c nL D A H0 kc ks Q ws pc lv (v :: st) := by
  subst hn
  exact fun H locs ls hP hD hS hl => lv_dup C.1 C.2.1 hdg hva (k H locs ls hP hD hS hl)
theorem gq_dup2 (C : gC p s m args c cc nL own D cI cZ) {v w : Value} (n : Nat) (hdg : decode cc pc = .ok (.dup2, 1)) (hva : v.category = 1) (hvb : w.category = 1) (hn : pc + 1 = n) (k : G p l e R s m args below meth c nL D A H0 kc ks Q ws n lv (v :: w :: v :: w :: st)) : G p l e R s m args below meth c nL D A H0 kc ks Q ws pc lv (v :: w :: st) := by
  subst hn
  exact fun H locs ls hP hD hS hl => lv_dup2_11 C.1 C.2.1 hdg hva hvb (k H locs ls hP hD hS hl)
theorem gq_null (C : gC p s m args c cc nL own D cI cZ) (n : Nat) (hdg : decode cc pc = .ok (.aconst_null, 1)) (hn : pc + 1 = n) (k : G p l e R s m args below meth c nL D A H0 kc ks Q ws n lv (.null :: st)) : G p l e R s m args below meth c nL D A H0 kc ks Q ws pc lv st := by
  subst hn
  exact fun H locs ls hP hD hS hl => lv_null C.1 C.2.1 hdg (k H locs ls hP hD hS hl)
theorem gq_goto (C : gC p s m args c cc nL own D cI cZ) {off : Int} (tgt : Nat) (hdg : decode cc pc = .ok (.goto off, 3)) (ht : (pc : Int) + off = (tgt : Int)) (k : G p l e R s m args below meth c nL D A H0 kc ks Q ws tgt lv st) : G p l e R s m args below meth c nL D A H0 kc ks Q ws pc lv st :=
  fun H locs ls hP hD hS hl => lv_goto C.1 C.2.1 hdg ht (k H locs ls hP hD hS hl)
theorem gq_ifnull (C : gC p s m args c cc nL own D cI cZ) {off : Int} {x : Nat} (n : Nat) (hdg : decode cc pc = .ok (.ifnull off, 3)) (hn : pc + 3 = n) (k : G p l e R s m args below meth c nL D A H0 kc ks Q ws n lv st) : G p l e R s m args below meth c nL D A H0 kc ks Q ws pc lv (.ref x :: st) := by
  subst hn
  exact fun H locs ls hP hD hS hl => lv_ifnull C.1 C.2.1 hdg (k H locs ls hP hD hS hl)
theorem gq_ifnonnull (C : gC p s m args c cc nL own D cI cZ) {off : Int} {x : Nat} (tgt : Nat) (hdg : decode cc pc = .ok (.ifnonnull off, 3)) (ht : (pc : Int) + off = (tgt : Int)) (k : G p l e R s m args below meth c nL D A H0 kc ks Q ws tgt lv st) : G p l e R s m args below meth c nL D A H0 kc ks Q ws pc lv (.ref x :: st) :=
  fun H locs ls hP hD hS hl => lv_ifnonnull C.1 C.2.1 hdg ht (k H locs ls hP hD hS hl)
theorem gq_icmp_eq (C : gC p s m args c cc nL own D cI cZ) {x y : Int32} {off : Int} (tgt n : Nat) (hdg : decode cc pc = .ok (.if_icmp .eq off, 3)) (ht : (pc : Int) + off = (tgt : Int)) (hn : pc + 3 = n) (kt : x = y → G p l e R s m args below meth c nL D A H0 kc ks Q ws tgt lv st) (kf : ¬ x = y → G p l e R s m args below meth c nL D A H0 kc ks Q ws n lv st) : G p l e R s m args below meth c nL D A H0 kc ks Q ws pc lv (.int y :: .int x :: st) := by
  subst hn
  exact fun H locs ls hP hD hS hl => lv_icmp_eq C.1 C.2.1 hdg ht (fun h => kt h H locs ls hP hD hS hl) (fun h => kf h H locs ls hP hD hS hl)
theorem gq_if_eq (C : gC p s m args c cc nL own D cI cZ) {x : Int32} {off : Int} (tgt n : Nat) (hdg : decode cc pc = .ok (.ifCond .eq off, 3)) (ht : (pc : Int) + off = (tgt : Int)) (hn : pc + 3 = n) (kt : x = 0 → G p l e R s m args below meth c nL D A H0 kc ks Q ws tgt lv st) (kf : ¬ x = 0 → G p l e R s m args below meth c nL D A H0 kc ks Q ws n lv st) : G p l e R s m args below meth c nL D A H0 kc ks Q ws pc lv (.int x :: st) := by
  subst hn
  exact fun H locs ls hP hD hS hl => lv_if_eq C.1 C.2.1 hdg ht (fun h => kt h H locs ls hP hD hS hl) (fun h => kf h H locs ls hP hD hS hl)
theorem gq_icmp_ne (C : gC p s m args c cc nL own D cI cZ) {x y : Int32} {off : Int} (tgt n : Nat) (hdg : decode cc pc = .ok (.if_icmp .ne off, 3)) (ht : (pc : Int) + off = (tgt : Int)) (hn : pc + 3 = n) (kt : ¬ x = y → G p l e R s m args below meth c nL D A H0 kc ks Q ws tgt lv st) (kf : x = y → G p l e R s m args below meth c nL D A H0 kc ks Q ws n lv st) : G p l e R s m args below meth c nL D A H0 kc ks Q ws pc lv (.int y :: .int x :: st) := by
  subst hn
  exact fun H locs ls hP hD hS hl => lv_icmp_ne C.1 C.2.1 hdg ht (fun h => kt h H locs ls hP hD hS hl) (fun h => kf h H locs ls hP hD hS hl)
theorem gq_if_ne (C : gC p s m args c cc nL own D cI cZ) {x : Int32} {off : Int} (tgt n : Nat) (hdg : decode cc pc = .ok (.ifCond .ne off, 3)) (ht : (pc : Int) + off = (tgt : Int)) (hn : pc + 3 = n) (kt : ¬ x = 0 → G p l e R s m args below meth c nL D A H0 kc ks Q ws tgt lv st) (kf : x = 0 → G p l e R s m args below meth c nL D A H0 kc ks Q ws n lv st) : G p l e R s m args below meth c nL D A H0 kc ks Q ws pc lv (.int x :: st) := by
  subst hn
  exact fun H locs ls hP hD hS hl => lv_if_ne C.1 C.2.1 hdg ht (fun h => kt h H locs ls hP hD hS hl) (fun h => kf h H locs ls hP hD hS hl)
theorem gq_icmp_lt (C : gC p s m args c cc nL own D cI cZ) {x y : Int32} {off : Int} (tgt n : Nat) (hdg : decode cc pc = .ok (.if_icmp .lt off, 3)) (ht : (pc : Int) + off = (tgt : Int)) (hn : pc + 3 = n) (kt : x < y → G p l e R s m args below meth c nL D A H0 kc ks Q ws tgt lv st) (kf : ¬ x < y → G p l e R s m args below meth c nL D A H0 kc ks Q ws n lv st) : G p l e R s m args below meth c nL D A H0 kc ks Q ws pc lv (.int y :: .int x :: st) := by
  subst hn
  exact fun H locs ls hP hD hS hl => lv_icmp_lt C.1 C.2.1 hdg ht (fun h => kt h H locs ls hP hD hS hl) (fun h => kf h H locs ls hP hD hS hl)
theorem gq_if_lt (C : gC p s m args c cc nL own D cI cZ) {x : Int32} {off : Int} (tgt n : Nat) (hdg : decode cc pc = .ok (.ifCond .lt off, 3)) (ht : (pc : Int) + off = (tgt : Int)) (hn : pc + 3 = n) (kt : x < 0 → G p l e R s m args below meth c nL D A H0 kc ks Q ws tgt lv st) (kf : ¬ x < 0 → G p l e R s m args below meth c nL D A H0 kc ks Q ws n lv st) : G p l e R s m args below meth c nL D A H0 kc ks Q ws pc lv (.int x :: st) := by
  subst hn
  exact fun H locs ls hP hD hS hl => lv_if_lt C.1 C.2.1 hdg ht (fun h => kt h H locs ls hP hD hS hl) (fun h => kf h H locs ls hP hD hS hl)
theorem gq_icmp_ge (C : gC p s m args c cc nL own D cI cZ) {x y : Int32} {off : Int} (tgt n : Nat) (hdg : decode cc pc = .ok (.if_icmp .ge off, 3)) (ht : (pc : Int) + off = (tgt : Int)) (hn : pc + 3 = n) (kt : y ≤ x → G p l e R s m args below meth c nL D A H0 kc ks Q ws tgt lv st) (kf : ¬ y ≤ x → G p l e R s m args below meth c nL D A H0 kc ks Q ws n lv st) : G p l e R s m args below meth c nL D A H0 kc ks Q ws pc lv (.int y :: .int x :: st) := by
  subst hn
  exact fun H locs ls hP hD hS hl => lv_icmp_ge C.1 C.2.1 hdg ht (fun h => kt h H locs ls hP hD hS hl) (fun h => kf h H locs ls hP hD hS hl)
theorem gq_if_ge (C : gC p s m args c cc nL own D cI cZ) {x : Int32} {off : Int} (tgt n : Nat) (hdg : decode cc pc = .ok (.ifCond .ge off, 3)) (ht : (pc : Int) + off = (tgt : Int)) (hn : pc + 3 = n) (kt : 0 ≤ x → G p l e R s m args below meth c nL D A H0 kc ks Q ws tgt lv st) (kf : ¬ 0 ≤ x → G p l e R s m args below meth c nL D A H0 kc ks Q ws n lv st) : G p l e R s m args below meth c nL D A H0 kc ks Q ws pc lv (.int x :: st) := by
  subst hn
  exact fun H locs ls hP hD hS hl => lv_if_ge C.1 C.2.1 hdg ht (fun h => kt h H locs ls hP hD hS hl) (fun h => kf h H locs ls hP hD hS hl)
theorem gq_icmp_gt (C : gC p s m args c cc nL own D cI cZ) {x y : Int32} {off : Int} (tgt n : Nat) (hdg : decode cc pc = .ok (.if_icmp .gt off, 3)) (ht : (pc : Int) + off = (tgt : Int)) (hn : pc + 3 = n) (kt : y < x → G p l e R s m args below meth c nL D A H0 kc ks Q ws tgt lv st) (kf : ¬ y < x → G p l e R s m args below meth c nL D A H0 kc ks Q ws n lv st) : G p l e R s m args below meth c nL D A H0 kc ks Q ws pc lv (.int y :: .int x :: st) := by
  subst hn
  exact fun H locs ls hP hD hS hl => lv_icmp_gt C.1 C.2.1 hdg ht (fun h => kt h H locs ls hP hD hS hl) (fun h => kf h H locs ls hP hD hS hl)
theorem gq_if_gt (C : gC p s m args c cc nL own D cI cZ) {x : Int32} {off : Int} (tgt n : Nat) (hdg : decode cc pc = .ok (.ifCond .gt off, 3)) (ht : (pc : Int) + off = (tgt : Int)) (hn : pc + 3 = n) (kt : 0 < x → G p l e R s m args below meth c nL D A H0 kc ks Q ws tgt lv st) (kf : ¬ 0 < x → G p l e R s m args below meth c nL D A H0 kc ks Q ws n lv st) : G p l e R s m args below meth c nL D A H0 kc ks Q ws pc lv (.int x :: st) := by
  subst hn
  exact fun H locs ls hP hD hS hl => lv_if_gt C.1 C.2.1 hdg ht (fun h => kt h H locs ls hP hD hS hl) (fun h => kf h H locs ls hP hD hS hl)
theorem gq_icmp_le (C : gC p s m args c cc nL own D cI cZ) {x y : Int32} {off : Int} (tgt n : Nat) (hdg : decode cc pc = .ok (.if_icmp .le off, 3)) (ht : (pc : Int) + off = (tgt : Int)) (hn : pc + 3 = n) (kt : x ≤ y → G p l e R s m args below meth c nL D A H0 kc ks Q ws tgt lv st) (kf : ¬ x ≤ y → G p l e R s m args below meth c nL D A H0 kc ks Q ws n lv st) : G p l e R s m args below meth c nL D A H0 kc ks Q ws pc lv (.int y :: .int x :: st) := by
  subst hn
  exact fun H locs ls hP hD hS hl => lv_icmp_le C.1 C.2.1 hdg ht (fun h => kt h H locs ls hP hD hS hl) (fun h => kf h H locs ls hP hD hS hl)
theorem gq_if_le (C : gC p s m args c cc nL own D cI cZ) {x : Int32} {off : Int} (tgt n : Nat) (hdg : decode cc pc = .ok (.ifCond .le off, 3)) (ht : (pc : Int) + off = (tgt : Int)) (hn : pc + 3 = n) (kt : x ≤ 0 → G p l e R s m args below meth c nL D A H0 kc ks Q ws tgt lv st) (kf : ¬ x ≤ 0 → G p l e R s m args below meth c nL D A H0 kc ks Q ws n lv st) : G p l e R s m args below meth c nL D A H0 kc ks Q ws pc lv (.int x :: st) := by
  subst hn
  exact fun H locs ls hP hD hS hl => lv_if_le C.1 C.2.1 hdg ht (fun h => kt h H locs ls hP hD hS hl) (fun h => kf h H locs ls hP hD hS hl)
theorem gq_tableIn (C : gC p s m args c cc nL own D cI cZ) {dflt lo hi : Int} {offs : Array Int} {len : Nat} {x : Int32} {off : Int} (tgt : Nat) (hdg : decode cc pc = .ok (.tableswitch dflt lo hi offs, len)) (h1 : ¬ x.toInt < lo) (h2 : ¬ hi < x.toInt) (ho : offs[(x.toInt - lo).toNat]? = some off) (ht : (pc : Int) + off = (tgt : Int)) (k : G p l e R s m args below meth c nL D A H0 kc ks Q ws tgt lv st) : G p l e R s m args below meth c nL D A H0 kc ks Q ws pc lv (.int x :: st) :=
  fun H locs ls hP hD hS hl => lv_tableIn C.1 C.2.1 hdg h1 h2 ho ht (k H locs ls hP hD hS hl)
theorem gq_tableOut (C : gC p s m args c cc nL own D cI cZ) {dflt lo hi : Int} {offs : Array Int} {len : Nat} {x : Int32} (tgt : Nat) (hdg : decode cc pc = .ok (.tableswitch dflt lo hi offs, len)) (h : x.toInt < lo ∨ hi < x.toInt) (ht : (pc : Int) + dflt = (tgt : Int)) (k : G p l e R s m args below meth c nL D A H0 kc ks Q ws tgt lv st) : G p l e R s m args below meth c nL D A H0 kc ks Q ws pc lv (.int x :: st) :=
  fun H locs ls hP hD hS hl => lv_tableOut C.1 C.2.1 hdg h ht (k H locs ls hP hD hS hl)
theorem gq_lookup (C : gC p s m args c cc nL own D cI cZ) {dflt : Int} {ps : Array (Int × Int)} {len : Nat} {x : Int32} {off : Int} (tgt : Nat) (hdg : decode cc pc = .ok (.lookupswitch dflt ps, len)) (hp : (ps.toList.zip (ps.toList.drop 1)).all (fun (a, next) => a.1 < next.1) = true) (ho : Op.lookupswitch.offset ps.toList dflt x.toInt = off) (ht : (pc : Int) + off = (tgt : Int)) (k : G p l e R s m args below meth c nL D A H0 kc ks Q ws tgt lv st) : G p l e R s m args below meth c nL D A H0 kc ks Q ws pc lv (.int x :: st) :=
  fun H locs ls hP hD hS hl => lv_lookup C.1 C.2.1 hdg hp ho ht (k H locs ls hP hD hS hl)
end GQ
section GM
variable {p : Program} {l : Launch} {e : Env} {R : Room} {s : State} {m : MethodId} {args : Array Value} {below : List Frame} {meth : Method} {c : Code} {cc : ByteArray} {nL : Nat} {own : String} {D : va_G} {cI cZ : ClassId} {A : Nat → Prop} {H0 : Heap} {kc ks : Nat} {Q : State → Prop} {ws : List va_W} {pc : Nat} {lv : List (Nat × Value)} {st : List Value}
/-- what a field's rows need of the tables -/
def gFO (ci : Nat) (C : String) (T : u_T) (N : Nat) (k : Nat) : Prop := vwCl[ci]? = some (C, T, N) ∧ (∀ w ∈ u_ws C T N, w ∈ wsL_law) ∧ k < N ∧ (T k).1 = C
def gFP (C : String) (T : u_T) (N : Nat) (k : Nat) (ty0 : Nat → FieldType) (ty : FieldType) : Prop := (∀ k, k < N → parseFieldDescriptor (T k).2.2.1 = some (ty0 k)) ∧ (∀ a, a < N → ∀ b, b < N → a ≠ b → (T a).2.1 ≠ (T b).2.1) ∧ parseFieldDescriptor (T k).2.2.1 = some ty
theorem gq_get (C : gC p s m args c cc nL own D cI cZ) {ix ci N k a : Nat} {Cn : String} {T : u_T} {fs : List Value} {v : Value} (F : gFO ci Cn T N k) (hw : Cond.fieldLink own ix Cn (T k).2.1 (T k).2.2.1 ∈ wsL_law) {w0 : va_W} (i0 q0 n : Nat) (h0 : ws[i0]? = some w0) (he : w0[q0]? = some (a, .inr (ci, fs))) (hv : fs[k]? = some v) (hdg : decode cc pc = .ok (.getfield ix, 3)) (hn : pc + 3 = n) (kk : G p l e R s m args below meth c nL D A H0 kc ks Q ws n lv (v :: st)) : G p l e R s m args below meth c nL D A H0 kc ks Q ws pc lv (.ref a :: st) := by
  subst hn
  obtain ⟨f1, f2, f3, f4⟩ := F
  exact fun H locs ls hP hD hS hl => va_get C.1 C.2.1 C.2.2.2.2.1 f2 C.2.2.2.1 C.2.2.2.2.2.2 hP _ (fl_get _ _ _ _ _ h0 he) f1 k f3 (C.2.2.2.2.1 _ hw) (fun x hx => by rw [← f4]; exact hx) hv hdg (kk H locs ls hP hD hS hl)
theorem gq_getN (C : gC p s m args c cc nL own D cI cZ) {ix ci N k a : Nat} {Cn : String} {T : u_T} {fs : List Value} {v : Value} {host : String} (F : gFO ci Cn T N k) (hw : (own, ix, Cn, (T k).2.1, (T k).2.2.1, host) ∈ gNF) {w0 : va_W} (i0 q0 n : Nat) (h0 : ws[i0]? = some w0) (he : w0[q0]? = some (a, .inr (ci, fs))) (hv : fs[k]? = some v) (hdg : decode cc pc = .ok (.getfield ix, 3)) (hn : pc + 3 = n) (kk : G p l e R s m args below meth c nL D A H0 kc ks Q ws n lv (v :: st)) : G p l e R s m args below meth c nL D A H0 kc ks Q ws pc lv (.ref a :: st) := by
  subst hn
  obtain ⟨f1, f2, f3, f4⟩ := F
  exact fun H locs ls hP hD hS hl => va_getN C.1 C.2.1 C.2.2.2.2.1 f2 C.2.2.2.1 C.2.2.2.2.2.2 hP _ (fl_get _ _ _ _ _ h0 he) f1 k f3 (va_Nw.use rfl (C.2.2.2.2.2.1.1 _ hw)) (fun x hx => by rw [← f4]; exact hx) hv hdg (kk H locs ls hP hD hS hl)
theorem gq_put (C : gC p s m args c cc nL own D cI cZ) {ix ci N k a : Nat} {Cn : String} {T : u_T} {fs : List Value} {v : Value} {ty0 : Nat → FieldType} {ty : FieldType} (F : gFO ci Cn T N k) (P : gFP Cn T N k ty0 ty) (hfin : (T k).2.2.2 = false) (hw : Cond.fieldLink own ix Cn (T k).2.1 (T k).2.2.1 ∈ wsL_law) {w0 : va_W} (i0 q0 n : Nat) (ws' : List va_W) (h0 : ws[i0]? = some w0) (he : w0[q0]? = some (a, .inr (ci, fs))) (hr : narrow ty v = v) (hfit : fits ty v = true) (hl0 : k < fs.length) (hws : ws.set i0 (w0.set q0 (a, .inr (ci, fs.set k v))) = ws') (hdg : decode cc pc = .ok (.putfield ix, 3)) (hn : pc + 3 = n) (kk : G p l e R s m args below meth c nL D A H0 kc ks Q ws' n lv st) : G p l e R s m args below meth c nL D A H0 kc ks Q ws pc lv (v :: .ref a :: st) := by
  subst hn
  subst hws
  obtain ⟨f1, f2, f3, f4⟩ := F
  exact fun H locs ls hP hD hS hl => va_put C.1 C.2.1 C.2.2.2.2.1 f2 ty0 P.1 P.2.1 C.2.2.2.1 C.2.2.2.2.2.2 hP hD hS _ (fl_get _ _ _ _ _ h0 he) f1 k f3 (C.2.2.2.2.1 _ hw) (fun x hx => by rw [← f4]; exact hx) hfin P.2.2 hr hfit hl0 hdg (fun H1 locs1 hP1 hD1 hS1 => kk H1 locs1 ls (by rw [← fl_set _ _ _ _ _ h0 (List.getElem?_eq_some_iff.mp he).1]; exact hP1) (by rw [← fl_set _ _ _ _ _ h0 (List.getElem?_eq_some_iff.mp he).1]; exact hD1) hS1 hl)
theorem gq_putN (C : gC p s m args c cc nL own D cI cZ) {ix ci N k a : Nat} {Cn : String} {T : u_T} {fs : List Value} {v : Value} {host : String} {ty0 : Nat → FieldType} {ty : FieldType} (F : gFO ci Cn T N k) (P : gFP Cn T N k ty0 ty) (hfin : (T k).2.2.2 = false) (hw : (own, ix, Cn, (T k).2.1, (T k).2.2.1, host) ∈ gNF) {w0 : va_W} (i0 q0 n : Nat) (ws' : List va_W) (h0 : ws[i0]? = some w0) (he : w0[q0]? = some (a, .inr (ci, fs))) (hr : narrow ty v = v) (hfit : fits ty v = true) (hl0 : k < fs.length) (hws : ws.set i0 (w0.set q0 (a, .inr (ci, fs.set k v))) = ws') (hdg : decode cc pc = .ok (.putfield ix, 3)) (hn : pc + 3 = n) (kk : G p l e R s m args below meth c nL D A H0 kc ks Q ws' n lv st) : G p l e R s m args below meth c nL D A H0 kc ks Q ws pc lv (v :: .ref a :: st) := by
  subst hn
  subst hws
  obtain ⟨f1, f2, f3, f4⟩ := F
  exact fun H locs ls hP hD hS hl => va_putN C.1 C.2.1 C.2.2.2.2.1 f2 ty0 P.1 P.2.1 C.2.2.2.1 C.2.2.2.2.2.2 hP hD hS _ (fl_get _ _ _ _ _ h0 he) f1 k f3 (va_Nw.use rfl (C.2.2.2.2.2.1.1 _ hw)) (fun x hx => by rw [← f4]; exact hx) hfin P.2.2 hr hfit hl0 hdg (fun H1 locs1 hP1 hD1 hS1 => kk H1 locs1 ls (by rw [← fl_set _ _ _ _ _ h0 (List.getElem?_eq_some_iff.mp he).1]; exact hP1) (by rw [← fl_set _ _ _ _ _ h0 (List.getElem?_eq_some_iff.mp he).1]; exact hD1) hS1 hl)
theorem gq_putF (C : gC p s m args c cc nL own D cI cZ) (hin : meth.name = "<init>") {ix ci N k a : Nat} {Cn : String} {T : u_T} {fs : List Value} {v : Value} {ty0 : Nat → FieldType} {ty : FieldType} (F : gFO ci Cn T N k) (P : gFP Cn T N k ty0 ty) (hown : Cn = own) (hfin : (T k).2.2.2 = true) (hw : Cond.fieldLink own ix Cn (T k).2.1 (T k).2.2.1 ∈ wsL_law) {w0 : va_W} (i0 q0 n : Nat) (ws' : List va_W) (h0 : ws[i0]? = some w0) (he : w0[q0]? = some (a, .inr (ci, fs))) (hr : narrow ty v = v) (hfit : fits ty v = true) (hl0 : k < fs.length) (hws : ws.set i0 (w0.set q0 (a, .inr (ci, fs.set k v))) = ws') (hdg : decode cc pc = .ok (.putfield ix, 3)) (hn : pc + 3 = n) (kk : G p l e R s m args below meth c nL D A H0 kc ks Q ws' n lv st) : G p l e R s m args below meth c nL D A H0 kc ks Q ws pc lv (v :: .ref a :: st) := by
  subst hn
  subst hws
  obtain ⟨f1, f2, f3, f4⟩ := F
  exact fun H locs ls hP hD hS hl => va_putF C.1 C.2.1 C.2.2.2.2.1 f2 ty0 P.1 P.2.1 C.2.2.2.1 C.2.2.2.2.2.2 hP hD hS _ (fl_get _ _ _ _ _ h0 he) f1 k f3 (C.2.2.2.2.1 _ hw) (fun x hx => by rw [← f4]; exact hx) hfin hin (f4.trans hown) P.2.2 hr hfit hl0 hdg (fun H1 locs1 hP1 hD1 hS1 => kk H1 locs1 ls (by rw [← fl_set _ _ _ _ _ h0 (List.getElem?_eq_some_iff.mp he).1]; exact hP1) (by rw [← fl_set _ _ _ _ _ h0 (List.getElem?_eq_some_iff.mp he).1]; exact hD1) hS1 hl)
theorem gq_iald (C : gC p s m args c cc nL own D cI cZ) {a N : Nat} {f : Nat → Int32} {i : Int32} {w0 : va_W} (i0 q0 n : Nat) (h0 : ws[i0]? = some w0) (he : w0[q0]? = some (a, .inl (cI, N, .inl f))) (hin : ¬ (i < 0 ∨ N ≤ i.toNatClampNeg)) (hdg : decode cc pc = .ok (.iaload, 1)) (hn : pc + 1 = n) (kk : G p l e R s m args below meth c nL D A H0 kc ks Q ws n lv (.int (f i.toNatClampNeg) :: st)) : G p l e R s m args below meth c nL D A H0 kc ks Q ws pc lv (.int i :: .ref a :: st) := by
  subst hn
  exact fun H locs ls hP hD hS hl => va_iald C.1 C.2.1 C.2.2.2.2.2.2 hP _ 0 (fl_get _ _ _ _ _ h0 he) rfl hin hdg (kk H locs ls hP hD hS hl)
theorem gq_zald (C : gC p s m args c cc nL own D cI cZ) {a N : Nat} {f : Nat → Int32} {i : Int32} {w0 : va_W} (i0 q0 n : Nat) (h0 : ws[i0]? = some w0) (he : w0[q0]? = some (a, .inl (cZ, N, .inl f))) (hin : ¬ (i < 0 ∨ N ≤ i.toNatClampNeg)) (hdg : decode cc pc = .ok (.baload, 1)) (hn : pc + 1 = n) (kk : G p l e R s m args below meth c nL D A H0 kc ks Q ws n lv (.int (f i.toNatClampNeg) :: st)) : G p l e R s m args below meth c nL D A H0 kc ks Q ws pc lv (.int i :: .ref a :: st) := by
  subst hn
  exact fun H locs ls hP hD hS hl => va_zald C.1 C.2.1 C.2.2.2.2.2.2 hP _ 1 (fl_get _ _ _ _ _ h0 he) rfl hin hdg (kk H locs ls hP hD hS hl)
theorem gq_iast (C : gC p s m args c cc nL own D cI cZ) {a N : Nat} {f : Nat → Int32} {i x : Int32} {w0 : va_W} (i0 q0 n : Nat) (ws' : List va_W) (h0 : ws[i0]? = some w0) (he : w0[q0]? = some (a, .inl (cI, N, .inl f))) (hin : ¬ (i < 0 ∨ N ≤ i.toNatClampNeg)) (hws : ws.set i0 (w0.set q0 (a, .inl (cI, N, .inl (upd f i.toNatClampNeg x)))) = ws') (hdg : decode cc pc = .ok (.iastore, 1)) (hn : pc + 1 = n) (kk : G p l e R s m args below meth c nL D A H0 kc ks Q ws' n lv st) : G p l e R s m args below meth c nL D A H0 kc ks Q ws pc lv (.int x :: .int i :: .ref a :: st) := by
  subst hn
  subst hws
  exact fun H locs ls hP hD hS hl => va_iast C.1 C.2.1 C.2.2.2.2.2.2 hP hD hS _ 0 (fl_get _ _ _ _ _ h0 he) rfl hin hdg (fun H1 locs1 hP1 hD1 hS1 => kk H1 locs1 ls (by rw [← fl_set _ _ _ _ _ h0 (List.getElem?_eq_some_iff.mp he).1]; exact hP1) (by rw [← fl_set _ _ _ _ _ h0 (List.getElem?_eq_some_iff.mp he).1]; exact hD1) hS1 hl)
theorem gq_zast (C : gC p s m args c cc nL own D cI cZ) {a N : Nat} {f : Nat → Int32} {i x y : Int32} {w0 : va_W} (i0 q0 n : Nat) (ws' : List va_W) (h0 : ws[i0]? = some w0) (he : w0[q0]? = some (a, .inl (cZ, N, .inl f))) (hin : ¬ (i < 0 ∨ N ≤ i.toNatClampNeg)) (hy : vp_nar .boolean x = y) (hws : ws.set i0 (w0.set q0 (a, .inl (cZ, N, .inl (upd f i.toNatClampNeg y)))) = ws') (hdg : decode cc pc = .ok (.bastore, 1)) (hn : pc + 1 = n) (kk : G p l e R s m args below meth c nL D A H0 kc ks Q ws' n lv st) : G p l e R s m args below meth c nL D A H0 kc ks Q ws pc lv (.int x :: .int i :: .ref a :: st) := by
  subst hn
  subst hy
  subst hws
  exact fun H locs ls hP hD hS hl => va_zast C.1 C.2.1 C.2.2.2.2.2.2 hP hD hS _ 1 (fl_get _ _ _ _ _ h0 he) rfl hin hdg (fun H1 locs1 hP1 hD1 hS1 => kk H1 locs1 ls (by rw [← fl_set _ _ _ _ _ h0 (List.getElem?_eq_some_iff.mp he).1]; exact hP1) (by rw [← fl_set _ _ _ _ _ h0 (List.getElem?_eq_some_iff.mp he).1]; exact hD1) hS1 hl)
theorem gq_alen (C : gC p s m args c cc nL own D cI cZ) {a N : Nat} {f : Nat → Int32} {w0 : va_W} (i0 q0 n : Nat) (v : Int32) (h0 : ws[i0]? = some w0) (he : w0[q0]? = some (a, .inl (cI, N, .inl f))) (hv : Int32.ofNat N = v) (hdg : decode cc pc = .ok (.arraylength, 1)) (hn : pc + 1 = n) (kk : G p l e R s m args below meth c nL D A H0 kc ks Q ws n lv (.int v :: st)) : G p l e R s m args below meth c nL D A H0 kc ks Q ws pc lv (.ref a :: st) := by
  subst hn
  exact fun H locs ls hP hD hS hl => va_alen C.1 C.2.1 C.2.2.2.2.2.2 hP _ 0 (fl_get _ _ _ _ _ h0 he) rfl hv hdg (kk H locs ls hP hD hS hl)
theorem gq_copy (C : gC p s m args c cc nL own D cI cZ) {ix a a0 n0 n1 : Nat} {f g : Nat → Int32} {z : Int32} {w0 w1 : va_W} (i0 q0 i1 q1 n : Nat) (ws' : List va_W) (hw : Cond.methodLink own ix arraycopyName ∈ wsL_law) (hw2 : Cond.native arraycopyName ∈ wsL_law) (hw3 : Cond.static arraycopyName ∈ wsL_law) (hw4 : Cond.initialized "java/lang/System" ∈ wsL_law) (h0 : ws[i0]? = some w0) (he0 : w0[q0]? = some (a0, .inl (cI, n0, .inl f))) (h1 : ws[i1]? = some w1) (he : w1[q1]? = some (a, .inl (cI, n1, .inl g))) (hz : ¬ z < 0) (hz0 : z.toNatClampNeg ≤ n0) (hz1 : z.toNatClampNeg ≤ n1)
    (hws : ws.set i1 (w1.set q1 (a, .inl (cI, n1, .inl (va_cpy f g 0 0 z.toNatClampNeg)))) = ws') (hfr : 1 ≤ R.frames) (hlo : (st.map fun v => v.category).sum + (nativeFrameWords "java/lang/System" "arraycopy" 5 + 11) ≤ R.locals) (hdg : decode cc pc = .ok (.invokestatic ix, 3)) (hn : pc + 3 = n)
    (kk : G p l e R s m args below meth c nL D A H0 kc ks Q ws' n lv st) : G p l e R s m args below meth c nL D A H0 kc ks Q ws pc lv (.int z :: .int 0 :: .ref a :: .int 0 :: .ref a0 :: st) := by
  subst hn
  subst hws
  exact fun H locs ls hP hD hS hl => va_copyi C.1 C.2.1 (by rw [C.2.2.1]; exact hl.1.symm) C.2.2.2.1 (C.2.2.2.2.1 _ hw) (C.2.2.2.2.1 _ hw2) (C.2.2.2.2.1 _ hw3) (C.2.2.2.2.1 _ hw4) C.2.2.2.2.2.2 hP hD hS _ _ 0 0 (fl_get _ _ _ _ _ h0 he0) (fl_get _ _ _ _ _ h1 he) rfl rfl rfl (by decide) (by decide) hz (by rw [show ((0 : Int32).toNatClampNeg) = 0 from rfl, Nat.zero_add]; exact hz0) (by rw [show ((0 : Int32).toNatClampNeg) = 0 from rfl, Nat.zero_add]; exact hz1) (fun i hi => rfl) hfr hlo hdg (fun H1 locs1 hP1 hD1 hS1 => kk H1 locs1 ls (by rw [← fl_set _ _ _ _ _ h1 (List.getElem?_eq_some_iff.mp he).1]; exact hP1) (by rw [← fl_set _ _ _ _ _ h1 (List.getElem?_eq_some_iff.mp he).1]; exact hD1) hS1 hl)
/-- ends -/
theorem gq_iret {W0 : List va_W} {post : Option Value → List va_W → Prop} (C : gC p s m args c cc nL own D cI cZ) (hr : meth.sig.returnType = some .int) (hlk : meth.locks = false) {x : Int32} (hdg : decode cc pc = .ok (.ireturn, 1)) (hp : post (some (.int x)) ws) : G p l e R s m args below meth c nL D (va_A W0.flatten s.heap.size) s.heap kc ks (MQ below (gQc D W0 s.heap.size post) args s kc ks (va_A W0.flatten s.heap.size)) ws pc lv [.int x] :=
  fun H locs ls hP hD hS hl => W.iret C.1 C.2.1 hr (fun t ht hW => ⟨⟨some (.int x), ws, rfl, hp, by rw [ht]; exact hP, hD⟩, hS.F ht⟩) hS.2.2 hdg hlk
theorem gq_zret {W0 : List va_W} {post : Option Value → List va_W → Prop} (C : gC p s m args c cc nL own D cI cZ) (hr : meth.sig.returnType = some .boolean) (hlk : meth.locks = false) {x : Int32} (hdg : decode cc pc = .ok (.ireturn, 1)) (hx : narrow .boolean (.int x) = .int x) (hp : post (some (.int x)) ws) : G p l e R s m args below meth c nL D (va_A W0.flatten s.heap.size) s.heap kc ks (MQ below (gQc D W0 s.heap.size post) args s kc ks (va_A W0.flatten s.heap.size)) ws pc lv [.int x] :=
  fun H locs ls hP hD hS hl => W.zret C.1 C.2.1 hr hx (fun t ht hW => ⟨⟨some (.int x), ws, rfl, hp, by rw [ht]; exact hP, hD⟩, hS.F ht⟩) hS.2.2 hdg hlk
theorem gq_lret {W0 : List va_W} {post : Option Value → List va_W → Prop} (C : gC p s m args c cc nL own D cI cZ) (hr : meth.sig.returnType = some .long) (hlk : meth.locks = false) {x : Int64} (hdg : decode cc pc = .ok (.lreturn, 1)) (hp : post (some (.long x)) ws) : G p l e R s m args below meth c nL D (va_A W0.flatten s.heap.size) s.heap kc ks (MQ below (gQc D W0 s.heap.size post) args s kc ks (va_A W0.flatten s.heap.size)) ws pc lv [.long x] :=
  fun H locs ls hP hD hS hl => W.lret C.1 C.2.1 hr (fun t ht hW => ⟨⟨some (.long x), ws, rfl, hp, by rw [ht]; exact hP, hD⟩, hS.F ht⟩) hS.2.2 hdg hlk
theorem gq_vret {W0 : List va_W} {post : Option Value → List va_W → Prop} (C : gC p s m args c cc nL own D cI cZ) (hr : meth.sig.returnType = none) (hlk : meth.locks = false) (hdg : decode cc pc = .ok (.return_, 1)) (hp : post none ws) : G p l e R s m args below meth c nL D (va_A W0.flatten s.heap.size) s.heap kc ks (MQ below (gQc D W0 s.heap.size post) args s kc ks (va_A W0.flatten s.heap.size)) ws pc lv [] :=
  fun H locs ls hP hD hS hl => W.vret C.1 C.2.1 hr (fun t ht hW => ⟨⟨none, ws, rfl, hp, by rw [ht]; exact hP, hD⟩, hS.F ht⟩) hS.2.2 hdg hlk
/-- a call whose answer and world are known: the callee's cells at the places pl -/
theorem gq_after {Wc W1 : List va_W} {v : Option Value} {st0 : List Value} {a0 : Array Value} (pl : List Nat) (ws' : List va_W) (n : Nat)
    (hrun : ∀ (H : Heap) (locs : List Loc) (ls : Array Slot), va_P D vwCl ws.flatten H → va_P D vwCl Wc.flatten H → va_D A ws.flatten → va_D (fun _ => True) Wc.flatten → va_S A H0 H locs → lv_has ls nL lv → va_Run p l e R s m args below meth c H locs kc ks 0 0 (F0 m pc ls st0) st (gQc D Wc H.size (gPost v W1) a0) (va_A Wc.flatten H.size))
    (hA : ∀ q, H0.size ≤ q → A q) (hs : pl.map (fun i => ws[i]?) = Wc.map some) (hnd : va_nd pl = true) (hf : W1.map (fun w => w.map (fun q => q.1)) = Wc.map (fun w => w.map (fun q => q.1))) (hws : gRepl ws pl W1 = ws') (hn : pc + 3 = n)
    (kk : G p l e R s m args below meth c nL D A H0 kc ks Q ws' n lv (v.toList ++ st)) : G p l e R s m args below meth c nL D A H0 kc ks Q ws pc lv st0 := by
  subst hn
  intro H locs ls hP hD hS hl
  have hDc : va_D A Wc.flatten := sub_D hD hnd hs
  have hPc : va_P D vwCl Wc.flatten H := sub_P hP hs
  intro T hT X
  obtain ⟨v', st₀, t, T', L, h0, X', hL, e1, e2, ⟨⟨v2, W2, hv2, ⟨rfl, rfl⟩, hP1, hD1⟩, hz, hk⟩, stp⟩ := hrun H locs ls hP hPc hD (hDc.weaken (fun _ _ _ _ => trivial)) hS hl T hT X
  cases hv2
  rw [h0] at hz hk
  have hF : ∀ q, va_A Wc.flatten H.size q → A q := fun q h => by
    rcases h with ⟨k, e, h⟩ | h
    · exact hDc.2 k (q, e) h
    · exact hA q (Nat.le_trans hS.1 h)
  obtain ⟨r1, r2⟩ := gRepl_ok hP hD pl hs hf hk hP1
  rw [hws] at r1 r2
  obtain ⟨t2, a1, b1⟩ := kk t.heap (locs ++ L) ls r1 r2
    ⟨Nat.le_trans hS.1 hz, fun q h1 h2 => by rw [hk q (Nat.lt_of_lt_of_le h1 hS.1) (fun z => h2 (hF q z))]; exact hS.2.1 q h1 h2, fun q hq => by
      rcases List.mem_append.mp hq with h | h
      · exact hS.2.2 q h
      · exact hF _ (hL q h)⟩ hl T' e1 X'
  exact ⟨t2, stp t2 a1, b1⟩
def gMV (own : String) (ix : Nat) (y : MethodName) (cc' : ByteArray) (mL : Nat) (ret : Option FieldType) (n : Nat) : Prop := Cond.methodLink own ix y ∈ wsL_law ∧ Cond.instanceMethod y ∈ wsL_law ∧ Cond.selects y.cls y y ∈ wsL_law ∧ Cond.initialized y.cls ∈ wsL_law ∧ Cond.code y cc' mL ret ∈ wsL_law ∧ (y.cls ≠ "java/lang/invoke/MethodHandle" ∧ y.cls ≠ "java/lang/invoke/VarHandle" ∧ (parseMethodDescriptor y.desc).map (fun d => d.parameters.length) = some n)
def gMN (own : String) (ix : Nat) (y : MethodName) (host : String) (cc' : ByteArray) (mL : Nat) (ret : Option FieldType) (n : Nat) : Prop := (own, ix, y, host) ∈ gNM ∧ Cond.instanceMethod y ∈ wsL_law ∧ Cond.selects y.cls y y ∈ wsL_law ∧ Cond.initialized y.cls ∈ wsL_law ∧ Cond.code y cc' mL ret ∈ wsL_law ∧ (y.cls ≠ "java/lang/invoke/MethodHandle" ∧ y.cls ≠ "java/lang/invoke/VarHandle" ∧ (parseMethodDescriptor y.desc).map (fun d => d.parameters.length) = some n)
def gMS (own : String) (ix : Nat) (y : MethodName) (cc' : ByteArray) (mL : Nat) (ret : Option FieldType) (n : Nat) : Prop := Cond.methodLink own ix y ∈ wsL_law ∧ Cond.static y ∈ wsL_law ∧ Cond.initialized y.cls ∈ wsL_law ∧ Cond.code y cc' mL ret ∈ wsL_law ∧ (y.cls ≠ "java/lang/invoke/MethodHandle" ∧ y.cls ≠ "java/lang/invoke/VarHandle" ∧ (parseMethodDescriptor y.desc).map (fun d => d.parameters.length) = some n)
def gMT (own : String) (ix : Nat) (y : MethodName) (host : String) (cc' : ByteArray) (mL : Nat) (ret : Option FieldType) (n : Nat) : Prop := (own, ix, y, host) ∈ gNM ∧ Cond.static y ∈ wsL_law ∧ Cond.initialized y.cls ∈ wsL_law ∧ Cond.code y cc' mL ret ∈ wsL_law ∧ (y.cls ≠ "java/lang/invoke/MethodHandle" ∧ y.cls ≠ "java/lang/invoke/VarHandle" ∧ (parseMethodDescriptor y.desc).map (fun d => d.parameters.length) = some n)
/-- the callee's words among the caller's -/
theorem gGoodC {y : MethodName} {cc' : ByteArray} {mL : Nat} {ret : Option FieldType} (h : Cond.code y cc' mL ret ∈ wsL_law) : GoodIn wsL_law (.code y cc' mL ret :: wsL_law) := fun w hw => (List.mem_cons.mp hw).elim (fun e => e ▸ gGood _ h) (fun h => gGood w h)
theorem gq_callV (C : gC p s m args c cc nL own D cI cZ) {ix n mL fr lo b ci : Nat} {y : MethodName} {cc' : ByteArray} {ret : Option FieldType} {As : List Value} {Wc W1 : List va_W} {v : Option Value} {st0 : List Value} {T : u_T} {N : Nat} {fs : List Value} (hA : ∀ q, H0.size ≤ q → A q) (M : gMV own ix y cc' mL ret n) (hM : CT l D cI cZ y cc' mL ret fr lo 0 0 (.ref b :: As) Wc (gPost v W1)) (hc : vwCl[ci]? = some (y.cls, T, N)) {w0 : va_W} (ir qr : Nat) (h0 : ws[ir]? = some w0) (he : w0[qr]? = some (b, .inr (ci, fs))) (hlen : As.length = n) (hR : fr + 1 ≤ R.frames ∧ 8 + (mL + 11) + lo ≤ R.locals) (hkR : kc ≤ R.cells ∧ ks ≤ R.slots) (hst : st0 = As.reverse ++ .ref b :: st) (hcat : (st.map fun v => v.category).sum ≤ 8) (hdg : decode cc pc = .ok (.invokevirtual ix, 3)) (pl : List Nat) (ws' : List va_W) (n' : Nat) (hs : pl.map (fun i => ws[i]?) = Wc.map some) (hnd : va_nd pl = true) (hf : W1.map (fun w => w.map (fun q => q.1)) = Wc.map (fun w => w.map (fun q => q.1))) (hws : gRepl ws pl W1 = ws') (hn : pc + 3 = n')
    (st' : List Value) (hst' : v.toList ++ st = st') (kk : G p l e R s m args below meth c nL D A H0 kc ks Q ws' n' lv st') : G p l e R s m args below meth c nL D A H0 kc ks Q ws pc lv st0 := by
  subst hst
  subst hst'
  refine gq_after pl ws' n' (a0 := (Value.ref b :: As).toArray) (fun H locs ls hP hPc hD hDc hS hl => ?_) hA hs hnd hf hws hn kk
  obtain ⟨m1, m2, m3, m4, m5, m6⟩ := M
  refine va_runV (C := y.cls) ⟨C.1, C.2.1, C.2.2.1, C.2.2.2.1, C.2.2.2.2.1⟩ (hM H.size) (cwV n C.2.2.2.2.1 (fun w hw => ?_) rfl rfl rfl ⟨rfl, m6⟩ hR) ⟨gPc_blind _ _ _ _ _ _, va_recv C.2.2.2.2.2.2 hP hc (fl_get _ _ _ _ _ h0 he), fun U hU hW => ⟨rfl, by rw [hU], by rw [hU]; exact hPc, va_K.moved hW.alike C.2.2.2.2.2.2, gNW.warm hW C.2.2.2.2.2.1, hDc⟩⟩ rfl hlen hl.1 rfl (lv_room hcat) hdg hkR
  unfold wsV at hw
  rcases List.mem_append.mp hw with h | h
  · have h4 : w = Cond.methodLink own ix y ∨ w = Cond.instanceMethod y ∨ w = Cond.selects y.cls y y ∨ w = Cond.initialized y.cls := by simpa using h
    rcases h4 with rfl | rfl | rfl | rfl
    · exact gGood _ m1
    · exact gGood _ m2
    · exact gGood _ m3
    · exact gGood _ m4
  · exact gGoodC m5 w h
theorem gq_callN (C : gC p s m args c cc nL own D cI cZ) {ix n mL fr lo b ci : Nat} {y : MethodName} {host : String} {cc' : ByteArray} {ret : Option FieldType} {As : List Value} {Wc W1 : List va_W} {v : Option Value} {st0 : List Value} {T : u_T} {N : Nat} {fs : List Value} (hA : ∀ q, H0.size ≤ q → A q) (M : gMN own ix y host cc' mL ret n) (hM : CT l D cI cZ y cc' mL ret fr lo 0 0 (.ref b :: As) Wc (gPost v W1)) (hc : vwCl[ci]? = some (y.cls, T, N)) {w0 : va_W} (ir qr : Nat) (h0 : ws[ir]? = some w0) (he : w0[qr]? = some (b, .inr (ci, fs))) (hlen : As.length = n) (hR : fr + 1 ≤ R.frames ∧ 8 + (mL + 11) + lo ≤ R.locals) (hkR : kc ≤ R.cells ∧ ks ≤ R.slots) (hst : st0 = As.reverse ++ .ref b :: st) (hcat : (st.map fun v => v.category).sum ≤ 8) (hdg : decode cc pc = .ok (.invokevirtual ix, 3)) (pl : List Nat) (ws' : List va_W) (n' : Nat) (hs : pl.map (fun i => ws[i]?) = Wc.map some) (hnd : va_nd pl = true) (hf : W1.map (fun w => w.map (fun q => q.1)) = Wc.map (fun w => w.map (fun q => q.1))) (hws : gRepl ws pl W1 = ws') (hn : pc + 3 = n')
    (st' : List Value) (hst' : v.toList ++ st = st') (kk : G p l e R s m args below meth c nL D A H0 kc ks Q ws' n' lv st') : G p l e R s m args below meth c nL D A H0 kc ks Q ws pc lv st0 := by
  subst hst
  subst hst'
  refine gq_after pl ws' n' (a0 := (Value.ref b :: As).toArray) (fun H locs ls hP hPc hD hDc hS hl => ?_) hA hs hnd hf hws hn kk
  obtain ⟨m1, m2, m3, m4, m5, m6⟩ := M
  exact va_runVN (C := y.cls) ⟨C.1, C.2.1, C.2.2.1, C.2.2.2.1, C.2.2.2.2.1⟩ (hM H.size) ⟨va_cnB n C.2.2.2.2.1 (gGoodC m5) rfl rfl rfl (C.2.2.2.2.2.1.2 _ m1) (C.2.2.2.2.1 _ m4) m6 hR, C.2.2.2.2.1 _ m2, C.2.2.2.2.1 _ m3⟩ ⟨gPc_blind _ _ _ _ _ _, va_recv C.2.2.2.2.2.2 hP hc (fl_get _ _ _ _ _ h0 he), fun U hU hW => ⟨rfl, by rw [hU], by rw [hU]; exact hPc, va_K.moved hW.alike C.2.2.2.2.2.2, gNW.warm hW C.2.2.2.2.2.1, hDc⟩⟩ rfl hlen hl.1 rfl (lv_room hcat) hdg hkR
theorem gq_callS (C : gC p s m args c cc nL own D cI cZ) {ix n mL fr lo : Nat} {y : MethodName} {cc' : ByteArray} {ret : Option FieldType} {As : List Value} {Wc W1 : List va_W} {v : Option Value} {st0 : List Value} (hA : ∀ q, H0.size ≤ q → A q) (M : gMS own ix y cc' mL ret n) (hM : CT l D cI cZ y cc' mL ret fr lo 0 0 As Wc (gPost v W1)) (hlen : As.length = n) (hR : fr + 1 ≤ R.frames ∧ 8 + (mL + 11) + lo ≤ R.locals) (hkR : kc ≤ R.cells ∧ ks ≤ R.slots) (hst : st0 = As.reverse ++ st) (hcat : (st.map fun v => v.category).sum ≤ 8) (hdg : decode cc pc = .ok (.invokestatic ix, 3)) (pl : List Nat) (ws' : List va_W) (n' : Nat) (hs : pl.map (fun i => ws[i]?) = Wc.map some) (hnd : va_nd pl = true) (hf : W1.map (fun w => w.map (fun q => q.1)) = Wc.map (fun w => w.map (fun q => q.1))) (hws : gRepl ws pl W1 = ws') (hn : pc + 3 = n')
    (st' : List Value) (hst' : v.toList ++ st = st') (kk : G p l e R s m args below meth c nL D A H0 kc ks Q ws' n' lv st') : G p l e R s m args below meth c nL D A H0 kc ks Q ws pc lv st0 := by
  subst hst
  subst hst'
  refine gq_after pl ws' n' (a0 := As.toArray) (fun H locs ls hP hPc hD hDc hS hl => ?_) hA hs hnd hf hws hn kk
  obtain ⟨m1, m2, m4, m5, m6⟩ := M
  exact va_runS ⟨C.1, C.2.1, C.2.2.1, C.2.2.2.1, C.2.2.2.2.1⟩ (hM H.size) ⟨callB_of n C.2.2.2.2.1 (gGoodC m5) rfl rfl rfl (C.2.2.2.2.1 _ m4) (C.2.2.2.2.1 _ m1) m6 hR, C.2.2.2.2.1 _ m2⟩ ⟨gPc_blind _ _ _ _ _ _, fun U hU hW => ⟨rfl, by rw [hU], by rw [hU]; exact hPc, va_K.moved hW.alike C.2.2.2.2.2.2, gNW.warm hW C.2.2.2.2.2.1, hDc⟩⟩ rfl hlen hl.1 rfl (lv_room hcat) hdg hkR
theorem gq_callT (C : gC p s m args c cc nL own D cI cZ) {ix n mL fr lo : Nat} {y : MethodName} {host : String} {cc' : ByteArray} {ret : Option FieldType} {As : List Value} {Wc W1 : List va_W} {v : Option Value} {st0 : List Value} (hA : ∀ q, H0.size ≤ q → A q) (M : gMT own ix y host cc' mL ret n) (hM : CT l D cI cZ y cc' mL ret fr lo 0 0 As Wc (gPost v W1)) (hlen : As.length = n) (hR : fr + 1 ≤ R.frames ∧ 8 + (mL + 11) + lo ≤ R.locals) (hkR : kc ≤ R.cells ∧ ks ≤ R.slots) (hst : st0 = As.reverse ++ st) (hcat : (st.map fun v => v.category).sum ≤ 8) (hdg : decode cc pc = .ok (.invokestatic ix, 3)) (pl : List Nat) (ws' : List va_W) (n' : Nat) (hs : pl.map (fun i => ws[i]?) = Wc.map some) (hnd : va_nd pl = true) (hf : W1.map (fun w => w.map (fun q => q.1)) = Wc.map (fun w => w.map (fun q => q.1))) (hws : gRepl ws pl W1 = ws') (hn : pc + 3 = n')
    (st' : List Value) (hst' : v.toList ++ st = st') (kk : G p l e R s m args below meth c nL D A H0 kc ks Q ws' n' lv st') : G p l e R s m args below meth c nL D A H0 kc ks Q ws pc lv st0 := by
  subst hst
  subst hst'
  refine gq_after pl ws' n' (a0 := As.toArray) (fun H locs ls hP hPc hD hDc hS hl => ?_) hA hs hnd hf hws hn kk
  obtain ⟨m1, m2, m4, m5, m6⟩ := M
  exact va_runSN ⟨C.1, C.2.1, C.2.2.1, C.2.2.2.1, C.2.2.2.2.1⟩ (hM H.size) ⟨va_cnB n C.2.2.2.2.1 (gGoodC m5) rfl rfl rfl (C.2.2.2.2.2.1.2 _ m1) (C.2.2.2.2.1 _ m4) m6 hR, C.2.2.2.2.1 _ m2, trivial⟩ ⟨gPc_blind _ _ _ _ _ _, fun U hU hW => ⟨rfl, by rw [hU], by rw [hU]; exact hPc, va_K.moved hW.alike C.2.2.2.2.2.2, gNW.warm hW C.2.2.2.2.2.1, hDc⟩⟩ rfl hlen hl.1 rfl (lv_room hcat) hdg hkR
end GM
