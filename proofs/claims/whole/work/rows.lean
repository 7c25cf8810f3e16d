section
-- ===== PART A: goes FIRST, ahead of the names: the tables' words, and 'selects' of the private methods out of them =====
/-- a private method of a class that the tables say can be made, by its rows of tables_1 -/
def lw_okq (q : MethodName × Nat) : Prop := (q.1.cls ≠ "java/lang/invoke/MethodHandle" ∧ q.1.cls ≠ "java/lang/invoke/VarHandle") ∧ Cond.instantiable q.1.cls q.2 ∈ tables_1 ∧ Cond.privateMethod q.1 ∈ tables_1 ∧ Cond.instanceMethod q.1 ∈ tables_1
theorem lw_p0 : lw_okq (⟨"WarmBeds$House", "furnish", "(I)V"⟩, 7) := ⟨⟨by decide +kernel, by decide +kernel⟩, List.mem_of_getElem? (i := 19) (by decide +kernel), List.mem_of_getElem? (i := 204) (by decide +kernel), List.mem_of_getElem? (i := 205) (by decide +kernel)⟩
theorem lw_p1 : lw_okq (⟨"WarmBeds", "isBed", "(I)Z"⟩, 8) := ⟨⟨by decide +kernel, by decide +kernel⟩, List.mem_of_getElem? (i := 11) (by decide +kernel), List.mem_of_getElem? (i := 215) (by decide +kernel), List.mem_of_getElem? (i := 216) (by decide +kernel)⟩
theorem lw_p2 : lw_okq (⟨"WarmBeds$House", "worthOf", "(II)I"⟩, 7) := ⟨⟨by decide +kernel, by decide +kernel⟩, List.mem_of_getElem? (i := 19) (by decide +kernel), List.mem_of_getElem? (i := 219) (by decide +kernel), List.mem_of_getElem? (i := 220) (by decide +kernel)⟩
theorem lw_p3 : lw_okq (⟨"WarmBeds$House", "setWorth", "(III)V"⟩, 7) := ⟨⟨by decide +kernel, by decide +kernel⟩, List.mem_of_getElem? (i := 19) (by decide +kernel), List.mem_of_getElem? (i := 223) (by decide +kernel), List.mem_of_getElem? (i := 224) (by decide +kernel)⟩
theorem lw_p4 : lw_okq (⟨"WarmBeds$Day", "isFull", "()Z"⟩, 2) := ⟨⟨by decide +kernel, by decide +kernel⟩, List.mem_of_getElem? (i := 53) (by decide +kernel), List.mem_of_getElem? (i := 236) (by decide +kernel), List.mem_of_getElem? (i := 237) (by decide +kernel)⟩
theorem lw_p5 : lw_okq (⟨"WarmBeds$Day", "write", "(I)V"⟩, 2) := ⟨⟨by decide +kernel, by decide +kernel⟩, List.mem_of_getElem? (i := 53) (by decide +kernel), List.mem_of_getElem? (i := 240) (by decide +kernel), List.mem_of_getElem? (i := 241) (by decide +kernel)⟩
theorem lw_p6 : lw_okq (⟨"WarmBeds$Day", "firstFault", "()I"⟩, 2) := ⟨⟨by decide +kernel, by decide +kernel⟩, List.mem_of_getElem? (i := 53) (by decide +kernel), List.mem_of_getElem? (i := 252) (by decide +kernel), List.mem_of_getElem? (i := 253) (by decide +kernel)⟩
theorem lw_p7 : lw_okq (⟨"WarmBeds$Day", "signAt", "(I)I"⟩, 2) := ⟨⟨by decide +kernel, by decide +kernel⟩, List.mem_of_getElem? (i := 53) (by decide +kernel), List.mem_of_getElem? (i := 256) (by decide +kernel), List.mem_of_getElem? (i := 257) (by decide +kernel)⟩
theorem lw_p8 : lw_okq (⟨"WarmBeds$Day", "isUntold", "(I)Z"⟩, 2) := ⟨⟨by decide +kernel, by decide +kernel⟩, List.mem_of_getElem? (i := 53) (by decide +kernel), List.mem_of_getElem? (i := 273) (by decide +kernel), List.mem_of_getElem? (i := 274) (by decide +kernel)⟩
theorem lw_p9 : lw_okq (⟨"WarmBeds$Day", "nextUntold", "(I)I"⟩, 2) := ⟨⟨by decide +kernel, by decide +kernel⟩, List.mem_of_getElem? (i := 53) (by decide +kernel), List.mem_of_getElem? (i := 277) (by decide +kernel), List.mem_of_getElem? (i := 278) (by decide +kernel)⟩
theorem lw_p10 : lw_okq (⟨"WarmBeds$Inn", "open", "(I)V"⟩, 16) := ⟨⟨by decide +kernel, by decide +kernel⟩, List.mem_of_getElem? (i := 111) (by decide +kernel), List.mem_of_getElem? (i := 281) (by decide +kernel), List.mem_of_getElem? (i := 282) (by decide +kernel)⟩
theorem lw_p11 : lw_okq (⟨"WarmBeds$Inn", "leaveEmpty", "(I)V"⟩, 16) := ⟨⟨by decide +kernel, by decide +kernel⟩, List.mem_of_getElem? (i := 111) (by decide +kernel), List.mem_of_getElem? (i := 285) (by decide +kernel), List.mem_of_getElem? (i := 286) (by decide +kernel)⟩
theorem lw_p12 : lw_okq (⟨"WarmBeds$Inn", "live", "(LWarmBeds$Day;II)I"⟩, 16) := ⟨⟨by decide +kernel, by decide +kernel⟩, List.mem_of_getElem? (i := 111) (by decide +kernel), List.mem_of_getElem? (i := 289) (by decide +kernel), List.mem_of_getElem? (i := 290) (by decide +kernel)⟩
theorem lw_p13 : lw_okq (⟨"WarmBeds$Inn", "whyNot", "(I)I"⟩, 16) := ⟨⟨by decide +kernel, by decide +kernel⟩, List.mem_of_getElem? (i := 111) (by decide +kernel), List.mem_of_getElem? (i := 294) (by decide +kernel), List.mem_of_getElem? (i := 295) (by decide +kernel)⟩
theorem lw_p14 : lw_okq (⟨"WarmBeds$Inn", "isThere", "(I)Z"⟩, 16) := ⟨⟨by decide +kernel, by decide +kernel⟩, List.mem_of_getElem? (i := 111) (by decide +kernel), List.mem_of_getElem? (i := 299) (by decide +kernel), List.mem_of_getElem? (i := 300) (by decide +kernel)⟩
theorem lw_p15 : lw_okq (⟨"WarmBeds$Inn", "takeIn", "(I)V"⟩, 16) := ⟨⟨by decide +kernel, by decide +kernel⟩, List.mem_of_getElem? (i := 111) (by decide +kernel), List.mem_of_getElem? (i := 307) (by decide +kernel), List.mem_of_getElem? (i := 308) (by decide +kernel)⟩
def lw_privs_1 : List (MethodName × Nat) := [(⟨"WarmBeds$House", "furnish", "(I)V"⟩, 7), (⟨"WarmBeds", "isBed", "(I)Z"⟩, 8), (⟨"WarmBeds$House", "worthOf", "(II)I"⟩, 7), (⟨"WarmBeds$House", "setWorth", "(III)V"⟩, 7), (⟨"WarmBeds$Day", "isFull", "()Z"⟩, 2), (⟨"WarmBeds$Day", "write", "(I)V"⟩, 2), (⟨"WarmBeds$Day", "firstFault", "()I"⟩, 2), (⟨"WarmBeds$Day", "signAt", "(I)I"⟩, 2), (⟨"WarmBeds$Day", "isUntold", "(I)Z"⟩, 2), (⟨"WarmBeds$Day", "nextUntold", "(I)I"⟩, 2), (⟨"WarmBeds$Inn", "open", "(I)V"⟩, 16), (⟨"WarmBeds$Inn", "leaveEmpty", "(I)V"⟩, 16), (⟨"WarmBeds$Inn", "live", "(LWarmBeds$Day;II)I"⟩, 16), (⟨"WarmBeds$Inn", "whyNot", "(I)I"⟩, 16), (⟨"WarmBeds$Inn", "isThere", "(I)Z"⟩, 16), (⟨"WarmBeds$Inn", "takeIn", "(I)V"⟩, 16)]
theorem lw_r1 : ∀ q ∈ lw_privs_1, lw_okq q := List.forall_mem_cons.mpr ⟨lw_p0, List.forall_mem_cons.mpr ⟨lw_p1, List.forall_mem_cons.mpr ⟨lw_p2, List.forall_mem_cons.mpr ⟨lw_p3, List.forall_mem_cons.mpr ⟨lw_p4, List.forall_mem_cons.mpr ⟨lw_p5, List.forall_mem_cons.mpr ⟨lw_p6, List.forall_mem_cons.mpr ⟨lw_p7, List.forall_mem_cons.mpr ⟨lw_p8, List.forall_mem_cons.mpr ⟨lw_p9, List.forall_mem_cons.mpr ⟨lw_p10, List.forall_mem_cons.mpr ⟨lw_p11, List.forall_mem_cons.mpr ⟨lw_p12, List.forall_mem_cons.mpr ⟨lw_p13, List.forall_mem_cons.mpr ⟨lw_p14, List.forall_mem_cons.mpr ⟨lw_p15, fun _ h => absurd h List.not_mem_nil⟩⟩⟩⟩⟩⟩⟩⟩⟩⟩⟩⟩⟩⟩⟩⟩
theorem lw_p16 : lw_okq (⟨"WarmBeds$Inn", "choice", "(I)I"⟩, 16) := ⟨⟨by decide +kernel, by decide +kernel⟩, List.mem_of_getElem? (i := 111) (by decide +kernel), List.mem_of_getElem? (i := 311) (by decide +kernel), List.mem_of_getElem? (i := 312) (by decide +kernel)⟩
theorem lw_p17 : lw_okq (⟨"WarmBeds$Inn", "leastOfEmpty", "()I"⟩, 16) := ⟨⟨by decide +kernel, by decide +kernel⟩, List.mem_of_getElem? (i := 111) (by decide +kernel), List.mem_of_getElem? (i := 315) (by decide +kernel), List.mem_of_getElem? (i := 316) (by decide +kernel)⟩
theorem lw_p18 : lw_okq (⟨"WarmBeds$Inn", "dearestOfEmpty", "(I)I"⟩, 16) := ⟨⟨by decide +kernel, by decide +kernel⟩, List.mem_of_getElem? (i := 111) (by decide +kernel), List.mem_of_getElem? (i := 319) (by decide +kernel), List.mem_of_getElem? (i := 320) (by decide +kernel)⟩
theorem lw_p19 : lw_okq (⟨"WarmBeds$Inn", "waitInYard", "(I)V"⟩, 16) := ⟨⟨by decide +kernel, by decide +kernel⟩, List.mem_of_getElem? (i := 111) (by decide +kernel), List.mem_of_getElem? (i := 324) (by decide +kernel), List.mem_of_getElem? (i := 325) (by decide +kernel)⟩
theorem lw_p20 : lw_okq (⟨"WarmBeds$Inn", "takeFromEmpty", "(I)I"⟩, 16) := ⟨⟨by decide +kernel, by decide +kernel⟩, List.mem_of_getElem? (i := 111) (by decide +kernel), List.mem_of_getElem? (i := 328) (by decide +kernel), List.mem_of_getElem? (i := 329) (by decide +kernel)⟩
theorem lw_p21 : lw_okq (⟨"WarmBeds$Inn", "occupy", "(II)V"⟩, 16) := ⟨⟨by decide +kernel, by decide +kernel⟩, List.mem_of_getElem? (i := 111) (by decide +kernel), List.mem_of_getElem? (i := 332) (by decide +kernel), List.mem_of_getElem? (i := 333) (by decide +kernel)⟩
theorem lw_p22 : lw_okq (⟨"WarmBeds$Inn", "letGo", "(I)V"⟩, 16) := ⟨⟨by decide +kernel, by decide +kernel⟩, List.mem_of_getElem? (i := 111) (by decide +kernel), List.mem_of_getElem? (i := 336) (by decide +kernel), List.mem_of_getElem? (i := 337) (by decide +kernel)⟩
theorem lw_p23 : lw_okq (⟨"WarmBeds$Inn", "bedOf", "(I)I"⟩, 16) := ⟨⟨by decide +kernel, by decide +kernel⟩, List.mem_of_getElem? (i := 111) (by decide +kernel), List.mem_of_getElem? (i := 340) (by decide +kernel), List.mem_of_getElem? (i := 341) (by decide +kernel)⟩
theorem lw_p24 : lw_okq (⟨"WarmBeds$Inn", "leaveYard", "(I)V"⟩, 16) := ⟨⟨by decide +kernel, by decide +kernel⟩, List.mem_of_getElem? (i := 111) (by decide +kernel), List.mem_of_getElem? (i := 344) (by decide +kernel), List.mem_of_getElem? (i := 345) (by decide +kernel)⟩
theorem lw_p25 : lw_okq (⟨"WarmBeds$Inn", "clear", "(I)V"⟩, 16) := ⟨⟨by decide +kernel, by decide +kernel⟩, List.mem_of_getElem? (i := 111) (by decide +kernel), List.mem_of_getElem? (i := 348) (by decide +kernel), List.mem_of_getElem? (i := 349) (by decide +kernel)⟩
theorem lw_p26 : lw_okq (⟨"WarmBeds$Inn", "sleeperOf", "(I)I"⟩, 16) := ⟨⟨by decide +kernel, by decide +kernel⟩, List.mem_of_getElem? (i := 111) (by decide +kernel), List.mem_of_getElem? (i := 352) (by decide +kernel), List.mem_of_getElem? (i := 353) (by decide +kernel)⟩
theorem lw_p27 : lw_okq (⟨"WarmBeds$Inn", "passNight", "()V"⟩, 16) := ⟨⟨by decide +kernel, by decide +kernel⟩, List.mem_of_getElem? (i := 111) (by decide +kernel), List.mem_of_getElem? (i := 356) (by decide +kernel), List.mem_of_getElem? (i := 357) (by decide +kernel)⟩
theorem lw_p28 : lw_okq (⟨"WarmBeds$Inn", "shareFleas", "(II)V"⟩, 16) := ⟨⟨by decide +kernel, by decide +kernel⟩, List.mem_of_getElem? (i := 111) (by decide +kernel), List.mem_of_getElem? (i := 360) (by decide +kernel), List.mem_of_getElem? (i := 361) (by decide +kernel)⟩
theorem lw_p29 : lw_okq (⟨"WarmBeds", "isCountOfEvents", "(I)Z"⟩, 8) := ⟨⟨by decide +kernel, by decide +kernel⟩, List.mem_of_getElem? (i := 11) (by decide +kernel), List.mem_of_getElem? (i := 370) (by decide +kernel), List.mem_of_getElem? (i := 371) (by decide +kernel)⟩
theorem lw_p30 : lw_okq (⟨"WarmBeds", "liveThrough", "(I)I"⟩, 8) := ⟨⟨by decide +kernel, by decide +kernel⟩, List.mem_of_getElem? (i := 11) (by decide +kernel), List.mem_of_getElem? (i := 374) (by decide +kernel), List.mem_of_getElem? (i := 375) (by decide +kernel)⟩
theorem lw_p31 : lw_okq (⟨"WarmBeds$Inn", "emptyBed", "(I)I"⟩, 16) := ⟨⟨by decide +kernel, by decide +kernel⟩, List.mem_of_getElem? (i := 111) (by decide +kernel), List.mem_of_getElem? (i := 388) (by decide +kernel), List.mem_of_getElem? (i := 389) (by decide +kernel)⟩
def lw_privs_2 : List (MethodName × Nat) := [(⟨"WarmBeds$Inn", "choice", "(I)I"⟩, 16), (⟨"WarmBeds$Inn", "leastOfEmpty", "()I"⟩, 16), (⟨"WarmBeds$Inn", "dearestOfEmpty", "(I)I"⟩, 16), (⟨"WarmBeds$Inn", "waitInYard", "(I)V"⟩, 16), (⟨"WarmBeds$Inn", "takeFromEmpty", "(I)I"⟩, 16), (⟨"WarmBeds$Inn", "occupy", "(II)V"⟩, 16), (⟨"WarmBeds$Inn", "letGo", "(I)V"⟩, 16), (⟨"WarmBeds$Inn", "bedOf", "(I)I"⟩, 16), (⟨"WarmBeds$Inn", "leaveYard", "(I)V"⟩, 16), (⟨"WarmBeds$Inn", "clear", "(I)V"⟩, 16), (⟨"WarmBeds$Inn", "sleeperOf", "(I)I"⟩, 16), (⟨"WarmBeds$Inn", "passNight", "()V"⟩, 16), (⟨"WarmBeds$Inn", "shareFleas", "(II)V"⟩, 16), (⟨"WarmBeds", "isCountOfEvents", "(I)Z"⟩, 8), (⟨"WarmBeds", "liveThrough", "(I)I"⟩, 8), (⟨"WarmBeds$Inn", "emptyBed", "(I)I"⟩, 16)]
theorem lw_r2 : ∀ q ∈ lw_privs_2, lw_okq q := List.forall_mem_cons.mpr ⟨lw_p16, List.forall_mem_cons.mpr ⟨lw_p17, List.forall_mem_cons.mpr ⟨lw_p18, List.forall_mem_cons.mpr ⟨lw_p19, List.forall_mem_cons.mpr ⟨lw_p20, List.forall_mem_cons.mpr ⟨lw_p21, List.forall_mem_cons.mpr ⟨lw_p22, List.forall_mem_cons.mpr ⟨lw_p23, List.forall_mem_cons.mpr ⟨lw_p24, List.forall_mem_cons.mpr ⟨lw_p25, List.forall_mem_cons.mpr ⟨lw_p26, List.forall_mem_cons.mpr ⟨lw_p27, List.forall_mem_cons.mpr ⟨lw_p28, List.forall_mem_cons.mpr ⟨lw_p29, List.forall_mem_cons.mpr ⟨lw_p30, List.forall_mem_cons.mpr ⟨lw_p31, fun _ h => absurd h List.not_mem_nil⟩⟩⟩⟩⟩⟩⟩⟩⟩⟩⟩⟩⟩⟩⟩⟩
theorem lw_p32 : lw_okq (⟨"WarmBeds$Inn", "countOf", "(II)I"⟩, 16) := ⟨⟨by decide +kernel, by decide +kernel⟩, List.mem_of_getElem? (i := 111) (by decide +kernel), List.mem_of_getElem? (i := 396) (by decide +kernel), List.mem_of_getElem? (i := 397) (by decide +kernel)⟩
theorem lw_p33 : lw_okq (⟨"WarmBeds", "sheetsBy", "(I)I"⟩, 8) := ⟨⟨by decide +kernel, by decide +kernel⟩, List.mem_of_getElem? (i := 11) (by decide +kernel), List.mem_of_getElem? (i := 404) (by decide +kernel), List.mem_of_getElem? (i := 405) (by decide +kernel)⟩
theorem lw_p34 : lw_okq (⟨"WarmBeds$Inn", "allSheets", "()I"⟩, 16) := ⟨⟨by decide +kernel, by decide +kernel⟩, List.mem_of_getElem? (i := 111) (by decide +kernel), List.mem_of_getElem? (i := 408) (by decide +kernel), List.mem_of_getElem? (i := 409) (by decide +kernel)⟩
theorem lw_p35 : lw_okq (⟨"WarmBeds$Day", "names", "(I)Z"⟩, 2) := ⟨⟨by decide +kernel, by decide +kernel⟩, List.mem_of_getElem? (i := 53) (by decide +kernel), List.mem_of_getElem? (i := 416) (by decide +kernel), List.mem_of_getElem? (i := 417) (by decide +kernel)⟩
theorem lw_p36 : lw_okq (⟨"WarmBeds", "refusalOfComing", "(I)I"⟩, 8) := ⟨⟨by decide +kernel, by decide +kernel⟩, List.mem_of_getElem? (i := 11) (by decide +kernel), List.mem_of_getElem? (i := 420) (by decide +kernel), List.mem_of_getElem? (i := 421) (by decide +kernel)⟩
theorem lw_p37 : lw_okq (⟨"WarmBeds", "tryAllPlaces", "(I)V"⟩, 8) := ⟨⟨by decide +kernel, by decide +kernel⟩, List.mem_of_getElem? (i := 11) (by decide +kernel), List.mem_of_getElem? (i := 424) (by decide +kernel), List.mem_of_getElem? (i := 425) (by decide +kernel)⟩
theorem lw_p38 : lw_okq (⟨"WarmBeds$Inn", "standAs", "(LWarmBeds$Inn;)V"⟩, 16) := ⟨⟨by decide +kernel, by decide +kernel⟩, List.mem_of_getElem? (i := 111) (by decide +kernel), List.mem_of_getElem? (i := 428) (by decide +kernel), List.mem_of_getElem? (i := 429) (by decide +kernel)⟩
theorem lw_p39 : lw_okq (⟨"WarmBeds", "bedComingAt", "(I)I"⟩, 8) := ⟨⟨by decide +kernel, by decide +kernel⟩, List.mem_of_getElem? (i := 11) (by decide +kernel), List.mem_of_getElem? (i := 436) (by decide +kernel), List.mem_of_getElem? (i := 437) (by decide +kernel)⟩
theorem lw_p40 : lw_okq (⟨"WarmBeds", "worthComingAt", "(II)I"⟩, 8) := ⟨⟨by decide +kernel, by decide +kernel⟩, List.mem_of_getElem? (i := 11) (by decide +kernel), List.mem_of_getElem? (i := 444) (by decide +kernel), List.mem_of_getElem? (i := 445) (by decide +kernel)⟩
theorem lw_p41 : lw_okq (⟨"WarmBeds$Party", "order", "(LWarmBeds$Inn;I)V"⟩, 4) := ⟨⟨by decide +kernel, by decide +kernel⟩, List.mem_of_getElem? (i := 68) (by decide +kernel), List.mem_of_getElem? (i := 462) (by decide +kernel), List.mem_of_getElem? (i := 463) (by decide +kernel)⟩
theorem lw_p42 : lw_okq (⟨"WarmBeds$Party", "keepIfBetter", "(I)V"⟩, 4) := ⟨⟨by decide +kernel, by decide +kernel⟩, List.mem_of_getElem? (i := 68) (by decide +kernel), List.mem_of_getElem? (i := 470) (by decide +kernel), List.mem_of_getElem? (i := 471) (by decide +kernel)⟩
theorem lw_p43 : lw_okq (⟨"WarmBeds$Party", "guestAt", "(I)I"⟩, 4) := ⟨⟨by decide +kernel, by decide +kernel⟩, List.mem_of_getElem? (i := 68) (by decide +kernel), List.mem_of_getElem? (i := 479) (by decide +kernel), List.mem_of_getElem? (i := 480) (by decide +kernel)⟩
theorem lw_p44 : lw_okq (⟨"WarmBeds", "spreadFrom", "(I)V"⟩, 8) := ⟨⟨by decide +kernel, by decide +kernel⟩, List.mem_of_getElem? (i := 11) (by decide +kernel), List.mem_of_getElem? (i := 487) (by decide +kernel), List.mem_of_getElem? (i := 488) (by decide +kernel)⟩
theorem lw_p45 : lw_okq (⟨"WarmBeds$Inn", "infest", "(I)V"⟩, 16) := ⟨⟨by decide +kernel, by decide +kernel⟩, List.mem_of_getElem? (i := 111) (by decide +kernel), List.mem_of_getElem? (i := 491) (by decide +kernel), List.mem_of_getElem? (i := 492) (by decide +kernel)⟩
theorem lw_p46 : lw_okq (⟨"WarmBeds$House", "addSight", "(II)V"⟩, 7) := ⟨⟨by decide +kernel, by decide +kernel⟩, List.mem_of_getElem? (i := 19) (by decide +kernel), List.mem_of_getElem? (i := 503) (by decide +kernel), List.mem_of_getElem? (i := 504) (by decide +kernel)⟩
theorem lw_p47 : lw_okq (⟨"WarmBeds$Guesses", "search", "(LWarmBeds$Inn;LWarmBeds$Day;LWarmBeds$House;)V"⟩, 5) := ⟨⟨by decide +kernel, by decide +kernel⟩, List.mem_of_getElem? (i := 88) (by decide +kernel), List.mem_of_getElem? (i := 515) (by decide +kernel), List.mem_of_getElem? (i := 516) (by decide +kernel)⟩
def lw_privs_3 : List (MethodName × Nat) := [(⟨"WarmBeds$Inn", "countOf", "(II)I"⟩, 16), (⟨"WarmBeds", "sheetsBy", "(I)I"⟩, 8), (⟨"WarmBeds$Inn", "allSheets", "()I"⟩, 16), (⟨"WarmBeds$Day", "names", "(I)Z"⟩, 2), (⟨"WarmBeds", "refusalOfComing", "(I)I"⟩, 8), (⟨"WarmBeds", "tryAllPlaces", "(I)V"⟩, 8), (⟨"WarmBeds$Inn", "standAs", "(LWarmBeds$Inn;)V"⟩, 16), (⟨"WarmBeds", "bedComingAt", "(I)I"⟩, 8), (⟨"WarmBeds", "worthComingAt", "(II)I"⟩, 8), (⟨"WarmBeds$Party", "order", "(LWarmBeds$Inn;I)V"⟩, 4), (⟨"WarmBeds$Party", "keepIfBetter", "(I)V"⟩, 4), (⟨"WarmBeds$Party", "guestAt", "(I)I"⟩, 4), (⟨"WarmBeds", "spreadFrom", "(I)V"⟩, 8), (⟨"WarmBeds$Inn", "infest", "(I)V"⟩, 16), (⟨"WarmBeds$House", "addSight", "(II)V"⟩, 7), (⟨"WarmBeds$Guesses", "search", "(LWarmBeds$Inn;LWarmBeds$Day;LWarmBeds$House;)V"⟩, 5)]
theorem lw_r3 : ∀ q ∈ lw_privs_3, lw_okq q := List.forall_mem_cons.mpr ⟨lw_p32, List.forall_mem_cons.mpr ⟨lw_p33, List.forall_mem_cons.mpr ⟨lw_p34, List.forall_mem_cons.mpr ⟨lw_p35, List.forall_mem_cons.mpr ⟨lw_p36, List.forall_mem_cons.mpr ⟨lw_p37, List.forall_mem_cons.mpr ⟨lw_p38, List.forall_mem_cons.mpr ⟨lw_p39, List.forall_mem_cons.mpr ⟨lw_p40, List.forall_mem_cons.mpr ⟨lw_p41, List.forall_mem_cons.mpr ⟨lw_p42, List.forall_mem_cons.mpr ⟨lw_p43, List.forall_mem_cons.mpr ⟨lw_p44, List.forall_mem_cons.mpr ⟨lw_p45, List.forall_mem_cons.mpr ⟨lw_p46, List.forall_mem_cons.mpr ⟨lw_p47, fun _ h => absurd h List.not_mem_nil⟩⟩⟩⟩⟩⟩⟩⟩⟩⟩⟩⟩⟩⟩⟩⟩
theorem lw_p48 : lw_okq (⟨"WarmBeds$Guesses", "keepIfSeen", "(LWarmBeds$Inn;)V"⟩, 5) := ⟨⟨by decide +kernel, by decide +kernel⟩, List.mem_of_getElem? (i := 88) (by decide +kernel), List.mem_of_getElem? (i := 526) (by decide +kernel), List.mem_of_getElem? (i := 527) (by decide +kernel)⟩
theorem lw_p49 : lw_okq (⟨"WarmBeds$House", "allSightsHold", "(LWarmBeds$Inn;)Z"⟩, 7) := ⟨⟨by decide +kernel, by decide +kernel⟩, List.mem_of_getElem? (i := 19) (by decide +kernel), List.mem_of_getElem? (i := 530) (by decide +kernel), List.mem_of_getElem? (i := 531) (by decide +kernel)⟩
theorem lw_p50 : lw_okq (⟨"WarmBeds$Guesses", "firstAt", "(I)I"⟩, 5) := ⟨⟨by decide +kernel, by decide +kernel⟩, List.mem_of_getElem? (i := 88) (by decide +kernel), List.mem_of_getElem? (i := 539) (by decide +kernel), List.mem_of_getElem? (i := 540) (by decide +kernel)⟩
theorem lw_p51 : lw_okq (⟨"WarmBeds$Guesses", "isUntold", "(I)Z"⟩, 5) := ⟨⟨by decide +kernel, by decide +kernel⟩, List.mem_of_getElem? (i := 88) (by decide +kernel), List.mem_of_getElem? (i := 543) (by decide +kernel), List.mem_of_getElem? (i := 544) (by decide +kernel)⟩
theorem lw_p52 : lw_okq (⟨"WarmBeds$Guesses", "suspectsAt", "(I)I"⟩, 5) := ⟨⟨by decide +kernel, by decide +kernel⟩, List.mem_of_getElem? (i := 88) (by decide +kernel), List.mem_of_getElem? (i := 551) (by decide +kernel), List.mem_of_getElem? (i := 552) (by decide +kernel)⟩
theorem lw_p53 : lw_okq (⟨"WarmBeds$Inn", "emptyLeastBed", "()V"⟩, 16) := ⟨⟨by decide +kernel, by decide +kernel⟩, List.mem_of_getElem? (i := 111) (by decide +kernel), List.mem_of_getElem? (i := 565) (by decide +kernel), List.mem_of_getElem? (i := 566) (by decide +kernel)⟩
theorem lw_p54 : lw_okq (⟨"WarmBeds$Inn", "timesUsed", "(I)I"⟩, 16) := ⟨⟨by decide +kernel, by decide +kernel⟩, List.mem_of_getElem? (i := 111) (by decide +kernel), List.mem_of_getElem? (i := 582) (by decide +kernel), List.mem_of_getElem? (i := 583) (by decide +kernel)⟩
theorem lw_p55 : lw_okq (⟨"WarmBeds$House", "copy", "(LWarmBeds$House;)V"⟩, 7) := ⟨⟨by decide +kernel, by decide +kernel⟩, List.mem_of_getElem? (i := 19) (by decide +kernel), List.mem_of_getElem? (i := 590) (by decide +kernel), List.mem_of_getElem? (i := 591) (by decide +kernel)⟩
theorem lw_p56 : lw_okq (⟨"WarmBeds", "worthTold", "(I)I"⟩, 8) := ⟨⟨by decide +kernel, by decide +kernel⟩, List.mem_of_getElem? (i := 11) (by decide +kernel), List.mem_of_getElem? (i := 603) (by decide +kernel), List.mem_of_getElem? (i := 604) (by decide +kernel)⟩
theorem lw_p57 : lw_okq (⟨"WarmBedsModel", "isBed", "(I)Z"⟩, 23) := ⟨⟨by decide +kernel, by decide +kernel⟩, List.mem_of_getElem? (i := 607) (by decide +kernel), List.mem_of_getElem? (i := 698) (by decide +kernel), List.mem_of_getElem? (i := 699) (by decide +kernel)⟩
theorem lw_p58 : lw_okq (⟨"WarmBedsModel", "faultOf", "()I"⟩, 23) := ⟨⟨by decide +kernel, by decide +kernel⟩, List.mem_of_getElem? (i := 607) (by decide +kernel), List.mem_of_getElem? (i := 718) (by decide +kernel), List.mem_of_getElem? (i := 719) (by decide +kernel)⟩
theorem lw_p59 : lw_okq (⟨"WarmBedsModel", "opens", "(I)I"⟩, 23) := ⟨⟨by decide +kernel, by decide +kernel⟩, List.mem_of_getElem? (i := 607) (by decide +kernel), List.mem_of_getElem? (i := 726) (by decide +kernel), List.mem_of_getElem? (i := 727) (by decide +kernel)⟩
theorem lw_p60 : lw_okq (⟨"WarmBedsModel", "go", "(IIII)I"⟩, 23) := ⟨⟨by decide +kernel, by decide +kernel⟩, List.mem_of_getElem? (i := 607) (by decide +kernel), List.mem_of_getElem? (i := 730) (by decide +kernel), List.mem_of_getElem? (i := 731) (by decide +kernel)⟩
theorem lw_p61 : lw_okq (⟨"WarmBedsModel", "begin", "()V"⟩, 23) := ⟨⟨by decide +kernel, by decide +kernel⟩, List.mem_of_getElem? (i := 607) (by decide +kernel), List.mem_of_getElem? (i := 734) (by decide +kernel), List.mem_of_getElem? (i := 735) (by decide +kernel)⟩
theorem lw_p62 : lw_okq (⟨"WarmBedsModel", "happen", "(I)I"⟩, 23) := ⟨⟨by decide +kernel, by decide +kernel⟩, List.mem_of_getElem? (i := 607) (by decide +kernel), List.mem_of_getElem? (i := 738) (by decide +kernel), List.mem_of_getElem? (i := 739) (by decide +kernel)⟩
theorem lw_p63 : lw_okq (⟨"WarmBedsModel", "pass", "()V"⟩, 23) := ⟨⟨by decide +kernel, by decide +kernel⟩, List.mem_of_getElem? (i := 607) (by decide +kernel), List.mem_of_getElem? (i := 742) (by decide +kernel), List.mem_of_getElem? (i := 743) (by decide +kernel)⟩
def lw_privs_4 : List (MethodName × Nat) := [(⟨"WarmBeds$Guesses", "keepIfSeen", "(LWarmBeds$Inn;)V"⟩, 5), (⟨"WarmBeds$House", "allSightsHold", "(LWarmBeds$Inn;)Z"⟩, 7), (⟨"WarmBeds$Guesses", "firstAt", "(I)I"⟩, 5), (⟨"WarmBeds$Guesses", "isUntold", "(I)Z"⟩, 5), (⟨"WarmBeds$Guesses", "suspectsAt", "(I)I"⟩, 5), (⟨"WarmBeds$Inn", "emptyLeastBed", "()V"⟩, 16), (⟨"WarmBeds$Inn", "timesUsed", "(I)I"⟩, 16), (⟨"WarmBeds$House", "copy", "(LWarmBeds$House;)V"⟩, 7), (⟨"WarmBeds", "worthTold", "(I)I"⟩, 8), (⟨"WarmBedsModel", "isBed", "(I)Z"⟩, 23), (⟨"WarmBedsModel", "faultOf", "()I"⟩, 23), (⟨"WarmBedsModel", "opens", "(I)I"⟩, 23), (⟨"WarmBedsModel", "go", "(IIII)I"⟩, 23), (⟨"WarmBedsModel", "begin", "()V"⟩, 23), (⟨"WarmBedsModel", "happen", "(I)I"⟩, 23), (⟨"WarmBedsModel", "pass", "()V"⟩, 23)]
theorem lw_r4 : ∀ q ∈ lw_privs_4, lw_okq q := List.forall_mem_cons.mpr ⟨lw_p48, List.forall_mem_cons.mpr ⟨lw_p49, List.forall_mem_cons.mpr ⟨lw_p50, List.forall_mem_cons.mpr ⟨lw_p51, List.forall_mem_cons.mpr ⟨lw_p52, List.forall_mem_cons.mpr ⟨lw_p53, List.forall_mem_cons.mpr ⟨lw_p54, List.forall_mem_cons.mpr ⟨lw_p55, List.forall_mem_cons.mpr ⟨lw_p56, List.forall_mem_cons.mpr ⟨lw_p57, List.forall_mem_cons.mpr ⟨lw_p58, List.forall_mem_cons.mpr ⟨lw_p59, List.forall_mem_cons.mpr ⟨lw_p60, List.forall_mem_cons.mpr ⟨lw_p61, List.forall_mem_cons.mpr ⟨lw_p62, List.forall_mem_cons.mpr ⟨lw_p63, fun _ h => absurd h List.not_mem_nil⟩⟩⟩⟩⟩⟩⟩⟩⟩⟩⟩⟩⟩⟩⟩⟩
theorem lw_p64 : lw_okq (⟨"WarmBedsModel", "isThere", "(I)Z"⟩, 23) := ⟨⟨by decide +kernel, by decide +kernel⟩, List.mem_of_getElem? (i := 607) (by decide +kernel), List.mem_of_getElem? (i := 749) (by decide +kernel), List.mem_of_getElem? (i := 750) (by decide +kernel)⟩
theorem lw_p65 : lw_okq (⟨"WarmBedsModel", "bedOf", "(I)I"⟩, 23) := ⟨⟨by decide +kernel, by decide +kernel⟩, List.mem_of_getElem? (i := 607) (by decide +kernel), List.mem_of_getElem? (i := 753) (by decide +kernel), List.mem_of_getElem? (i := 754) (by decide +kernel)⟩
theorem lw_p66 : lw_okq (⟨"WarmBedsModel", "isWaiting", "(I)Z"⟩, 23) := ⟨⟨by decide +kernel, by decide +kernel⟩, List.mem_of_getElem? (i := 607) (by decide +kernel), List.mem_of_getElem? (i := 757) (by decide +kernel), List.mem_of_getElem? (i := 758) (by decide +kernel)⟩
theorem lw_p67 : lw_okq (⟨"WarmBedsModel", "comeIn", "(I)V"⟩, 23) := ⟨⟨by decide +kernel, by decide +kernel⟩, List.mem_of_getElem? (i := 607) (by decide +kernel), List.mem_of_getElem? (i := 761) (by decide +kernel), List.mem_of_getElem? (i := 762) (by decide +kernel)⟩
theorem lw_p68 : lw_okq (⟨"WarmBedsModel", "chosen", "(I)I"⟩, 23) := ⟨⟨by decide +kernel, by decide +kernel⟩, List.mem_of_getElem? (i := 607) (by decide +kernel), List.mem_of_getElem? (i := 765) (by decide +kernel), List.mem_of_getElem? (i := 766) (by decide +kernel)⟩
theorem lw_p69 : lw_okq (⟨"WarmBedsModel", "worthTo", "(II)I"⟩, 23) := ⟨⟨by decide +kernel, by decide +kernel⟩, List.mem_of_getElem? (i := 607) (by decide +kernel), List.mem_of_getElem? (i := 769) (by decide +kernel), List.mem_of_getElem? (i := 770) (by decide +kernel)⟩
theorem lw_p70 : lw_okq (⟨"WarmBedsModel", "take", "(II)V"⟩, 23) := ⟨⟨by decide +kernel, by decide +kernel⟩, List.mem_of_getElem? (i := 607) (by decide +kernel), List.mem_of_getElem? (i := 773) (by decide +kernel), List.mem_of_getElem? (i := 774) (by decide +kernel)⟩
theorem lw_p71 : lw_okq (⟨"WarmBedsModel", "goOut", "(I)V"⟩, 23) := ⟨⟨by decide +kernel, by decide +kernel⟩, List.mem_of_getElem? (i := 607) (by decide +kernel), List.mem_of_getElem? (i := 777) (by decide +kernel), List.mem_of_getElem? (i := 778) (by decide +kernel)⟩
theorem lw_p72 : lw_okq (⟨"WarmBedsModel", "outOfYard", "(I)V"⟩, 23) := ⟨⟨by decide +kernel, by decide +kernel⟩, List.mem_of_getElem? (i := 607) (by decide +kernel), List.mem_of_getElem? (i := 781) (by decide +kernel), List.mem_of_getElem? (i := 782) (by decide +kernel)⟩
theorem lw_p73 : lw_okq (⟨"WarmBedsModel", "eventOf", "(I)I"⟩, 23) := ⟨⟨by decide +kernel, by decide +kernel⟩, List.mem_of_getElem? (i := 607) (by decide +kernel), List.mem_of_getElem? (i := 785) (by decide +kernel), List.mem_of_getElem? (i := 786) (by decide +kernel)⟩
theorem lw_p74 : lw_okq (⟨"WarmBedsModel", "barOf", "(I)I"⟩, 23) := ⟨⟨by decide +kernel, by decide +kernel⟩, List.mem_of_getElem? (i := 607) (by decide +kernel), List.mem_of_getElem? (i := 793) (by decide +kernel), List.mem_of_getElem? (i := 794) (by decide +kernel)⟩
theorem lw_p75 : lw_okq (⟨"WarmBedsModel", "isInDay", "(I)Z"⟩, 23) := ⟨⟨by decide +kernel, by decide +kernel⟩, List.mem_of_getElem? (i := 607) (by decide +kernel), List.mem_of_getElem? (i := 817) (by decide +kernel), List.mem_of_getElem? (i := 818) (by decide +kernel)⟩
theorem lw_p76 : lw_okq (⟨"WarmBedsModel", "barOfComing", "()I"⟩, 23) := ⟨⟨by decide +kernel, by decide +kernel⟩, List.mem_of_getElem? (i := 607) (by decide +kernel), List.mem_of_getElem? (i := 821) (by decide +kernel), List.mem_of_getElem? (i := 822) (by decide +kernel)⟩
theorem lw_p77 : lw_okq (⟨"WarmBedsModel", "nextRow", "(I)Z"⟩, 23) := ⟨⟨by decide +kernel, by decide +kernel⟩, List.mem_of_getElem? (i := 607) (by decide +kernel), List.mem_of_getElem? (i := 837) (by decide +kernel), List.mem_of_getElem? (i := 838) (by decide +kernel)⟩
theorem lw_p78 : lw_okq (⟨"WarmBedsModel", "change", "(II)V"⟩, 23) := ⟨⟨by decide +kernel, by decide +kernel⟩, List.mem_of_getElem? (i := 607) (by decide +kernel), List.mem_of_getElem? (i := 841) (by decide +kernel), List.mem_of_getElem? (i := 842) (by decide +kernel)⟩
theorem lw_p79 : lw_okq (⟨"WarmBedsModel", "layFleas", "(II)I"⟩, 23) := ⟨⟨by decide +kernel, by decide +kernel⟩, List.mem_of_getElem? (i := 607) (by decide +kernel), List.mem_of_getElem? (i := 849) (by decide +kernel), List.mem_of_getElem? (i := 850) (by decide +kernel)⟩
def lw_privs_5 : List (MethodName × Nat) := [(⟨"WarmBedsModel", "isThere", "(I)Z"⟩, 23), (⟨"WarmBedsModel", "bedOf", "(I)I"⟩, 23), (⟨"WarmBedsModel", "isWaiting", "(I)Z"⟩, 23), (⟨"WarmBedsModel", "comeIn", "(I)V"⟩, 23), (⟨"WarmBedsModel", "chosen", "(I)I"⟩, 23), (⟨"WarmBedsModel", "worthTo", "(II)I"⟩, 23), (⟨"WarmBedsModel", "take", "(II)V"⟩, 23), (⟨"WarmBedsModel", "goOut", "(I)V"⟩, 23), (⟨"WarmBedsModel", "outOfYard", "(I)V"⟩, 23), (⟨"WarmBedsModel", "eventOf", "(I)I"⟩, 23), (⟨"WarmBedsModel", "barOf", "(I)I"⟩, 23), (⟨"WarmBedsModel", "isInDay", "(I)Z"⟩, 23), (⟨"WarmBedsModel", "barOfComing", "()I"⟩, 23), (⟨"WarmBedsModel", "nextRow", "(I)Z"⟩, 23), (⟨"WarmBedsModel", "change", "(II)V"⟩, 23), (⟨"WarmBedsModel", "layFleas", "(II)I"⟩, 23)]
theorem lw_r5 : ∀ q ∈ lw_privs_5, lw_okq q := List.forall_mem_cons.mpr ⟨lw_p64, List.forall_mem_cons.mpr ⟨lw_p65, List.forall_mem_cons.mpr ⟨lw_p66, List.forall_mem_cons.mpr ⟨lw_p67, List.forall_mem_cons.mpr ⟨lw_p68, List.forall_mem_cons.mpr ⟨lw_p69, List.forall_mem_cons.mpr ⟨lw_p70, List.forall_mem_cons.mpr ⟨lw_p71, List.forall_mem_cons.mpr ⟨lw_p72, List.forall_mem_cons.mpr ⟨lw_p73, List.forall_mem_cons.mpr ⟨lw_p74, List.forall_mem_cons.mpr ⟨lw_p75, List.forall_mem_cons.mpr ⟨lw_p76, List.forall_mem_cons.mpr ⟨lw_p77, List.forall_mem_cons.mpr ⟨lw_p78, List.forall_mem_cons.mpr ⟨lw_p79, fun _ h => absurd h List.not_mem_nil⟩⟩⟩⟩⟩⟩⟩⟩⟩⟩⟩⟩⟩⟩⟩⟩
theorem lw_p80 : lw_okq (⟨"WarmBedsModel", "codes", "()I"⟩, 23) := ⟨⟨by decide +kernel, by decide +kernel⟩, List.mem_of_getElem? (i := 607) (by decide +kernel), List.mem_of_getElem? (i := 869) (by decide +kernel), List.mem_of_getElem? (i := 870) (by decide +kernel)⟩
theorem lw_p81 : lw_okq (⟨"WarmBedsModel", "isFit", "(I)Z"⟩, 23) := ⟨⟨by decide +kernel, by decide +kernel⟩, List.mem_of_getElem? (i := 607) (by decide +kernel), List.mem_of_getElem? (i := 873) (by decide +kernel), List.mem_of_getElem? (i := 874) (by decide +kernel)⟩
theorem lw_p82 : lw_okq (⟨"WarmBedsModel", "guestAt", "(II)I"⟩, 23) := ⟨⟨by decide +kernel, by decide +kernel⟩, List.mem_of_getElem? (i := 607) (by decide +kernel), List.mem_of_getElem? (i := 877) (by decide +kernel), List.mem_of_getElem? (i := 878) (by decide +kernel)⟩
def lw_privs_6 : List (MethodName × Nat) := [(⟨"WarmBedsModel", "codes", "()I"⟩, 23), (⟨"WarmBedsModel", "isFit", "(I)Z"⟩, 23), (⟨"WarmBedsModel", "guestAt", "(II)I"⟩, 23)]
theorem lw_r6 : ∀ q ∈ lw_privs_6, lw_okq q := List.forall_mem_cons.mpr ⟨lw_p80, List.forall_mem_cons.mpr ⟨lw_p81, List.forall_mem_cons.mpr ⟨lw_p82, fun _ h => absurd h List.not_mem_nil⟩⟩⟩
def lw_privs : List (MethodName × Nat) := lw_privs_1 ++ (lw_privs_2 ++ (lw_privs_3 ++ (lw_privs_4 ++ (lw_privs_5 ++ (lw_privs_6)))))
def lw_tbl : List Cond := k2_sels lw_privs ++ tables_1
theorem lw_privs_ok : ∀ q ∈ lw_privs, lw_okq q := by
  show ∀ q ∈ lw_privs_1 ++ (lw_privs_2 ++ (lw_privs_3 ++ (lw_privs_4 ++ (lw_privs_5 ++ (lw_privs_6))))), lw_okq q
  exact List.forall_mem_append.mpr ⟨lw_r1, List.forall_mem_append.mpr ⟨lw_r2, List.forall_mem_append.mpr ⟨lw_r3, List.forall_mem_append.mpr ⟨lw_r4, List.forall_mem_append.mpr ⟨lw_r5, lw_r6⟩⟩⟩⟩⟩

theorem goodIn_sub {big ws : List Cond} (hm : ∀ w ∈ ws, w ∈ big) (h : ws.all goodWord = true) : GoodIn big ws := fun w hw => ⟨hm w hw, good_of_word (List.all_eq_true.mp h w hw)⟩
def RX0 : String := "WarmBeds$Day"
def TX0 : u_T := fun k => match k with
  | 0 => ("WarmBeds$Day", "length", "I", false)
  | _ => ("WarmBeds$Day", "signs", "[I", true)
def tyX0 : Nat → FieldType := fun k => match k with
  | 0 => .int
  | _ => .array .int
abbrev wsX00 : List Cond := u_ws RX0 TX0 2
theorem nmX0 : ∀ a, a < 2 → ∀ b, b < 2 → a ≠ b → (TX0 a).2.1 ≠ (TX0 b).2.1 := by decide +kernel
theorem tyX0_ok : ∀ k, k < 2 → parseFieldDescriptor (TX0 k).2.2.1 = some (tyX0 k) := by decide +kernel
abbrev cX0_init : ByteArray := prog_2_method_1_code
def yX0_init : MethodName := ⟨RX0, "<init>", "()V"⟩
abbrev cX0_isFull : ByteArray := prog_2_method_2_code
def yX0_isFull : MethodName := ⟨RX0, "isFull", "()Z"⟩
abbrev cX0_write : ByteArray := prog_2_method_3_code
def yX0_write : MethodName := ⟨RX0, "write", "(I)V"⟩
abbrev cX0_signAt : ByteArray := prog_2_method_4_code
def yX0_signAt : MethodName := ⟨RX0, "signAt", "(I)I"⟩
abbrev cX0_firstFault : ByteArray := prog_2_method_5_code
def yX0_firstFault : MethodName := ⟨RX0, "firstFault", "()I"⟩
abbrev cX0_isUntold : ByteArray := prog_2_method_6_code
def yX0_isUntold : MethodName := ⟨RX0, "isUntold", "(I)Z"⟩
abbrev cX0_nextUntold : ByteArray := prog_2_method_7_code
def yX0_nextUntold : MethodName := ⟨RX0, "nextUntold", "(I)I"⟩
abbrev cX0_names : ByteArray := prog_2_method_8_code
def yX0_names : MethodName := ⟨RX0, "names", "(I)Z"⟩
abbrev cX0_isComing : ByteArray := prog_2_method_9_code
def yX0_isComing : MethodName := ⟨RX0, "isComing", "(I)Z"⟩
abbrev cX0_isGoing : ByteArray := prog_2_method_10_code
def yX0_isGoing : MethodName := ⟨RX0, "isGoing", "(I)Z"⟩
def RX1 : String := "WarmBeds$Guesses"
def TX1 : u_T := fun k => match k with
  | 0 => ("WarmBeds$Guesses", "ways", "I", false)
  | 1 => ("WarmBeds$Guesses", "untold", "I", false)
  | 2 => ("WarmBeds$Guesses", "trial", "[I", true)
  | 3 => ("WarmBeds$Guesses", "first", "[I", true)
  | _ => ("WarmBeds$Guesses", "suspects", "[I", true)
def tyX1 : Nat → FieldType := fun k => match k with
  | 0 => .int
  | 1 => .int
  | 2 => .array .int
  | 3 => .array .int
  | _ => .array .int
abbrev wsX10 : List Cond := u_ws RX1 TX1 5
theorem nmX1 : ∀ a, a < 5 → ∀ b, b < 5 → a ≠ b → (TX1 a).2.1 ≠ (TX1 b).2.1 := by decide +kernel
theorem tyX1_ok : ∀ k, k < 5 → parseFieldDescriptor (TX1 k).2.2.1 = some (tyX1 k) := by decide +kernel
abbrev cX1_init : ByteArray := prog_3_method_1_code
def yX1_init : MethodName := ⟨RX1, "<init>", "()V"⟩
abbrev cX1_search : ByteArray := prog_3_method_2_code
def yX1_search : MethodName := ⟨RX1, "search", "(LWarmBeds$Inn;LWarmBeds$Day;LWarmBeds$House;)V"⟩
abbrev cX1_fillFrom : ByteArray := prog_3_method_3_code
def yX1_fillFrom : MethodName := ⟨RX1, "fillFrom", "(LWarmBeds$Guesses;LWarmBeds$Inn;LWarmBeds$Day;II)V"⟩
abbrev cX1_keepIfSeen : ByteArray := prog_3_method_4_code
def yX1_keepIfSeen : MethodName := ⟨RX1, "keepIfSeen", "(LWarmBeds$Inn;)V"⟩
abbrev cX1_isUntold : ByteArray := prog_3_method_5_code
def yX1_isUntold : MethodName := ⟨RX1, "isUntold", "(I)Z"⟩
abbrev cX1_firstAt : ByteArray := prog_3_method_6_code
def yX1_firstAt : MethodName := ⟨RX1, "firstAt", "(I)I"⟩
abbrev cX1_suspectsAt : ByteArray := prog_3_method_7_code
def yX1_suspectsAt : MethodName := ⟨RX1, "suspectsAt", "(I)I"⟩
def RX2 : String := "WarmBeds$House"
def TX2 : u_T := fun k => match k with
  | 0 => ("WarmBeds$House", "beds", "I", false)
  | 1 => ("WarmBeds$House", "law", "I", false)
  | 2 => ("WarmBeds$House", "sights", "I", false)
  | 3 => ("WarmBeds$House", "isKept", "Z", false)
  | 4 => ("WarmBeds$House", "worths", "[I", true)
  | 5 => ("WarmBeds$House", "sightGuests", "[I", true)
  | _ => ("WarmBeds$House", "sightBeds", "[I", true)
def tyX2 : Nat → FieldType := fun k => match k with
  | 0 => .int
  | 1 => .int
  | 2 => .int
  | 3 => .boolean
  | 4 => .array .int
  | 5 => .array .int
  | _ => .array .int
abbrev wsX20 : List Cond := u_ws RX2 TX2 7
theorem nmX2 : ∀ a, a < 7 → ∀ b, b < 7 → a ≠ b → (TX2 a).2.1 ≠ (TX2 b).2.1 := by decide +kernel
theorem tyX2_ok : ∀ k, k < 7 → parseFieldDescriptor (TX2 k).2.2.1 = some (tyX2 k) := by decide +kernel
abbrev cX2_init : ByteArray := prog_4_method_1_code
def yX2_init : MethodName := ⟨RX2, "<init>", "()V"⟩
abbrev cX2_furnish : ByteArray := prog_4_method_2_code
def yX2_furnish : MethodName := ⟨RX2, "furnish", "(I)V"⟩
abbrev cX2_worthOf : ByteArray := prog_4_method_3_code
def yX2_worthOf : MethodName := ⟨RX2, "worthOf", "(II)I"⟩
abbrev cX2_setWorth : ByteArray := prog_4_method_4_code
def yX2_setWorth : MethodName := ⟨RX2, "setWorth", "(III)V"⟩
abbrev cX2_addSight : ByteArray := prog_4_method_5_code
def yX2_addSight : MethodName := ⟨RX2, "addSight", "(II)V"⟩
abbrev cX2_allSightsHold : ByteArray := prog_4_method_6_code
def yX2_allSightsHold : MethodName := ⟨RX2, "allSightsHold", "(LWarmBeds$Inn;)Z"⟩
abbrev cX2_copy : ByteArray := prog_4_method_7_code
def yX2_copy : MethodName := ⟨RX2, "copy", "(LWarmBeds$House;)V"⟩
def RX3 : String := "WarmBeds$Inn"
def TX3 : u_T := fun k => match k with
  | 0 => ("WarmBeds$Inn", "house", "LWarmBeds$House;", true)
  | 1 => ("WarmBeds$Inn", "deeper", "LWarmBeds$Inn;", true)
  | 2 => ("WarmBeds$Inn", "law", "I", false)
  | 3 => ("WarmBeds$Inn", "there", "I", false)
  | 4 => ("WarmBeds$Inn", "sleepers", "[I", true)
  | 5 => ("WarmBeds$Inn", "empty", "[I", true)
  | 6 => ("WarmBeds$Inn", "empties", "I", false)
  | 7 => ("WarmBeds$Inn", "yard", "[I", true)
  | 8 => ("WarmBeds$Inn", "waiting", "I", false)
  | 9 => ("WarmBeds$Inn", "nights", "[I", true)
  | 10 => ("WarmBeds$Inn", "used", "[I", true)
  | 11 => ("WarmBeds$Inn", "sheets", "[I", true)
  | 12 => ("WarmBeds$Inn", "lastOnes", "[I", true)
  | 13 => ("WarmBeds$Inn", "guestsWithFleas", "I", false)
  | 14 => ("WarmBeds$Inn", "bedsWithFleas", "I", false)
  | _ => ("WarmBeds$Inn", "isCounting", "Z", false)
def tyX3 : Nat → FieldType := fun k => match k with
  | 0 => .object "WarmBeds$House"
  | 1 => .object "WarmBeds$Inn"
  | 2 => .int
  | 3 => .int
  | 4 => .array .int
  | 5 => .array .int
  | 6 => .int
  | 7 => .array .int
  | 8 => .int
  | 9 => .array .int
  | 10 => .array .int
  | 11 => .array .int
  | 12 => .array .int
  | 13 => .int
  | 14 => .int
  | _ => .boolean
abbrev wsX30 : List Cond := u_ws RX3 TX3 16
theorem nmX3 : ∀ a, a < 16 → ∀ b, b < 16 → a ≠ b → (TX3 a).2.1 ≠ (TX3 b).2.1 := by decide +kernel
theorem tyX3_ok : ∀ k, k < 16 → parseFieldDescriptor (TX3 k).2.2.1 = some (tyX3 k) := by decide +kernel
abbrev cX3_init : ByteArray := prog_5_method_1_code
def yX3_init : MethodName := ⟨RX3, "<init>", "(LWarmBeds$House;LWarmBeds$Inn;)V"⟩
abbrev cX3_open : ByteArray := prog_5_method_2_code
def yX3_open : MethodName := ⟨RX3, "open", "(I)V"⟩
abbrev cX3_standAs : ByteArray := prog_5_method_3_code
def yX3_standAs : MethodName := ⟨RX3, "standAs", "(LWarmBeds$Inn;)V"⟩
abbrev cX3_live : ByteArray := prog_5_method_4_code
def yX3_live : MethodName := ⟨RX3, "live", "(LWarmBeds$Day;II)I"⟩
abbrev cX3_whyNot : ByteArray := prog_5_method_5_code
def yX3_whyNot : MethodName := ⟨RX3, "whyNot", "(I)I"⟩
abbrev cX3_takeIn : ByteArray := prog_5_method_6_code
def yX3_takeIn : MethodName := ⟨RX3, "takeIn", "(I)V"⟩
abbrev cX3_letGo : ByteArray := prog_5_method_7_code
def yX3_letGo : MethodName := ⟨RX3, "letGo", "(I)V"⟩
abbrev cX3_emptyLeastBed : ByteArray := prog_5_method_8_code
def yX3_emptyLeastBed : MethodName := ⟨RX3, "emptyLeastBed", "()V"⟩
abbrev cX3_clear : ByteArray := prog_5_method_9_code
def yX3_clear : MethodName := ⟨RX3, "clear", "(I)V"⟩
abbrev cX3_passNight : ByteArray := prog_5_method_10_code
def yX3_passNight : MethodName := ⟨RX3, "passNight", "()V"⟩
abbrev cX3_shareFleas : ByteArray := prog_5_method_11_code
def yX3_shareFleas : MethodName := ⟨RX3, "shareFleas", "(II)V"⟩
abbrev cX3_infest : ByteArray := prog_5_method_12_code
def yX3_infest : MethodName := ⟨RX3, "infest", "(I)V"⟩
abbrev cX3_choice : ByteArray := prog_5_method_13_code
def yX3_choice : MethodName := ⟨RX3, "choice", "(I)I"⟩
abbrev cX3_leastOfEmpty : ByteArray := prog_5_method_14_code
def yX3_leastOfEmpty : MethodName := ⟨RX3, "leastOfEmpty", "()I"⟩
abbrev cX3_dearestOfEmpty : ByteArray := prog_5_method_15_code
def yX3_dearestOfEmpty : MethodName := ⟨RX3, "dearestOfEmpty", "(I)I"⟩
abbrev cX3_takeFromEmpty : ByteArray := prog_5_method_16_code
def yX3_takeFromEmpty : MethodName := ⟨RX3, "takeFromEmpty", "(I)I"⟩
abbrev cX3_occupy : ByteArray := prog_5_method_17_code
def yX3_occupy : MethodName := ⟨RX3, "occupy", "(II)V"⟩
abbrev cX3_leaveEmpty : ByteArray := prog_5_method_18_code
def yX3_leaveEmpty : MethodName := ⟨RX3, "leaveEmpty", "(I)V"⟩
abbrev cX3_waitInYard : ByteArray := prog_5_method_19_code
def yX3_waitInYard : MethodName := ⟨RX3, "waitInYard", "(I)V"⟩
abbrev cX3_leaveYard : ByteArray := prog_5_method_20_code
def yX3_leaveYard : MethodName := ⟨RX3, "leaveYard", "(I)V"⟩
abbrev cX3_bitOf : ByteArray := prog_5_method_21_code
def yX3_bitOf : MethodName := ⟨RX3, "bitOf", "(I)I"⟩
abbrev cX3_isThere : ByteArray := prog_5_method_22_code
def yX3_isThere : MethodName := ⟨RX3, "isThere", "(I)Z"⟩
abbrev cX3_bedOf : ByteArray := prog_5_method_23_code
def yX3_bedOf : MethodName := ⟨RX3, "bedOf", "(I)I"⟩
abbrev cX3_sleeperOf : ByteArray := prog_5_method_24_code
def yX3_sleeperOf : MethodName := ⟨RX3, "sleeperOf", "(I)I"⟩
abbrev cX3_emptyBed : ByteArray := prog_5_method_25_code
def yX3_emptyBed : MethodName := ⟨RX3, "emptyBed", "(I)I"⟩
abbrev cX3_timesUsed : ByteArray := prog_5_method_26_code
def yX3_timesUsed : MethodName := ⟨RX3, "timesUsed", "(I)I"⟩
abbrev cX3_countOf : ByteArray := prog_5_method_27_code
def yX3_countOf : MethodName := ⟨RX3, "countOf", "(II)I"⟩
abbrev cX3_allSheets : ByteArray := prog_5_method_28_code
def yX3_allSheets : MethodName := ⟨RX3, "allSheets", "()I"⟩
def RX4 : String := "WarmBeds$Party"
def TX4 : u_T := fun k => match k with
  | 0 => ("WarmBeds$Party", "most", "I", false)
  | 1 => ("WarmBeds$Party", "size", "I", false)
  | 2 => ("WarmBeds$Party", "bestOrder", "[I", true)
  | _ => ("WarmBeds$Party", "trial", "[I", true)
def tyX4 : Nat → FieldType := fun k => match k with
  | 0 => .int
  | 1 => .int
  | 2 => .array .int
  | _ => .array .int
abbrev wsX40 : List Cond := u_ws RX4 TX4 4
theorem nmX4 : ∀ a, a < 4 → ∀ b, b < 4 → a ≠ b → (TX4 a).2.1 ≠ (TX4 b).2.1 := by decide +kernel
theorem tyX4_ok : ∀ k, k < 4 → parseFieldDescriptor (TX4 k).2.2.1 = some (tyX4 k) := by decide +kernel
abbrev cX4_init : ByteArray := prog_6_method_1_code
def yX4_init : MethodName := ⟨RX4, "<init>", "()V"⟩
abbrev cX4_order : ByteArray := prog_6_method_2_code
def yX4_order : MethodName := ⟨RX4, "order", "(LWarmBeds$Inn;I)V"⟩
abbrev cX4_letIn : ByteArray := prog_6_method_3_code
def yX4_letIn : MethodName := ⟨RX4, "letIn", "(LWarmBeds$Party;LWarmBeds$Inn;III)V"⟩
abbrev cX4_keepIfBetter : ByteArray := prog_6_method_4_code
def yX4_keepIfBetter : MethodName := ⟨RX4, "keepIfBetter", "(I)V"⟩
abbrev cX4_guestAt : ByteArray := prog_6_method_5_code
def yX4_guestAt : MethodName := ⟨RX4, "guestAt", "(I)I"⟩
def RX5 : String := "WarmBeds"
def TX5 : u_T := fun k => match k with
  | 0 => ("WarmBeds", "house", "LWarmBeds$House;", true)
  | 1 => ("WarmBeds", "imageZero", "LWarmBeds$House;", true)
  | 2 => ("WarmBeds", "imageOne", "LWarmBeds$House;", true)
  | 3 => ("WarmBeds", "day", "LWarmBeds$Day;", true)
  | 4 => ("WarmBeds", "company", "LWarmBeds$Party;", true)
  | 5 => ("WarmBeds", "guesses", "LWarmBeds$Guesses;", true)
  | 6 => ("WarmBeds", "inn", "LWarmBeds$Inn;", true)
  | _ => ("WarmBeds", "bedsByPlace", "[I", true)
def tyX5 : Nat → FieldType := fun k => match k with
  | 0 => .object "WarmBeds$House"
  | 1 => .object "WarmBeds$House"
  | 2 => .object "WarmBeds$House"
  | 3 => .object "WarmBeds$Day"
  | 4 => .object "WarmBeds$Party"
  | 5 => .object "WarmBeds$Guesses"
  | 6 => .object "WarmBeds$Inn"
  | _ => .array .int
abbrev wsX50 : List Cond := u_ws RX5 TX5 8
theorem nmX5 : ∀ a, a < 8 → ∀ b, b < 8 → a ≠ b → (TX5 a).2.1 ≠ (TX5 b).2.1 := by decide +kernel
theorem tyX5_ok : ∀ k, k < 8 → parseFieldDescriptor (TX5 k).2.2.1 = some (tyX5 k) := by decide +kernel
abbrev cX5_init : ByteArray := prog_1_method_1_code
def yX5_init : MethodName := ⟨RX5, "<init>", "()V"⟩
abbrev cX5_beds : ByteArray := prog_1_method_2_code
def yX5_beds : MethodName := ⟨RX5, "beds", "(I)I"⟩
abbrev cX5_worth : ByteArray := prog_1_method_3_code
def yX5_worth : MethodName := ⟨RX5, "worth", "(III)I"⟩
abbrev cX5_rule : ByteArray := prog_1_method_4_code
def yX5_rule : MethodName := ⟨RX5, "rule", "(I)I"⟩
abbrev cX5_say : ByteArray := prog_1_method_5_code
def yX5_say : MethodName := ⟨RX5, "say", "(I)I"⟩
abbrev cX5_wipe : ByteArray := prog_1_method_6_code
def yX5_wipe : MethodName := ⟨RX5, "wipe", "()I"⟩
abbrev cX5_fault : ByteArray := prog_1_method_7_code
def yX5_fault : MethodName := ⟨RX5, "fault", "()I"⟩
abbrev cX5_judge : ByteArray := prog_1_method_8_code
def yX5_judge : MethodName := ⟨RX5, "judge", "(I)I"⟩
abbrev cX5_bed : ByteArray := prog_1_method_9_code
def yX5_bed : MethodName := ⟨RX5, "bed", "(II)I"⟩
abbrev cX5_who : ByteArray := prog_1_method_10_code
def yX5_who : MethodName := ⟨RX5, "who", "(II)I"⟩
abbrev cX5_left : ByteArray := prog_1_method_11_code
def yX5_left : MethodName := ⟨RX5, "left", "(II)I"⟩
abbrev cX5_slept : ByteArray := prog_1_method_12_code
def yX5_slept : MethodName := ⟨RX5, "slept", "(II)I"⟩
abbrev cX5_fewest : ByteArray := prog_1_method_13_code
def yX5_fewest : MethodName := ⟨RX5, "fewest", "(I)I"⟩
abbrev cX5_when : ByteArray := prog_1_method_14_code
def yX5_when : MethodName := ⟨RX5, "when", "(III)I"⟩
abbrev cX5_best : ByteArray := prog_1_method_15_code
def yX5_best : MethodName := ⟨RX5, "best", "(II)I"⟩
abbrev cX5_reach : ByteArray := prog_1_method_16_code
def yX5_reach : MethodName := ⟨RX5, "reach", "(I)I"⟩
abbrev cX5_party : ByteArray := prog_1_method_17_code
def yX5_party : MethodName := ⟨RX5, "party", "(II)I"⟩
abbrev cX5_fleas : ByteArray := prog_1_method_18_code
def yX5_fleas : MethodName := ⟨RX5, "fleas", "(II)I"⟩
abbrev cX5_brought : ByteArray := prog_1_method_19_code
def yX5_brought : MethodName := ⟨RX5, "brought", "(I)I"⟩
abbrev cX5_seen : ByteArray := prog_1_method_20_code
def yX5_seen : MethodName := ⟨RX5, "seen", "(II)I"⟩
abbrev cX5_forget : ByteArray := prog_1_method_21_code
def yX5_forget : MethodName := ⟨RX5, "forget", "()I"⟩
abbrev cX5_filled : ByteArray := prog_1_method_22_code
def yX5_filled : MethodName := ⟨RX5, "filled", "(I)I"⟩
abbrev cX5_could : ByteArray := prog_1_method_23_code
def yX5_could : MethodName := ⟨RX5, "could", "(I)I"⟩
abbrev cX5_chance : ByteArray := prog_1_method_24_code
def yX5_chance : MethodName := ⟨RX5, "chance", "(IIII)J"⟩
abbrev cX5_year : ByteArray := prog_1_method_25_code
def yX5_year : MethodName := ⟨RX5, "year", "(III)I"⟩
abbrev cX5_image : ByteArray := prog_1_method_26_code
def yX5_image : MethodName := ⟨RX5, "image", "(I)I"⟩
abbrev cX5_restore : ByteArray := prog_1_method_27_code
def yX5_restore : MethodName := ⟨RX5, "restore", "(I)I"⟩
abbrev cX5_told : ByteArray := prog_1_method_28_code
def yX5_told : MethodName := ⟨RX5, "told", "(I)I"⟩
abbrev cX5_isGuest : ByteArray := prog_1_method_29_code
def yX5_isGuest : MethodName := ⟨RX5, "isGuest", "(I)Z"⟩
abbrev cX5_isBed : ByteArray := prog_1_method_30_code
def yX5_isBed : MethodName := ⟨RX5, "isBed", "(I)Z"⟩
abbrev cX5_isEither : ByteArray := prog_1_method_31_code
def yX5_isEither : MethodName := ⟨RX5, "isEither", "(I)Z"⟩
abbrev cX5_isCountOfEvents : ByteArray := prog_1_method_32_code
def yX5_isCountOfEvents : MethodName := ⟨RX5, "isCountOfEvents", "(I)Z"⟩
abbrev cX5_liveThrough : ByteArray := prog_1_method_33_code
def yX5_liveThrough : MethodName := ⟨RX5, "liveThrough", "(I)I"⟩
abbrev cX5_sheetsBy : ByteArray := prog_1_method_34_code
def yX5_sheetsBy : MethodName := ⟨RX5, "sheetsBy", "(I)I"⟩
abbrev cX5_refusalOfComing : ByteArray := prog_1_method_35_code
def yX5_refusalOfComing : MethodName := ⟨RX5, "refusalOfComing", "(I)I"⟩
abbrev cX5_tryAllPlaces : ByteArray := prog_1_method_36_code
def yX5_tryAllPlaces : MethodName := ⟨RX5, "tryAllPlaces", "(I)V"⟩
abbrev cX5_bedComingAt : ByteArray := prog_1_method_37_code
def yX5_bedComingAt : MethodName := ⟨RX5, "bedComingAt", "(I)I"⟩
abbrev cX5_worthComingAt : ByteArray := prog_1_method_38_code
def yX5_worthComingAt : MethodName := ⟨RX5, "worthComingAt", "(II)I"⟩
abbrev cX5_spreadFrom : ByteArray := prog_1_method_39_code
def yX5_spreadFrom : MethodName := ⟨RX5, "spreadFrom", "(I)V"⟩
abbrev cX5_weightOf : ByteArray := prog_1_method_40_code
def yX5_weightOf : MethodName := ⟨RX5, "weightOf", "(LWarmBeds$Inn;III)J"⟩
abbrev cX5_partInLowestTerms : ByteArray := prog_1_method_41_code
def yX5_partInLowestTerms : MethodName := ⟨RX5, "partInLowestTerms", "(JII)J"⟩
abbrev cX5_worthTold : ByteArray := prog_1_method_42_code
def yX5_worthTold : MethodName := ⟨RX5, "worthTold", "(I)I"⟩
def RX6 : String := "WarmBedsModel"
def TX6 : u_T := fun k => match k with
  | 0 => ("WarmBedsModel", "beds", "I", false)
  | 1 => ("WarmBedsModel", "law", "I", false)
  | 2 => ("WarmBedsModel", "worths", "[I", true)
  | 3 => ("WarmBedsModel", "sights", "I", false)
  | 4 => ("WarmBedsModel", "sight", "[I", true)
  | 5 => ("WarmBedsModel", "signs", "I", false)
  | 6 => ("WarmBedsModel", "pad", "[I", true)
  | 7 => ("WarmBedsModel", "lies", "[I", true)
  | 8 => ("WarmBedsModel", "empty", "I", false)
  | 9 => ("WarmBedsModel", "list", "[I", true)
  | 10 => ("WarmBedsModel", "waits", "I", false)
  | 11 => ("WarmBedsModel", "yard", "[I", true)
  | 12 => ("WarmBedsModel", "last", "[I", true)
  | 13 => ("WarmBedsModel", "used", "[I", true)
  | 14 => ("WarmBedsModel", "sheets", "[I", true)
  | 15 => ("WarmBedsModel", "nights", "[I", true)
  | 16 => ("WarmBedsModel", "fleasOfGuests", "I", false)
  | 17 => ("WarmBedsModel", "fleasOfBeds", "I", false)
  | 18 => ("WarmBedsModel", "reason", "I", false)
  | 19 => ("WarmBedsModel", "row", "[I", true)
  | 20 => ("WarmBedsModel", "bestRow", "[I", true)
  | 21 => ("WarmBedsModel", "image", "[I", true)
  | _ => ("WarmBedsModel", "isKept", "[Z", true)
def tyX6 : Nat → FieldType := fun k => match k with
  | 0 => .int
  | 1 => .int
  | 2 => .array .int
  | 3 => .int
  | 4 => .array .int
  | 5 => .int
  | 6 => .array .int
  | 7 => .array .int
  | 8 => .int
  | 9 => .array .int
  | 10 => .int
  | 11 => .array .int
  | 12 => .array .int
  | 13 => .array .int
  | 14 => .array .int
  | 15 => .array .int
  | 16 => .int
  | 17 => .int
  | 18 => .int
  | 19 => .array .int
  | 20 => .array .int
  | 21 => .array .int
  | _ => .array .boolean
abbrev wsX60 : List Cond := u_ws RX6 TX6 23
theorem nmX6 : ∀ a, a < 23 → ∀ b, b < 23 → a ≠ b → (TX6 a).2.1 ≠ (TX6 b).2.1 := by decide +kernel
theorem tyX6_ok : ∀ k, k < 23 → parseFieldDescriptor (TX6 k).2.2.1 = some (tyX6 k) := by decide +kernel
abbrev cX6_init : ByteArray := prog_8_method_1_code
def yX6_init : MethodName := ⟨RX6, "<init>", "()V"⟩
abbrev cX6_in : ByteArray := prog_8_method_2_code
def yX6_in : MethodName := ⟨RX6, "in", "(III)Z"⟩
abbrev cX6_has : ByteArray := prog_8_method_3_code
def yX6_has : MethodName := ⟨RX6, "has", "(II)Z"⟩
abbrev cX6_isGuest : ByteArray := prog_8_method_4_code
def yX6_isGuest : MethodName := ⟨RX6, "isGuest", "(I)Z"⟩
abbrev cX6_isBed : ByteArray := prog_8_method_5_code
def yX6_isBed : MethodName := ⟨RX6, "isBed", "(I)Z"⟩
abbrev cX6_beds : ByteArray := prog_8_method_6_code
def yX6_beds : MethodName := ⟨RX6, "beds", "(I)I"⟩
abbrev cX6_worth : ByteArray := prog_8_method_7_code
def yX6_worth : MethodName := ⟨RX6, "worth", "(III)I"⟩
abbrev cX6_rule : ByteArray := prog_8_method_8_code
def yX6_rule : MethodName := ⟨RX6, "rule", "(I)I"⟩
abbrev cX6_say : ByteArray := prog_8_method_9_code
def yX6_say : MethodName := ⟨RX6, "say", "(I)I"⟩
abbrev cX6_wipe : ByteArray := prog_8_method_10_code
def yX6_wipe : MethodName := ⟨RX6, "wipe", "()I"⟩
abbrev cX6_faultOf : ByteArray := prog_8_method_11_code
def yX6_faultOf : MethodName := ⟨RX6, "faultOf", "()I"⟩
abbrev cX6_fault : ByteArray := prog_8_method_12_code
def yX6_fault : MethodName := ⟨RX6, "fault", "()I"⟩
abbrev cX6_opens : ByteArray := prog_8_method_13_code
def yX6_opens : MethodName := ⟨RX6, "opens", "(I)I"⟩
abbrev cX6_begin : ByteArray := prog_8_method_14_code
def yX6_begin : MethodName := ⟨RX6, "begin", "()V"⟩
abbrev cX6_bedOf : ByteArray := prog_8_method_15_code
def yX6_bedOf : MethodName := ⟨RX6, "bedOf", "(I)I"⟩
abbrev cX6_isWaiting : ByteArray := prog_8_method_16_code
def yX6_isWaiting : MethodName := ⟨RX6, "isWaiting", "(I)Z"⟩
abbrev cX6_isThere : ByteArray := prog_8_method_17_code
def yX6_isThere : MethodName := ⟨RX6, "isThere", "(I)Z"⟩
abbrev cX6_take : ByteArray := prog_8_method_18_code
def yX6_take : MethodName := ⟨RX6, "take", "(II)V"⟩
abbrev cX6_worthTo : ByteArray := prog_8_method_19_code
def yX6_worthTo : MethodName := ⟨RX6, "worthTo", "(II)I"⟩
abbrev cX6_chosen : ByteArray := prog_8_method_20_code
def yX6_chosen : MethodName := ⟨RX6, "chosen", "(I)I"⟩
abbrev cX6_comeIn : ByteArray := prog_8_method_21_code
def yX6_comeIn : MethodName := ⟨RX6, "comeIn", "(I)V"⟩
abbrev cX6_outOfYard : ByteArray := prog_8_method_22_code
def yX6_outOfYard : MethodName := ⟨RX6, "outOfYard", "(I)V"⟩
abbrev cX6_goOut : ByteArray := prog_8_method_23_code
def yX6_goOut : MethodName := ⟨RX6, "goOut", "(I)V"⟩
abbrev cX6_pass : ByteArray := prog_8_method_24_code
def yX6_pass : MethodName := ⟨RX6, "pass", "()V"⟩
abbrev cX6_happen : ByteArray := prog_8_method_25_code
def yX6_happen : MethodName := ⟨RX6, "happen", "(I)I"⟩
abbrev cX6_eventOf : ByteArray := prog_8_method_26_code
def yX6_eventOf : MethodName := ⟨RX6, "eventOf", "(I)I"⟩
abbrev cX6_go : ByteArray := prog_8_method_27_code
def yX6_go : MethodName := ⟨RX6, "go", "(IIII)I"⟩
abbrev cX6_judge : ByteArray := prog_8_method_28_code
def yX6_judge : MethodName := ⟨RX6, "judge", "(I)I"⟩
abbrev cX6_barOf : ByteArray := prog_8_method_29_code
def yX6_barOf : MethodName := ⟨RX6, "barOf", "(I)I"⟩
abbrev cX6_bed : ByteArray := prog_8_method_30_code
def yX6_bed : MethodName := ⟨RX6, "bed", "(II)I"⟩
abbrev cX6_who : ByteArray := prog_8_method_31_code
def yX6_who : MethodName := ⟨RX6, "who", "(II)I"⟩
abbrev cX6_left : ByteArray := prog_8_method_32_code
def yX6_left : MethodName := ⟨RX6, "left", "(II)I"⟩
abbrev cX6_slept : ByteArray := prog_8_method_33_code
def yX6_slept : MethodName := ⟨RX6, "slept", "(II)I"⟩
abbrev cX6_fewest : ByteArray := prog_8_method_34_code
def yX6_fewest : MethodName := ⟨RX6, "fewest", "(I)I"⟩
abbrev cX6_isInDay : ByteArray := prog_8_method_35_code
def yX6_isInDay : MethodName := ⟨RX6, "isInDay", "(I)Z"⟩
abbrev cX6_barOfComing : ByteArray := prog_8_method_36_code
def yX6_barOfComing : MethodName := ⟨RX6, "barOfComing", "()I"⟩
abbrev cX6_when : ByteArray := prog_8_method_37_code
def yX6_when : MethodName := ⟨RX6, "when", "(III)I"⟩
abbrev cX6_best : ByteArray := prog_8_method_38_code
def yX6_best : MethodName := ⟨RX6, "best", "(II)I"⟩
abbrev cX6_reach : ByteArray := prog_8_method_39_code
def yX6_reach : MethodName := ⟨RX6, "reach", "(I)I"⟩
abbrev cX6_nextRow : ByteArray := prog_8_method_40_code
def yX6_nextRow : MethodName := ⟨RX6, "nextRow", "(I)Z"⟩
abbrev cX6_change : ByteArray := prog_8_method_41_code
def yX6_change : MethodName := ⟨RX6, "change", "(II)V"⟩
abbrev cX6_party : ByteArray := prog_8_method_42_code
def yX6_party : MethodName := ⟨RX6, "party", "(II)I"⟩
abbrev cX6_layFleas : ByteArray := prog_8_method_43_code
def yX6_layFleas : MethodName := ⟨RX6, "layFleas", "(II)I"⟩
abbrev cX6_fleas : ByteArray := prog_8_method_44_code
def yX6_fleas : MethodName := ⟨RX6, "fleas", "(II)I"⟩
abbrev cX6_brought : ByteArray := prog_8_method_45_code
def yX6_brought : MethodName := ⟨RX6, "brought", "(I)I"⟩
abbrev cX6_seen : ByteArray := prog_8_method_46_code
def yX6_seen : MethodName := ⟨RX6, "seen", "(II)I"⟩
abbrev cX6_forget : ByteArray := prog_8_method_47_code
def yX6_forget : MethodName := ⟨RX6, "forget", "()I"⟩
abbrev cX6_isFit : ByteArray := prog_8_method_48_code
def yX6_isFit : MethodName := ⟨RX6, "isFit", "(I)Z"⟩
abbrev cX6_codes : ByteArray := prog_8_method_49_code
def yX6_codes : MethodName := ⟨RX6, "codes", "()I"⟩
abbrev cX6_guestAt : ByteArray := prog_8_method_50_code
def yX6_guestAt : MethodName := ⟨RX6, "guestAt", "(II)I"⟩
abbrev cX6_filled : ByteArray := prog_8_method_51_code
def yX6_filled : MethodName := ⟨RX6, "filled", "(I)I"⟩
abbrev cX6_could : ByteArray := prog_8_method_52_code
def yX6_could : MethodName := ⟨RX6, "could", "(I)I"⟩
abbrev cX6_power : ByteArray := prog_8_method_53_code
def yX6_power : MethodName := ⟨RX6, "power", "(JI)J"⟩
abbrev cX6_chance : ByteArray := prog_8_method_54_code
def yX6_chance : MethodName := ⟨RX6, "chance", "(IIII)J"⟩
abbrev cX6_year : ByteArray := prog_8_method_55_code
def yX6_year : MethodName := ⟨RX6, "year", "(III)I"⟩
abbrev cX6_image : ByteArray := prog_8_method_56_code
def yX6_image : MethodName := ⟨RX6, "image", "(I)I"⟩
abbrev cX6_restore : ByteArray := prog_8_method_57_code
def yX6_restore : MethodName := ⟨RX6, "restore", "(I)I"⟩
abbrev cX6_told : ByteArray := prog_8_method_58_code
def yX6_told : MethodName := ⟨RX6, "told", "(I)I"⟩
def RJ6 : String := "java/lang/Integer"
def TJ6 : u_T := fun k => match k with
  | _ => ("", "", "", false)
def tyJ6 : Nat → FieldType := fun k => match k with
  | _ => .int
abbrev wsJ60 : List Cond := u_ws RJ6 TJ6 0
theorem nmJ6 : ∀ a, a < 0 → ∀ b, b < 0 → a ≠ b → (TJ6 a).2.1 ≠ (TJ6 b).2.1 := by decide +kernel
theorem tyJ6_ok : ∀ k, k < 0 → parseFieldDescriptor (TJ6 k).2.2.1 = some (tyJ6 k) := by decide +kernel
abbrev cJ6_bitCount_0f7a4 : ByteArray := prog_9_method_49_code
def yJ6_bitCount_0f7a4 : MethodName := ⟨RJ6, "bitCount", "(I)I"⟩
def RJ10 : String := "java/lang/System"
def TJ10 : u_T := fun k => match k with
  | _ => ("", "", "", false)
def tyJ10 : Nat → FieldType := fun k => match k with
  | _ => .int
abbrev wsJ100 : List Cond := u_ws RJ10 TJ10 0
theorem nmJ10 : ∀ a, a < 0 → ∀ b, b < 0 → a ≠ b → (TJ10 a).2.1 ≠ (TJ10 b).2.1 := by decide +kernel
theorem tyJ10_ok : ∀ k, k < 0 → parseFieldDescriptor (TJ10 k).2.2.1 = some (tyJ10 k) := by decide +kernel
def RL : String := "WarmBedsLaw"
abbrev cL_law : ByteArray := code
def yL_law : MethodName := ⟨RL, "law", "([I)Z"⟩
def wsL_law_r1 : List Cond := [Cond.classLink RL 7 RX5, Cond.instantiable RX5 8, Cond.initialized RX5, Cond.classLink RL 10 RX6, Cond.instantiable RX6 23, Cond.initialized RX6, Cond.methodLink RL 9 yX5_init, Cond.instanceMethod yX5_init, Cond.code yX5_init cX5_init 3 none, Cond.methodLink RX5 3 objectInit, Cond.instanceMethod objectInit, Cond.code objectInit ⟨#[0xb1]⟩ 1 none, Cond.classLink RX5 9 RX2, Cond.instantiable RX2 7, Cond.initialized RX2, Cond.fieldLink RX5 12 "WarmBeds" "house" "LWarmBeds$House;", Cond.fieldLink RX5 16 "WarmBeds" "imageZero" "LWarmBeds$House;", Cond.fieldLink RX5 19 "WarmBeds" "imageOne" "LWarmBeds$House;", Cond.classLink RX5 22 RX0, Cond.instantiable RX0 2, Cond.initialized RX0, Cond.fieldLink RX5 25 "WarmBeds" "day" "LWarmBeds$Day;", Cond.classLink RX5 29 RX4, Cond.instantiable RX4 4]
def wsL_law_r2 : List Cond := [Cond.initialized RX4, Cond.fieldLink RX5 32 "WarmBeds" "company" "LWarmBeds$Party;", Cond.classLink RX5 36 RX1, Cond.instantiable RX1 5, Cond.initialized RX1, Cond.fieldLink RX5 39 "WarmBeds" "guesses" "LWarmBeds$Guesses;", Cond.arrayClass .int, Cond.fieldLink RX5 43 "WarmBeds" "bedsByPlace" "[I", Cond.classLink RX5 47 RX3, Cond.instantiable RX3 16, Cond.initialized RX3, Cond.fieldLink RX5 52 "WarmBeds" "inn" "LWarmBeds$Inn;", Cond.instanceMethod yX2_init, Cond.code yX2_init cX2_init 1 none, Cond.methodLink RX2 3 objectInit, Cond.fieldLink RX2 9 "WarmBeds$House" "beds" "I", Cond.fieldLink RX2 15 "WarmBeds$House" "worths" "[I", Cond.fieldLink RX2 19 "WarmBeds$House" "sightGuests" "[I", Cond.fieldLink RX2 22 "WarmBeds$House" "sightBeds" "[I", Cond.instanceMethod yX0_init, Cond.code yX0_init cX0_init 1 none, Cond.methodLink RX0 3 objectInit, Cond.fieldLink RX0 9 "WarmBeds$Day" "signs" "[I", Cond.instanceMethod yX4_init]
def wsL_law_r3 : List Cond := [Cond.code yX4_init cX4_init 1 none, Cond.methodLink RX4 3 objectInit, Cond.fieldLink RX4 9 "WarmBeds$Party" "bestOrder" "[I", Cond.fieldLink RX4 15 "WarmBeds$Party" "trial" "[I", Cond.instanceMethod yX1_init, Cond.code yX1_init cX1_init 1 none, Cond.methodLink RX1 3 objectInit, Cond.fieldLink RX1 9 "WarmBeds$Guesses" "trial" "[I", Cond.fieldLink RX1 15 "WarmBeds$Guesses" "first" "[I", Cond.fieldLink RX1 18 "WarmBeds$Guesses" "suspects" "[I", Cond.instanceMethod yX3_init, Cond.code yX3_init cX3_init 3 none, Cond.methodLink RX3 3 objectInit, Cond.fieldLink RX3 9 "WarmBeds$Inn" "sleepers" "[I", Cond.fieldLink RX3 15 "WarmBeds$Inn" "empty" "[I", Cond.fieldLink RX3 18 "WarmBeds$Inn" "yard" "[I", Cond.fieldLink RX3 21 "WarmBeds$Inn" "nights" "[I", Cond.fieldLink RX3 24 "WarmBeds$Inn" "used" "[I", Cond.fieldLink RX3 27 "WarmBeds$Inn" "sheets" "[I", Cond.fieldLink RX3 30 "WarmBeds$Inn" "lastOnes" "[I", Cond.fieldLink RX3 33 "WarmBeds$Inn" "house" "LWarmBeds$House;", Cond.fieldLink RX3 37 "WarmBeds$Inn" "deeper" "LWarmBeds$Inn;", Cond.methodLink RL 12 yX6_init, Cond.instanceMethod yX6_init]
def wsL_law_r4 : List Cond := [Cond.code yX6_init cX6_init 1 none, Cond.methodLink RX6 1 objectInit, Cond.fieldLink RX6 7 "WarmBedsModel" "beds" "I", Cond.fieldLink RX6 13 "WarmBedsModel" "worths" "[I", Cond.fieldLink RX6 17 "WarmBedsModel" "sight" "[I", Cond.fieldLink RX6 20 "WarmBedsModel" "pad" "[I", Cond.fieldLink RX6 23 "WarmBedsModel" "lies" "[I", Cond.fieldLink RX6 26 "WarmBedsModel" "list" "[I", Cond.fieldLink RX6 29 "WarmBedsModel" "yard" "[I", Cond.fieldLink RX6 32 "WarmBedsModel" "last" "[I", Cond.fieldLink RX6 35 "WarmBedsModel" "used" "[I", Cond.fieldLink RX6 38 "WarmBedsModel" "sheets" "[I", Cond.fieldLink RX6 41 "WarmBedsModel" "nights" "[I", Cond.fieldLink RX6 44 "WarmBedsModel" "row" "[I", Cond.fieldLink RX6 47 "WarmBedsModel" "bestRow" "[I", Cond.fieldLink RX6 50 "WarmBedsModel" "image" "[I", Cond.arrayClass .boolean, Cond.fieldLink RX6 53 "WarmBedsModel" "isKept" "[Z", Cond.fieldLink RX6 57 "WarmBedsModel" "law" "I", Cond.methodLink RL 13 yX5_beds, Cond.instanceMethod yX5_beds, Cond.selects RX5 yX5_beds yX5_beds, Cond.code yX5_beds cX5_beds 3 (some .int), Cond.instanceMethod yX2_furnish]
def wsL_law_r5 : List Cond := [Cond.selects RX2 yX2_furnish yX2_furnish, Cond.code yX2_furnish cX2_furnish 3 none, Cond.fieldLink RX2 25 "WarmBeds$House" "sights" "I", Cond.methodLink RL 17 yX6_beds, Cond.instanceMethod yX6_beds, Cond.selects RX6 yX6_beds yX6_beds, Cond.code yX6_beds cX6_beds 4 (some .int), Cond.fieldLink RX6 64 "WarmBedsModel" "sights" "I", Cond.methodLink RX6 60 yX6_in, Cond.static yX6_in, Cond.code yX6_in cX6_in 3 (some .boolean), Cond.methodLink RL 18 yX5_worth, Cond.instanceMethod yX5_worth, Cond.selects RX5 yX5_worth yX5_worth, Cond.code yX5_worth cX5_worth 5 (some .int), Cond.methodLink RX5 64 yX5_isGuest, Cond.static yX5_isGuest, Cond.code yX5_isGuest cX5_isGuest 1 (some .boolean), Cond.methodLink RX5 68 yX5_isBed, Cond.instanceMethod yX5_isBed, Cond.selects RX5 yX5_isBed yX5_isBed, Cond.code yX5_isBed cX5_isBed 2 (some .boolean), Cond.instanceMethod yX2_worthOf, Cond.selects RX2 yX2_worthOf yX2_worthOf]
def wsL_law_r6 : List Cond := [Cond.code yX2_worthOf cX2_worthOf 3 (some .int), Cond.instanceMethod yX2_setWorth, Cond.selects RX2 yX2_setWorth yX2_setWorth, Cond.code yX2_setWorth cX2_setWorth 4 none, Cond.methodLink RL 22 yX6_worth, Cond.instanceMethod yX6_worth, Cond.selects RX6 yX6_worth yX6_worth, Cond.code yX6_worth cX6_worth 5 (some .int), Cond.methodLink RX6 67 yX6_isGuest, Cond.static yX6_isGuest, Cond.code yX6_isGuest cX6_isGuest 1 (some .boolean), Cond.methodLink RX6 71 yX6_isBed, Cond.instanceMethod yX6_isBed, Cond.selects RX6 yX6_isBed yX6_isBed, Cond.code yX6_isBed cX6_isBed 2 (some .boolean), Cond.methodLink RL 23 yX5_rule, Cond.instanceMethod yX5_rule, Cond.selects RX5 yX5_rule yX5_rule, Cond.code yX5_rule cX5_rule 3 (some .int), Cond.methodLink RL 26 yX6_rule, Cond.instanceMethod yX6_rule, Cond.selects RX6 yX6_rule yX6_rule, Cond.code yX6_rule cX6_rule 3 (some .int), Cond.methodLink RL 27 yX5_say]
def wsL_law_r7 : List Cond := [Cond.instanceMethod yX5_say, Cond.selects RX5 yX5_say yX5_say, Cond.code yX5_say cX5_say 2 (some .int), Cond.instanceMethod yX0_isFull, Cond.selects RX0 yX0_isFull yX0_isFull, Cond.code yX0_isFull cX0_isFull 1 (some .boolean), Cond.fieldLink RX0 15 "WarmBeds$Day" "length" "I", Cond.instanceMethod yX0_write, Cond.selects RX0 yX0_write yX0_write, Cond.code yX0_write cX0_write 2 none, Cond.methodLink RL 30 yX6_say, Cond.instanceMethod yX6_say, Cond.selects RX6 yX6_say yX6_say, Cond.code yX6_say cX6_say 2 (some .int), Cond.fieldLink RX6 74 "WarmBedsModel" "signs" "I", Cond.methodLink RL 31 yX5_wipe, Cond.instanceMethod yX5_wipe, Cond.selects RX5 yX5_wipe yX5_wipe, Cond.code yX5_wipe cX5_wipe 2 (some .int), Cond.methodLink RL 35 yX6_wipe, Cond.instanceMethod yX6_wipe, Cond.selects RX6 yX6_wipe yX6_wipe, Cond.code yX6_wipe cX6_wipe 2 (some .int), Cond.methodLink RL 36 yX5_fault]
def wsL_law_r8 : List Cond := [Cond.instanceMethod yX5_fault, Cond.selects RX5 yX5_fault yX5_fault, Cond.code yX5_fault cX5_fault 1 (some .int), Cond.instanceMethod yX0_firstFault, Cond.selects RX0 yX0_firstFault yX0_firstFault, Cond.code yX0_firstFault cX0_firstFault 4 (some .int), Cond.methodLink RX0 19 yX0_signAt, Cond.instanceMethod yX0_signAt, Cond.selects RX0 yX0_signAt yX0_signAt, Cond.code yX0_signAt cX0_signAt 2 (some .int), Cond.methodLink RX0 23 yX0_isComing, Cond.static yX0_isComing, Cond.code yX0_isComing cX0_isComing 1 (some .boolean), Cond.methodLink RX0 27 yX0_isGoing, Cond.static yX0_isGoing, Cond.code yX0_isGoing cX0_isGoing 1 (some .boolean), Cond.methodLink RL 39 yX6_fault, Cond.instanceMethod yX6_fault, Cond.selects RX6 yX6_fault yX6_fault, Cond.code yX6_fault cX6_fault 1 (some .int), Cond.methodLink RX6 77 yX6_faultOf, Cond.instanceMethod yX6_faultOf, Cond.selects RX6 yX6_faultOf yX6_faultOf, Cond.code yX6_faultOf cX6_faultOf 5 (some .int)]
def wsL_law_r9 : List Cond := [Cond.methodLink RL 40 yX5_judge, Cond.instanceMethod yX5_judge, Cond.selects RX5 yX5_judge yX5_judge, Cond.code yX5_judge cX5_judge 3 (some .int), Cond.methodLink RX5 96 yX5_isEither, Cond.static yX5_isEither, Cond.code yX5_isEither cX5_isEither 1 (some .boolean), Cond.instanceMethod yX0_isUntold, Cond.selects RX0 yX0_isUntold yX0_isUntold, Cond.code yX0_isUntold cX0_isUntold 2 (some .boolean), Cond.methodLink RX0 30 yX0_nextUntold, Cond.instanceMethod yX0_nextUntold, Cond.selects RX0 yX0_nextUntold yX0_nextUntold, Cond.code yX0_nextUntold cX0_nextUntold 3 (some .int), Cond.instanceMethod yX3_open, Cond.selects RX3 yX3_open yX3_open, Cond.code yX3_open cX3_open 3 none, Cond.fieldLink RX3 41 "WarmBeds$Inn" "law" "I", Cond.fieldLink RX3 45 "WarmBeds$Inn" "there" "I", Cond.fieldLink RX3 48 "WarmBeds$Inn" "empties" "I", Cond.fieldLink RX3 51 "WarmBeds$Inn" "waiting" "I", Cond.fieldLink RX3 54 "WarmBeds$Inn" "guestsWithFleas" "I", Cond.fieldLink RX3 57 "WarmBeds$Inn" "bedsWithFleas" "I", Cond.fieldLink RX3 60 "WarmBeds$Inn" "isCounting" "Z"]
def wsL_law_r10 : List Cond := [Cond.methodLink RX3 69 yX3_leaveEmpty, Cond.instanceMethod yX3_leaveEmpty, Cond.selects RX3 yX3_leaveEmpty yX3_leaveEmpty, Cond.code yX3_leaveEmpty cX3_leaveEmpty 2 none, Cond.instanceMethod yX3_live, Cond.selects RX3 yX3_live yX3_live, Cond.code yX3_live cX3_live 6 (some .int), Cond.methodLink RX3 85 yX3_whyNot, Cond.instanceMethod yX3_whyNot, Cond.selects RX3 yX3_whyNot yX3_whyNot, Cond.code yX3_whyNot cX3_whyNot 2 (some .int), Cond.methodLink RX3 104 yX3_isThere, Cond.instanceMethod yX3_isThere, Cond.selects RX3 yX3_isThere yX3_isThere, Cond.code yX3_isThere cX3_isThere 2 (some .boolean), Cond.methodLink RX3 107 yX3_bitOf, Cond.static yX3_bitOf, Cond.code yX3_bitOf cX3_bitOf 1 (some .int), Cond.methodLink RX3 92 yX3_takeIn, Cond.instanceMethod yX3_takeIn, Cond.selects RX3 yX3_takeIn yX3_takeIn, Cond.code yX3_takeIn cX3_takeIn 3 none, Cond.methodLink RX3 110 yX3_choice, Cond.instanceMethod yX3_choice]
def wsL_law_r11 : List Cond := [Cond.selects RX3 yX3_choice yX3_choice, Cond.code yX3_choice cX3_choice 2 (some .int), Cond.methodLink RX3 138 yX3_leastOfEmpty, Cond.instanceMethod yX3_leastOfEmpty, Cond.selects RX3 yX3_leastOfEmpty yX3_leastOfEmpty, Cond.code yX3_leastOfEmpty cX3_leastOfEmpty 3 (some .int), Cond.methodLink RX3 142 yX3_dearestOfEmpty, Cond.instanceMethod yX3_dearestOfEmpty, Cond.selects RX3 yX3_dearestOfEmpty yX3_dearestOfEmpty, Cond.code yX3_dearestOfEmpty cX3_dearestOfEmpty 4 (some .int), Cond.methodLink RX3 113 yX3_waitInYard, Cond.instanceMethod yX3_waitInYard, Cond.selects RX3 yX3_waitInYard yX3_waitInYard, Cond.code yX3_waitInYard cX3_waitInYard 2 none, Cond.methodLink RX3 116 yX3_takeFromEmpty, Cond.instanceMethod yX3_takeFromEmpty, Cond.selects RX3 yX3_takeFromEmpty yX3_takeFromEmpty, Cond.code yX3_takeFromEmpty cX3_takeFromEmpty 4 (some .int), Cond.methodLink RX3 119 yX3_occupy, Cond.instanceMethod yX3_occupy, Cond.selects RX3 yX3_occupy yX3_occupy, Cond.code yX3_occupy cX3_occupy 3 none, Cond.methodLink RX3 98 yX3_letGo, Cond.instanceMethod yX3_letGo]
def wsL_law_r12 : List Cond := [Cond.selects RX3 yX3_letGo yX3_letGo, Cond.code yX3_letGo cX3_letGo 3 none, Cond.methodLink RX3 123 yX3_bedOf, Cond.instanceMethod yX3_bedOf, Cond.selects RX3 yX3_bedOf yX3_bedOf, Cond.code yX3_bedOf cX3_bedOf 3 (some .int), Cond.methodLink RX3 126 yX3_leaveYard, Cond.instanceMethod yX3_leaveYard, Cond.selects RX3 yX3_leaveYard yX3_leaveYard, Cond.code yX3_leaveYard cX3_leaveYard 5 none, Cond.methodLink RX3 129 yX3_clear, Cond.instanceMethod yX3_clear, Cond.selects RX3 yX3_clear yX3_clear, Cond.code yX3_clear cX3_clear 3 none, Cond.methodLink RX3 132 yX3_sleeperOf, Cond.instanceMethod yX3_sleeperOf, Cond.selects RX3 yX3_sleeperOf yX3_sleeperOf, Cond.code yX3_sleeperOf cX3_sleeperOf 2 (some .int), Cond.methodLink RX3 101 yX3_passNight, Cond.instanceMethod yX3_passNight, Cond.selects RX3 yX3_passNight yX3_passNight, Cond.code yX3_passNight cX3_passNight 2 none, Cond.methodLink RX3 135 yX3_shareFleas, Cond.instanceMethod yX3_shareFleas]
def wsL_law_r13 : List Cond := [Cond.selects RX3 yX3_shareFleas yX3_shareFleas, Cond.code yX3_shareFleas cX3_shareFleas 3 none, Cond.methodLink RL 43 yX6_judge, Cond.instanceMethod yX6_judge, Cond.selects RX6 yX6_judge yX6_judge, Cond.code yX6_judge cX6_judge 3 (some .int), Cond.fieldLink RX6 134 "WarmBedsModel" "reason" "I", Cond.methodLink RX6 137 yX6_opens, Cond.instanceMethod yX6_opens, Cond.selects RX6 yX6_opens yX6_opens, Cond.code yX6_opens cX6_opens 4 (some .int), Cond.methodLink RX6 146 yX6_go, Cond.instanceMethod yX6_go, Cond.selects RX6 yX6_go yX6_go, Cond.code yX6_go cX6_go 7 (some .int), Cond.methodLink RX6 131 yX6_begin, Cond.instanceMethod yX6_begin, Cond.selects RX6 yX6_begin yX6_begin, Cond.code yX6_begin cX6_begin 2 none, Cond.fieldLink RX6 81 "WarmBedsModel" "empty" "I", Cond.fieldLink RX6 84 "WarmBedsModel" "waits" "I", Cond.methodLink RX6 140 yX6_happen, Cond.instanceMethod yX6_happen, Cond.selects RX6 yX6_happen yX6_happen]
def wsL_law_r14 : List Cond := [Cond.code yX6_happen cX6_happen 3 (some .int), Cond.methodLink RX6 119 yX6_pass, Cond.instanceMethod yX6_pass, Cond.selects RX6 yX6_pass yX6_pass, Cond.code yX6_pass cX6_pass 3 none, Cond.fieldLink RX6 109 "WarmBedsModel" "fleasOfBeds" "I", Cond.fieldLink RX6 116 "WarmBedsModel" "fleasOfGuests" "I", Cond.methodLink RX6 112 yX6_has, Cond.static yX6_has, Cond.code yX6_has cX6_has 2 (some .boolean), Cond.methodLink RX6 122 yX6_isThere, Cond.instanceMethod yX6_isThere, Cond.selects RX6 yX6_isThere yX6_isThere, Cond.code yX6_isThere cX6_isThere 2 (some .boolean), Cond.methodLink RX6 87 yX6_bedOf, Cond.instanceMethod yX6_bedOf, Cond.selects RX6 yX6_bedOf yX6_bedOf, Cond.code yX6_bedOf cX6_bedOf 4 (some .int), Cond.methodLink RX6 91 yX6_isWaiting, Cond.instanceMethod yX6_isWaiting, Cond.selects RX6 yX6_isWaiting yX6_isWaiting, Cond.code yX6_isWaiting cX6_isWaiting 4 (some .boolean), Cond.methodLink RX6 125 yX6_comeIn, Cond.instanceMethod yX6_comeIn]
def wsL_law_r15 : List Cond := [Cond.selects RX6 yX6_comeIn yX6_comeIn, Cond.code yX6_comeIn cX6_comeIn 5 none, Cond.methodLink RX6 98 yX6_chosen, Cond.instanceMethod yX6_chosen, Cond.selects RX6 yX6_chosen yX6_chosen, Cond.code yX6_chosen cX6_chosen 5 (some .int), Cond.methodLink RX6 94 yX6_worthTo, Cond.instanceMethod yX6_worthTo, Cond.selects RX6 yX6_worthTo yX6_worthTo, Cond.code yX6_worthTo cX6_worthTo 3 (some .int), Cond.methodLink RX6 101 yX6_take, Cond.instanceMethod yX6_take, Cond.selects RX6 yX6_take yX6_take, Cond.code yX6_take cX6_take 3 none, Cond.methodLink RX6 128 yX6_goOut, Cond.instanceMethod yX6_goOut, Cond.selects RX6 yX6_goOut yX6_goOut, Cond.code yX6_goOut cX6_goOut 4 none, Cond.methodLink RX6 105 yX6_outOfYard, Cond.instanceMethod yX6_outOfYard, Cond.selects RX6 yX6_outOfYard yX6_outOfYard, Cond.code yX6_outOfYard cX6_outOfYard 3 none, Cond.methodLink RX6 143 yX6_eventOf, Cond.instanceMethod yX6_eventOf]
def wsL_law_r16 : List Cond := [Cond.selects RX6 yX6_eventOf yX6_eventOf, Cond.code yX6_eventOf cX6_eventOf 2 (some .int), Cond.methodLink RL 44 yX5_bed, Cond.instanceMethod yX5_bed, Cond.selects RX5 yX5_bed yX5_bed, Cond.code yX5_bed cX5_bed 5 (some .int), Cond.methodLink RX5 116 yX5_isCountOfEvents, Cond.instanceMethod yX5_isCountOfEvents, Cond.selects RX5 yX5_isCountOfEvents yX5_isCountOfEvents, Cond.code yX5_isCountOfEvents cX5_isCountOfEvents 2 (some .boolean), Cond.methodLink RX5 119 yX5_liveThrough, Cond.instanceMethod yX5_liveThrough, Cond.selects RX5 yX5_liveThrough yX5_liveThrough, Cond.code yX5_liveThrough cX5_liveThrough 3 (some .int), Cond.methodLink RL 48 yX6_bed, Cond.instanceMethod yX6_bed, Cond.selects RX6 yX6_bed yX6_bed, Cond.code yX6_bed cX6_bed 4 (some .int), Cond.methodLink RX6 150 yX6_barOf, Cond.instanceMethod yX6_barOf, Cond.selects RX6 yX6_barOf yX6_barOf, Cond.code yX6_barOf cX6_barOf 2 (some .int), Cond.methodLink RL 49 yX5_who, Cond.instanceMethod yX5_who]
def wsL_law_r17 : List Cond := [Cond.selects RX5 yX5_who yX5_who, Cond.code yX5_who cX5_who 5 (some .int), Cond.methodLink RL 52 yX6_who, Cond.instanceMethod yX6_who, Cond.selects RX6 yX6_who yX6_who, Cond.code yX6_who cX6_who 4 (some .int), Cond.methodLink RL 53 yX5_left, Cond.instanceMethod yX5_left, Cond.selects RX5 yX5_left yX5_left, Cond.code yX5_left cX5_left 4 (some .int), Cond.instanceMethod yX3_emptyBed, Cond.selects RX3 yX3_emptyBed yX3_emptyBed, Cond.code yX3_emptyBed cX3_emptyBed 2 (some .int), Cond.methodLink RL 56 yX6_left, Cond.instanceMethod yX6_left, Cond.selects RX6 yX6_left yX6_left, Cond.code yX6_left cX6_left 4 (some .int), Cond.methodLink RL 57 yX5_slept, Cond.instanceMethod yX5_slept, Cond.selects RX5 yX5_slept yX5_slept, Cond.code yX5_slept cX5_slept 4 (some .int), Cond.instanceMethod yX3_countOf, Cond.selects RX3 yX3_countOf yX3_countOf, Cond.code yX3_countOf cX3_countOf 3 (some .int)]
def wsL_law_r18 : List Cond := [Cond.methodLink RL 60 yX6_slept, Cond.instanceMethod yX6_slept, Cond.selects RX6 yX6_slept yX6_slept, Cond.code yX6_slept cX6_slept 4 (some .int), Cond.methodLink RL 61 yX5_fewest, Cond.instanceMethod yX5_fewest, Cond.selects RX5 yX5_fewest yX5_fewest, Cond.code yX5_fewest cX5_fewest 7 (some .int), Cond.methodLink RX5 137 yX5_sheetsBy, Cond.instanceMethod yX5_sheetsBy, Cond.selects RX5 yX5_sheetsBy yX5_sheetsBy, Cond.code yX5_sheetsBy cX5_sheetsBy 2 (some .int), Cond.instanceMethod yX3_allSheets, Cond.selects RX3 yX3_allSheets yX3_allSheets, Cond.code yX3_allSheets cX3_allSheets 3 (some .int), Cond.methodLink RL 64 yX6_fewest, Cond.instanceMethod yX6_fewest, Cond.selects RX6 yX6_fewest yX6_fewest, Cond.code yX6_fewest cX6_fewest 10 (some .int), Cond.methodLink RL 65 yX5_when, Cond.instanceMethod yX5_when, Cond.selects RX5 yX5_when yX5_when, Cond.code yX5_when cX5_when 8 (some .int), Cond.instanceMethod yX0_names]
def wsL_law_r19 : List Cond := [Cond.selects RX0 yX0_names yX0_names, Cond.code yX0_names cX0_names 4 (some .boolean), Cond.methodLink RX5 143 yX5_refusalOfComing, Cond.instanceMethod yX5_refusalOfComing, Cond.selects RX5 yX5_refusalOfComing yX5_refusalOfComing, Cond.code yX5_refusalOfComing cX5_refusalOfComing 3 (some .int), Cond.methodLink RX5 146 yX5_tryAllPlaces, Cond.instanceMethod yX5_tryAllPlaces, Cond.selects RX5 yX5_tryAllPlaces yX5_tryAllPlaces, Cond.code yX5_tryAllPlaces cX5_tryAllPlaces 4 none, Cond.instanceMethod yX3_standAs, Cond.selects RX3 yX3_standAs yX3_standAs, Cond.code yX3_standAs cX3_standAs 2 none, Cond.methodLink RX3 73 arraycopyName, Cond.native arraycopyName, Cond.static arraycopyName, Cond.initialized "java/lang/System", Cond.methodLink RX5 149 yX5_bedComingAt, Cond.instanceMethod yX5_bedComingAt, Cond.selects RX5 yX5_bedComingAt yX5_bedComingAt, Cond.code yX5_bedComingAt cX5_bedComingAt 2 (some .int), Cond.methodLink RL 68 yX6_when, Cond.instanceMethod yX6_when, Cond.selects RX6 yX6_when yX6_when]
def wsL_law_r20 : List Cond := [Cond.code yX6_when cX6_when 8 (some .int), Cond.methodLink RX6 153 yX6_isInDay, Cond.instanceMethod yX6_isInDay, Cond.selects RX6 yX6_isInDay yX6_isInDay, Cond.code yX6_isInDay cX6_isInDay 4 (some .boolean), Cond.methodLink RX6 156 yX6_barOfComing, Cond.instanceMethod yX6_barOfComing, Cond.selects RX6 yX6_barOfComing yX6_barOfComing, Cond.code yX6_barOfComing cX6_barOfComing 2 (some .int), Cond.methodLink RL 69 yX5_best, Cond.instanceMethod yX5_best, Cond.selects RX5 yX5_best yX5_best, Cond.code yX5_best cX5_best 8 (some .int), Cond.methodLink RX5 152 yX5_worthComingAt, Cond.instanceMethod yX5_worthComingAt, Cond.selects RX5 yX5_worthComingAt yX5_worthComingAt, Cond.code yX5_worthComingAt cX5_worthComingAt 4 (some .int), Cond.methodLink RL 72 yX6_best, Cond.instanceMethod yX6_best, Cond.selects RX6 yX6_best yX6_best, Cond.code yX6_best cX6_best 10 (some .int), Cond.methodLink RL 73 yX5_reach, Cond.instanceMethod yX5_reach, Cond.selects RX5 yX5_reach yX5_reach]
def wsL_law_r21 : List Cond := [Cond.code yX5_reach cX5_reach 4 (some .int), Cond.methodLink RL 76 yX6_reach, Cond.instanceMethod yX6_reach, Cond.selects RX6 yX6_reach yX6_reach, Cond.code yX6_reach cX6_reach 4 (some .int), Cond.methodLink RL 77 yX5_party, Cond.instanceMethod yX5_party, Cond.selects RX5 yX5_party yX5_party, Cond.code yX5_party cX5_party 4 (some .int), Cond.methodLink RX5 161 yJ6_bitCount_0f7a4, Cond.static yJ6_bitCount_0f7a4, Cond.initialized RJ6, Cond.code yJ6_bitCount_0f7a4 cJ6_bitCount_0f7a4 1 (some .int), Cond.constant RJ6 265 (1431655765), Cond.constant RJ6 266 (858993459), Cond.constant RJ6 267 (252645135), Cond.instanceMethod yX4_order, Cond.selects RX4 yX4_order yX4_order, Cond.code yX4_order cX4_order 3 none, Cond.fieldLink RX4 18 "WarmBeds$Party" "most" "I", Cond.fieldLink RX4 28 "WarmBeds$Party" "size" "I", Cond.methodLink RX4 22 yJ6_bitCount_0f7a4, Cond.methodLink RX4 31 yX4_letIn, Cond.static yX4_letIn]
def wsL_law_r22 : List Cond := [Cond.code yX4_letIn cX4_letIn 8 none, Cond.methodLink RX4 35 yX4_keepIfBetter, Cond.instanceMethod yX4_keepIfBetter, Cond.selects RX4 yX4_keepIfBetter yX4_keepIfBetter, Cond.code yX4_keepIfBetter cX4_keepIfBetter 2 none, Cond.methodLink RX4 65 arraycopyName, Cond.instanceMethod yX4_guestAt, Cond.selects RX4 yX4_guestAt yX4_guestAt, Cond.code yX4_guestAt cX4_guestAt 2 (some .int), Cond.methodLink RL 80 yX6_party, Cond.instanceMethod yX6_party, Cond.selects RX6 yX6_party yX6_party, Cond.code yX6_party cX6_party 12 (some .int), Cond.methodLink RX6 162 yX6_nextRow, Cond.instanceMethod yX6_nextRow, Cond.selects RX6 yX6_nextRow yX6_nextRow, Cond.code yX6_nextRow cX6_nextRow 6 (some .boolean), Cond.methodLink RX6 159 yX6_change, Cond.instanceMethod yX6_change, Cond.selects RX6 yX6_change yX6_change, Cond.code yX6_change cX6_change 4 none, Cond.methodLink RL 81 yX5_fleas, Cond.instanceMethod yX5_fleas, Cond.selects RX5 yX5_fleas yX5_fleas]
def wsL_law_r23 : List Cond := [Cond.code yX5_fleas cX5_fleas 4 (some .int), Cond.methodLink RX5 176 yX5_spreadFrom, Cond.instanceMethod yX5_spreadFrom, Cond.selects RX5 yX5_spreadFrom yX5_spreadFrom, Cond.code yX5_spreadFrom cX5_spreadFrom 2 none, Cond.instanceMethod yX3_infest, Cond.selects RX3 yX3_infest yX3_infest, Cond.code yX3_infest cX3_infest 2 none, Cond.methodLink RL 84 yX6_fleas, Cond.instanceMethod yX6_fleas, Cond.selects RX6 yX6_fleas yX6_fleas, Cond.code yX6_fleas cX6_fleas 5 (some .int), Cond.methodLink RX6 165 yX6_layFleas, Cond.instanceMethod yX6_layFleas, Cond.selects RX6 yX6_layFleas yX6_layFleas, Cond.code yX6_layFleas cX6_layFleas 3 (some .int), Cond.methodLink RL 85 yX5_brought, Cond.instanceMethod yX5_brought, Cond.selects RX5 yX5_brought yX5_brought, Cond.code yX5_brought cX5_brought 5 (some .int), Cond.methodLink RL 88 yX6_brought, Cond.instanceMethod yX6_brought, Cond.selects RX6 yX6_brought yX6_brought, Cond.code yX6_brought cX6_brought 6 (some .int)]
def wsL_law_r24 : List Cond := [Cond.methodLink RL 89 yX5_seen, Cond.instanceMethod yX5_seen, Cond.selects RX5 yX5_seen yX5_seen, Cond.code yX5_seen cX5_seen 3 (some .int), Cond.instanceMethod yX2_addSight, Cond.selects RX2 yX2_addSight yX2_addSight, Cond.code yX2_addSight cX2_addSight 3 none, Cond.methodLink RL 92 yX6_seen, Cond.instanceMethod yX6_seen, Cond.selects RX6 yX6_seen yX6_seen, Cond.code yX6_seen cX6_seen 3 (some .int), Cond.methodLink RL 93 yX5_forget, Cond.instanceMethod yX5_forget, Cond.selects RX5 yX5_forget yX5_forget, Cond.code yX5_forget cX5_forget 2 (some .int), Cond.methodLink RL 96 yX6_forget, Cond.instanceMethod yX6_forget, Cond.selects RX6 yX6_forget yX6_forget, Cond.code yX6_forget cX6_forget 2 (some .int), Cond.methodLink RL 97 yX5_filled, Cond.instanceMethod yX5_filled, Cond.selects RX5 yX5_filled yX5_filled, Cond.code yX5_filled cX5_filled 2 (some .int), Cond.instanceMethod yX1_search]
def wsL_law_r25 : List Cond := [Cond.selects RX1 yX1_search yX1_search, Cond.code yX1_search cX1_search 5 none, Cond.fieldLink RX1 21 "WarmBeds$Guesses" "ways" "I", Cond.fieldLink RX1 25 "WarmBeds$Guesses" "untold" "I", Cond.methodLink RX1 48 yX1_fillFrom, Cond.static yX1_fillFrom, Cond.code yX1_fillFrom cX1_fillFrom 8 none, Cond.methodLink RX1 59 yX1_keepIfSeen, Cond.instanceMethod yX1_keepIfSeen, Cond.selects RX1 yX1_keepIfSeen yX1_keepIfSeen, Cond.code yX1_keepIfSeen cX1_keepIfSeen 3 none, Cond.methodLink RX1 85 arraycopyName, Cond.instanceMethod yX2_allSightsHold, Cond.selects RX2 yX2_allSightsHold yX2_allSightsHold, Cond.code yX2_allSightsHold cX2_allSightsHold 3 (some .boolean), Cond.instanceMethod yX1_firstAt, Cond.selects RX1 yX1_firstAt yX1_firstAt, Cond.code yX1_firstAt cX1_firstAt 2 (some .int), Cond.methodLink RX1 91 yX1_isUntold, Cond.instanceMethod yX1_isUntold, Cond.selects RX1 yX1_isUntold yX1_isUntold, Cond.code yX1_isUntold cX1_isUntold 2 (some .boolean), Cond.methodLink RL 100 yX6_filled, Cond.instanceMethod yX6_filled]
def wsL_law_r26 : List Cond := [Cond.selects RX6 yX6_filled yX6_filled, Cond.code yX6_filled cX6_filled 5 (some .int), Cond.methodLink RX6 168 yX6_codes, Cond.instanceMethod yX6_codes, Cond.selects RX6 yX6_codes yX6_codes, Cond.code yX6_codes cX6_codes 3 (some .int), Cond.methodLink RX6 171 yX6_isFit, Cond.instanceMethod yX6_isFit, Cond.selects RX6 yX6_isFit yX6_isFit, Cond.code yX6_isFit cX6_isFit 4 (some .boolean), Cond.methodLink RX6 174 yX6_guestAt, Cond.instanceMethod yX6_guestAt, Cond.selects RX6 yX6_guestAt yX6_guestAt, Cond.code yX6_guestAt cX6_guestAt 5 (some .int), Cond.methodLink RL 101 yX5_could, Cond.instanceMethod yX5_could, Cond.selects RX5 yX5_could yX5_could, Cond.code yX5_could cX5_could 2 (some .int), Cond.instanceMethod yX1_suspectsAt, Cond.selects RX1 yX1_suspectsAt yX1_suspectsAt, Cond.code yX1_suspectsAt cX1_suspectsAt 2 (some .int), Cond.methodLink RL 104 yX6_could, Cond.instanceMethod yX6_could, Cond.selects RX6 yX6_could yX6_could]
def wsL_law_r27 : List Cond := [Cond.code yX6_could cX6_could 4 (some .int), Cond.methodLink RL 105 yX5_chance, Cond.instanceMethod yX5_chance, Cond.selects RX5 yX5_chance yX5_chance, Cond.code yX5_chance cX5_chance 6 (some .long), Cond.constantLong RX5 205 (-1000000000000000001), Cond.constantLong RX5 207 (-1000000000000000002), Cond.constantLong RX5 209 (-1000000000000000000), Cond.methodLink RX5 211 yX5_weightOf, Cond.static yX5_weightOf, Cond.code yX5_weightOf cX5_weightOf 9 (some .long), Cond.instanceMethod yX3_emptyLeastBed, Cond.selects RX3 yX3_emptyLeastBed yX3_emptyLeastBed, Cond.code yX3_emptyLeastBed cX3_emptyLeastBed 2 none, Cond.methodLink RX5 215 yX5_partInLowestTerms, Cond.static yX5_partInLowestTerms, Cond.code yX5_partInLowestTerms cX5_partInLowestTerms 9 (some .long), Cond.constantLong RX5 256 (10), Cond.constantLong RX5 258 (2), Cond.constantLong RX5 260 (5), Cond.methodLink RL 109 yX6_chance, Cond.instanceMethod yX6_chance, Cond.selects RX6 yX6_chance yX6_chance, Cond.code yX6_chance cX6_chance 16 (some .long)]
def wsL_law_r28 : List Cond := [Cond.constantLong RX6 177 (-1000000000000000001), Cond.constantLong RX6 179 (-1000000000000000002), Cond.constantLong RX6 181 (-1000000000000000000), Cond.constantLong RX6 183 (10), Cond.methodLink RX6 185 yX6_power, Cond.static yX6_power, Cond.code yX6_power cX6_power 6 (some .long), Cond.methodLink RL 110 yX5_year, Cond.instanceMethod yX5_year, Cond.selects RX5 yX5_year yX5_year, Cond.code yX5_year cX5_year 7 (some .int), Cond.constant RX5 219 (65537), Cond.instanceMethod yX3_timesUsed, Cond.selects RX3 yX3_timesUsed yX3_timesUsed, Cond.code yX3_timesUsed cX3_timesUsed 2 (some .int), Cond.methodLink RL 113 yX6_year, Cond.instanceMethod yX6_year, Cond.selects RX6 yX6_year yX6_year, Cond.code yX6_year cX6_year 7 (some .int), Cond.constant RX6 189 (65537), Cond.methodLink RL 114 yX5_image, Cond.instanceMethod yX5_image, Cond.selects RX5 yX5_image yX5_image, Cond.code yX5_image cX5_image 3 (some .int)]
def wsL_law_r29 : List Cond := [Cond.instanceMethod yX2_copy, Cond.selects RX2 yX2_copy yX2_copy, Cond.code yX2_copy cX2_copy 2 none, Cond.fieldLink RX2 38 "WarmBeds$House" "law" "I", Cond.methodLink RX2 41 arraycopyName, Cond.methodLink RL 117 yX6_image, Cond.instanceMethod yX6_image, Cond.selects RX6 yX6_image yX6_image, Cond.code yX6_image cX6_image 4 (some .int), Cond.methodLink RL 118 yX5_restore, Cond.instanceMethod yX5_restore, Cond.selects RX5 yX5_restore yX5_restore, Cond.code yX5_restore cX5_restore 3 (some .int), Cond.methodLink RL 121 yX6_restore, Cond.instanceMethod yX6_restore, Cond.selects RX6 yX6_restore yX6_restore, Cond.code yX6_restore cX6_restore 4 (some .int), Cond.methodLink RL 122 yX5_told, Cond.instanceMethod yX5_told, Cond.selects RX5 yX5_told yX5_told, Cond.code yX5_told cX5_told 2 (some .int), Cond.methodLink RX5 237 yX5_worthTold, Cond.instanceMethod yX5_worthTold, Cond.selects RX5 yX5_worthTold yX5_worthTold]
def wsL_law_r30 : List Cond := [Cond.code yX5_worthTold cX5_worthTold 4 (some .int), Cond.methodLink RL 125 yX6_told, Cond.instanceMethod yX6_told, Cond.selects RX6 yX6_told yX6_told, Cond.code yX6_told cX6_told 2 (some .int)]
def wsL_law : List Cond := (wsL_law_r1 ++ (wsL_law_r2 ++ (wsL_law_r3 ++ (wsL_law_r4 ++ (wsL_law_r5 ++ (wsL_law_r6 ++ (wsL_law_r7 ++ (wsL_law_r8 ++ (wsL_law_r9 ++ (wsL_law_r10 ++ (wsL_law_r11 ++ (wsL_law_r12 ++ (wsL_law_r13 ++ (wsL_law_r14 ++ (wsL_law_r15 ++ (wsL_law_r16 ++ (wsL_law_r17 ++ (wsL_law_r18 ++ (wsL_law_r19 ++ (wsL_law_r20 ++ (wsL_law_r21 ++ (wsL_law_r22 ++ (wsL_law_r23 ++ (wsL_law_r24 ++ (wsL_law_r25 ++ (wsL_law_r26 ++ (wsL_law_r27 ++ (wsL_law_r28 ++ (wsL_law_r29 ++ wsL_law_r30))))))))))))))))))))))))))))) ++ wsX50 ++ wsX60 ++ wsX20 ++ wsX00 ++ wsX40 ++ wsX10 ++ wsX30 ++ ([] : List Cond)
theorem inlX0 : ∀ w ∈ wsX00, w ∈ wsL_law := fun _ h => List.mem_append_left _ (List.mem_append_left _ (List.mem_append_left _ (List.mem_append_left _ (List.mem_append_right _ h))))
theorem inlX1 : ∀ w ∈ wsX10, w ∈ wsL_law := fun _ h => List.mem_append_left _ (List.mem_append_left _ (List.mem_append_right _ h))
theorem inlX2 : ∀ w ∈ wsX20, w ∈ wsL_law := fun _ h => List.mem_append_left _ (List.mem_append_left _ (List.mem_append_left _ (List.mem_append_left _ (List.mem_append_left _ (List.mem_append_right _ h)))))
theorem inlX3 : ∀ w ∈ wsX30, w ∈ wsL_law := fun _ h => List.mem_append_left _ (List.mem_append_right _ h)
theorem inlX4 : ∀ w ∈ wsX40, w ∈ wsL_law := fun _ h => List.mem_append_left _ (List.mem_append_left _ (List.mem_append_left _ (List.mem_append_right _ h)))
theorem inlX5 : ∀ w ∈ wsX50, w ∈ wsL_law := fun _ h => List.mem_append_left _ (List.mem_append_left _ (List.mem_append_left _ (List.mem_append_left _ (List.mem_append_left _ (List.mem_append_left _ (List.mem_append_left _ (List.mem_append_right _ h)))))))
theorem inlX6 : ∀ w ∈ wsX60, w ∈ wsL_law := fun _ h => List.mem_append_left _ (List.mem_append_left _ (List.mem_append_left _ (List.mem_append_left _ (List.mem_append_left _ (List.mem_append_left _ (List.mem_append_right _ h))))))
abbrev vwCl : List vw_C := [(RX0, TX0, 2), (RX1, TX1, 5), (RX2, TX2, 7), (RX3, TX3, 16), (RX4, TX4, 4), (RX5, TX5, 8), (RX6, TX6, 23)]
end
section
theorem wr_1 : ∀ w ∈ wsL_law_r1, w ∈ lw_tbl := List.forall_mem_cons.mpr ⟨List.mem_append_right _ (List.mem_of_getElem? (i := 10) (by decide +kernel)), List.forall_mem_cons.mpr ⟨List.mem_append_right _ (List.mem_of_getElem? (i := 11) (by decide +kernel)), List.forall_mem_cons.mpr ⟨List.mem_append_right _ (List.mem_of_getElem? (i := 1) (by decide +kernel)), List.forall_mem_cons.mpr ⟨List.mem_append_right _ (List.mem_of_getElem? (i := 606) (by decide +kernel)), List.forall_mem_cons.mpr ⟨List.mem_append_right _ (List.mem_of_getElem? (i := 607) (by decide +kernel)), List.forall_mem_cons.mpr ⟨List.mem_append_right _ (List.mem_of_getElem? (i := 7) (by decide +kernel)), List.forall_mem_cons.mpr ⟨List.mem_append_right _ (List.mem_of_getElem? (i := 12) (by decide +kernel)), List.forall_mem_cons.mpr ⟨List.mem_append_right _ (List.mem_of_getElem? (i := 13) (by decide +kernel)), List.forall_mem_cons.mpr ⟨List.mem_append_right _ (List.mem_of_getElem? (i := 14) (by decide +kernel)), List.forall_mem_cons.mpr ⟨List.mem_append_right _ (List.mem_of_getElem? (i := 15) (by decide +kernel)), List.forall_mem_cons.mpr ⟨List.mem_append_right _ (List.mem_of_getElem? (i := 16) (by decide +kernel)), List.forall_mem_cons.mpr ⟨List.mem_append_right _ (List.mem_of_getElem? (i := 17) (by decide +kernel)), List.forall_mem_cons.mpr ⟨List.mem_append_right _ (List.mem_of_getElem? (i := 18) (by decide +kernel)), List.forall_mem_cons.mpr ⟨List.mem_append_right _ (List.mem_of_getElem? (i := 19) (by decide +kernel)), List.forall_mem_cons.mpr ⟨List.mem_append_right _ (List.mem_of_getElem? (i := 2) (by decide +kernel)), List.forall_mem_cons.mpr ⟨List.mem_append_right _ (List.mem_of_getElem? (i := 174) (by decide +kernel)), List.forall_mem_cons.mpr ⟨List.mem_append_right _ (List.mem_of_getElem? (i := 175) (by decide +kernel)), List.forall_mem_cons.mpr ⟨List.mem_append_right _ (List.mem_of_getElem? (i := 176) (by decide +kernel)), List.forall_mem_cons.mpr ⟨List.mem_append_right _ (List.mem_of_getElem? (i := 52) (by decide +kernel)), List.forall_mem_cons.mpr ⟨List.mem_append_right _ (List.mem_of_getElem? (i := 53) (by decide +kernel)), List.forall_mem_cons.mpr ⟨List.mem_append_right _ (List.mem_of_getElem? (i := 3) (by decide +kernel)), List.forall_mem_cons.mpr ⟨List.mem_append_right _ (List.mem_of_getElem? (i := 177) (by decide +kernel)), List.forall_mem_cons.mpr ⟨List.mem_append_right _ (List.mem_of_getElem? (i := 67) (by decide +kernel)), List.forall_mem_cons.mpr ⟨List.mem_append_right _ (List.mem_of_getElem? (i := 68) (by decide +kernel)), fun _ h => absurd h List.not_mem_nil⟩⟩⟩⟩⟩⟩⟩⟩⟩⟩⟩⟩⟩⟩⟩⟩⟩⟩⟩⟩⟩⟩⟩⟩
theorem wr_2 : ∀ w ∈ wsL_law_r2, w ∈ lw_tbl := List.forall_mem_cons.mpr ⟨List.mem_append_right _ (List.mem_of_getElem? (i := 4) (by decide +kernel)), List.forall_mem_cons.mpr ⟨List.mem_append_right _ (List.mem_of_getElem? (i := 178) (by decide +kernel)), List.forall_mem_cons.mpr ⟨List.mem_append_right _ (List.mem_of_getElem? (i := 87) (by decide +kernel)), List.forall_mem_cons.mpr ⟨List.mem_append_right _ (List.mem_of_getElem? (i := 88) (by decide +kernel)), List.forall_mem_cons.mpr ⟨List.mem_append_right _ (List.mem_of_getElem? (i := 5) (by decide +kernel)), List.forall_mem_cons.mpr ⟨List.mem_append_right _ (List.mem_of_getElem? (i := 179) (by decide +kernel)), List.forall_mem_cons.mpr ⟨List.mem_append_right _ (List.mem_of_getElem? (i := 51) (by decide +kernel)), List.forall_mem_cons.mpr ⟨List.mem_append_right _ (List.mem_of_getElem? (i := 181) (by decide +kernel)), List.forall_mem_cons.mpr ⟨List.mem_append_right _ (List.mem_of_getElem? (i := 110) (by decide +kernel)), List.forall_mem_cons.mpr ⟨List.mem_append_right _ (List.mem_of_getElem? (i := 111) (by decide +kernel)), List.forall_mem_cons.mpr ⟨List.mem_append_right _ (List.mem_of_getElem? (i := 6) (by decide +kernel)), List.forall_mem_cons.mpr ⟨List.mem_append_right _ (List.mem_of_getElem? (i := 180) (by decide +kernel)), List.forall_mem_cons.mpr ⟨List.mem_append_right _ (List.mem_of_getElem? (i := 21) (by decide +kernel)), List.forall_mem_cons.mpr ⟨List.mem_append_right _ (List.mem_of_getElem? (i := 22) (by decide +kernel)), List.forall_mem_cons.mpr ⟨List.mem_append_right _ (List.mem_of_getElem? (i := 23) (by decide +kernel)), List.forall_mem_cons.mpr ⟨List.mem_append_right _ (List.mem_of_getElem? (i := 24) (by decide +kernel)), List.forall_mem_cons.mpr ⟨List.mem_append_right _ (List.mem_of_getElem? (i := 33) (by decide +kernel)), List.forall_mem_cons.mpr ⟨List.mem_append_right _ (List.mem_of_getElem? (i := 34) (by decide +kernel)), List.forall_mem_cons.mpr ⟨List.mem_append_right _ (List.mem_of_getElem? (i := 35) (by decide +kernel)), List.forall_mem_cons.mpr ⟨List.mem_append_right _ (List.mem_of_getElem? (i := 55) (by decide +kernel)), List.forall_mem_cons.mpr ⟨List.mem_append_right _ (List.mem_of_getElem? (i := 56) (by decide +kernel)), List.forall_mem_cons.mpr ⟨List.mem_append_right _ (List.mem_of_getElem? (i := 57) (by decide +kernel)), List.forall_mem_cons.mpr ⟨List.mem_append_right _ (List.mem_of_getElem? (i := 61) (by decide +kernel)), List.forall_mem_cons.mpr ⟨List.mem_append_right _ (List.mem_of_getElem? (i := 70) (by decide +kernel)), fun _ h => absurd h List.not_mem_nil⟩⟩⟩⟩⟩⟩⟩⟩⟩⟩⟩⟩⟩⟩⟩⟩⟩⟩⟩⟩⟩⟩⟩⟩
theorem wr_3 : ∀ w ∈ wsL_law_r3, w ∈ lw_tbl := List.forall_mem_cons.mpr ⟨List.mem_append_right _ (List.mem_of_getElem? (i := 71) (by decide +kernel)), List.forall_mem_cons.mpr ⟨List.mem_append_right _ (List.mem_of_getElem? (i := 72) (by decide +kernel)), List.forall_mem_cons.mpr ⟨List.mem_append_right _ (List.mem_of_getElem? (i := 76) (by decide +kernel)), List.forall_mem_cons.mpr ⟨List.mem_append_right _ (List.mem_of_getElem? (i := 77) (by decide +kernel)), List.forall_mem_cons.mpr ⟨List.mem_append_right _ (List.mem_of_getElem? (i := 90) (by decide +kernel)), List.forall_mem_cons.mpr ⟨List.mem_append_right _ (List.mem_of_getElem? (i := 91) (by decide +kernel)), List.forall_mem_cons.mpr ⟨List.mem_append_right _ (List.mem_of_getElem? (i := 92) (by decide +kernel)), List.forall_mem_cons.mpr ⟨List.mem_append_right _ (List.mem_of_getElem? (i := 96) (by decide +kernel)), List.forall_mem_cons.mpr ⟨List.mem_append_right _ (List.mem_of_getElem? (i := 97) (by decide +kernel)), List.forall_mem_cons.mpr ⟨List.mem_append_right _ (List.mem_of_getElem? (i := 98) (by decide +kernel)), List.forall_mem_cons.mpr ⟨List.mem_append_right _ (List.mem_of_getElem? (i := 113) (by decide +kernel)), List.forall_mem_cons.mpr ⟨List.mem_append_right _ (List.mem_of_getElem? (i := 114) (by decide +kernel)), List.forall_mem_cons.mpr ⟨List.mem_append_right _ (List.mem_of_getElem? (i := 115) (by decide +kernel)), List.forall_mem_cons.mpr ⟨List.mem_append_right _ (List.mem_of_getElem? (i := 126) (by decide +kernel)), List.forall_mem_cons.mpr ⟨List.mem_append_right _ (List.mem_of_getElem? (i := 127) (by decide +kernel)), List.forall_mem_cons.mpr ⟨List.mem_append_right _ (List.mem_of_getElem? (i := 129) (by decide +kernel)), List.forall_mem_cons.mpr ⟨List.mem_append_right _ (List.mem_of_getElem? (i := 132) (by decide +kernel)), List.forall_mem_cons.mpr ⟨List.mem_append_right _ (List.mem_of_getElem? (i := 133) (by decide +kernel)), List.forall_mem_cons.mpr ⟨List.mem_append_right _ (List.mem_of_getElem? (i := 134) (by decide +kernel)), List.forall_mem_cons.mpr ⟨List.mem_append_right _ (List.mem_of_getElem? (i := 135) (by decide +kernel)), List.forall_mem_cons.mpr ⟨List.mem_append_right _ (List.mem_of_getElem? (i := 116) (by decide +kernel)), List.forall_mem_cons.mpr ⟨List.mem_append_right _ (List.mem_of_getElem? (i := 119) (by decide +kernel)), List.forall_mem_cons.mpr ⟨List.mem_append_right _ (List.mem_of_getElem? (i := 608) (by decide +kernel)), List.forall_mem_cons.mpr ⟨List.mem_append_right _ (List.mem_of_getElem? (i := 609) (by decide +kernel)), fun _ h => absurd h List.not_mem_nil⟩⟩⟩⟩⟩⟩⟩⟩⟩⟩⟩⟩⟩⟩⟩⟩⟩⟩⟩⟩⟩⟩⟩⟩
theorem wr_4 : ∀ w ∈ wsL_law_r4, w ∈ lw_tbl := List.forall_mem_cons.mpr ⟨List.mem_append_right _ (List.mem_of_getElem? (i := 610) (by decide +kernel)), List.forall_mem_cons.mpr ⟨List.mem_append_right _ (List.mem_of_getElem? (i := 611) (by decide +kernel)), List.forall_mem_cons.mpr ⟨List.mem_append_right _ (List.mem_of_getElem? (i := 612) (by decide +kernel)), List.forall_mem_cons.mpr ⟨List.mem_append_right _ (List.mem_of_getElem? (i := 614) (by decide +kernel)), List.forall_mem_cons.mpr ⟨List.mem_append_right _ (List.mem_of_getElem? (i := 616) (by decide +kernel)), List.forall_mem_cons.mpr ⟨List.mem_append_right _ (List.mem_of_getElem? (i := 618) (by decide +kernel)), List.forall_mem_cons.mpr ⟨List.mem_append_right _ (List.mem_of_getElem? (i := 619) (by decide +kernel)), List.forall_mem_cons.mpr ⟨List.mem_append_right _ (List.mem_of_getElem? (i := 621) (by decide +kernel)), List.forall_mem_cons.mpr ⟨List.mem_append_right _ (List.mem_of_getElem? (i := 623) (by decide +kernel)), List.forall_mem_cons.mpr ⟨List.mem_append_right _ (List.mem_of_getElem? (i := 624) (by decide +kernel)), List.forall_mem_cons.mpr ⟨List.mem_append_right _ (List.mem_of_getElem? (i := 625) (by decide +kernel)), List.forall_mem_cons.mpr ⟨List.mem_append_right _ (List.mem_of_getElem? (i := 626) (by decide +kernel)), List.forall_mem_cons.mpr ⟨List.mem_append_right _ (List.mem_of_getElem? (i := 627) (by decide +kernel)), List.forall_mem_cons.mpr ⟨List.mem_append_right _ (List.mem_of_getElem? (i := 631) (by decide +kernel)), List.forall_mem_cons.mpr ⟨List.mem_append_right _ (List.mem_of_getElem? (i := 632) (by decide +kernel)), List.forall_mem_cons.mpr ⟨List.mem_append_right _ (List.mem_of_getElem? (i := 633) (by decide +kernel)), List.forall_mem_cons.mpr ⟨List.mem_append_right _ (List.mem_of_getElem? (i := 682) (by decide +kernel)), List.forall_mem_cons.mpr ⟨List.mem_append_right _ (List.mem_of_getElem? (i := 634) (by decide +kernel)), List.forall_mem_cons.mpr ⟨List.mem_append_right _ (List.mem_of_getElem? (i := 613) (by decide +kernel)), List.forall_mem_cons.mpr ⟨List.mem_append_right _ (List.mem_of_getElem? (i := 199) (by decide +kernel)), List.forall_mem_cons.mpr ⟨List.mem_append_right _ (List.mem_of_getElem? (i := 200) (by decide +kernel)), List.forall_mem_cons.mpr ⟨List.mem_append_right _ (List.mem_of_getElem? (i := 201) (by decide +kernel)), List.forall_mem_cons.mpr ⟨List.mem_append_right _ (List.mem_of_getElem? (i := 202) (by decide +kernel)), List.forall_mem_cons.mpr ⟨List.mem_append_right _ (List.mem_of_getElem? (i := 205) (by decide +kernel)), fun _ h => absurd h List.not_mem_nil⟩⟩⟩⟩⟩⟩⟩⟩⟩⟩⟩⟩⟩⟩⟩⟩⟩⟩⟩⟩⟩⟩⟩⟩
theorem wr_5 : ∀ w ∈ wsL_law_r5, w ∈ lw_tbl := List.forall_mem_cons.mpr ⟨List.mem_append_left _ (List.mem_of_getElem? (i := 0) (by decide +kernel)), List.forall_mem_cons.mpr ⟨List.mem_append_right _ (List.mem_of_getElem? (i := 206) (by decide +kernel)), List.forall_mem_cons.mpr ⟨List.mem_append_right _ (List.mem_of_getElem? (i := 30) (by decide +kernel)), List.forall_mem_cons.mpr ⟨List.mem_append_right _ (List.mem_of_getElem? (i := 683) (by decide +kernel)), List.forall_mem_cons.mpr ⟨List.mem_append_right _ (List.mem_of_getElem? (i := 684) (by decide +kernel)), List.forall_mem_cons.mpr ⟨List.mem_append_right _ (List.mem_of_getElem? (i := 685) (by decide +kernel)), List.forall_mem_cons.mpr ⟨List.mem_append_right _ (List.mem_of_getElem? (i := 686) (by decide +kernel)), List.forall_mem_cons.mpr ⟨List.mem_append_right _ (List.mem_of_getElem? (i := 615) (by decide +kernel)), List.forall_mem_cons.mpr ⟨List.mem_append_right _ (List.mem_of_getElem? (i := 687) (by decide +kernel)), List.forall_mem_cons.mpr ⟨List.mem_append_right _ (List.mem_of_getElem? (i := 688) (by decide +kernel)), List.forall_mem_cons.mpr ⟨List.mem_append_right _ (List.mem_of_getElem? (i := 689) (by decide +kernel)), List.forall_mem_cons.mpr ⟨List.mem_append_right _ (List.mem_of_getElem? (i := 207) (by decide +kernel)), List.forall_mem_cons.mpr ⟨List.mem_append_right _ (List.mem_of_getElem? (i := 208) (by decide +kernel)), List.forall_mem_cons.mpr ⟨List.mem_append_right _ (List.mem_of_getElem? (i := 209) (by decide +kernel)), List.forall_mem_cons.mpr ⟨List.mem_append_right _ (List.mem_of_getElem? (i := 210) (by decide +kernel)), List.forall_mem_cons.mpr ⟨List.mem_append_right _ (List.mem_of_getElem? (i := 211) (by decide +kernel)), List.forall_mem_cons.mpr ⟨List.mem_append_right _ (List.mem_of_getElem? (i := 212) (by decide +kernel)), List.forall_mem_cons.mpr ⟨List.mem_append_right _ (List.mem_of_getElem? (i := 213) (by decide +kernel)), List.forall_mem_cons.mpr ⟨List.mem_append_right _ (List.mem_of_getElem? (i := 214) (by decide +kernel)), List.forall_mem_cons.mpr ⟨List.mem_append_right _ (List.mem_of_getElem? (i := 216) (by decide +kernel)), List.forall_mem_cons.mpr ⟨List.mem_append_left _ (List.mem_of_getElem? (i := 1) (by decide +kernel)), List.forall_mem_cons.mpr ⟨List.mem_append_right _ (List.mem_of_getElem? (i := 217) (by decide +kernel)), List.forall_mem_cons.mpr ⟨List.mem_append_right _ (List.mem_of_getElem? (i := 220) (by decide +kernel)), List.forall_mem_cons.mpr ⟨List.mem_append_left _ (List.mem_of_getElem? (i := 2) (by decide +kernel)), fun _ h => absurd h List.not_mem_nil⟩⟩⟩⟩⟩⟩⟩⟩⟩⟩⟩⟩⟩⟩⟩⟩⟩⟩⟩⟩⟩⟩⟩⟩
theorem wr_6 : ∀ w ∈ wsL_law_r6, w ∈ lw_tbl := List.forall_mem_cons.mpr ⟨List.mem_append_right _ (List.mem_of_getElem? (i := 221) (by decide +kernel)), List.forall_mem_cons.mpr ⟨List.mem_append_right _ (List.mem_of_getElem? (i := 224) (by decide +kernel)), List.forall_mem_cons.mpr ⟨List.mem_append_left _ (List.mem_of_getElem? (i := 3) (by decide +kernel)), List.forall_mem_cons.mpr ⟨List.mem_append_right _ (List.mem_of_getElem? (i := 225) (by decide +kernel)), List.forall_mem_cons.mpr ⟨List.mem_append_right _ (List.mem_of_getElem? (i := 690) (by decide +kernel)), List.forall_mem_cons.mpr ⟨List.mem_append_right _ (List.mem_of_getElem? (i := 691) (by decide +kernel)), List.forall_mem_cons.mpr ⟨List.mem_append_right _ (List.mem_of_getElem? (i := 692) (by decide +kernel)), List.forall_mem_cons.mpr ⟨List.mem_append_right _ (List.mem_of_getElem? (i := 693) (by decide +kernel)), List.forall_mem_cons.mpr ⟨List.mem_append_right _ (List.mem_of_getElem? (i := 694) (by decide +kernel)), List.forall_mem_cons.mpr ⟨List.mem_append_right _ (List.mem_of_getElem? (i := 695) (by decide +kernel)), List.forall_mem_cons.mpr ⟨List.mem_append_right _ (List.mem_of_getElem? (i := 696) (by decide +kernel)), List.forall_mem_cons.mpr ⟨List.mem_append_right _ (List.mem_of_getElem? (i := 697) (by decide +kernel)), List.forall_mem_cons.mpr ⟨List.mem_append_right _ (List.mem_of_getElem? (i := 699) (by decide +kernel)), List.forall_mem_cons.mpr ⟨List.mem_append_left _ (List.mem_of_getElem? (i := 57) (by decide +kernel)), List.forall_mem_cons.mpr ⟨List.mem_append_right _ (List.mem_of_getElem? (i := 700) (by decide +kernel)), List.forall_mem_cons.mpr ⟨List.mem_append_right _ (List.mem_of_getElem? (i := 227) (by decide +kernel)), List.forall_mem_cons.mpr ⟨List.mem_append_right _ (List.mem_of_getElem? (i := 228) (by decide +kernel)), List.forall_mem_cons.mpr ⟨List.mem_append_right _ (List.mem_of_getElem? (i := 229) (by decide +kernel)), List.forall_mem_cons.mpr ⟨List.mem_append_right _ (List.mem_of_getElem? (i := 230) (by decide +kernel)), List.forall_mem_cons.mpr ⟨List.mem_append_right _ (List.mem_of_getElem? (i := 701) (by decide +kernel)), List.forall_mem_cons.mpr ⟨List.mem_append_right _ (List.mem_of_getElem? (i := 702) (by decide +kernel)), List.forall_mem_cons.mpr ⟨List.mem_append_right _ (List.mem_of_getElem? (i := 703) (by decide +kernel)), List.forall_mem_cons.mpr ⟨List.mem_append_right _ (List.mem_of_getElem? (i := 704) (by decide +kernel)), List.forall_mem_cons.mpr ⟨List.mem_append_right _ (List.mem_of_getElem? (i := 231) (by decide +kernel)), fun _ h => absurd h List.not_mem_nil⟩⟩⟩⟩⟩⟩⟩⟩⟩⟩⟩⟩⟩⟩⟩⟩⟩⟩⟩⟩⟩⟩⟩⟩
theorem wr_7 : ∀ w ∈ wsL_law_r7, w ∈ lw_tbl := List.forall_mem_cons.mpr ⟨List.mem_append_right _ (List.mem_of_getElem? (i := 232) (by decide +kernel)), List.forall_mem_cons.mpr ⟨List.mem_append_right _ (List.mem_of_getElem? (i := 233) (by decide +kernel)), List.forall_mem_cons.mpr ⟨List.mem_append_right _ (List.mem_of_getElem? (i := 234) (by decide +kernel)), List.forall_mem_cons.mpr ⟨List.mem_append_right _ (List.mem_of_getElem? (i := 237) (by decide +kernel)), List.forall_mem_cons.mpr ⟨List.mem_append_left _ (List.mem_of_getElem? (i := 4) (by decide +kernel)), List.forall_mem_cons.mpr ⟨List.mem_append_right _ (List.mem_of_getElem? (i := 238) (by decide +kernel)), List.forall_mem_cons.mpr ⟨List.mem_append_right _ (List.mem_of_getElem? (i := 58) (by decide +kernel)), List.forall_mem_cons.mpr ⟨List.mem_append_right _ (List.mem_of_getElem? (i := 241) (by decide +kernel)), List.forall_mem_cons.mpr ⟨List.mem_append_left _ (List.mem_of_getElem? (i := 5) (by decide +kernel)), List.forall_mem_cons.mpr ⟨List.mem_append_right _ (List.mem_of_getElem? (i := 242) (by decide +kernel)), List.forall_mem_cons.mpr ⟨List.mem_append_right _ (List.mem_of_getElem? (i := 705) (by decide +kernel)), List.forall_mem_cons.mpr ⟨List.mem_append_right _ (List.mem_of_getElem? (i := 706) (by decide +kernel)), List.forall_mem_cons.mpr ⟨List.mem_append_right _ (List.mem_of_getElem? (i := 707) (by decide +kernel)), List.forall_mem_cons.mpr ⟨List.mem_append_right _ (List.mem_of_getElem? (i := 708) (by decide +kernel)), List.forall_mem_cons.mpr ⟨List.mem_append_right _ (List.mem_of_getElem? (i := 617) (by decide +kernel)), List.forall_mem_cons.mpr ⟨List.mem_append_right _ (List.mem_of_getElem? (i := 243) (by decide +kernel)), List.forall_mem_cons.mpr ⟨List.mem_append_right _ (List.mem_of_getElem? (i := 244) (by decide +kernel)), List.forall_mem_cons.mpr ⟨List.mem_append_right _ (List.mem_of_getElem? (i := 245) (by decide +kernel)), List.forall_mem_cons.mpr ⟨List.mem_append_right _ (List.mem_of_getElem? (i := 246) (by decide +kernel)), List.forall_mem_cons.mpr ⟨List.mem_append_right _ (List.mem_of_getElem? (i := 709) (by decide +kernel)), List.forall_mem_cons.mpr ⟨List.mem_append_right _ (List.mem_of_getElem? (i := 710) (by decide +kernel)), List.forall_mem_cons.mpr ⟨List.mem_append_right _ (List.mem_of_getElem? (i := 711) (by decide +kernel)), List.forall_mem_cons.mpr ⟨List.mem_append_right _ (List.mem_of_getElem? (i := 712) (by decide +kernel)), List.forall_mem_cons.mpr ⟨List.mem_append_right _ (List.mem_of_getElem? (i := 247) (by decide +kernel)), fun _ h => absurd h List.not_mem_nil⟩⟩⟩⟩⟩⟩⟩⟩⟩⟩⟩⟩⟩⟩⟩⟩⟩⟩⟩⟩⟩⟩⟩⟩
theorem wr_8 : ∀ w ∈ wsL_law_r8, w ∈ lw_tbl := List.forall_mem_cons.mpr ⟨List.mem_append_right _ (List.mem_of_getElem? (i := 248) (by decide +kernel)), List.forall_mem_cons.mpr ⟨List.mem_append_right _ (List.mem_of_getElem? (i := 249) (by decide +kernel)), List.forall_mem_cons.mpr ⟨List.mem_append_right _ (List.mem_of_getElem? (i := 250) (by decide +kernel)), List.forall_mem_cons.mpr ⟨List.mem_append_right _ (List.mem_of_getElem? (i := 253) (by decide +kernel)), List.forall_mem_cons.mpr ⟨List.mem_append_left _ (List.mem_of_getElem? (i := 6) (by decide +kernel)), List.forall_mem_cons.mpr ⟨List.mem_append_right _ (List.mem_of_getElem? (i := 254) (by decide +kernel)), List.forall_mem_cons.mpr ⟨List.mem_append_right _ (List.mem_of_getElem? (i := 255) (by decide +kernel)), List.forall_mem_cons.mpr ⟨List.mem_append_right _ (List.mem_of_getElem? (i := 257) (by decide +kernel)), List.forall_mem_cons.mpr ⟨List.mem_append_left _ (List.mem_of_getElem? (i := 7) (by decide +kernel)), List.forall_mem_cons.mpr ⟨List.mem_append_right _ (List.mem_of_getElem? (i := 258) (by decide +kernel)), List.forall_mem_cons.mpr ⟨List.mem_append_right _ (List.mem_of_getElem? (i := 259) (by decide +kernel)), List.forall_mem_cons.mpr ⟨List.mem_append_right _ (List.mem_of_getElem? (i := 260) (by decide +kernel)), List.forall_mem_cons.mpr ⟨List.mem_append_right _ (List.mem_of_getElem? (i := 261) (by decide +kernel)), List.forall_mem_cons.mpr ⟨List.mem_append_right _ (List.mem_of_getElem? (i := 262) (by decide +kernel)), List.forall_mem_cons.mpr ⟨List.mem_append_right _ (List.mem_of_getElem? (i := 263) (by decide +kernel)), List.forall_mem_cons.mpr ⟨List.mem_append_right _ (List.mem_of_getElem? (i := 264) (by decide +kernel)), List.forall_mem_cons.mpr ⟨List.mem_append_right _ (List.mem_of_getElem? (i := 713) (by decide +kernel)), List.forall_mem_cons.mpr ⟨List.mem_append_right _ (List.mem_of_getElem? (i := 714) (by decide +kernel)), List.forall_mem_cons.mpr ⟨List.mem_append_right _ (List.mem_of_getElem? (i := 715) (by decide +kernel)), List.forall_mem_cons.mpr ⟨List.mem_append_right _ (List.mem_of_getElem? (i := 716) (by decide +kernel)), List.forall_mem_cons.mpr ⟨List.mem_append_right _ (List.mem_of_getElem? (i := 717) (by decide +kernel)), List.forall_mem_cons.mpr ⟨List.mem_append_right _ (List.mem_of_getElem? (i := 719) (by decide +kernel)), List.forall_mem_cons.mpr ⟨List.mem_append_left _ (List.mem_of_getElem? (i := 58) (by decide +kernel)), List.forall_mem_cons.mpr ⟨List.mem_append_right _ (List.mem_of_getElem? (i := 720) (by decide +kernel)), fun _ h => absurd h List.not_mem_nil⟩⟩⟩⟩⟩⟩⟩⟩⟩⟩⟩⟩⟩⟩⟩⟩⟩⟩⟩⟩⟩⟩⟩⟩
theorem wr_9 : ∀ w ∈ wsL_law_r9, w ∈ lw_tbl := List.forall_mem_cons.mpr ⟨List.mem_append_right _ (List.mem_of_getElem? (i := 265) (by decide +kernel)), List.forall_mem_cons.mpr ⟨List.mem_append_right _ (List.mem_of_getElem? (i := 266) (by decide +kernel)), List.forall_mem_cons.mpr ⟨List.mem_append_right _ (List.mem_of_getElem? (i := 267) (by decide +kernel)), List.forall_mem_cons.mpr ⟨List.mem_append_right _ (List.mem_of_getElem? (i := 268) (by decide +kernel)), List.forall_mem_cons.mpr ⟨List.mem_append_right _ (List.mem_of_getElem? (i := 269) (by decide +kernel)), List.forall_mem_cons.mpr ⟨List.mem_append_right _ (List.mem_of_getElem? (i := 270) (by decide +kernel)), List.forall_mem_cons.mpr ⟨List.mem_append_right _ (List.mem_of_getElem? (i := 271) (by decide +kernel)), List.forall_mem_cons.mpr ⟨List.mem_append_right _ (List.mem_of_getElem? (i := 274) (by decide +kernel)), List.forall_mem_cons.mpr ⟨List.mem_append_left _ (List.mem_of_getElem? (i := 8) (by decide +kernel)), List.forall_mem_cons.mpr ⟨List.mem_append_right _ (List.mem_of_getElem? (i := 275) (by decide +kernel)), List.forall_mem_cons.mpr ⟨List.mem_append_right _ (List.mem_of_getElem? (i := 276) (by decide +kernel)), List.forall_mem_cons.mpr ⟨List.mem_append_right _ (List.mem_of_getElem? (i := 278) (by decide +kernel)), List.forall_mem_cons.mpr ⟨List.mem_append_left _ (List.mem_of_getElem? (i := 9) (by decide +kernel)), List.forall_mem_cons.mpr ⟨List.mem_append_right _ (List.mem_of_getElem? (i := 279) (by decide +kernel)), List.forall_mem_cons.mpr ⟨List.mem_append_right _ (List.mem_of_getElem? (i := 282) (by decide +kernel)), List.forall_mem_cons.mpr ⟨List.mem_append_left _ (List.mem_of_getElem? (i := 10) (by decide +kernel)), List.forall_mem_cons.mpr ⟨List.mem_append_right _ (List.mem_of_getElem? (i := 283) (by decide +kernel)), List.forall_mem_cons.mpr ⟨List.mem_append_right _ (List.mem_of_getElem? (i := 123) (by decide +kernel)), List.forall_mem_cons.mpr ⟨List.mem_append_right _ (List.mem_of_getElem? (i := 124) (by decide +kernel)), List.forall_mem_cons.mpr ⟨List.mem_append_right _ (List.mem_of_getElem? (i := 128) (by decide +kernel)), List.forall_mem_cons.mpr ⟨List.mem_append_right _ (List.mem_of_getElem? (i := 130) (by decide +kernel)), List.forall_mem_cons.mpr ⟨List.mem_append_right _ (List.mem_of_getElem? (i := 136) (by decide +kernel)), List.forall_mem_cons.mpr ⟨List.mem_append_right _ (List.mem_of_getElem? (i := 138) (by decide +kernel)), List.forall_mem_cons.mpr ⟨List.mem_append_right _ (List.mem_of_getElem? (i := 140) (by decide +kernel)), fun _ h => absurd h List.not_mem_nil⟩⟩⟩⟩⟩⟩⟩⟩⟩⟩⟩⟩⟩⟩⟩⟩⟩⟩⟩⟩⟩⟩⟩⟩
theorem wr_10 : ∀ w ∈ wsL_law_r10, w ∈ lw_tbl := List.forall_mem_cons.mpr ⟨List.mem_append_right _ (List.mem_of_getElem? (i := 284) (by decide +kernel)), List.forall_mem_cons.mpr ⟨List.mem_append_right _ (List.mem_of_getElem? (i := 286) (by decide +kernel)), List.forall_mem_cons.mpr ⟨List.mem_append_left _ (List.mem_of_getElem? (i := 11) (by decide +kernel)), List.forall_mem_cons.mpr ⟨List.mem_append_right _ (List.mem_of_getElem? (i := 287) (by decide +kernel)), List.forall_mem_cons.mpr ⟨List.mem_append_right _ (List.mem_of_getElem? (i := 290) (by decide +kernel)), List.forall_mem_cons.mpr ⟨List.mem_append_left _ (List.mem_of_getElem? (i := 12) (by decide +kernel)), List.forall_mem_cons.mpr ⟨List.mem_append_right _ (List.mem_of_getElem? (i := 291) (by decide +kernel)), List.forall_mem_cons.mpr ⟨List.mem_append_right _ (List.mem_of_getElem? (i := 293) (by decide +kernel)), List.forall_mem_cons.mpr ⟨List.mem_append_right _ (List.mem_of_getElem? (i := 295) (by decide +kernel)), List.forall_mem_cons.mpr ⟨List.mem_append_left _ (List.mem_of_getElem? (i := 13) (by decide +kernel)), List.forall_mem_cons.mpr ⟨List.mem_append_right _ (List.mem_of_getElem? (i := 296) (by decide +kernel)), List.forall_mem_cons.mpr ⟨List.mem_append_right _ (List.mem_of_getElem? (i := 298) (by decide +kernel)), List.forall_mem_cons.mpr ⟨List.mem_append_right _ (List.mem_of_getElem? (i := 300) (by decide +kernel)), List.forall_mem_cons.mpr ⟨List.mem_append_left _ (List.mem_of_getElem? (i := 14) (by decide +kernel)), List.forall_mem_cons.mpr ⟨List.mem_append_right _ (List.mem_of_getElem? (i := 301) (by decide +kernel)), List.forall_mem_cons.mpr ⟨List.mem_append_right _ (List.mem_of_getElem? (i := 302) (by decide +kernel)), List.forall_mem_cons.mpr ⟨List.mem_append_right _ (List.mem_of_getElem? (i := 303) (by decide +kernel)), List.forall_mem_cons.mpr ⟨List.mem_append_right _ (List.mem_of_getElem? (i := 304) (by decide +kernel)), List.forall_mem_cons.mpr ⟨List.mem_append_right _ (List.mem_of_getElem? (i := 306) (by decide +kernel)), List.forall_mem_cons.mpr ⟨List.mem_append_right _ (List.mem_of_getElem? (i := 308) (by decide +kernel)), List.forall_mem_cons.mpr ⟨List.mem_append_left _ (List.mem_of_getElem? (i := 15) (by decide +kernel)), List.forall_mem_cons.mpr ⟨List.mem_append_right _ (List.mem_of_getElem? (i := 309) (by decide +kernel)), List.forall_mem_cons.mpr ⟨List.mem_append_right _ (List.mem_of_getElem? (i := 310) (by decide +kernel)), List.forall_mem_cons.mpr ⟨List.mem_append_right _ (List.mem_of_getElem? (i := 312) (by decide +kernel)), fun _ h => absurd h List.not_mem_nil⟩⟩⟩⟩⟩⟩⟩⟩⟩⟩⟩⟩⟩⟩⟩⟩⟩⟩⟩⟩⟩⟩⟩⟩
theorem wr_11 : ∀ w ∈ wsL_law_r11, w ∈ lw_tbl := List.forall_mem_cons.mpr ⟨List.mem_append_left _ (List.mem_of_getElem? (i := 16) (by decide +kernel)), List.forall_mem_cons.mpr ⟨List.mem_append_right _ (List.mem_of_getElem? (i := 313) (by decide +kernel)), List.forall_mem_cons.mpr ⟨List.mem_append_right _ (List.mem_of_getElem? (i := 314) (by decide +kernel)), List.forall_mem_cons.mpr ⟨List.mem_append_right _ (List.mem_of_getElem? (i := 316) (by decide +kernel)), List.forall_mem_cons.mpr ⟨List.mem_append_left _ (List.mem_of_getElem? (i := 17) (by decide +kernel)), List.forall_mem_cons.mpr ⟨List.mem_append_right _ (List.mem_of_getElem? (i := 317) (by decide +kernel)), List.forall_mem_cons.mpr ⟨List.mem_append_right _ (List.mem_of_getElem? (i := 318) (by decide +kernel)), List.forall_mem_cons.mpr ⟨List.mem_append_right _ (List.mem_of_getElem? (i := 320) (by decide +kernel)), List.forall_mem_cons.mpr ⟨List.mem_append_left _ (List.mem_of_getElem? (i := 18) (by decide +kernel)), List.forall_mem_cons.mpr ⟨List.mem_append_right _ (List.mem_of_getElem? (i := 321) (by decide +kernel)), List.forall_mem_cons.mpr ⟨List.mem_append_right _ (List.mem_of_getElem? (i := 323) (by decide +kernel)), List.forall_mem_cons.mpr ⟨List.mem_append_right _ (List.mem_of_getElem? (i := 325) (by decide +kernel)), List.forall_mem_cons.mpr ⟨List.mem_append_left _ (List.mem_of_getElem? (i := 19) (by decide +kernel)), List.forall_mem_cons.mpr ⟨List.mem_append_right _ (List.mem_of_getElem? (i := 326) (by decide +kernel)), List.forall_mem_cons.mpr ⟨List.mem_append_right _ (List.mem_of_getElem? (i := 327) (by decide +kernel)), List.forall_mem_cons.mpr ⟨List.mem_append_right _ (List.mem_of_getElem? (i := 329) (by decide +kernel)), List.forall_mem_cons.mpr ⟨List.mem_append_left _ (List.mem_of_getElem? (i := 20) (by decide +kernel)), List.forall_mem_cons.mpr ⟨List.mem_append_right _ (List.mem_of_getElem? (i := 330) (by decide +kernel)), List.forall_mem_cons.mpr ⟨List.mem_append_right _ (List.mem_of_getElem? (i := 331) (by decide +kernel)), List.forall_mem_cons.mpr ⟨List.mem_append_right _ (List.mem_of_getElem? (i := 333) (by decide +kernel)), List.forall_mem_cons.mpr ⟨List.mem_append_left _ (List.mem_of_getElem? (i := 21) (by decide +kernel)), List.forall_mem_cons.mpr ⟨List.mem_append_right _ (List.mem_of_getElem? (i := 334) (by decide +kernel)), List.forall_mem_cons.mpr ⟨List.mem_append_right _ (List.mem_of_getElem? (i := 335) (by decide +kernel)), List.forall_mem_cons.mpr ⟨List.mem_append_right _ (List.mem_of_getElem? (i := 337) (by decide +kernel)), fun _ h => absurd h List.not_mem_nil⟩⟩⟩⟩⟩⟩⟩⟩⟩⟩⟩⟩⟩⟩⟩⟩⟩⟩⟩⟩⟩⟩⟩⟩
theorem wr_12 : ∀ w ∈ wsL_law_r12, w ∈ lw_tbl := List.forall_mem_cons.mpr ⟨List.mem_append_left _ (List.mem_of_getElem? (i := 22) (by decide +kernel)), List.forall_mem_cons.mpr ⟨List.mem_append_right _ (List.mem_of_getElem? (i := 338) (by decide +kernel)), List.forall_mem_cons.mpr ⟨List.mem_append_right _ (List.mem_of_getElem? (i := 339) (by decide +kernel)), List.forall_mem_cons.mpr ⟨List.mem_append_right _ (List.mem_of_getElem? (i := 341) (by decide +kernel)), List.forall_mem_cons.mpr ⟨List.mem_append_left _ (List.mem_of_getElem? (i := 23) (by decide +kernel)), List.forall_mem_cons.mpr ⟨List.mem_append_right _ (List.mem_of_getElem? (i := 342) (by decide +kernel)), List.forall_mem_cons.mpr ⟨List.mem_append_right _ (List.mem_of_getElem? (i := 343) (by decide +kernel)), List.forall_mem_cons.mpr ⟨List.mem_append_right _ (List.mem_of_getElem? (i := 345) (by decide +kernel)), List.forall_mem_cons.mpr ⟨List.mem_append_left _ (List.mem_of_getElem? (i := 24) (by decide +kernel)), List.forall_mem_cons.mpr ⟨List.mem_append_right _ (List.mem_of_getElem? (i := 346) (by decide +kernel)), List.forall_mem_cons.mpr ⟨List.mem_append_right _ (List.mem_of_getElem? (i := 347) (by decide +kernel)), List.forall_mem_cons.mpr ⟨List.mem_append_right _ (List.mem_of_getElem? (i := 349) (by decide +kernel)), List.forall_mem_cons.mpr ⟨List.mem_append_left _ (List.mem_of_getElem? (i := 25) (by decide +kernel)), List.forall_mem_cons.mpr ⟨List.mem_append_right _ (List.mem_of_getElem? (i := 350) (by decide +kernel)), List.forall_mem_cons.mpr ⟨List.mem_append_right _ (List.mem_of_getElem? (i := 351) (by decide +kernel)), List.forall_mem_cons.mpr ⟨List.mem_append_right _ (List.mem_of_getElem? (i := 353) (by decide +kernel)), List.forall_mem_cons.mpr ⟨List.mem_append_left _ (List.mem_of_getElem? (i := 26) (by decide +kernel)), List.forall_mem_cons.mpr ⟨List.mem_append_right _ (List.mem_of_getElem? (i := 354) (by decide +kernel)), List.forall_mem_cons.mpr ⟨List.mem_append_right _ (List.mem_of_getElem? (i := 355) (by decide +kernel)), List.forall_mem_cons.mpr ⟨List.mem_append_right _ (List.mem_of_getElem? (i := 357) (by decide +kernel)), List.forall_mem_cons.mpr ⟨List.mem_append_left _ (List.mem_of_getElem? (i := 27) (by decide +kernel)), List.forall_mem_cons.mpr ⟨List.mem_append_right _ (List.mem_of_getElem? (i := 358) (by decide +kernel)), List.forall_mem_cons.mpr ⟨List.mem_append_right _ (List.mem_of_getElem? (i := 359) (by decide +kernel)), List.forall_mem_cons.mpr ⟨List.mem_append_right _ (List.mem_of_getElem? (i := 361) (by decide +kernel)), fun _ h => absurd h List.not_mem_nil⟩⟩⟩⟩⟩⟩⟩⟩⟩⟩⟩⟩⟩⟩⟩⟩⟩⟩⟩⟩⟩⟩⟩⟩
theorem wr_13 : ∀ w ∈ wsL_law_r13, w ∈ lw_tbl := List.forall_mem_cons.mpr ⟨List.mem_append_left _ (List.mem_of_getElem? (i := 28) (by decide +kernel)), List.forall_mem_cons.mpr ⟨List.mem_append_right _ (List.mem_of_getElem? (i := 362) (by decide +kernel)), List.forall_mem_cons.mpr ⟨List.mem_append_right _ (List.mem_of_getElem? (i := 721) (by decide +kernel)), List.forall_mem_cons.mpr ⟨List.mem_append_right _ (List.mem_of_getElem? (i := 722) (by decide +kernel)), List.forall_mem_cons.mpr ⟨List.mem_append_right _ (List.mem_of_getElem? (i := 723) (by decide +kernel)), List.forall_mem_cons.mpr ⟨List.mem_append_right _ (List.mem_of_getElem? (i := 724) (by decide +kernel)), List.forall_mem_cons.mpr ⟨List.mem_append_right _ (List.mem_of_getElem? (i := 630) (by decide +kernel)), List.forall_mem_cons.mpr ⟨List.mem_append_right _ (List.mem_of_getElem? (i := 725) (by decide +kernel)), List.forall_mem_cons.mpr ⟨List.mem_append_right _ (List.mem_of_getElem? (i := 727) (by decide +kernel)), List.forall_mem_cons.mpr ⟨List.mem_append_left _ (List.mem_of_getElem? (i := 59) (by decide +kernel)), List.forall_mem_cons.mpr ⟨List.mem_append_right _ (List.mem_of_getElem? (i := 728) (by decide +kernel)), List.forall_mem_cons.mpr ⟨List.mem_append_right _ (List.mem_of_getElem? (i := 729) (by decide +kernel)), List.forall_mem_cons.mpr ⟨List.mem_append_right _ (List.mem_of_getElem? (i := 731) (by decide +kernel)), List.forall_mem_cons.mpr ⟨List.mem_append_left _ (List.mem_of_getElem? (i := 60) (by decide +kernel)), List.forall_mem_cons.mpr ⟨List.mem_append_right _ (List.mem_of_getElem? (i := 732) (by decide +kernel)), List.forall_mem_cons.mpr ⟨List.mem_append_right _ (List.mem_of_getElem? (i := 733) (by decide +kernel)), List.forall_mem_cons.mpr ⟨List.mem_append_right _ (List.mem_of_getElem? (i := 735) (by decide +kernel)), List.forall_mem_cons.mpr ⟨List.mem_append_left _ (List.mem_of_getElem? (i := 61) (by decide +kernel)), List.forall_mem_cons.mpr ⟨List.mem_append_right _ (List.mem_of_getElem? (i := 736) (by decide +kernel)), List.forall_mem_cons.mpr ⟨List.mem_append_right _ (List.mem_of_getElem? (i := 620) (by decide +kernel)), List.forall_mem_cons.mpr ⟨List.mem_append_right _ (List.mem_of_getElem? (i := 622) (by decide +kernel)), List.forall_mem_cons.mpr ⟨List.mem_append_right _ (List.mem_of_getElem? (i := 737) (by decide +kernel)), List.forall_mem_cons.mpr ⟨List.mem_append_right _ (List.mem_of_getElem? (i := 739) (by decide +kernel)), List.forall_mem_cons.mpr ⟨List.mem_append_left _ (List.mem_of_getElem? (i := 62) (by decide +kernel)), fun _ h => absurd h List.not_mem_nil⟩⟩⟩⟩⟩⟩⟩⟩⟩⟩⟩⟩⟩⟩⟩⟩⟩⟩⟩⟩⟩⟩⟩⟩
theorem wr_14 : ∀ w ∈ wsL_law_r14, w ∈ lw_tbl := List.forall_mem_cons.mpr ⟨List.mem_append_right _ (List.mem_of_getElem? (i := 740) (by decide +kernel)), List.forall_mem_cons.mpr ⟨List.mem_append_right _ (List.mem_of_getElem? (i := 741) (by decide +kernel)), List.forall_mem_cons.mpr ⟨List.mem_append_right _ (List.mem_of_getElem? (i := 743) (by decide +kernel)), List.forall_mem_cons.mpr ⟨List.mem_append_left _ (List.mem_of_getElem? (i := 63) (by decide +kernel)), List.forall_mem_cons.mpr ⟨List.mem_append_right _ (List.mem_of_getElem? (i := 744) (by decide +kernel)), List.forall_mem_cons.mpr ⟨List.mem_append_right _ (List.mem_of_getElem? (i := 629) (by decide +kernel)), List.forall_mem_cons.mpr ⟨List.mem_append_right _ (List.mem_of_getElem? (i := 628) (by decide +kernel)), List.forall_mem_cons.mpr ⟨List.mem_append_right _ (List.mem_of_getElem? (i := 745) (by decide +kernel)), List.forall_mem_cons.mpr ⟨List.mem_append_right _ (List.mem_of_getElem? (i := 746) (by decide +kernel)), List.forall_mem_cons.mpr ⟨List.mem_append_right _ (List.mem_of_getElem? (i := 747) (by decide +kernel)), List.forall_mem_cons.mpr ⟨List.mem_append_right _ (List.mem_of_getElem? (i := 748) (by decide +kernel)), List.forall_mem_cons.mpr ⟨List.mem_append_right _ (List.mem_of_getElem? (i := 750) (by decide +kernel)), List.forall_mem_cons.mpr ⟨List.mem_append_left _ (List.mem_of_getElem? (i := 64) (by decide +kernel)), List.forall_mem_cons.mpr ⟨List.mem_append_right _ (List.mem_of_getElem? (i := 751) (by decide +kernel)), List.forall_mem_cons.mpr ⟨List.mem_append_right _ (List.mem_of_getElem? (i := 752) (by decide +kernel)), List.forall_mem_cons.mpr ⟨List.mem_append_right _ (List.mem_of_getElem? (i := 754) (by decide +kernel)), List.forall_mem_cons.mpr ⟨List.mem_append_left _ (List.mem_of_getElem? (i := 65) (by decide +kernel)), List.forall_mem_cons.mpr ⟨List.mem_append_right _ (List.mem_of_getElem? (i := 755) (by decide +kernel)), List.forall_mem_cons.mpr ⟨List.mem_append_right _ (List.mem_of_getElem? (i := 756) (by decide +kernel)), List.forall_mem_cons.mpr ⟨List.mem_append_right _ (List.mem_of_getElem? (i := 758) (by decide +kernel)), List.forall_mem_cons.mpr ⟨List.mem_append_left _ (List.mem_of_getElem? (i := 66) (by decide +kernel)), List.forall_mem_cons.mpr ⟨List.mem_append_right _ (List.mem_of_getElem? (i := 759) (by decide +kernel)), List.forall_mem_cons.mpr ⟨List.mem_append_right _ (List.mem_of_getElem? (i := 760) (by decide +kernel)), List.forall_mem_cons.mpr ⟨List.mem_append_right _ (List.mem_of_getElem? (i := 762) (by decide +kernel)), fun _ h => absurd h List.not_mem_nil⟩⟩⟩⟩⟩⟩⟩⟩⟩⟩⟩⟩⟩⟩⟩⟩⟩⟩⟩⟩⟩⟩⟩⟩
theorem wr_15 : ∀ w ∈ wsL_law_r15, w ∈ lw_tbl := List.forall_mem_cons.mpr ⟨List.mem_append_left _ (List.mem_of_getElem? (i := 67) (by decide +kernel)), List.forall_mem_cons.mpr ⟨List.mem_append_right _ (List.mem_of_getElem? (i := 763) (by decide +kernel)), List.forall_mem_cons.mpr ⟨List.mem_append_right _ (List.mem_of_getElem? (i := 764) (by decide +kernel)), List.forall_mem_cons.mpr ⟨List.mem_append_right _ (List.mem_of_getElem? (i := 766) (by decide +kernel)), List.forall_mem_cons.mpr ⟨List.mem_append_left _ (List.mem_of_getElem? (i := 68) (by decide +kernel)), List.forall_mem_cons.mpr ⟨List.mem_append_right _ (List.mem_of_getElem? (i := 767) (by decide +kernel)), List.forall_mem_cons.mpr ⟨List.mem_append_right _ (List.mem_of_getElem? (i := 768) (by decide +kernel)), List.forall_mem_cons.mpr ⟨List.mem_append_right _ (List.mem_of_getElem? (i := 770) (by decide +kernel)), List.forall_mem_cons.mpr ⟨List.mem_append_left _ (List.mem_of_getElem? (i := 69) (by decide +kernel)), List.forall_mem_cons.mpr ⟨List.mem_append_right _ (List.mem_of_getElem? (i := 771) (by decide +kernel)), List.forall_mem_cons.mpr ⟨List.mem_append_right _ (List.mem_of_getElem? (i := 772) (by decide +kernel)), List.forall_mem_cons.mpr ⟨List.mem_append_right _ (List.mem_of_getElem? (i := 774) (by decide +kernel)), List.forall_mem_cons.mpr ⟨List.mem_append_left _ (List.mem_of_getElem? (i := 70) (by decide +kernel)), List.forall_mem_cons.mpr ⟨List.mem_append_right _ (List.mem_of_getElem? (i := 775) (by decide +kernel)), List.forall_mem_cons.mpr ⟨List.mem_append_right _ (List.mem_of_getElem? (i := 776) (by decide +kernel)), List.forall_mem_cons.mpr ⟨List.mem_append_right _ (List.mem_of_getElem? (i := 778) (by decide +kernel)), List.forall_mem_cons.mpr ⟨List.mem_append_left _ (List.mem_of_getElem? (i := 71) (by decide +kernel)), List.forall_mem_cons.mpr ⟨List.mem_append_right _ (List.mem_of_getElem? (i := 779) (by decide +kernel)), List.forall_mem_cons.mpr ⟨List.mem_append_right _ (List.mem_of_getElem? (i := 780) (by decide +kernel)), List.forall_mem_cons.mpr ⟨List.mem_append_right _ (List.mem_of_getElem? (i := 782) (by decide +kernel)), List.forall_mem_cons.mpr ⟨List.mem_append_left _ (List.mem_of_getElem? (i := 72) (by decide +kernel)), List.forall_mem_cons.mpr ⟨List.mem_append_right _ (List.mem_of_getElem? (i := 783) (by decide +kernel)), List.forall_mem_cons.mpr ⟨List.mem_append_right _ (List.mem_of_getElem? (i := 784) (by decide +kernel)), List.forall_mem_cons.mpr ⟨List.mem_append_right _ (List.mem_of_getElem? (i := 786) (by decide +kernel)), fun _ h => absurd h List.not_mem_nil⟩⟩⟩⟩⟩⟩⟩⟩⟩⟩⟩⟩⟩⟩⟩⟩⟩⟩⟩⟩⟩⟩⟩⟩
theorem wr_16 : ∀ w ∈ wsL_law_r16, w ∈ lw_tbl := List.forall_mem_cons.mpr ⟨List.mem_append_left _ (List.mem_of_getElem? (i := 73) (by decide +kernel)), List.forall_mem_cons.mpr ⟨List.mem_append_right _ (List.mem_of_getElem? (i := 787) (by decide +kernel)), List.forall_mem_cons.mpr ⟨List.mem_append_right _ (List.mem_of_getElem? (i := 365) (by decide +kernel)), List.forall_mem_cons.mpr ⟨List.mem_append_right _ (List.mem_of_getElem? (i := 366) (by decide +kernel)), List.forall_mem_cons.mpr ⟨List.mem_append_right _ (List.mem_of_getElem? (i := 367) (by decide +kernel)), List.forall_mem_cons.mpr ⟨List.mem_append_right _ (List.mem_of_getElem? (i := 368) (by decide +kernel)), List.forall_mem_cons.mpr ⟨List.mem_append_right _ (List.mem_of_getElem? (i := 369) (by decide +kernel)), List.forall_mem_cons.mpr ⟨List.mem_append_right _ (List.mem_of_getElem? (i := 371) (by decide +kernel)), List.forall_mem_cons.mpr ⟨List.mem_append_left _ (List.mem_of_getElem? (i := 29) (by decide +kernel)), List.forall_mem_cons.mpr ⟨List.mem_append_right _ (List.mem_of_getElem? (i := 372) (by decide +kernel)), List.forall_mem_cons.mpr ⟨List.mem_append_right _ (List.mem_of_getElem? (i := 373) (by decide +kernel)), List.forall_mem_cons.mpr ⟨List.mem_append_right _ (List.mem_of_getElem? (i := 375) (by decide +kernel)), List.forall_mem_cons.mpr ⟨List.mem_append_left _ (List.mem_of_getElem? (i := 30) (by decide +kernel)), List.forall_mem_cons.mpr ⟨List.mem_append_right _ (List.mem_of_getElem? (i := 376) (by decide +kernel)), List.forall_mem_cons.mpr ⟨List.mem_append_right _ (List.mem_of_getElem? (i := 788) (by decide +kernel)), List.forall_mem_cons.mpr ⟨List.mem_append_right _ (List.mem_of_getElem? (i := 789) (by decide +kernel)), List.forall_mem_cons.mpr ⟨List.mem_append_right _ (List.mem_of_getElem? (i := 790) (by decide +kernel)), List.forall_mem_cons.mpr ⟨List.mem_append_right _ (List.mem_of_getElem? (i := 791) (by decide +kernel)), List.forall_mem_cons.mpr ⟨List.mem_append_right _ (List.mem_of_getElem? (i := 792) (by decide +kernel)), List.forall_mem_cons.mpr ⟨List.mem_append_right _ (List.mem_of_getElem? (i := 794) (by decide +kernel)), List.forall_mem_cons.mpr ⟨List.mem_append_left _ (List.mem_of_getElem? (i := 74) (by decide +kernel)), List.forall_mem_cons.mpr ⟨List.mem_append_right _ (List.mem_of_getElem? (i := 795) (by decide +kernel)), List.forall_mem_cons.mpr ⟨List.mem_append_right _ (List.mem_of_getElem? (i := 378) (by decide +kernel)), List.forall_mem_cons.mpr ⟨List.mem_append_right _ (List.mem_of_getElem? (i := 379) (by decide +kernel)), fun _ h => absurd h List.not_mem_nil⟩⟩⟩⟩⟩⟩⟩⟩⟩⟩⟩⟩⟩⟩⟩⟩⟩⟩⟩⟩⟩⟩⟩⟩
theorem wr_17 : ∀ w ∈ wsL_law_r17, w ∈ lw_tbl := List.forall_mem_cons.mpr ⟨List.mem_append_right _ (List.mem_of_getElem? (i := 380) (by decide +kernel)), List.forall_mem_cons.mpr ⟨List.mem_append_right _ (List.mem_of_getElem? (i := 381) (by decide +kernel)), List.forall_mem_cons.mpr ⟨List.mem_append_right _ (List.mem_of_getElem? (i := 796) (by decide +kernel)), List.forall_mem_cons.mpr ⟨List.mem_append_right _ (List.mem_of_getElem? (i := 797) (by decide +kernel)), List.forall_mem_cons.mpr ⟨List.mem_append_right _ (List.mem_of_getElem? (i := 798) (by decide +kernel)), List.forall_mem_cons.mpr ⟨List.mem_append_right _ (List.mem_of_getElem? (i := 799) (by decide +kernel)), List.forall_mem_cons.mpr ⟨List.mem_append_right _ (List.mem_of_getElem? (i := 383) (by decide +kernel)), List.forall_mem_cons.mpr ⟨List.mem_append_right _ (List.mem_of_getElem? (i := 384) (by decide +kernel)), List.forall_mem_cons.mpr ⟨List.mem_append_right _ (List.mem_of_getElem? (i := 385) (by decide +kernel)), List.forall_mem_cons.mpr ⟨List.mem_append_right _ (List.mem_of_getElem? (i := 386) (by decide +kernel)), List.forall_mem_cons.mpr ⟨List.mem_append_right _ (List.mem_of_getElem? (i := 389) (by decide +kernel)), List.forall_mem_cons.mpr ⟨List.mem_append_left _ (List.mem_of_getElem? (i := 31) (by decide +kernel)), List.forall_mem_cons.mpr ⟨List.mem_append_right _ (List.mem_of_getElem? (i := 390) (by decide +kernel)), List.forall_mem_cons.mpr ⟨List.mem_append_right _ (List.mem_of_getElem? (i := 800) (by decide +kernel)), List.forall_mem_cons.mpr ⟨List.mem_append_right _ (List.mem_of_getElem? (i := 801) (by decide +kernel)), List.forall_mem_cons.mpr ⟨List.mem_append_right _ (List.mem_of_getElem? (i := 802) (by decide +kernel)), List.forall_mem_cons.mpr ⟨List.mem_append_right _ (List.mem_of_getElem? (i := 803) (by decide +kernel)), List.forall_mem_cons.mpr ⟨List.mem_append_right _ (List.mem_of_getElem? (i := 391) (by decide +kernel)), List.forall_mem_cons.mpr ⟨List.mem_append_right _ (List.mem_of_getElem? (i := 392) (by decide +kernel)), List.forall_mem_cons.mpr ⟨List.mem_append_right _ (List.mem_of_getElem? (i := 393) (by decide +kernel)), List.forall_mem_cons.mpr ⟨List.mem_append_right _ (List.mem_of_getElem? (i := 394) (by decide +kernel)), List.forall_mem_cons.mpr ⟨List.mem_append_right _ (List.mem_of_getElem? (i := 397) (by decide +kernel)), List.forall_mem_cons.mpr ⟨List.mem_append_left _ (List.mem_of_getElem? (i := 32) (by decide +kernel)), List.forall_mem_cons.mpr ⟨List.mem_append_right _ (List.mem_of_getElem? (i := 398) (by decide +kernel)), fun _ h => absurd h List.not_mem_nil⟩⟩⟩⟩⟩⟩⟩⟩⟩⟩⟩⟩⟩⟩⟩⟩⟩⟩⟩⟩⟩⟩⟩⟩
theorem wr_18 : ∀ w ∈ wsL_law_r18, w ∈ lw_tbl := List.forall_mem_cons.mpr ⟨List.mem_append_right _ (List.mem_of_getElem? (i := 804) (by decide +kernel)), List.forall_mem_cons.mpr ⟨List.mem_append_right _ (List.mem_of_getElem? (i := 805) (by decide +kernel)), List.forall_mem_cons.mpr ⟨List.mem_append_right _ (List.mem_of_getElem? (i := 806) (by decide +kernel)), List.forall_mem_cons.mpr ⟨List.mem_append_right _ (List.mem_of_getElem? (i := 807) (by decide +kernel)), List.forall_mem_cons.mpr ⟨List.mem_append_right _ (List.mem_of_getElem? (i := 399) (by decide +kernel)), List.forall_mem_cons.mpr ⟨List.mem_append_right _ (List.mem_of_getElem? (i := 400) (by decide +kernel)), List.forall_mem_cons.mpr ⟨List.mem_append_right _ (List.mem_of_getElem? (i := 401) (by decide +kernel)), List.forall_mem_cons.mpr ⟨List.mem_append_right _ (List.mem_of_getElem? (i := 402) (by decide +kernel)), List.forall_mem_cons.mpr ⟨List.mem_append_right _ (List.mem_of_getElem? (i := 403) (by decide +kernel)), List.forall_mem_cons.mpr ⟨List.mem_append_right _ (List.mem_of_getElem? (i := 405) (by decide +kernel)), List.forall_mem_cons.mpr ⟨List.mem_append_left _ (List.mem_of_getElem? (i := 33) (by decide +kernel)), List.forall_mem_cons.mpr ⟨List.mem_append_right _ (List.mem_of_getElem? (i := 406) (by decide +kernel)), List.forall_mem_cons.mpr ⟨List.mem_append_right _ (List.mem_of_getElem? (i := 409) (by decide +kernel)), List.forall_mem_cons.mpr ⟨List.mem_append_left _ (List.mem_of_getElem? (i := 34) (by decide +kernel)), List.forall_mem_cons.mpr ⟨List.mem_append_right _ (List.mem_of_getElem? (i := 410) (by decide +kernel)), List.forall_mem_cons.mpr ⟨List.mem_append_right _ (List.mem_of_getElem? (i := 808) (by decide +kernel)), List.forall_mem_cons.mpr ⟨List.mem_append_right _ (List.mem_of_getElem? (i := 809) (by decide +kernel)), List.forall_mem_cons.mpr ⟨List.mem_append_right _ (List.mem_of_getElem? (i := 810) (by decide +kernel)), List.forall_mem_cons.mpr ⟨List.mem_append_right _ (List.mem_of_getElem? (i := 811) (by decide +kernel)), List.forall_mem_cons.mpr ⟨List.mem_append_right _ (List.mem_of_getElem? (i := 411) (by decide +kernel)), List.forall_mem_cons.mpr ⟨List.mem_append_right _ (List.mem_of_getElem? (i := 412) (by decide +kernel)), List.forall_mem_cons.mpr ⟨List.mem_append_right _ (List.mem_of_getElem? (i := 413) (by decide +kernel)), List.forall_mem_cons.mpr ⟨List.mem_append_right _ (List.mem_of_getElem? (i := 414) (by decide +kernel)), List.forall_mem_cons.mpr ⟨List.mem_append_right _ (List.mem_of_getElem? (i := 417) (by decide +kernel)), fun _ h => absurd h List.not_mem_nil⟩⟩⟩⟩⟩⟩⟩⟩⟩⟩⟩⟩⟩⟩⟩⟩⟩⟩⟩⟩⟩⟩⟩⟩
theorem wr_19 : ∀ w ∈ wsL_law_r19, w ∈ lw_tbl := List.forall_mem_cons.mpr ⟨List.mem_append_left _ (List.mem_of_getElem? (i := 35) (by decide +kernel)), List.forall_mem_cons.mpr ⟨List.mem_append_right _ (List.mem_of_getElem? (i := 418) (by decide +kernel)), List.forall_mem_cons.mpr ⟨List.mem_append_right _ (List.mem_of_getElem? (i := 419) (by decide +kernel)), List.forall_mem_cons.mpr ⟨List.mem_append_right _ (List.mem_of_getElem? (i := 421) (by decide +kernel)), List.forall_mem_cons.mpr ⟨List.mem_append_left _ (List.mem_of_getElem? (i := 36) (by decide +kernel)), List.forall_mem_cons.mpr ⟨List.mem_append_right _ (List.mem_of_getElem? (i := 422) (by decide +kernel)), List.forall_mem_cons.mpr ⟨List.mem_append_right _ (List.mem_of_getElem? (i := 423) (by decide +kernel)), List.forall_mem_cons.mpr ⟨List.mem_append_right _ (List.mem_of_getElem? (i := 425) (by decide +kernel)), List.forall_mem_cons.mpr ⟨List.mem_append_left _ (List.mem_of_getElem? (i := 37) (by decide +kernel)), List.forall_mem_cons.mpr ⟨List.mem_append_right _ (List.mem_of_getElem? (i := 426) (by decide +kernel)), List.forall_mem_cons.mpr ⟨List.mem_append_right _ (List.mem_of_getElem? (i := 429) (by decide +kernel)), List.forall_mem_cons.mpr ⟨List.mem_append_left _ (List.mem_of_getElem? (i := 38) (by decide +kernel)), List.forall_mem_cons.mpr ⟨List.mem_append_right _ (List.mem_of_getElem? (i := 430) (by decide +kernel)), List.forall_mem_cons.mpr ⟨List.mem_append_right _ (List.mem_of_getElem? (i := 431) (by decide +kernel)), List.forall_mem_cons.mpr ⟨List.mem_append_right _ (List.mem_of_getElem? (i := 433) (by decide +kernel)), List.forall_mem_cons.mpr ⟨List.mem_append_right _ (List.mem_of_getElem? (i := 432) (by decide +kernel)), List.forall_mem_cons.mpr ⟨List.mem_append_right _ (List.mem_of_getElem? (i := 8) (by decide +kernel)), List.forall_mem_cons.mpr ⟨List.mem_append_right _ (List.mem_of_getElem? (i := 435) (by decide +kernel)), List.forall_mem_cons.mpr ⟨List.mem_append_right _ (List.mem_of_getElem? (i := 437) (by decide +kernel)), List.forall_mem_cons.mpr ⟨List.mem_append_left _ (List.mem_of_getElem? (i := 39) (by decide +kernel)), List.forall_mem_cons.mpr ⟨List.mem_append_right _ (List.mem_of_getElem? (i := 438) (by decide +kernel)), List.forall_mem_cons.mpr ⟨List.mem_append_right _ (List.mem_of_getElem? (i := 812) (by decide +kernel)), List.forall_mem_cons.mpr ⟨List.mem_append_right _ (List.mem_of_getElem? (i := 813) (by decide +kernel)), List.forall_mem_cons.mpr ⟨List.mem_append_right _ (List.mem_of_getElem? (i := 814) (by decide +kernel)), fun _ h => absurd h List.not_mem_nil⟩⟩⟩⟩⟩⟩⟩⟩⟩⟩⟩⟩⟩⟩⟩⟩⟩⟩⟩⟩⟩⟩⟩⟩
theorem wr_20 : ∀ w ∈ wsL_law_r20, w ∈ lw_tbl := List.forall_mem_cons.mpr ⟨List.mem_append_right _ (List.mem_of_getElem? (i := 815) (by decide +kernel)), List.forall_mem_cons.mpr ⟨List.mem_append_right _ (List.mem_of_getElem? (i := 816) (by decide +kernel)), List.forall_mem_cons.mpr ⟨List.mem_append_right _ (List.mem_of_getElem? (i := 818) (by decide +kernel)), List.forall_mem_cons.mpr ⟨List.mem_append_left _ (List.mem_of_getElem? (i := 75) (by decide +kernel)), List.forall_mem_cons.mpr ⟨List.mem_append_right _ (List.mem_of_getElem? (i := 819) (by decide +kernel)), List.forall_mem_cons.mpr ⟨List.mem_append_right _ (List.mem_of_getElem? (i := 820) (by decide +kernel)), List.forall_mem_cons.mpr ⟨List.mem_append_right _ (List.mem_of_getElem? (i := 822) (by decide +kernel)), List.forall_mem_cons.mpr ⟨List.mem_append_left _ (List.mem_of_getElem? (i := 76) (by decide +kernel)), List.forall_mem_cons.mpr ⟨List.mem_append_right _ (List.mem_of_getElem? (i := 823) (by decide +kernel)), List.forall_mem_cons.mpr ⟨List.mem_append_right _ (List.mem_of_getElem? (i := 439) (by decide +kernel)), List.forall_mem_cons.mpr ⟨List.mem_append_right _ (List.mem_of_getElem? (i := 440) (by decide +kernel)), List.forall_mem_cons.mpr ⟨List.mem_append_right _ (List.mem_of_getElem? (i := 441) (by decide +kernel)), List.forall_mem_cons.mpr ⟨List.mem_append_right _ (List.mem_of_getElem? (i := 442) (by decide +kernel)), List.forall_mem_cons.mpr ⟨List.mem_append_right _ (List.mem_of_getElem? (i := 443) (by decide +kernel)), List.forall_mem_cons.mpr ⟨List.mem_append_right _ (List.mem_of_getElem? (i := 445) (by decide +kernel)), List.forall_mem_cons.mpr ⟨List.mem_append_left _ (List.mem_of_getElem? (i := 40) (by decide +kernel)), List.forall_mem_cons.mpr ⟨List.mem_append_right _ (List.mem_of_getElem? (i := 446) (by decide +kernel)), List.forall_mem_cons.mpr ⟨List.mem_append_right _ (List.mem_of_getElem? (i := 824) (by decide +kernel)), List.forall_mem_cons.mpr ⟨List.mem_append_right _ (List.mem_of_getElem? (i := 825) (by decide +kernel)), List.forall_mem_cons.mpr ⟨List.mem_append_right _ (List.mem_of_getElem? (i := 826) (by decide +kernel)), List.forall_mem_cons.mpr ⟨List.mem_append_right _ (List.mem_of_getElem? (i := 827) (by decide +kernel)), List.forall_mem_cons.mpr ⟨List.mem_append_right _ (List.mem_of_getElem? (i := 447) (by decide +kernel)), List.forall_mem_cons.mpr ⟨List.mem_append_right _ (List.mem_of_getElem? (i := 448) (by decide +kernel)), List.forall_mem_cons.mpr ⟨List.mem_append_right _ (List.mem_of_getElem? (i := 449) (by decide +kernel)), fun _ h => absurd h List.not_mem_nil⟩⟩⟩⟩⟩⟩⟩⟩⟩⟩⟩⟩⟩⟩⟩⟩⟩⟩⟩⟩⟩⟩⟩⟩
theorem wr_21 : ∀ w ∈ wsL_law_r21, w ∈ lw_tbl := List.forall_mem_cons.mpr ⟨List.mem_append_right _ (List.mem_of_getElem? (i := 450) (by decide +kernel)), List.forall_mem_cons.mpr ⟨List.mem_append_right _ (List.mem_of_getElem? (i := 828) (by decide +kernel)), List.forall_mem_cons.mpr ⟨List.mem_append_right _ (List.mem_of_getElem? (i := 829) (by decide +kernel)), List.forall_mem_cons.mpr ⟨List.mem_append_right _ (List.mem_of_getElem? (i := 830) (by decide +kernel)), List.forall_mem_cons.mpr ⟨List.mem_append_right _ (List.mem_of_getElem? (i := 831) (by decide +kernel)), List.forall_mem_cons.mpr ⟨List.mem_append_right _ (List.mem_of_getElem? (i := 451) (by decide +kernel)), List.forall_mem_cons.mpr ⟨List.mem_append_right _ (List.mem_of_getElem? (i := 452) (by decide +kernel)), List.forall_mem_cons.mpr ⟨List.mem_append_right _ (List.mem_of_getElem? (i := 453) (by decide +kernel)), List.forall_mem_cons.mpr ⟨List.mem_append_right _ (List.mem_of_getElem? (i := 454) (by decide +kernel)), List.forall_mem_cons.mpr ⟨List.mem_append_right _ (List.mem_of_getElem? (i := 455) (by decide +kernel)), List.forall_mem_cons.mpr ⟨List.mem_append_right _ (List.mem_of_getElem? (i := 456) (by decide +kernel)), List.forall_mem_cons.mpr ⟨List.mem_append_right _ (List.mem_of_getElem? (i := 9) (by decide +kernel)), List.forall_mem_cons.mpr ⟨List.mem_append_right _ (List.mem_of_getElem? (i := 457) (by decide +kernel)), List.forall_mem_cons.mpr ⟨List.mem_append_right _ (List.mem_of_getElem? (i := 458) (by decide +kernel)), List.forall_mem_cons.mpr ⟨List.mem_append_right _ (List.mem_of_getElem? (i := 459) (by decide +kernel)), List.forall_mem_cons.mpr ⟨List.mem_append_right _ (List.mem_of_getElem? (i := 460) (by decide +kernel)), List.forall_mem_cons.mpr ⟨List.mem_append_right _ (List.mem_of_getElem? (i := 463) (by decide +kernel)), List.forall_mem_cons.mpr ⟨List.mem_append_left _ (List.mem_of_getElem? (i := 41) (by decide +kernel)), List.forall_mem_cons.mpr ⟨List.mem_append_right _ (List.mem_of_getElem? (i := 464) (by decide +kernel)), List.forall_mem_cons.mpr ⟨List.mem_append_right _ (List.mem_of_getElem? (i := 73) (by decide +kernel)), List.forall_mem_cons.mpr ⟨List.mem_append_right _ (List.mem_of_getElem? (i := 75) (by decide +kernel)), List.forall_mem_cons.mpr ⟨List.mem_append_right _ (List.mem_of_getElem? (i := 465) (by decide +kernel)), List.forall_mem_cons.mpr ⟨List.mem_append_right _ (List.mem_of_getElem? (i := 466) (by decide +kernel)), List.forall_mem_cons.mpr ⟨List.mem_append_right _ (List.mem_of_getElem? (i := 467) (by decide +kernel)), fun _ h => absurd h List.not_mem_nil⟩⟩⟩⟩⟩⟩⟩⟩⟩⟩⟩⟩⟩⟩⟩⟩⟩⟩⟩⟩⟩⟩⟩⟩
theorem wr_22 : ∀ w ∈ wsL_law_r22, w ∈ lw_tbl := List.forall_mem_cons.mpr ⟨List.mem_append_right _ (List.mem_of_getElem? (i := 468) (by decide +kernel)), List.forall_mem_cons.mpr ⟨List.mem_append_right _ (List.mem_of_getElem? (i := 469) (by decide +kernel)), List.forall_mem_cons.mpr ⟨List.mem_append_right _ (List.mem_of_getElem? (i := 471) (by decide +kernel)), List.forall_mem_cons.mpr ⟨List.mem_append_left _ (List.mem_of_getElem? (i := 42) (by decide +kernel)), List.forall_mem_cons.mpr ⟨List.mem_append_right _ (List.mem_of_getElem? (i := 472) (by decide +kernel)), List.forall_mem_cons.mpr ⟨List.mem_append_right _ (List.mem_of_getElem? (i := 473) (by decide +kernel)), List.forall_mem_cons.mpr ⟨List.mem_append_right _ (List.mem_of_getElem? (i := 480) (by decide +kernel)), List.forall_mem_cons.mpr ⟨List.mem_append_left _ (List.mem_of_getElem? (i := 43) (by decide +kernel)), List.forall_mem_cons.mpr ⟨List.mem_append_right _ (List.mem_of_getElem? (i := 481) (by decide +kernel)), List.forall_mem_cons.mpr ⟨List.mem_append_right _ (List.mem_of_getElem? (i := 832) (by decide +kernel)), List.forall_mem_cons.mpr ⟨List.mem_append_right _ (List.mem_of_getElem? (i := 833) (by decide +kernel)), List.forall_mem_cons.mpr ⟨List.mem_append_right _ (List.mem_of_getElem? (i := 834) (by decide +kernel)), List.forall_mem_cons.mpr ⟨List.mem_append_right _ (List.mem_of_getElem? (i := 835) (by decide +kernel)), List.forall_mem_cons.mpr ⟨List.mem_append_right _ (List.mem_of_getElem? (i := 836) (by decide +kernel)), List.forall_mem_cons.mpr ⟨List.mem_append_right _ (List.mem_of_getElem? (i := 838) (by decide +kernel)), List.forall_mem_cons.mpr ⟨List.mem_append_left _ (List.mem_of_getElem? (i := 77) (by decide +kernel)), List.forall_mem_cons.mpr ⟨List.mem_append_right _ (List.mem_of_getElem? (i := 839) (by decide +kernel)), List.forall_mem_cons.mpr ⟨List.mem_append_right _ (List.mem_of_getElem? (i := 840) (by decide +kernel)), List.forall_mem_cons.mpr ⟨List.mem_append_right _ (List.mem_of_getElem? (i := 842) (by decide +kernel)), List.forall_mem_cons.mpr ⟨List.mem_append_left _ (List.mem_of_getElem? (i := 78) (by decide +kernel)), List.forall_mem_cons.mpr ⟨List.mem_append_right _ (List.mem_of_getElem? (i := 843) (by decide +kernel)), List.forall_mem_cons.mpr ⟨List.mem_append_right _ (List.mem_of_getElem? (i := 482) (by decide +kernel)), List.forall_mem_cons.mpr ⟨List.mem_append_right _ (List.mem_of_getElem? (i := 483) (by decide +kernel)), List.forall_mem_cons.mpr ⟨List.mem_append_right _ (List.mem_of_getElem? (i := 484) (by decide +kernel)), fun _ h => absurd h List.not_mem_nil⟩⟩⟩⟩⟩⟩⟩⟩⟩⟩⟩⟩⟩⟩⟩⟩⟩⟩⟩⟩⟩⟩⟩⟩
theorem wr_23 : ∀ w ∈ wsL_law_r23, w ∈ lw_tbl := List.forall_mem_cons.mpr ⟨List.mem_append_right _ (List.mem_of_getElem? (i := 485) (by decide +kernel)), List.forall_mem_cons.mpr ⟨List.mem_append_right _ (List.mem_of_getElem? (i := 486) (by decide +kernel)), List.forall_mem_cons.mpr ⟨List.mem_append_right _ (List.mem_of_getElem? (i := 488) (by decide +kernel)), List.forall_mem_cons.mpr ⟨List.mem_append_left _ (List.mem_of_getElem? (i := 44) (by decide +kernel)), List.forall_mem_cons.mpr ⟨List.mem_append_right _ (List.mem_of_getElem? (i := 489) (by decide +kernel)), List.forall_mem_cons.mpr ⟨List.mem_append_right _ (List.mem_of_getElem? (i := 492) (by decide +kernel)), List.forall_mem_cons.mpr ⟨List.mem_append_left _ (List.mem_of_getElem? (i := 45) (by decide +kernel)), List.forall_mem_cons.mpr ⟨List.mem_append_right _ (List.mem_of_getElem? (i := 493) (by decide +kernel)), List.forall_mem_cons.mpr ⟨List.mem_append_right _ (List.mem_of_getElem? (i := 844) (by decide +kernel)), List.forall_mem_cons.mpr ⟨List.mem_append_right _ (List.mem_of_getElem? (i := 845) (by decide +kernel)), List.forall_mem_cons.mpr ⟨List.mem_append_right _ (List.mem_of_getElem? (i := 846) (by decide +kernel)), List.forall_mem_cons.mpr ⟨List.mem_append_right _ (List.mem_of_getElem? (i := 847) (by decide +kernel)), List.forall_mem_cons.mpr ⟨List.mem_append_right _ (List.mem_of_getElem? (i := 848) (by decide +kernel)), List.forall_mem_cons.mpr ⟨List.mem_append_right _ (List.mem_of_getElem? (i := 850) (by decide +kernel)), List.forall_mem_cons.mpr ⟨List.mem_append_left _ (List.mem_of_getElem? (i := 79) (by decide +kernel)), List.forall_mem_cons.mpr ⟨List.mem_append_right _ (List.mem_of_getElem? (i := 851) (by decide +kernel)), List.forall_mem_cons.mpr ⟨List.mem_append_right _ (List.mem_of_getElem? (i := 494) (by decide +kernel)), List.forall_mem_cons.mpr ⟨List.mem_append_right _ (List.mem_of_getElem? (i := 495) (by decide +kernel)), List.forall_mem_cons.mpr ⟨List.mem_append_right _ (List.mem_of_getElem? (i := 496) (by decide +kernel)), List.forall_mem_cons.mpr ⟨List.mem_append_right _ (List.mem_of_getElem? (i := 497) (by decide +kernel)), List.forall_mem_cons.mpr ⟨List.mem_append_right _ (List.mem_of_getElem? (i := 852) (by decide +kernel)), List.forall_mem_cons.mpr ⟨List.mem_append_right _ (List.mem_of_getElem? (i := 853) (by decide +kernel)), List.forall_mem_cons.mpr ⟨List.mem_append_right _ (List.mem_of_getElem? (i := 854) (by decide +kernel)), List.forall_mem_cons.mpr ⟨List.mem_append_right _ (List.mem_of_getElem? (i := 855) (by decide +kernel)), fun _ h => absurd h List.not_mem_nil⟩⟩⟩⟩⟩⟩⟩⟩⟩⟩⟩⟩⟩⟩⟩⟩⟩⟩⟩⟩⟩⟩⟩⟩
theorem wr_24 : ∀ w ∈ wsL_law_r24, w ∈ lw_tbl := List.forall_mem_cons.mpr ⟨List.mem_append_right _ (List.mem_of_getElem? (i := 498) (by decide +kernel)), List.forall_mem_cons.mpr ⟨List.mem_append_right _ (List.mem_of_getElem? (i := 499) (by decide +kernel)), List.forall_mem_cons.mpr ⟨List.mem_append_right _ (List.mem_of_getElem? (i := 500) (by decide +kernel)), List.forall_mem_cons.mpr ⟨List.mem_append_right _ (List.mem_of_getElem? (i := 501) (by decide +kernel)), List.forall_mem_cons.mpr ⟨List.mem_append_right _ (List.mem_of_getElem? (i := 504) (by decide +kernel)), List.forall_mem_cons.mpr ⟨List.mem_append_left _ (List.mem_of_getElem? (i := 46) (by decide +kernel)), List.forall_mem_cons.mpr ⟨List.mem_append_right _ (List.mem_of_getElem? (i := 505) (by decide +kernel)), List.forall_mem_cons.mpr ⟨List.mem_append_right _ (List.mem_of_getElem? (i := 856) (by decide +kernel)), List.forall_mem_cons.mpr ⟨List.mem_append_right _ (List.mem_of_getElem? (i := 857) (by decide +kernel)), List.forall_mem_cons.mpr ⟨List.mem_append_right _ (List.mem_of_getElem? (i := 858) (by decide +kernel)), List.forall_mem_cons.mpr ⟨List.mem_append_right _ (List.mem_of_getElem? (i := 859) (by decide +kernel)), List.forall_mem_cons.mpr ⟨List.mem_append_right _ (List.mem_of_getElem? (i := 506) (by decide +kernel)), List.forall_mem_cons.mpr ⟨List.mem_append_right _ (List.mem_of_getElem? (i := 507) (by decide +kernel)), List.forall_mem_cons.mpr ⟨List.mem_append_right _ (List.mem_of_getElem? (i := 508) (by decide +kernel)), List.forall_mem_cons.mpr ⟨List.mem_append_right _ (List.mem_of_getElem? (i := 509) (by decide +kernel)), List.forall_mem_cons.mpr ⟨List.mem_append_right _ (List.mem_of_getElem? (i := 860) (by decide +kernel)), List.forall_mem_cons.mpr ⟨List.mem_append_right _ (List.mem_of_getElem? (i := 861) (by decide +kernel)), List.forall_mem_cons.mpr ⟨List.mem_append_right _ (List.mem_of_getElem? (i := 862) (by decide +kernel)), List.forall_mem_cons.mpr ⟨List.mem_append_right _ (List.mem_of_getElem? (i := 863) (by decide +kernel)), List.forall_mem_cons.mpr ⟨List.mem_append_right _ (List.mem_of_getElem? (i := 510) (by decide +kernel)), List.forall_mem_cons.mpr ⟨List.mem_append_right _ (List.mem_of_getElem? (i := 511) (by decide +kernel)), List.forall_mem_cons.mpr ⟨List.mem_append_right _ (List.mem_of_getElem? (i := 512) (by decide +kernel)), List.forall_mem_cons.mpr ⟨List.mem_append_right _ (List.mem_of_getElem? (i := 513) (by decide +kernel)), List.forall_mem_cons.mpr ⟨List.mem_append_right _ (List.mem_of_getElem? (i := 516) (by decide +kernel)), fun _ h => absurd h List.not_mem_nil⟩⟩⟩⟩⟩⟩⟩⟩⟩⟩⟩⟩⟩⟩⟩⟩⟩⟩⟩⟩⟩⟩⟩⟩
theorem wr_25 : ∀ w ∈ wsL_law_r25, w ∈ lw_tbl := List.forall_mem_cons.mpr ⟨List.mem_append_left _ (List.mem_of_getElem? (i := 47) (by decide +kernel)), List.forall_mem_cons.mpr ⟨List.mem_append_right _ (List.mem_of_getElem? (i := 517) (by decide +kernel)), List.forall_mem_cons.mpr ⟨List.mem_append_right _ (List.mem_of_getElem? (i := 93) (by decide +kernel)), List.forall_mem_cons.mpr ⟨List.mem_append_right _ (List.mem_of_getElem? (i := 95) (by decide +kernel)), List.forall_mem_cons.mpr ⟨List.mem_append_right _ (List.mem_of_getElem? (i := 520) (by decide +kernel)), List.forall_mem_cons.mpr ⟨List.mem_append_right _ (List.mem_of_getElem? (i := 521) (by decide +kernel)), List.forall_mem_cons.mpr ⟨List.mem_append_right _ (List.mem_of_getElem? (i := 522) (by decide +kernel)), List.forall_mem_cons.mpr ⟨List.mem_append_right _ (List.mem_of_getElem? (i := 525) (by decide +kernel)), List.forall_mem_cons.mpr ⟨List.mem_append_right _ (List.mem_of_getElem? (i := 527) (by decide +kernel)), List.forall_mem_cons.mpr ⟨List.mem_append_left _ (List.mem_of_getElem? (i := 48) (by decide +kernel)), List.forall_mem_cons.mpr ⟨List.mem_append_right _ (List.mem_of_getElem? (i := 528) (by decide +kernel)), List.forall_mem_cons.mpr ⟨List.mem_append_right _ (List.mem_of_getElem? (i := 534) (by decide +kernel)), List.forall_mem_cons.mpr ⟨List.mem_append_right _ (List.mem_of_getElem? (i := 531) (by decide +kernel)), List.forall_mem_cons.mpr ⟨List.mem_append_left _ (List.mem_of_getElem? (i := 49) (by decide +kernel)), List.forall_mem_cons.mpr ⟨List.mem_append_right _ (List.mem_of_getElem? (i := 532) (by decide +kernel)), List.forall_mem_cons.mpr ⟨List.mem_append_right _ (List.mem_of_getElem? (i := 540) (by decide +kernel)), List.forall_mem_cons.mpr ⟨List.mem_append_left _ (List.mem_of_getElem? (i := 50) (by decide +kernel)), List.forall_mem_cons.mpr ⟨List.mem_append_right _ (List.mem_of_getElem? (i := 541) (by decide +kernel)), List.forall_mem_cons.mpr ⟨List.mem_append_right _ (List.mem_of_getElem? (i := 542) (by decide +kernel)), List.forall_mem_cons.mpr ⟨List.mem_append_right _ (List.mem_of_getElem? (i := 544) (by decide +kernel)), List.forall_mem_cons.mpr ⟨List.mem_append_left _ (List.mem_of_getElem? (i := 51) (by decide +kernel)), List.forall_mem_cons.mpr ⟨List.mem_append_right _ (List.mem_of_getElem? (i := 545) (by decide +kernel)), List.forall_mem_cons.mpr ⟨List.mem_append_right _ (List.mem_of_getElem? (i := 864) (by decide +kernel)), List.forall_mem_cons.mpr ⟨List.mem_append_right _ (List.mem_of_getElem? (i := 865) (by decide +kernel)), fun _ h => absurd h List.not_mem_nil⟩⟩⟩⟩⟩⟩⟩⟩⟩⟩⟩⟩⟩⟩⟩⟩⟩⟩⟩⟩⟩⟩⟩⟩
theorem wr_26 : ∀ w ∈ wsL_law_r26, w ∈ lw_tbl := List.forall_mem_cons.mpr ⟨List.mem_append_right _ (List.mem_of_getElem? (i := 866) (by decide +kernel)), List.forall_mem_cons.mpr ⟨List.mem_append_right _ (List.mem_of_getElem? (i := 867) (by decide +kernel)), List.forall_mem_cons.mpr ⟨List.mem_append_right _ (List.mem_of_getElem? (i := 868) (by decide +kernel)), List.forall_mem_cons.mpr ⟨List.mem_append_right _ (List.mem_of_getElem? (i := 870) (by decide +kernel)), List.forall_mem_cons.mpr ⟨List.mem_append_left _ (List.mem_of_getElem? (i := 80) (by decide +kernel)), List.forall_mem_cons.mpr ⟨List.mem_append_right _ (List.mem_of_getElem? (i := 871) (by decide +kernel)), List.forall_mem_cons.mpr ⟨List.mem_append_right _ (List.mem_of_getElem? (i := 872) (by decide +kernel)), List.forall_mem_cons.mpr ⟨List.mem_append_right _ (List.mem_of_getElem? (i := 874) (by decide +kernel)), List.forall_mem_cons.mpr ⟨List.mem_append_left _ (List.mem_of_getElem? (i := 81) (by decide +kernel)), List.forall_mem_cons.mpr ⟨List.mem_append_right _ (List.mem_of_getElem? (i := 875) (by decide +kernel)), List.forall_mem_cons.mpr ⟨List.mem_append_right _ (List.mem_of_getElem? (i := 876) (by decide +kernel)), List.forall_mem_cons.mpr ⟨List.mem_append_right _ (List.mem_of_getElem? (i := 878) (by decide +kernel)), List.forall_mem_cons.mpr ⟨List.mem_append_left _ (List.mem_of_getElem? (i := 82) (by decide +kernel)), List.forall_mem_cons.mpr ⟨List.mem_append_right _ (List.mem_of_getElem? (i := 879) (by decide +kernel)), List.forall_mem_cons.mpr ⟨List.mem_append_right _ (List.mem_of_getElem? (i := 546) (by decide +kernel)), List.forall_mem_cons.mpr ⟨List.mem_append_right _ (List.mem_of_getElem? (i := 547) (by decide +kernel)), List.forall_mem_cons.mpr ⟨List.mem_append_right _ (List.mem_of_getElem? (i := 548) (by decide +kernel)), List.forall_mem_cons.mpr ⟨List.mem_append_right _ (List.mem_of_getElem? (i := 549) (by decide +kernel)), List.forall_mem_cons.mpr ⟨List.mem_append_right _ (List.mem_of_getElem? (i := 552) (by decide +kernel)), List.forall_mem_cons.mpr ⟨List.mem_append_left _ (List.mem_of_getElem? (i := 52) (by decide +kernel)), List.forall_mem_cons.mpr ⟨List.mem_append_right _ (List.mem_of_getElem? (i := 553) (by decide +kernel)), List.forall_mem_cons.mpr ⟨List.mem_append_right _ (List.mem_of_getElem? (i := 880) (by decide +kernel)), List.forall_mem_cons.mpr ⟨List.mem_append_right _ (List.mem_of_getElem? (i := 881) (by decide +kernel)), List.forall_mem_cons.mpr ⟨List.mem_append_right _ (List.mem_of_getElem? (i := 882) (by decide +kernel)), fun _ h => absurd h List.not_mem_nil⟩⟩⟩⟩⟩⟩⟩⟩⟩⟩⟩⟩⟩⟩⟩⟩⟩⟩⟩⟩⟩⟩⟩⟩
theorem wr_27 : ∀ w ∈ wsL_law_r27, w ∈ lw_tbl := List.forall_mem_cons.mpr ⟨List.mem_append_right _ (List.mem_of_getElem? (i := 883) (by decide +kernel)), List.forall_mem_cons.mpr ⟨List.mem_append_right _ (List.mem_of_getElem? (i := 554) (by decide +kernel)), List.forall_mem_cons.mpr ⟨List.mem_append_right _ (List.mem_of_getElem? (i := 555) (by decide +kernel)), List.forall_mem_cons.mpr ⟨List.mem_append_right _ (List.mem_of_getElem? (i := 556) (by decide +kernel)), List.forall_mem_cons.mpr ⟨List.mem_append_right _ (List.mem_of_getElem? (i := 557) (by decide +kernel)), List.forall_mem_cons.mpr ⟨List.mem_append_right _ (List.mem_of_getElem? (i := 558) (by decide +kernel)), List.forall_mem_cons.mpr ⟨List.mem_append_right _ (List.mem_of_getElem? (i := 559) (by decide +kernel)), List.forall_mem_cons.mpr ⟨List.mem_append_right _ (List.mem_of_getElem? (i := 560) (by decide +kernel)), List.forall_mem_cons.mpr ⟨List.mem_append_right _ (List.mem_of_getElem? (i := 561) (by decide +kernel)), List.forall_mem_cons.mpr ⟨List.mem_append_right _ (List.mem_of_getElem? (i := 562) (by decide +kernel)), List.forall_mem_cons.mpr ⟨List.mem_append_right _ (List.mem_of_getElem? (i := 563) (by decide +kernel)), List.forall_mem_cons.mpr ⟨List.mem_append_right _ (List.mem_of_getElem? (i := 566) (by decide +kernel)), List.forall_mem_cons.mpr ⟨List.mem_append_left _ (List.mem_of_getElem? (i := 53) (by decide +kernel)), List.forall_mem_cons.mpr ⟨List.mem_append_right _ (List.mem_of_getElem? (i := 567) (by decide +kernel)), List.forall_mem_cons.mpr ⟨List.mem_append_right _ (List.mem_of_getElem? (i := 568) (by decide +kernel)), List.forall_mem_cons.mpr ⟨List.mem_append_right _ (List.mem_of_getElem? (i := 569) (by decide +kernel)), List.forall_mem_cons.mpr ⟨List.mem_append_right _ (List.mem_of_getElem? (i := 570) (by decide +kernel)), List.forall_mem_cons.mpr ⟨List.mem_append_right _ (List.mem_of_getElem? (i := 571) (by decide +kernel)), List.forall_mem_cons.mpr ⟨List.mem_append_right _ (List.mem_of_getElem? (i := 572) (by decide +kernel)), List.forall_mem_cons.mpr ⟨List.mem_append_right _ (List.mem_of_getElem? (i := 573) (by decide +kernel)), List.forall_mem_cons.mpr ⟨List.mem_append_right _ (List.mem_of_getElem? (i := 884) (by decide +kernel)), List.forall_mem_cons.mpr ⟨List.mem_append_right _ (List.mem_of_getElem? (i := 885) (by decide +kernel)), List.forall_mem_cons.mpr ⟨List.mem_append_right _ (List.mem_of_getElem? (i := 886) (by decide +kernel)), List.forall_mem_cons.mpr ⟨List.mem_append_right _ (List.mem_of_getElem? (i := 887) (by decide +kernel)), fun _ h => absurd h List.not_mem_nil⟩⟩⟩⟩⟩⟩⟩⟩⟩⟩⟩⟩⟩⟩⟩⟩⟩⟩⟩⟩⟩⟩⟩⟩
theorem wr_28 : ∀ w ∈ wsL_law_r28, w ∈ lw_tbl := List.forall_mem_cons.mpr ⟨List.mem_append_right _ (List.mem_of_getElem? (i := 888) (by decide +kernel)), List.forall_mem_cons.mpr ⟨List.mem_append_right _ (List.mem_of_getElem? (i := 889) (by decide +kernel)), List.forall_mem_cons.mpr ⟨List.mem_append_right _ (List.mem_of_getElem? (i := 890) (by decide +kernel)), List.forall_mem_cons.mpr ⟨List.mem_append_right _ (List.mem_of_getElem? (i := 891) (by decide +kernel)), List.forall_mem_cons.mpr ⟨List.mem_append_right _ (List.mem_of_getElem? (i := 892) (by decide +kernel)), List.forall_mem_cons.mpr ⟨List.mem_append_right _ (List.mem_of_getElem? (i := 893) (by decide +kernel)), List.forall_mem_cons.mpr ⟨List.mem_append_right _ (List.mem_of_getElem? (i := 894) (by decide +kernel)), List.forall_mem_cons.mpr ⟨List.mem_append_right _ (List.mem_of_getElem? (i := 574) (by decide +kernel)), List.forall_mem_cons.mpr ⟨List.mem_append_right _ (List.mem_of_getElem? (i := 575) (by decide +kernel)), List.forall_mem_cons.mpr ⟨List.mem_append_right _ (List.mem_of_getElem? (i := 576) (by decide +kernel)), List.forall_mem_cons.mpr ⟨List.mem_append_right _ (List.mem_of_getElem? (i := 577) (by decide +kernel)), List.forall_mem_cons.mpr ⟨List.mem_append_right _ (List.mem_of_getElem? (i := 578) (by decide +kernel)), List.forall_mem_cons.mpr ⟨List.mem_append_right _ (List.mem_of_getElem? (i := 583) (by decide +kernel)), List.forall_mem_cons.mpr ⟨List.mem_append_left _ (List.mem_of_getElem? (i := 54) (by decide +kernel)), List.forall_mem_cons.mpr ⟨List.mem_append_right _ (List.mem_of_getElem? (i := 584) (by decide +kernel)), List.forall_mem_cons.mpr ⟨List.mem_append_right _ (List.mem_of_getElem? (i := 895) (by decide +kernel)), List.forall_mem_cons.mpr ⟨List.mem_append_right _ (List.mem_of_getElem? (i := 896) (by decide +kernel)), List.forall_mem_cons.mpr ⟨List.mem_append_right _ (List.mem_of_getElem? (i := 897) (by decide +kernel)), List.forall_mem_cons.mpr ⟨List.mem_append_right _ (List.mem_of_getElem? (i := 898) (by decide +kernel)), List.forall_mem_cons.mpr ⟨List.mem_append_right _ (List.mem_of_getElem? (i := 899) (by decide +kernel)), List.forall_mem_cons.mpr ⟨List.mem_append_right _ (List.mem_of_getElem? (i := 585) (by decide +kernel)), List.forall_mem_cons.mpr ⟨List.mem_append_right _ (List.mem_of_getElem? (i := 586) (by decide +kernel)), List.forall_mem_cons.mpr ⟨List.mem_append_right _ (List.mem_of_getElem? (i := 587) (by decide +kernel)), List.forall_mem_cons.mpr ⟨List.mem_append_right _ (List.mem_of_getElem? (i := 588) (by decide +kernel)), fun _ h => absurd h List.not_mem_nil⟩⟩⟩⟩⟩⟩⟩⟩⟩⟩⟩⟩⟩⟩⟩⟩⟩⟩⟩⟩⟩⟩⟩⟩
theorem wr_29 : ∀ w ∈ wsL_law_r29, w ∈ lw_tbl := List.forall_mem_cons.mpr ⟨List.mem_append_right _ (List.mem_of_getElem? (i := 591) (by decide +kernel)), List.forall_mem_cons.mpr ⟨List.mem_append_left _ (List.mem_of_getElem? (i := 55) (by decide +kernel)), List.forall_mem_cons.mpr ⟨List.mem_append_right _ (List.mem_of_getElem? (i := 592) (by decide +kernel)), List.forall_mem_cons.mpr ⟨List.mem_append_right _ (List.mem_of_getElem? (i := 29) (by decide +kernel)), List.forall_mem_cons.mpr ⟨List.mem_append_right _ (List.mem_of_getElem? (i := 593) (by decide +kernel)), List.forall_mem_cons.mpr ⟨List.mem_append_right _ (List.mem_of_getElem? (i := 900) (by decide +kernel)), List.forall_mem_cons.mpr ⟨List.mem_append_right _ (List.mem_of_getElem? (i := 901) (by decide +kernel)), List.forall_mem_cons.mpr ⟨List.mem_append_right _ (List.mem_of_getElem? (i := 902) (by decide +kernel)), List.forall_mem_cons.mpr ⟨List.mem_append_right _ (List.mem_of_getElem? (i := 903) (by decide +kernel)), List.forall_mem_cons.mpr ⟨List.mem_append_right _ (List.mem_of_getElem? (i := 594) (by decide +kernel)), List.forall_mem_cons.mpr ⟨List.mem_append_right _ (List.mem_of_getElem? (i := 595) (by decide +kernel)), List.forall_mem_cons.mpr ⟨List.mem_append_right _ (List.mem_of_getElem? (i := 596) (by decide +kernel)), List.forall_mem_cons.mpr ⟨List.mem_append_right _ (List.mem_of_getElem? (i := 597) (by decide +kernel)), List.forall_mem_cons.mpr ⟨List.mem_append_right _ (List.mem_of_getElem? (i := 904) (by decide +kernel)), List.forall_mem_cons.mpr ⟨List.mem_append_right _ (List.mem_of_getElem? (i := 905) (by decide +kernel)), List.forall_mem_cons.mpr ⟨List.mem_append_right _ (List.mem_of_getElem? (i := 906) (by decide +kernel)), List.forall_mem_cons.mpr ⟨List.mem_append_right _ (List.mem_of_getElem? (i := 907) (by decide +kernel)), List.forall_mem_cons.mpr ⟨List.mem_append_right _ (List.mem_of_getElem? (i := 598) (by decide +kernel)), List.forall_mem_cons.mpr ⟨List.mem_append_right _ (List.mem_of_getElem? (i := 599) (by decide +kernel)), List.forall_mem_cons.mpr ⟨List.mem_append_right _ (List.mem_of_getElem? (i := 600) (by decide +kernel)), List.forall_mem_cons.mpr ⟨List.mem_append_right _ (List.mem_of_getElem? (i := 601) (by decide +kernel)), List.forall_mem_cons.mpr ⟨List.mem_append_right _ (List.mem_of_getElem? (i := 602) (by decide +kernel)), List.forall_mem_cons.mpr ⟨List.mem_append_right _ (List.mem_of_getElem? (i := 604) (by decide +kernel)), List.forall_mem_cons.mpr ⟨List.mem_append_left _ (List.mem_of_getElem? (i := 56) (by decide +kernel)), fun _ h => absurd h List.not_mem_nil⟩⟩⟩⟩⟩⟩⟩⟩⟩⟩⟩⟩⟩⟩⟩⟩⟩⟩⟩⟩⟩⟩⟩⟩
theorem wr_30 : ∀ w ∈ wsL_law_r30, w ∈ lw_tbl := List.forall_mem_cons.mpr ⟨List.mem_append_right _ (List.mem_of_getElem? (i := 605) (by decide +kernel)), List.forall_mem_cons.mpr ⟨List.mem_append_right _ (List.mem_of_getElem? (i := 908) (by decide +kernel)), List.forall_mem_cons.mpr ⟨List.mem_append_right _ (List.mem_of_getElem? (i := 909) (by decide +kernel)), List.forall_mem_cons.mpr ⟨List.mem_append_right _ (List.mem_of_getElem? (i := 910) (by decide +kernel)), List.forall_mem_cons.mpr ⟨List.mem_append_right _ (List.mem_of_getElem? (i := 911) (by decide +kernel)), fun _ h => absurd h List.not_mem_nil⟩⟩⟩⟩⟩
theorem wx_0 : ∀ w ∈ wsX00, w ∈ lw_tbl := by
  rw [show wsX00 = [u_lay RX0 TX0 0, u_lay RX0 TX0 1] from rfl]
  exact List.forall_mem_cons.mpr ⟨List.mem_append_right _ (List.mem_of_getElem? (i := 62) (by decide +kernel)), List.forall_mem_cons.mpr ⟨List.mem_append_right _ (List.mem_of_getElem? (i := 64) (by decide +kernel)), fun _ h => absurd h List.not_mem_nil⟩⟩
theorem wx_1 : ∀ w ∈ wsX10, w ∈ lw_tbl := by
  rw [show wsX10 = [u_lay RX1 TX1 0, u_lay RX1 TX1 1, u_lay RX1 TX1 2, u_lay RX1 TX1 3, u_lay RX1 TX1 4] from rfl]
  exact List.forall_mem_cons.mpr ⟨List.mem_append_right _ (List.mem_of_getElem? (i := 99) (by decide +kernel)), List.forall_mem_cons.mpr ⟨List.mem_append_right _ (List.mem_of_getElem? (i := 101) (by decide +kernel)), List.forall_mem_cons.mpr ⟨List.mem_append_right _ (List.mem_of_getElem? (i := 103) (by decide +kernel)), List.forall_mem_cons.mpr ⟨List.mem_append_right _ (List.mem_of_getElem? (i := 105) (by decide +kernel)), List.forall_mem_cons.mpr ⟨List.mem_append_right _ (List.mem_of_getElem? (i := 107) (by decide +kernel)), fun _ h => absurd h List.not_mem_nil⟩⟩⟩⟩⟩
theorem wx_2 : ∀ w ∈ wsX20, w ∈ lw_tbl := by
  rw [show wsX20 = [u_lay RX2 TX2 0, u_lay RX2 TX2 1, u_lay RX2 TX2 2, u_lay RX2 TX2 3, u_lay RX2 TX2 4, u_lay RX2 TX2 5, u_lay RX2 TX2 6] from rfl]
  exact List.forall_mem_cons.mpr ⟨List.mem_append_right _ (List.mem_of_getElem? (i := 36) (by decide +kernel)), List.forall_mem_cons.mpr ⟨List.mem_append_right _ (List.mem_of_getElem? (i := 38) (by decide +kernel)), List.forall_mem_cons.mpr ⟨List.mem_append_right _ (List.mem_of_getElem? (i := 40) (by decide +kernel)), List.forall_mem_cons.mpr ⟨List.mem_append_right _ (List.mem_of_getElem? (i := 42) (by decide +kernel)), List.forall_mem_cons.mpr ⟨List.mem_append_right _ (List.mem_of_getElem? (i := 44) (by decide +kernel)), List.forall_mem_cons.mpr ⟨List.mem_append_right _ (List.mem_of_getElem? (i := 46) (by decide +kernel)), List.forall_mem_cons.mpr ⟨List.mem_append_right _ (List.mem_of_getElem? (i := 48) (by decide +kernel)), fun _ h => absurd h List.not_mem_nil⟩⟩⟩⟩⟩⟩⟩
theorem wx_3 : ∀ w ∈ wsX30, w ∈ lw_tbl := by
  rw [show wsX30 = [u_lay RX3 TX3 0, u_lay RX3 TX3 1, u_lay RX3 TX3 2, u_lay RX3 TX3 3, u_lay RX3 TX3 4, u_lay RX3 TX3 5, u_lay RX3 TX3 6, u_lay RX3 TX3 7, u_lay RX3 TX3 8, u_lay RX3 TX3 9, u_lay RX3 TX3 10, u_lay RX3 TX3 11, u_lay RX3 TX3 12, u_lay RX3 TX3 13, u_lay RX3 TX3 14, u_lay RX3 TX3 15] from rfl]
  exact List.forall_mem_cons.mpr ⟨List.mem_append_right _ (List.mem_of_getElem? (i := 141) (by decide +kernel)), List.forall_mem_cons.mpr ⟨List.mem_append_right _ (List.mem_of_getElem? (i := 143) (by decide +kernel)), List.forall_mem_cons.mpr ⟨List.mem_append_right _ (List.mem_of_getElem? (i := 145) (by decide +kernel)), List.forall_mem_cons.mpr ⟨List.mem_append_right _ (List.mem_of_getElem? (i := 147) (by decide +kernel)), List.forall_mem_cons.mpr ⟨List.mem_append_right _ (List.mem_of_getElem? (i := 149) (by decide +kernel)), List.forall_mem_cons.mpr ⟨List.mem_append_right _ (List.mem_of_getElem? (i := 151) (by decide +kernel)), List.forall_mem_cons.mpr ⟨List.mem_append_right _ (List.mem_of_getElem? (i := 153) (by decide +kernel)), List.forall_mem_cons.mpr ⟨List.mem_append_right _ (List.mem_of_getElem? (i := 155) (by decide +kernel)), List.forall_mem_cons.mpr ⟨List.mem_append_right _ (List.mem_of_getElem? (i := 157) (by decide +kernel)), List.forall_mem_cons.mpr ⟨List.mem_append_right _ (List.mem_of_getElem? (i := 159) (by decide +kernel)), List.forall_mem_cons.mpr ⟨List.mem_append_right _ (List.mem_of_getElem? (i := 161) (by decide +kernel)), List.forall_mem_cons.mpr ⟨List.mem_append_right _ (List.mem_of_getElem? (i := 163) (by decide +kernel)), List.forall_mem_cons.mpr ⟨List.mem_append_right _ (List.mem_of_getElem? (i := 165) (by decide +kernel)), List.forall_mem_cons.mpr ⟨List.mem_append_right _ (List.mem_of_getElem? (i := 167) (by decide +kernel)), List.forall_mem_cons.mpr ⟨List.mem_append_right _ (List.mem_of_getElem? (i := 169) (by decide +kernel)), List.forall_mem_cons.mpr ⟨List.mem_append_right _ (List.mem_of_getElem? (i := 171) (by decide +kernel)), fun _ h => absurd h List.not_mem_nil⟩⟩⟩⟩⟩⟩⟩⟩⟩⟩⟩⟩⟩⟩⟩⟩
theorem wx_4 : ∀ w ∈ wsX40, w ∈ lw_tbl := by
  rw [show wsX40 = [u_lay RX4 TX4 0, u_lay RX4 TX4 1, u_lay RX4 TX4 2, u_lay RX4 TX4 3] from rfl]
  exact List.forall_mem_cons.mpr ⟨List.mem_append_right _ (List.mem_of_getElem? (i := 78) (by decide +kernel)), List.forall_mem_cons.mpr ⟨List.mem_append_right _ (List.mem_of_getElem? (i := 80) (by decide +kernel)), List.forall_mem_cons.mpr ⟨List.mem_append_right _ (List.mem_of_getElem? (i := 82) (by decide +kernel)), List.forall_mem_cons.mpr ⟨List.mem_append_right _ (List.mem_of_getElem? (i := 84) (by decide +kernel)), fun _ h => absurd h List.not_mem_nil⟩⟩⟩⟩
theorem wx_5 : ∀ w ∈ wsX50, w ∈ lw_tbl := by
  rw [show wsX50 = [u_lay RX5 TX5 0, u_lay RX5 TX5 1, u_lay RX5 TX5 2, u_lay RX5 TX5 3, u_lay RX5 TX5 4, u_lay RX5 TX5 5, u_lay RX5 TX5 6, u_lay RX5 TX5 7] from rfl]
  exact List.forall_mem_cons.mpr ⟨List.mem_append_right _ (List.mem_of_getElem? (i := 182) (by decide +kernel)), List.forall_mem_cons.mpr ⟨List.mem_append_right _ (List.mem_of_getElem? (i := 184) (by decide +kernel)), List.forall_mem_cons.mpr ⟨List.mem_append_right _ (List.mem_of_getElem? (i := 186) (by decide +kernel)), List.forall_mem_cons.mpr ⟨List.mem_append_right _ (List.mem_of_getElem? (i := 188) (by decide +kernel)), List.forall_mem_cons.mpr ⟨List.mem_append_right _ (List.mem_of_getElem? (i := 190) (by decide +kernel)), List.forall_mem_cons.mpr ⟨List.mem_append_right _ (List.mem_of_getElem? (i := 192) (by decide +kernel)), List.forall_mem_cons.mpr ⟨List.mem_append_right _ (List.mem_of_getElem? (i := 194) (by decide +kernel)), List.forall_mem_cons.mpr ⟨List.mem_append_right _ (List.mem_of_getElem? (i := 196) (by decide +kernel)), fun _ h => absurd h List.not_mem_nil⟩⟩⟩⟩⟩⟩⟩⟩
theorem wx_6 : ∀ w ∈ wsX60, w ∈ lw_tbl := by
  rw [show wsX60 = [u_lay RX6 TX6 0, u_lay RX6 TX6 1, u_lay RX6 TX6 2, u_lay RX6 TX6 3, u_lay RX6 TX6 4, u_lay RX6 TX6 5, u_lay RX6 TX6 6, u_lay RX6 TX6 7, u_lay RX6 TX6 8, u_lay RX6 TX6 9, u_lay RX6 TX6 10, u_lay RX6 TX6 11, u_lay RX6 TX6 12, u_lay RX6 TX6 13, u_lay RX6 TX6 14, u_lay RX6 TX6 15, u_lay RX6 TX6 16, u_lay RX6 TX6 17, u_lay RX6 TX6 18, u_lay RX6 TX6 19, u_lay RX6 TX6 20, u_lay RX6 TX6 21, u_lay RX6 TX6 22] from rfl]
  exact List.forall_mem_cons.mpr ⟨List.mem_append_right _ (List.mem_of_getElem? (i := 635) (by decide +kernel)), List.forall_mem_cons.mpr ⟨List.mem_append_right _ (List.mem_of_getElem? (i := 637) (by decide +kernel)), List.forall_mem_cons.mpr ⟨List.mem_append_right _ (List.mem_of_getElem? (i := 639) (by decide +kernel)), List.forall_mem_cons.mpr ⟨List.mem_append_right _ (List.mem_of_getElem? (i := 641) (by decide +kernel)), List.forall_mem_cons.mpr ⟨List.mem_append_right _ (List.mem_of_getElem? (i := 643) (by decide +kernel)), List.forall_mem_cons.mpr ⟨List.mem_append_right _ (List.mem_of_getElem? (i := 645) (by decide +kernel)), List.forall_mem_cons.mpr ⟨List.mem_append_right _ (List.mem_of_getElem? (i := 647) (by decide +kernel)), List.forall_mem_cons.mpr ⟨List.mem_append_right _ (List.mem_of_getElem? (i := 649) (by decide +kernel)), List.forall_mem_cons.mpr ⟨List.mem_append_right _ (List.mem_of_getElem? (i := 651) (by decide +kernel)), List.forall_mem_cons.mpr ⟨List.mem_append_right _ (List.mem_of_getElem? (i := 653) (by decide +kernel)), List.forall_mem_cons.mpr ⟨List.mem_append_right _ (List.mem_of_getElem? (i := 655) (by decide +kernel)), List.forall_mem_cons.mpr ⟨List.mem_append_right _ (List.mem_of_getElem? (i := 657) (by decide +kernel)), List.forall_mem_cons.mpr ⟨List.mem_append_right _ (List.mem_of_getElem? (i := 659) (by decide +kernel)), List.forall_mem_cons.mpr ⟨List.mem_append_right _ (List.mem_of_getElem? (i := 661) (by decide +kernel)), List.forall_mem_cons.mpr ⟨List.mem_append_right _ (List.mem_of_getElem? (i := 663) (by decide +kernel)), List.forall_mem_cons.mpr ⟨List.mem_append_right _ (List.mem_of_getElem? (i := 665) (by decide +kernel)), List.forall_mem_cons.mpr ⟨List.mem_append_right _ (List.mem_of_getElem? (i := 667) (by decide +kernel)), List.forall_mem_cons.mpr ⟨List.mem_append_right _ (List.mem_of_getElem? (i := 669) (by decide +kernel)), List.forall_mem_cons.mpr ⟨List.mem_append_right _ (List.mem_of_getElem? (i := 671) (by decide +kernel)), List.forall_mem_cons.mpr ⟨List.mem_append_right _ (List.mem_of_getElem? (i := 673) (by decide +kernel)), List.forall_mem_cons.mpr ⟨List.mem_append_right _ (List.mem_of_getElem? (i := 675) (by decide +kernel)), List.forall_mem_cons.mpr ⟨List.mem_append_right _ (List.mem_of_getElem? (i := 677) (by decide +kernel)), List.forall_mem_cons.mpr ⟨List.mem_append_right _ (List.mem_of_getElem? (i := 679) (by decide +kernel)), fun _ h => absurd h List.not_mem_nil⟩⟩⟩⟩⟩⟩⟩⟩⟩⟩⟩⟩⟩⟩⟩⟩⟩⟩⟩⟩⟩⟩⟩
theorem wsL_law_in : ∀ w ∈ wsL_law, w ∈ lw_tbl := List.forall_mem_append.mpr ⟨List.forall_mem_append.mpr ⟨List.forall_mem_append.mpr ⟨List.forall_mem_append.mpr ⟨List.forall_mem_append.mpr ⟨List.forall_mem_append.mpr ⟨List.forall_mem_append.mpr ⟨List.forall_mem_append.mpr ⟨List.forall_mem_append.mpr ⟨wr_1, List.forall_mem_append.mpr ⟨wr_2, List.forall_mem_append.mpr ⟨wr_3, List.forall_mem_append.mpr ⟨wr_4, List.forall_mem_append.mpr ⟨wr_5, List.forall_mem_append.mpr ⟨wr_6, List.forall_mem_append.mpr ⟨wr_7, List.forall_mem_append.mpr ⟨wr_8, List.forall_mem_append.mpr ⟨wr_9, List.forall_mem_append.mpr ⟨wr_10, List.forall_mem_append.mpr ⟨wr_11, List.forall_mem_append.mpr ⟨wr_12, List.forall_mem_append.mpr ⟨wr_13, List.forall_mem_append.mpr ⟨wr_14, List.forall_mem_append.mpr ⟨wr_15, List.forall_mem_append.mpr ⟨wr_16, List.forall_mem_append.mpr ⟨wr_17, List.forall_mem_append.mpr ⟨wr_18, List.forall_mem_append.mpr ⟨wr_19, List.forall_mem_append.mpr ⟨wr_20, List.forall_mem_append.mpr ⟨wr_21, List.forall_mem_append.mpr ⟨wr_22, List.forall_mem_append.mpr ⟨wr_23, List.forall_mem_append.mpr ⟨wr_24, List.forall_mem_append.mpr ⟨wr_25, List.forall_mem_append.mpr ⟨wr_26, List.forall_mem_append.mpr ⟨wr_27, List.forall_mem_append.mpr ⟨wr_28, List.forall_mem_append.mpr ⟨wr_29, wr_30⟩⟩⟩⟩⟩⟩⟩⟩⟩⟩⟩⟩⟩⟩⟩⟩⟩⟩⟩⟩⟩⟩⟩⟩⟩⟩⟩⟩⟩, wx_5⟩, wx_6⟩, wx_2⟩, wx_0⟩, wx_4⟩, wx_1⟩, wx_3⟩, fun _ h => absurd h List.not_mem_nil⟩
theorem wg_1 : wsL_law_r1.all goodWord = true := by decide +kernel
theorem wg_2 : wsL_law_r2.all goodWord = true := by decide +kernel
theorem wg_3 : wsL_law_r3.all goodWord = true := by decide +kernel
theorem wg_4 : wsL_law_r4.all goodWord = true := by decide +kernel
theorem wg_5 : wsL_law_r5.all goodWord = true := by decide +kernel
theorem wg_6 : wsL_law_r6.all goodWord = true := by decide +kernel
theorem wg_7 : wsL_law_r7.all goodWord = true := by decide +kernel
theorem wg_8 : wsL_law_r8.all goodWord = true := by decide +kernel
theorem wg_9 : wsL_law_r9.all goodWord = true := by decide +kernel
theorem wg_10 : wsL_law_r10.all goodWord = true := by decide +kernel
theorem wg_11 : wsL_law_r11.all goodWord = true := by decide +kernel
theorem wg_12 : wsL_law_r12.all goodWord = true := by decide +kernel
theorem wg_13 : wsL_law_r13.all goodWord = true := by decide +kernel
theorem wg_14 : wsL_law_r14.all goodWord = true := by decide +kernel
theorem wg_15 : wsL_law_r15.all goodWord = true := by decide +kernel
theorem wg_16 : wsL_law_r16.all goodWord = true := by decide +kernel
theorem wg_17 : wsL_law_r17.all goodWord = true := by decide +kernel
theorem wg_18 : wsL_law_r18.all goodWord = true := by decide +kernel
theorem wg_19 : wsL_law_r19.all goodWord = true := by decide +kernel
theorem wg_20 : wsL_law_r20.all goodWord = true := by decide +kernel
theorem wg_21 : wsL_law_r21.all goodWord = true := by decide +kernel
theorem wg_22 : wsL_law_r22.all goodWord = true := by decide +kernel
theorem wg_23 : wsL_law_r23.all goodWord = true := by decide +kernel
theorem wg_24 : wsL_law_r24.all goodWord = true := by decide +kernel
theorem wg_25 : wsL_law_r25.all goodWord = true := by decide +kernel
theorem wg_26 : wsL_law_r26.all goodWord = true := by decide +kernel
theorem wg_27 : wsL_law_r27.all goodWord = true := by decide +kernel
theorem wg_28 : wsL_law_r28.all goodWord = true := by decide +kernel
theorem wg_29 : wsL_law_r29.all goodWord = true := by decide +kernel
theorem wg_30 : wsL_law_r30.all goodWord = true := by decide +kernel
theorem wh_0 : wsX00.all goodWord = true := by decide +kernel
theorem wh_1 : wsX10.all goodWord = true := by decide +kernel
theorem wh_2 : wsX20.all goodWord = true := by decide +kernel
theorem wh_3 : wsX30.all goodWord = true := by decide +kernel
theorem wh_4 : wsX40.all goodWord = true := by decide +kernel
theorem wh_5 : wsX50.all goodWord = true := by decide +kernel
theorem wh_6 : wsX60.all goodWord = true := by decide +kernel
theorem wl_1 : ∀ w ∈ wsL_law_r1, w ∈ wsL_law := fun _ h => List.mem_append_left _ (List.mem_append_left _ (List.mem_append_left _ (List.mem_append_left _ (List.mem_append_left _ (List.mem_append_left _ (List.mem_append_left _ (List.mem_append_left _ (List.mem_append_left _ h))))))))
theorem wl_2 : ∀ w ∈ wsL_law_r2, w ∈ wsL_law := fun _ h => List.mem_append_left _ (List.mem_append_left _ (List.mem_append_left _ (List.mem_append_left _ (List.mem_append_left _ (List.mem_append_left _ (List.mem_append_left _ (List.mem_append_left _ (List.mem_append_right _ (List.mem_append_left _ h)))))))))
theorem wl_3 : ∀ w ∈ wsL_law_r3, w ∈ wsL_law := fun _ h => List.mem_append_left _ (List.mem_append_left _ (List.mem_append_left _ (List.mem_append_left _ (List.mem_append_left _ (List.mem_append_left _ (List.mem_append_left _ (List.mem_append_left _ (List.mem_append_right _ (List.mem_append_right _ (List.mem_append_left _ h))))))))))
theorem wl_4 : ∀ w ∈ wsL_law_r4, w ∈ wsL_law := fun _ h => List.mem_append_left _ (List.mem_append_left _ (List.mem_append_left _ (List.mem_append_left _ (List.mem_append_left _ (List.mem_append_left _ (List.mem_append_left _ (List.mem_append_left _ (List.mem_append_right _ (List.mem_append_right _ (List.mem_append_right _ (List.mem_append_left _ h)))))))))))
theorem wl_5 : ∀ w ∈ wsL_law_r5, w ∈ wsL_law := fun _ h => List.mem_append_left _ (List.mem_append_left _ (List.mem_append_left _ (List.mem_append_left _ (List.mem_append_left _ (List.mem_append_left _ (List.mem_append_left _ (List.mem_append_left _ (List.mem_append_right _ (List.mem_append_right _ (List.mem_append_right _ (List.mem_append_right _ (List.mem_append_left _ h))))))))))))
theorem wl_6 : ∀ w ∈ wsL_law_r6, w ∈ wsL_law := fun _ h => List.mem_append_left _ (List.mem_append_left _ (List.mem_append_left _ (List.mem_append_left _ (List.mem_append_left _ (List.mem_append_left _ (List.mem_append_left _ (List.mem_append_left _ (List.mem_append_right _ (List.mem_append_right _ (List.mem_append_right _ (List.mem_append_right _ (List.mem_append_right _ (List.mem_append_left _ h)))))))))))))
theorem wl_7 : ∀ w ∈ wsL_law_r7, w ∈ wsL_law := fun _ h => List.mem_append_left _ (List.mem_append_left _ (List.mem_append_left _ (List.mem_append_left _ (List.mem_append_left _ (List.mem_append_left _ (List.mem_append_left _ (List.mem_append_left _ (List.mem_append_right _ (List.mem_append_right _ (List.mem_append_right _ (List.mem_append_right _ (List.mem_append_right _ (List.mem_append_right _ (List.mem_append_left _ h))))))))))))))
theorem wl_8 : ∀ w ∈ wsL_law_r8, w ∈ wsL_law := fun _ h => List.mem_append_left _ (List.mem_append_left _ (List.mem_append_left _ (List.mem_append_left _ (List.mem_append_left _ (List.mem_append_left _ (List.mem_append_left _ (List.mem_append_left _ (List.mem_append_right _ (List.mem_append_right _ (List.mem_append_right _ (List.mem_append_right _ (List.mem_append_right _ (List.mem_append_right _ (List.mem_append_right _ (List.mem_append_left _ h)))))))))))))))
theorem wl_9 : ∀ w ∈ wsL_law_r9, w ∈ wsL_law := fun _ h => List.mem_append_left _ (List.mem_append_left _ (List.mem_append_left _ (List.mem_append_left _ (List.mem_append_left _ (List.mem_append_left _ (List.mem_append_left _ (List.mem_append_left _ (List.mem_append_right _ (List.mem_append_right _ (List.mem_append_right _ (List.mem_append_right _ (List.mem_append_right _ (List.mem_append_right _ (List.mem_append_right _ (List.mem_append_right _ (List.mem_append_left _ h))))))))))))))))
theorem wl_10 : ∀ w ∈ wsL_law_r10, w ∈ wsL_law := fun _ h => List.mem_append_left _ (List.mem_append_left _ (List.mem_append_left _ (List.mem_append_left _ (List.mem_append_left _ (List.mem_append_left _ (List.mem_append_left _ (List.mem_append_left _ (List.mem_append_right _ (List.mem_append_right _ (List.mem_append_right _ (List.mem_append_right _ (List.mem_append_right _ (List.mem_append_right _ (List.mem_append_right _ (List.mem_append_right _ (List.mem_append_right _ (List.mem_append_left _ h)))))))))))))))))
theorem wl_11 : ∀ w ∈ wsL_law_r11, w ∈ wsL_law := fun _ h => List.mem_append_left _ (List.mem_append_left _ (List.mem_append_left _ (List.mem_append_left _ (List.mem_append_left _ (List.mem_append_left _ (List.mem_append_left _ (List.mem_append_left _ (List.mem_append_right _ (List.mem_append_right _ (List.mem_append_right _ (List.mem_append_right _ (List.mem_append_right _ (List.mem_append_right _ (List.mem_append_right _ (List.mem_append_right _ (List.mem_append_right _ (List.mem_append_right _ (List.mem_append_left _ h))))))))))))))))))
theorem wl_12 : ∀ w ∈ wsL_law_r12, w ∈ wsL_law := fun _ h => List.mem_append_left _ (List.mem_append_left _ (List.mem_append_left _ (List.mem_append_left _ (List.mem_append_left _ (List.mem_append_left _ (List.mem_append_left _ (List.mem_append_left _ (List.mem_append_right _ (List.mem_append_right _ (List.mem_append_right _ (List.mem_append_right _ (List.mem_append_right _ (List.mem_append_right _ (List.mem_append_right _ (List.mem_append_right _ (List.mem_append_right _ (List.mem_append_right _ (List.mem_append_right _ (List.mem_append_left _ h)))))))))))))))))))
theorem wl_13 : ∀ w ∈ wsL_law_r13, w ∈ wsL_law := fun _ h => List.mem_append_left _ (List.mem_append_left _ (List.mem_append_left _ (List.mem_append_left _ (List.mem_append_left _ (List.mem_append_left _ (List.mem_append_left _ (List.mem_append_left _ (List.mem_append_right _ (List.mem_append_right _ (List.mem_append_right _ (List.mem_append_right _ (List.mem_append_right _ (List.mem_append_right _ (List.mem_append_right _ (List.mem_append_right _ (List.mem_append_right _ (List.mem_append_right _ (List.mem_append_right _ (List.mem_append_right _ (List.mem_append_left _ h))))))))))))))))))))
theorem wl_14 : ∀ w ∈ wsL_law_r14, w ∈ wsL_law := fun _ h => List.mem_append_left _ (List.mem_append_left _ (List.mem_append_left _ (List.mem_append_left _ (List.mem_append_left _ (List.mem_append_left _ (List.mem_append_left _ (List.mem_append_left _ (List.mem_append_right _ (List.mem_append_right _ (List.mem_append_right _ (List.mem_append_right _ (List.mem_append_right _ (List.mem_append_right _ (List.mem_append_right _ (List.mem_append_right _ (List.mem_append_right _ (List.mem_append_right _ (List.mem_append_right _ (List.mem_append_right _ (List.mem_append_right _ (List.mem_append_left _ h)))))))))))))))))))))
theorem wl_15 : ∀ w ∈ wsL_law_r15, w ∈ wsL_law := fun _ h => List.mem_append_left _ (List.mem_append_left _ (List.mem_append_left _ (List.mem_append_left _ (List.mem_append_left _ (List.mem_append_left _ (List.mem_append_left _ (List.mem_append_left _ (List.mem_append_right _ (List.mem_append_right _ (List.mem_append_right _ (List.mem_append_right _ (List.mem_append_right _ (List.mem_append_right _ (List.mem_append_right _ (List.mem_append_right _ (List.mem_append_right _ (List.mem_append_right _ (List.mem_append_right _ (List.mem_append_right _ (List.mem_append_right _ (List.mem_append_right _ (List.mem_append_left _ h))))))))))))))))))))))
theorem wl_16 : ∀ w ∈ wsL_law_r16, w ∈ wsL_law := fun _ h => List.mem_append_left _ (List.mem_append_left _ (List.mem_append_left _ (List.mem_append_left _ (List.mem_append_left _ (List.mem_append_left _ (List.mem_append_left _ (List.mem_append_left _ (List.mem_append_right _ (List.mem_append_right _ (List.mem_append_right _ (List.mem_append_right _ (List.mem_append_right _ (List.mem_append_right _ (List.mem_append_right _ (List.mem_append_right _ (List.mem_append_right _ (List.mem_append_right _ (List.mem_append_right _ (List.mem_append_right _ (List.mem_append_right _ (List.mem_append_right _ (List.mem_append_right _ (List.mem_append_left _ h)))))))))))))))))))))))
theorem wl_17 : ∀ w ∈ wsL_law_r17, w ∈ wsL_law := fun _ h => List.mem_append_left _ (List.mem_append_left _ (List.mem_append_left _ (List.mem_append_left _ (List.mem_append_left _ (List.mem_append_left _ (List.mem_append_left _ (List.mem_append_left _ (List.mem_append_right _ (List.mem_append_right _ (List.mem_append_right _ (List.mem_append_right _ (List.mem_append_right _ (List.mem_append_right _ (List.mem_append_right _ (List.mem_append_right _ (List.mem_append_right _ (List.mem_append_right _ (List.mem_append_right _ (List.mem_append_right _ (List.mem_append_right _ (List.mem_append_right _ (List.mem_append_right _ (List.mem_append_right _ (List.mem_append_left _ h))))))))))))))))))))))))
theorem wl_18 : ∀ w ∈ wsL_law_r18, w ∈ wsL_law := fun _ h => List.mem_append_left _ (List.mem_append_left _ (List.mem_append_left _ (List.mem_append_left _ (List.mem_append_left _ (List.mem_append_left _ (List.mem_append_left _ (List.mem_append_left _ (List.mem_append_right _ (List.mem_append_right _ (List.mem_append_right _ (List.mem_append_right _ (List.mem_append_right _ (List.mem_append_right _ (List.mem_append_right _ (List.mem_append_right _ (List.mem_append_right _ (List.mem_append_right _ (List.mem_append_right _ (List.mem_append_right _ (List.mem_append_right _ (List.mem_append_right _ (List.mem_append_right _ (List.mem_append_right _ (List.mem_append_right _ (List.mem_append_left _ h)))))))))))))))))))))))))
theorem wl_19 : ∀ w ∈ wsL_law_r19, w ∈ wsL_law := fun _ h => List.mem_append_left _ (List.mem_append_left _ (List.mem_append_left _ (List.mem_append_left _ (List.mem_append_left _ (List.mem_append_left _ (List.mem_append_left _ (List.mem_append_left _ (List.mem_append_right _ (List.mem_append_right _ (List.mem_append_right _ (List.mem_append_right _ (List.mem_append_right _ (List.mem_append_right _ (List.mem_append_right _ (List.mem_append_right _ (List.mem_append_right _ (List.mem_append_right _ (List.mem_append_right _ (List.mem_append_right _ (List.mem_append_right _ (List.mem_append_right _ (List.mem_append_right _ (List.mem_append_right _ (List.mem_append_right _ (List.mem_append_right _ (List.mem_append_left _ h))))))))))))))))))))))))))
theorem wl_20 : ∀ w ∈ wsL_law_r20, w ∈ wsL_law := fun _ h => List.mem_append_left _ (List.mem_append_left _ (List.mem_append_left _ (List.mem_append_left _ (List.mem_append_left _ (List.mem_append_left _ (List.mem_append_left _ (List.mem_append_left _ (List.mem_append_right _ (List.mem_append_right _ (List.mem_append_right _ (List.mem_append_right _ (List.mem_append_right _ (List.mem_append_right _ (List.mem_append_right _ (List.mem_append_right _ (List.mem_append_right _ (List.mem_append_right _ (List.mem_append_right _ (List.mem_append_right _ (List.mem_append_right _ (List.mem_append_right _ (List.mem_append_right _ (List.mem_append_right _ (List.mem_append_right _ (List.mem_append_right _ (List.mem_append_right _ (List.mem_append_left _ h)))))))))))))))))))))))))))
theorem wl_21 : ∀ w ∈ wsL_law_r21, w ∈ wsL_law := fun _ h => List.mem_append_left _ (List.mem_append_left _ (List.mem_append_left _ (List.mem_append_left _ (List.mem_append_left _ (List.mem_append_left _ (List.mem_append_left _ (List.mem_append_left _ (List.mem_append_right _ (List.mem_append_right _ (List.mem_append_right _ (List.mem_append_right _ (List.mem_append_right _ (List.mem_append_right _ (List.mem_append_right _ (List.mem_append_right _ (List.mem_append_right _ (List.mem_append_right _ (List.mem_append_right _ (List.mem_append_right _ (List.mem_append_right _ (List.mem_append_right _ (List.mem_append_right _ (List.mem_append_right _ (List.mem_append_right _ (List.mem_append_right _ (List.mem_append_right _ (List.mem_append_right _ (List.mem_append_left _ h))))))))))))))))))))))))))))
theorem wl_22 : ∀ w ∈ wsL_law_r22, w ∈ wsL_law := fun _ h => List.mem_append_left _ (List.mem_append_left _ (List.mem_append_left _ (List.mem_append_left _ (List.mem_append_left _ (List.mem_append_left _ (List.mem_append_left _ (List.mem_append_left _ (List.mem_append_right _ (List.mem_append_right _ (List.mem_append_right _ (List.mem_append_right _ (List.mem_append_right _ (List.mem_append_right _ (List.mem_append_right _ (List.mem_append_right _ (List.mem_append_right _ (List.mem_append_right _ (List.mem_append_right _ (List.mem_append_right _ (List.mem_append_right _ (List.mem_append_right _ (List.mem_append_right _ (List.mem_append_right _ (List.mem_append_right _ (List.mem_append_right _ (List.mem_append_right _ (List.mem_append_right _ (List.mem_append_right _ (List.mem_append_left _ h)))))))))))))))))))))))))))))
theorem wl_23 : ∀ w ∈ wsL_law_r23, w ∈ wsL_law := fun _ h => List.mem_append_left _ (List.mem_append_left _ (List.mem_append_left _ (List.mem_append_left _ (List.mem_append_left _ (List.mem_append_left _ (List.mem_append_left _ (List.mem_append_left _ (List.mem_append_right _ (List.mem_append_right _ (List.mem_append_right _ (List.mem_append_right _ (List.mem_append_right _ (List.mem_append_right _ (List.mem_append_right _ (List.mem_append_right _ (List.mem_append_right _ (List.mem_append_right _ (List.mem_append_right _ (List.mem_append_right _ (List.mem_append_right _ (List.mem_append_right _ (List.mem_append_right _ (List.mem_append_right _ (List.mem_append_right _ (List.mem_append_right _ (List.mem_append_right _ (List.mem_append_right _ (List.mem_append_right _ (List.mem_append_right _ (List.mem_append_left _ h))))))))))))))))))))))))))))))
theorem wl_24 : ∀ w ∈ wsL_law_r24, w ∈ wsL_law := fun _ h => List.mem_append_left _ (List.mem_append_left _ (List.mem_append_left _ (List.mem_append_left _ (List.mem_append_left _ (List.mem_append_left _ (List.mem_append_left _ (List.mem_append_left _ (List.mem_append_right _ (List.mem_append_right _ (List.mem_append_right _ (List.mem_append_right _ (List.mem_append_right _ (List.mem_append_right _ (List.mem_append_right _ (List.mem_append_right _ (List.mem_append_right _ (List.mem_append_right _ (List.mem_append_right _ (List.mem_append_right _ (List.mem_append_right _ (List.mem_append_right _ (List.mem_append_right _ (List.mem_append_right _ (List.mem_append_right _ (List.mem_append_right _ (List.mem_append_right _ (List.mem_append_right _ (List.mem_append_right _ (List.mem_append_right _ (List.mem_append_right _ (List.mem_append_left _ h)))))))))))))))))))))))))))))))
theorem wl_25 : ∀ w ∈ wsL_law_r25, w ∈ wsL_law := fun _ h => List.mem_append_left _ (List.mem_append_left _ (List.mem_append_left _ (List.mem_append_left _ (List.mem_append_left _ (List.mem_append_left _ (List.mem_append_left _ (List.mem_append_left _ (List.mem_append_right _ (List.mem_append_right _ (List.mem_append_right _ (List.mem_append_right _ (List.mem_append_right _ (List.mem_append_right _ (List.mem_append_right _ (List.mem_append_right _ (List.mem_append_right _ (List.mem_append_right _ (List.mem_append_right _ (List.mem_append_right _ (List.mem_append_right _ (List.mem_append_right _ (List.mem_append_right _ (List.mem_append_right _ (List.mem_append_right _ (List.mem_append_right _ (List.mem_append_right _ (List.mem_append_right _ (List.mem_append_right _ (List.mem_append_right _ (List.mem_append_right _ (List.mem_append_right _ (List.mem_append_left _ h))))))))))))))))))))))))))))))))
theorem wl_26 : ∀ w ∈ wsL_law_r26, w ∈ wsL_law := fun _ h => List.mem_append_left _ (List.mem_append_left _ (List.mem_append_left _ (List.mem_append_left _ (List.mem_append_left _ (List.mem_append_left _ (List.mem_append_left _ (List.mem_append_left _ (List.mem_append_right _ (List.mem_append_right _ (List.mem_append_right _ (List.mem_append_right _ (List.mem_append_right _ (List.mem_append_right _ (List.mem_append_right _ (List.mem_append_right _ (List.mem_append_right _ (List.mem_append_right _ (List.mem_append_right _ (List.mem_append_right _ (List.mem_append_right _ (List.mem_append_right _ (List.mem_append_right _ (List.mem_append_right _ (List.mem_append_right _ (List.mem_append_right _ (List.mem_append_right _ (List.mem_append_right _ (List.mem_append_right _ (List.mem_append_right _ (List.mem_append_right _ (List.mem_append_right _ (List.mem_append_right _ (List.mem_append_left _ h)))))))))))))))))))))))))))))))))
theorem wl_27 : ∀ w ∈ wsL_law_r27, w ∈ wsL_law := fun _ h => List.mem_append_left _ (List.mem_append_left _ (List.mem_append_left _ (List.mem_append_left _ (List.mem_append_left _ (List.mem_append_left _ (List.mem_append_left _ (List.mem_append_left _ (List.mem_append_right _ (List.mem_append_right _ (List.mem_append_right _ (List.mem_append_right _ (List.mem_append_right _ (List.mem_append_right _ (List.mem_append_right _ (List.mem_append_right _ (List.mem_append_right _ (List.mem_append_right _ (List.mem_append_right _ (List.mem_append_right _ (List.mem_append_right _ (List.mem_append_right _ (List.mem_append_right _ (List.mem_append_right _ (List.mem_append_right _ (List.mem_append_right _ (List.mem_append_right _ (List.mem_append_right _ (List.mem_append_right _ (List.mem_append_right _ (List.mem_append_right _ (List.mem_append_right _ (List.mem_append_right _ (List.mem_append_right _ (List.mem_append_left _ h))))))))))))))))))))))))))))))))))
theorem wl_28 : ∀ w ∈ wsL_law_r28, w ∈ wsL_law := fun _ h => List.mem_append_left _ (List.mem_append_left _ (List.mem_append_left _ (List.mem_append_left _ (List.mem_append_left _ (List.mem_append_left _ (List.mem_append_left _ (List.mem_append_left _ (List.mem_append_right _ (List.mem_append_right _ (List.mem_append_right _ (List.mem_append_right _ (List.mem_append_right _ (List.mem_append_right _ (List.mem_append_right _ (List.mem_append_right _ (List.mem_append_right _ (List.mem_append_right _ (List.mem_append_right _ (List.mem_append_right _ (List.mem_append_right _ (List.mem_append_right _ (List.mem_append_right _ (List.mem_append_right _ (List.mem_append_right _ (List.mem_append_right _ (List.mem_append_right _ (List.mem_append_right _ (List.mem_append_right _ (List.mem_append_right _ (List.mem_append_right _ (List.mem_append_right _ (List.mem_append_right _ (List.mem_append_right _ (List.mem_append_right _ (List.mem_append_left _ h)))))))))))))))))))))))))))))))))))
theorem wl_29 : ∀ w ∈ wsL_law_r29, w ∈ wsL_law := fun _ h => List.mem_append_left _ (List.mem_append_left _ (List.mem_append_left _ (List.mem_append_left _ (List.mem_append_left _ (List.mem_append_left _ (List.mem_append_left _ (List.mem_append_left _ (List.mem_append_right _ (List.mem_append_right _ (List.mem_append_right _ (List.mem_append_right _ (List.mem_append_right _ (List.mem_append_right _ (List.mem_append_right _ (List.mem_append_right _ (List.mem_append_right _ (List.mem_append_right _ (List.mem_append_right _ (List.mem_append_right _ (List.mem_append_right _ (List.mem_append_right _ (List.mem_append_right _ (List.mem_append_right _ (List.mem_append_right _ (List.mem_append_right _ (List.mem_append_right _ (List.mem_append_right _ (List.mem_append_right _ (List.mem_append_right _ (List.mem_append_right _ (List.mem_append_right _ (List.mem_append_right _ (List.mem_append_right _ (List.mem_append_right _ (List.mem_append_right _ (List.mem_append_left _ h))))))))))))))))))))))))))))))))))))
theorem wl_30 : ∀ w ∈ wsL_law_r30, w ∈ wsL_law := fun _ h => List.mem_append_left _ (List.mem_append_left _ (List.mem_append_left _ (List.mem_append_left _ (List.mem_append_left _ (List.mem_append_left _ (List.mem_append_left _ (List.mem_append_left _ (List.mem_append_right _ (List.mem_append_right _ (List.mem_append_right _ (List.mem_append_right _ (List.mem_append_right _ (List.mem_append_right _ (List.mem_append_right _ (List.mem_append_right _ (List.mem_append_right _ (List.mem_append_right _ (List.mem_append_right _ (List.mem_append_right _ (List.mem_append_right _ (List.mem_append_right _ (List.mem_append_right _ (List.mem_append_right _ (List.mem_append_right _ (List.mem_append_right _ (List.mem_append_right _ (List.mem_append_right _ (List.mem_append_right _ (List.mem_append_right _ (List.mem_append_right _ (List.mem_append_right _ (List.mem_append_right _ (List.mem_append_right _ (List.mem_append_right _ (List.mem_append_right _ (List.mem_append_right _ (h)))))))))))))))))))))))))))))))))))))
theorem goodAll_app {a b : List Cond} (ha : a.all goodWord = true) (hb : b.all goodWord = true) : (a ++ b).all goodWord = true := by rw [List.all_append, ha, hb]; rfl
theorem gGoodAll : wsL_law.all goodWord = true := goodAll_app (goodAll_app (goodAll_app (goodAll_app (goodAll_app (goodAll_app (goodAll_app (goodAll_app (goodAll_app wg_1 (goodAll_app wg_2 (goodAll_app wg_3 (goodAll_app wg_4 (goodAll_app wg_5 (goodAll_app wg_6 (goodAll_app wg_7 (goodAll_app wg_8 (goodAll_app wg_9 (goodAll_app wg_10 (goodAll_app wg_11 (goodAll_app wg_12 (goodAll_app wg_13 (goodAll_app wg_14 (goodAll_app wg_15 (goodAll_app wg_16 (goodAll_app wg_17 (goodAll_app wg_18 (goodAll_app wg_19 (goodAll_app wg_20 (goodAll_app wg_21 (goodAll_app wg_22 (goodAll_app wg_23 (goodAll_app wg_24 (goodAll_app wg_25 (goodAll_app wg_26 (goodAll_app wg_27 (goodAll_app wg_28 (goodAll_app wg_29 (wg_30)))))))))))))))))))))))))))))) wh_5) wh_6) wh_2) wh_0) wh_4) wh_1) wh_3) rfl
end
section
theorem dX0_init_0 : decode cX0_init 0 = .ok (.aload_n 0, 1) := by decide +kernel
theorem dX0_init_1 : decode cX0_init 1 = .ok (.invokespecial 3, 3) := by decide +kernel
theorem dX0_init_4 : decode cX0_init 4 = .ok (.aload_n 0, 1) := by decide +kernel
theorem dX0_init_5 : decode cX0_init 5 = .ok (.bipush 48, 2) := by decide +kernel
theorem dX0_init_7 : decode cX0_init 7 = .ok (.newarray .int, 2) := by decide +kernel
theorem dX0_init_9 : decode cX0_init 9 = .ok (.putfield 9, 3) := by decide +kernel
theorem dX0_init_12 : decode cX0_init 12 = .ok (.return_, 1) := by decide +kernel
theorem dX0_isFull_0 : decode cX0_isFull 0 = .ok (.aload_n 0, 1) := by decide +kernel
theorem dX0_isFull_1 : decode cX0_isFull 1 = .ok (.getfield 15, 3) := by decide +kernel
theorem dX0_isFull_4 : decode cX0_isFull 4 = .ok (.bipush 48, 2) := by decide +kernel
theorem dX0_isFull_6 : decode cX0_isFull 6 = .ok (.if_icmp .lt 7, 3) := by decide +kernel
theorem dX0_isFull_9 : decode cX0_isFull 9 = .ok (.iconst 1, 1) := by decide +kernel
theorem dX0_isFull_10 : decode cX0_isFull 10 = .ok (.goto 4, 3) := by decide +kernel
theorem dX0_isFull_13 : decode cX0_isFull 13 = .ok (.iconst 0, 1) := by decide +kernel
theorem dX0_isFull_14 : decode cX0_isFull 14 = .ok (.ireturn, 1) := by decide +kernel
theorem dX0_write_0 : decode cX0_write 0 = .ok (.aload_n 0, 1) := by decide +kernel
theorem dX0_write_1 : decode cX0_write 1 = .ok (.getfield 15, 3) := by decide +kernel
theorem dX0_write_4 : decode cX0_write 4 = .ok (.ifCond .lt 32, 3) := by decide +kernel
theorem dX0_write_7 : decode cX0_write 7 = .ok (.aload_n 0, 1) := by decide +kernel
theorem dX0_write_8 : decode cX0_write 8 = .ok (.getfield 15, 3) := by decide +kernel
theorem dX0_write_11 : decode cX0_write 11 = .ok (.bipush 48, 2) := by decide +kernel
theorem dX0_write_13 : decode cX0_write 13 = .ok (.if_icmp .ge 23, 3) := by decide +kernel
theorem dX0_write_16 : decode cX0_write 16 = .ok (.aload_n 0, 1) := by decide +kernel
theorem dX0_write_17 : decode cX0_write 17 = .ok (.getfield 9, 3) := by decide +kernel
theorem dX0_write_20 : decode cX0_write 20 = .ok (.aload_n 0, 1) := by decide +kernel
theorem dX0_write_21 : decode cX0_write 21 = .ok (.getfield 15, 3) := by decide +kernel
theorem dX0_write_24 : decode cX0_write 24 = .ok (.iload_n 1, 1) := by decide +kernel
theorem dX0_write_25 : decode cX0_write 25 = .ok (.iastore, 1) := by decide +kernel
theorem dX0_write_26 : decode cX0_write 26 = .ok (.aload_n 0, 1) := by decide +kernel
theorem dX0_write_27 : decode cX0_write 27 = .ok (.dup, 1) := by decide +kernel
theorem dX0_write_28 : decode cX0_write 28 = .ok (.getfield 15, 3) := by decide +kernel
theorem dX0_write_31 : decode cX0_write 31 = .ok (.iconst 1, 1) := by decide +kernel
theorem dX0_write_32 : decode cX0_write 32 = .ok (.iadd, 1) := by decide +kernel
theorem dX0_write_33 : decode cX0_write 33 = .ok (.putfield 15, 3) := by decide +kernel
theorem dX0_write_36 : decode cX0_write 36 = .ok (.return_, 1) := by decide +kernel
theorem dX0_signAt_0 : decode cX0_signAt 0 = .ok (.iload_n 1, 1) := by decide +kernel
theorem dX0_signAt_1 : decode cX0_signAt 1 = .ok (.ifCond .lt 26, 3) := by decide +kernel
theorem dX0_signAt_4 : decode cX0_signAt 4 = .ok (.iload_n 1, 1) := by decide +kernel
theorem dX0_signAt_5 : decode cX0_signAt 5 = .ok (.aload_n 0, 1) := by decide +kernel
theorem dX0_signAt_6 : decode cX0_signAt 6 = .ok (.getfield 15, 3) := by decide +kernel
theorem dX0_signAt_9 : decode cX0_signAt 9 = .ok (.if_icmp .ge 18, 3) := by decide +kernel
theorem dX0_signAt_12 : decode cX0_signAt 12 = .ok (.iload_n 1, 1) := by decide +kernel
theorem dX0_signAt_13 : decode cX0_signAt 13 = .ok (.bipush 48, 2) := by decide +kernel
theorem dX0_signAt_15 : decode cX0_signAt 15 = .ok (.if_icmp .ge 12, 3) := by decide +kernel
theorem dX0_signAt_18 : decode cX0_signAt 18 = .ok (.aload_n 0, 1) := by decide +kernel
theorem dX0_signAt_19 : decode cX0_signAt 19 = .ok (.getfield 9, 3) := by decide +kernel
theorem dX0_signAt_22 : decode cX0_signAt 22 = .ok (.iload_n 1, 1) := by decide +kernel
theorem dX0_signAt_23 : decode cX0_signAt 23 = .ok (.iaload, 1) := by decide +kernel
theorem dX0_signAt_24 : decode cX0_signAt 24 = .ok (.goto 4, 3) := by decide +kernel
theorem dX0_signAt_27 : decode cX0_signAt 27 = .ok (.iconst 0, 1) := by decide +kernel
theorem dX0_signAt_28 : decode cX0_signAt 28 = .ok (.ireturn, 1) := by decide +kernel
theorem dX0_firstFault_0 : decode cX0_firstFault 0 = .ok (.iconst 0, 1) := by decide +kernel
theorem dX0_firstFault_1 : decode cX0_firstFault 1 = .ok (.istore_n 1, 1) := by decide +kernel
theorem dX0_firstFault_2 : decode cX0_firstFault 2 = .ok (.iconst 0, 1) := by decide +kernel
theorem dX0_firstFault_3 : decode cX0_firstFault 3 = .ok (.istore_n 2, 1) := by decide +kernel
theorem dX0_firstFault_4 : decode cX0_firstFault 4 = .ok (.iload_n 2, 1) := by decide +kernel
theorem dX0_firstFault_5 : decode cX0_firstFault 5 = .ok (.aload_n 0, 1) := by decide +kernel
theorem dX0_firstFault_6 : decode cX0_firstFault 6 = .ok (.getfield 15, 3) := by decide +kernel
theorem dX0_firstFault_9 : decode cX0_firstFault 9 = .ok (.if_icmp .ge 56, 3) := by decide +kernel
theorem dX0_firstFault_12 : decode cX0_firstFault 12 = .ok (.aload_n 0, 1) := by decide +kernel
theorem dX0_firstFault_13 : decode cX0_firstFault 13 = .ok (.iload_n 2, 1) := by decide +kernel
theorem dX0_firstFault_14 : decode cX0_firstFault 14 = .ok (.invokevirtual 19, 3) := by decide +kernel
theorem dX0_firstFault_17 : decode cX0_firstFault 17 = .ok (.istore_n 3, 1) := by decide +kernel
theorem dX0_firstFault_18 : decode cX0_firstFault 18 = .ok (.iload_n 3, 1) := by decide +kernel
theorem dX0_firstFault_19 : decode cX0_firstFault 19 = .ok (.bipush 63, 2) := by decide +kernel
theorem dX0_firstFault_21 : decode cX0_firstFault 21 = .ok (.if_icmp .ne 9, 3) := by decide +kernel
theorem dX0_firstFault_24 : decode cX0_firstFault 24 = .ok (.iinc 1 1, 3) := by decide +kernel
theorem dX0_firstFault_27 : decode cX0_firstFault 27 = .ok (.goto 25, 3) := by decide +kernel
theorem dX0_firstFault_30 : decode cX0_firstFault 30 = .ok (.iload_n 3, 1) := by decide +kernel
theorem dX0_firstFault_31 : decode cX0_firstFault 31 = .ok (.bipush 46, 2) := by decide +kernel
theorem dX0_firstFault_33 : decode cX0_firstFault 33 = .ok (.if_icmp .eq 19, 3) := by decide +kernel
theorem dX0_firstFault_36 : decode cX0_firstFault 36 = .ok (.iload_n 3, 1) := by decide +kernel
theorem dX0_firstFault_37 : decode cX0_firstFault 37 = .ok (.invokestatic 23, 3) := by decide +kernel
theorem dX0_firstFault_40 : decode cX0_firstFault 40 = .ok (.ifCond .ne 12, 3) := by decide +kernel
theorem dX0_firstFault_43 : decode cX0_firstFault 43 = .ok (.iload_n 3, 1) := by decide +kernel
theorem dX0_firstFault_44 : decode cX0_firstFault 44 = .ok (.invokestatic 27, 3) := by decide +kernel
theorem dX0_firstFault_47 : decode cX0_firstFault 47 = .ok (.ifCond .ne 5, 3) := by decide +kernel
theorem dX0_firstFault_50 : decode cX0_firstFault 50 = .ok (.iload_n 2, 1) := by decide +kernel
theorem dX0_firstFault_51 : decode cX0_firstFault 51 = .ok (.ireturn, 1) := by decide +kernel
theorem dX0_firstFault_52 : decode cX0_firstFault 52 = .ok (.iload_n 1, 1) := by decide +kernel
theorem dX0_firstFault_53 : decode cX0_firstFault 53 = .ok (.iconst 3, 1) := by decide +kernel
theorem dX0_firstFault_54 : decode cX0_firstFault 54 = .ok (.if_icmp .le 5, 3) := by decide +kernel
theorem dX0_firstFault_57 : decode cX0_firstFault 57 = .ok (.iload_n 2, 1) := by decide +kernel
theorem dX0_firstFault_58 : decode cX0_firstFault 58 = .ok (.ireturn, 1) := by decide +kernel
theorem dX0_firstFault_59 : decode cX0_firstFault 59 = .ok (.iinc 2 1, 3) := by decide +kernel
theorem dX0_firstFault_62 : decode cX0_firstFault 62 = .ok (.goto (-58), 3) := by decide +kernel
theorem dX0_firstFault_65 : decode cX0_firstFault 65 = .ok (.bipush (-6), 2) := by decide +kernel
theorem dX0_firstFault_67 : decode cX0_firstFault 67 = .ok (.ireturn, 1) := by decide +kernel
theorem dX0_isUntold_0 : decode cX0_isUntold 0 = .ok (.aload_n 0, 1) := by decide +kernel
theorem dX0_isUntold_1 : decode cX0_isUntold 1 = .ok (.iconst 0, 1) := by decide +kernel
theorem dX0_isUntold_2 : decode cX0_isUntold 2 = .ok (.invokevirtual 30, 3) := by decide +kernel
theorem dX0_isUntold_5 : decode cX0_isUntold 5 = .ok (.iload_n 1, 1) := by decide +kernel
theorem dX0_isUntold_6 : decode cX0_isUntold 6 = .ok (.if_icmp .ge 7, 3) := by decide +kernel
theorem dX0_isUntold_9 : decode cX0_isUntold 9 = .ok (.iconst 1, 1) := by decide +kernel
theorem dX0_isUntold_10 : decode cX0_isUntold 10 = .ok (.goto 4, 3) := by decide +kernel
theorem dX0_isUntold_13 : decode cX0_isUntold 13 = .ok (.iconst 0, 1) := by decide +kernel
theorem dX0_isUntold_14 : decode cX0_isUntold 14 = .ok (.ireturn, 1) := by decide +kernel
theorem dX0_nextUntold_0 : decode cX0_nextUntold 0 = .ok (.iload_n 1, 1) := by decide +kernel
theorem dX0_nextUntold_1 : decode cX0_nextUntold 1 = .ok (.istore_n 2, 1) := by decide +kernel
theorem dX0_nextUntold_2 : decode cX0_nextUntold 2 = .ok (.iload_n 2, 1) := by decide +kernel
theorem dX0_nextUntold_3 : decode cX0_nextUntold 3 = .ok (.aload_n 0, 1) := by decide +kernel
theorem dX0_nextUntold_4 : decode cX0_nextUntold 4 = .ok (.getfield 15, 3) := by decide +kernel
theorem dX0_nextUntold_7 : decode cX0_nextUntold 7 = .ok (.if_icmp .ge 21, 3) := by decide +kernel
theorem dX0_nextUntold_10 : decode cX0_nextUntold 10 = .ok (.aload_n 0, 1) := by decide +kernel
theorem dX0_nextUntold_11 : decode cX0_nextUntold 11 = .ok (.iload_n 2, 1) := by decide +kernel
theorem dX0_nextUntold_12 : decode cX0_nextUntold 12 = .ok (.invokevirtual 19, 3) := by decide +kernel
theorem dX0_nextUntold_15 : decode cX0_nextUntold 15 = .ok (.bipush 63, 2) := by decide +kernel
theorem dX0_nextUntold_17 : decode cX0_nextUntold 17 = .ok (.if_icmp .ne 5, 3) := by decide +kernel
theorem dX0_nextUntold_20 : decode cX0_nextUntold 20 = .ok (.iload_n 2, 1) := by decide +kernel
theorem dX0_nextUntold_21 : decode cX0_nextUntold 21 = .ok (.ireturn, 1) := by decide +kernel
theorem dX0_nextUntold_22 : decode cX0_nextUntold 22 = .ok (.iinc 2 1, 3) := by decide +kernel
theorem dX0_nextUntold_25 : decode cX0_nextUntold 25 = .ok (.goto (-23), 3) := by decide +kernel
theorem dX0_nextUntold_28 : decode cX0_nextUntold 28 = .ok (.aload_n 0, 1) := by decide +kernel
theorem dX0_nextUntold_29 : decode cX0_nextUntold 29 = .ok (.getfield 15, 3) := by decide +kernel
theorem dX0_nextUntold_32 : decode cX0_nextUntold 32 = .ok (.ireturn, 1) := by decide +kernel
theorem dX0_names_0 : decode cX0_names 0 = .ok (.iconst 0, 1) := by decide +kernel
theorem dX0_names_1 : decode cX0_names 1 = .ok (.istore_n 2, 1) := by decide +kernel
theorem dX0_names_2 : decode cX0_names 2 = .ok (.iload_n 2, 1) := by decide +kernel
theorem dX0_names_3 : decode cX0_names 3 = .ok (.aload_n 0, 1) := by decide +kernel
theorem dX0_names_4 : decode cX0_names 4 = .ok (.getfield 15, 3) := by decide +kernel
theorem dX0_names_7 : decode cX0_names 7 = .ok (.if_icmp .ge 33, 3) := by decide +kernel
theorem dX0_names_10 : decode cX0_names 10 = .ok (.aload_n 0, 1) := by decide +kernel
theorem dX0_names_11 : decode cX0_names 11 = .ok (.iload_n 2, 1) := by decide +kernel
theorem dX0_names_12 : decode cX0_names 12 = .ok (.invokevirtual 19, 3) := by decide +kernel
theorem dX0_names_15 : decode cX0_names 15 = .ok (.istore_n 3, 1) := by decide +kernel
theorem dX0_names_16 : decode cX0_names 16 = .ok (.iload_n 3, 1) := by decide +kernel
theorem dX0_names_17 : decode cX0_names 17 = .ok (.bipush 65, 2) := by decide +kernel
theorem dX0_names_19 : decode cX0_names 19 = .ok (.iload_n 1, 1) := by decide +kernel
theorem dX0_names_20 : decode cX0_names 20 = .ok (.iadd, 1) := by decide +kernel
theorem dX0_names_21 : decode cX0_names 21 = .ok (.if_icmp .eq 11, 3) := by decide +kernel
theorem dX0_names_24 : decode cX0_names 24 = .ok (.iload_n 3, 1) := by decide +kernel
theorem dX0_names_25 : decode cX0_names 25 = .ok (.bipush 97, 2) := by decide +kernel
theorem dX0_names_27 : decode cX0_names 27 = .ok (.iload_n 1, 1) := by decide +kernel
theorem dX0_names_28 : decode cX0_names 28 = .ok (.iadd, 1) := by decide +kernel
theorem dX0_names_29 : decode cX0_names 29 = .ok (.if_icmp .ne 5, 3) := by decide +kernel
theorem dX0_names_32 : decode cX0_names 32 = .ok (.iconst 1, 1) := by decide +kernel
theorem dX0_names_33 : decode cX0_names 33 = .ok (.ireturn, 1) := by decide +kernel
theorem dX0_names_34 : decode cX0_names 34 = .ok (.iinc 2 1, 3) := by decide +kernel
theorem dX0_names_37 : decode cX0_names 37 = .ok (.goto (-35), 3) := by decide +kernel
theorem dX0_names_40 : decode cX0_names 40 = .ok (.iconst 0, 1) := by decide +kernel
theorem dX0_names_41 : decode cX0_names 41 = .ok (.ireturn, 1) := by decide +kernel
theorem dX0_isComing_0 : decode cX0_isComing 0 = .ok (.iload_n 0, 1) := by decide +kernel
theorem dX0_isComing_1 : decode cX0_isComing 1 = .ok (.bipush 65, 2) := by decide +kernel
theorem dX0_isComing_3 : decode cX0_isComing 3 = .ok (.if_icmp .lt 13, 3) := by decide +kernel
theorem dX0_isComing_6 : decode cX0_isComing 6 = .ok (.iload_n 0, 1) := by decide +kernel
theorem dX0_isComing_7 : decode cX0_isComing 7 = .ok (.bipush 72, 2) := by decide +kernel
theorem dX0_isComing_9 : decode cX0_isComing 9 = .ok (.if_icmp .gt 7, 3) := by decide +kernel
theorem dX0_isComing_12 : decode cX0_isComing 12 = .ok (.iconst 1, 1) := by decide +kernel
theorem dX0_isComing_13 : decode cX0_isComing 13 = .ok (.goto 4, 3) := by decide +kernel
theorem dX0_isComing_16 : decode cX0_isComing 16 = .ok (.iconst 0, 1) := by decide +kernel
theorem dX0_isComing_17 : decode cX0_isComing 17 = .ok (.ireturn, 1) := by decide +kernel
theorem dX0_isGoing_0 : decode cX0_isGoing 0 = .ok (.iload_n 0, 1) := by decide +kernel
theorem dX0_isGoing_1 : decode cX0_isGoing 1 = .ok (.bipush 97, 2) := by decide +kernel
theorem dX0_isGoing_3 : decode cX0_isGoing 3 = .ok (.if_icmp .lt 13, 3) := by decide +kernel
theorem dX0_isGoing_6 : decode cX0_isGoing 6 = .ok (.iload_n 0, 1) := by decide +kernel
theorem dX0_isGoing_7 : decode cX0_isGoing 7 = .ok (.bipush 104, 2) := by decide +kernel
theorem dX0_isGoing_9 : decode cX0_isGoing 9 = .ok (.if_icmp .gt 7, 3) := by decide +kernel
theorem dX0_isGoing_12 : decode cX0_isGoing 12 = .ok (.iconst 1, 1) := by decide +kernel
theorem dX0_isGoing_13 : decode cX0_isGoing 13 = .ok (.goto 4, 3) := by decide +kernel
theorem dX0_isGoing_16 : decode cX0_isGoing 16 = .ok (.iconst 0, 1) := by decide +kernel
theorem dX0_isGoing_17 : decode cX0_isGoing 17 = .ok (.ireturn, 1) := by decide +kernel
theorem dX1_init_0 : decode cX1_init 0 = .ok (.aload_n 0, 1) := by decide +kernel
theorem dX1_init_1 : decode cX1_init 1 = .ok (.invokespecial 3, 3) := by decide +kernel
theorem dX1_init_4 : decode cX1_init 4 = .ok (.aload_n 0, 1) := by decide +kernel
theorem dX1_init_5 : decode cX1_init 5 = .ok (.iconst 3, 1) := by decide +kernel
theorem dX1_init_6 : decode cX1_init 6 = .ok (.newarray .int, 2) := by decide +kernel
theorem dX1_init_8 : decode cX1_init 8 = .ok (.putfield 9, 3) := by decide +kernel
theorem dX1_init_11 : decode cX1_init 11 = .ok (.aload_n 0, 1) := by decide +kernel
theorem dX1_init_12 : decode cX1_init 12 = .ok (.iconst 3, 1) := by decide +kernel
theorem dX1_init_13 : decode cX1_init 13 = .ok (.newarray .int, 2) := by decide +kernel
theorem dX1_init_15 : decode cX1_init 15 = .ok (.putfield 15, 3) := by decide +kernel
theorem dX1_init_18 : decode cX1_init 18 = .ok (.aload_n 0, 1) := by decide +kernel
theorem dX1_init_19 : decode cX1_init 19 = .ok (.iconst 3, 1) := by decide +kernel
theorem dX1_init_20 : decode cX1_init 20 = .ok (.newarray .int, 2) := by decide +kernel
theorem dX1_init_22 : decode cX1_init 22 = .ok (.putfield 18, 3) := by decide +kernel
theorem dX1_init_25 : decode cX1_init 25 = .ok (.return_, 1) := by decide +kernel
theorem dX1_search_0 : decode cX1_search 0 = .ok (.aload_n 0, 1) := by decide +kernel
theorem dX1_search_1 : decode cX1_search 1 = .ok (.iconst 0, 1) := by decide +kernel
theorem dX1_search_2 : decode cX1_search 2 = .ok (.putfield 21, 3) := by decide +kernel
theorem dX1_search_5 : decode cX1_search 5 = .ok (.aload_n 0, 1) := by decide +kernel
theorem dX1_search_6 : decode cX1_search 6 = .ok (.iconst 0, 1) := by decide +kernel
theorem dX1_search_7 : decode cX1_search 7 = .ok (.putfield 25, 3) := by decide +kernel
theorem dX1_search_10 : decode cX1_search 10 = .ok (.iconst 0, 1) := by decide +kernel
theorem dX1_search_11 : decode cX1_search 11 = .ok (.istore 4, 2) := by decide +kernel
theorem dX1_search_13 : decode cX1_search 13 = .ok (.iload 4, 2) := by decide +kernel
theorem dX1_search_15 : decode cX1_search 15 = .ok (.aload_n 2, 1) := by decide +kernel
theorem dX1_search_16 : decode cX1_search 16 = .ok (.getfield 28, 3) := by decide +kernel
theorem dX1_search_19 : decode cX1_search 19 = .ok (.if_icmp .ge 34, 3) := by decide +kernel
theorem dX1_search_22 : decode cX1_search 22 = .ok (.aload_n 0, 1) := by decide +kernel
theorem dX1_search_23 : decode cX1_search 23 = .ok (.dup, 1) := by decide +kernel
theorem dX1_search_24 : decode cX1_search 24 = .ok (.getfield 25, 3) := by decide +kernel
theorem dX1_search_27 : decode cX1_search 27 = .ok (.aload_n 2, 1) := by decide +kernel
theorem dX1_search_28 : decode cX1_search 28 = .ok (.iload 4, 2) := by decide +kernel
theorem dX1_search_30 : decode cX1_search 30 = .ok (.invokevirtual 33, 3) := by decide +kernel
theorem dX1_search_33 : decode cX1_search 33 = .ok (.bipush 63, 2) := by decide +kernel
theorem dX1_search_35 : decode cX1_search 35 = .ok (.if_icmp .ne 7, 3) := by decide +kernel
theorem dX1_search_38 : decode cX1_search 38 = .ok (.iconst 1, 1) := by decide +kernel
theorem dX1_search_39 : decode cX1_search 39 = .ok (.goto 4, 3) := by decide +kernel
theorem dX1_search_42 : decode cX1_search 42 = .ok (.iconst 0, 1) := by decide +kernel
theorem dX1_search_43 : decode cX1_search 43 = .ok (.iadd, 1) := by decide +kernel
theorem dX1_search_44 : decode cX1_search 44 = .ok (.putfield 25, 3) := by decide +kernel
theorem dX1_search_47 : decode cX1_search 47 = .ok (.iinc 4 1, 3) := by decide +kernel
theorem dX1_search_50 : decode cX1_search 50 = .ok (.goto (-37), 3) := by decide +kernel
theorem dX1_search_53 : decode cX1_search 53 = .ok (.iconst 0, 1) := by decide +kernel
theorem dX1_search_54 : decode cX1_search 54 = .ok (.istore 4, 2) := by decide +kernel
theorem dX1_search_56 : decode cX1_search 56 = .ok (.iload 4, 2) := by decide +kernel
theorem dX1_search_58 : decode cX1_search 58 = .ok (.iconst 3, 1) := by decide +kernel
theorem dX1_search_59 : decode cX1_search 59 = .ok (.if_icmp .ge 17, 3) := by decide +kernel
theorem dX1_search_62 : decode cX1_search 62 = .ok (.aload_n 0, 1) := by decide +kernel
theorem dX1_search_63 : decode cX1_search 63 = .ok (.getfield 18, 3) := by decide +kernel
theorem dX1_search_66 : decode cX1_search 66 = .ok (.iload 4, 2) := by decide +kernel
theorem dX1_search_68 : decode cX1_search 68 = .ok (.iconst 0, 1) := by decide +kernel
theorem dX1_search_69 : decode cX1_search 69 = .ok (.iastore, 1) := by decide +kernel
theorem dX1_search_70 : decode cX1_search 70 = .ok (.iinc 4 1, 3) := by decide +kernel
theorem dX1_search_73 : decode cX1_search 73 = .ok (.goto (-17), 3) := by decide +kernel
theorem dX1_search_76 : decode cX1_search 76 = .ok (.aload_n 1, 1) := by decide +kernel
theorem dX1_search_77 : decode cX1_search 77 = .ok (.aload_n 3, 1) := by decide +kernel
theorem dX1_search_78 : decode cX1_search 78 = .ok (.getfield 37, 3) := by decide +kernel
theorem dX1_search_81 : decode cX1_search 81 = .ok (.invokevirtual 42, 3) := by decide +kernel
theorem dX1_search_84 : decode cX1_search 84 = .ok (.aload_n 0, 1) := by decide +kernel
theorem dX1_search_85 : decode cX1_search 85 = .ok (.aload_n 1, 1) := by decide +kernel
theorem dX1_search_86 : decode cX1_search 86 = .ok (.aload_n 2, 1) := by decide +kernel
theorem dX1_search_87 : decode cX1_search 87 = .ok (.iconst 0, 1) := by decide +kernel
theorem dX1_search_88 : decode cX1_search 88 = .ok (.iconst 0, 1) := by decide +kernel
theorem dX1_search_89 : decode cX1_search 89 = .ok (.invokestatic 48, 3) := by decide +kernel
theorem dX1_search_92 : decode cX1_search 92 = .ok (.return_, 1) := by decide +kernel
theorem dX1_fillFrom_0 : decode cX1_fillFrom 0 = .ok (.aload_n 2, 1) := by decide +kernel
theorem dX1_fillFrom_1 : decode cX1_fillFrom 1 = .ok (.iload_n 3, 1) := by decide +kernel
theorem dX1_fillFrom_2 : decode cX1_fillFrom 2 = .ok (.invokevirtual 52, 3) := by decide +kernel
theorem dX1_fillFrom_5 : decode cX1_fillFrom 5 = .ok (.istore 5, 2) := by decide +kernel
theorem dX1_fillFrom_7 : decode cX1_fillFrom 7 = .ok (.aload_n 1, 1) := by decide +kernel
theorem dX1_fillFrom_8 : decode cX1_fillFrom 8 = .ok (.aload_n 2, 1) := by decide +kernel
theorem dX1_fillFrom_9 : decode cX1_fillFrom 9 = .ok (.iload_n 3, 1) := by decide +kernel
theorem dX1_fillFrom_10 : decode cX1_fillFrom 10 = .ok (.iload 5, 2) := by decide +kernel
theorem dX1_fillFrom_12 : decode cX1_fillFrom 12 = .ok (.invokevirtual 55, 3) := by decide +kernel
theorem dX1_fillFrom_15 : decode cX1_fillFrom 15 = .ok (.bipush (-6), 2) := by decide +kernel
theorem dX1_fillFrom_17 : decode cX1_fillFrom 17 = .ok (.if_icmp .eq 4, 3) := by decide +kernel
theorem dX1_fillFrom_20 : decode cX1_fillFrom 20 = .ok (.return_, 1) := by decide +kernel
theorem dX1_fillFrom_21 : decode cX1_fillFrom 21 = .ok (.iload 5, 2) := by decide +kernel
theorem dX1_fillFrom_23 : decode cX1_fillFrom 23 = .ok (.aload_n 2, 1) := by decide +kernel
theorem dX1_fillFrom_24 : decode cX1_fillFrom 24 = .ok (.getfield 28, 3) := by decide +kernel
theorem dX1_fillFrom_27 : decode cX1_fillFrom 27 = .ok (.if_icmp .lt 9, 3) := by decide +kernel
theorem dX1_fillFrom_30 : decode cX1_fillFrom 30 = .ok (.aload_n 0, 1) := by decide +kernel
theorem dX1_fillFrom_31 : decode cX1_fillFrom 31 = .ok (.aload_n 1, 1) := by decide +kernel
theorem dX1_fillFrom_32 : decode cX1_fillFrom 32 = .ok (.invokevirtual 59, 3) := by decide +kernel
theorem dX1_fillFrom_35 : decode cX1_fillFrom 35 = .ok (.return_, 1) := by decide +kernel
theorem dX1_fillFrom_36 : decode cX1_fillFrom 36 = .ok (.aload_n 1, 1) := by decide +kernel
theorem dX1_fillFrom_37 : decode cX1_fillFrom 37 = .ok (.getfield 63, 3) := by decide +kernel
theorem dX1_fillFrom_40 : decode cX1_fillFrom 40 = .ok (.astore 6, 2) := by decide +kernel
theorem dX1_fillFrom_42 : decode cX1_fillFrom 42 = .ok (.aload 6, 2) := by decide +kernel
theorem dX1_fillFrom_44 : decode cX1_fillFrom 44 = .ok (.ifnull 14, 3) := by decide +kernel
theorem dX1_fillFrom_47 : decode cX1_fillFrom 47 = .ok (.iload 4, 2) := by decide +kernel
theorem dX1_fillFrom_49 : decode cX1_fillFrom 49 = .ok (.ifCond .lt 9, 3) := by decide +kernel
theorem dX1_fillFrom_52 : decode cX1_fillFrom 52 = .ok (.iload 4, 2) := by decide +kernel
theorem dX1_fillFrom_54 : decode cX1_fillFrom 54 = .ok (.iconst 3, 1) := by decide +kernel
theorem dX1_fillFrom_55 : decode cX1_fillFrom 55 = .ok (.if_icmp .lt 4, 3) := by decide +kernel
theorem dX1_fillFrom_58 : decode cX1_fillFrom 58 = .ok (.return_, 1) := by decide +kernel
theorem dX1_fillFrom_59 : decode cX1_fillFrom 59 = .ok (.iconst 0, 1) := by decide +kernel
theorem dX1_fillFrom_60 : decode cX1_fillFrom 60 = .ok (.istore 7, 2) := by decide +kernel
theorem dX1_fillFrom_62 : decode cX1_fillFrom 62 = .ok (.iload 7, 2) := by decide +kernel
theorem dX1_fillFrom_64 : decode cX1_fillFrom 64 = .ok (.bipush 8, 2) := by decide +kernel
theorem dX1_fillFrom_66 : decode cX1_fillFrom 66 = .ok (.if_icmp .ge 55, 3) := by decide +kernel
theorem dX1_fillFrom_69 : decode cX1_fillFrom 69 = .ok (.aload_n 1, 1) := by decide +kernel
theorem dX1_fillFrom_70 : decode cX1_fillFrom 70 = .ok (.iload 7, 2) := by decide +kernel
theorem dX1_fillFrom_72 : decode cX1_fillFrom 72 = .ok (.invokevirtual 67, 3) := by decide +kernel
theorem dX1_fillFrom_75 : decode cX1_fillFrom 75 = .ok (.ifCond .ne 40, 3) := by decide +kernel
theorem dX1_fillFrom_78 : decode cX1_fillFrom 78 = .ok (.aload 6, 2) := by decide +kernel
theorem dX1_fillFrom_80 : decode cX1_fillFrom 80 = .ok (.aload_n 1, 1) := by decide +kernel
theorem dX1_fillFrom_81 : decode cX1_fillFrom 81 = .ok (.invokevirtual 71, 3) := by decide +kernel
theorem dX1_fillFrom_84 : decode cX1_fillFrom 84 = .ok (.aload 6, 2) := by decide +kernel
theorem dX1_fillFrom_86 : decode cX1_fillFrom 86 = .ok (.iload 7, 2) := by decide +kernel
theorem dX1_fillFrom_88 : decode cX1_fillFrom 88 = .ok (.invokevirtual 74, 3) := by decide +kernel
theorem dX1_fillFrom_91 : decode cX1_fillFrom 91 = .ok (.aload_n 0, 1) := by decide +kernel
theorem dX1_fillFrom_92 : decode cX1_fillFrom 92 = .ok (.getfield 9, 3) := by decide +kernel
theorem dX1_fillFrom_95 : decode cX1_fillFrom 95 = .ok (.iload 4, 2) := by decide +kernel
theorem dX1_fillFrom_97 : decode cX1_fillFrom 97 = .ok (.iload 7, 2) := by decide +kernel
theorem dX1_fillFrom_99 : decode cX1_fillFrom 99 = .ok (.iastore, 1) := by decide +kernel
theorem dX1_fillFrom_100 : decode cX1_fillFrom 100 = .ok (.aload_n 0, 1) := by decide +kernel
theorem dX1_fillFrom_101 : decode cX1_fillFrom 101 = .ok (.aload 6, 2) := by decide +kernel
theorem dX1_fillFrom_103 : decode cX1_fillFrom 103 = .ok (.aload_n 2, 1) := by decide +kernel
theorem dX1_fillFrom_104 : decode cX1_fillFrom 104 = .ok (.iload 5, 2) := by decide +kernel
theorem dX1_fillFrom_106 : decode cX1_fillFrom 106 = .ok (.iconst 1, 1) := by decide +kernel
theorem dX1_fillFrom_107 : decode cX1_fillFrom 107 = .ok (.iadd, 1) := by decide +kernel
theorem dX1_fillFrom_108 : decode cX1_fillFrom 108 = .ok (.iload 4, 2) := by decide +kernel
theorem dX1_fillFrom_110 : decode cX1_fillFrom 110 = .ok (.iconst 1, 1) := by decide +kernel
theorem dX1_fillFrom_111 : decode cX1_fillFrom 111 = .ok (.iadd, 1) := by decide +kernel
theorem dX1_fillFrom_112 : decode cX1_fillFrom 112 = .ok (.invokestatic 48, 3) := by decide +kernel
theorem dX1_fillFrom_115 : decode cX1_fillFrom 115 = .ok (.iinc 7 1, 3) := by decide +kernel
theorem dX1_fillFrom_118 : decode cX1_fillFrom 118 = .ok (.goto (-56), 3) := by decide +kernel
theorem dX1_fillFrom_121 : decode cX1_fillFrom 121 = .ok (.return_, 1) := by decide +kernel
theorem dX1_keepIfSeen_0 : decode cX1_keepIfSeen 0 = .ok (.aload_n 1, 1) := by decide +kernel
theorem dX1_keepIfSeen_1 : decode cX1_keepIfSeen 1 = .ok (.getfield 77, 3) := by decide +kernel
theorem dX1_keepIfSeen_4 : decode cX1_keepIfSeen 4 = .ok (.aload_n 1, 1) := by decide +kernel
theorem dX1_keepIfSeen_5 : decode cX1_keepIfSeen 5 = .ok (.invokevirtual 81, 3) := by decide +kernel
theorem dX1_keepIfSeen_8 : decode cX1_keepIfSeen 8 = .ok (.ifCond .ne 4, 3) := by decide +kernel
theorem dX1_keepIfSeen_11 : decode cX1_keepIfSeen 11 = .ok (.return_, 1) := by decide +kernel
theorem dX1_keepIfSeen_12 : decode cX1_keepIfSeen 12 = .ok (.aload_n 0, 1) := by decide +kernel
theorem dX1_keepIfSeen_13 : decode cX1_keepIfSeen 13 = .ok (.getfield 21, 3) := by decide +kernel
theorem dX1_keepIfSeen_16 : decode cX1_keepIfSeen 16 = .ok (.ifCond .ne 17, 3) := by decide +kernel
theorem dX1_keepIfSeen_19 : decode cX1_keepIfSeen 19 = .ok (.aload_n 0, 1) := by decide +kernel
theorem dX1_keepIfSeen_20 : decode cX1_keepIfSeen 20 = .ok (.getfield 9, 3) := by decide +kernel
theorem dX1_keepIfSeen_23 : decode cX1_keepIfSeen 23 = .ok (.iconst 0, 1) := by decide +kernel
theorem dX1_keepIfSeen_24 : decode cX1_keepIfSeen 24 = .ok (.aload_n 0, 1) := by decide +kernel
theorem dX1_keepIfSeen_25 : decode cX1_keepIfSeen 25 = .ok (.getfield 15, 3) := by decide +kernel
theorem dX1_keepIfSeen_28 : decode cX1_keepIfSeen 28 = .ok (.iconst 0, 1) := by decide +kernel
theorem dX1_keepIfSeen_29 : decode cX1_keepIfSeen 29 = .ok (.iconst 3, 1) := by decide +kernel
theorem dX1_keepIfSeen_30 : decode cX1_keepIfSeen 30 = .ok (.invokestatic 85, 3) := by decide +kernel
theorem dX1_keepIfSeen_33 : decode cX1_keepIfSeen 33 = .ok (.aload_n 0, 1) := by decide +kernel
theorem dX1_keepIfSeen_34 : decode cX1_keepIfSeen 34 = .ok (.dup, 1) := by decide +kernel
theorem dX1_keepIfSeen_35 : decode cX1_keepIfSeen 35 = .ok (.getfield 21, 3) := by decide +kernel
theorem dX1_keepIfSeen_38 : decode cX1_keepIfSeen 38 = .ok (.iconst 1, 1) := by decide +kernel
theorem dX1_keepIfSeen_39 : decode cX1_keepIfSeen 39 = .ok (.iadd, 1) := by decide +kernel
theorem dX1_keepIfSeen_40 : decode cX1_keepIfSeen 40 = .ok (.putfield 21, 3) := by decide +kernel
theorem dX1_keepIfSeen_43 : decode cX1_keepIfSeen 43 = .ok (.iconst 0, 1) := by decide +kernel
theorem dX1_keepIfSeen_44 : decode cX1_keepIfSeen 44 = .ok (.istore_n 2, 1) := by decide +kernel
theorem dX1_keepIfSeen_45 : decode cX1_keepIfSeen 45 = .ok (.iload_n 2, 1) := by decide +kernel
theorem dX1_keepIfSeen_46 : decode cX1_keepIfSeen 46 = .ok (.iconst 3, 1) := by decide +kernel
theorem dX1_keepIfSeen_47 : decode cX1_keepIfSeen 47 = .ok (.if_icmp .ge 34, 3) := by decide +kernel
theorem dX1_keepIfSeen_50 : decode cX1_keepIfSeen 50 = .ok (.iload_n 2, 1) := by decide +kernel
theorem dX1_keepIfSeen_51 : decode cX1_keepIfSeen 51 = .ok (.aload_n 0, 1) := by decide +kernel
theorem dX1_keepIfSeen_52 : decode cX1_keepIfSeen 52 = .ok (.getfield 25, 3) := by decide +kernel
theorem dX1_keepIfSeen_55 : decode cX1_keepIfSeen 55 = .ok (.if_icmp .ge 26, 3) := by decide +kernel
theorem dX1_keepIfSeen_58 : decode cX1_keepIfSeen 58 = .ok (.aload_n 0, 1) := by decide +kernel
theorem dX1_keepIfSeen_59 : decode cX1_keepIfSeen 59 = .ok (.getfield 18, 3) := by decide +kernel
theorem dX1_keepIfSeen_62 : decode cX1_keepIfSeen 62 = .ok (.iload_n 2, 1) := by decide +kernel
theorem dX1_keepIfSeen_63 : decode cX1_keepIfSeen 63 = .ok (.dup2, 1) := by decide +kernel
theorem dX1_keepIfSeen_64 : decode cX1_keepIfSeen 64 = .ok (.iaload, 1) := by decide +kernel
theorem dX1_keepIfSeen_65 : decode cX1_keepIfSeen 65 = .ok (.iconst 1, 1) := by decide +kernel
theorem dX1_keepIfSeen_66 : decode cX1_keepIfSeen 66 = .ok (.aload_n 0, 1) := by decide +kernel
theorem dX1_keepIfSeen_67 : decode cX1_keepIfSeen 67 = .ok (.getfield 9, 3) := by decide +kernel
theorem dX1_keepIfSeen_70 : decode cX1_keepIfSeen 70 = .ok (.iload_n 2, 1) := by decide +kernel
theorem dX1_keepIfSeen_71 : decode cX1_keepIfSeen 71 = .ok (.iaload, 1) := by decide +kernel
theorem dX1_keepIfSeen_72 : decode cX1_keepIfSeen 72 = .ok (.ishl, 1) := by decide +kernel
theorem dX1_keepIfSeen_73 : decode cX1_keepIfSeen 73 = .ok (.ior, 1) := by decide +kernel
theorem dX1_keepIfSeen_74 : decode cX1_keepIfSeen 74 = .ok (.iastore, 1) := by decide +kernel
theorem dX1_keepIfSeen_75 : decode cX1_keepIfSeen 75 = .ok (.iinc 2 1, 3) := by decide +kernel
theorem dX1_keepIfSeen_78 : decode cX1_keepIfSeen 78 = .ok (.goto (-33), 3) := by decide +kernel
theorem dX1_keepIfSeen_81 : decode cX1_keepIfSeen 81 = .ok (.return_, 1) := by decide +kernel
theorem dX1_isUntold_0 : decode cX1_isUntold 0 = .ok (.iload_n 1, 1) := by decide +kernel
theorem dX1_isUntold_1 : decode cX1_isUntold 1 = .ok (.ifCond .lt 20, 3) := by decide +kernel
theorem dX1_isUntold_4 : decode cX1_isUntold 4 = .ok (.iload_n 1, 1) := by decide +kernel
theorem dX1_isUntold_5 : decode cX1_isUntold 5 = .ok (.aload_n 0, 1) := by decide +kernel
theorem dX1_isUntold_6 : decode cX1_isUntold 6 = .ok (.getfield 25, 3) := by decide +kernel
theorem dX1_isUntold_9 : decode cX1_isUntold 9 = .ok (.if_icmp .ge 12, 3) := by decide +kernel
theorem dX1_isUntold_12 : decode cX1_isUntold 12 = .ok (.iload_n 1, 1) := by decide +kernel
theorem dX1_isUntold_13 : decode cX1_isUntold 13 = .ok (.iconst 3, 1) := by decide +kernel
theorem dX1_isUntold_14 : decode cX1_isUntold 14 = .ok (.if_icmp .ge 7, 3) := by decide +kernel
theorem dX1_isUntold_17 : decode cX1_isUntold 17 = .ok (.iconst 1, 1) := by decide +kernel
theorem dX1_isUntold_18 : decode cX1_isUntold 18 = .ok (.goto 4, 3) := by decide +kernel
theorem dX1_isUntold_21 : decode cX1_isUntold 21 = .ok (.iconst 0, 1) := by decide +kernel
theorem dX1_isUntold_22 : decode cX1_isUntold 22 = .ok (.ireturn, 1) := by decide +kernel
theorem dX1_firstAt_0 : decode cX1_firstAt 0 = .ok (.aload_n 0, 1) := by decide +kernel
theorem dX1_firstAt_1 : decode cX1_firstAt 1 = .ok (.iload_n 1, 1) := by decide +kernel
theorem dX1_firstAt_2 : decode cX1_firstAt 2 = .ok (.invokevirtual 91, 3) := by decide +kernel
theorem dX1_firstAt_5 : decode cX1_firstAt 5 = .ok (.ifCond .eq 19, 3) := by decide +kernel
theorem dX1_firstAt_8 : decode cX1_firstAt 8 = .ok (.aload_n 0, 1) := by decide +kernel
theorem dX1_firstAt_9 : decode cX1_firstAt 9 = .ok (.getfield 21, 3) := by decide +kernel
theorem dX1_firstAt_12 : decode cX1_firstAt 12 = .ok (.ifCond .le 12, 3) := by decide +kernel
theorem dX1_firstAt_15 : decode cX1_firstAt 15 = .ok (.aload_n 0, 1) := by decide +kernel
theorem dX1_firstAt_16 : decode cX1_firstAt 16 = .ok (.getfield 15, 3) := by decide +kernel
theorem dX1_firstAt_19 : decode cX1_firstAt 19 = .ok (.iload_n 1, 1) := by decide +kernel
theorem dX1_firstAt_20 : decode cX1_firstAt 20 = .ok (.iaload, 1) := by decide +kernel
theorem dX1_firstAt_21 : decode cX1_firstAt 21 = .ok (.goto 5, 3) := by decide +kernel
theorem dX1_firstAt_24 : decode cX1_firstAt 24 = .ok (.bipush (-6), 2) := by decide +kernel
theorem dX1_firstAt_26 : decode cX1_firstAt 26 = .ok (.ireturn, 1) := by decide +kernel
theorem dX1_suspectsAt_0 : decode cX1_suspectsAt 0 = .ok (.aload_n 0, 1) := by decide +kernel
theorem dX1_suspectsAt_1 : decode cX1_suspectsAt 1 = .ok (.iload_n 1, 1) := by decide +kernel
theorem dX1_suspectsAt_2 : decode cX1_suspectsAt 2 = .ok (.invokevirtual 91, 3) := by decide +kernel
theorem dX1_suspectsAt_5 : decode cX1_suspectsAt 5 = .ok (.ifCond .eq 12, 3) := by decide +kernel
theorem dX1_suspectsAt_8 : decode cX1_suspectsAt 8 = .ok (.aload_n 0, 1) := by decide +kernel
theorem dX1_suspectsAt_9 : decode cX1_suspectsAt 9 = .ok (.getfield 18, 3) := by decide +kernel
theorem dX1_suspectsAt_12 : decode cX1_suspectsAt 12 = .ok (.iload_n 1, 1) := by decide +kernel
theorem dX1_suspectsAt_13 : decode cX1_suspectsAt 13 = .ok (.iaload, 1) := by decide +kernel
theorem dX1_suspectsAt_14 : decode cX1_suspectsAt 14 = .ok (.goto 5, 3) := by decide +kernel
theorem dX1_suspectsAt_17 : decode cX1_suspectsAt 17 = .ok (.bipush (-6), 2) := by decide +kernel
theorem dX1_suspectsAt_19 : decode cX1_suspectsAt 19 = .ok (.ireturn, 1) := by decide +kernel
theorem dX2_init_0 : decode cX2_init 0 = .ok (.aload_n 0, 1) := by decide +kernel
theorem dX2_init_1 : decode cX2_init 1 = .ok (.invokespecial 3, 3) := by decide +kernel
theorem dX2_init_4 : decode cX2_init 4 = .ok (.aload_n 0, 1) := by decide +kernel
theorem dX2_init_5 : decode cX2_init 5 = .ok (.iconst 4, 1) := by decide +kernel
theorem dX2_init_6 : decode cX2_init 6 = .ok (.putfield 9, 3) := by decide +kernel
theorem dX2_init_9 : decode cX2_init 9 = .ok (.aload_n 0, 1) := by decide +kernel
theorem dX2_init_10 : decode cX2_init 10 = .ok (.bipush 64, 2) := by decide +kernel
theorem dX2_init_12 : decode cX2_init 12 = .ok (.newarray .int, 2) := by decide +kernel
theorem dX2_init_14 : decode cX2_init 14 = .ok (.putfield 15, 3) := by decide +kernel
theorem dX2_init_17 : decode cX2_init 17 = .ok (.aload_n 0, 1) := by decide +kernel
theorem dX2_init_18 : decode cX2_init 18 = .ok (.bipush 6, 2) := by decide +kernel
theorem dX2_init_20 : decode cX2_init 20 = .ok (.newarray .int, 2) := by decide +kernel
theorem dX2_init_22 : decode cX2_init 22 = .ok (.putfield 19, 3) := by decide +kernel
theorem dX2_init_25 : decode cX2_init 25 = .ok (.aload_n 0, 1) := by decide +kernel
theorem dX2_init_26 : decode cX2_init 26 = .ok (.bipush 6, 2) := by decide +kernel
theorem dX2_init_28 : decode cX2_init 28 = .ok (.newarray .int, 2) := by decide +kernel
theorem dX2_init_30 : decode cX2_init 30 = .ok (.putfield 22, 3) := by decide +kernel
theorem dX2_init_33 : decode cX2_init 33 = .ok (.return_, 1) := by decide +kernel
theorem dX2_furnish_0 : decode cX2_furnish 0 = .ok (.aload_n 0, 1) := by decide +kernel
theorem dX2_furnish_1 : decode cX2_furnish 1 = .ok (.iload_n 1, 1) := by decide +kernel
theorem dX2_furnish_2 : decode cX2_furnish 2 = .ok (.putfield 9, 3) := by decide +kernel
theorem dX2_furnish_5 : decode cX2_furnish 5 = .ok (.aload_n 0, 1) := by decide +kernel
theorem dX2_furnish_6 : decode cX2_furnish 6 = .ok (.iconst 0, 1) := by decide +kernel
theorem dX2_furnish_7 : decode cX2_furnish 7 = .ok (.putfield 25, 3) := by decide +kernel
theorem dX2_furnish_10 : decode cX2_furnish 10 = .ok (.iconst 0, 1) := by decide +kernel
theorem dX2_furnish_11 : decode cX2_furnish 11 = .ok (.istore_n 2, 1) := by decide +kernel
theorem dX2_furnish_12 : decode cX2_furnish 12 = .ok (.iload_n 2, 1) := by decide +kernel
theorem dX2_furnish_13 : decode cX2_furnish 13 = .ok (.aload_n 0, 1) := by decide +kernel
theorem dX2_furnish_14 : decode cX2_furnish 14 = .ok (.getfield 15, 3) := by decide +kernel
theorem dX2_furnish_17 : decode cX2_furnish 17 = .ok (.arraylength, 1) := by decide +kernel
theorem dX2_furnish_18 : decode cX2_furnish 18 = .ok (.if_icmp .ge 16, 3) := by decide +kernel
theorem dX2_furnish_21 : decode cX2_furnish 21 = .ok (.aload_n 0, 1) := by decide +kernel
theorem dX2_furnish_22 : decode cX2_furnish 22 = .ok (.getfield 15, 3) := by decide +kernel
theorem dX2_furnish_25 : decode cX2_furnish 25 = .ok (.iload_n 2, 1) := by decide +kernel
theorem dX2_furnish_26 : decode cX2_furnish 26 = .ok (.iconst 0, 1) := by decide +kernel
theorem dX2_furnish_27 : decode cX2_furnish 27 = .ok (.iastore, 1) := by decide +kernel
theorem dX2_furnish_28 : decode cX2_furnish 28 = .ok (.iinc 2 1, 3) := by decide +kernel
theorem dX2_furnish_31 : decode cX2_furnish 31 = .ok (.goto (-19), 3) := by decide +kernel
theorem dX2_furnish_34 : decode cX2_furnish 34 = .ok (.return_, 1) := by decide +kernel
theorem dX2_worthOf_0 : decode cX2_worthOf 0 = .ok (.iload_n 1, 1) := by decide +kernel
theorem dX2_worthOf_1 : decode cX2_worthOf 1 = .ok (.ifCond .lt 19, 3) := by decide +kernel
theorem dX2_worthOf_4 : decode cX2_worthOf 4 = .ok (.iload_n 1, 1) := by decide +kernel
theorem dX2_worthOf_5 : decode cX2_worthOf 5 = .ok (.bipush 8, 2) := by decide +kernel
theorem dX2_worthOf_7 : decode cX2_worthOf 7 = .ok (.if_icmp .ge 13, 3) := by decide +kernel
theorem dX2_worthOf_10 : decode cX2_worthOf 10 = .ok (.iload_n 2, 1) := by decide +kernel
theorem dX2_worthOf_11 : decode cX2_worthOf 11 = .ok (.ifCond .lt 9, 3) := by decide +kernel
theorem dX2_worthOf_14 : decode cX2_worthOf 14 = .ok (.iload_n 2, 1) := by decide +kernel
theorem dX2_worthOf_15 : decode cX2_worthOf 15 = .ok (.bipush 8, 2) := by decide +kernel
theorem dX2_worthOf_17 : decode cX2_worthOf 17 = .ok (.if_icmp .lt 5, 3) := by decide +kernel
theorem dX2_worthOf_20 : decode cX2_worthOf 20 = .ok (.iconst 0, 1) := by decide +kernel
theorem dX2_worthOf_21 : decode cX2_worthOf 21 = .ok (.ireturn, 1) := by decide +kernel
theorem dX2_worthOf_22 : decode cX2_worthOf 22 = .ok (.aload_n 0, 1) := by decide +kernel
theorem dX2_worthOf_23 : decode cX2_worthOf 23 = .ok (.getfield 15, 3) := by decide +kernel
theorem dX2_worthOf_26 : decode cX2_worthOf 26 = .ok (.iload_n 1, 1) := by decide +kernel
theorem dX2_worthOf_27 : decode cX2_worthOf 27 = .ok (.bipush 8, 2) := by decide +kernel
theorem dX2_worthOf_29 : decode cX2_worthOf 29 = .ok (.imul, 1) := by decide +kernel
theorem dX2_worthOf_30 : decode cX2_worthOf 30 = .ok (.iload_n 2, 1) := by decide +kernel
theorem dX2_worthOf_31 : decode cX2_worthOf 31 = .ok (.iadd, 1) := by decide +kernel
theorem dX2_worthOf_32 : decode cX2_worthOf 32 = .ok (.iaload, 1) := by decide +kernel
theorem dX2_worthOf_33 : decode cX2_worthOf 33 = .ok (.ireturn, 1) := by decide +kernel
theorem dX2_setWorth_0 : decode cX2_setWorth 0 = .ok (.iload_n 1, 1) := by decide +kernel
theorem dX2_setWorth_1 : decode cX2_setWorth 1 = .ok (.invokestatic 28, 3) := by decide +kernel
theorem dX2_setWorth_4 : decode cX2_setWorth 4 = .ok (.ifCond .eq 25, 3) := by decide +kernel
theorem dX2_setWorth_7 : decode cX2_setWorth 7 = .ok (.iload_n 2, 1) := by decide +kernel
theorem dX2_setWorth_8 : decode cX2_setWorth 8 = .ok (.ifCond .lt 21, 3) := by decide +kernel
theorem dX2_setWorth_11 : decode cX2_setWorth 11 = .ok (.iload_n 2, 1) := by decide +kernel
theorem dX2_setWorth_12 : decode cX2_setWorth 12 = .ok (.bipush 8, 2) := by decide +kernel
theorem dX2_setWorth_14 : decode cX2_setWorth 14 = .ok (.if_icmp .ge 15, 3) := by decide +kernel
theorem dX2_setWorth_17 : decode cX2_setWorth 17 = .ok (.aload_n 0, 1) := by decide +kernel
theorem dX2_setWorth_18 : decode cX2_setWorth 18 = .ok (.getfield 15, 3) := by decide +kernel
theorem dX2_setWorth_21 : decode cX2_setWorth 21 = .ok (.iload_n 1, 1) := by decide +kernel
theorem dX2_setWorth_22 : decode cX2_setWorth 22 = .ok (.bipush 8, 2) := by decide +kernel
theorem dX2_setWorth_24 : decode cX2_setWorth 24 = .ok (.imul, 1) := by decide +kernel
theorem dX2_setWorth_25 : decode cX2_setWorth 25 = .ok (.iload_n 2, 1) := by decide +kernel
theorem dX2_setWorth_26 : decode cX2_setWorth 26 = .ok (.iadd, 1) := by decide +kernel
theorem dX2_setWorth_27 : decode cX2_setWorth 27 = .ok (.iload_n 3, 1) := by decide +kernel
theorem dX2_setWorth_28 : decode cX2_setWorth 28 = .ok (.iastore, 1) := by decide +kernel
theorem dX2_setWorth_29 : decode cX2_setWorth 29 = .ok (.return_, 1) := by decide +kernel
theorem dX2_addSight_0 : decode cX2_addSight 0 = .ok (.aload_n 0, 1) := by decide +kernel
theorem dX2_addSight_1 : decode cX2_addSight 1 = .ok (.getfield 25, 3) := by decide +kernel
theorem dX2_addSight_4 : decode cX2_addSight 4 = .ok (.ifCond .lt 42, 3) := by decide +kernel
theorem dX2_addSight_7 : decode cX2_addSight 7 = .ok (.aload_n 0, 1) := by decide +kernel
theorem dX2_addSight_8 : decode cX2_addSight 8 = .ok (.getfield 25, 3) := by decide +kernel
theorem dX2_addSight_11 : decode cX2_addSight 11 = .ok (.bipush 6, 2) := by decide +kernel
theorem dX2_addSight_13 : decode cX2_addSight 13 = .ok (.if_icmp .ge 33, 3) := by decide +kernel
theorem dX2_addSight_16 : decode cX2_addSight 16 = .ok (.aload_n 0, 1) := by decide +kernel
theorem dX2_addSight_17 : decode cX2_addSight 17 = .ok (.getfield 19, 3) := by decide +kernel
theorem dX2_addSight_20 : decode cX2_addSight 20 = .ok (.aload_n 0, 1) := by decide +kernel
theorem dX2_addSight_21 : decode cX2_addSight 21 = .ok (.getfield 25, 3) := by decide +kernel
theorem dX2_addSight_24 : decode cX2_addSight 24 = .ok (.iload_n 1, 1) := by decide +kernel
theorem dX2_addSight_25 : decode cX2_addSight 25 = .ok (.iastore, 1) := by decide +kernel
theorem dX2_addSight_26 : decode cX2_addSight 26 = .ok (.aload_n 0, 1) := by decide +kernel
theorem dX2_addSight_27 : decode cX2_addSight 27 = .ok (.getfield 22, 3) := by decide +kernel
theorem dX2_addSight_30 : decode cX2_addSight 30 = .ok (.aload_n 0, 1) := by decide +kernel
theorem dX2_addSight_31 : decode cX2_addSight 31 = .ok (.getfield 25, 3) := by decide +kernel
theorem dX2_addSight_34 : decode cX2_addSight 34 = .ok (.iload_n 2, 1) := by decide +kernel
theorem dX2_addSight_35 : decode cX2_addSight 35 = .ok (.iastore, 1) := by decide +kernel
theorem dX2_addSight_36 : decode cX2_addSight 36 = .ok (.aload_n 0, 1) := by decide +kernel
theorem dX2_addSight_37 : decode cX2_addSight 37 = .ok (.dup, 1) := by decide +kernel
theorem dX2_addSight_38 : decode cX2_addSight 38 = .ok (.getfield 25, 3) := by decide +kernel
theorem dX2_addSight_41 : decode cX2_addSight 41 = .ok (.iconst 1, 1) := by decide +kernel
theorem dX2_addSight_42 : decode cX2_addSight 42 = .ok (.iadd, 1) := by decide +kernel
theorem dX2_addSight_43 : decode cX2_addSight 43 = .ok (.putfield 25, 3) := by decide +kernel
theorem dX2_addSight_46 : decode cX2_addSight 46 = .ok (.return_, 1) := by decide +kernel
theorem dX2_allSightsHold_0 : decode cX2_allSightsHold 0 = .ok (.iconst 0, 1) := by decide +kernel
theorem dX2_allSightsHold_1 : decode cX2_allSightsHold 1 = .ok (.istore_n 2, 1) := by decide +kernel
theorem dX2_allSightsHold_2 : decode cX2_allSightsHold 2 = .ok (.iload_n 2, 1) := by decide +kernel
theorem dX2_allSightsHold_3 : decode cX2_allSightsHold 3 = .ok (.bipush 6, 2) := by decide +kernel
theorem dX2_allSightsHold_5 : decode cX2_allSightsHold 5 = .ok (.if_icmp .ge 38, 3) := by decide +kernel
theorem dX2_allSightsHold_8 : decode cX2_allSightsHold 8 = .ok (.iload_n 2, 1) := by decide +kernel
theorem dX2_allSightsHold_9 : decode cX2_allSightsHold 9 = .ok (.aload_n 0, 1) := by decide +kernel
theorem dX2_allSightsHold_10 : decode cX2_allSightsHold 10 = .ok (.getfield 25, 3) := by decide +kernel
theorem dX2_allSightsHold_13 : decode cX2_allSightsHold 13 = .ok (.if_icmp .ge 30, 3) := by decide +kernel
theorem dX2_allSightsHold_16 : decode cX2_allSightsHold 16 = .ok (.aload_n 1, 1) := by decide +kernel
theorem dX2_allSightsHold_17 : decode cX2_allSightsHold 17 = .ok (.aload_n 0, 1) := by decide +kernel
theorem dX2_allSightsHold_18 : decode cX2_allSightsHold 18 = .ok (.getfield 22, 3) := by decide +kernel
theorem dX2_allSightsHold_21 : decode cX2_allSightsHold 21 = .ok (.iload_n 2, 1) := by decide +kernel
theorem dX2_allSightsHold_22 : decode cX2_allSightsHold 22 = .ok (.iaload, 1) := by decide +kernel
theorem dX2_allSightsHold_23 : decode cX2_allSightsHold 23 = .ok (.invokevirtual 32, 3) := by decide +kernel
theorem dX2_allSightsHold_26 : decode cX2_allSightsHold 26 = .ok (.aload_n 0, 1) := by decide +kernel
theorem dX2_allSightsHold_27 : decode cX2_allSightsHold 27 = .ok (.getfield 19, 3) := by decide +kernel
theorem dX2_allSightsHold_30 : decode cX2_allSightsHold 30 = .ok (.iload_n 2, 1) := by decide +kernel
theorem dX2_allSightsHold_31 : decode cX2_allSightsHold 31 = .ok (.iaload, 1) := by decide +kernel
theorem dX2_allSightsHold_32 : decode cX2_allSightsHold 32 = .ok (.if_icmp .eq 5, 3) := by decide +kernel
theorem dX2_allSightsHold_35 : decode cX2_allSightsHold 35 = .ok (.iconst 0, 1) := by decide +kernel
theorem dX2_allSightsHold_36 : decode cX2_allSightsHold 36 = .ok (.ireturn, 1) := by decide +kernel
theorem dX2_allSightsHold_37 : decode cX2_allSightsHold 37 = .ok (.iinc 2 1, 3) := by decide +kernel
theorem dX2_allSightsHold_40 : decode cX2_allSightsHold 40 = .ok (.goto (-38), 3) := by decide +kernel
theorem dX2_allSightsHold_43 : decode cX2_allSightsHold 43 = .ok (.iconst 1, 1) := by decide +kernel
theorem dX2_allSightsHold_44 : decode cX2_allSightsHold 44 = .ok (.ireturn, 1) := by decide +kernel
theorem dX2_copy_0 : decode cX2_copy 0 = .ok (.aload_n 0, 1) := by decide +kernel
theorem dX2_copy_1 : decode cX2_copy 1 = .ok (.aload_n 1, 1) := by decide +kernel
theorem dX2_copy_2 : decode cX2_copy 2 = .ok (.getfield 9, 3) := by decide +kernel
theorem dX2_copy_5 : decode cX2_copy 5 = .ok (.putfield 9, 3) := by decide +kernel
theorem dX2_copy_8 : decode cX2_copy 8 = .ok (.aload_n 0, 1) := by decide +kernel
theorem dX2_copy_9 : decode cX2_copy 9 = .ok (.aload_n 1, 1) := by decide +kernel
theorem dX2_copy_10 : decode cX2_copy 10 = .ok (.getfield 38, 3) := by decide +kernel
theorem dX2_copy_13 : decode cX2_copy 13 = .ok (.putfield 38, 3) := by decide +kernel
theorem dX2_copy_16 : decode cX2_copy 16 = .ok (.aload_n 0, 1) := by decide +kernel
theorem dX2_copy_17 : decode cX2_copy 17 = .ok (.aload_n 1, 1) := by decide +kernel
theorem dX2_copy_18 : decode cX2_copy 18 = .ok (.getfield 25, 3) := by decide +kernel
theorem dX2_copy_21 : decode cX2_copy 21 = .ok (.putfield 25, 3) := by decide +kernel
theorem dX2_copy_24 : decode cX2_copy 24 = .ok (.aload_n 1, 1) := by decide +kernel
theorem dX2_copy_25 : decode cX2_copy 25 = .ok (.getfield 15, 3) := by decide +kernel
theorem dX2_copy_28 : decode cX2_copy 28 = .ok (.iconst 0, 1) := by decide +kernel
theorem dX2_copy_29 : decode cX2_copy 29 = .ok (.aload_n 0, 1) := by decide +kernel
theorem dX2_copy_30 : decode cX2_copy 30 = .ok (.getfield 15, 3) := by decide +kernel
theorem dX2_copy_33 : decode cX2_copy 33 = .ok (.iconst 0, 1) := by decide +kernel
theorem dX2_copy_34 : decode cX2_copy 34 = .ok (.aload_n 0, 1) := by decide +kernel
theorem dX2_copy_35 : decode cX2_copy 35 = .ok (.getfield 15, 3) := by decide +kernel
theorem dX2_copy_38 : decode cX2_copy 38 = .ok (.arraylength, 1) := by decide +kernel
theorem dX2_copy_39 : decode cX2_copy 39 = .ok (.invokestatic 41, 3) := by decide +kernel
theorem dX2_copy_42 : decode cX2_copy 42 = .ok (.aload_n 1, 1) := by decide +kernel
theorem dX2_copy_43 : decode cX2_copy 43 = .ok (.getfield 19, 3) := by decide +kernel
theorem dX2_copy_46 : decode cX2_copy 46 = .ok (.iconst 0, 1) := by decide +kernel
theorem dX2_copy_47 : decode cX2_copy 47 = .ok (.aload_n 0, 1) := by decide +kernel
theorem dX2_copy_48 : decode cX2_copy 48 = .ok (.getfield 19, 3) := by decide +kernel
theorem dX2_copy_51 : decode cX2_copy 51 = .ok (.iconst 0, 1) := by decide +kernel
theorem dX2_copy_52 : decode cX2_copy 52 = .ok (.bipush 6, 2) := by decide +kernel
theorem dX2_copy_54 : decode cX2_copy 54 = .ok (.invokestatic 41, 3) := by decide +kernel
theorem dX2_copy_57 : decode cX2_copy 57 = .ok (.aload_n 1, 1) := by decide +kernel
theorem dX2_copy_58 : decode cX2_copy 58 = .ok (.getfield 22, 3) := by decide +kernel
theorem dX2_copy_61 : decode cX2_copy 61 = .ok (.iconst 0, 1) := by decide +kernel
theorem dX2_copy_62 : decode cX2_copy 62 = .ok (.aload_n 0, 1) := by decide +kernel
theorem dX2_copy_63 : decode cX2_copy 63 = .ok (.getfield 22, 3) := by decide +kernel
theorem dX2_copy_66 : decode cX2_copy 66 = .ok (.iconst 0, 1) := by decide +kernel
theorem dX2_copy_67 : decode cX2_copy 67 = .ok (.bipush 6, 2) := by decide +kernel
theorem dX2_copy_69 : decode cX2_copy 69 = .ok (.invokestatic 41, 3) := by decide +kernel
theorem dX2_copy_72 : decode cX2_copy 72 = .ok (.return_, 1) := by decide +kernel
theorem dX3_init_0 : decode cX3_init 0 = .ok (.aload_n 0, 1) := by decide +kernel
theorem dX3_init_1 : decode cX3_init 1 = .ok (.invokespecial 3, 3) := by decide +kernel
theorem dX3_init_4 : decode cX3_init 4 = .ok (.aload_n 0, 1) := by decide +kernel
theorem dX3_init_5 : decode cX3_init 5 = .ok (.bipush 8, 2) := by decide +kernel
theorem dX3_init_7 : decode cX3_init 7 = .ok (.newarray .int, 2) := by decide +kernel
theorem dX3_init_9 : decode cX3_init 9 = .ok (.putfield 9, 3) := by decide +kernel
theorem dX3_init_12 : decode cX3_init 12 = .ok (.aload_n 0, 1) := by decide +kernel
theorem dX3_init_13 : decode cX3_init 13 = .ok (.bipush 8, 2) := by decide +kernel
theorem dX3_init_15 : decode cX3_init 15 = .ok (.newarray .int, 2) := by decide +kernel
theorem dX3_init_17 : decode cX3_init 17 = .ok (.putfield 15, 3) := by decide +kernel
theorem dX3_init_20 : decode cX3_init 20 = .ok (.aload_n 0, 1) := by decide +kernel
theorem dX3_init_21 : decode cX3_init 21 = .ok (.bipush 16, 2) := by decide +kernel
theorem dX3_init_23 : decode cX3_init 23 = .ok (.newarray .int, 2) := by decide +kernel
theorem dX3_init_25 : decode cX3_init 25 = .ok (.putfield 18, 3) := by decide +kernel
theorem dX3_init_28 : decode cX3_init 28 = .ok (.aload_n 0, 1) := by decide +kernel
theorem dX3_init_29 : decode cX3_init 29 = .ok (.bipush 8, 2) := by decide +kernel
theorem dX3_init_31 : decode cX3_init 31 = .ok (.newarray .int, 2) := by decide +kernel
theorem dX3_init_33 : decode cX3_init 33 = .ok (.putfield 21, 3) := by decide +kernel
theorem dX3_init_36 : decode cX3_init 36 = .ok (.aload_n 0, 1) := by decide +kernel
theorem dX3_init_37 : decode cX3_init 37 = .ok (.bipush 8, 2) := by decide +kernel
theorem dX3_init_39 : decode cX3_init 39 = .ok (.newarray .int, 2) := by decide +kernel
theorem dX3_init_41 : decode cX3_init 41 = .ok (.putfield 24, 3) := by decide +kernel
theorem dX3_init_44 : decode cX3_init 44 = .ok (.aload_n 0, 1) := by decide +kernel
theorem dX3_init_45 : decode cX3_init 45 = .ok (.bipush 8, 2) := by decide +kernel
theorem dX3_init_47 : decode cX3_init 47 = .ok (.newarray .int, 2) := by decide +kernel
theorem dX3_init_49 : decode cX3_init 49 = .ok (.putfield 27, 3) := by decide +kernel
theorem dX3_init_52 : decode cX3_init 52 = .ok (.aload_n 0, 1) := by decide +kernel
theorem dX3_init_53 : decode cX3_init 53 = .ok (.bipush 8, 2) := by decide +kernel
theorem dX3_init_55 : decode cX3_init 55 = .ok (.newarray .int, 2) := by decide +kernel
theorem dX3_init_57 : decode cX3_init 57 = .ok (.putfield 30, 3) := by decide +kernel
theorem dX3_init_60 : decode cX3_init 60 = .ok (.aload_n 0, 1) := by decide +kernel
theorem dX3_init_61 : decode cX3_init 61 = .ok (.aload_n 1, 1) := by decide +kernel
theorem dX3_init_62 : decode cX3_init 62 = .ok (.putfield 33, 3) := by decide +kernel
theorem dX3_init_65 : decode cX3_init 65 = .ok (.aload_n 0, 1) := by decide +kernel
theorem dX3_init_66 : decode cX3_init 66 = .ok (.aload_n 2, 1) := by decide +kernel
theorem dX3_init_67 : decode cX3_init 67 = .ok (.putfield 37, 3) := by decide +kernel
theorem dX3_init_70 : decode cX3_init 70 = .ok (.return_, 1) := by decide +kernel
theorem dX3_open_0 : decode cX3_open 0 = .ok (.aload_n 0, 1) := by decide +kernel
theorem dX3_open_1 : decode cX3_open 1 = .ok (.iload_n 1, 1) := by decide +kernel
theorem dX3_open_2 : decode cX3_open 2 = .ok (.putfield 41, 3) := by decide +kernel
theorem dX3_open_5 : decode cX3_open 5 = .ok (.aload_n 0, 1) := by decide +kernel
theorem dX3_open_6 : decode cX3_open 6 = .ok (.iconst 0, 1) := by decide +kernel
theorem dX3_open_7 : decode cX3_open 7 = .ok (.putfield 45, 3) := by decide +kernel
theorem dX3_open_10 : decode cX3_open 10 = .ok (.aload_n 0, 1) := by decide +kernel
theorem dX3_open_11 : decode cX3_open 11 = .ok (.iconst 0, 1) := by decide +kernel
theorem dX3_open_12 : decode cX3_open 12 = .ok (.putfield 48, 3) := by decide +kernel
theorem dX3_open_15 : decode cX3_open 15 = .ok (.aload_n 0, 1) := by decide +kernel
theorem dX3_open_16 : decode cX3_open 16 = .ok (.iconst 0, 1) := by decide +kernel
theorem dX3_open_17 : decode cX3_open 17 = .ok (.putfield 51, 3) := by decide +kernel
theorem dX3_open_20 : decode cX3_open 20 = .ok (.aload_n 0, 1) := by decide +kernel
theorem dX3_open_21 : decode cX3_open 21 = .ok (.iconst 0, 1) := by decide +kernel
theorem dX3_open_22 : decode cX3_open 22 = .ok (.putfield 54, 3) := by decide +kernel
theorem dX3_open_25 : decode cX3_open 25 = .ok (.aload_n 0, 1) := by decide +kernel
theorem dX3_open_26 : decode cX3_open 26 = .ok (.iconst 0, 1) := by decide +kernel
theorem dX3_open_27 : decode cX3_open 27 = .ok (.putfield 57, 3) := by decide +kernel
theorem dX3_open_30 : decode cX3_open 30 = .ok (.aload_n 0, 1) := by decide +kernel
theorem dX3_open_31 : decode cX3_open 31 = .ok (.iconst 1, 1) := by decide +kernel
theorem dX3_open_32 : decode cX3_open 32 = .ok (.putfield 60, 3) := by decide +kernel
theorem dX3_open_35 : decode cX3_open 35 = .ok (.iconst 0, 1) := by decide +kernel
theorem dX3_open_36 : decode cX3_open 36 = .ok (.istore_n 2, 1) := by decide +kernel
theorem dX3_open_37 : decode cX3_open 37 = .ok (.iload_n 2, 1) := by decide +kernel
theorem dX3_open_38 : decode cX3_open 38 = .ok (.bipush 8, 2) := by decide +kernel
theorem dX3_open_40 : decode cX3_open 40 = .ok (.if_icmp .ge 44, 3) := by decide +kernel
theorem dX3_open_43 : decode cX3_open 43 = .ok (.aload_n 0, 1) := by decide +kernel
theorem dX3_open_44 : decode cX3_open 44 = .ok (.getfield 9, 3) := by decide +kernel
theorem dX3_open_47 : decode cX3_open 47 = .ok (.iload_n 2, 1) := by decide +kernel
theorem dX3_open_48 : decode cX3_open 48 = .ok (.iconst (-1), 1) := by decide +kernel
theorem dX3_open_49 : decode cX3_open 49 = .ok (.iastore, 1) := by decide +kernel
theorem dX3_open_50 : decode cX3_open 50 = .ok (.aload_n 0, 1) := by decide +kernel
theorem dX3_open_51 : decode cX3_open 51 = .ok (.getfield 30, 3) := by decide +kernel
theorem dX3_open_54 : decode cX3_open 54 = .ok (.iload_n 2, 1) := by decide +kernel
theorem dX3_open_55 : decode cX3_open 55 = .ok (.iconst (-1), 1) := by decide +kernel
theorem dX3_open_56 : decode cX3_open 56 = .ok (.iastore, 1) := by decide +kernel
theorem dX3_open_57 : decode cX3_open 57 = .ok (.aload_n 0, 1) := by decide +kernel
theorem dX3_open_58 : decode cX3_open 58 = .ok (.getfield 21, 3) := by decide +kernel
theorem dX3_open_61 : decode cX3_open 61 = .ok (.iload_n 2, 1) := by decide +kernel
theorem dX3_open_62 : decode cX3_open 62 = .ok (.iconst 0, 1) := by decide +kernel
theorem dX3_open_63 : decode cX3_open 63 = .ok (.iastore, 1) := by decide +kernel
theorem dX3_open_64 : decode cX3_open 64 = .ok (.aload_n 0, 1) := by decide +kernel
theorem dX3_open_65 : decode cX3_open 65 = .ok (.getfield 24, 3) := by decide +kernel
theorem dX3_open_68 : decode cX3_open 68 = .ok (.iload_n 2, 1) := by decide +kernel
theorem dX3_open_69 : decode cX3_open 69 = .ok (.iconst 0, 1) := by decide +kernel
theorem dX3_open_70 : decode cX3_open 70 = .ok (.iastore, 1) := by decide +kernel
theorem dX3_open_71 : decode cX3_open 71 = .ok (.aload_n 0, 1) := by decide +kernel
theorem dX3_open_72 : decode cX3_open 72 = .ok (.getfield 27, 3) := by decide +kernel
theorem dX3_open_75 : decode cX3_open 75 = .ok (.iload_n 2, 1) := by decide +kernel
theorem dX3_open_76 : decode cX3_open 76 = .ok (.iconst 0, 1) := by decide +kernel
theorem dX3_open_77 : decode cX3_open 77 = .ok (.iastore, 1) := by decide +kernel
theorem dX3_open_78 : decode cX3_open 78 = .ok (.iinc 2 1, 3) := by decide +kernel
theorem dX3_open_81 : decode cX3_open 81 = .ok (.goto (-44), 3) := by decide +kernel
theorem dX3_open_84 : decode cX3_open 84 = .ok (.iconst 0, 1) := by decide +kernel
theorem dX3_open_85 : decode cX3_open 85 = .ok (.istore_n 2, 1) := by decide +kernel
theorem dX3_open_86 : decode cX3_open 86 = .ok (.iload_n 2, 1) := by decide +kernel
theorem dX3_open_87 : decode cX3_open 87 = .ok (.aload_n 0, 1) := by decide +kernel
theorem dX3_open_88 : decode cX3_open 88 = .ok (.getfield 33, 3) := by decide +kernel
theorem dX3_open_91 : decode cX3_open 91 = .ok (.getfield 64, 3) := by decide +kernel
theorem dX3_open_94 : decode cX3_open 94 = .ok (.if_icmp .ge 14, 3) := by decide +kernel
theorem dX3_open_97 : decode cX3_open 97 = .ok (.aload_n 0, 1) := by decide +kernel
theorem dX3_open_98 : decode cX3_open 98 = .ok (.iload_n 2, 1) := by decide +kernel
theorem dX3_open_99 : decode cX3_open 99 = .ok (.invokevirtual 69, 3) := by decide +kernel
theorem dX3_open_102 : decode cX3_open 102 = .ok (.iinc 2 1, 3) := by decide +kernel
theorem dX3_open_105 : decode cX3_open 105 = .ok (.goto (-19), 3) := by decide +kernel
theorem dX3_open_108 : decode cX3_open 108 = .ok (.return_, 1) := by decide +kernel
theorem dX3_standAs_0 : decode cX3_standAs 0 = .ok (.aload_n 0, 1) := by decide +kernel
theorem dX3_standAs_1 : decode cX3_standAs 1 = .ok (.iconst 0, 1) := by decide +kernel
theorem dX3_standAs_2 : decode cX3_standAs 2 = .ok (.putfield 60, 3) := by decide +kernel
theorem dX3_standAs_5 : decode cX3_standAs 5 = .ok (.aload_n 0, 1) := by decide +kernel
theorem dX3_standAs_6 : decode cX3_standAs 6 = .ok (.aload_n 1, 1) := by decide +kernel
theorem dX3_standAs_7 : decode cX3_standAs 7 = .ok (.getfield 41, 3) := by decide +kernel
theorem dX3_standAs_10 : decode cX3_standAs 10 = .ok (.putfield 41, 3) := by decide +kernel
theorem dX3_standAs_13 : decode cX3_standAs 13 = .ok (.aload_n 0, 1) := by decide +kernel
theorem dX3_standAs_14 : decode cX3_standAs 14 = .ok (.aload_n 1, 1) := by decide +kernel
theorem dX3_standAs_15 : decode cX3_standAs 15 = .ok (.getfield 45, 3) := by decide +kernel
theorem dX3_standAs_18 : decode cX3_standAs 18 = .ok (.putfield 45, 3) := by decide +kernel
theorem dX3_standAs_21 : decode cX3_standAs 21 = .ok (.aload_n 0, 1) := by decide +kernel
theorem dX3_standAs_22 : decode cX3_standAs 22 = .ok (.aload_n 1, 1) := by decide +kernel
theorem dX3_standAs_23 : decode cX3_standAs 23 = .ok (.getfield 48, 3) := by decide +kernel
theorem dX3_standAs_26 : decode cX3_standAs 26 = .ok (.putfield 48, 3) := by decide +kernel
theorem dX3_standAs_29 : decode cX3_standAs 29 = .ok (.aload_n 0, 1) := by decide +kernel
theorem dX3_standAs_30 : decode cX3_standAs 30 = .ok (.aload_n 1, 1) := by decide +kernel
theorem dX3_standAs_31 : decode cX3_standAs 31 = .ok (.getfield 51, 3) := by decide +kernel
theorem dX3_standAs_34 : decode cX3_standAs 34 = .ok (.putfield 51, 3) := by decide +kernel
theorem dX3_standAs_37 : decode cX3_standAs 37 = .ok (.aload_n 1, 1) := by decide +kernel
theorem dX3_standAs_38 : decode cX3_standAs 38 = .ok (.getfield 9, 3) := by decide +kernel
theorem dX3_standAs_41 : decode cX3_standAs 41 = .ok (.iconst 0, 1) := by decide +kernel
theorem dX3_standAs_42 : decode cX3_standAs 42 = .ok (.aload_n 0, 1) := by decide +kernel
theorem dX3_standAs_43 : decode cX3_standAs 43 = .ok (.getfield 9, 3) := by decide +kernel
theorem dX3_standAs_46 : decode cX3_standAs 46 = .ok (.iconst 0, 1) := by decide +kernel
theorem dX3_standAs_47 : decode cX3_standAs 47 = .ok (.bipush 8, 2) := by decide +kernel
theorem dX3_standAs_49 : decode cX3_standAs 49 = .ok (.invokestatic 73, 3) := by decide +kernel
theorem dX3_standAs_52 : decode cX3_standAs 52 = .ok (.aload_n 1, 1) := by decide +kernel
theorem dX3_standAs_53 : decode cX3_standAs 53 = .ok (.getfield 15, 3) := by decide +kernel
theorem dX3_standAs_56 : decode cX3_standAs 56 = .ok (.iconst 0, 1) := by decide +kernel
theorem dX3_standAs_57 : decode cX3_standAs 57 = .ok (.aload_n 0, 1) := by decide +kernel
theorem dX3_standAs_58 : decode cX3_standAs 58 = .ok (.getfield 15, 3) := by decide +kernel
theorem dX3_standAs_61 : decode cX3_standAs 61 = .ok (.iconst 0, 1) := by decide +kernel
theorem dX3_standAs_62 : decode cX3_standAs 62 = .ok (.bipush 8, 2) := by decide +kernel
theorem dX3_standAs_64 : decode cX3_standAs 64 = .ok (.invokestatic 73, 3) := by decide +kernel
theorem dX3_standAs_67 : decode cX3_standAs 67 = .ok (.aload_n 1, 1) := by decide +kernel
theorem dX3_standAs_68 : decode cX3_standAs 68 = .ok (.getfield 18, 3) := by decide +kernel
theorem dX3_standAs_71 : decode cX3_standAs 71 = .ok (.iconst 0, 1) := by decide +kernel
theorem dX3_standAs_72 : decode cX3_standAs 72 = .ok (.aload_n 0, 1) := by decide +kernel
theorem dX3_standAs_73 : decode cX3_standAs 73 = .ok (.getfield 18, 3) := by decide +kernel
theorem dX3_standAs_76 : decode cX3_standAs 76 = .ok (.iconst 0, 1) := by decide +kernel
theorem dX3_standAs_77 : decode cX3_standAs 77 = .ok (.aload_n 0, 1) := by decide +kernel
theorem dX3_standAs_78 : decode cX3_standAs 78 = .ok (.getfield 18, 3) := by decide +kernel
theorem dX3_standAs_81 : decode cX3_standAs 81 = .ok (.arraylength, 1) := by decide +kernel
theorem dX3_standAs_82 : decode cX3_standAs 82 = .ok (.invokestatic 73, 3) := by decide +kernel
theorem dX3_standAs_85 : decode cX3_standAs 85 = .ok (.return_, 1) := by decide +kernel
theorem dX3_live_0 : decode cX3_live 0 = .ok (.iload_n 2, 1) := by decide +kernel
theorem dX3_live_1 : decode cX3_live 1 = .ok (.istore 4, 2) := by decide +kernel
theorem dX3_live_3 : decode cX3_live 3 = .ok (.iload 4, 2) := by decide +kernel
theorem dX3_live_5 : decode cX3_live 5 = .ok (.iload_n 3, 1) := by decide +kernel
theorem dX3_live_6 : decode cX3_live 6 = .ok (.if_icmp .ge 87, 3) := by decide +kernel
theorem dX3_live_9 : decode cX3_live 9 = .ok (.aload_n 1, 1) := by decide +kernel
theorem dX3_live_10 : decode cX3_live 10 = .ok (.iload 4, 2) := by decide +kernel
theorem dX3_live_12 : decode cX3_live 12 = .ok (.invokevirtual 79, 3) := by decide +kernel
theorem dX3_live_15 : decode cX3_live 15 = .ok (.istore 5, 2) := by decide +kernel
theorem dX3_live_17 : decode cX3_live 17 = .ok (.aload_n 0, 1) := by decide +kernel
theorem dX3_live_18 : decode cX3_live 18 = .ok (.iload 5, 2) := by decide +kernel
theorem dX3_live_20 : decode cX3_live 20 = .ok (.invokevirtual 85, 3) := by decide +kernel
theorem dX3_live_23 : decode cX3_live 23 = .ok (.ifCond .eq 6, 3) := by decide +kernel
theorem dX3_live_26 : decode cX3_live 26 = .ok (.iload 4, 2) := by decide +kernel
theorem dX3_live_28 : decode cX3_live 28 = .ok (.ireturn, 1) := by decide +kernel
theorem dX3_live_29 : decode cX3_live 29 = .ok (.iload 5, 2) := by decide +kernel
theorem dX3_live_31 : decode cX3_live 31 = .ok (.invokestatic 88, 3) := by decide +kernel
theorem dX3_live_34 : decode cX3_live 34 = .ok (.ifCond .eq 15, 3) := by decide +kernel
theorem dX3_live_37 : decode cX3_live 37 = .ok (.aload_n 0, 1) := by decide +kernel
theorem dX3_live_38 : decode cX3_live 38 = .ok (.iload 5, 2) := by decide +kernel
theorem dX3_live_40 : decode cX3_live 40 = .ok (.bipush 65, 2) := by decide +kernel
theorem dX3_live_42 : decode cX3_live 42 = .ok (.isub, 1) := by decide +kernel
theorem dX3_live_43 : decode cX3_live 43 = .ok (.invokevirtual 92, 3) := by decide +kernel
theorem dX3_live_46 : decode cX3_live 46 = .ok (.goto 41, 3) := by decide +kernel
theorem dX3_live_49 : decode cX3_live 49 = .ok (.iload 5, 2) := by decide +kernel
theorem dX3_live_51 : decode cX3_live 51 = .ok (.invokestatic 95, 3) := by decide +kernel
theorem dX3_live_54 : decode cX3_live 54 = .ok (.ifCond .eq 15, 3) := by decide +kernel
theorem dX3_live_57 : decode cX3_live 57 = .ok (.aload_n 0, 1) := by decide +kernel
theorem dX3_live_58 : decode cX3_live 58 = .ok (.iload 5, 2) := by decide +kernel
theorem dX3_live_60 : decode cX3_live 60 = .ok (.bipush 97, 2) := by decide +kernel
theorem dX3_live_62 : decode cX3_live 62 = .ok (.isub, 1) := by decide +kernel
theorem dX3_live_63 : decode cX3_live 63 = .ok (.invokevirtual 98, 3) := by decide +kernel
theorem dX3_live_66 : decode cX3_live 66 = .ok (.goto 21, 3) := by decide +kernel
theorem dX3_live_69 : decode cX3_live 69 = .ok (.iload 5, 2) := by decide +kernel
theorem dX3_live_71 : decode cX3_live 71 = .ok (.bipush 46, 2) := by decide +kernel
theorem dX3_live_73 : decode cX3_live 73 = .ok (.if_icmp .ne 14, 3) := by decide +kernel
theorem dX3_live_76 : decode cX3_live 76 = .ok (.aload_n 0, 1) := by decide +kernel
theorem dX3_live_77 : decode cX3_live 77 = .ok (.getfield 60, 3) := by decide +kernel
theorem dX3_live_80 : decode cX3_live 80 = .ok (.ifCond .eq 7, 3) := by decide +kernel
theorem dX3_live_83 : decode cX3_live 83 = .ok (.aload_n 0, 1) := by decide +kernel
theorem dX3_live_84 : decode cX3_live 84 = .ok (.invokevirtual 101, 3) := by decide +kernel
theorem dX3_live_87 : decode cX3_live 87 = .ok (.iinc 4 1, 3) := by decide +kernel
theorem dX3_live_90 : decode cX3_live 90 = .ok (.goto (-87), 3) := by decide +kernel
theorem dX3_live_93 : decode cX3_live 93 = .ok (.bipush (-6), 2) := by decide +kernel
theorem dX3_live_95 : decode cX3_live 95 = .ok (.ireturn, 1) := by decide +kernel
theorem dX3_whyNot_0 : decode cX3_whyNot 0 = .ok (.iload_n 1, 1) := by decide +kernel
theorem dX3_whyNot_1 : decode cX3_whyNot 1 = .ok (.invokestatic 88, 3) := by decide +kernel
theorem dX3_whyNot_4 : decode cX3_whyNot 4 = .ok (.ifCond .eq 16, 3) := by decide +kernel
theorem dX3_whyNot_7 : decode cX3_whyNot 7 = .ok (.aload_n 0, 1) := by decide +kernel
theorem dX3_whyNot_8 : decode cX3_whyNot 8 = .ok (.iload_n 1, 1) := by decide +kernel
theorem dX3_whyNot_9 : decode cX3_whyNot 9 = .ok (.bipush 65, 2) := by decide +kernel
theorem dX3_whyNot_11 : decode cX3_whyNot 11 = .ok (.isub, 1) := by decide +kernel
theorem dX3_whyNot_12 : decode cX3_whyNot 12 = .ok (.invokevirtual 104, 3) := by decide +kernel
theorem dX3_whyNot_15 : decode cX3_whyNot 15 = .ok (.ifCond .eq 5, 3) := by decide +kernel
theorem dX3_whyNot_18 : decode cX3_whyNot 18 = .ok (.iconst 1, 1) := by decide +kernel
theorem dX3_whyNot_19 : decode cX3_whyNot 19 = .ok (.ireturn, 1) := by decide +kernel
theorem dX3_whyNot_20 : decode cX3_whyNot 20 = .ok (.iload_n 1, 1) := by decide +kernel
theorem dX3_whyNot_21 : decode cX3_whyNot 21 = .ok (.invokestatic 95, 3) := by decide +kernel
theorem dX3_whyNot_24 : decode cX3_whyNot 24 = .ok (.ifCond .eq 16, 3) := by decide +kernel
theorem dX3_whyNot_27 : decode cX3_whyNot 27 = .ok (.aload_n 0, 1) := by decide +kernel
theorem dX3_whyNot_28 : decode cX3_whyNot 28 = .ok (.iload_n 1, 1) := by decide +kernel
theorem dX3_whyNot_29 : decode cX3_whyNot 29 = .ok (.bipush 97, 2) := by decide +kernel
theorem dX3_whyNot_31 : decode cX3_whyNot 31 = .ok (.isub, 1) := by decide +kernel
theorem dX3_whyNot_32 : decode cX3_whyNot 32 = .ok (.invokevirtual 104, 3) := by decide +kernel
theorem dX3_whyNot_35 : decode cX3_whyNot 35 = .ok (.ifCond .ne 5, 3) := by decide +kernel
theorem dX3_whyNot_38 : decode cX3_whyNot 38 = .ok (.iconst 2, 1) := by decide +kernel
theorem dX3_whyNot_39 : decode cX3_whyNot 39 = .ok (.ireturn, 1) := by decide +kernel
theorem dX3_whyNot_40 : decode cX3_whyNot 40 = .ok (.iconst 0, 1) := by decide +kernel
theorem dX3_whyNot_41 : decode cX3_whyNot 41 = .ok (.ireturn, 1) := by decide +kernel
theorem dX3_takeIn_0 : decode cX3_takeIn 0 = .ok (.aload_n 0, 1) := by decide +kernel
theorem dX3_takeIn_1 : decode cX3_takeIn 1 = .ok (.dup, 1) := by decide +kernel
theorem dX3_takeIn_2 : decode cX3_takeIn 2 = .ok (.getfield 45, 3) := by decide +kernel
theorem dX3_takeIn_5 : decode cX3_takeIn 5 = .ok (.iload_n 1, 1) := by decide +kernel
theorem dX3_takeIn_6 : decode cX3_takeIn 6 = .ok (.invokestatic 107, 3) := by decide +kernel
theorem dX3_takeIn_9 : decode cX3_takeIn 9 = .ok (.ior, 1) := by decide +kernel
theorem dX3_takeIn_10 : decode cX3_takeIn 10 = .ok (.putfield 45, 3) := by decide +kernel
theorem dX3_takeIn_13 : decode cX3_takeIn 13 = .ok (.aload_n 0, 1) := by decide +kernel
theorem dX3_takeIn_14 : decode cX3_takeIn 14 = .ok (.iload_n 1, 1) := by decide +kernel
theorem dX3_takeIn_15 : decode cX3_takeIn 15 = .ok (.invokevirtual 110, 3) := by decide +kernel
theorem dX3_takeIn_18 : decode cX3_takeIn 18 = .ok (.istore_n 2, 1) := by decide +kernel
theorem dX3_takeIn_19 : decode cX3_takeIn 19 = .ok (.iload_n 2, 1) := by decide +kernel
theorem dX3_takeIn_20 : decode cX3_takeIn 20 = .ok (.iconst (-1), 1) := by decide +kernel
theorem dX3_takeIn_21 : decode cX3_takeIn 21 = .ok (.if_icmp .ne 11, 3) := by decide +kernel
theorem dX3_takeIn_24 : decode cX3_takeIn 24 = .ok (.aload_n 0, 1) := by decide +kernel
theorem dX3_takeIn_25 : decode cX3_takeIn 25 = .ok (.iload_n 1, 1) := by decide +kernel
theorem dX3_takeIn_26 : decode cX3_takeIn 26 = .ok (.invokevirtual 113, 3) := by decide +kernel
theorem dX3_takeIn_29 : decode cX3_takeIn 29 = .ok (.goto 13, 3) := by decide +kernel
theorem dX3_takeIn_32 : decode cX3_takeIn 32 = .ok (.aload_n 0, 1) := by decide +kernel
theorem dX3_takeIn_33 : decode cX3_takeIn 33 = .ok (.aload_n 0, 1) := by decide +kernel
theorem dX3_takeIn_34 : decode cX3_takeIn 34 = .ok (.iload_n 2, 1) := by decide +kernel
theorem dX3_takeIn_35 : decode cX3_takeIn 35 = .ok (.invokevirtual 116, 3) := by decide +kernel
theorem dX3_takeIn_38 : decode cX3_takeIn 38 = .ok (.iload_n 1, 1) := by decide +kernel
theorem dX3_takeIn_39 : decode cX3_takeIn 39 = .ok (.invokevirtual 119, 3) := by decide +kernel
theorem dX3_takeIn_42 : decode cX3_takeIn 42 = .ok (.return_, 1) := by decide +kernel
theorem dX3_letGo_0 : decode cX3_letGo 0 = .ok (.aload_n 0, 1) := by decide +kernel
theorem dX3_letGo_1 : decode cX3_letGo 1 = .ok (.iload_n 1, 1) := by decide +kernel
theorem dX3_letGo_2 : decode cX3_letGo 2 = .ok (.invokevirtual 123, 3) := by decide +kernel
theorem dX3_letGo_5 : decode cX3_letGo 5 = .ok (.istore_n 2, 1) := by decide +kernel
theorem dX3_letGo_6 : decode cX3_letGo 6 = .ok (.iload_n 2, 1) := by decide +kernel
theorem dX3_letGo_7 : decode cX3_letGo 7 = .ok (.iconst (-1), 1) := by decide +kernel
theorem dX3_letGo_8 : decode cX3_letGo 8 = .ok (.if_icmp .ne 26, 3) := by decide +kernel
theorem dX3_letGo_11 : decode cX3_letGo 11 = .ok (.aload_n 0, 1) := by decide +kernel
theorem dX3_letGo_12 : decode cX3_letGo 12 = .ok (.dup, 1) := by decide +kernel
theorem dX3_letGo_13 : decode cX3_letGo 13 = .ok (.getfield 45, 3) := by decide +kernel
theorem dX3_letGo_16 : decode cX3_letGo 16 = .ok (.iload_n 1, 1) := by decide +kernel
theorem dX3_letGo_17 : decode cX3_letGo 17 = .ok (.invokestatic 107, 3) := by decide +kernel
theorem dX3_letGo_20 : decode cX3_letGo 20 = .ok (.iconst (-1), 1) := by decide +kernel
theorem dX3_letGo_21 : decode cX3_letGo 21 = .ok (.ixor, 1) := by decide +kernel
theorem dX3_letGo_22 : decode cX3_letGo 22 = .ok (.iand, 1) := by decide +kernel
theorem dX3_letGo_23 : decode cX3_letGo 23 = .ok (.putfield 45, 3) := by decide +kernel
theorem dX3_letGo_26 : decode cX3_letGo 26 = .ok (.aload_n 0, 1) := by decide +kernel
theorem dX3_letGo_27 : decode cX3_letGo 27 = .ok (.iload_n 1, 1) := by decide +kernel
theorem dX3_letGo_28 : decode cX3_letGo 28 = .ok (.invokevirtual 126, 3) := by decide +kernel
theorem dX3_letGo_31 : decode cX3_letGo 31 = .ok (.goto 8, 3) := by decide +kernel
theorem dX3_letGo_34 : decode cX3_letGo 34 = .ok (.aload_n 0, 1) := by decide +kernel
theorem dX3_letGo_35 : decode cX3_letGo 35 = .ok (.iload_n 2, 1) := by decide +kernel
theorem dX3_letGo_36 : decode cX3_letGo 36 = .ok (.invokevirtual 129, 3) := by decide +kernel
theorem dX3_letGo_39 : decode cX3_letGo 39 = .ok (.return_, 1) := by decide +kernel
theorem dX3_emptyLeastBed_0 : decode cX3_emptyLeastBed 0 = .ok (.iconst 0, 1) := by decide +kernel
theorem dX3_emptyLeastBed_1 : decode cX3_emptyLeastBed 1 = .ok (.istore_n 1, 1) := by decide +kernel
theorem dX3_emptyLeastBed_2 : decode cX3_emptyLeastBed 2 = .ok (.iload_n 1, 1) := by decide +kernel
theorem dX3_emptyLeastBed_3 : decode cX3_emptyLeastBed 3 = .ok (.bipush 8, 2) := by decide +kernel
theorem dX3_emptyLeastBed_5 : decode cX3_emptyLeastBed 5 = .ok (.if_icmp .ge 25, 3) := by decide +kernel
theorem dX3_emptyLeastBed_8 : decode cX3_emptyLeastBed 8 = .ok (.aload_n 0, 1) := by decide +kernel
theorem dX3_emptyLeastBed_9 : decode cX3_emptyLeastBed 9 = .ok (.getfield 9, 3) := by decide +kernel
theorem dX3_emptyLeastBed_12 : decode cX3_emptyLeastBed 12 = .ok (.iload_n 1, 1) := by decide +kernel
theorem dX3_emptyLeastBed_13 : decode cX3_emptyLeastBed 13 = .ok (.iaload, 1) := by decide +kernel
theorem dX3_emptyLeastBed_14 : decode cX3_emptyLeastBed 14 = .ok (.iconst (-1), 1) := by decide +kernel
theorem dX3_emptyLeastBed_15 : decode cX3_emptyLeastBed 15 = .ok (.if_icmp .eq 9, 3) := by decide +kernel
theorem dX3_emptyLeastBed_18 : decode cX3_emptyLeastBed 18 = .ok (.aload_n 0, 1) := by decide +kernel
theorem dX3_emptyLeastBed_19 : decode cX3_emptyLeastBed 19 = .ok (.iload_n 1, 1) := by decide +kernel
theorem dX3_emptyLeastBed_20 : decode cX3_emptyLeastBed 20 = .ok (.invokevirtual 129, 3) := by decide +kernel
theorem dX3_emptyLeastBed_23 : decode cX3_emptyLeastBed 23 = .ok (.return_, 1) := by decide +kernel
theorem dX3_emptyLeastBed_24 : decode cX3_emptyLeastBed 24 = .ok (.iinc 1 1, 3) := by decide +kernel
theorem dX3_emptyLeastBed_27 : decode cX3_emptyLeastBed 27 = .ok (.goto (-25), 3) := by decide +kernel
theorem dX3_emptyLeastBed_30 : decode cX3_emptyLeastBed 30 = .ok (.return_, 1) := by decide +kernel
theorem dX3_clear_0 : decode cX3_clear 0 = .ok (.aload_n 0, 1) := by decide +kernel
theorem dX3_clear_1 : decode cX3_clear 1 = .ok (.dup, 1) := by decide +kernel
theorem dX3_clear_2 : decode cX3_clear 2 = .ok (.getfield 45, 3) := by decide +kernel
theorem dX3_clear_5 : decode cX3_clear 5 = .ok (.aload_n 0, 1) := by decide +kernel
theorem dX3_clear_6 : decode cX3_clear 6 = .ok (.iload_n 1, 1) := by decide +kernel
theorem dX3_clear_7 : decode cX3_clear 7 = .ok (.invokevirtual 132, 3) := by decide +kernel
theorem dX3_clear_10 : decode cX3_clear 10 = .ok (.invokestatic 107, 3) := by decide +kernel
theorem dX3_clear_13 : decode cX3_clear 13 = .ok (.iconst (-1), 1) := by decide +kernel
theorem dX3_clear_14 : decode cX3_clear 14 = .ok (.ixor, 1) := by decide +kernel
theorem dX3_clear_15 : decode cX3_clear 15 = .ok (.iand, 1) := by decide +kernel
theorem dX3_clear_16 : decode cX3_clear 16 = .ok (.putfield 45, 3) := by decide +kernel
theorem dX3_clear_19 : decode cX3_clear 19 = .ok (.aload_n 0, 1) := by decide +kernel
theorem dX3_clear_20 : decode cX3_clear 20 = .ok (.getfield 51, 3) := by decide +kernel
theorem dX3_clear_23 : decode cX3_clear 23 = .ok (.ifCond .le 24, 3) := by decide +kernel
theorem dX3_clear_26 : decode cX3_clear 26 = .ok (.aload_n 0, 1) := by decide +kernel
theorem dX3_clear_27 : decode cX3_clear 27 = .ok (.getfield 18, 3) := by decide +kernel
theorem dX3_clear_30 : decode cX3_clear 30 = .ok (.iconst 0, 1) := by decide +kernel
theorem dX3_clear_31 : decode cX3_clear 31 = .ok (.iaload, 1) := by decide +kernel
theorem dX3_clear_32 : decode cX3_clear 32 = .ok (.istore_n 2, 1) := by decide +kernel
theorem dX3_clear_33 : decode cX3_clear 33 = .ok (.aload_n 0, 1) := by decide +kernel
theorem dX3_clear_34 : decode cX3_clear 34 = .ok (.iload_n 2, 1) := by decide +kernel
theorem dX3_clear_35 : decode cX3_clear 35 = .ok (.invokevirtual 126, 3) := by decide +kernel
theorem dX3_clear_38 : decode cX3_clear 38 = .ok (.aload_n 0, 1) := by decide +kernel
theorem dX3_clear_39 : decode cX3_clear 39 = .ok (.iload_n 1, 1) := by decide +kernel
theorem dX3_clear_40 : decode cX3_clear 40 = .ok (.iload_n 2, 1) := by decide +kernel
theorem dX3_clear_41 : decode cX3_clear 41 = .ok (.invokevirtual 119, 3) := by decide +kernel
theorem dX3_clear_44 : decode cX3_clear 44 = .ok (.goto 8, 3) := by decide +kernel
theorem dX3_clear_47 : decode cX3_clear 47 = .ok (.aload_n 0, 1) := by decide +kernel
theorem dX3_clear_48 : decode cX3_clear 48 = .ok (.iload_n 1, 1) := by decide +kernel
theorem dX3_clear_49 : decode cX3_clear 49 = .ok (.invokevirtual 69, 3) := by decide +kernel
theorem dX3_clear_52 : decode cX3_clear 52 = .ok (.return_, 1) := by decide +kernel
theorem dX3_passNight_0 : decode cX3_passNight 0 = .ok (.iconst 0, 1) := by decide +kernel
theorem dX3_passNight_1 : decode cX3_passNight 1 = .ok (.istore_n 1, 1) := by decide +kernel
theorem dX3_passNight_2 : decode cX3_passNight 2 = .ok (.iload_n 1, 1) := by decide +kernel
theorem dX3_passNight_3 : decode cX3_passNight 3 = .ok (.bipush 8, 2) := by decide +kernel
theorem dX3_passNight_5 : decode cX3_passNight 5 = .ok (.if_icmp .ge 40, 3) := by decide +kernel
theorem dX3_passNight_8 : decode cX3_passNight 8 = .ok (.aload_n 0, 1) := by decide +kernel
theorem dX3_passNight_9 : decode cX3_passNight 9 = .ok (.getfield 9, 3) := by decide +kernel
theorem dX3_passNight_12 : decode cX3_passNight 12 = .ok (.iload_n 1, 1) := by decide +kernel
theorem dX3_passNight_13 : decode cX3_passNight 13 = .ok (.iaload, 1) := by decide +kernel
theorem dX3_passNight_14 : decode cX3_passNight 14 = .ok (.iconst (-1), 1) := by decide +kernel
theorem dX3_passNight_15 : decode cX3_passNight 15 = .ok (.if_icmp .eq 24, 3) := by decide +kernel
theorem dX3_passNight_18 : decode cX3_passNight 18 = .ok (.aload_n 0, 1) := by decide +kernel
theorem dX3_passNight_19 : decode cX3_passNight 19 = .ok (.getfield 21, 3) := by decide +kernel
theorem dX3_passNight_22 : decode cX3_passNight 22 = .ok (.iload_n 1, 1) := by decide +kernel
theorem dX3_passNight_23 : decode cX3_passNight 23 = .ok (.dup2, 1) := by decide +kernel
theorem dX3_passNight_24 : decode cX3_passNight 24 = .ok (.iaload, 1) := by decide +kernel
theorem dX3_passNight_25 : decode cX3_passNight 25 = .ok (.iconst 1, 1) := by decide +kernel
theorem dX3_passNight_26 : decode cX3_passNight 26 = .ok (.iadd, 1) := by decide +kernel
theorem dX3_passNight_27 : decode cX3_passNight 27 = .ok (.iastore, 1) := by decide +kernel
theorem dX3_passNight_28 : decode cX3_passNight 28 = .ok (.aload_n 0, 1) := by decide +kernel
theorem dX3_passNight_29 : decode cX3_passNight 29 = .ok (.iload_n 1, 1) := by decide +kernel
theorem dX3_passNight_30 : decode cX3_passNight 30 = .ok (.aload_n 0, 1) := by decide +kernel
theorem dX3_passNight_31 : decode cX3_passNight 31 = .ok (.getfield 9, 3) := by decide +kernel
theorem dX3_passNight_34 : decode cX3_passNight 34 = .ok (.iload_n 1, 1) := by decide +kernel
theorem dX3_passNight_35 : decode cX3_passNight 35 = .ok (.iaload, 1) := by decide +kernel
theorem dX3_passNight_36 : decode cX3_passNight 36 = .ok (.invokevirtual 135, 3) := by decide +kernel
theorem dX3_passNight_39 : decode cX3_passNight 39 = .ok (.iinc 1 1, 3) := by decide +kernel
theorem dX3_passNight_42 : decode cX3_passNight 42 = .ok (.goto (-40), 3) := by decide +kernel
theorem dX3_passNight_45 : decode cX3_passNight 45 = .ok (.return_, 1) := by decide +kernel
theorem dX3_shareFleas_0 : decode cX3_shareFleas 0 = .ok (.aload_n 0, 1) := by decide +kernel
theorem dX3_shareFleas_1 : decode cX3_shareFleas 1 = .ok (.getfield 54, 3) := by decide +kernel
theorem dX3_shareFleas_4 : decode cX3_shareFleas 4 = .ok (.iload_n 2, 1) := by decide +kernel
theorem dX3_shareFleas_5 : decode cX3_shareFleas 5 = .ok (.invokestatic 107, 3) := by decide +kernel
theorem dX3_shareFleas_8 : decode cX3_shareFleas 8 = .ok (.iand, 1) := by decide +kernel
theorem dX3_shareFleas_9 : decode cX3_shareFleas 9 = .ok (.ifCond .ne 14, 3) := by decide +kernel
theorem dX3_shareFleas_12 : decode cX3_shareFleas 12 = .ok (.aload_n 0, 1) := by decide +kernel
theorem dX3_shareFleas_13 : decode cX3_shareFleas 13 = .ok (.getfield 57, 3) := by decide +kernel
theorem dX3_shareFleas_16 : decode cX3_shareFleas 16 = .ok (.iconst 1, 1) := by decide +kernel
theorem dX3_shareFleas_17 : decode cX3_shareFleas 17 = .ok (.iload_n 1, 1) := by decide +kernel
theorem dX3_shareFleas_18 : decode cX3_shareFleas 18 = .ok (.ishl, 1) := by decide +kernel
theorem dX3_shareFleas_19 : decode cX3_shareFleas 19 = .ok (.iand, 1) := by decide +kernel
theorem dX3_shareFleas_20 : decode cX3_shareFleas 20 = .ok (.ifCond .eq 28, 3) := by decide +kernel
theorem dX3_shareFleas_23 : decode cX3_shareFleas 23 = .ok (.aload_n 0, 1) := by decide +kernel
theorem dX3_shareFleas_24 : decode cX3_shareFleas 24 = .ok (.dup, 1) := by decide +kernel
theorem dX3_shareFleas_25 : decode cX3_shareFleas 25 = .ok (.getfield 54, 3) := by decide +kernel
theorem dX3_shareFleas_28 : decode cX3_shareFleas 28 = .ok (.iload_n 2, 1) := by decide +kernel
theorem dX3_shareFleas_29 : decode cX3_shareFleas 29 = .ok (.invokestatic 107, 3) := by decide +kernel
theorem dX3_shareFleas_32 : decode cX3_shareFleas 32 = .ok (.ior, 1) := by decide +kernel
theorem dX3_shareFleas_33 : decode cX3_shareFleas 33 = .ok (.putfield 54, 3) := by decide +kernel
theorem dX3_shareFleas_36 : decode cX3_shareFleas 36 = .ok (.aload_n 0, 1) := by decide +kernel
theorem dX3_shareFleas_37 : decode cX3_shareFleas 37 = .ok (.dup, 1) := by decide +kernel
theorem dX3_shareFleas_38 : decode cX3_shareFleas 38 = .ok (.getfield 57, 3) := by decide +kernel
theorem dX3_shareFleas_41 : decode cX3_shareFleas 41 = .ok (.iconst 1, 1) := by decide +kernel
theorem dX3_shareFleas_42 : decode cX3_shareFleas 42 = .ok (.iload_n 1, 1) := by decide +kernel
theorem dX3_shareFleas_43 : decode cX3_shareFleas 43 = .ok (.ishl, 1) := by decide +kernel
theorem dX3_shareFleas_44 : decode cX3_shareFleas 44 = .ok (.ior, 1) := by decide +kernel
theorem dX3_shareFleas_45 : decode cX3_shareFleas 45 = .ok (.putfield 57, 3) := by decide +kernel
theorem dX3_shareFleas_48 : decode cX3_shareFleas 48 = .ok (.return_, 1) := by decide +kernel
theorem dX3_infest_0 : decode cX3_infest 0 = .ok (.iload_n 1, 1) := by decide +kernel
theorem dX3_infest_1 : decode cX3_infest 1 = .ok (.bipush 8, 2) := by decide +kernel
theorem dX3_infest_3 : decode cX3_infest 3 = .ok (.if_icmp .ge 19, 3) := by decide +kernel
theorem dX3_infest_6 : decode cX3_infest 6 = .ok (.aload_n 0, 1) := by decide +kernel
theorem dX3_infest_7 : decode cX3_infest 7 = .ok (.dup, 1) := by decide +kernel
theorem dX3_infest_8 : decode cX3_infest 8 = .ok (.getfield 54, 3) := by decide +kernel
theorem dX3_infest_11 : decode cX3_infest 11 = .ok (.iload_n 1, 1) := by decide +kernel
theorem dX3_infest_12 : decode cX3_infest 12 = .ok (.invokestatic 107, 3) := by decide +kernel
theorem dX3_infest_15 : decode cX3_infest 15 = .ok (.ior, 1) := by decide +kernel
theorem dX3_infest_16 : decode cX3_infest 16 = .ok (.putfield 54, 3) := by decide +kernel
theorem dX3_infest_19 : decode cX3_infest 19 = .ok (.goto 18, 3) := by decide +kernel
theorem dX3_infest_22 : decode cX3_infest 22 = .ok (.aload_n 0, 1) := by decide +kernel
theorem dX3_infest_23 : decode cX3_infest 23 = .ok (.dup, 1) := by decide +kernel
theorem dX3_infest_24 : decode cX3_infest 24 = .ok (.getfield 57, 3) := by decide +kernel
theorem dX3_infest_27 : decode cX3_infest 27 = .ok (.iconst 1, 1) := by decide +kernel
theorem dX3_infest_28 : decode cX3_infest 28 = .ok (.iload_n 1, 1) := by decide +kernel
theorem dX3_infest_29 : decode cX3_infest 29 = .ok (.bipush 8, 2) := by decide +kernel
theorem dX3_infest_31 : decode cX3_infest 31 = .ok (.isub, 1) := by decide +kernel
theorem dX3_infest_32 : decode cX3_infest 32 = .ok (.ishl, 1) := by decide +kernel
theorem dX3_infest_33 : decode cX3_infest 33 = .ok (.ior, 1) := by decide +kernel
theorem dX3_infest_34 : decode cX3_infest 34 = .ok (.putfield 57, 3) := by decide +kernel
theorem dX3_infest_37 : decode cX3_infest 37 = .ok (.return_, 1) := by decide +kernel
theorem dX3_choice_0 : decode cX3_choice 0 = .ok (.aload_n 0, 1) := by decide +kernel
theorem dX3_choice_1 : decode cX3_choice 1 = .ok (.getfield 48, 3) := by decide +kernel
theorem dX3_choice_4 : decode cX3_choice 4 = .ok (.ifCond .ne 5, 3) := by decide +kernel
theorem dX3_choice_7 : decode cX3_choice 7 = .ok (.iconst (-1), 1) := by decide +kernel
theorem dX3_choice_8 : decode cX3_choice 8 = .ok (.ireturn, 1) := by decide +kernel
theorem dX3_choice_9 : decode cX3_choice 9 = .ok (.aload_n 0, 1) := by decide +kernel
theorem dX3_choice_10 : decode cX3_choice 10 = .ok (.getfield 41, 3) := by decide +kernel
theorem dX3_choice_13 : decode cX3_choice 13 = .ok (.tableswitch 41 0 2 #[27, 34, 36], 27) := by decide +kernel
theorem dX3_choice_40 : decode cX3_choice 40 = .ok (.aload_n 0, 1) := by decide +kernel
theorem dX3_choice_41 : decode cX3_choice 41 = .ok (.getfield 48, 3) := by decide +kernel
theorem dX3_choice_44 : decode cX3_choice 44 = .ok (.iconst 1, 1) := by decide +kernel
theorem dX3_choice_45 : decode cX3_choice 45 = .ok (.isub, 1) := by decide +kernel
theorem dX3_choice_46 : decode cX3_choice 46 = .ok (.ireturn, 1) := by decide +kernel
theorem dX3_choice_47 : decode cX3_choice 47 = .ok (.iconst 0, 1) := by decide +kernel
theorem dX3_choice_48 : decode cX3_choice 48 = .ok (.ireturn, 1) := by decide +kernel
theorem dX3_choice_49 : decode cX3_choice 49 = .ok (.aload_n 0, 1) := by decide +kernel
theorem dX3_choice_50 : decode cX3_choice 50 = .ok (.invokevirtual 138, 3) := by decide +kernel
theorem dX3_choice_53 : decode cX3_choice 53 = .ok (.ireturn, 1) := by decide +kernel
theorem dX3_choice_54 : decode cX3_choice 54 = .ok (.aload_n 0, 1) := by decide +kernel
theorem dX3_choice_55 : decode cX3_choice 55 = .ok (.iload_n 1, 1) := by decide +kernel
theorem dX3_choice_56 : decode cX3_choice 56 = .ok (.invokevirtual 142, 3) := by decide +kernel
theorem dX3_choice_59 : decode cX3_choice 59 = .ok (.ireturn, 1) := by decide +kernel
theorem dX3_leastOfEmpty_0 : decode cX3_leastOfEmpty 0 = .ok (.iconst 0, 1) := by decide +kernel
theorem dX3_leastOfEmpty_1 : decode cX3_leastOfEmpty 1 = .ok (.istore_n 1, 1) := by decide +kernel
theorem dX3_leastOfEmpty_2 : decode cX3_leastOfEmpty 2 = .ok (.iconst 1, 1) := by decide +kernel
theorem dX3_leastOfEmpty_3 : decode cX3_leastOfEmpty 3 = .ok (.istore_n 2, 1) := by decide +kernel
theorem dX3_leastOfEmpty_4 : decode cX3_leastOfEmpty 4 = .ok (.iload_n 2, 1) := by decide +kernel
theorem dX3_leastOfEmpty_5 : decode cX3_leastOfEmpty 5 = .ok (.bipush 8, 2) := by decide +kernel
theorem dX3_leastOfEmpty_7 : decode cX3_leastOfEmpty 7 = .ok (.if_icmp .ge 34, 3) := by decide +kernel
theorem dX3_leastOfEmpty_10 : decode cX3_leastOfEmpty 10 = .ok (.iload_n 2, 1) := by decide +kernel
theorem dX3_leastOfEmpty_11 : decode cX3_leastOfEmpty 11 = .ok (.aload_n 0, 1) := by decide +kernel
theorem dX3_leastOfEmpty_12 : decode cX3_leastOfEmpty 12 = .ok (.getfield 48, 3) := by decide +kernel
theorem dX3_leastOfEmpty_15 : decode cX3_leastOfEmpty 15 = .ok (.if_icmp .ge 26, 3) := by decide +kernel
theorem dX3_leastOfEmpty_18 : decode cX3_leastOfEmpty 18 = .ok (.aload_n 0, 1) := by decide +kernel
theorem dX3_leastOfEmpty_19 : decode cX3_leastOfEmpty 19 = .ok (.getfield 15, 3) := by decide +kernel
theorem dX3_leastOfEmpty_22 : decode cX3_leastOfEmpty 22 = .ok (.iload_n 2, 1) := by decide +kernel
theorem dX3_leastOfEmpty_23 : decode cX3_leastOfEmpty 23 = .ok (.iaload, 1) := by decide +kernel
theorem dX3_leastOfEmpty_24 : decode cX3_leastOfEmpty 24 = .ok (.aload_n 0, 1) := by decide +kernel
theorem dX3_leastOfEmpty_25 : decode cX3_leastOfEmpty 25 = .ok (.getfield 15, 3) := by decide +kernel
theorem dX3_leastOfEmpty_28 : decode cX3_leastOfEmpty 28 = .ok (.iload_n 1, 1) := by decide +kernel
theorem dX3_leastOfEmpty_29 : decode cX3_leastOfEmpty 29 = .ok (.iaload, 1) := by decide +kernel
theorem dX3_leastOfEmpty_30 : decode cX3_leastOfEmpty 30 = .ok (.if_icmp .ge 5, 3) := by decide +kernel
theorem dX3_leastOfEmpty_33 : decode cX3_leastOfEmpty 33 = .ok (.iload_n 2, 1) := by decide +kernel
theorem dX3_leastOfEmpty_34 : decode cX3_leastOfEmpty 34 = .ok (.istore_n 1, 1) := by decide +kernel
theorem dX3_leastOfEmpty_35 : decode cX3_leastOfEmpty 35 = .ok (.iinc 2 1, 3) := by decide +kernel
theorem dX3_leastOfEmpty_38 : decode cX3_leastOfEmpty 38 = .ok (.goto (-34), 3) := by decide +kernel
theorem dX3_leastOfEmpty_41 : decode cX3_leastOfEmpty 41 = .ok (.iload_n 1, 1) := by decide +kernel
theorem dX3_leastOfEmpty_42 : decode cX3_leastOfEmpty 42 = .ok (.ireturn, 1) := by decide +kernel
theorem dX3_dearestOfEmpty_0 : decode cX3_dearestOfEmpty 0 = .ok (.iconst 0, 1) := by decide +kernel
theorem dX3_dearestOfEmpty_1 : decode cX3_dearestOfEmpty 1 = .ok (.istore_n 2, 1) := by decide +kernel
theorem dX3_dearestOfEmpty_2 : decode cX3_dearestOfEmpty 2 = .ok (.iconst 1, 1) := by decide +kernel
theorem dX3_dearestOfEmpty_3 : decode cX3_dearestOfEmpty 3 = .ok (.istore_n 3, 1) := by decide +kernel
theorem dX3_dearestOfEmpty_4 : decode cX3_dearestOfEmpty 4 = .ok (.iload_n 3, 1) := by decide +kernel
theorem dX3_dearestOfEmpty_5 : decode cX3_dearestOfEmpty 5 = .ok (.bipush 8, 2) := by decide +kernel
theorem dX3_dearestOfEmpty_7 : decode cX3_dearestOfEmpty 7 = .ok (.if_icmp .ge 50, 3) := by decide +kernel
theorem dX3_dearestOfEmpty_10 : decode cX3_dearestOfEmpty 10 = .ok (.iload_n 3, 1) := by decide +kernel
theorem dX3_dearestOfEmpty_11 : decode cX3_dearestOfEmpty 11 = .ok (.aload_n 0, 1) := by decide +kernel
theorem dX3_dearestOfEmpty_12 : decode cX3_dearestOfEmpty 12 = .ok (.getfield 48, 3) := by decide +kernel
theorem dX3_dearestOfEmpty_15 : decode cX3_dearestOfEmpty 15 = .ok (.if_icmp .ge 42, 3) := by decide +kernel
theorem dX3_dearestOfEmpty_18 : decode cX3_dearestOfEmpty 18 = .ok (.aload_n 0, 1) := by decide +kernel
theorem dX3_dearestOfEmpty_19 : decode cX3_dearestOfEmpty 19 = .ok (.getfield 33, 3) := by decide +kernel
theorem dX3_dearestOfEmpty_22 : decode cX3_dearestOfEmpty 22 = .ok (.iload_n 1, 1) := by decide +kernel
theorem dX3_dearestOfEmpty_23 : decode cX3_dearestOfEmpty 23 = .ok (.aload_n 0, 1) := by decide +kernel
theorem dX3_dearestOfEmpty_24 : decode cX3_dearestOfEmpty 24 = .ok (.getfield 15, 3) := by decide +kernel
theorem dX3_dearestOfEmpty_27 : decode cX3_dearestOfEmpty 27 = .ok (.iload_n 3, 1) := by decide +kernel
theorem dX3_dearestOfEmpty_28 : decode cX3_dearestOfEmpty 28 = .ok (.iaload, 1) := by decide +kernel
theorem dX3_dearestOfEmpty_29 : decode cX3_dearestOfEmpty 29 = .ok (.invokevirtual 145, 3) := by decide +kernel
theorem dX3_dearestOfEmpty_32 : decode cX3_dearestOfEmpty 32 = .ok (.aload_n 0, 1) := by decide +kernel
theorem dX3_dearestOfEmpty_33 : decode cX3_dearestOfEmpty 33 = .ok (.getfield 33, 3) := by decide +kernel
theorem dX3_dearestOfEmpty_36 : decode cX3_dearestOfEmpty 36 = .ok (.iload_n 1, 1) := by decide +kernel
theorem dX3_dearestOfEmpty_37 : decode cX3_dearestOfEmpty 37 = .ok (.aload_n 0, 1) := by decide +kernel
theorem dX3_dearestOfEmpty_38 : decode cX3_dearestOfEmpty 38 = .ok (.getfield 15, 3) := by decide +kernel
theorem dX3_dearestOfEmpty_41 : decode cX3_dearestOfEmpty 41 = .ok (.iload_n 2, 1) := by decide +kernel
theorem dX3_dearestOfEmpty_42 : decode cX3_dearestOfEmpty 42 = .ok (.iaload, 1) := by decide +kernel
theorem dX3_dearestOfEmpty_43 : decode cX3_dearestOfEmpty 43 = .ok (.invokevirtual 145, 3) := by decide +kernel
theorem dX3_dearestOfEmpty_46 : decode cX3_dearestOfEmpty 46 = .ok (.if_icmp .lt 5, 3) := by decide +kernel
theorem dX3_dearestOfEmpty_49 : decode cX3_dearestOfEmpty 49 = .ok (.iload_n 3, 1) := by decide +kernel
theorem dX3_dearestOfEmpty_50 : decode cX3_dearestOfEmpty 50 = .ok (.istore_n 2, 1) := by decide +kernel
theorem dX3_dearestOfEmpty_51 : decode cX3_dearestOfEmpty 51 = .ok (.iinc 3 1, 3) := by decide +kernel
theorem dX3_dearestOfEmpty_54 : decode cX3_dearestOfEmpty 54 = .ok (.goto (-50), 3) := by decide +kernel
theorem dX3_dearestOfEmpty_57 : decode cX3_dearestOfEmpty 57 = .ok (.iload_n 2, 1) := by decide +kernel
theorem dX3_dearestOfEmpty_58 : decode cX3_dearestOfEmpty 58 = .ok (.ireturn, 1) := by decide +kernel
theorem dX3_takeFromEmpty_0 : decode cX3_takeFromEmpty 0 = .ok (.iload_n 1, 1) := by decide +kernel
theorem dX3_takeFromEmpty_1 : decode cX3_takeFromEmpty 1 = .ok (.ifCond .lt 17, 3) := by decide +kernel
theorem dX3_takeFromEmpty_4 : decode cX3_takeFromEmpty 4 = .ok (.iload_n 1, 1) := by decide +kernel
theorem dX3_takeFromEmpty_5 : decode cX3_takeFromEmpty 5 = .ok (.aload_n 0, 1) := by decide +kernel
theorem dX3_takeFromEmpty_6 : decode cX3_takeFromEmpty 6 = .ok (.getfield 48, 3) := by decide +kernel
theorem dX3_takeFromEmpty_9 : decode cX3_takeFromEmpty 9 = .ok (.if_icmp .ge 9, 3) := by decide +kernel
theorem dX3_takeFromEmpty_12 : decode cX3_takeFromEmpty 12 = .ok (.iload_n 1, 1) := by decide +kernel
theorem dX3_takeFromEmpty_13 : decode cX3_takeFromEmpty 13 = .ok (.bipush 8, 2) := by decide +kernel
theorem dX3_takeFromEmpty_15 : decode cX3_takeFromEmpty 15 = .ok (.if_icmp .lt 5, 3) := by decide +kernel
theorem dX3_takeFromEmpty_18 : decode cX3_takeFromEmpty 18 = .ok (.iconst (-1), 1) := by decide +kernel
theorem dX3_takeFromEmpty_19 : decode cX3_takeFromEmpty 19 = .ok (.ireturn, 1) := by decide +kernel
theorem dX3_takeFromEmpty_20 : decode cX3_takeFromEmpty 20 = .ok (.aload_n 0, 1) := by decide +kernel
theorem dX3_takeFromEmpty_21 : decode cX3_takeFromEmpty 21 = .ok (.getfield 15, 3) := by decide +kernel
theorem dX3_takeFromEmpty_24 : decode cX3_takeFromEmpty 24 = .ok (.iload_n 1, 1) := by decide +kernel
theorem dX3_takeFromEmpty_25 : decode cX3_takeFromEmpty 25 = .ok (.iaload, 1) := by decide +kernel
theorem dX3_takeFromEmpty_26 : decode cX3_takeFromEmpty 26 = .ok (.istore_n 2, 1) := by decide +kernel
theorem dX3_takeFromEmpty_27 : decode cX3_takeFromEmpty 27 = .ok (.iload_n 1, 1) := by decide +kernel
theorem dX3_takeFromEmpty_28 : decode cX3_takeFromEmpty 28 = .ok (.iconst 1, 1) := by decide +kernel
theorem dX3_takeFromEmpty_29 : decode cX3_takeFromEmpty 29 = .ok (.iadd, 1) := by decide +kernel
theorem dX3_takeFromEmpty_30 : decode cX3_takeFromEmpty 30 = .ok (.istore_n 3, 1) := by decide +kernel
theorem dX3_takeFromEmpty_31 : decode cX3_takeFromEmpty 31 = .ok (.iload_n 3, 1) := by decide +kernel
theorem dX3_takeFromEmpty_32 : decode cX3_takeFromEmpty 32 = .ok (.bipush 8, 2) := by decide +kernel
theorem dX3_takeFromEmpty_34 : decode cX3_takeFromEmpty 34 = .ok (.if_icmp .ge 31, 3) := by decide +kernel
theorem dX3_takeFromEmpty_37 : decode cX3_takeFromEmpty 37 = .ok (.iload_n 3, 1) := by decide +kernel
theorem dX3_takeFromEmpty_38 : decode cX3_takeFromEmpty 38 = .ok (.aload_n 0, 1) := by decide +kernel
theorem dX3_takeFromEmpty_39 : decode cX3_takeFromEmpty 39 = .ok (.getfield 48, 3) := by decide +kernel
theorem dX3_takeFromEmpty_42 : decode cX3_takeFromEmpty 42 = .ok (.if_icmp .ge 23, 3) := by decide +kernel
theorem dX3_takeFromEmpty_45 : decode cX3_takeFromEmpty 45 = .ok (.aload_n 0, 1) := by decide +kernel
theorem dX3_takeFromEmpty_46 : decode cX3_takeFromEmpty 46 = .ok (.getfield 15, 3) := by decide +kernel
theorem dX3_takeFromEmpty_49 : decode cX3_takeFromEmpty 49 = .ok (.iload_n 3, 1) := by decide +kernel
theorem dX3_takeFromEmpty_50 : decode cX3_takeFromEmpty 50 = .ok (.iconst 1, 1) := by decide +kernel
theorem dX3_takeFromEmpty_51 : decode cX3_takeFromEmpty 51 = .ok (.isub, 1) := by decide +kernel
theorem dX3_takeFromEmpty_52 : decode cX3_takeFromEmpty 52 = .ok (.aload_n 0, 1) := by decide +kernel
theorem dX3_takeFromEmpty_53 : decode cX3_takeFromEmpty 53 = .ok (.getfield 15, 3) := by decide +kernel
theorem dX3_takeFromEmpty_56 : decode cX3_takeFromEmpty 56 = .ok (.iload_n 3, 1) := by decide +kernel
theorem dX3_takeFromEmpty_57 : decode cX3_takeFromEmpty 57 = .ok (.iaload, 1) := by decide +kernel
theorem dX3_takeFromEmpty_58 : decode cX3_takeFromEmpty 58 = .ok (.iastore, 1) := by decide +kernel
theorem dX3_takeFromEmpty_59 : decode cX3_takeFromEmpty 59 = .ok (.iinc 3 1, 3) := by decide +kernel
theorem dX3_takeFromEmpty_62 : decode cX3_takeFromEmpty 62 = .ok (.goto (-31), 3) := by decide +kernel
theorem dX3_takeFromEmpty_65 : decode cX3_takeFromEmpty 65 = .ok (.aload_n 0, 1) := by decide +kernel
theorem dX3_takeFromEmpty_66 : decode cX3_takeFromEmpty 66 = .ok (.dup, 1) := by decide +kernel
theorem dX3_takeFromEmpty_67 : decode cX3_takeFromEmpty 67 = .ok (.getfield 48, 3) := by decide +kernel
theorem dX3_takeFromEmpty_70 : decode cX3_takeFromEmpty 70 = .ok (.iconst 1, 1) := by decide +kernel
theorem dX3_takeFromEmpty_71 : decode cX3_takeFromEmpty 71 = .ok (.isub, 1) := by decide +kernel
theorem dX3_takeFromEmpty_72 : decode cX3_takeFromEmpty 72 = .ok (.putfield 48, 3) := by decide +kernel
theorem dX3_takeFromEmpty_75 : decode cX3_takeFromEmpty 75 = .ok (.iload_n 2, 1) := by decide +kernel
theorem dX3_takeFromEmpty_76 : decode cX3_takeFromEmpty 76 = .ok (.ireturn, 1) := by decide +kernel
theorem dX3_occupy_0 : decode cX3_occupy 0 = .ok (.iload_n 1, 1) := by decide +kernel
theorem dX3_occupy_1 : decode cX3_occupy 1 = .ok (.ifCond .lt 9, 3) := by decide +kernel
theorem dX3_occupy_4 : decode cX3_occupy 4 = .ok (.iload_n 1, 1) := by decide +kernel
theorem dX3_occupy_5 : decode cX3_occupy 5 = .ok (.bipush 8, 2) := by decide +kernel
theorem dX3_occupy_7 : decode cX3_occupy 7 = .ok (.if_icmp .lt 4, 3) := by decide +kernel
theorem dX3_occupy_10 : decode cX3_occupy 10 = .ok (.return_, 1) := by decide +kernel
theorem dX3_occupy_11 : decode cX3_occupy 11 = .ok (.aload_n 0, 1) := by decide +kernel
theorem dX3_occupy_12 : decode cX3_occupy 12 = .ok (.getfield 9, 3) := by decide +kernel
theorem dX3_occupy_15 : decode cX3_occupy 15 = .ok (.iload_n 1, 1) := by decide +kernel
theorem dX3_occupy_16 : decode cX3_occupy 16 = .ok (.iload_n 2, 1) := by decide +kernel
theorem dX3_occupy_17 : decode cX3_occupy 17 = .ok (.iastore, 1) := by decide +kernel
theorem dX3_occupy_18 : decode cX3_occupy 18 = .ok (.aload_n 0, 1) := by decide +kernel
theorem dX3_occupy_19 : decode cX3_occupy 19 = .ok (.getfield 24, 3) := by decide +kernel
theorem dX3_occupy_22 : decode cX3_occupy 22 = .ok (.iload_n 1, 1) := by decide +kernel
theorem dX3_occupy_23 : decode cX3_occupy 23 = .ok (.dup2, 1) := by decide +kernel
theorem dX3_occupy_24 : decode cX3_occupy 24 = .ok (.iaload, 1) := by decide +kernel
theorem dX3_occupy_25 : decode cX3_occupy 25 = .ok (.iconst 1, 1) := by decide +kernel
theorem dX3_occupy_26 : decode cX3_occupy 26 = .ok (.iadd, 1) := by decide +kernel
theorem dX3_occupy_27 : decode cX3_occupy 27 = .ok (.iastore, 1) := by decide +kernel
theorem dX3_occupy_28 : decode cX3_occupy 28 = .ok (.aload_n 0, 1) := by decide +kernel
theorem dX3_occupy_29 : decode cX3_occupy 29 = .ok (.getfield 30, 3) := by decide +kernel
theorem dX3_occupy_32 : decode cX3_occupy 32 = .ok (.iload_n 1, 1) := by decide +kernel
theorem dX3_occupy_33 : decode cX3_occupy 33 = .ok (.iaload, 1) := by decide +kernel
theorem dX3_occupy_34 : decode cX3_occupy 34 = .ok (.iload_n 2, 1) := by decide +kernel
theorem dX3_occupy_35 : decode cX3_occupy 35 = .ok (.if_icmp .eq 13, 3) := by decide +kernel
theorem dX3_occupy_38 : decode cX3_occupy 38 = .ok (.aload_n 0, 1) := by decide +kernel
theorem dX3_occupy_39 : decode cX3_occupy 39 = .ok (.getfield 27, 3) := by decide +kernel
theorem dX3_occupy_42 : decode cX3_occupy 42 = .ok (.iload_n 1, 1) := by decide +kernel
theorem dX3_occupy_43 : decode cX3_occupy 43 = .ok (.dup2, 1) := by decide +kernel
theorem dX3_occupy_44 : decode cX3_occupy 44 = .ok (.iaload, 1) := by decide +kernel
theorem dX3_occupy_45 : decode cX3_occupy 45 = .ok (.iconst 1, 1) := by decide +kernel
theorem dX3_occupy_46 : decode cX3_occupy 46 = .ok (.iadd, 1) := by decide +kernel
theorem dX3_occupy_47 : decode cX3_occupy 47 = .ok (.iastore, 1) := by decide +kernel
theorem dX3_occupy_48 : decode cX3_occupy 48 = .ok (.aload_n 0, 1) := by decide +kernel
theorem dX3_occupy_49 : decode cX3_occupy 49 = .ok (.getfield 30, 3) := by decide +kernel
theorem dX3_occupy_52 : decode cX3_occupy 52 = .ok (.iload_n 1, 1) := by decide +kernel
theorem dX3_occupy_53 : decode cX3_occupy 53 = .ok (.iload_n 2, 1) := by decide +kernel
theorem dX3_occupy_54 : decode cX3_occupy 54 = .ok (.iastore, 1) := by decide +kernel
theorem dX3_occupy_55 : decode cX3_occupy 55 = .ok (.return_, 1) := by decide +kernel
theorem dX3_leaveEmpty_0 : decode cX3_leaveEmpty 0 = .ok (.iload_n 1, 1) := by decide +kernel
theorem dX3_leaveEmpty_1 : decode cX3_leaveEmpty 1 = .ok (.ifCond .lt 25, 3) := by decide +kernel
theorem dX3_leaveEmpty_4 : decode cX3_leaveEmpty 4 = .ok (.iload_n 1, 1) := by decide +kernel
theorem dX3_leaveEmpty_5 : decode cX3_leaveEmpty 5 = .ok (.bipush 8, 2) := by decide +kernel
theorem dX3_leaveEmpty_7 : decode cX3_leaveEmpty 7 = .ok (.if_icmp .ge 19, 3) := by decide +kernel
theorem dX3_leaveEmpty_10 : decode cX3_leaveEmpty 10 = .ok (.aload_n 0, 1) := by decide +kernel
theorem dX3_leaveEmpty_11 : decode cX3_leaveEmpty 11 = .ok (.getfield 48, 3) := by decide +kernel
theorem dX3_leaveEmpty_14 : decode cX3_leaveEmpty 14 = .ok (.ifCond .lt 12, 3) := by decide +kernel
theorem dX3_leaveEmpty_17 : decode cX3_leaveEmpty 17 = .ok (.aload_n 0, 1) := by decide +kernel
theorem dX3_leaveEmpty_18 : decode cX3_leaveEmpty 18 = .ok (.getfield 48, 3) := by decide +kernel
theorem dX3_leaveEmpty_21 : decode cX3_leaveEmpty 21 = .ok (.bipush 8, 2) := by decide +kernel
theorem dX3_leaveEmpty_23 : decode cX3_leaveEmpty 23 = .ok (.if_icmp .lt 4, 3) := by decide +kernel
theorem dX3_leaveEmpty_26 : decode cX3_leaveEmpty 26 = .ok (.return_, 1) := by decide +kernel
theorem dX3_leaveEmpty_27 : decode cX3_leaveEmpty 27 = .ok (.aload_n 0, 1) := by decide +kernel
theorem dX3_leaveEmpty_28 : decode cX3_leaveEmpty 28 = .ok (.getfield 9, 3) := by decide +kernel
theorem dX3_leaveEmpty_31 : decode cX3_leaveEmpty 31 = .ok (.iload_n 1, 1) := by decide +kernel
theorem dX3_leaveEmpty_32 : decode cX3_leaveEmpty 32 = .ok (.iconst (-1), 1) := by decide +kernel
theorem dX3_leaveEmpty_33 : decode cX3_leaveEmpty 33 = .ok (.iastore, 1) := by decide +kernel
theorem dX3_leaveEmpty_34 : decode cX3_leaveEmpty 34 = .ok (.aload_n 0, 1) := by decide +kernel
theorem dX3_leaveEmpty_35 : decode cX3_leaveEmpty 35 = .ok (.getfield 15, 3) := by decide +kernel
theorem dX3_leaveEmpty_38 : decode cX3_leaveEmpty 38 = .ok (.aload_n 0, 1) := by decide +kernel
theorem dX3_leaveEmpty_39 : decode cX3_leaveEmpty 39 = .ok (.getfield 48, 3) := by decide +kernel
theorem dX3_leaveEmpty_42 : decode cX3_leaveEmpty 42 = .ok (.iload_n 1, 1) := by decide +kernel
theorem dX3_leaveEmpty_43 : decode cX3_leaveEmpty 43 = .ok (.iastore, 1) := by decide +kernel
theorem dX3_leaveEmpty_44 : decode cX3_leaveEmpty 44 = .ok (.aload_n 0, 1) := by decide +kernel
theorem dX3_leaveEmpty_45 : decode cX3_leaveEmpty 45 = .ok (.dup, 1) := by decide +kernel
theorem dX3_leaveEmpty_46 : decode cX3_leaveEmpty 46 = .ok (.getfield 48, 3) := by decide +kernel
theorem dX3_leaveEmpty_49 : decode cX3_leaveEmpty 49 = .ok (.iconst 1, 1) := by decide +kernel
theorem dX3_leaveEmpty_50 : decode cX3_leaveEmpty 50 = .ok (.iadd, 1) := by decide +kernel
theorem dX3_leaveEmpty_51 : decode cX3_leaveEmpty 51 = .ok (.putfield 48, 3) := by decide +kernel
theorem dX3_leaveEmpty_54 : decode cX3_leaveEmpty 54 = .ok (.return_, 1) := by decide +kernel
theorem dX3_waitInYard_0 : decode cX3_waitInYard 0 = .ok (.aload_n 0, 1) := by decide +kernel
theorem dX3_waitInYard_1 : decode cX3_waitInYard 1 = .ok (.getfield 51, 3) := by decide +kernel
theorem dX3_waitInYard_4 : decode cX3_waitInYard 4 = .ok (.ifCond .lt 35, 3) := by decide +kernel
theorem dX3_waitInYard_7 : decode cX3_waitInYard 7 = .ok (.aload_n 0, 1) := by decide +kernel
theorem dX3_waitInYard_8 : decode cX3_waitInYard 8 = .ok (.getfield 51, 3) := by decide +kernel
theorem dX3_waitInYard_11 : decode cX3_waitInYard 11 = .ok (.aload_n 0, 1) := by decide +kernel
theorem dX3_waitInYard_12 : decode cX3_waitInYard 12 = .ok (.getfield 18, 3) := by decide +kernel
theorem dX3_waitInYard_15 : decode cX3_waitInYard 15 = .ok (.arraylength, 1) := by decide +kernel
theorem dX3_waitInYard_16 : decode cX3_waitInYard 16 = .ok (.if_icmp .ge 23, 3) := by decide +kernel
theorem dX3_waitInYard_19 : decode cX3_waitInYard 19 = .ok (.aload_n 0, 1) := by decide +kernel
theorem dX3_waitInYard_20 : decode cX3_waitInYard 20 = .ok (.getfield 18, 3) := by decide +kernel
theorem dX3_waitInYard_23 : decode cX3_waitInYard 23 = .ok (.aload_n 0, 1) := by decide +kernel
theorem dX3_waitInYard_24 : decode cX3_waitInYard 24 = .ok (.getfield 51, 3) := by decide +kernel
theorem dX3_waitInYard_27 : decode cX3_waitInYard 27 = .ok (.iload_n 1, 1) := by decide +kernel
theorem dX3_waitInYard_28 : decode cX3_waitInYard 28 = .ok (.iastore, 1) := by decide +kernel
theorem dX3_waitInYard_29 : decode cX3_waitInYard 29 = .ok (.aload_n 0, 1) := by decide +kernel
theorem dX3_waitInYard_30 : decode cX3_waitInYard 30 = .ok (.dup, 1) := by decide +kernel
theorem dX3_waitInYard_31 : decode cX3_waitInYard 31 = .ok (.getfield 51, 3) := by decide +kernel
theorem dX3_waitInYard_34 : decode cX3_waitInYard 34 = .ok (.iconst 1, 1) := by decide +kernel
theorem dX3_waitInYard_35 : decode cX3_waitInYard 35 = .ok (.iadd, 1) := by decide +kernel
theorem dX3_waitInYard_36 : decode cX3_waitInYard 36 = .ok (.putfield 51, 3) := by decide +kernel
theorem dX3_waitInYard_39 : decode cX3_waitInYard 39 = .ok (.return_, 1) := by decide +kernel
theorem dX3_leaveYard_0 : decode cX3_leaveYard 0 = .ok (.iconst 0, 1) := by decide +kernel
theorem dX3_leaveYard_1 : decode cX3_leaveYard 1 = .ok (.istore_n 2, 1) := by decide +kernel
theorem dX3_leaveYard_2 : decode cX3_leaveYard 2 = .ok (.iconst 0, 1) := by decide +kernel
theorem dX3_leaveYard_3 : decode cX3_leaveYard 3 = .ok (.istore_n 3, 1) := by decide +kernel
theorem dX3_leaveYard_4 : decode cX3_leaveYard 4 = .ok (.iconst 0, 1) := by decide +kernel
theorem dX3_leaveYard_5 : decode cX3_leaveYard 5 = .ok (.istore 4, 2) := by decide +kernel
theorem dX3_leaveYard_7 : decode cX3_leaveYard 7 = .ok (.iload 4, 2) := by decide +kernel
theorem dX3_leaveYard_9 : decode cX3_leaveYard 9 = .ok (.aload_n 0, 1) := by decide +kernel
theorem dX3_leaveYard_10 : decode cX3_leaveYard 10 = .ok (.getfield 18, 3) := by decide +kernel
theorem dX3_leaveYard_13 : decode cX3_leaveYard 13 = .ok (.arraylength, 1) := by decide +kernel
theorem dX3_leaveYard_14 : decode cX3_leaveYard 14 = .ok (.if_icmp .ge 54, 3) := by decide +kernel
theorem dX3_leaveYard_17 : decode cX3_leaveYard 17 = .ok (.iload 4, 2) := by decide +kernel
theorem dX3_leaveYard_19 : decode cX3_leaveYard 19 = .ok (.aload_n 0, 1) := by decide +kernel
theorem dX3_leaveYard_20 : decode cX3_leaveYard 20 = .ok (.getfield 51, 3) := by decide +kernel
theorem dX3_leaveYard_23 : decode cX3_leaveYard 23 = .ok (.if_icmp .ge 45, 3) := by decide +kernel
theorem dX3_leaveYard_26 : decode cX3_leaveYard 26 = .ok (.iload_n 3, 1) := by decide +kernel
theorem dX3_leaveYard_27 : decode cX3_leaveYard 27 = .ok (.ifCond .ne 19, 3) := by decide +kernel
theorem dX3_leaveYard_30 : decode cX3_leaveYard 30 = .ok (.aload_n 0, 1) := by decide +kernel
theorem dX3_leaveYard_31 : decode cX3_leaveYard 31 = .ok (.getfield 18, 3) := by decide +kernel
theorem dX3_leaveYard_34 : decode cX3_leaveYard 34 = .ok (.iload 4, 2) := by decide +kernel
theorem dX3_leaveYard_36 : decode cX3_leaveYard 36 = .ok (.iaload, 1) := by decide +kernel
theorem dX3_leaveYard_37 : decode cX3_leaveYard 37 = .ok (.iload_n 1, 1) := by decide +kernel
theorem dX3_leaveYard_38 : decode cX3_leaveYard 38 = .ok (.if_icmp .ne 8, 3) := by decide +kernel
theorem dX3_leaveYard_41 : decode cX3_leaveYard 41 = .ok (.iconst 1, 1) := by decide +kernel
theorem dX3_leaveYard_42 : decode cX3_leaveYard 42 = .ok (.istore_n 3, 1) := by decide +kernel
theorem dX3_leaveYard_43 : decode cX3_leaveYard 43 = .ok (.goto 19, 3) := by decide +kernel
theorem dX3_leaveYard_46 : decode cX3_leaveYard 46 = .ok (.aload_n 0, 1) := by decide +kernel
theorem dX3_leaveYard_47 : decode cX3_leaveYard 47 = .ok (.getfield 18, 3) := by decide +kernel
theorem dX3_leaveYard_50 : decode cX3_leaveYard 50 = .ok (.iload_n 2, 1) := by decide +kernel
theorem dX3_leaveYard_51 : decode cX3_leaveYard 51 = .ok (.aload_n 0, 1) := by decide +kernel
theorem dX3_leaveYard_52 : decode cX3_leaveYard 52 = .ok (.getfield 18, 3) := by decide +kernel
theorem dX3_leaveYard_55 : decode cX3_leaveYard 55 = .ok (.iload 4, 2) := by decide +kernel
theorem dX3_leaveYard_57 : decode cX3_leaveYard 57 = .ok (.iaload, 1) := by decide +kernel
theorem dX3_leaveYard_58 : decode cX3_leaveYard 58 = .ok (.iastore, 1) := by decide +kernel
theorem dX3_leaveYard_59 : decode cX3_leaveYard 59 = .ok (.iinc 2 1, 3) := by decide +kernel
theorem dX3_leaveYard_62 : decode cX3_leaveYard 62 = .ok (.iinc 4 1, 3) := by decide +kernel
theorem dX3_leaveYard_65 : decode cX3_leaveYard 65 = .ok (.goto (-58), 3) := by decide +kernel
theorem dX3_leaveYard_68 : decode cX3_leaveYard 68 = .ok (.aload_n 0, 1) := by decide +kernel
end
section
theorem dX3_leaveYard_69 : decode cX3_leaveYard 69 = .ok (.iload_n 2, 1) := by decide +kernel
theorem dX3_leaveYard_70 : decode cX3_leaveYard 70 = .ok (.putfield 51, 3) := by decide +kernel
theorem dX3_leaveYard_73 : decode cX3_leaveYard 73 = .ok (.return_, 1) := by decide +kernel
theorem dX3_bitOf_0 : decode cX3_bitOf 0 = .ok (.iload_n 0, 1) := by decide +kernel
theorem dX3_bitOf_1 : decode cX3_bitOf 1 = .ok (.ifCond .lt 15, 3) := by decide +kernel
theorem dX3_bitOf_4 : decode cX3_bitOf 4 = .ok (.iload_n 0, 1) := by decide +kernel
theorem dX3_bitOf_5 : decode cX3_bitOf 5 = .ok (.bipush 8, 2) := by decide +kernel
theorem dX3_bitOf_7 : decode cX3_bitOf 7 = .ok (.if_icmp .ge 9, 3) := by decide +kernel
theorem dX3_bitOf_10 : decode cX3_bitOf 10 = .ok (.iconst 1, 1) := by decide +kernel
theorem dX3_bitOf_11 : decode cX3_bitOf 11 = .ok (.iload_n 0, 1) := by decide +kernel
theorem dX3_bitOf_12 : decode cX3_bitOf 12 = .ok (.ishl, 1) := by decide +kernel
theorem dX3_bitOf_13 : decode cX3_bitOf 13 = .ok (.goto 4, 3) := by decide +kernel
theorem dX3_bitOf_16 : decode cX3_bitOf 16 = .ok (.iconst 0, 1) := by decide +kernel
theorem dX3_bitOf_17 : decode cX3_bitOf 17 = .ok (.ireturn, 1) := by decide +kernel
theorem dX3_isThere_0 : decode cX3_isThere 0 = .ok (.aload_n 0, 1) := by decide +kernel
theorem dX3_isThere_1 : decode cX3_isThere 1 = .ok (.getfield 45, 3) := by decide +kernel
theorem dX3_isThere_4 : decode cX3_isThere 4 = .ok (.iload_n 1, 1) := by decide +kernel
theorem dX3_isThere_5 : decode cX3_isThere 5 = .ok (.invokestatic 107, 3) := by decide +kernel
theorem dX3_isThere_8 : decode cX3_isThere 8 = .ok (.iand, 1) := by decide +kernel
theorem dX3_isThere_9 : decode cX3_isThere 9 = .ok (.ifCond .eq 7, 3) := by decide +kernel
theorem dX3_isThere_12 : decode cX3_isThere 12 = .ok (.iconst 1, 1) := by decide +kernel
theorem dX3_isThere_13 : decode cX3_isThere 13 = .ok (.goto 4, 3) := by decide +kernel
theorem dX3_isThere_16 : decode cX3_isThere 16 = .ok (.iconst 0, 1) := by decide +kernel
theorem dX3_isThere_17 : decode cX3_isThere 17 = .ok (.ireturn, 1) := by decide +kernel
theorem dX3_bedOf_0 : decode cX3_bedOf 0 = .ok (.iconst 0, 1) := by decide +kernel
theorem dX3_bedOf_1 : decode cX3_bedOf 1 = .ok (.istore_n 2, 1) := by decide +kernel
theorem dX3_bedOf_2 : decode cX3_bedOf 2 = .ok (.iload_n 2, 1) := by decide +kernel
theorem dX3_bedOf_3 : decode cX3_bedOf 3 = .ok (.bipush 8, 2) := by decide +kernel
theorem dX3_bedOf_5 : decode cX3_bedOf 5 = .ok (.if_icmp .ge 21, 3) := by decide +kernel
theorem dX3_bedOf_8 : decode cX3_bedOf 8 = .ok (.aload_n 0, 1) := by decide +kernel
theorem dX3_bedOf_9 : decode cX3_bedOf 9 = .ok (.getfield 9, 3) := by decide +kernel
theorem dX3_bedOf_12 : decode cX3_bedOf 12 = .ok (.iload_n 2, 1) := by decide +kernel
theorem dX3_bedOf_13 : decode cX3_bedOf 13 = .ok (.iaload, 1) := by decide +kernel
theorem dX3_bedOf_14 : decode cX3_bedOf 14 = .ok (.iload_n 1, 1) := by decide +kernel
theorem dX3_bedOf_15 : decode cX3_bedOf 15 = .ok (.if_icmp .ne 5, 3) := by decide +kernel
theorem dX3_bedOf_18 : decode cX3_bedOf 18 = .ok (.iload_n 2, 1) := by decide +kernel
theorem dX3_bedOf_19 : decode cX3_bedOf 19 = .ok (.ireturn, 1) := by decide +kernel
theorem dX3_bedOf_20 : decode cX3_bedOf 20 = .ok (.iinc 2 1, 3) := by decide +kernel
theorem dX3_bedOf_23 : decode cX3_bedOf 23 = .ok (.goto (-21), 3) := by decide +kernel
theorem dX3_bedOf_26 : decode cX3_bedOf 26 = .ok (.iconst (-1), 1) := by decide +kernel
theorem dX3_bedOf_27 : decode cX3_bedOf 27 = .ok (.ireturn, 1) := by decide +kernel
theorem dX3_sleeperOf_0 : decode cX3_sleeperOf 0 = .ok (.iload_n 1, 1) := by decide +kernel
theorem dX3_sleeperOf_1 : decode cX3_sleeperOf 1 = .ok (.ifCond .lt 18, 3) := by decide +kernel
theorem dX3_sleeperOf_4 : decode cX3_sleeperOf 4 = .ok (.iload_n 1, 1) := by decide +kernel
theorem dX3_sleeperOf_5 : decode cX3_sleeperOf 5 = .ok (.bipush 8, 2) := by decide +kernel
theorem dX3_sleeperOf_7 : decode cX3_sleeperOf 7 = .ok (.if_icmp .ge 12, 3) := by decide +kernel
theorem dX3_sleeperOf_10 : decode cX3_sleeperOf 10 = .ok (.aload_n 0, 1) := by decide +kernel
theorem dX3_sleeperOf_11 : decode cX3_sleeperOf 11 = .ok (.getfield 9, 3) := by decide +kernel
theorem dX3_sleeperOf_14 : decode cX3_sleeperOf 14 = .ok (.iload_n 1, 1) := by decide +kernel
theorem dX3_sleeperOf_15 : decode cX3_sleeperOf 15 = .ok (.iaload, 1) := by decide +kernel
theorem dX3_sleeperOf_16 : decode cX3_sleeperOf 16 = .ok (.goto 4, 3) := by decide +kernel
theorem dX3_sleeperOf_19 : decode cX3_sleeperOf 19 = .ok (.iconst (-1), 1) := by decide +kernel
theorem dX3_sleeperOf_20 : decode cX3_sleeperOf 20 = .ok (.ireturn, 1) := by decide +kernel
theorem dX3_emptyBed_0 : decode cX3_emptyBed 0 = .ok (.iload_n 1, 1) := by decide +kernel
theorem dX3_emptyBed_1 : decode cX3_emptyBed 1 = .ok (.ifCond .lt 20, 3) := by decide +kernel
theorem dX3_emptyBed_4 : decode cX3_emptyBed 4 = .ok (.iload_n 1, 1) := by decide +kernel
theorem dX3_emptyBed_5 : decode cX3_emptyBed 5 = .ok (.aload_n 0, 1) := by decide +kernel
theorem dX3_emptyBed_6 : decode cX3_emptyBed 6 = .ok (.getfield 48, 3) := by decide +kernel
theorem dX3_emptyBed_9 : decode cX3_emptyBed 9 = .ok (.if_icmp .ge 12, 3) := by decide +kernel
theorem dX3_emptyBed_12 : decode cX3_emptyBed 12 = .ok (.aload_n 0, 1) := by decide +kernel
theorem dX3_emptyBed_13 : decode cX3_emptyBed 13 = .ok (.getfield 48, 3) := by decide +kernel
theorem dX3_emptyBed_16 : decode cX3_emptyBed 16 = .ok (.bipush 8, 2) := by decide +kernel
theorem dX3_emptyBed_18 : decode cX3_emptyBed 18 = .ok (.if_icmp .le 6, 3) := by decide +kernel
theorem dX3_emptyBed_21 : decode cX3_emptyBed 21 = .ok (.bipush (-6), 2) := by decide +kernel
theorem dX3_emptyBed_23 : decode cX3_emptyBed 23 = .ok (.ireturn, 1) := by decide +kernel
theorem dX3_emptyBed_24 : decode cX3_emptyBed 24 = .ok (.aload_n 0, 1) := by decide +kernel
theorem dX3_emptyBed_25 : decode cX3_emptyBed 25 = .ok (.getfield 15, 3) := by decide +kernel
theorem dX3_emptyBed_28 : decode cX3_emptyBed 28 = .ok (.aload_n 0, 1) := by decide +kernel
theorem dX3_emptyBed_29 : decode cX3_emptyBed 29 = .ok (.getfield 48, 3) := by decide +kernel
theorem dX3_emptyBed_32 : decode cX3_emptyBed 32 = .ok (.iconst 1, 1) := by decide +kernel
theorem dX3_emptyBed_33 : decode cX3_emptyBed 33 = .ok (.isub, 1) := by decide +kernel
theorem dX3_emptyBed_34 : decode cX3_emptyBed 34 = .ok (.iload_n 1, 1) := by decide +kernel
theorem dX3_emptyBed_35 : decode cX3_emptyBed 35 = .ok (.isub, 1) := by decide +kernel
theorem dX3_emptyBed_36 : decode cX3_emptyBed 36 = .ok (.iaload, 1) := by decide +kernel
theorem dX3_emptyBed_37 : decode cX3_emptyBed 37 = .ok (.ireturn, 1) := by decide +kernel
theorem dX3_timesUsed_0 : decode cX3_timesUsed 0 = .ok (.iload_n 1, 1) := by decide +kernel
theorem dX3_timesUsed_1 : decode cX3_timesUsed 1 = .ok (.ifCond .lt 18, 3) := by decide +kernel
theorem dX3_timesUsed_4 : decode cX3_timesUsed 4 = .ok (.iload_n 1, 1) := by decide +kernel
theorem dX3_timesUsed_5 : decode cX3_timesUsed 5 = .ok (.bipush 8, 2) := by decide +kernel
theorem dX3_timesUsed_7 : decode cX3_timesUsed 7 = .ok (.if_icmp .ge 12, 3) := by decide +kernel
theorem dX3_timesUsed_10 : decode cX3_timesUsed 10 = .ok (.aload_n 0, 1) := by decide +kernel
theorem dX3_timesUsed_11 : decode cX3_timesUsed 11 = .ok (.getfield 24, 3) := by decide +kernel
theorem dX3_timesUsed_14 : decode cX3_timesUsed 14 = .ok (.iload_n 1, 1) := by decide +kernel
theorem dX3_timesUsed_15 : decode cX3_timesUsed 15 = .ok (.iaload, 1) := by decide +kernel
theorem dX3_timesUsed_16 : decode cX3_timesUsed 16 = .ok (.goto 4, 3) := by decide +kernel
theorem dX3_timesUsed_19 : decode cX3_timesUsed 19 = .ok (.iconst 0, 1) := by decide +kernel
theorem dX3_timesUsed_20 : decode cX3_timesUsed 20 = .ok (.ireturn, 1) := by decide +kernel
theorem dX3_countOf_0 : decode cX3_countOf 0 = .ok (.iload_n 1, 1) := by decide +kernel
theorem dX3_countOf_1 : decode cX3_countOf 1 = .ok (.ifCond .lt 9, 3) := by decide +kernel
theorem dX3_countOf_4 : decode cX3_countOf 4 = .ok (.iload_n 1, 1) := by decide +kernel
theorem dX3_countOf_5 : decode cX3_countOf 5 = .ok (.bipush 8, 2) := by decide +kernel
theorem dX3_countOf_7 : decode cX3_countOf 7 = .ok (.if_icmp .lt 5, 3) := by decide +kernel
theorem dX3_countOf_10 : decode cX3_countOf 10 = .ok (.iconst 0, 1) := by decide +kernel
theorem dX3_countOf_11 : decode cX3_countOf 11 = .ok (.ireturn, 1) := by decide +kernel
theorem dX3_countOf_12 : decode cX3_countOf 12 = .ok (.iload_n 2, 1) := by decide +kernel
theorem dX3_countOf_13 : decode cX3_countOf 13 = .ok (.lookupswitch 41 #[(0, 27), (1, 34)], 27) := by decide +kernel
theorem dX3_countOf_40 : decode cX3_countOf 40 = .ok (.aload_n 0, 1) := by decide +kernel
theorem dX3_countOf_41 : decode cX3_countOf 41 = .ok (.getfield 21, 3) := by decide +kernel
theorem dX3_countOf_44 : decode cX3_countOf 44 = .ok (.iload_n 1, 1) := by decide +kernel
theorem dX3_countOf_45 : decode cX3_countOf 45 = .ok (.iaload, 1) := by decide +kernel
theorem dX3_countOf_46 : decode cX3_countOf 46 = .ok (.ireturn, 1) := by decide +kernel
theorem dX3_countOf_47 : decode cX3_countOf 47 = .ok (.aload_n 0, 1) := by decide +kernel
theorem dX3_countOf_48 : decode cX3_countOf 48 = .ok (.getfield 24, 3) := by decide +kernel
theorem dX3_countOf_51 : decode cX3_countOf 51 = .ok (.iload_n 1, 1) := by decide +kernel
theorem dX3_countOf_52 : decode cX3_countOf 52 = .ok (.iaload, 1) := by decide +kernel
theorem dX3_countOf_53 : decode cX3_countOf 53 = .ok (.ireturn, 1) := by decide +kernel
theorem dX3_countOf_54 : decode cX3_countOf 54 = .ok (.aload_n 0, 1) := by decide +kernel
theorem dX3_countOf_55 : decode cX3_countOf 55 = .ok (.getfield 27, 3) := by decide +kernel
theorem dX3_countOf_58 : decode cX3_countOf 58 = .ok (.iload_n 1, 1) := by decide +kernel
theorem dX3_countOf_59 : decode cX3_countOf 59 = .ok (.iaload, 1) := by decide +kernel
theorem dX3_countOf_60 : decode cX3_countOf 60 = .ok (.ireturn, 1) := by decide +kernel
theorem dX3_allSheets_0 : decode cX3_allSheets 0 = .ok (.iconst 0, 1) := by decide +kernel
theorem dX3_allSheets_1 : decode cX3_allSheets 1 = .ok (.istore_n 1, 1) := by decide +kernel
theorem dX3_allSheets_2 : decode cX3_allSheets 2 = .ok (.iconst 0, 1) := by decide +kernel
theorem dX3_allSheets_3 : decode cX3_allSheets 3 = .ok (.istore_n 2, 1) := by decide +kernel
theorem dX3_allSheets_4 : decode cX3_allSheets 4 = .ok (.iload_n 2, 1) := by decide +kernel
theorem dX3_allSheets_5 : decode cX3_allSheets 5 = .ok (.bipush 8, 2) := by decide +kernel
theorem dX3_allSheets_7 : decode cX3_allSheets 7 = .ok (.if_icmp .ge 18, 3) := by decide +kernel
theorem dX3_allSheets_10 : decode cX3_allSheets 10 = .ok (.iload_n 1, 1) := by decide +kernel
theorem dX3_allSheets_11 : decode cX3_allSheets 11 = .ok (.aload_n 0, 1) := by decide +kernel
theorem dX3_allSheets_12 : decode cX3_allSheets 12 = .ok (.getfield 27, 3) := by decide +kernel
theorem dX3_allSheets_15 : decode cX3_allSheets 15 = .ok (.iload_n 2, 1) := by decide +kernel
theorem dX3_allSheets_16 : decode cX3_allSheets 16 = .ok (.iaload, 1) := by decide +kernel
theorem dX3_allSheets_17 : decode cX3_allSheets 17 = .ok (.iadd, 1) := by decide +kernel
theorem dX3_allSheets_18 : decode cX3_allSheets 18 = .ok (.istore_n 1, 1) := by decide +kernel
theorem dX3_allSheets_19 : decode cX3_allSheets 19 = .ok (.iinc 2 1, 3) := by decide +kernel
theorem dX3_allSheets_22 : decode cX3_allSheets 22 = .ok (.goto (-18), 3) := by decide +kernel
theorem dX3_allSheets_25 : decode cX3_allSheets 25 = .ok (.iload_n 1, 1) := by decide +kernel
theorem dX3_allSheets_26 : decode cX3_allSheets 26 = .ok (.ireturn, 1) := by decide +kernel
theorem dX4_init_0 : decode cX4_init 0 = .ok (.aload_n 0, 1) := by decide +kernel
theorem dX4_init_1 : decode cX4_init 1 = .ok (.invokespecial 3, 3) := by decide +kernel
theorem dX4_init_4 : decode cX4_init 4 = .ok (.aload_n 0, 1) := by decide +kernel
theorem dX4_init_5 : decode cX4_init 5 = .ok (.bipush 6, 2) := by decide +kernel
theorem dX4_init_7 : decode cX4_init 7 = .ok (.newarray .int, 2) := by decide +kernel
theorem dX4_init_9 : decode cX4_init 9 = .ok (.putfield 9, 3) := by decide +kernel
theorem dX4_init_12 : decode cX4_init 12 = .ok (.aload_n 0, 1) := by decide +kernel
theorem dX4_init_13 : decode cX4_init 13 = .ok (.bipush 6, 2) := by decide +kernel
theorem dX4_init_15 : decode cX4_init 15 = .ok (.newarray .int, 2) := by decide +kernel
theorem dX4_init_17 : decode cX4_init 17 = .ok (.putfield 15, 3) := by decide +kernel
theorem dX4_init_20 : decode cX4_init 20 = .ok (.return_, 1) := by decide +kernel
theorem dX4_order_0 : decode cX4_order 0 = .ok (.aload_n 0, 1) := by decide +kernel
theorem dX4_order_1 : decode cX4_order 1 = .ok (.iconst (-1), 1) := by decide +kernel
theorem dX4_order_2 : decode cX4_order 2 = .ok (.putfield 18, 3) := by decide +kernel
theorem dX4_order_5 : decode cX4_order 5 = .ok (.aload_n 0, 1) := by decide +kernel
theorem dX4_order_6 : decode cX4_order 6 = .ok (.iload_n 2, 1) := by decide +kernel
theorem dX4_order_7 : decode cX4_order 7 = .ok (.invokestatic 22, 3) := by decide +kernel
theorem dX4_order_10 : decode cX4_order 10 = .ok (.putfield 28, 3) := by decide +kernel
theorem dX4_order_13 : decode cX4_order 13 = .ok (.aload_n 0, 1) := by decide +kernel
theorem dX4_order_14 : decode cX4_order 14 = .ok (.aload_n 1, 1) := by decide +kernel
theorem dX4_order_15 : decode cX4_order 15 = .ok (.iload_n 2, 1) := by decide +kernel
theorem dX4_order_16 : decode cX4_order 16 = .ok (.iconst 0, 1) := by decide +kernel
theorem dX4_order_17 : decode cX4_order 17 = .ok (.iconst 0, 1) := by decide +kernel
theorem dX4_order_18 : decode cX4_order 18 = .ok (.invokestatic 31, 3) := by decide +kernel
theorem dX4_order_21 : decode cX4_order 21 = .ok (.return_, 1) := by decide +kernel
theorem dX4_letIn_0 : decode cX4_letIn 0 = .ok (.iload_n 2, 1) := by decide +kernel
theorem dX4_letIn_1 : decode cX4_letIn 1 = .ok (.ifCond .ne 10, 3) := by decide +kernel
theorem dX4_letIn_4 : decode cX4_letIn 4 = .ok (.aload_n 0, 1) := by decide +kernel
theorem dX4_letIn_5 : decode cX4_letIn 5 = .ok (.iload 4, 2) := by decide +kernel
theorem dX4_letIn_7 : decode cX4_letIn 7 = .ok (.invokevirtual 35, 3) := by decide +kernel
theorem dX4_letIn_10 : decode cX4_letIn 10 = .ok (.return_, 1) := by decide +kernel
theorem dX4_letIn_11 : decode cX4_letIn 11 = .ok (.aload_n 1, 1) := by decide +kernel
theorem dX4_letIn_12 : decode cX4_letIn 12 = .ok (.getfield 39, 3) := by decide +kernel
theorem dX4_letIn_15 : decode cX4_letIn 15 = .ok (.astore 5, 2) := by decide +kernel
theorem dX4_letIn_17 : decode cX4_letIn 17 = .ok (.aload 5, 2) := by decide +kernel
theorem dX4_letIn_19 : decode cX4_letIn 19 = .ok (.ifnull 13, 3) := by decide +kernel
theorem dX4_letIn_22 : decode cX4_letIn 22 = .ok (.iload_n 3, 1) := by decide +kernel
theorem dX4_letIn_23 : decode cX4_letIn 23 = .ok (.ifCond .lt 9, 3) := by decide +kernel
theorem dX4_letIn_26 : decode cX4_letIn 26 = .ok (.iload_n 3, 1) := by decide +kernel
theorem dX4_letIn_27 : decode cX4_letIn 27 = .ok (.bipush 6, 2) := by decide +kernel
theorem dX4_letIn_29 : decode cX4_letIn 29 = .ok (.if_icmp .lt 4, 3) := by decide +kernel
theorem dX4_letIn_32 : decode cX4_letIn 32 = .ok (.return_, 1) := by decide +kernel
theorem dX4_letIn_33 : decode cX4_letIn 33 = .ok (.iconst 0, 1) := by decide +kernel
theorem dX4_letIn_34 : decode cX4_letIn 34 = .ok (.istore 6, 2) := by decide +kernel
theorem dX4_letIn_36 : decode cX4_letIn 36 = .ok (.iload 6, 2) := by decide +kernel
theorem dX4_letIn_38 : decode cX4_letIn 38 = .ok (.bipush 8, 2) := by decide +kernel
theorem dX4_letIn_40 : decode cX4_letIn 40 = .ok (.if_icmp .ge 80, 3) := by decide +kernel
theorem dX4_letIn_43 : decode cX4_letIn 43 = .ok (.iload_n 2, 1) := by decide +kernel
theorem dX4_letIn_44 : decode cX4_letIn 44 = .ok (.iconst 1, 1) := by decide +kernel
theorem dX4_letIn_45 : decode cX4_letIn 45 = .ok (.iload 6, 2) := by decide +kernel
theorem dX4_letIn_47 : decode cX4_letIn 47 = .ok (.ishl, 1) := by decide +kernel
theorem dX4_letIn_48 : decode cX4_letIn 48 = .ok (.iand, 1) := by decide +kernel
theorem dX4_letIn_49 : decode cX4_letIn 49 = .ok (.ifCond .eq 65, 3) := by decide +kernel
theorem dX4_letIn_52 : decode cX4_letIn 52 = .ok (.aload 5, 2) := by decide +kernel
theorem dX4_letIn_54 : decode cX4_letIn 54 = .ok (.aload_n 1, 1) := by decide +kernel
theorem dX4_letIn_55 : decode cX4_letIn 55 = .ok (.invokevirtual 45, 3) := by decide +kernel
theorem dX4_letIn_58 : decode cX4_letIn 58 = .ok (.aload 5, 2) := by decide +kernel
theorem dX4_letIn_60 : decode cX4_letIn 60 = .ok (.iload 6, 2) := by decide +kernel
theorem dX4_letIn_62 : decode cX4_letIn 62 = .ok (.invokevirtual 49, 3) := by decide +kernel
theorem dX4_letIn_65 : decode cX4_letIn 65 = .ok (.aload_n 0, 1) := by decide +kernel
theorem dX4_letIn_66 : decode cX4_letIn 66 = .ok (.getfield 15, 3) := by decide +kernel
theorem dX4_letIn_69 : decode cX4_letIn 69 = .ok (.iload_n 3, 1) := by decide +kernel
theorem dX4_letIn_70 : decode cX4_letIn 70 = .ok (.iload 6, 2) := by decide +kernel
theorem dX4_letIn_72 : decode cX4_letIn 72 = .ok (.iastore, 1) := by decide +kernel
theorem dX4_letIn_73 : decode cX4_letIn 73 = .ok (.aload 5, 2) := by decide +kernel
theorem dX4_letIn_75 : decode cX4_letIn 75 = .ok (.getfield 52, 3) := by decide +kernel
theorem dX4_letIn_78 : decode cX4_letIn 78 = .ok (.iload 6, 2) := by decide +kernel
theorem dX4_letIn_80 : decode cX4_letIn 80 = .ok (.aload 5, 2) := by decide +kernel
theorem dX4_letIn_82 : decode cX4_letIn 82 = .ok (.iload 6, 2) := by decide +kernel
theorem dX4_letIn_84 : decode cX4_letIn 84 = .ok (.invokevirtual 56, 3) := by decide +kernel
theorem dX4_letIn_87 : decode cX4_letIn 87 = .ok (.invokevirtual 59, 3) := by decide +kernel
theorem dX4_letIn_90 : decode cX4_letIn 90 = .ok (.istore 7, 2) := by decide +kernel
theorem dX4_letIn_92 : decode cX4_letIn 92 = .ok (.aload_n 0, 1) := by decide +kernel
theorem dX4_letIn_93 : decode cX4_letIn 93 = .ok (.aload 5, 2) := by decide +kernel
theorem dX4_letIn_95 : decode cX4_letIn 95 = .ok (.iload_n 2, 1) := by decide +kernel
theorem dX4_letIn_96 : decode cX4_letIn 96 = .ok (.iconst 1, 1) := by decide +kernel
theorem dX4_letIn_97 : decode cX4_letIn 97 = .ok (.iload 6, 2) := by decide +kernel
theorem dX4_letIn_99 : decode cX4_letIn 99 = .ok (.ishl, 1) := by decide +kernel
theorem dX4_letIn_100 : decode cX4_letIn 100 = .ok (.iconst (-1), 1) := by decide +kernel
theorem dX4_letIn_101 : decode cX4_letIn 101 = .ok (.ixor, 1) := by decide +kernel
theorem dX4_letIn_102 : decode cX4_letIn 102 = .ok (.iand, 1) := by decide +kernel
theorem dX4_letIn_103 : decode cX4_letIn 103 = .ok (.iload_n 3, 1) := by decide +kernel
theorem dX4_letIn_104 : decode cX4_letIn 104 = .ok (.iconst 1, 1) := by decide +kernel
theorem dX4_letIn_105 : decode cX4_letIn 105 = .ok (.iadd, 1) := by decide +kernel
theorem dX4_letIn_106 : decode cX4_letIn 106 = .ok (.iload 4, 2) := by decide +kernel
theorem dX4_letIn_108 : decode cX4_letIn 108 = .ok (.iload 7, 2) := by decide +kernel
theorem dX4_letIn_110 : decode cX4_letIn 110 = .ok (.iadd, 1) := by decide +kernel
theorem dX4_letIn_111 : decode cX4_letIn 111 = .ok (.invokestatic 31, 3) := by decide +kernel
theorem dX4_letIn_114 : decode cX4_letIn 114 = .ok (.iinc 6 1, 3) := by decide +kernel
theorem dX4_letIn_117 : decode cX4_letIn 117 = .ok (.goto (-81), 3) := by decide +kernel
theorem dX4_letIn_120 : decode cX4_letIn 120 = .ok (.return_, 1) := by decide +kernel
theorem dX4_keepIfBetter_0 : decode cX4_keepIfBetter 0 = .ok (.iload_n 1, 1) := by decide +kernel
theorem dX4_keepIfBetter_1 : decode cX4_keepIfBetter 1 = .ok (.aload_n 0, 1) := by decide +kernel
theorem dX4_keepIfBetter_2 : decode cX4_keepIfBetter 2 = .ok (.getfield 18, 3) := by decide +kernel
theorem dX4_keepIfBetter_5 : decode cX4_keepIfBetter 5 = .ok (.if_icmp .le 23, 3) := by decide +kernel
theorem dX4_keepIfBetter_8 : decode cX4_keepIfBetter 8 = .ok (.aload_n 0, 1) := by decide +kernel
theorem dX4_keepIfBetter_9 : decode cX4_keepIfBetter 9 = .ok (.iload_n 1, 1) := by decide +kernel
theorem dX4_keepIfBetter_10 : decode cX4_keepIfBetter 10 = .ok (.putfield 18, 3) := by decide +kernel
theorem dX4_keepIfBetter_13 : decode cX4_keepIfBetter 13 = .ok (.aload_n 0, 1) := by decide +kernel
theorem dX4_keepIfBetter_14 : decode cX4_keepIfBetter 14 = .ok (.getfield 15, 3) := by decide +kernel
theorem dX4_keepIfBetter_17 : decode cX4_keepIfBetter 17 = .ok (.iconst 0, 1) := by decide +kernel
theorem dX4_keepIfBetter_18 : decode cX4_keepIfBetter 18 = .ok (.aload_n 0, 1) := by decide +kernel
theorem dX4_keepIfBetter_19 : decode cX4_keepIfBetter 19 = .ok (.getfield 9, 3) := by decide +kernel
theorem dX4_keepIfBetter_22 : decode cX4_keepIfBetter 22 = .ok (.iconst 0, 1) := by decide +kernel
theorem dX4_keepIfBetter_23 : decode cX4_keepIfBetter 23 = .ok (.bipush 6, 2) := by decide +kernel
theorem dX4_keepIfBetter_25 : decode cX4_keepIfBetter 25 = .ok (.invokestatic 65, 3) := by decide +kernel
theorem dX4_keepIfBetter_28 : decode cX4_keepIfBetter 28 = .ok (.return_, 1) := by decide +kernel
theorem dX4_guestAt_0 : decode cX4_guestAt 0 = .ok (.iload_n 1, 1) := by decide +kernel
theorem dX4_guestAt_1 : decode cX4_guestAt 1 = .ok (.ifCond .lt 26, 3) := by decide +kernel
theorem dX4_guestAt_4 : decode cX4_guestAt 4 = .ok (.iload_n 1, 1) := by decide +kernel
theorem dX4_guestAt_5 : decode cX4_guestAt 5 = .ok (.aload_n 0, 1) := by decide +kernel
theorem dX4_guestAt_6 : decode cX4_guestAt 6 = .ok (.getfield 28, 3) := by decide +kernel
theorem dX4_guestAt_9 : decode cX4_guestAt 9 = .ok (.if_icmp .ge 18, 3) := by decide +kernel
theorem dX4_guestAt_12 : decode cX4_guestAt 12 = .ok (.iload_n 1, 1) := by decide +kernel
theorem dX4_guestAt_13 : decode cX4_guestAt 13 = .ok (.bipush 6, 2) := by decide +kernel
theorem dX4_guestAt_15 : decode cX4_guestAt 15 = .ok (.if_icmp .ge 12, 3) := by decide +kernel
theorem dX4_guestAt_18 : decode cX4_guestAt 18 = .ok (.aload_n 0, 1) := by decide +kernel
theorem dX4_guestAt_19 : decode cX4_guestAt 19 = .ok (.getfield 9, 3) := by decide +kernel
theorem dX4_guestAt_22 : decode cX4_guestAt 22 = .ok (.iload_n 1, 1) := by decide +kernel
theorem dX4_guestAt_23 : decode cX4_guestAt 23 = .ok (.iaload, 1) := by decide +kernel
theorem dX4_guestAt_24 : decode cX4_guestAt 24 = .ok (.goto 5, 3) := by decide +kernel
theorem dX4_guestAt_27 : decode cX4_guestAt 27 = .ok (.bipush (-6), 2) := by decide +kernel
theorem dX4_guestAt_29 : decode cX4_guestAt 29 = .ok (.ireturn, 1) := by decide +kernel
theorem dX5_init_0 : decode cX5_init 0 = .ok (.aload_n 0, 1) := by decide +kernel
theorem dX5_init_1 : decode cX5_init 1 = .ok (.invokespecial 3, 3) := by decide +kernel
theorem dX5_init_4 : decode cX5_init 4 = .ok (.aload_n 0, 1) := by decide +kernel
theorem dX5_init_5 : decode cX5_init 5 = .ok (.new 9, 3) := by decide +kernel
theorem dX5_init_8 : decode cX5_init 8 = .ok (.dup, 1) := by decide +kernel
theorem dX5_init_9 : decode cX5_init 9 = .ok (.invokespecial 11, 3) := by decide +kernel
theorem dX5_init_12 : decode cX5_init 12 = .ok (.putfield 12, 3) := by decide +kernel
theorem dX5_init_15 : decode cX5_init 15 = .ok (.aload_n 0, 1) := by decide +kernel
theorem dX5_init_16 : decode cX5_init 16 = .ok (.new 9, 3) := by decide +kernel
theorem dX5_init_19 : decode cX5_init 19 = .ok (.dup, 1) := by decide +kernel
theorem dX5_init_20 : decode cX5_init 20 = .ok (.invokespecial 11, 3) := by decide +kernel
theorem dX5_init_23 : decode cX5_init 23 = .ok (.putfield 16, 3) := by decide +kernel
theorem dX5_init_26 : decode cX5_init 26 = .ok (.aload_n 0, 1) := by decide +kernel
theorem dX5_init_27 : decode cX5_init 27 = .ok (.new 9, 3) := by decide +kernel
theorem dX5_init_30 : decode cX5_init 30 = .ok (.dup, 1) := by decide +kernel
theorem dX5_init_31 : decode cX5_init 31 = .ok (.invokespecial 11, 3) := by decide +kernel
theorem dX5_init_34 : decode cX5_init 34 = .ok (.putfield 19, 3) := by decide +kernel
theorem dX5_init_37 : decode cX5_init 37 = .ok (.aload_n 0, 1) := by decide +kernel
theorem dX5_init_38 : decode cX5_init 38 = .ok (.new 22, 3) := by decide +kernel
theorem dX5_init_41 : decode cX5_init 41 = .ok (.dup, 1) := by decide +kernel
theorem dX5_init_42 : decode cX5_init 42 = .ok (.invokespecial 24, 3) := by decide +kernel
theorem dX5_init_45 : decode cX5_init 45 = .ok (.putfield 25, 3) := by decide +kernel
theorem dX5_init_48 : decode cX5_init 48 = .ok (.aload_n 0, 1) := by decide +kernel
theorem dX5_init_49 : decode cX5_init 49 = .ok (.new 29, 3) := by decide +kernel
theorem dX5_init_52 : decode cX5_init 52 = .ok (.dup, 1) := by decide +kernel
theorem dX5_init_53 : decode cX5_init 53 = .ok (.invokespecial 31, 3) := by decide +kernel
theorem dX5_init_56 : decode cX5_init 56 = .ok (.putfield 32, 3) := by decide +kernel
theorem dX5_init_59 : decode cX5_init 59 = .ok (.aload_n 0, 1) := by decide +kernel
theorem dX5_init_60 : decode cX5_init 60 = .ok (.new 36, 3) := by decide +kernel
theorem dX5_init_63 : decode cX5_init 63 = .ok (.dup, 1) := by decide +kernel
theorem dX5_init_64 : decode cX5_init 64 = .ok (.invokespecial 38, 3) := by decide +kernel
theorem dX5_init_67 : decode cX5_init 67 = .ok (.putfield 39, 3) := by decide +kernel
theorem dX5_init_70 : decode cX5_init 70 = .ok (.aload_n 0, 1) := by decide +kernel
theorem dX5_init_71 : decode cX5_init 71 = .ok (.bipush 48, 2) := by decide +kernel
theorem dX5_init_73 : decode cX5_init 73 = .ok (.newarray .int, 2) := by decide +kernel
theorem dX5_init_75 : decode cX5_init 75 = .ok (.putfield 43, 3) := by decide +kernel
theorem dX5_init_78 : decode cX5_init 78 = .ok (.new 47, 3) := by decide +kernel
theorem dX5_init_81 : decode cX5_init 81 = .ok (.dup, 1) := by decide +kernel
theorem dX5_init_82 : decode cX5_init 82 = .ok (.aload_n 0, 1) := by decide +kernel
theorem dX5_init_83 : decode cX5_init 83 = .ok (.getfield 12, 3) := by decide +kernel
theorem dX5_init_86 : decode cX5_init 86 = .ok (.aconst_null, 1) := by decide +kernel
theorem dX5_init_87 : decode cX5_init 87 = .ok (.invokespecial 49, 3) := by decide +kernel
theorem dX5_init_90 : decode cX5_init 90 = .ok (.astore_n 1, 1) := by decide +kernel
theorem dX5_init_91 : decode cX5_init 91 = .ok (.iconst 0, 1) := by decide +kernel
theorem dX5_init_92 : decode cX5_init 92 = .ok (.istore_n 2, 1) := by decide +kernel
theorem dX5_init_93 : decode cX5_init 93 = .ok (.iload_n 2, 1) := by decide +kernel
theorem dX5_init_94 : decode cX5_init 94 = .ok (.bipush 8, 2) := by decide +kernel
theorem dX5_init_96 : decode cX5_init 96 = .ok (.if_icmp .ge 22, 3) := by decide +kernel
theorem dX5_init_99 : decode cX5_init 99 = .ok (.new 47, 3) := by decide +kernel
theorem dX5_init_102 : decode cX5_init 102 = .ok (.dup, 1) := by decide +kernel
theorem dX5_init_103 : decode cX5_init 103 = .ok (.aload_n 0, 1) := by decide +kernel
theorem dX5_init_104 : decode cX5_init 104 = .ok (.getfield 12, 3) := by decide +kernel
theorem dX5_init_107 : decode cX5_init 107 = .ok (.aload_n 1, 1) := by decide +kernel
theorem dX5_init_108 : decode cX5_init 108 = .ok (.invokespecial 49, 3) := by decide +kernel
theorem dX5_init_111 : decode cX5_init 111 = .ok (.astore_n 1, 1) := by decide +kernel
theorem dX5_init_112 : decode cX5_init 112 = .ok (.iinc 2 1, 3) := by decide +kernel
theorem dX5_init_115 : decode cX5_init 115 = .ok (.goto (-22), 3) := by decide +kernel
theorem dX5_init_118 : decode cX5_init 118 = .ok (.aload_n 0, 1) := by decide +kernel
theorem dX5_init_119 : decode cX5_init 119 = .ok (.aload_n 1, 1) := by decide +kernel
theorem dX5_init_120 : decode cX5_init 120 = .ok (.putfield 52, 3) := by decide +kernel
theorem dX5_init_123 : decode cX5_init 123 = .ok (.return_, 1) := by decide +kernel
theorem dX5_beds_0 : decode cX5_beds 0 = .ok (.iload_n 1, 1) := by decide +kernel
theorem dX5_beds_1 : decode cX5_beds 1 = .ok (.iconst 2, 1) := by decide +kernel
theorem dX5_beds_2 : decode cX5_beds 2 = .ok (.if_icmp .lt 9, 3) := by decide +kernel
theorem dX5_beds_5 : decode cX5_beds 5 = .ok (.iload_n 1, 1) := by decide +kernel
theorem dX5_beds_6 : decode cX5_beds 6 = .ok (.bipush 8, 2) := by decide +kernel
theorem dX5_beds_8 : decode cX5_beds 8 = .ok (.if_icmp .le 6, 3) := by decide +kernel
theorem dX5_beds_11 : decode cX5_beds 11 = .ok (.bipush (-2), 2) := by decide +kernel
theorem dX5_beds_13 : decode cX5_beds 13 = .ok (.ireturn, 1) := by decide +kernel
theorem dX5_beds_14 : decode cX5_beds 14 = .ok (.aload_n 0, 1) := by decide +kernel
theorem dX5_beds_15 : decode cX5_beds 15 = .ok (.getfield 12, 3) := by decide +kernel
theorem dX5_beds_18 : decode cX5_beds 18 = .ok (.getfield 56, 3) := by decide +kernel
theorem dX5_beds_21 : decode cX5_beds 21 = .ok (.istore_n 2, 1) := by decide +kernel
theorem dX5_beds_22 : decode cX5_beds 22 = .ok (.aload_n 0, 1) := by decide +kernel
theorem dX5_beds_23 : decode cX5_beds 23 = .ok (.getfield 12, 3) := by decide +kernel
theorem dX5_beds_26 : decode cX5_beds 26 = .ok (.iload_n 1, 1) := by decide +kernel
theorem dX5_beds_27 : decode cX5_beds 27 = .ok (.invokevirtual 60, 3) := by decide +kernel
theorem dX5_beds_30 : decode cX5_beds 30 = .ok (.iload_n 2, 1) := by decide +kernel
theorem dX5_beds_31 : decode cX5_beds 31 = .ok (.ireturn, 1) := by decide +kernel
theorem dX5_worth_0 : decode cX5_worth 0 = .ok (.iload_n 1, 1) := by decide +kernel
theorem dX5_worth_1 : decode cX5_worth 1 = .ok (.invokestatic 64, 3) := by decide +kernel
theorem dX5_worth_4 : decode cX5_worth 4 = .ok (.ifCond .eq 11, 3) := by decide +kernel
theorem dX5_worth_7 : decode cX5_worth 7 = .ok (.aload_n 0, 1) := by decide +kernel
theorem dX5_worth_8 : decode cX5_worth 8 = .ok (.iload_n 2, 1) := by decide +kernel
theorem dX5_worth_9 : decode cX5_worth 9 = .ok (.invokevirtual 68, 3) := by decide +kernel
theorem dX5_worth_12 : decode cX5_worth 12 = .ok (.ifCond .ne 5, 3) := by decide +kernel
theorem dX5_worth_15 : decode cX5_worth 15 = .ok (.iconst (-1), 1) := by decide +kernel
theorem dX5_worth_16 : decode cX5_worth 16 = .ok (.ireturn, 1) := by decide +kernel
theorem dX5_worth_17 : decode cX5_worth 17 = .ok (.iload_n 3, 1) := by decide +kernel
theorem dX5_worth_18 : decode cX5_worth 18 = .ok (.ifCond .lt 9, 3) := by decide +kernel
theorem dX5_worth_21 : decode cX5_worth 21 = .ok (.iload_n 3, 1) := by decide +kernel
theorem dX5_worth_22 : decode cX5_worth 22 = .ok (.bipush 99, 2) := by decide +kernel
theorem dX5_worth_24 : decode cX5_worth 24 = .ok (.if_icmp .le 6, 3) := by decide +kernel
theorem dX5_worth_27 : decode cX5_worth 27 = .ok (.bipush (-2), 2) := by decide +kernel
theorem dX5_worth_29 : decode cX5_worth 29 = .ok (.ireturn, 1) := by decide +kernel
theorem dX5_worth_30 : decode cX5_worth 30 = .ok (.aload_n 0, 1) := by decide +kernel
theorem dX5_worth_31 : decode cX5_worth 31 = .ok (.getfield 12, 3) := by decide +kernel
theorem dX5_worth_34 : decode cX5_worth 34 = .ok (.iload_n 1, 1) := by decide +kernel
theorem dX5_worth_35 : decode cX5_worth 35 = .ok (.iload_n 2, 1) := by decide +kernel
theorem dX5_worth_36 : decode cX5_worth 36 = .ok (.invokevirtual 71, 3) := by decide +kernel
theorem dX5_worth_39 : decode cX5_worth 39 = .ok (.istore 4, 2) := by decide +kernel
theorem dX5_worth_41 : decode cX5_worth 41 = .ok (.aload_n 0, 1) := by decide +kernel
theorem dX5_worth_42 : decode cX5_worth 42 = .ok (.getfield 12, 3) := by decide +kernel
theorem dX5_worth_45 : decode cX5_worth 45 = .ok (.iload_n 1, 1) := by decide +kernel
theorem dX5_worth_46 : decode cX5_worth 46 = .ok (.iload_n 2, 1) := by decide +kernel
theorem dX5_worth_47 : decode cX5_worth 47 = .ok (.iload_n 3, 1) := by decide +kernel
theorem dX5_worth_48 : decode cX5_worth 48 = .ok (.invokevirtual 75, 3) := by decide +kernel
theorem dX5_worth_51 : decode cX5_worth 51 = .ok (.iload 4, 2) := by decide +kernel
theorem dX5_worth_53 : decode cX5_worth 53 = .ok (.ireturn, 1) := by decide +kernel
theorem dX5_rule_0 : decode cX5_rule 0 = .ok (.iload_n 1, 1) := by decide +kernel
theorem dX5_rule_1 : decode cX5_rule 1 = .ok (.ifCond .lt 8, 3) := by decide +kernel
theorem dX5_rule_4 : decode cX5_rule 4 = .ok (.iload_n 1, 1) := by decide +kernel
theorem dX5_rule_5 : decode cX5_rule 5 = .ok (.iconst 4, 1) := by decide +kernel
theorem dX5_rule_6 : decode cX5_rule 6 = .ok (.if_icmp .lt 6, 3) := by decide +kernel
theorem dX5_rule_9 : decode cX5_rule 9 = .ok (.bipush (-2), 2) := by decide +kernel
theorem dX5_rule_11 : decode cX5_rule 11 = .ok (.ireturn, 1) := by decide +kernel
theorem dX5_rule_12 : decode cX5_rule 12 = .ok (.aload_n 0, 1) := by decide +kernel
theorem dX5_rule_13 : decode cX5_rule 13 = .ok (.getfield 12, 3) := by decide +kernel
theorem dX5_rule_16 : decode cX5_rule 16 = .ok (.getfield 79, 3) := by decide +kernel
theorem dX5_rule_19 : decode cX5_rule 19 = .ok (.istore_n 2, 1) := by decide +kernel
theorem dX5_rule_20 : decode cX5_rule 20 = .ok (.aload_n 0, 1) := by decide +kernel
theorem dX5_rule_21 : decode cX5_rule 21 = .ok (.getfield 12, 3) := by decide +kernel
theorem dX5_rule_24 : decode cX5_rule 24 = .ok (.iload_n 1, 1) := by decide +kernel
theorem dX5_rule_25 : decode cX5_rule 25 = .ok (.putfield 79, 3) := by decide +kernel
theorem dX5_rule_28 : decode cX5_rule 28 = .ok (.iload_n 2, 1) := by decide +kernel
theorem dX5_rule_29 : decode cX5_rule 29 = .ok (.ireturn, 1) := by decide +kernel
theorem dX5_say_0 : decode cX5_say 0 = .ok (.iload_n 1, 1) := by decide +kernel
theorem dX5_say_1 : decode cX5_say 1 = .ok (.bipush 33, 2) := by decide +kernel
theorem dX5_say_3 : decode cX5_say 3 = .ok (.if_icmp .lt 9, 3) := by decide +kernel
theorem dX5_say_6 : decode cX5_say 6 = .ok (.iload_n 1, 1) := by decide +kernel
theorem dX5_say_7 : decode cX5_say 7 = .ok (.bipush 126, 2) := by decide +kernel
theorem dX5_say_9 : decode cX5_say 9 = .ok (.if_icmp .le 6, 3) := by decide +kernel
theorem dX5_say_12 : decode cX5_say 12 = .ok (.bipush (-2), 2) := by decide +kernel
theorem dX5_say_14 : decode cX5_say 14 = .ok (.ireturn, 1) := by decide +kernel
theorem dX5_say_15 : decode cX5_say 15 = .ok (.aload_n 0, 1) := by decide +kernel
theorem dX5_say_16 : decode cX5_say 16 = .ok (.getfield 25, 3) := by decide +kernel
theorem dX5_say_19 : decode cX5_say 19 = .ok (.invokevirtual 82, 3) := by decide +kernel
theorem dX5_say_22 : decode cX5_say 22 = .ok (.ifCond .eq 6, 3) := by decide +kernel
theorem dX5_say_25 : decode cX5_say 25 = .ok (.bipush (-4), 2) := by decide +kernel
theorem dX5_say_27 : decode cX5_say 27 = .ok (.ireturn, 1) := by decide +kernel
theorem dX5_say_28 : decode cX5_say 28 = .ok (.aload_n 0, 1) := by decide +kernel
theorem dX5_say_29 : decode cX5_say 29 = .ok (.getfield 25, 3) := by decide +kernel
theorem dX5_say_32 : decode cX5_say 32 = .ok (.iload_n 1, 1) := by decide +kernel
theorem dX5_say_33 : decode cX5_say 33 = .ok (.invokevirtual 86, 3) := by decide +kernel
theorem dX5_say_36 : decode cX5_say 36 = .ok (.aload_n 0, 1) := by decide +kernel
theorem dX5_say_37 : decode cX5_say 37 = .ok (.getfield 25, 3) := by decide +kernel
theorem dX5_say_40 : decode cX5_say 40 = .ok (.getfield 89, 3) := by decide +kernel
theorem dX5_say_43 : decode cX5_say 43 = .ok (.ireturn, 1) := by decide +kernel
theorem dX5_wipe_0 : decode cX5_wipe 0 = .ok (.aload_n 0, 1) := by decide +kernel
theorem dX5_wipe_1 : decode cX5_wipe 1 = .ok (.getfield 25, 3) := by decide +kernel
theorem dX5_wipe_4 : decode cX5_wipe 4 = .ok (.getfield 89, 3) := by decide +kernel
theorem dX5_wipe_7 : decode cX5_wipe 7 = .ok (.istore_n 1, 1) := by decide +kernel
theorem dX5_wipe_8 : decode cX5_wipe 8 = .ok (.aload_n 0, 1) := by decide +kernel
theorem dX5_wipe_9 : decode cX5_wipe 9 = .ok (.getfield 25, 3) := by decide +kernel
theorem dX5_wipe_12 : decode cX5_wipe 12 = .ok (.iconst 0, 1) := by decide +kernel
theorem dX5_wipe_13 : decode cX5_wipe 13 = .ok (.putfield 89, 3) := by decide +kernel
theorem dX5_wipe_16 : decode cX5_wipe 16 = .ok (.iload_n 1, 1) := by decide +kernel
theorem dX5_wipe_17 : decode cX5_wipe 17 = .ok (.ireturn, 1) := by decide +kernel
theorem dX5_fault_0 : decode cX5_fault 0 = .ok (.aload_n 0, 1) := by decide +kernel
theorem dX5_fault_1 : decode cX5_fault 1 = .ok (.getfield 25, 3) := by decide +kernel
theorem dX5_fault_4 : decode cX5_fault 4 = .ok (.invokevirtual 92, 3) := by decide +kernel
theorem dX5_fault_7 : decode cX5_fault 7 = .ok (.ireturn, 1) := by decide +kernel
theorem dX5_judge_0 : decode cX5_judge 0 = .ok (.iload_n 1, 1) := by decide +kernel
theorem dX5_judge_1 : decode cX5_judge 1 = .ok (.invokestatic 96, 3) := by decide +kernel
theorem dX5_judge_4 : decode cX5_judge 4 = .ok (.ifCond .ne 6, 3) := by decide +kernel
theorem dX5_judge_7 : decode cX5_judge 7 = .ok (.bipush (-2), 2) := by decide +kernel
theorem dX5_judge_9 : decode cX5_judge 9 = .ok (.ireturn, 1) := by decide +kernel
theorem dX5_judge_10 : decode cX5_judge 10 = .ok (.aload_n 0, 1) := by decide +kernel
theorem dX5_judge_11 : decode cX5_judge 11 = .ok (.getfield 25, 3) := by decide +kernel
theorem dX5_judge_14 : decode cX5_judge 14 = .ok (.invokevirtual 92, 3) := by decide +kernel
theorem dX5_judge_17 : decode cX5_judge 17 = .ok (.bipush (-6), 2) := by decide +kernel
theorem dX5_judge_19 : decode cX5_judge 19 = .ok (.if_icmp .eq 6, 3) := by decide +kernel
theorem dX5_judge_22 : decode cX5_judge 22 = .ok (.bipush (-5), 2) := by decide +kernel
theorem dX5_judge_24 : decode cX5_judge 24 = .ok (.ireturn, 1) := by decide +kernel
theorem dX5_judge_25 : decode cX5_judge 25 = .ok (.aload_n 0, 1) := by decide +kernel
theorem dX5_judge_26 : decode cX5_judge 26 = .ok (.getfield 25, 3) := by decide +kernel
theorem dX5_judge_29 : decode cX5_judge 29 = .ok (.aload_n 0, 1) := by decide +kernel
theorem dX5_judge_30 : decode cX5_judge 30 = .ok (.getfield 25, 3) := by decide +kernel
theorem dX5_judge_33 : decode cX5_judge 33 = .ok (.getfield 89, 3) := by decide +kernel
theorem dX5_judge_36 : decode cX5_judge 36 = .ok (.invokevirtual 99, 3) := by decide +kernel
theorem dX5_judge_39 : decode cX5_judge 39 = .ok (.ifCond .eq 6, 3) := by decide +kernel
theorem dX5_judge_42 : decode cX5_judge 42 = .ok (.bipush (-3), 2) := by decide +kernel
theorem dX5_judge_44 : decode cX5_judge 44 = .ok (.ireturn, 1) := by decide +kernel
theorem dX5_judge_45 : decode cX5_judge 45 = .ok (.aload_n 0, 1) := by decide +kernel
theorem dX5_judge_46 : decode cX5_judge 46 = .ok (.getfield 52, 3) := by decide +kernel
theorem dX5_judge_49 : decode cX5_judge 49 = .ok (.aload_n 0, 1) := by decide +kernel
theorem dX5_judge_50 : decode cX5_judge 50 = .ok (.getfield 12, 3) := by decide +kernel
theorem dX5_judge_53 : decode cX5_judge 53 = .ok (.getfield 79, 3) := by decide +kernel
theorem dX5_judge_56 : decode cX5_judge 56 = .ok (.invokevirtual 102, 3) := by decide +kernel
theorem dX5_judge_59 : decode cX5_judge 59 = .ok (.aload_n 0, 1) := by decide +kernel
theorem dX5_judge_60 : decode cX5_judge 60 = .ok (.getfield 52, 3) := by decide +kernel
theorem dX5_judge_63 : decode cX5_judge 63 = .ok (.aload_n 0, 1) := by decide +kernel
theorem dX5_judge_64 : decode cX5_judge 64 = .ok (.getfield 25, 3) := by decide +kernel
theorem dX5_judge_67 : decode cX5_judge 67 = .ok (.iconst 0, 1) := by decide +kernel
theorem dX5_judge_68 : decode cX5_judge 68 = .ok (.aload_n 0, 1) := by decide +kernel
theorem dX5_judge_69 : decode cX5_judge 69 = .ok (.getfield 25, 3) := by decide +kernel
theorem dX5_judge_72 : decode cX5_judge 72 = .ok (.getfield 89, 3) := by decide +kernel
theorem dX5_judge_75 : decode cX5_judge 75 = .ok (.invokevirtual 105, 3) := by decide +kernel
theorem dX5_judge_78 : decode cX5_judge 78 = .ok (.istore_n 2, 1) := by decide +kernel
theorem dX5_judge_79 : decode cX5_judge 79 = .ok (.iload_n 2, 1) := by decide +kernel
theorem dX5_judge_80 : decode cX5_judge 80 = .ok (.bipush (-6), 2) := by decide +kernel
theorem dX5_judge_82 : decode cX5_judge 82 = .ok (.if_icmp .ne 6, 3) := by decide +kernel
theorem dX5_judge_85 : decode cX5_judge 85 = .ok (.bipush (-6), 2) := by decide +kernel
theorem dX5_judge_87 : decode cX5_judge 87 = .ok (.ireturn, 1) := by decide +kernel
theorem dX5_judge_88 : decode cX5_judge 88 = .ok (.iload_n 1, 1) := by decide +kernel
theorem dX5_judge_89 : decode cX5_judge 89 = .ok (.ifCond .ne 7, 3) := by decide +kernel
theorem dX5_judge_92 : decode cX5_judge 92 = .ok (.iload_n 2, 1) := by decide +kernel
theorem dX5_judge_93 : decode cX5_judge 93 = .ok (.goto 18, 3) := by decide +kernel
theorem dX5_judge_96 : decode cX5_judge 96 = .ok (.aload_n 0, 1) := by decide +kernel
theorem dX5_judge_97 : decode cX5_judge 97 = .ok (.getfield 52, 3) := by decide +kernel
theorem dX5_judge_100 : decode cX5_judge 100 = .ok (.aload_n 0, 1) := by decide +kernel
theorem dX5_judge_101 : decode cX5_judge 101 = .ok (.getfield 25, 3) := by decide +kernel
theorem dX5_judge_104 : decode cX5_judge 104 = .ok (.iload_n 2, 1) := by decide +kernel
theorem dX5_judge_105 : decode cX5_judge 105 = .ok (.invokevirtual 109, 3) := by decide +kernel
theorem dX5_judge_108 : decode cX5_judge 108 = .ok (.invokevirtual 113, 3) := by decide +kernel
theorem dX5_judge_111 : decode cX5_judge 111 = .ok (.ireturn, 1) := by decide +kernel
theorem dX5_bed_0 : decode cX5_bed 0 = .ok (.iload_n 1, 1) := by decide +kernel
theorem dX5_bed_1 : decode cX5_bed 1 = .ok (.invokestatic 64, 3) := by decide +kernel
theorem dX5_bed_4 : decode cX5_bed 4 = .ok (.ifCond .ne 5, 3) := by decide +kernel
theorem dX5_bed_7 : decode cX5_bed 7 = .ok (.iconst (-1), 1) := by decide +kernel
theorem dX5_bed_8 : decode cX5_bed 8 = .ok (.ireturn, 1) := by decide +kernel
theorem dX5_bed_9 : decode cX5_bed 9 = .ok (.aload_n 0, 1) := by decide +kernel
theorem dX5_bed_10 : decode cX5_bed 10 = .ok (.iload_n 2, 1) := by decide +kernel
theorem dX5_bed_11 : decode cX5_bed 11 = .ok (.invokevirtual 116, 3) := by decide +kernel
theorem dX5_bed_14 : decode cX5_bed 14 = .ok (.ifCond .ne 6, 3) := by decide +kernel
theorem dX5_bed_17 : decode cX5_bed 17 = .ok (.bipush (-2), 2) := by decide +kernel
theorem dX5_bed_19 : decode cX5_bed 19 = .ok (.ireturn, 1) := by decide +kernel
theorem dX5_bed_20 : decode cX5_bed 20 = .ok (.aload_n 0, 1) := by decide +kernel
theorem dX5_bed_21 : decode cX5_bed 21 = .ok (.iload_n 2, 1) := by decide +kernel
theorem dX5_bed_22 : decode cX5_bed 22 = .ok (.invokevirtual 119, 3) := by decide +kernel
theorem dX5_bed_25 : decode cX5_bed 25 = .ok (.istore_n 3, 1) := by decide +kernel
theorem dX5_bed_26 : decode cX5_bed 26 = .ok (.iload_n 3, 1) := by decide +kernel
theorem dX5_bed_27 : decode cX5_bed 27 = .ok (.ifCond .eq 5, 3) := by decide +kernel
theorem dX5_bed_30 : decode cX5_bed 30 = .ok (.iload_n 3, 1) := by decide +kernel
theorem dX5_bed_31 : decode cX5_bed 31 = .ok (.ireturn, 1) := by decide +kernel
theorem dX5_bed_32 : decode cX5_bed 32 = .ok (.aload_n 0, 1) := by decide +kernel
theorem dX5_bed_33 : decode cX5_bed 33 = .ok (.getfield 52, 3) := by decide +kernel
theorem dX5_bed_36 : decode cX5_bed 36 = .ok (.iload_n 1, 1) := by decide +kernel
theorem dX5_bed_37 : decode cX5_bed 37 = .ok (.invokevirtual 122, 3) := by decide +kernel
theorem dX5_bed_40 : decode cX5_bed 40 = .ok (.istore 4, 2) := by decide +kernel
theorem dX5_bed_42 : decode cX5_bed 42 = .ok (.iload 4, 2) := by decide +kernel
theorem dX5_bed_44 : decode cX5_bed 44 = .ok (.iconst (-1), 1) := by decide +kernel
theorem dX5_bed_45 : decode cX5_bed 45 = .ok (.if_icmp .ne 8, 3) := by decide +kernel
theorem dX5_bed_48 : decode cX5_bed 48 = .ok (.bipush (-6), 2) := by decide +kernel
theorem dX5_bed_50 : decode cX5_bed 50 = .ok (.goto 5, 3) := by decide +kernel
theorem dX5_bed_53 : decode cX5_bed 53 = .ok (.iload 4, 2) := by decide +kernel
theorem dX5_bed_55 : decode cX5_bed 55 = .ok (.ireturn, 1) := by decide +kernel
theorem dX5_who_0 : decode cX5_who 0 = .ok (.aload_n 0, 1) := by decide +kernel
theorem dX5_who_1 : decode cX5_who 1 = .ok (.iload_n 1, 1) := by decide +kernel
theorem dX5_who_2 : decode cX5_who 2 = .ok (.invokevirtual 68, 3) := by decide +kernel
theorem dX5_who_5 : decode cX5_who 5 = .ok (.ifCond .ne 5, 3) := by decide +kernel
theorem dX5_who_8 : decode cX5_who 8 = .ok (.iconst (-1), 1) := by decide +kernel
theorem dX5_who_9 : decode cX5_who 9 = .ok (.ireturn, 1) := by decide +kernel
theorem dX5_who_10 : decode cX5_who 10 = .ok (.aload_n 0, 1) := by decide +kernel
theorem dX5_who_11 : decode cX5_who 11 = .ok (.iload_n 2, 1) := by decide +kernel
theorem dX5_who_12 : decode cX5_who 12 = .ok (.invokevirtual 116, 3) := by decide +kernel
theorem dX5_who_15 : decode cX5_who 15 = .ok (.ifCond .ne 6, 3) := by decide +kernel
theorem dX5_who_18 : decode cX5_who 18 = .ok (.bipush (-2), 2) := by decide +kernel
theorem dX5_who_20 : decode cX5_who 20 = .ok (.ireturn, 1) := by decide +kernel
theorem dX5_who_21 : decode cX5_who 21 = .ok (.aload_n 0, 1) := by decide +kernel
theorem dX5_who_22 : decode cX5_who 22 = .ok (.iload_n 2, 1) := by decide +kernel
theorem dX5_who_23 : decode cX5_who 23 = .ok (.invokevirtual 119, 3) := by decide +kernel
theorem dX5_who_26 : decode cX5_who 26 = .ok (.istore_n 3, 1) := by decide +kernel
theorem dX5_who_27 : decode cX5_who 27 = .ok (.iload_n 3, 1) := by decide +kernel
theorem dX5_who_28 : decode cX5_who 28 = .ok (.ifCond .eq 5, 3) := by decide +kernel
theorem dX5_who_31 : decode cX5_who 31 = .ok (.iload_n 3, 1) := by decide +kernel
theorem dX5_who_32 : decode cX5_who 32 = .ok (.ireturn, 1) := by decide +kernel
theorem dX5_who_33 : decode cX5_who 33 = .ok (.aload_n 0, 1) := by decide +kernel
theorem dX5_who_34 : decode cX5_who 34 = .ok (.getfield 52, 3) := by decide +kernel
theorem dX5_who_37 : decode cX5_who 37 = .ok (.iload_n 1, 1) := by decide +kernel
theorem dX5_who_38 : decode cX5_who 38 = .ok (.invokevirtual 125, 3) := by decide +kernel
theorem dX5_who_41 : decode cX5_who 41 = .ok (.istore 4, 2) := by decide +kernel
theorem dX5_who_43 : decode cX5_who 43 = .ok (.iload 4, 2) := by decide +kernel
theorem dX5_who_45 : decode cX5_who 45 = .ok (.iconst (-1), 1) := by decide +kernel
theorem dX5_who_46 : decode cX5_who 46 = .ok (.if_icmp .ne 8, 3) := by decide +kernel
theorem dX5_who_49 : decode cX5_who 49 = .ok (.bipush (-6), 2) := by decide +kernel
theorem dX5_who_51 : decode cX5_who 51 = .ok (.goto 5, 3) := by decide +kernel
theorem dX5_who_54 : decode cX5_who 54 = .ok (.iload 4, 2) := by decide +kernel
theorem dX5_who_56 : decode cX5_who 56 = .ok (.ireturn, 1) := by decide +kernel
theorem dX5_left_0 : decode cX5_left 0 = .ok (.aload_n 0, 1) := by decide +kernel
theorem dX5_left_1 : decode cX5_left 1 = .ok (.iload_n 1, 1) := by decide +kernel
theorem dX5_left_2 : decode cX5_left 2 = .ok (.invokevirtual 116, 3) := by decide +kernel
theorem dX5_left_5 : decode cX5_left 5 = .ok (.ifCond .ne 6, 3) := by decide +kernel
theorem dX5_left_8 : decode cX5_left 8 = .ok (.bipush (-2), 2) := by decide +kernel
theorem dX5_left_10 : decode cX5_left 10 = .ok (.ireturn, 1) := by decide +kernel
theorem dX5_left_11 : decode cX5_left 11 = .ok (.aload_n 0, 1) := by decide +kernel
theorem dX5_left_12 : decode cX5_left 12 = .ok (.iload_n 1, 1) := by decide +kernel
theorem dX5_left_13 : decode cX5_left 13 = .ok (.invokevirtual 119, 3) := by decide +kernel
theorem dX5_left_16 : decode cX5_left 16 = .ok (.istore_n 3, 1) := by decide +kernel
theorem dX5_left_17 : decode cX5_left 17 = .ok (.iload_n 3, 1) := by decide +kernel
theorem dX5_left_18 : decode cX5_left 18 = .ok (.ifCond .eq 5, 3) := by decide +kernel
theorem dX5_left_21 : decode cX5_left 21 = .ok (.iload_n 3, 1) := by decide +kernel
theorem dX5_left_22 : decode cX5_left 22 = .ok (.ireturn, 1) := by decide +kernel
theorem dX5_left_23 : decode cX5_left 23 = .ok (.iload_n 2, 1) := by decide +kernel
theorem dX5_left_24 : decode cX5_left 24 = .ok (.iconst (-1), 1) := by decide +kernel
theorem dX5_left_25 : decode cX5_left 25 = .ok (.if_icmp .ne 13, 3) := by decide +kernel
theorem dX5_left_28 : decode cX5_left 28 = .ok (.aload_n 0, 1) := by decide +kernel
theorem dX5_left_29 : decode cX5_left 29 = .ok (.getfield 52, 3) := by decide +kernel
theorem dX5_left_32 : decode cX5_left 32 = .ok (.getfield 128, 3) := by decide +kernel
theorem dX5_left_35 : decode cX5_left 35 = .ok (.goto 11, 3) := by decide +kernel
theorem dX5_left_38 : decode cX5_left 38 = .ok (.aload_n 0, 1) := by decide +kernel
theorem dX5_left_39 : decode cX5_left 39 = .ok (.getfield 52, 3) := by decide +kernel
theorem dX5_left_42 : decode cX5_left 42 = .ok (.iload_n 2, 1) := by decide +kernel
theorem dX5_left_43 : decode cX5_left 43 = .ok (.invokevirtual 131, 3) := by decide +kernel
theorem dX5_left_46 : decode cX5_left 46 = .ok (.ireturn, 1) := by decide +kernel
theorem dX5_slept_0 : decode cX5_slept 0 = .ok (.aload_n 0, 1) := by decide +kernel
theorem dX5_slept_1 : decode cX5_slept 1 = .ok (.iload_n 1, 1) := by decide +kernel
theorem dX5_slept_2 : decode cX5_slept 2 = .ok (.invokevirtual 68, 3) := by decide +kernel
theorem dX5_slept_5 : decode cX5_slept 5 = .ok (.ifCond .ne 5, 3) := by decide +kernel
theorem dX5_slept_8 : decode cX5_slept 8 = .ok (.iconst (-1), 1) := by decide +kernel
theorem dX5_slept_9 : decode cX5_slept 9 = .ok (.ireturn, 1) := by decide +kernel
theorem dX5_slept_10 : decode cX5_slept 10 = .ok (.iload_n 2, 1) := by decide +kernel
theorem dX5_slept_11 : decode cX5_slept 11 = .ok (.ifCond .lt 8, 3) := by decide +kernel
theorem dX5_slept_14 : decode cX5_slept 14 = .ok (.iload_n 2, 1) := by decide +kernel
theorem dX5_slept_15 : decode cX5_slept 15 = .ok (.iconst 2, 1) := by decide +kernel
theorem dX5_slept_16 : decode cX5_slept 16 = .ok (.if_icmp .le 6, 3) := by decide +kernel
theorem dX5_slept_19 : decode cX5_slept 19 = .ok (.bipush (-2), 2) := by decide +kernel
theorem dX5_slept_21 : decode cX5_slept 21 = .ok (.ireturn, 1) := by decide +kernel
theorem dX5_slept_22 : decode cX5_slept 22 = .ok (.aload_n 0, 1) := by decide +kernel
theorem dX5_slept_23 : decode cX5_slept 23 = .ok (.iconst (-1), 1) := by decide +kernel
theorem dX5_slept_24 : decode cX5_slept 24 = .ok (.invokevirtual 119, 3) := by decide +kernel
theorem dX5_slept_27 : decode cX5_slept 27 = .ok (.istore_n 3, 1) := by decide +kernel
theorem dX5_slept_28 : decode cX5_slept 28 = .ok (.iload_n 3, 1) := by decide +kernel
theorem dX5_slept_29 : decode cX5_slept 29 = .ok (.ifCond .eq 7, 3) := by decide +kernel
theorem dX5_slept_32 : decode cX5_slept 32 = .ok (.iload_n 3, 1) := by decide +kernel
theorem dX5_slept_33 : decode cX5_slept 33 = .ok (.goto 12, 3) := by decide +kernel
theorem dX5_slept_36 : decode cX5_slept 36 = .ok (.aload_n 0, 1) := by decide +kernel
theorem dX5_slept_37 : decode cX5_slept 37 = .ok (.getfield 52, 3) := by decide +kernel
theorem dX5_slept_40 : decode cX5_slept 40 = .ok (.iload_n 1, 1) := by decide +kernel
theorem dX5_slept_41 : decode cX5_slept 41 = .ok (.iload_n 2, 1) := by decide +kernel
theorem dX5_slept_42 : decode cX5_slept 42 = .ok (.invokevirtual 134, 3) := by decide +kernel
theorem dX5_slept_45 : decode cX5_slept 45 = .ok (.ireturn, 1) := by decide +kernel
theorem dX5_fewest_0 : decode cX5_fewest 0 = .ok (.iload_n 1, 1) := by decide +kernel
theorem dX5_fewest_1 : decode cX5_fewest 1 = .ok (.invokestatic 96, 3) := by decide +kernel
theorem dX5_fewest_4 : decode cX5_fewest 4 = .ok (.ifCond .ne 6, 3) := by decide +kernel
theorem dX5_fewest_7 : decode cX5_fewest 7 = .ok (.bipush (-2), 2) := by decide +kernel
theorem dX5_fewest_9 : decode cX5_fewest 9 = .ok (.ireturn, 1) := by decide +kernel
theorem dX5_fewest_10 : decode cX5_fewest 10 = .ok (.aload_n 0, 1) := by decide +kernel
theorem dX5_fewest_11 : decode cX5_fewest 11 = .ok (.iconst (-1), 1) := by decide +kernel
theorem dX5_fewest_12 : decode cX5_fewest 12 = .ok (.invokevirtual 119, 3) := by decide +kernel
theorem dX5_fewest_15 : decode cX5_fewest 15 = .ok (.istore_n 2, 1) := by decide +kernel
theorem dX5_fewest_16 : decode cX5_fewest 16 = .ok (.iload_n 2, 1) := by decide +kernel
theorem dX5_fewest_17 : decode cX5_fewest 17 = .ok (.ifCond .eq 5, 3) := by decide +kernel
theorem dX5_fewest_20 : decode cX5_fewest 20 = .ok (.iload_n 2, 1) := by decide +kernel
theorem dX5_fewest_21 : decode cX5_fewest 21 = .ok (.ireturn, 1) := by decide +kernel
theorem dX5_fewest_22 : decode cX5_fewest 22 = .ok (.iconst 0, 1) := by decide +kernel
theorem dX5_fewest_23 : decode cX5_fewest 23 = .ok (.istore_n 3, 1) := by decide +kernel
theorem dX5_fewest_24 : decode cX5_fewest 24 = .ok (.aload_n 0, 1) := by decide +kernel
theorem dX5_fewest_25 : decode cX5_fewest 25 = .ok (.iconst 0, 1) := by decide +kernel
theorem dX5_fewest_26 : decode cX5_fewest 26 = .ok (.invokevirtual 137, 3) := by decide +kernel
theorem dX5_fewest_29 : decode cX5_fewest 29 = .ok (.istore 4, 2) := by decide +kernel
theorem dX5_fewest_31 : decode cX5_fewest 31 = .ok (.iconst 1, 1) := by decide +kernel
theorem dX5_fewest_32 : decode cX5_fewest 32 = .ok (.istore 5, 2) := by decide +kernel
theorem dX5_fewest_34 : decode cX5_fewest 34 = .ok (.iload 5, 2) := by decide +kernel
theorem dX5_fewest_36 : decode cX5_fewest 36 = .ok (.iconst 4, 1) := by decide +kernel
theorem dX5_fewest_37 : decode cX5_fewest 37 = .ok (.if_icmp .ge 31, 3) := by decide +kernel
theorem dX5_fewest_40 : decode cX5_fewest 40 = .ok (.aload_n 0, 1) := by decide +kernel
theorem dX5_fewest_41 : decode cX5_fewest 41 = .ok (.iload 5, 2) := by decide +kernel
theorem dX5_fewest_43 : decode cX5_fewest 43 = .ok (.invokevirtual 137, 3) := by decide +kernel
theorem dX5_fewest_46 : decode cX5_fewest 46 = .ok (.istore 6, 2) := by decide +kernel
theorem dX5_fewest_48 : decode cX5_fewest 48 = .ok (.iload 6, 2) := by decide +kernel
theorem dX5_fewest_50 : decode cX5_fewest 50 = .ok (.iload 4, 2) := by decide +kernel
theorem dX5_fewest_52 : decode cX5_fewest 52 = .ok (.if_icmp .ge 10, 3) := by decide +kernel
theorem dX5_fewest_55 : decode cX5_fewest 55 = .ok (.iload 5, 2) := by decide +kernel
theorem dX5_fewest_57 : decode cX5_fewest 57 = .ok (.istore_n 3, 1) := by decide +kernel
theorem dX5_fewest_58 : decode cX5_fewest 58 = .ok (.iload 6, 2) := by decide +kernel
theorem dX5_fewest_60 : decode cX5_fewest 60 = .ok (.istore 4, 2) := by decide +kernel
theorem dX5_fewest_62 : decode cX5_fewest 62 = .ok (.iinc 5 1, 3) := by decide +kernel
theorem dX5_fewest_65 : decode cX5_fewest 65 = .ok (.goto (-31), 3) := by decide +kernel
theorem dX5_fewest_68 : decode cX5_fewest 68 = .ok (.iload_n 1, 1) := by decide +kernel
theorem dX5_fewest_69 : decode cX5_fewest 69 = .ok (.ifCond .ne 7, 3) := by decide +kernel
theorem dX5_fewest_72 : decode cX5_fewest 72 = .ok (.iload_n 3, 1) := by decide +kernel
theorem dX5_fewest_73 : decode cX5_fewest 73 = .ok (.goto 5, 3) := by decide +kernel
theorem dX5_fewest_76 : decode cX5_fewest 76 = .ok (.iload 4, 2) := by decide +kernel
theorem dX5_fewest_78 : decode cX5_fewest 78 = .ok (.ireturn, 1) := by decide +kernel
theorem dX5_when_0 : decode cX5_when 0 = .ok (.iload_n 1, 1) := by decide +kernel
theorem dX5_when_1 : decode cX5_when 1 = .ok (.invokestatic 64, 3) := by decide +kernel
theorem dX5_when_4 : decode cX5_when 4 = .ok (.ifCond .eq 22, 3) := by decide +kernel
theorem dX5_when_7 : decode cX5_when 7 = .ok (.aload_n 0, 1) := by decide +kernel
theorem dX5_when_8 : decode cX5_when 8 = .ok (.iload_n 2, 1) := by decide +kernel
theorem dX5_when_9 : decode cX5_when 9 = .ok (.invokevirtual 68, 3) := by decide +kernel
theorem dX5_when_12 : decode cX5_when 12 = .ok (.ifCond .eq 14, 3) := by decide +kernel
theorem dX5_when_15 : decode cX5_when 15 = .ok (.aload_n 0, 1) := by decide +kernel
theorem dX5_when_16 : decode cX5_when 16 = .ok (.getfield 25, 3) := by decide +kernel
theorem dX5_when_19 : decode cX5_when 19 = .ok (.iload_n 1, 1) := by decide +kernel
theorem dX5_when_20 : decode cX5_when 20 = .ok (.invokevirtual 140, 3) := by decide +kernel
theorem dX5_when_23 : decode cX5_when 23 = .ok (.ifCond .eq 5, 3) := by decide +kernel
theorem dX5_when_26 : decode cX5_when 26 = .ok (.iconst (-1), 1) := by decide +kernel
theorem dX5_when_27 : decode cX5_when 27 = .ok (.ireturn, 1) := by decide +kernel
theorem dX5_when_28 : decode cX5_when 28 = .ok (.aload_n 0, 1) := by decide +kernel
theorem dX5_when_29 : decode cX5_when 29 = .ok (.iload_n 3, 1) := by decide +kernel
theorem dX5_when_30 : decode cX5_when 30 = .ok (.invokevirtual 143, 3) := by decide +kernel
theorem dX5_when_33 : decode cX5_when 33 = .ok (.istore 4, 2) := by decide +kernel
theorem dX5_when_35 : decode cX5_when 35 = .ok (.iload 4, 2) := by decide +kernel
theorem dX5_when_37 : decode cX5_when 37 = .ok (.ifCond .eq 6, 3) := by decide +kernel
theorem dX5_when_40 : decode cX5_when 40 = .ok (.iload 4, 2) := by decide +kernel
theorem dX5_when_42 : decode cX5_when 42 = .ok (.ireturn, 1) := by decide +kernel
theorem dX5_when_43 : decode cX5_when 43 = .ok (.aload_n 0, 1) := by decide +kernel
theorem dX5_when_44 : decode cX5_when 44 = .ok (.iload_n 1, 1) := by decide +kernel
theorem dX5_when_45 : decode cX5_when 45 = .ok (.invokevirtual 146, 3) := by decide +kernel
theorem dX5_when_48 : decode cX5_when 48 = .ok (.iconst 0, 1) := by decide +kernel
theorem dX5_when_49 : decode cX5_when 49 = .ok (.istore 5, 2) := by decide +kernel
theorem dX5_when_51 : decode cX5_when 51 = .ok (.bipush (-6), 2) := by decide +kernel
theorem dX5_when_53 : decode cX5_when 53 = .ok (.istore 6, 2) := by decide +kernel
theorem dX5_when_55 : decode cX5_when 55 = .ok (.iconst 0, 1) := by decide +kernel
theorem dX5_when_56 : decode cX5_when 56 = .ok (.istore 7, 2) := by decide +kernel
theorem dX5_when_58 : decode cX5_when 58 = .ok (.iload 7, 2) := by decide +kernel
theorem dX5_when_60 : decode cX5_when 60 = .ok (.aload_n 0, 1) := by decide +kernel
theorem dX5_when_61 : decode cX5_when 61 = .ok (.getfield 25, 3) := by decide +kernel
theorem dX5_when_64 : decode cX5_when 64 = .ok (.getfield 89, 3) := by decide +kernel
theorem dX5_when_67 : decode cX5_when 67 = .ok (.if_icmp .gt 36, 3) := by decide +kernel
theorem dX5_when_70 : decode cX5_when 70 = .ok (.aload_n 0, 1) := by decide +kernel
theorem dX5_when_71 : decode cX5_when 71 = .ok (.iload 7, 2) := by decide +kernel
theorem dX5_when_73 : decode cX5_when 73 = .ok (.invokevirtual 149, 3) := by decide +kernel
theorem dX5_when_76 : decode cX5_when 76 = .ok (.iload_n 2, 1) := by decide +kernel
theorem dX5_when_77 : decode cX5_when 77 = .ok (.if_icmp .ne 20, 3) := by decide +kernel
theorem dX5_when_80 : decode cX5_when 80 = .ok (.iload 5, 2) := by decide +kernel
theorem dX5_when_82 : decode cX5_when 82 = .ok (.ifCond .ne 8, 3) := by decide +kernel
theorem dX5_when_85 : decode cX5_when 85 = .ok (.iload 7, 2) := by decide +kernel
theorem dX5_when_87 : decode cX5_when 87 = .ok (.goto 5, 3) := by decide +kernel
theorem dX5_when_90 : decode cX5_when 90 = .ok (.iload 6, 2) := by decide +kernel
theorem dX5_when_92 : decode cX5_when 92 = .ok (.istore 6, 2) := by decide +kernel
theorem dX5_when_94 : decode cX5_when 94 = .ok (.iinc 5 1, 3) := by decide +kernel
theorem dX5_when_97 : decode cX5_when 97 = .ok (.iinc 7 1, 3) := by decide +kernel
theorem dX5_when_100 : decode cX5_when 100 = .ok (.goto (-42), 3) := by decide +kernel
theorem dX5_when_103 : decode cX5_when 103 = .ok (.iload_n 3, 1) := by decide +kernel
theorem dX5_when_104 : decode cX5_when 104 = .ok (.ifCond .ne 8, 3) := by decide +kernel
theorem dX5_when_107 : decode cX5_when 107 = .ok (.iload 5, 2) := by decide +kernel
theorem dX5_when_109 : decode cX5_when 109 = .ok (.goto 5, 3) := by decide +kernel
theorem dX5_when_112 : decode cX5_when 112 = .ok (.iload 6, 2) := by decide +kernel
theorem dX5_when_114 : decode cX5_when 114 = .ok (.ireturn, 1) := by decide +kernel
theorem dX5_best_0 : decode cX5_best 0 = .ok (.iload_n 1, 1) := by decide +kernel
theorem dX5_best_1 : decode cX5_best 1 = .ok (.invokestatic 64, 3) := by decide +kernel
theorem dX5_best_4 : decode cX5_best 4 = .ok (.ifCond .eq 14, 3) := by decide +kernel
theorem dX5_best_7 : decode cX5_best 7 = .ok (.aload_n 0, 1) := by decide +kernel
theorem dX5_best_8 : decode cX5_best 8 = .ok (.getfield 25, 3) := by decide +kernel
theorem dX5_best_11 : decode cX5_best 11 = .ok (.iload_n 1, 1) := by decide +kernel
theorem dX5_best_12 : decode cX5_best 12 = .ok (.invokevirtual 140, 3) := by decide +kernel
theorem dX5_best_15 : decode cX5_best 15 = .ok (.ifCond .eq 5, 3) := by decide +kernel
theorem dX5_best_18 : decode cX5_best 18 = .ok (.iconst (-1), 1) := by decide +kernel
theorem dX5_best_19 : decode cX5_best 19 = .ok (.ireturn, 1) := by decide +kernel
theorem dX5_best_20 : decode cX5_best 20 = .ok (.aload_n 0, 1) := by decide +kernel
theorem dX5_best_21 : decode cX5_best 21 = .ok (.iload_n 2, 1) := by decide +kernel
theorem dX5_best_22 : decode cX5_best 22 = .ok (.invokevirtual 143, 3) := by decide +kernel
theorem dX5_best_25 : decode cX5_best 25 = .ok (.istore_n 3, 1) := by decide +kernel
theorem dX5_best_26 : decode cX5_best 26 = .ok (.iload_n 3, 1) := by decide +kernel
theorem dX5_best_27 : decode cX5_best 27 = .ok (.ifCond .eq 5, 3) := by decide +kernel
theorem dX5_best_30 : decode cX5_best 30 = .ok (.iload_n 3, 1) := by decide +kernel
theorem dX5_best_31 : decode cX5_best 31 = .ok (.ireturn, 1) := by decide +kernel
theorem dX5_best_32 : decode cX5_best 32 = .ok (.aload_n 0, 1) := by decide +kernel
theorem dX5_best_33 : decode cX5_best 33 = .ok (.iload_n 1, 1) := by decide +kernel
theorem dX5_best_34 : decode cX5_best 34 = .ok (.invokevirtual 146, 3) := by decide +kernel
theorem dX5_best_37 : decode cX5_best 37 = .ok (.iconst 0, 1) := by decide +kernel
theorem dX5_best_38 : decode cX5_best 38 = .ok (.istore 4, 2) := by decide +kernel
theorem dX5_best_40 : decode cX5_best 40 = .ok (.aload_n 0, 1) := by decide +kernel
theorem dX5_best_41 : decode cX5_best 41 = .ok (.iload_n 1, 1) := by decide +kernel
theorem dX5_best_42 : decode cX5_best 42 = .ok (.iconst 0, 1) := by decide +kernel
theorem dX5_best_43 : decode cX5_best 43 = .ok (.invokevirtual 152, 3) := by decide +kernel
theorem dX5_best_46 : decode cX5_best 46 = .ok (.istore 5, 2) := by decide +kernel
theorem dX5_best_48 : decode cX5_best 48 = .ok (.iconst 1, 1) := by decide +kernel
theorem dX5_best_49 : decode cX5_best 49 = .ok (.istore 6, 2) := by decide +kernel
theorem dX5_best_51 : decode cX5_best 51 = .ok (.iload 6, 2) := by decide +kernel
theorem dX5_best_53 : decode cX5_best 53 = .ok (.aload_n 0, 1) := by decide +kernel
theorem dX5_best_54 : decode cX5_best 54 = .ok (.getfield 25, 3) := by decide +kernel
theorem dX5_best_57 : decode cX5_best 57 = .ok (.getfield 89, 3) := by decide +kernel
theorem dX5_best_60 : decode cX5_best 60 = .ok (.if_icmp .gt 33, 3) := by decide +kernel
theorem dX5_best_63 : decode cX5_best 63 = .ok (.aload_n 0, 1) := by decide +kernel
theorem dX5_best_64 : decode cX5_best 64 = .ok (.iload_n 1, 1) := by decide +kernel
theorem dX5_best_65 : decode cX5_best 65 = .ok (.iload 6, 2) := by decide +kernel
theorem dX5_best_67 : decode cX5_best 67 = .ok (.invokevirtual 152, 3) := by decide +kernel
theorem dX5_best_70 : decode cX5_best 70 = .ok (.istore 7, 2) := by decide +kernel
theorem dX5_best_72 : decode cX5_best 72 = .ok (.iload 7, 2) := by decide +kernel
theorem dX5_best_74 : decode cX5_best 74 = .ok (.iload 5, 2) := by decide +kernel
theorem dX5_best_76 : decode cX5_best 76 = .ok (.if_icmp .le 11, 3) := by decide +kernel
theorem dX5_best_79 : decode cX5_best 79 = .ok (.iload 6, 2) := by decide +kernel
theorem dX5_best_81 : decode cX5_best 81 = .ok (.istore 4, 2) := by decide +kernel
theorem dX5_best_83 : decode cX5_best 83 = .ok (.iload 7, 2) := by decide +kernel
theorem dX5_best_85 : decode cX5_best 85 = .ok (.istore 5, 2) := by decide +kernel
theorem dX5_best_87 : decode cX5_best 87 = .ok (.iinc 6 1, 3) := by decide +kernel
theorem dX5_best_90 : decode cX5_best 90 = .ok (.goto (-39), 3) := by decide +kernel
theorem dX5_best_93 : decode cX5_best 93 = .ok (.iload_n 2, 1) := by decide +kernel
theorem dX5_best_94 : decode cX5_best 94 = .ok (.ifCond .ne 8, 3) := by decide +kernel
theorem dX5_best_97 : decode cX5_best 97 = .ok (.iload 4, 2) := by decide +kernel
theorem dX5_best_99 : decode cX5_best 99 = .ok (.goto 5, 3) := by decide +kernel
theorem dX5_best_102 : decode cX5_best 102 = .ok (.iload 5, 2) := by decide +kernel
theorem dX5_best_104 : decode cX5_best 104 = .ok (.ireturn, 1) := by decide +kernel
theorem dX5_reach_0 : decode cX5_reach 0 = .ok (.aload_n 0, 1) := by decide +kernel
theorem dX5_reach_1 : decode cX5_reach 1 = .ok (.iload_n 1, 1) := by decide +kernel
theorem dX5_reach_2 : decode cX5_reach 2 = .ok (.invokevirtual 68, 3) := by decide +kernel
theorem dX5_reach_5 : decode cX5_reach 5 = .ok (.ifCond .ne 5, 3) := by decide +kernel
theorem dX5_reach_8 : decode cX5_reach 8 = .ok (.iconst (-1), 1) := by decide +kernel
theorem dX5_reach_9 : decode cX5_reach 9 = .ok (.ireturn, 1) := by decide +kernel
theorem dX5_reach_10 : decode cX5_reach 10 = .ok (.aload_n 0, 1) := by decide +kernel
theorem dX5_reach_11 : decode cX5_reach 11 = .ok (.iconst (-1), 1) := by decide +kernel
theorem dX5_reach_12 : decode cX5_reach 12 = .ok (.invokevirtual 119, 3) := by decide +kernel
theorem dX5_reach_15 : decode cX5_reach 15 = .ok (.istore_n 2, 1) := by decide +kernel
theorem dX5_reach_16 : decode cX5_reach 16 = .ok (.iload_n 2, 1) := by decide +kernel
theorem dX5_reach_17 : decode cX5_reach 17 = .ok (.ifCond .eq 5, 3) := by decide +kernel
theorem dX5_reach_20 : decode cX5_reach 20 = .ok (.iload_n 2, 1) := by decide +kernel
theorem dX5_reach_21 : decode cX5_reach 21 = .ok (.ireturn, 1) := by decide +kernel
theorem dX5_reach_22 : decode cX5_reach 22 = .ok (.iconst 0, 1) := by decide +kernel
theorem dX5_reach_23 : decode cX5_reach 23 = .ok (.istore_n 3, 1) := by decide +kernel
theorem dX5_reach_24 : decode cX5_reach 24 = .ok (.iload_n 3, 1) := by decide +kernel
theorem dX5_reach_25 : decode cX5_reach 25 = .ok (.bipush 8, 2) := by decide +kernel
theorem dX5_reach_27 : decode cX5_reach 27 = .ok (.if_icmp .ge 30, 3) := by decide +kernel
theorem dX5_reach_30 : decode cX5_reach 30 = .ok (.aload_n 0, 1) := by decide +kernel
theorem dX5_reach_31 : decode cX5_reach 31 = .ok (.getfield 52, 3) := by decide +kernel
theorem dX5_reach_34 : decode cX5_reach 34 = .ok (.iload_n 1, 1) := by decide +kernel
theorem dX5_reach_35 : decode cX5_reach 35 = .ok (.invokevirtual 125, 3) := by decide +kernel
theorem dX5_reach_38 : decode cX5_reach 38 = .ok (.iconst (-1), 1) := by decide +kernel
theorem dX5_reach_39 : decode cX5_reach 39 = .ok (.if_icmp .ne 18, 3) := by decide +kernel
theorem dX5_reach_42 : decode cX5_reach 42 = .ok (.aload_n 0, 1) := by decide +kernel
theorem dX5_reach_43 : decode cX5_reach 43 = .ok (.getfield 52, 3) := by decide +kernel
theorem dX5_reach_46 : decode cX5_reach 46 = .ok (.bipush 8, 2) := by decide +kernel
theorem dX5_reach_48 : decode cX5_reach 48 = .ok (.invokevirtual 155, 3) := by decide +kernel
theorem dX5_reach_51 : decode cX5_reach 51 = .ok (.iinc 3 1, 3) := by decide +kernel
theorem dX5_reach_54 : decode cX5_reach 54 = .ok (.goto (-30), 3) := by decide +kernel
theorem dX5_reach_57 : decode cX5_reach 57 = .ok (.iload_n 3, 1) := by decide +kernel
theorem dX5_reach_58 : decode cX5_reach 58 = .ok (.ireturn, 1) := by decide +kernel
theorem dX5_party_0 : decode cX5_party 0 = .ok (.iload_n 1, 1) := by decide +kernel
theorem dX5_party_1 : decode cX5_party 1 = .ok (.iconst 1, 1) := by decide +kernel
theorem dX5_party_2 : decode cX5_party 2 = .ok (.if_icmp .lt 10, 3) := by decide +kernel
theorem dX5_party_5 : decode cX5_party 5 = .ok (.iload_n 1, 1) := by decide +kernel
theorem dX5_party_6 : decode cX5_party 6 = .ok (.sipush 255, 3) := by decide +kernel
theorem dX5_party_9 : decode cX5_party 9 = .ok (.if_icmp .le 6, 3) := by decide +kernel
theorem dX5_party_12 : decode cX5_party 12 = .ok (.bipush (-2), 2) := by decide +kernel
theorem dX5_party_14 : decode cX5_party 14 = .ok (.ireturn, 1) := by decide +kernel
theorem dX5_party_15 : decode cX5_party 15 = .ok (.aload_n 0, 1) := by decide +kernel
theorem dX5_party_16 : decode cX5_party 16 = .ok (.iconst (-1), 1) := by decide +kernel
theorem dX5_party_17 : decode cX5_party 17 = .ok (.invokevirtual 119, 3) := by decide +kernel
theorem dX5_party_20 : decode cX5_party 20 = .ok (.istore_n 3, 1) := by decide +kernel
theorem dX5_party_21 : decode cX5_party 21 = .ok (.iload_n 3, 1) := by decide +kernel
theorem dX5_party_22 : decode cX5_party 22 = .ok (.ifCond .eq 5, 3) := by decide +kernel
theorem dX5_party_25 : decode cX5_party 25 = .ok (.iload_n 3, 1) := by decide +kernel
theorem dX5_party_26 : decode cX5_party 26 = .ok (.ireturn, 1) := by decide +kernel
theorem dX5_party_27 : decode cX5_party 27 = .ok (.iload_n 1, 1) := by decide +kernel
theorem dX5_party_28 : decode cX5_party 28 = .ok (.aload_n 0, 1) := by decide +kernel
theorem dX5_party_29 : decode cX5_party 29 = .ok (.getfield 52, 3) := by decide +kernel
theorem dX5_party_32 : decode cX5_party 32 = .ok (.getfield 158, 3) := by decide +kernel
theorem dX5_party_35 : decode cX5_party 35 = .ok (.iand, 1) := by decide +kernel
theorem dX5_party_36 : decode cX5_party 36 = .ok (.ifCond .eq 6, 3) := by decide +kernel
theorem dX5_party_39 : decode cX5_party 39 = .ok (.bipush (-5), 2) := by decide +kernel
theorem dX5_party_41 : decode cX5_party 41 = .ok (.ireturn, 1) := by decide +kernel
theorem dX5_party_42 : decode cX5_party 42 = .ok (.iload_n 1, 1) := by decide +kernel
theorem dX5_party_43 : decode cX5_party 43 = .ok (.invokestatic 161, 3) := by decide +kernel
theorem dX5_party_46 : decode cX5_party 46 = .ok (.bipush 6, 2) := by decide +kernel
theorem dX5_party_48 : decode cX5_party 48 = .ok (.if_icmp .le 6, 3) := by decide +kernel
theorem dX5_party_51 : decode cX5_party 51 = .ok (.bipush (-4), 2) := by decide +kernel
theorem dX5_party_53 : decode cX5_party 53 = .ok (.ireturn, 1) := by decide +kernel
theorem dX5_party_54 : decode cX5_party 54 = .ok (.aload_n 0, 1) := by decide +kernel
theorem dX5_party_55 : decode cX5_party 55 = .ok (.getfield 32, 3) := by decide +kernel
theorem dX5_party_58 : decode cX5_party 58 = .ok (.aload_n 0, 1) := by decide +kernel
theorem dX5_party_59 : decode cX5_party 59 = .ok (.getfield 52, 3) := by decide +kernel
theorem dX5_party_62 : decode cX5_party 62 = .ok (.iload_n 1, 1) := by decide +kernel
theorem dX5_party_63 : decode cX5_party 63 = .ok (.invokevirtual 166, 3) := by decide +kernel
theorem dX5_party_66 : decode cX5_party 66 = .ok (.iload_n 2, 1) := by decide +kernel
theorem dX5_party_67 : decode cX5_party 67 = .ok (.iconst (-1), 1) := by decide +kernel
theorem dX5_party_68 : decode cX5_party 68 = .ok (.if_icmp .ne 13, 3) := by decide +kernel
theorem dX5_party_71 : decode cX5_party 71 = .ok (.aload_n 0, 1) := by decide +kernel
theorem dX5_party_72 : decode cX5_party 72 = .ok (.getfield 32, 3) := by decide +kernel
theorem dX5_party_75 : decode cX5_party 75 = .ok (.getfield 170, 3) := by decide +kernel
theorem dX5_party_78 : decode cX5_party 78 = .ok (.goto 11, 3) := by decide +kernel
theorem dX5_party_81 : decode cX5_party 81 = .ok (.aload_n 0, 1) := by decide +kernel
theorem dX5_party_82 : decode cX5_party 82 = .ok (.getfield 32, 3) := by decide +kernel
theorem dX5_party_85 : decode cX5_party 85 = .ok (.iload_n 2, 1) := by decide +kernel
theorem dX5_party_86 : decode cX5_party 86 = .ok (.invokevirtual 173, 3) := by decide +kernel
theorem dX5_party_89 : decode cX5_party 89 = .ok (.ireturn, 1) := by decide +kernel
theorem dX5_fleas_0 : decode cX5_fleas 0 = .ok (.iload_n 1, 1) := by decide +kernel
theorem dX5_fleas_1 : decode cX5_fleas 1 = .ok (.ifCond .lt 17, 3) := by decide +kernel
theorem dX5_fleas_4 : decode cX5_fleas 4 = .ok (.iload_n 1, 1) := by decide +kernel
theorem dX5_fleas_5 : decode cX5_fleas 5 = .ok (.bipush 8, 2) := by decide +kernel
theorem dX5_fleas_7 : decode cX5_fleas 7 = .ok (.aload_n 0, 1) := by decide +kernel
theorem dX5_fleas_8 : decode cX5_fleas 8 = .ok (.getfield 12, 3) := by decide +kernel
theorem dX5_fleas_11 : decode cX5_fleas 11 = .ok (.getfield 56, 3) := by decide +kernel
theorem dX5_fleas_14 : decode cX5_fleas 14 = .ok (.iadd, 1) := by decide +kernel
theorem dX5_fleas_15 : decode cX5_fleas 15 = .ok (.if_icmp .lt 5, 3) := by decide +kernel
theorem dX5_fleas_18 : decode cX5_fleas 18 = .ok (.iconst (-1), 1) := by decide +kernel
theorem dX5_fleas_19 : decode cX5_fleas 19 = .ok (.ireturn, 1) := by decide +kernel
theorem dX5_fleas_20 : decode cX5_fleas 20 = .ok (.iload_n 2, 1) := by decide +kernel
theorem dX5_fleas_21 : decode cX5_fleas 21 = .ok (.invokestatic 96, 3) := by decide +kernel
theorem dX5_fleas_24 : decode cX5_fleas 24 = .ok (.ifCond .ne 6, 3) := by decide +kernel
theorem dX5_fleas_27 : decode cX5_fleas 27 = .ok (.bipush (-2), 2) := by decide +kernel
theorem dX5_fleas_29 : decode cX5_fleas 29 = .ok (.ireturn, 1) := by decide +kernel
theorem dX5_fleas_30 : decode cX5_fleas 30 = .ok (.aload_n 0, 1) := by decide +kernel
theorem dX5_fleas_31 : decode cX5_fleas 31 = .ok (.iconst (-1), 1) := by decide +kernel
theorem dX5_fleas_32 : decode cX5_fleas 32 = .ok (.invokevirtual 119, 3) := by decide +kernel
theorem dX5_fleas_35 : decode cX5_fleas 35 = .ok (.istore_n 3, 1) := by decide +kernel
theorem dX5_fleas_36 : decode cX5_fleas 36 = .ok (.iload_n 3, 1) := by decide +kernel
theorem dX5_fleas_37 : decode cX5_fleas 37 = .ok (.ifCond .eq 5, 3) := by decide +kernel
theorem dX5_fleas_40 : decode cX5_fleas 40 = .ok (.iload_n 3, 1) := by decide +kernel
theorem dX5_fleas_41 : decode cX5_fleas 41 = .ok (.ireturn, 1) := by decide +kernel
theorem dX5_fleas_42 : decode cX5_fleas 42 = .ok (.aload_n 0, 1) := by decide +kernel
theorem dX5_fleas_43 : decode cX5_fleas 43 = .ok (.iload_n 1, 1) := by decide +kernel
theorem dX5_fleas_44 : decode cX5_fleas 44 = .ok (.invokevirtual 176, 3) := by decide +kernel
theorem dX5_fleas_47 : decode cX5_fleas 47 = .ok (.iload_n 2, 1) := by decide +kernel
theorem dX5_fleas_48 : decode cX5_fleas 48 = .ok (.ifCond .ne 13, 3) := by decide +kernel
theorem dX5_fleas_51 : decode cX5_fleas 51 = .ok (.aload_n 0, 1) := by decide +kernel
theorem dX5_fleas_52 : decode cX5_fleas 52 = .ok (.getfield 52, 3) := by decide +kernel
theorem dX5_fleas_55 : decode cX5_fleas 55 = .ok (.getfield 179, 3) := by decide +kernel
theorem dX5_fleas_58 : decode cX5_fleas 58 = .ok (.goto 10, 3) := by decide +kernel
theorem dX5_fleas_61 : decode cX5_fleas 61 = .ok (.aload_n 0, 1) := by decide +kernel
theorem dX5_fleas_62 : decode cX5_fleas 62 = .ok (.getfield 52, 3) := by decide +kernel
theorem dX5_fleas_65 : decode cX5_fleas 65 = .ok (.getfield 182, 3) := by decide +kernel
theorem dX5_fleas_68 : decode cX5_fleas 68 = .ok (.ireturn, 1) := by decide +kernel
theorem dX5_brought_0 : decode cX5_brought 0 = .ok (.iload_n 1, 1) := by decide +kernel
theorem dX5_brought_1 : decode cX5_brought 1 = .ok (.ifCond .lt 10, 3) := by decide +kernel
theorem dX5_brought_4 : decode cX5_brought 4 = .ok (.iload_n 1, 1) := by decide +kernel
theorem dX5_brought_5 : decode cX5_brought 5 = .ok (.sipush 255, 3) := by decide +kernel
theorem dX5_brought_8 : decode cX5_brought 8 = .ok (.if_icmp .le 6, 3) := by decide +kernel
theorem dX5_brought_11 : decode cX5_brought 11 = .ok (.bipush (-2), 2) := by decide +kernel
theorem dX5_brought_13 : decode cX5_brought 13 = .ok (.ireturn, 1) := by decide +kernel
theorem dX5_brought_14 : decode cX5_brought 14 = .ok (.aload_n 0, 1) := by decide +kernel
theorem dX5_brought_15 : decode cX5_brought 15 = .ok (.iconst (-1), 1) := by decide +kernel
theorem dX5_brought_16 : decode cX5_brought 16 = .ok (.invokevirtual 119, 3) := by decide +kernel
theorem dX5_brought_19 : decode cX5_brought 19 = .ok (.istore_n 2, 1) := by decide +kernel
theorem dX5_brought_20 : decode cX5_brought 20 = .ok (.iload_n 2, 1) := by decide +kernel
theorem dX5_brought_21 : decode cX5_brought 21 = .ok (.ifCond .eq 5, 3) := by decide +kernel
theorem dX5_brought_24 : decode cX5_brought 24 = .ok (.iload_n 2, 1) := by decide +kernel
theorem dX5_brought_25 : decode cX5_brought 25 = .ok (.ireturn, 1) := by decide +kernel
theorem dX5_brought_26 : decode cX5_brought 26 = .ok (.iconst 0, 1) := by decide +kernel
theorem dX5_brought_27 : decode cX5_brought 27 = .ok (.istore_n 3, 1) := by decide +kernel
theorem dX5_brought_28 : decode cX5_brought 28 = .ok (.iconst 0, 1) := by decide +kernel
theorem dX5_brought_29 : decode cX5_brought 29 = .ok (.istore 4, 2) := by decide +kernel
theorem dX5_brought_31 : decode cX5_brought 31 = .ok (.iload 4, 2) := by decide +kernel
theorem dX5_brought_33 : decode cX5_brought 33 = .ok (.bipush 8, 2) := by decide +kernel
theorem dX5_brought_35 : decode cX5_brought 35 = .ok (.if_icmp .ge 33, 3) := by decide +kernel
theorem dX5_brought_38 : decode cX5_brought 38 = .ok (.aload_n 0, 1) := by decide +kernel
theorem dX5_brought_39 : decode cX5_brought 39 = .ok (.iload 4, 2) := by decide +kernel
theorem dX5_brought_41 : decode cX5_brought 41 = .ok (.invokevirtual 176, 3) := by decide +kernel
theorem dX5_brought_44 : decode cX5_brought 44 = .ok (.aload_n 0, 1) := by decide +kernel
theorem dX5_brought_45 : decode cX5_brought 45 = .ok (.getfield 52, 3) := by decide +kernel
theorem dX5_brought_48 : decode cX5_brought 48 = .ok (.getfield 179, 3) := by decide +kernel
theorem dX5_brought_51 : decode cX5_brought 51 = .ok (.iload_n 1, 1) := by decide +kernel
theorem dX5_brought_52 : decode cX5_brought 52 = .ok (.if_icmp .ne 10, 3) := by decide +kernel
theorem dX5_brought_55 : decode cX5_brought 55 = .ok (.iload_n 3, 1) := by decide +kernel
theorem dX5_brought_56 : decode cX5_brought 56 = .ok (.iconst 1, 1) := by decide +kernel
theorem dX5_brought_57 : decode cX5_brought 57 = .ok (.iload 4, 2) := by decide +kernel
theorem dX5_brought_59 : decode cX5_brought 59 = .ok (.ishl, 1) := by decide +kernel
theorem dX5_brought_60 : decode cX5_brought 60 = .ok (.ior, 1) := by decide +kernel
theorem dX5_brought_61 : decode cX5_brought 61 = .ok (.istore_n 3, 1) := by decide +kernel
theorem dX5_brought_62 : decode cX5_brought 62 = .ok (.iinc 4 1, 3) := by decide +kernel
theorem dX5_brought_65 : decode cX5_brought 65 = .ok (.goto (-34), 3) := by decide +kernel
theorem dX5_brought_68 : decode cX5_brought 68 = .ok (.iload_n 3, 1) := by decide +kernel
theorem dX5_brought_69 : decode cX5_brought 69 = .ok (.ireturn, 1) := by decide +kernel
theorem dX5_seen_0 : decode cX5_seen 0 = .ok (.iload_n 1, 1) := by decide +kernel
theorem dX5_seen_1 : decode cX5_seen 1 = .ok (.invokestatic 64, 3) := by decide +kernel
theorem dX5_seen_4 : decode cX5_seen 4 = .ok (.ifCond .eq 11, 3) := by decide +kernel
theorem dX5_seen_7 : decode cX5_seen 7 = .ok (.aload_n 0, 1) := by decide +kernel
theorem dX5_seen_8 : decode cX5_seen 8 = .ok (.iload_n 2, 1) := by decide +kernel
theorem dX5_seen_9 : decode cX5_seen 9 = .ok (.invokevirtual 68, 3) := by decide +kernel
theorem dX5_seen_12 : decode cX5_seen 12 = .ok (.ifCond .ne 5, 3) := by decide +kernel
theorem dX5_seen_15 : decode cX5_seen 15 = .ok (.iconst (-1), 1) := by decide +kernel
theorem dX5_seen_16 : decode cX5_seen 16 = .ok (.ireturn, 1) := by decide +kernel
theorem dX5_seen_17 : decode cX5_seen 17 = .ok (.aload_n 0, 1) := by decide +kernel
theorem dX5_seen_18 : decode cX5_seen 18 = .ok (.getfield 12, 3) := by decide +kernel
theorem dX5_seen_21 : decode cX5_seen 21 = .ok (.getfield 185, 3) := by decide +kernel
theorem dX5_seen_24 : decode cX5_seen 24 = .ok (.bipush 6, 2) := by decide +kernel
theorem dX5_seen_26 : decode cX5_seen 26 = .ok (.if_icmp .lt 6, 3) := by decide +kernel
theorem dX5_seen_29 : decode cX5_seen 29 = .ok (.bipush (-4), 2) := by decide +kernel
theorem dX5_seen_31 : decode cX5_seen 31 = .ok (.ireturn, 1) := by decide +kernel
theorem dX5_seen_32 : decode cX5_seen 32 = .ok (.aload_n 0, 1) := by decide +kernel
theorem dX5_seen_33 : decode cX5_seen 33 = .ok (.getfield 12, 3) := by decide +kernel
theorem dX5_seen_36 : decode cX5_seen 36 = .ok (.iload_n 1, 1) := by decide +kernel
theorem dX5_seen_37 : decode cX5_seen 37 = .ok (.iload_n 2, 1) := by decide +kernel
theorem dX5_seen_38 : decode cX5_seen 38 = .ok (.invokevirtual 188, 3) := by decide +kernel
theorem dX5_seen_41 : decode cX5_seen 41 = .ok (.aload_n 0, 1) := by decide +kernel
theorem dX5_seen_42 : decode cX5_seen 42 = .ok (.getfield 12, 3) := by decide +kernel
theorem dX5_seen_45 : decode cX5_seen 45 = .ok (.getfield 185, 3) := by decide +kernel
theorem dX5_seen_48 : decode cX5_seen 48 = .ok (.ireturn, 1) := by decide +kernel
theorem dX5_forget_0 : decode cX5_forget 0 = .ok (.aload_n 0, 1) := by decide +kernel
theorem dX5_forget_1 : decode cX5_forget 1 = .ok (.getfield 12, 3) := by decide +kernel
theorem dX5_forget_4 : decode cX5_forget 4 = .ok (.getfield 185, 3) := by decide +kernel
theorem dX5_forget_7 : decode cX5_forget 7 = .ok (.istore_n 1, 1) := by decide +kernel
theorem dX5_forget_8 : decode cX5_forget 8 = .ok (.aload_n 0, 1) := by decide +kernel
theorem dX5_forget_9 : decode cX5_forget 9 = .ok (.getfield 12, 3) := by decide +kernel
theorem dX5_forget_12 : decode cX5_forget 12 = .ok (.iconst 0, 1) := by decide +kernel
theorem dX5_forget_13 : decode cX5_forget 13 = .ok (.putfield 185, 3) := by decide +kernel
theorem dX5_forget_16 : decode cX5_forget 16 = .ok (.iload_n 1, 1) := by decide +kernel
theorem dX5_forget_17 : decode cX5_forget 17 = .ok (.ireturn, 1) := by decide +kernel
theorem dX5_filled_0 : decode cX5_filled 0 = .ok (.aload_n 0, 1) := by decide +kernel
theorem dX5_filled_1 : decode cX5_filled 1 = .ok (.getfield 25, 3) := by decide +kernel
theorem dX5_filled_4 : decode cX5_filled 4 = .ok (.invokevirtual 92, 3) := by decide +kernel
theorem dX5_filled_7 : decode cX5_filled 7 = .ok (.bipush (-6), 2) := by decide +kernel
theorem dX5_filled_9 : decode cX5_filled 9 = .ok (.if_icmp .eq 6, 3) := by decide +kernel
theorem dX5_filled_12 : decode cX5_filled 12 = .ok (.bipush (-5), 2) := by decide +kernel
theorem dX5_filled_14 : decode cX5_filled 14 = .ok (.ireturn, 1) := by decide +kernel
theorem dX5_filled_15 : decode cX5_filled 15 = .ok (.aload_n 0, 1) := by decide +kernel
theorem dX5_filled_16 : decode cX5_filled 16 = .ok (.getfield 39, 3) := by decide +kernel
theorem dX5_filled_19 : decode cX5_filled 19 = .ok (.aload_n 0, 1) := by decide +kernel
theorem dX5_filled_20 : decode cX5_filled 20 = .ok (.getfield 52, 3) := by decide +kernel
theorem dX5_filled_23 : decode cX5_filled 23 = .ok (.aload_n 0, 1) := by decide +kernel
theorem dX5_filled_24 : decode cX5_filled 24 = .ok (.getfield 25, 3) := by decide +kernel
theorem dX5_filled_27 : decode cX5_filled 27 = .ok (.aload_n 0, 1) := by decide +kernel
theorem dX5_filled_28 : decode cX5_filled 28 = .ok (.getfield 12, 3) := by decide +kernel
theorem dX5_filled_31 : decode cX5_filled 31 = .ok (.invokevirtual 192, 3) := by decide +kernel
theorem dX5_filled_34 : decode cX5_filled 34 = .ok (.iload_n 1, 1) := by decide +kernel
theorem dX5_filled_35 : decode cX5_filled 35 = .ok (.iconst (-1), 1) := by decide +kernel
theorem dX5_filled_36 : decode cX5_filled 36 = .ok (.if_icmp .ne 13, 3) := by decide +kernel
theorem dX5_filled_39 : decode cX5_filled 39 = .ok (.aload_n 0, 1) := by decide +kernel
theorem dX5_filled_40 : decode cX5_filled 40 = .ok (.getfield 39, 3) := by decide +kernel
theorem dX5_filled_43 : decode cX5_filled 43 = .ok (.getfield 196, 3) := by decide +kernel
theorem dX5_filled_46 : decode cX5_filled 46 = .ok (.goto 11, 3) := by decide +kernel
theorem dX5_filled_49 : decode cX5_filled 49 = .ok (.aload_n 0, 1) := by decide +kernel
theorem dX5_filled_50 : decode cX5_filled 50 = .ok (.getfield 39, 3) := by decide +kernel
theorem dX5_filled_53 : decode cX5_filled 53 = .ok (.iload_n 1, 1) := by decide +kernel
theorem dX5_filled_54 : decode cX5_filled 54 = .ok (.invokevirtual 199, 3) := by decide +kernel
theorem dX5_filled_57 : decode cX5_filled 57 = .ok (.ireturn, 1) := by decide +kernel
theorem dX5_could_0 : decode cX5_could 0 = .ok (.aload_n 0, 1) := by decide +kernel
theorem dX5_could_1 : decode cX5_could 1 = .ok (.getfield 25, 3) := by decide +kernel
theorem dX5_could_4 : decode cX5_could 4 = .ok (.invokevirtual 92, 3) := by decide +kernel
theorem dX5_could_7 : decode cX5_could 7 = .ok (.bipush (-6), 2) := by decide +kernel
theorem dX5_could_9 : decode cX5_could 9 = .ok (.if_icmp .eq 6, 3) := by decide +kernel
theorem dX5_could_12 : decode cX5_could 12 = .ok (.bipush (-5), 2) := by decide +kernel
theorem dX5_could_14 : decode cX5_could 14 = .ok (.ireturn, 1) := by decide +kernel
theorem dX5_could_15 : decode cX5_could 15 = .ok (.aload_n 0, 1) := by decide +kernel
theorem dX5_could_16 : decode cX5_could 16 = .ok (.getfield 39, 3) := by decide +kernel
theorem dX5_could_19 : decode cX5_could 19 = .ok (.aload_n 0, 1) := by decide +kernel
theorem dX5_could_20 : decode cX5_could 20 = .ok (.getfield 52, 3) := by decide +kernel
theorem dX5_could_23 : decode cX5_could 23 = .ok (.aload_n 0, 1) := by decide +kernel
theorem dX5_could_24 : decode cX5_could 24 = .ok (.getfield 25, 3) := by decide +kernel
theorem dX5_could_27 : decode cX5_could 27 = .ok (.aload_n 0, 1) := by decide +kernel
theorem dX5_could_28 : decode cX5_could 28 = .ok (.getfield 12, 3) := by decide +kernel
theorem dX5_could_31 : decode cX5_could 31 = .ok (.invokevirtual 192, 3) := by decide +kernel
theorem dX5_could_34 : decode cX5_could 34 = .ok (.aload_n 0, 1) := by decide +kernel
theorem dX5_could_35 : decode cX5_could 35 = .ok (.getfield 39, 3) := by decide +kernel
theorem dX5_could_38 : decode cX5_could 38 = .ok (.iload_n 1, 1) := by decide +kernel
theorem dX5_could_39 : decode cX5_could 39 = .ok (.invokevirtual 202, 3) := by decide +kernel
theorem dX5_could_42 : decode cX5_could 42 = .ok (.ireturn, 1) := by decide +kernel
theorem dX5_chance_0 : decode cX5_chance 0 = .ok (.aload_n 0, 1) := by decide +kernel
theorem dX5_chance_1 : decode cX5_chance 1 = .ok (.iload_n 1, 1) := by decide +kernel
theorem dX5_chance_2 : decode cX5_chance 2 = .ok (.invokevirtual 68, 3) := by decide +kernel
theorem dX5_chance_5 : decode cX5_chance 5 = .ok (.ifCond .ne 7, 3) := by decide +kernel
theorem dX5_chance_8 : decode cX5_chance 8 = .ok (.ldc2_w 205, 3) := by decide +kernel
theorem dX5_chance_11 : decode cX5_chance 11 = .ok (.lreturn, 1) := by decide +kernel
theorem dX5_chance_12 : decode cX5_chance 12 = .ok (.iload_n 2, 1) := by decide +kernel
theorem dX5_chance_13 : decode cX5_chance 13 = .ok (.ifCond .lt 27, 3) := by decide +kernel
theorem dX5_chance_16 : decode cX5_chance 16 = .ok (.iload_n 2, 1) := by decide +kernel
theorem dX5_chance_17 : decode cX5_chance 17 = .ok (.bipush 8, 2) := by decide +kernel
theorem dX5_chance_19 : decode cX5_chance 19 = .ok (.if_icmp .gt 21, 3) := by decide +kernel
theorem dX5_chance_22 : decode cX5_chance 22 = .ok (.iload_n 3, 1) := by decide +kernel
theorem dX5_chance_23 : decode cX5_chance 23 = .ok (.ifCond .lt 17, 3) := by decide +kernel
theorem dX5_chance_26 : decode cX5_chance 26 = .ok (.iload_n 3, 1) := by decide +kernel
theorem dX5_chance_27 : decode cX5_chance 27 = .ok (.bipush 10, 2) := by decide +kernel
theorem dX5_chance_29 : decode cX5_chance 29 = .ok (.if_icmp .gt 11, 3) := by decide +kernel
theorem dX5_chance_32 : decode cX5_chance 32 = .ok (.iload 4, 2) := by decide +kernel
theorem dX5_chance_34 : decode cX5_chance 34 = .ok (.invokestatic 96, 3) := by decide +kernel
theorem dX5_chance_37 : decode cX5_chance 37 = .ok (.ifCond .ne 7, 3) := by decide +kernel
theorem dX5_chance_40 : decode cX5_chance 40 = .ok (.ldc2_w 207, 3) := by decide +kernel
theorem dX5_chance_43 : decode cX5_chance 43 = .ok (.lreturn, 1) := by decide +kernel
theorem dX5_chance_44 : decode cX5_chance 44 = .ok (.aload_n 0, 1) := by decide +kernel
theorem dX5_chance_45 : decode cX5_chance 45 = .ok (.iconst (-1), 1) := by decide +kernel
theorem dX5_chance_46 : decode cX5_chance 46 = .ok (.invokevirtual 119, 3) := by decide +kernel
theorem dX5_chance_49 : decode cX5_chance 49 = .ok (.istore 5, 2) := by decide +kernel
theorem dX5_chance_51 : decode cX5_chance 51 = .ok (.iload 5, 2) := by decide +kernel
theorem dX5_chance_53 : decode cX5_chance 53 = .ok (.ifCond .eq 11, 3) := by decide +kernel
theorem dX5_chance_56 : decode cX5_chance 56 = .ok (.ldc2_w 209, 3) := by decide +kernel
theorem dX5_chance_59 : decode cX5_chance 59 = .ok (.iload 5, 2) := by decide +kernel
theorem dX5_chance_61 : decode cX5_chance 61 = .ok (.i2l, 1) := by decide +kernel
theorem dX5_chance_62 : decode cX5_chance 62 = .ok (.ladd, 1) := by decide +kernel
theorem dX5_chance_63 : decode cX5_chance 63 = .ok (.lreturn, 1) := by decide +kernel
theorem dX5_chance_64 : decode cX5_chance 64 = .ok (.aload_n 0, 1) := by decide +kernel
theorem dX5_chance_65 : decode cX5_chance 65 = .ok (.getfield 52, 3) := by decide +kernel
theorem dX5_chance_68 : decode cX5_chance 68 = .ok (.iload_n 1, 1) := by decide +kernel
theorem dX5_chance_69 : decode cX5_chance 69 = .ok (.iload_n 2, 1) := by decide +kernel
theorem dX5_chance_70 : decode cX5_chance 70 = .ok (.iload_n 3, 1) := by decide +kernel
theorem dX5_chance_71 : decode cX5_chance 71 = .ok (.invokestatic 211, 3) := by decide +kernel
theorem dX5_chance_74 : decode cX5_chance 74 = .ok (.iload_n 2, 1) := by decide +kernel
theorem dX5_chance_75 : decode cX5_chance 75 = .ok (.iload 4, 2) := by decide +kernel
theorem dX5_chance_77 : decode cX5_chance 77 = .ok (.invokestatic 215, 3) := by decide +kernel
theorem dX5_chance_80 : decode cX5_chance 80 = .ok (.lreturn, 1) := by decide +kernel
theorem dX5_year_0 : decode cX5_year 0 = .ok (.aload_n 0, 1) := by decide +kernel
theorem dX5_year_1 : decode cX5_year 1 = .ok (.iload_n 3, 1) := by decide +kernel
theorem dX5_year_2 : decode cX5_year 2 = .ok (.invokevirtual 68, 3) := by decide +kernel
theorem dX5_year_5 : decode cX5_year 5 = .ok (.ifCond .ne 5, 3) := by decide +kernel
theorem dX5_year_8 : decode cX5_year 8 = .ok (.iconst (-1), 1) := by decide +kernel
theorem dX5_year_9 : decode cX5_year 9 = .ok (.ireturn, 1) := by decide +kernel
theorem dX5_year_10 : decode cX5_year 10 = .ok (.iload_n 1, 1) := by decide +kernel
theorem dX5_year_11 : decode cX5_year 11 = .ok (.ifCond .lt 21, 3) := by decide +kernel
theorem dX5_year_14 : decode cX5_year 14 = .ok (.iload_n 1, 1) := by decide +kernel
theorem dX5_year_15 : decode cX5_year 15 = .ok (.sipush 9999, 3) := by decide +kernel
theorem dX5_year_18 : decode cX5_year 18 = .ok (.if_icmp .gt 14, 3) := by decide +kernel
theorem dX5_year_21 : decode cX5_year 21 = .ok (.iload_n 2, 1) := by decide +kernel
theorem dX5_year_22 : decode cX5_year 22 = .ok (.iconst 1, 1) := by decide +kernel
theorem dX5_year_23 : decode cX5_year 23 = .ok (.if_icmp .lt 9, 3) := by decide +kernel
theorem dX5_year_26 : decode cX5_year 26 = .ok (.iload_n 2, 1) := by decide +kernel
theorem dX5_year_27 : decode cX5_year 27 = .ok (.bipush 99, 2) := by decide +kernel
theorem dX5_year_29 : decode cX5_year 29 = .ok (.if_icmp .le 6, 3) := by decide +kernel
theorem dX5_year_32 : decode cX5_year 32 = .ok (.bipush (-2), 2) := by decide +kernel
theorem dX5_year_34 : decode cX5_year 34 = .ok (.ireturn, 1) := by decide +kernel
theorem dX5_year_35 : decode cX5_year 35 = .ok (.aload_n 0, 1) := by decide +kernel
theorem dX5_year_36 : decode cX5_year 36 = .ok (.getfield 52, 3) := by decide +kernel
theorem dX5_year_39 : decode cX5_year 39 = .ok (.aload_n 0, 1) := by decide +kernel
theorem dX5_year_40 : decode cX5_year 40 = .ok (.getfield 12, 3) := by decide +kernel
theorem dX5_year_43 : decode cX5_year 43 = .ok (.getfield 79, 3) := by decide +kernel
theorem dX5_year_46 : decode cX5_year 46 = .ok (.invokevirtual 102, 3) := by decide +kernel
theorem dX5_year_49 : decode cX5_year 49 = .ok (.iload_n 1, 1) := by decide +kernel
theorem dX5_year_50 : decode cX5_year 50 = .ok (.istore 4, 2) := by decide +kernel
theorem dX5_year_52 : decode cX5_year 52 = .ok (.iconst 0, 1) := by decide +kernel
theorem dX5_year_53 : decode cX5_year 53 = .ok (.istore 5, 2) := by decide +kernel
theorem dX5_year_55 : decode cX5_year 55 = .ok (.iload 5, 2) := by decide +kernel
theorem dX5_year_57 : decode cX5_year 57 = .ok (.iload_n 2, 1) := by decide +kernel
theorem dX5_year_58 : decode cX5_year 58 = .ok (.if_icmp .ge 62, 3) := by decide +kernel
theorem dX5_year_61 : decode cX5_year 61 = .ok (.bipush 75, 2) := by decide +kernel
theorem dX5_year_63 : decode cX5_year 63 = .ok (.iload 4, 2) := by decide +kernel
theorem dX5_year_65 : decode cX5_year 65 = .ok (.imul, 1) := by decide +kernel
theorem dX5_year_66 : decode cX5_year 66 = .ok (.bipush 74, 2) := by decide +kernel
theorem dX5_year_68 : decode cX5_year 68 = .ok (.iadd, 1) := by decide +kernel
theorem dX5_year_69 : decode cX5_year 69 = .ok (.ldc 219, 2) := by decide +kernel
theorem dX5_year_71 : decode cX5_year 71 = .ok (.irem, 1) := by decide +kernel
theorem dX5_year_72 : decode cX5_year 72 = .ok (.istore 4, 2) := by decide +kernel
theorem dX5_year_74 : decode cX5_year 74 = .ok (.iload 4, 2) := by decide +kernel
theorem dX5_year_76 : decode cX5_year 76 = .ok (.bipush 8, 2) := by decide +kernel
theorem dX5_year_78 : decode cX5_year 78 = .ok (.irem, 1) := by decide +kernel
theorem dX5_year_79 : decode cX5_year 79 = .ok (.istore 6, 2) := by decide +kernel
theorem dX5_year_81 : decode cX5_year 81 = .ok (.aload_n 0, 1) := by decide +kernel
theorem dX5_year_82 : decode cX5_year 82 = .ok (.getfield 52, 3) := by decide +kernel
theorem dX5_year_85 : decode cX5_year 85 = .ok (.iload 6, 2) := by decide +kernel
theorem dX5_year_87 : decode cX5_year 87 = .ok (.invokevirtual 220, 3) := by decide +kernel
theorem dX5_year_90 : decode cX5_year 90 = .ok (.ifCond .eq 15, 3) := by decide +kernel
theorem dX5_year_93 : decode cX5_year 93 = .ok (.aload_n 0, 1) := by decide +kernel
theorem dX5_year_94 : decode cX5_year 94 = .ok (.getfield 52, 3) := by decide +kernel
theorem dX5_year_97 : decode cX5_year 97 = .ok (.iload 6, 2) := by decide +kernel
theorem dX5_year_99 : decode cX5_year 99 = .ok (.invokevirtual 223, 3) := by decide +kernel
theorem dX5_year_102 : decode cX5_year 102 = .ok (.goto 12, 3) := by decide +kernel
theorem dX5_year_105 : decode cX5_year 105 = .ok (.aload_n 0, 1) := by decide +kernel
theorem dX5_year_106 : decode cX5_year 106 = .ok (.getfield 52, 3) := by decide +kernel
theorem dX5_year_109 : decode cX5_year 109 = .ok (.iload 6, 2) := by decide +kernel
theorem dX5_year_111 : decode cX5_year 111 = .ok (.invokevirtual 155, 3) := by decide +kernel
theorem dX5_year_114 : decode cX5_year 114 = .ok (.iinc 5 1, 3) := by decide +kernel
theorem dX5_year_117 : decode cX5_year 117 = .ok (.goto (-62), 3) := by decide +kernel
theorem dX5_year_120 : decode cX5_year 120 = .ok (.aload_n 0, 1) := by decide +kernel
theorem dX5_year_121 : decode cX5_year 121 = .ok (.getfield 52, 3) := by decide +kernel
theorem dX5_year_124 : decode cX5_year 124 = .ok (.iload_n 3, 1) := by decide +kernel
theorem dX5_year_125 : decode cX5_year 125 = .ok (.invokevirtual 226, 3) := by decide +kernel
theorem dX5_year_128 : decode cX5_year 128 = .ok (.ireturn, 1) := by decide +kernel
theorem dX5_image_0 : decode cX5_image 0 = .ok (.iload_n 1, 1) := by decide +kernel
theorem dX5_image_1 : decode cX5_image 1 = .ok (.invokestatic 96, 3) := by decide +kernel
theorem dX5_image_4 : decode cX5_image 4 = .ok (.ifCond .ne 6, 3) := by decide +kernel
theorem dX5_image_7 : decode cX5_image 7 = .ok (.bipush (-2), 2) := by decide +kernel
theorem dX5_image_9 : decode cX5_image 9 = .ok (.ireturn, 1) := by decide +kernel
theorem dX5_image_10 : decode cX5_image 10 = .ok (.iload_n 1, 1) := by decide +kernel
theorem dX5_image_11 : decode cX5_image 11 = .ok (.ifCond .ne 10, 3) := by decide +kernel
theorem dX5_image_14 : decode cX5_image 14 = .ok (.aload_n 0, 1) := by decide +kernel
theorem dX5_image_15 : decode cX5_image 15 = .ok (.getfield 16, 3) := by decide +kernel
theorem dX5_image_18 : decode cX5_image 18 = .ok (.goto 7, 3) := by decide +kernel
theorem dX5_image_21 : decode cX5_image 21 = .ok (.aload_n 0, 1) := by decide +kernel
theorem dX5_image_22 : decode cX5_image 22 = .ok (.getfield 19, 3) := by decide +kernel
theorem dX5_image_25 : decode cX5_image 25 = .ok (.astore_n 2, 1) := by decide +kernel
theorem dX5_image_26 : decode cX5_image 26 = .ok (.aload_n 2, 1) := by decide +kernel
theorem dX5_image_27 : decode cX5_image 27 = .ok (.aload_n 0, 1) := by decide +kernel
theorem dX5_image_28 : decode cX5_image 28 = .ok (.getfield 12, 3) := by decide +kernel
theorem dX5_image_31 : decode cX5_image 31 = .ok (.invokevirtual 229, 3) := by decide +kernel
theorem dX5_image_34 : decode cX5_image 34 = .ok (.aload_n 2, 1) := by decide +kernel
theorem dX5_image_35 : decode cX5_image 35 = .ok (.iconst 1, 1) := by decide +kernel
theorem dX5_image_36 : decode cX5_image 36 = .ok (.putfield 233, 3) := by decide +kernel
theorem dX5_image_39 : decode cX5_image 39 = .ok (.iconst 1, 1) := by decide +kernel
theorem dX5_image_40 : decode cX5_image 40 = .ok (.ireturn, 1) := by decide +kernel
theorem dX5_restore_0 : decode cX5_restore 0 = .ok (.iload_n 1, 1) := by decide +kernel
theorem dX5_restore_1 : decode cX5_restore 1 = .ok (.invokestatic 96, 3) := by decide +kernel
theorem dX5_restore_4 : decode cX5_restore 4 = .ok (.ifCond .ne 6, 3) := by decide +kernel
theorem dX5_restore_7 : decode cX5_restore 7 = .ok (.bipush (-2), 2) := by decide +kernel
theorem dX5_restore_9 : decode cX5_restore 9 = .ok (.ireturn, 1) := by decide +kernel
theorem dX5_restore_10 : decode cX5_restore 10 = .ok (.iload_n 1, 1) := by decide +kernel
theorem dX5_restore_11 : decode cX5_restore 11 = .ok (.ifCond .ne 10, 3) := by decide +kernel
theorem dX5_restore_14 : decode cX5_restore 14 = .ok (.aload_n 0, 1) := by decide +kernel
theorem dX5_restore_15 : decode cX5_restore 15 = .ok (.getfield 16, 3) := by decide +kernel
theorem dX5_restore_18 : decode cX5_restore 18 = .ok (.goto 7, 3) := by decide +kernel
theorem dX5_restore_21 : decode cX5_restore 21 = .ok (.aload_n 0, 1) := by decide +kernel
theorem dX5_restore_22 : decode cX5_restore 22 = .ok (.getfield 19, 3) := by decide +kernel
theorem dX5_restore_25 : decode cX5_restore 25 = .ok (.astore_n 2, 1) := by decide +kernel
theorem dX5_restore_26 : decode cX5_restore 26 = .ok (.aload_n 2, 1) := by decide +kernel
theorem dX5_restore_27 : decode cX5_restore 27 = .ok (.getfield 233, 3) := by decide +kernel
theorem dX5_restore_30 : decode cX5_restore 30 = .ok (.ifCond .ne 6, 3) := by decide +kernel
theorem dX5_restore_33 : decode cX5_restore 33 = .ok (.bipush (-3), 2) := by decide +kernel
theorem dX5_restore_35 : decode cX5_restore 35 = .ok (.ireturn, 1) := by decide +kernel
theorem dX5_restore_36 : decode cX5_restore 36 = .ok (.aload_n 0, 1) := by decide +kernel
theorem dX5_restore_37 : decode cX5_restore 37 = .ok (.getfield 12, 3) := by decide +kernel
theorem dX5_restore_40 : decode cX5_restore 40 = .ok (.aload_n 2, 1) := by decide +kernel
theorem dX5_restore_41 : decode cX5_restore 41 = .ok (.invokevirtual 229, 3) := by decide +kernel
theorem dX5_restore_44 : decode cX5_restore 44 = .ok (.iconst 1, 1) := by decide +kernel
theorem dX5_restore_45 : decode cX5_restore 45 = .ok (.ireturn, 1) := by decide +kernel
theorem dX5_told_0 : decode cX5_told 0 = .ok (.iload_n 1, 1) := by decide +kernel
theorem dX5_told_1 : decode cX5_told 1 = .ok (.tableswitch 63 0 3 #[31, 39, 47, 55], 31) := by decide +kernel
theorem dX5_told_32 : decode cX5_told 32 = .ok (.aload_n 0, 1) := by decide +kernel
theorem dX5_told_33 : decode cX5_told 33 = .ok (.getfield 25, 3) := by decide +kernel
theorem dX5_told_36 : decode cX5_told 36 = .ok (.getfield 89, 3) := by decide +kernel
theorem dX5_told_39 : decode cX5_told 39 = .ok (.ireturn, 1) := by decide +kernel
theorem dX5_told_40 : decode cX5_told 40 = .ok (.aload_n 0, 1) := by decide +kernel
theorem dX5_told_41 : decode cX5_told 41 = .ok (.getfield 12, 3) := by decide +kernel
theorem dX5_told_44 : decode cX5_told 44 = .ok (.getfield 56, 3) := by decide +kernel
theorem dX5_told_47 : decode cX5_told 47 = .ok (.ireturn, 1) := by decide +kernel
theorem dX5_told_48 : decode cX5_told 48 = .ok (.aload_n 0, 1) := by decide +kernel
theorem dX5_told_49 : decode cX5_told 49 = .ok (.getfield 12, 3) := by decide +kernel
theorem dX5_told_52 : decode cX5_told 52 = .ok (.getfield 79, 3) := by decide +kernel
theorem dX5_told_55 : decode cX5_told 55 = .ok (.ireturn, 1) := by decide +kernel
theorem dX5_told_56 : decode cX5_told 56 = .ok (.aload_n 0, 1) := by decide +kernel
theorem dX5_told_57 : decode cX5_told 57 = .ok (.getfield 12, 3) := by decide +kernel
theorem dX5_told_60 : decode cX5_told 60 = .ok (.getfield 185, 3) := by decide +kernel
theorem dX5_told_63 : decode cX5_told 63 = .ok (.ireturn, 1) := by decide +kernel
theorem dX5_told_64 : decode cX5_told 64 = .ok (.aload_n 0, 1) := by decide +kernel
theorem dX5_told_65 : decode cX5_told 65 = .ok (.iload_n 1, 1) := by decide +kernel
theorem dX5_told_66 : decode cX5_told 66 = .ok (.invokevirtual 237, 3) := by decide +kernel
theorem dX5_told_69 : decode cX5_told 69 = .ok (.ireturn, 1) := by decide +kernel
theorem dX5_isGuest_0 : decode cX5_isGuest 0 = .ok (.iload_n 0, 1) := by decide +kernel
theorem dX5_isGuest_1 : decode cX5_isGuest 1 = .ok (.ifCond .lt 13, 3) := by decide +kernel
theorem dX5_isGuest_4 : decode cX5_isGuest 4 = .ok (.iload_n 0, 1) := by decide +kernel
theorem dX5_isGuest_5 : decode cX5_isGuest 5 = .ok (.bipush 8, 2) := by decide +kernel
theorem dX5_isGuest_7 : decode cX5_isGuest 7 = .ok (.if_icmp .ge 7, 3) := by decide +kernel
theorem dX5_isGuest_10 : decode cX5_isGuest 10 = .ok (.iconst 1, 1) := by decide +kernel
theorem dX5_isGuest_11 : decode cX5_isGuest 11 = .ok (.goto 4, 3) := by decide +kernel
theorem dX5_isGuest_14 : decode cX5_isGuest 14 = .ok (.iconst 0, 1) := by decide +kernel
theorem dX5_isGuest_15 : decode cX5_isGuest 15 = .ok (.ireturn, 1) := by decide +kernel
theorem dX5_isBed_0 : decode cX5_isBed 0 = .ok (.iload_n 1, 1) := by decide +kernel
theorem dX5_isBed_1 : decode cX5_isBed 1 = .ok (.ifCond .lt 18, 3) := by decide +kernel
theorem dX5_isBed_4 : decode cX5_isBed 4 = .ok (.iload_n 1, 1) := by decide +kernel
theorem dX5_isBed_5 : decode cX5_isBed 5 = .ok (.aload_n 0, 1) := by decide +kernel
theorem dX5_isBed_6 : decode cX5_isBed 6 = .ok (.getfield 12, 3) := by decide +kernel
theorem dX5_isBed_9 : decode cX5_isBed 9 = .ok (.getfield 56, 3) := by decide +kernel
theorem dX5_isBed_12 : decode cX5_isBed 12 = .ok (.if_icmp .ge 7, 3) := by decide +kernel
theorem dX5_isBed_15 : decode cX5_isBed 15 = .ok (.iconst 1, 1) := by decide +kernel
theorem dX5_isBed_16 : decode cX5_isBed 16 = .ok (.goto 4, 3) := by decide +kernel
theorem dX5_isBed_19 : decode cX5_isBed 19 = .ok (.iconst 0, 1) := by decide +kernel
theorem dX5_isBed_20 : decode cX5_isBed 20 = .ok (.ireturn, 1) := by decide +kernel
theorem dX5_isEither_0 : decode cX5_isEither 0 = .ok (.iload_n 0, 1) := by decide +kernel
theorem dX5_isEither_1 : decode cX5_isEither 1 = .ok (.ifCond .eq 8, 3) := by decide +kernel
theorem dX5_isEither_4 : decode cX5_isEither 4 = .ok (.iload_n 0, 1) := by decide +kernel
theorem dX5_isEither_5 : decode cX5_isEither 5 = .ok (.iconst 1, 1) := by decide +kernel
theorem dX5_isEither_6 : decode cX5_isEither 6 = .ok (.if_icmp .ne 7, 3) := by decide +kernel
theorem dX5_isEither_9 : decode cX5_isEither 9 = .ok (.iconst 1, 1) := by decide +kernel
theorem dX5_isEither_10 : decode cX5_isEither 10 = .ok (.goto 4, 3) := by decide +kernel
theorem dX5_isEither_13 : decode cX5_isEither 13 = .ok (.iconst 0, 1) := by decide +kernel
theorem dX5_isEither_14 : decode cX5_isEither 14 = .ok (.ireturn, 1) := by decide +kernel
theorem dX5_isCountOfEvents_0 : decode cX5_isCountOfEvents 0 = .ok (.iload_n 1, 1) := by decide +kernel
theorem dX5_isCountOfEvents_1 : decode cX5_isCountOfEvents 1 = .ok (.iconst (-1), 1) := by decide +kernel
theorem dX5_isCountOfEvents_2 : decode cX5_isCountOfEvents 2 = .ok (.if_icmp .lt 18, 3) := by decide +kernel
theorem dX5_isCountOfEvents_5 : decode cX5_isCountOfEvents 5 = .ok (.iload_n 1, 1) := by decide +kernel
theorem dX5_isCountOfEvents_6 : decode cX5_isCountOfEvents 6 = .ok (.aload_n 0, 1) := by decide +kernel
theorem dX5_isCountOfEvents_7 : decode cX5_isCountOfEvents 7 = .ok (.getfield 25, 3) := by decide +kernel
theorem dX5_isCountOfEvents_10 : decode cX5_isCountOfEvents 10 = .ok (.getfield 89, 3) := by decide +kernel
theorem dX5_isCountOfEvents_13 : decode cX5_isCountOfEvents 13 = .ok (.if_icmp .gt 7, 3) := by decide +kernel
theorem dX5_isCountOfEvents_16 : decode cX5_isCountOfEvents 16 = .ok (.iconst 1, 1) := by decide +kernel
theorem dX5_isCountOfEvents_17 : decode cX5_isCountOfEvents 17 = .ok (.goto 4, 3) := by decide +kernel
theorem dX5_isCountOfEvents_20 : decode cX5_isCountOfEvents 20 = .ok (.iconst 0, 1) := by decide +kernel
theorem dX5_isCountOfEvents_21 : decode cX5_isCountOfEvents 21 = .ok (.ireturn, 1) := by decide +kernel
theorem dX5_liveThrough_0 : decode cX5_liveThrough 0 = .ok (.iload_n 1, 1) := by decide +kernel
theorem dX5_liveThrough_1 : decode cX5_liveThrough 1 = .ok (.iconst (-1), 1) := by decide +kernel
theorem dX5_liveThrough_2 : decode cX5_liveThrough 2 = .ok (.if_icmp .ne 13, 3) := by decide +kernel
theorem dX5_liveThrough_5 : decode cX5_liveThrough 5 = .ok (.aload_n 0, 1) := by decide +kernel
end
section
theorem dX5_liveThrough_6 : decode cX5_liveThrough 6 = .ok (.getfield 25, 3) := by decide +kernel
theorem dX5_liveThrough_9 : decode cX5_liveThrough 9 = .ok (.getfield 89, 3) := by decide +kernel
theorem dX5_liveThrough_12 : decode cX5_liveThrough 12 = .ok (.goto 4, 3) := by decide +kernel
theorem dX5_liveThrough_15 : decode cX5_liveThrough 15 = .ok (.iload_n 1, 1) := by decide +kernel
theorem dX5_liveThrough_16 : decode cX5_liveThrough 16 = .ok (.istore_n 2, 1) := by decide +kernel
theorem dX5_liveThrough_17 : decode cX5_liveThrough 17 = .ok (.aload_n 0, 1) := by decide +kernel
theorem dX5_liveThrough_18 : decode cX5_liveThrough 18 = .ok (.getfield 25, 3) := by decide +kernel
theorem dX5_liveThrough_21 : decode cX5_liveThrough 21 = .ok (.invokevirtual 92, 3) := by decide +kernel
theorem dX5_liveThrough_24 : decode cX5_liveThrough 24 = .ok (.bipush (-6), 2) := by decide +kernel
theorem dX5_liveThrough_26 : decode cX5_liveThrough 26 = .ok (.if_icmp .eq 6, 3) := by decide +kernel
theorem dX5_liveThrough_29 : decode cX5_liveThrough 29 = .ok (.bipush (-5), 2) := by decide +kernel
theorem dX5_liveThrough_31 : decode cX5_liveThrough 31 = .ok (.ireturn, 1) := by decide +kernel
theorem dX5_liveThrough_32 : decode cX5_liveThrough 32 = .ok (.aload_n 0, 1) := by decide +kernel
theorem dX5_liveThrough_33 : decode cX5_liveThrough 33 = .ok (.getfield 25, 3) := by decide +kernel
theorem dX5_liveThrough_36 : decode cX5_liveThrough 36 = .ok (.iload_n 2, 1) := by decide +kernel
theorem dX5_liveThrough_37 : decode cX5_liveThrough 37 = .ok (.invokevirtual 99, 3) := by decide +kernel
theorem dX5_liveThrough_40 : decode cX5_liveThrough 40 = .ok (.ifCond .eq 6, 3) := by decide +kernel
theorem dX5_liveThrough_43 : decode cX5_liveThrough 43 = .ok (.bipush (-3), 2) := by decide +kernel
theorem dX5_liveThrough_45 : decode cX5_liveThrough 45 = .ok (.ireturn, 1) := by decide +kernel
theorem dX5_liveThrough_46 : decode cX5_liveThrough 46 = .ok (.aload_n 0, 1) := by decide +kernel
theorem dX5_liveThrough_47 : decode cX5_liveThrough 47 = .ok (.getfield 52, 3) := by decide +kernel
theorem dX5_liveThrough_50 : decode cX5_liveThrough 50 = .ok (.aload_n 0, 1) := by decide +kernel
theorem dX5_liveThrough_51 : decode cX5_liveThrough 51 = .ok (.getfield 12, 3) := by decide +kernel
theorem dX5_liveThrough_54 : decode cX5_liveThrough 54 = .ok (.getfield 79, 3) := by decide +kernel
theorem dX5_liveThrough_57 : decode cX5_liveThrough 57 = .ok (.invokevirtual 102, 3) := by decide +kernel
theorem dX5_liveThrough_60 : decode cX5_liveThrough 60 = .ok (.aload_n 0, 1) := by decide +kernel
theorem dX5_liveThrough_61 : decode cX5_liveThrough 61 = .ok (.getfield 52, 3) := by decide +kernel
theorem dX5_liveThrough_64 : decode cX5_liveThrough 64 = .ok (.aload_n 0, 1) := by decide +kernel
theorem dX5_liveThrough_65 : decode cX5_liveThrough 65 = .ok (.getfield 25, 3) := by decide +kernel
theorem dX5_liveThrough_68 : decode cX5_liveThrough 68 = .ok (.iconst 0, 1) := by decide +kernel
theorem dX5_liveThrough_69 : decode cX5_liveThrough 69 = .ok (.iload_n 2, 1) := by decide +kernel
theorem dX5_liveThrough_70 : decode cX5_liveThrough 70 = .ok (.invokevirtual 105, 3) := by decide +kernel
theorem dX5_liveThrough_73 : decode cX5_liveThrough 73 = .ok (.bipush (-6), 2) := by decide +kernel
theorem dX5_liveThrough_75 : decode cX5_liveThrough 75 = .ok (.if_icmp .ne 7, 3) := by decide +kernel
theorem dX5_liveThrough_78 : decode cX5_liveThrough 78 = .ok (.iconst 0, 1) := by decide +kernel
theorem dX5_liveThrough_79 : decode cX5_liveThrough 79 = .ok (.goto 5, 3) := by decide +kernel
theorem dX5_liveThrough_82 : decode cX5_liveThrough 82 = .ok (.bipush (-5), 2) := by decide +kernel
theorem dX5_liveThrough_84 : decode cX5_liveThrough 84 = .ok (.ireturn, 1) := by decide +kernel
theorem dX5_sheetsBy_0 : decode cX5_sheetsBy 0 = .ok (.aload_n 0, 1) := by decide +kernel
theorem dX5_sheetsBy_1 : decode cX5_sheetsBy 1 = .ok (.getfield 52, 3) := by decide +kernel
theorem dX5_sheetsBy_4 : decode cX5_sheetsBy 4 = .ok (.iload_n 1, 1) := by decide +kernel
theorem dX5_sheetsBy_5 : decode cX5_sheetsBy 5 = .ok (.invokevirtual 102, 3) := by decide +kernel
theorem dX5_sheetsBy_8 : decode cX5_sheetsBy 8 = .ok (.aload_n 0, 1) := by decide +kernel
theorem dX5_sheetsBy_9 : decode cX5_sheetsBy 9 = .ok (.getfield 52, 3) := by decide +kernel
theorem dX5_sheetsBy_12 : decode cX5_sheetsBy 12 = .ok (.aload_n 0, 1) := by decide +kernel
theorem dX5_sheetsBy_13 : decode cX5_sheetsBy 13 = .ok (.getfield 25, 3) := by decide +kernel
theorem dX5_sheetsBy_16 : decode cX5_sheetsBy 16 = .ok (.iconst 0, 1) := by decide +kernel
theorem dX5_sheetsBy_17 : decode cX5_sheetsBy 17 = .ok (.aload_n 0, 1) := by decide +kernel
theorem dX5_sheetsBy_18 : decode cX5_sheetsBy 18 = .ok (.getfield 25, 3) := by decide +kernel
theorem dX5_sheetsBy_21 : decode cX5_sheetsBy 21 = .ok (.getfield 89, 3) := by decide +kernel
theorem dX5_sheetsBy_24 : decode cX5_sheetsBy 24 = .ok (.invokevirtual 105, 3) := by decide +kernel
theorem dX5_sheetsBy_27 : decode cX5_sheetsBy 27 = .ok (.pop, 1) := by decide +kernel
theorem dX5_sheetsBy_28 : decode cX5_sheetsBy 28 = .ok (.aload_n 0, 1) := by decide +kernel
theorem dX5_sheetsBy_29 : decode cX5_sheetsBy 29 = .ok (.getfield 52, 3) := by decide +kernel
theorem dX5_sheetsBy_32 : decode cX5_sheetsBy 32 = .ok (.invokevirtual 240, 3) := by decide +kernel
theorem dX5_sheetsBy_35 : decode cX5_sheetsBy 35 = .ok (.ireturn, 1) := by decide +kernel
theorem dX5_refusalOfComing_0 : decode cX5_refusalOfComing 0 = .ok (.iload_n 1, 1) := by decide +kernel
theorem dX5_refusalOfComing_1 : decode cX5_refusalOfComing 1 = .ok (.invokestatic 96, 3) := by decide +kernel
theorem dX5_refusalOfComing_4 : decode cX5_refusalOfComing 4 = .ok (.ifCond .ne 6, 3) := by decide +kernel
theorem dX5_refusalOfComing_7 : decode cX5_refusalOfComing 7 = .ok (.bipush (-2), 2) := by decide +kernel
theorem dX5_refusalOfComing_9 : decode cX5_refusalOfComing 9 = .ok (.ireturn, 1) := by decide +kernel
theorem dX5_refusalOfComing_10 : decode cX5_refusalOfComing 10 = .ok (.aload_n 0, 1) := by decide +kernel
theorem dX5_refusalOfComing_11 : decode cX5_refusalOfComing 11 = .ok (.iconst (-1), 1) := by decide +kernel
theorem dX5_refusalOfComing_12 : decode cX5_refusalOfComing 12 = .ok (.invokevirtual 119, 3) := by decide +kernel
theorem dX5_refusalOfComing_15 : decode cX5_refusalOfComing 15 = .ok (.istore_n 2, 1) := by decide +kernel
theorem dX5_refusalOfComing_16 : decode cX5_refusalOfComing 16 = .ok (.iload_n 2, 1) := by decide +kernel
theorem dX5_refusalOfComing_17 : decode cX5_refusalOfComing 17 = .ok (.ifCond .eq 5, 3) := by decide +kernel
theorem dX5_refusalOfComing_20 : decode cX5_refusalOfComing 20 = .ok (.iload_n 2, 1) := by decide +kernel
theorem dX5_refusalOfComing_21 : decode cX5_refusalOfComing 21 = .ok (.ireturn, 1) := by decide +kernel
theorem dX5_refusalOfComing_22 : decode cX5_refusalOfComing 22 = .ok (.aload_n 0, 1) := by decide +kernel
theorem dX5_refusalOfComing_23 : decode cX5_refusalOfComing 23 = .ok (.getfield 25, 3) := by decide +kernel
theorem dX5_refusalOfComing_26 : decode cX5_refusalOfComing 26 = .ok (.invokevirtual 82, 3) := by decide +kernel
theorem dX5_refusalOfComing_29 : decode cX5_refusalOfComing 29 = .ok (.ifCond .eq 8, 3) := by decide +kernel
theorem dX5_refusalOfComing_32 : decode cX5_refusalOfComing 32 = .ok (.bipush (-4), 2) := by decide +kernel
theorem dX5_refusalOfComing_34 : decode cX5_refusalOfComing 34 = .ok (.goto 4, 3) := by decide +kernel
theorem dX5_refusalOfComing_37 : decode cX5_refusalOfComing 37 = .ok (.iconst 0, 1) := by decide +kernel
theorem dX5_refusalOfComing_38 : decode cX5_refusalOfComing 38 = .ok (.ireturn, 1) := by decide +kernel
theorem dX5_tryAllPlaces_0 : decode cX5_tryAllPlaces 0 = .ok (.aload_n 0, 1) := by decide +kernel
theorem dX5_tryAllPlaces_1 : decode cX5_tryAllPlaces 1 = .ok (.getfield 52, 3) := by decide +kernel
theorem dX5_tryAllPlaces_4 : decode cX5_tryAllPlaces 4 = .ok (.getfield 243, 3) := by decide +kernel
theorem dX5_tryAllPlaces_7 : decode cX5_tryAllPlaces 7 = .ok (.astore_n 2, 1) := by decide +kernel
theorem dX5_tryAllPlaces_8 : decode cX5_tryAllPlaces 8 = .ok (.aload_n 0, 1) := by decide +kernel
theorem dX5_tryAllPlaces_9 : decode cX5_tryAllPlaces 9 = .ok (.getfield 52, 3) := by decide +kernel
theorem dX5_tryAllPlaces_12 : decode cX5_tryAllPlaces 12 = .ok (.aload_n 0, 1) := by decide +kernel
theorem dX5_tryAllPlaces_13 : decode cX5_tryAllPlaces 13 = .ok (.getfield 12, 3) := by decide +kernel
theorem dX5_tryAllPlaces_16 : decode cX5_tryAllPlaces 16 = .ok (.getfield 79, 3) := by decide +kernel
theorem dX5_tryAllPlaces_19 : decode cX5_tryAllPlaces 19 = .ok (.invokevirtual 102, 3) := by decide +kernel
theorem dX5_tryAllPlaces_22 : decode cX5_tryAllPlaces 22 = .ok (.iconst 0, 1) := by decide +kernel
theorem dX5_tryAllPlaces_23 : decode cX5_tryAllPlaces 23 = .ok (.istore_n 3, 1) := by decide +kernel
theorem dX5_tryAllPlaces_24 : decode cX5_tryAllPlaces 24 = .ok (.aload_n 2, 1) := by decide +kernel
theorem dX5_tryAllPlaces_25 : decode cX5_tryAllPlaces 25 = .ok (.ifnull 83, 3) := by decide +kernel
theorem dX5_tryAllPlaces_28 : decode cX5_tryAllPlaces 28 = .ok (.iload_n 3, 1) := by decide +kernel
theorem dX5_tryAllPlaces_29 : decode cX5_tryAllPlaces 29 = .ok (.aload_n 0, 1) := by decide +kernel
theorem dX5_tryAllPlaces_30 : decode cX5_tryAllPlaces 30 = .ok (.getfield 25, 3) := by decide +kernel
theorem dX5_tryAllPlaces_33 : decode cX5_tryAllPlaces 33 = .ok (.getfield 89, 3) := by decide +kernel
theorem dX5_tryAllPlaces_36 : decode cX5_tryAllPlaces 36 = .ok (.if_icmp .gt 72, 3) := by decide +kernel
theorem dX5_tryAllPlaces_39 : decode cX5_tryAllPlaces 39 = .ok (.iload_n 3, 1) := by decide +kernel
theorem dX5_tryAllPlaces_40 : decode cX5_tryAllPlaces 40 = .ok (.bipush 48, 2) := by decide +kernel
theorem dX5_tryAllPlaces_42 : decode cX5_tryAllPlaces 42 = .ok (.if_icmp .ge 66, 3) := by decide +kernel
theorem dX5_tryAllPlaces_45 : decode cX5_tryAllPlaces 45 = .ok (.aload_n 2, 1) := by decide +kernel
theorem dX5_tryAllPlaces_46 : decode cX5_tryAllPlaces 46 = .ok (.aload_n 0, 1) := by decide +kernel
theorem dX5_tryAllPlaces_47 : decode cX5_tryAllPlaces 47 = .ok (.getfield 52, 3) := by decide +kernel
theorem dX5_tryAllPlaces_50 : decode cX5_tryAllPlaces 50 = .ok (.invokevirtual 246, 3) := by decide +kernel
theorem dX5_tryAllPlaces_53 : decode cX5_tryAllPlaces 53 = .ok (.aload_n 2, 1) := by decide +kernel
theorem dX5_tryAllPlaces_54 : decode cX5_tryAllPlaces 54 = .ok (.iload_n 1, 1) := by decide +kernel
theorem dX5_tryAllPlaces_55 : decode cX5_tryAllPlaces 55 = .ok (.invokevirtual 155, 3) := by decide +kernel
theorem dX5_tryAllPlaces_58 : decode cX5_tryAllPlaces 58 = .ok (.aload_n 2, 1) := by decide +kernel
theorem dX5_tryAllPlaces_59 : decode cX5_tryAllPlaces 59 = .ok (.aload_n 0, 1) := by decide +kernel
theorem dX5_tryAllPlaces_60 : decode cX5_tryAllPlaces 60 = .ok (.getfield 25, 3) := by decide +kernel
theorem dX5_tryAllPlaces_63 : decode cX5_tryAllPlaces 63 = .ok (.iload_n 3, 1) := by decide +kernel
theorem dX5_tryAllPlaces_64 : decode cX5_tryAllPlaces 64 = .ok (.aload_n 0, 1) := by decide +kernel
theorem dX5_tryAllPlaces_65 : decode cX5_tryAllPlaces 65 = .ok (.getfield 25, 3) := by decide +kernel
theorem dX5_tryAllPlaces_68 : decode cX5_tryAllPlaces 68 = .ok (.getfield 89, 3) := by decide +kernel
theorem dX5_tryAllPlaces_71 : decode cX5_tryAllPlaces 71 = .ok (.invokevirtual 105, 3) := by decide +kernel
theorem dX5_tryAllPlaces_74 : decode cX5_tryAllPlaces 74 = .ok (.pop, 1) := by decide +kernel
theorem dX5_tryAllPlaces_75 : decode cX5_tryAllPlaces 75 = .ok (.aload_n 0, 1) := by decide +kernel
theorem dX5_tryAllPlaces_76 : decode cX5_tryAllPlaces 76 = .ok (.getfield 43, 3) := by decide +kernel
theorem dX5_tryAllPlaces_79 : decode cX5_tryAllPlaces 79 = .ok (.iload_n 3, 1) := by decide +kernel
theorem dX5_tryAllPlaces_80 : decode cX5_tryAllPlaces 80 = .ok (.aload_n 2, 1) := by decide +kernel
theorem dX5_tryAllPlaces_81 : decode cX5_tryAllPlaces 81 = .ok (.iload_n 1, 1) := by decide +kernel
theorem dX5_tryAllPlaces_82 : decode cX5_tryAllPlaces 82 = .ok (.invokevirtual 122, 3) := by decide +kernel
theorem dX5_tryAllPlaces_85 : decode cX5_tryAllPlaces 85 = .ok (.iastore, 1) := by decide +kernel
theorem dX5_tryAllPlaces_86 : decode cX5_tryAllPlaces 86 = .ok (.aload_n 0, 1) := by decide +kernel
theorem dX5_tryAllPlaces_87 : decode cX5_tryAllPlaces 87 = .ok (.getfield 52, 3) := by decide +kernel
theorem dX5_tryAllPlaces_90 : decode cX5_tryAllPlaces 90 = .ok (.aload_n 0, 1) := by decide +kernel
theorem dX5_tryAllPlaces_91 : decode cX5_tryAllPlaces 91 = .ok (.getfield 25, 3) := by decide +kernel
theorem dX5_tryAllPlaces_94 : decode cX5_tryAllPlaces 94 = .ok (.iload_n 3, 1) := by decide +kernel
theorem dX5_tryAllPlaces_95 : decode cX5_tryAllPlaces 95 = .ok (.iload_n 3, 1) := by decide +kernel
theorem dX5_tryAllPlaces_96 : decode cX5_tryAllPlaces 96 = .ok (.iconst 1, 1) := by decide +kernel
theorem dX5_tryAllPlaces_97 : decode cX5_tryAllPlaces 97 = .ok (.iadd, 1) := by decide +kernel
theorem dX5_tryAllPlaces_98 : decode cX5_tryAllPlaces 98 = .ok (.invokevirtual 105, 3) := by decide +kernel
theorem dX5_tryAllPlaces_101 : decode cX5_tryAllPlaces 101 = .ok (.pop, 1) := by decide +kernel
theorem dX5_tryAllPlaces_102 : decode cX5_tryAllPlaces 102 = .ok (.iinc 3 1, 3) := by decide +kernel
theorem dX5_tryAllPlaces_105 : decode cX5_tryAllPlaces 105 = .ok (.goto (-81), 3) := by decide +kernel
theorem dX5_tryAllPlaces_108 : decode cX5_tryAllPlaces 108 = .ok (.return_, 1) := by decide +kernel
theorem dX5_bedComingAt_0 : decode cX5_bedComingAt 0 = .ok (.iload_n 1, 1) := by decide +kernel
theorem dX5_bedComingAt_1 : decode cX5_bedComingAt 1 = .ok (.ifCond .lt 18, 3) := by decide +kernel
theorem dX5_bedComingAt_4 : decode cX5_bedComingAt 4 = .ok (.iload_n 1, 1) := by decide +kernel
theorem dX5_bedComingAt_5 : decode cX5_bedComingAt 5 = .ok (.bipush 48, 2) := by decide +kernel
theorem dX5_bedComingAt_7 : decode cX5_bedComingAt 7 = .ok (.if_icmp .ge 12, 3) := by decide +kernel
theorem dX5_bedComingAt_10 : decode cX5_bedComingAt 10 = .ok (.aload_n 0, 1) := by decide +kernel
theorem dX5_bedComingAt_11 : decode cX5_bedComingAt 11 = .ok (.getfield 43, 3) := by decide +kernel
theorem dX5_bedComingAt_14 : decode cX5_bedComingAt 14 = .ok (.iload_n 1, 1) := by decide +kernel
theorem dX5_bedComingAt_15 : decode cX5_bedComingAt 15 = .ok (.iaload, 1) := by decide +kernel
theorem dX5_bedComingAt_16 : decode cX5_bedComingAt 16 = .ok (.goto 4, 3) := by decide +kernel
theorem dX5_bedComingAt_19 : decode cX5_bedComingAt 19 = .ok (.iconst (-1), 1) := by decide +kernel
theorem dX5_bedComingAt_20 : decode cX5_bedComingAt 20 = .ok (.ireturn, 1) := by decide +kernel
theorem dX5_worthComingAt_0 : decode cX5_worthComingAt 0 = .ok (.aload_n 0, 1) := by decide +kernel
theorem dX5_worthComingAt_1 : decode cX5_worthComingAt 1 = .ok (.iload_n 2, 1) := by decide +kernel
theorem dX5_worthComingAt_2 : decode cX5_worthComingAt 2 = .ok (.invokevirtual 149, 3) := by decide +kernel
theorem dX5_worthComingAt_5 : decode cX5_worthComingAt 5 = .ok (.istore_n 3, 1) := by decide +kernel
theorem dX5_worthComingAt_6 : decode cX5_worthComingAt 6 = .ok (.iload_n 3, 1) := by decide +kernel
theorem dX5_worthComingAt_7 : decode cX5_worthComingAt 7 = .ok (.iconst (-1), 1) := by decide +kernel
theorem dX5_worthComingAt_8 : decode cX5_worthComingAt 8 = .ok (.if_icmp .ne 7, 3) := by decide +kernel
theorem dX5_worthComingAt_11 : decode cX5_worthComingAt 11 = .ok (.iconst (-1), 1) := by decide +kernel
theorem dX5_worthComingAt_12 : decode cX5_worthComingAt 12 = .ok (.goto 12, 3) := by decide +kernel
theorem dX5_worthComingAt_15 : decode cX5_worthComingAt 15 = .ok (.aload_n 0, 1) := by decide +kernel
theorem dX5_worthComingAt_16 : decode cX5_worthComingAt 16 = .ok (.getfield 12, 3) := by decide +kernel
theorem dX5_worthComingAt_19 : decode cX5_worthComingAt 19 = .ok (.iload_n 1, 1) := by decide +kernel
theorem dX5_worthComingAt_20 : decode cX5_worthComingAt 20 = .ok (.iload_n 3, 1) := by decide +kernel
theorem dX5_worthComingAt_21 : decode cX5_worthComingAt 21 = .ok (.invokevirtual 71, 3) := by decide +kernel
theorem dX5_worthComingAt_24 : decode cX5_worthComingAt 24 = .ok (.ireturn, 1) := by decide +kernel
theorem dX5_spreadFrom_0 : decode cX5_spreadFrom 0 = .ok (.aload_n 0, 1) := by decide +kernel
theorem dX5_spreadFrom_1 : decode cX5_spreadFrom 1 = .ok (.getfield 52, 3) := by decide +kernel
theorem dX5_spreadFrom_4 : decode cX5_spreadFrom 4 = .ok (.aload_n 0, 1) := by decide +kernel
theorem dX5_spreadFrom_5 : decode cX5_spreadFrom 5 = .ok (.getfield 12, 3) := by decide +kernel
theorem dX5_spreadFrom_8 : decode cX5_spreadFrom 8 = .ok (.getfield 79, 3) := by decide +kernel
theorem dX5_spreadFrom_11 : decode cX5_spreadFrom 11 = .ok (.invokevirtual 102, 3) := by decide +kernel
theorem dX5_spreadFrom_14 : decode cX5_spreadFrom 14 = .ok (.aload_n 0, 1) := by decide +kernel
theorem dX5_spreadFrom_15 : decode cX5_spreadFrom 15 = .ok (.getfield 52, 3) := by decide +kernel
theorem dX5_spreadFrom_18 : decode cX5_spreadFrom 18 = .ok (.iload_n 1, 1) := by decide +kernel
theorem dX5_spreadFrom_19 : decode cX5_spreadFrom 19 = .ok (.invokevirtual 250, 3) := by decide +kernel
theorem dX5_spreadFrom_22 : decode cX5_spreadFrom 22 = .ok (.aload_n 0, 1) := by decide +kernel
theorem dX5_spreadFrom_23 : decode cX5_spreadFrom 23 = .ok (.getfield 52, 3) := by decide +kernel
theorem dX5_spreadFrom_26 : decode cX5_spreadFrom 26 = .ok (.aload_n 0, 1) := by decide +kernel
theorem dX5_spreadFrom_27 : decode cX5_spreadFrom 27 = .ok (.getfield 25, 3) := by decide +kernel
theorem dX5_spreadFrom_30 : decode cX5_spreadFrom 30 = .ok (.iconst 0, 1) := by decide +kernel
theorem dX5_spreadFrom_31 : decode cX5_spreadFrom 31 = .ok (.aload_n 0, 1) := by decide +kernel
theorem dX5_spreadFrom_32 : decode cX5_spreadFrom 32 = .ok (.getfield 25, 3) := by decide +kernel
theorem dX5_spreadFrom_35 : decode cX5_spreadFrom 35 = .ok (.getfield 89, 3) := by decide +kernel
theorem dX5_spreadFrom_38 : decode cX5_spreadFrom 38 = .ok (.invokevirtual 105, 3) := by decide +kernel
theorem dX5_spreadFrom_41 : decode cX5_spreadFrom 41 = .ok (.pop, 1) := by decide +kernel
theorem dX5_spreadFrom_42 : decode cX5_spreadFrom 42 = .ok (.return_, 1) := by decide +kernel
theorem dX5_weightOf_0 : decode cX5_weightOf 0 = .ok (.iload_n 2, 1) := by decide +kernel
theorem dX5_weightOf_1 : decode cX5_weightOf 1 = .ok (.ifCond .gt 18, 3) := by decide +kernel
theorem dX5_weightOf_4 : decode cX5_weightOf 4 = .ok (.aload_n 0, 1) := by decide +kernel
theorem dX5_weightOf_5 : decode cX5_weightOf 5 = .ok (.iload_n 1, 1) := by decide +kernel
theorem dX5_weightOf_6 : decode cX5_weightOf 6 = .ok (.invokevirtual 125, 3) := by decide +kernel
theorem dX5_weightOf_9 : decode cX5_weightOf 9 = .ok (.iconst (-1), 1) := by decide +kernel
theorem dX5_weightOf_10 : decode cX5_weightOf 10 = .ok (.if_icmp .ne 7, 3) := by decide +kernel
theorem dX5_weightOf_13 : decode cX5_weightOf 13 = .ok (.lconst 0, 1) := by decide +kernel
theorem dX5_weightOf_14 : decode cX5_weightOf 14 = .ok (.goto 4, 3) := by decide +kernel
theorem dX5_weightOf_17 : decode cX5_weightOf 17 = .ok (.lconst 1, 1) := by decide +kernel
theorem dX5_weightOf_18 : decode cX5_weightOf 18 = .ok (.lreturn, 1) := by decide +kernel
theorem dX5_weightOf_19 : decode cX5_weightOf 19 = .ok (.aload_n 0, 1) := by decide +kernel
theorem dX5_weightOf_20 : decode cX5_weightOf 20 = .ok (.getfield 243, 3) := by decide +kernel
theorem dX5_weightOf_23 : decode cX5_weightOf 23 = .ok (.astore 4, 2) := by decide +kernel
theorem dX5_weightOf_25 : decode cX5_weightOf 25 = .ok (.aload 4, 2) := by decide +kernel
theorem dX5_weightOf_27 : decode cX5_weightOf 27 = .ok (.ifnonnull 5, 3) := by decide +kernel
theorem dX5_weightOf_30 : decode cX5_weightOf 30 = .ok (.lconst 0, 1) := by decide +kernel
theorem dX5_weightOf_31 : decode cX5_weightOf 31 = .ok (.lreturn, 1) := by decide +kernel
theorem dX5_weightOf_32 : decode cX5_weightOf 32 = .ok (.aload 4, 2) := by decide +kernel
theorem dX5_weightOf_34 : decode cX5_weightOf 34 = .ok (.aload_n 0, 1) := by decide +kernel
theorem dX5_weightOf_35 : decode cX5_weightOf 35 = .ok (.invokevirtual 246, 3) := by decide +kernel
theorem dX5_weightOf_38 : decode cX5_weightOf 38 = .ok (.aload 4, 2) := by decide +kernel
theorem dX5_weightOf_40 : decode cX5_weightOf 40 = .ok (.bipush 8, 2) := by decide +kernel
theorem dX5_weightOf_42 : decode cX5_weightOf 42 = .ok (.invokevirtual 155, 3) := by decide +kernel
theorem dX5_weightOf_45 : decode cX5_weightOf 45 = .ok (.aload 4, 2) := by decide +kernel
theorem dX5_weightOf_47 : decode cX5_weightOf 47 = .ok (.iload_n 1, 1) := by decide +kernel
theorem dX5_weightOf_48 : decode cX5_weightOf 48 = .ok (.iload_n 2, 1) := by decide +kernel
theorem dX5_weightOf_49 : decode cX5_weightOf 49 = .ok (.iconst 1, 1) := by decide +kernel
theorem dX5_weightOf_50 : decode cX5_weightOf 50 = .ok (.isub, 1) := by decide +kernel
theorem dX5_weightOf_51 : decode cX5_weightOf 51 = .ok (.iload_n 3, 1) := by decide +kernel
theorem dX5_weightOf_52 : decode cX5_weightOf 52 = .ok (.invokestatic 211, 3) := by decide +kernel
theorem dX5_weightOf_55 : decode cX5_weightOf 55 = .ok (.lstore 5, 2) := by decide +kernel
theorem dX5_weightOf_57 : decode cX5_weightOf 57 = .ok (.aload 4, 2) := by decide +kernel
theorem dX5_weightOf_59 : decode cX5_weightOf 59 = .ok (.aload_n 0, 1) := by decide +kernel
theorem dX5_weightOf_60 : decode cX5_weightOf 60 = .ok (.invokevirtual 246, 3) := by decide +kernel
theorem dX5_weightOf_63 : decode cX5_weightOf 63 = .ok (.aload 4, 2) := by decide +kernel
theorem dX5_weightOf_65 : decode cX5_weightOf 65 = .ok (.invokevirtual 253, 3) := by decide +kernel
theorem dX5_weightOf_68 : decode cX5_weightOf 68 = .ok (.aload 4, 2) := by decide +kernel
theorem dX5_weightOf_70 : decode cX5_weightOf 70 = .ok (.iload_n 1, 1) := by decide +kernel
theorem dX5_weightOf_71 : decode cX5_weightOf 71 = .ok (.iload_n 2, 1) := by decide +kernel
theorem dX5_weightOf_72 : decode cX5_weightOf 72 = .ok (.iconst 1, 1) := by decide +kernel
theorem dX5_weightOf_73 : decode cX5_weightOf 73 = .ok (.isub, 1) := by decide +kernel
theorem dX5_weightOf_74 : decode cX5_weightOf 74 = .ok (.iload_n 3, 1) := by decide +kernel
theorem dX5_weightOf_75 : decode cX5_weightOf 75 = .ok (.invokestatic 211, 3) := by decide +kernel
theorem dX5_weightOf_78 : decode cX5_weightOf 78 = .ok (.lstore 7, 2) := by decide +kernel
theorem dX5_weightOf_80 : decode cX5_weightOf 80 = .ok (.iload_n 3, 1) := by decide +kernel
theorem dX5_weightOf_81 : decode cX5_weightOf 81 = .ok (.i2l, 1) := by decide +kernel
theorem dX5_weightOf_82 : decode cX5_weightOf 82 = .ok (.lload 5, 2) := by decide +kernel
theorem dX5_weightOf_84 : decode cX5_weightOf 84 = .ok (.lmul, 1) := by decide +kernel
theorem dX5_weightOf_85 : decode cX5_weightOf 85 = .ok (.bipush 10, 2) := by decide +kernel
theorem dX5_weightOf_87 : decode cX5_weightOf 87 = .ok (.iload_n 3, 1) := by decide +kernel
theorem dX5_weightOf_88 : decode cX5_weightOf 88 = .ok (.isub, 1) := by decide +kernel
theorem dX5_weightOf_89 : decode cX5_weightOf 89 = .ok (.i2l, 1) := by decide +kernel
theorem dX5_weightOf_90 : decode cX5_weightOf 90 = .ok (.lload 7, 2) := by decide +kernel
theorem dX5_weightOf_92 : decode cX5_weightOf 92 = .ok (.lmul, 1) := by decide +kernel
theorem dX5_weightOf_93 : decode cX5_weightOf 93 = .ok (.ladd, 1) := by decide +kernel
theorem dX5_weightOf_94 : decode cX5_weightOf 94 = .ok (.lreturn, 1) := by decide +kernel
theorem dX5_partInLowestTerms_0 : decode cX5_partInLowestTerms 0 = .ok (.lload_n 0, 1) := by decide +kernel
theorem dX5_partInLowestTerms_1 : decode cX5_partInLowestTerms 1 = .ok (.lstore 4, 2) := by decide +kernel
theorem dX5_partInLowestTerms_3 : decode cX5_partInLowestTerms 3 = .ok (.lconst 1, 1) := by decide +kernel
theorem dX5_partInLowestTerms_4 : decode cX5_partInLowestTerms 4 = .ok (.lstore 6, 2) := by decide +kernel
theorem dX5_partInLowestTerms_6 : decode cX5_partInLowestTerms 6 = .ok (.iconst 0, 1) := by decide +kernel
theorem dX5_partInLowestTerms_7 : decode cX5_partInLowestTerms 7 = .ok (.istore 8, 2) := by decide +kernel
theorem dX5_partInLowestTerms_9 : decode cX5_partInLowestTerms 9 = .ok (.iload 8, 2) := by decide +kernel
theorem dX5_partInLowestTerms_11 : decode cX5_partInLowestTerms 11 = .ok (.iload_n 2, 1) := by decide +kernel
theorem dX5_partInLowestTerms_12 : decode cX5_partInLowestTerms 12 = .ok (.if_icmp .ge 17, 3) := by decide +kernel
theorem dX5_partInLowestTerms_15 : decode cX5_partInLowestTerms 15 = .ok (.lload 6, 2) := by decide +kernel
theorem dX5_partInLowestTerms_17 : decode cX5_partInLowestTerms 17 = .ok (.ldc2_w 256, 3) := by decide +kernel
theorem dX5_partInLowestTerms_20 : decode cX5_partInLowestTerms 20 = .ok (.lmul, 1) := by decide +kernel
theorem dX5_partInLowestTerms_21 : decode cX5_partInLowestTerms 21 = .ok (.lstore 6, 2) := by decide +kernel
theorem dX5_partInLowestTerms_23 : decode cX5_partInLowestTerms 23 = .ok (.iinc 8 1, 3) := by decide +kernel
theorem dX5_partInLowestTerms_26 : decode cX5_partInLowestTerms 26 = .ok (.goto (-17), 3) := by decide +kernel
theorem dX5_partInLowestTerms_29 : decode cX5_partInLowestTerms 29 = .ok (.iconst 0, 1) := by decide +kernel
theorem dX5_partInLowestTerms_30 : decode cX5_partInLowestTerms 30 = .ok (.istore 8, 2) := by decide +kernel
theorem dX5_partInLowestTerms_32 : decode cX5_partInLowestTerms 32 = .ok (.iload 8, 2) := by decide +kernel
theorem dX5_partInLowestTerms_34 : decode cX5_partInLowestTerms 34 = .ok (.iload_n 2, 1) := by decide +kernel
theorem dX5_partInLowestTerms_35 : decode cX5_partInLowestTerms 35 = .ok (.if_icmp .ge 85, 3) := by decide +kernel
theorem dX5_partInLowestTerms_38 : decode cX5_partInLowestTerms 38 = .ok (.lload 4, 2) := by decide +kernel
theorem dX5_partInLowestTerms_40 : decode cX5_partInLowestTerms 40 = .ok (.ldc2_w 258, 3) := by decide +kernel
theorem dX5_partInLowestTerms_43 : decode cX5_partInLowestTerms 43 = .ok (.lrem, 1) := by decide +kernel
theorem dX5_partInLowestTerms_44 : decode cX5_partInLowestTerms 44 = .ok (.lconst 0, 1) := by decide +kernel
theorem dX5_partInLowestTerms_45 : decode cX5_partInLowestTerms 45 = .ok (.lcmp, 1) := by decide +kernel
theorem dX5_partInLowestTerms_46 : decode cX5_partInLowestTerms 46 = .ok (.ifCond .ne 30, 3) := by decide +kernel
theorem dX5_partInLowestTerms_49 : decode cX5_partInLowestTerms 49 = .ok (.lload 6, 2) := by decide +kernel
theorem dX5_partInLowestTerms_51 : decode cX5_partInLowestTerms 51 = .ok (.ldc2_w 258, 3) := by decide +kernel
theorem dX5_partInLowestTerms_54 : decode cX5_partInLowestTerms 54 = .ok (.lrem, 1) := by decide +kernel
theorem dX5_partInLowestTerms_55 : decode cX5_partInLowestTerms 55 = .ok (.lconst 0, 1) := by decide +kernel
theorem dX5_partInLowestTerms_56 : decode cX5_partInLowestTerms 56 = .ok (.lcmp, 1) := by decide +kernel
theorem dX5_partInLowestTerms_57 : decode cX5_partInLowestTerms 57 = .ok (.ifCond .ne 19, 3) := by decide +kernel
theorem dX5_partInLowestTerms_60 : decode cX5_partInLowestTerms 60 = .ok (.lload 4, 2) := by decide +kernel
theorem dX5_partInLowestTerms_62 : decode cX5_partInLowestTerms 62 = .ok (.ldc2_w 258, 3) := by decide +kernel
theorem dX5_partInLowestTerms_65 : decode cX5_partInLowestTerms 65 = .ok (.ldiv, 1) := by decide +kernel
theorem dX5_partInLowestTerms_66 : decode cX5_partInLowestTerms 66 = .ok (.lstore 4, 2) := by decide +kernel
theorem dX5_partInLowestTerms_68 : decode cX5_partInLowestTerms 68 = .ok (.lload 6, 2) := by decide +kernel
theorem dX5_partInLowestTerms_70 : decode cX5_partInLowestTerms 70 = .ok (.ldc2_w 258, 3) := by decide +kernel
theorem dX5_partInLowestTerms_73 : decode cX5_partInLowestTerms 73 = .ok (.ldiv, 1) := by decide +kernel
theorem dX5_partInLowestTerms_74 : decode cX5_partInLowestTerms 74 = .ok (.lstore 6, 2) := by decide +kernel
theorem dX5_partInLowestTerms_76 : decode cX5_partInLowestTerms 76 = .ok (.lload 4, 2) := by decide +kernel
theorem dX5_partInLowestTerms_78 : decode cX5_partInLowestTerms 78 = .ok (.ldc2_w 260, 3) := by decide +kernel
theorem dX5_partInLowestTerms_81 : decode cX5_partInLowestTerms 81 = .ok (.lrem, 1) := by decide +kernel
theorem dX5_partInLowestTerms_82 : decode cX5_partInLowestTerms 82 = .ok (.lconst 0, 1) := by decide +kernel
theorem dX5_partInLowestTerms_83 : decode cX5_partInLowestTerms 83 = .ok (.lcmp, 1) := by decide +kernel
theorem dX5_partInLowestTerms_84 : decode cX5_partInLowestTerms 84 = .ok (.ifCond .ne 30, 3) := by decide +kernel
theorem dX5_partInLowestTerms_87 : decode cX5_partInLowestTerms 87 = .ok (.lload 6, 2) := by decide +kernel
theorem dX5_partInLowestTerms_89 : decode cX5_partInLowestTerms 89 = .ok (.ldc2_w 260, 3) := by decide +kernel
theorem dX5_partInLowestTerms_92 : decode cX5_partInLowestTerms 92 = .ok (.lrem, 1) := by decide +kernel
theorem dX5_partInLowestTerms_93 : decode cX5_partInLowestTerms 93 = .ok (.lconst 0, 1) := by decide +kernel
theorem dX5_partInLowestTerms_94 : decode cX5_partInLowestTerms 94 = .ok (.lcmp, 1) := by decide +kernel
theorem dX5_partInLowestTerms_95 : decode cX5_partInLowestTerms 95 = .ok (.ifCond .ne 19, 3) := by decide +kernel
theorem dX5_partInLowestTerms_98 : decode cX5_partInLowestTerms 98 = .ok (.lload 4, 2) := by decide +kernel
theorem dX5_partInLowestTerms_100 : decode cX5_partInLowestTerms 100 = .ok (.ldc2_w 260, 3) := by decide +kernel
theorem dX5_partInLowestTerms_103 : decode cX5_partInLowestTerms 103 = .ok (.ldiv, 1) := by decide +kernel
theorem dX5_partInLowestTerms_104 : decode cX5_partInLowestTerms 104 = .ok (.lstore 4, 2) := by decide +kernel
theorem dX5_partInLowestTerms_106 : decode cX5_partInLowestTerms 106 = .ok (.lload 6, 2) := by decide +kernel
theorem dX5_partInLowestTerms_108 : decode cX5_partInLowestTerms 108 = .ok (.ldc2_w 260, 3) := by decide +kernel
theorem dX5_partInLowestTerms_111 : decode cX5_partInLowestTerms 111 = .ok (.ldiv, 1) := by decide +kernel
theorem dX5_partInLowestTerms_112 : decode cX5_partInLowestTerms 112 = .ok (.lstore 6, 2) := by decide +kernel
theorem dX5_partInLowestTerms_114 : decode cX5_partInLowestTerms 114 = .ok (.iinc 8 1, 3) := by decide +kernel
theorem dX5_partInLowestTerms_117 : decode cX5_partInLowestTerms 117 = .ok (.goto (-85), 3) := by decide +kernel
theorem dX5_partInLowestTerms_120 : decode cX5_partInLowestTerms 120 = .ok (.iload_n 3, 1) := by decide +kernel
theorem dX5_partInLowestTerms_121 : decode cX5_partInLowestTerms 121 = .ok (.ifCond .ne 8, 3) := by decide +kernel
theorem dX5_partInLowestTerms_124 : decode cX5_partInLowestTerms 124 = .ok (.lload 4, 2) := by decide +kernel
theorem dX5_partInLowestTerms_126 : decode cX5_partInLowestTerms 126 = .ok (.goto 5, 3) := by decide +kernel
theorem dX5_partInLowestTerms_129 : decode cX5_partInLowestTerms 129 = .ok (.lload 6, 2) := by decide +kernel
theorem dX5_partInLowestTerms_131 : decode cX5_partInLowestTerms 131 = .ok (.lreturn, 1) := by decide +kernel
theorem dX5_worthTold_0 : decode cX5_worthTold 0 = .ok (.iload_n 1, 1) := by decide +kernel
theorem dX5_worthTold_1 : decode cX5_worthTold 1 = .ok (.bipush 10, 2) := by decide +kernel
theorem dX5_worthTold_3 : decode cX5_worthTold 3 = .ok (.if_icmp .lt 9, 3) := by decide +kernel
theorem dX5_worthTold_6 : decode cX5_worthTold 6 = .ok (.iload_n 1, 1) := by decide +kernel
theorem dX5_worthTold_7 : decode cX5_worthTold 7 = .ok (.bipush 87, 2) := by decide +kernel
theorem dX5_worthTold_9 : decode cX5_worthTold 9 = .ok (.if_icmp .le 6, 3) := by decide +kernel
theorem dX5_worthTold_12 : decode cX5_worthTold 12 = .ok (.bipush (-2), 2) := by decide +kernel
theorem dX5_worthTold_14 : decode cX5_worthTold 14 = .ok (.ireturn, 1) := by decide +kernel
theorem dX5_worthTold_15 : decode cX5_worthTold 15 = .ok (.iload_n 1, 1) := by decide +kernel
theorem dX5_worthTold_16 : decode cX5_worthTold 16 = .ok (.bipush 10, 2) := by decide +kernel
theorem dX5_worthTold_18 : decode cX5_worthTold 18 = .ok (.idiv, 1) := by decide +kernel
theorem dX5_worthTold_19 : decode cX5_worthTold 19 = .ok (.iconst 1, 1) := by decide +kernel
theorem dX5_worthTold_20 : decode cX5_worthTold 20 = .ok (.isub, 1) := by decide +kernel
theorem dX5_worthTold_21 : decode cX5_worthTold 21 = .ok (.istore_n 2, 1) := by decide +kernel
theorem dX5_worthTold_22 : decode cX5_worthTold 22 = .ok (.iload_n 1, 1) := by decide +kernel
theorem dX5_worthTold_23 : decode cX5_worthTold 23 = .ok (.bipush 10, 2) := by decide +kernel
theorem dX5_worthTold_25 : decode cX5_worthTold 25 = .ok (.irem, 1) := by decide +kernel
theorem dX5_worthTold_26 : decode cX5_worthTold 26 = .ok (.istore_n 3, 1) := by decide +kernel
theorem dX5_worthTold_27 : decode cX5_worthTold 27 = .ok (.aload_n 0, 1) := by decide +kernel
theorem dX5_worthTold_28 : decode cX5_worthTold 28 = .ok (.iload_n 3, 1) := by decide +kernel
theorem dX5_worthTold_29 : decode cX5_worthTold 29 = .ok (.invokevirtual 68, 3) := by decide +kernel
theorem dX5_worthTold_32 : decode cX5_worthTold 32 = .ok (.ifCond .eq 15, 3) := by decide +kernel
theorem dX5_worthTold_35 : decode cX5_worthTold 35 = .ok (.aload_n 0, 1) := by decide +kernel
theorem dX5_worthTold_36 : decode cX5_worthTold 36 = .ok (.getfield 12, 3) := by decide +kernel
theorem dX5_worthTold_39 : decode cX5_worthTold 39 = .ok (.iload_n 2, 1) := by decide +kernel
theorem dX5_worthTold_40 : decode cX5_worthTold 40 = .ok (.iload_n 3, 1) := by decide +kernel
theorem dX5_worthTold_41 : decode cX5_worthTold 41 = .ok (.invokevirtual 71, 3) := by decide +kernel
theorem dX5_worthTold_44 : decode cX5_worthTold 44 = .ok (.goto 5, 3) := by decide +kernel
theorem dX5_worthTold_47 : decode cX5_worthTold 47 = .ok (.bipush (-2), 2) := by decide +kernel
theorem dX5_worthTold_49 : decode cX5_worthTold 49 = .ok (.ireturn, 1) := by decide +kernel
theorem dX6_init_0 : decode cX6_init 0 = .ok (.aload_n 0, 1) := by decide +kernel
theorem dX6_init_1 : decode cX6_init 1 = .ok (.invokespecial 1, 3) := by decide +kernel
theorem dX6_init_4 : decode cX6_init 4 = .ok (.aload_n 0, 1) := by decide +kernel
theorem dX6_init_5 : decode cX6_init 5 = .ok (.iconst 4, 1) := by decide +kernel
theorem dX6_init_6 : decode cX6_init 6 = .ok (.putfield 7, 3) := by decide +kernel
theorem dX6_init_9 : decode cX6_init 9 = .ok (.aload_n 0, 1) := by decide +kernel
theorem dX6_init_10 : decode cX6_init 10 = .ok (.bipush 64, 2) := by decide +kernel
theorem dX6_init_12 : decode cX6_init 12 = .ok (.newarray .int, 2) := by decide +kernel
theorem dX6_init_14 : decode cX6_init 14 = .ok (.putfield 13, 3) := by decide +kernel
theorem dX6_init_17 : decode cX6_init 17 = .ok (.aload_n 0, 1) := by decide +kernel
theorem dX6_init_18 : decode cX6_init 18 = .ok (.bipush 12, 2) := by decide +kernel
theorem dX6_init_20 : decode cX6_init 20 = .ok (.newarray .int, 2) := by decide +kernel
theorem dX6_init_22 : decode cX6_init 22 = .ok (.putfield 17, 3) := by decide +kernel
theorem dX6_init_25 : decode cX6_init 25 = .ok (.aload_n 0, 1) := by decide +kernel
theorem dX6_init_26 : decode cX6_init 26 = .ok (.bipush 48, 2) := by decide +kernel
theorem dX6_init_28 : decode cX6_init 28 = .ok (.newarray .int, 2) := by decide +kernel
theorem dX6_init_30 : decode cX6_init 30 = .ok (.putfield 20, 3) := by decide +kernel
theorem dX6_init_33 : decode cX6_init 33 = .ok (.aload_n 0, 1) := by decide +kernel
theorem dX6_init_34 : decode cX6_init 34 = .ok (.bipush 8, 2) := by decide +kernel
theorem dX6_init_36 : decode cX6_init 36 = .ok (.newarray .int, 2) := by decide +kernel
theorem dX6_init_38 : decode cX6_init 38 = .ok (.putfield 23, 3) := by decide +kernel
theorem dX6_init_41 : decode cX6_init 41 = .ok (.aload_n 0, 1) := by decide +kernel
theorem dX6_init_42 : decode cX6_init 42 = .ok (.bipush 8, 2) := by decide +kernel
theorem dX6_init_44 : decode cX6_init 44 = .ok (.newarray .int, 2) := by decide +kernel
theorem dX6_init_46 : decode cX6_init 46 = .ok (.putfield 26, 3) := by decide +kernel
theorem dX6_init_49 : decode cX6_init 49 = .ok (.aload_n 0, 1) := by decide +kernel
theorem dX6_init_50 : decode cX6_init 50 = .ok (.bipush 64, 2) := by decide +kernel
theorem dX6_init_52 : decode cX6_init 52 = .ok (.newarray .int, 2) := by decide +kernel
theorem dX6_init_54 : decode cX6_init 54 = .ok (.putfield 29, 3) := by decide +kernel
theorem dX6_init_57 : decode cX6_init 57 = .ok (.aload_n 0, 1) := by decide +kernel
theorem dX6_init_58 : decode cX6_init 58 = .ok (.bipush 8, 2) := by decide +kernel
theorem dX6_init_60 : decode cX6_init 60 = .ok (.newarray .int, 2) := by decide +kernel
theorem dX6_init_62 : decode cX6_init 62 = .ok (.putfield 32, 3) := by decide +kernel
theorem dX6_init_65 : decode cX6_init 65 = .ok (.aload_n 0, 1) := by decide +kernel
theorem dX6_init_66 : decode cX6_init 66 = .ok (.bipush 8, 2) := by decide +kernel
theorem dX6_init_68 : decode cX6_init 68 = .ok (.newarray .int, 2) := by decide +kernel
theorem dX6_init_70 : decode cX6_init 70 = .ok (.putfield 35, 3) := by decide +kernel
theorem dX6_init_73 : decode cX6_init 73 = .ok (.aload_n 0, 1) := by decide +kernel
theorem dX6_init_74 : decode cX6_init 74 = .ok (.bipush 8, 2) := by decide +kernel
theorem dX6_init_76 : decode cX6_init 76 = .ok (.newarray .int, 2) := by decide +kernel
theorem dX6_init_78 : decode cX6_init 78 = .ok (.putfield 38, 3) := by decide +kernel
theorem dX6_init_81 : decode cX6_init 81 = .ok (.aload_n 0, 1) := by decide +kernel
theorem dX6_init_82 : decode cX6_init 82 = .ok (.bipush 8, 2) := by decide +kernel
theorem dX6_init_84 : decode cX6_init 84 = .ok (.newarray .int, 2) := by decide +kernel
theorem dX6_init_86 : decode cX6_init 86 = .ok (.putfield 41, 3) := by decide +kernel
theorem dX6_init_89 : decode cX6_init 89 = .ok (.aload_n 0, 1) := by decide +kernel
theorem dX6_init_90 : decode cX6_init 90 = .ok (.bipush 8, 2) := by decide +kernel
theorem dX6_init_92 : decode cX6_init 92 = .ok (.newarray .int, 2) := by decide +kernel
theorem dX6_init_94 : decode cX6_init 94 = .ok (.putfield 44, 3) := by decide +kernel
theorem dX6_init_97 : decode cX6_init 97 = .ok (.aload_n 0, 1) := by decide +kernel
theorem dX6_init_98 : decode cX6_init 98 = .ok (.bipush 8, 2) := by decide +kernel
theorem dX6_init_100 : decode cX6_init 100 = .ok (.newarray .int, 2) := by decide +kernel
theorem dX6_init_102 : decode cX6_init 102 = .ok (.putfield 47, 3) := by decide +kernel
theorem dX6_init_105 : decode cX6_init 105 = .ok (.aload_n 0, 1) := by decide +kernel
theorem dX6_init_106 : decode cX6_init 106 = .ok (.sipush 160, 3) := by decide +kernel
theorem dX6_init_109 : decode cX6_init 109 = .ok (.newarray .int, 2) := by decide +kernel
theorem dX6_init_111 : decode cX6_init 111 = .ok (.putfield 50, 3) := by decide +kernel
theorem dX6_init_114 : decode cX6_init 114 = .ok (.aload_n 0, 1) := by decide +kernel
theorem dX6_init_115 : decode cX6_init 115 = .ok (.iconst 2, 1) := by decide +kernel
theorem dX6_init_116 : decode cX6_init 116 = .ok (.newarray .boolean, 2) := by decide +kernel
theorem dX6_init_118 : decode cX6_init 118 = .ok (.putfield 53, 3) := by decide +kernel
theorem dX6_init_121 : decode cX6_init 121 = .ok (.aload_n 0, 1) := by decide +kernel
theorem dX6_init_122 : decode cX6_init 122 = .ok (.iconst 0, 1) := by decide +kernel
theorem dX6_init_123 : decode cX6_init 123 = .ok (.putfield 57, 3) := by decide +kernel
theorem dX6_init_126 : decode cX6_init 126 = .ok (.return_, 1) := by decide +kernel
theorem dX6_in_0 : decode cX6_in 0 = .ok (.iload_n 0, 1) := by decide +kernel
theorem dX6_in_1 : decode cX6_in 1 = .ok (.iload_n 1, 1) := by decide +kernel
theorem dX6_in_2 : decode cX6_in 2 = .ok (.if_icmp .lt 12, 3) := by decide +kernel
theorem dX6_in_5 : decode cX6_in 5 = .ok (.iload_n 0, 1) := by decide +kernel
theorem dX6_in_6 : decode cX6_in 6 = .ok (.iload_n 2, 1) := by decide +kernel
theorem dX6_in_7 : decode cX6_in 7 = .ok (.if_icmp .gt 7, 3) := by decide +kernel
theorem dX6_in_10 : decode cX6_in 10 = .ok (.iconst 1, 1) := by decide +kernel
theorem dX6_in_11 : decode cX6_in 11 = .ok (.goto 4, 3) := by decide +kernel
theorem dX6_in_14 : decode cX6_in 14 = .ok (.iconst 0, 1) := by decide +kernel
theorem dX6_in_15 : decode cX6_in 15 = .ok (.ireturn, 1) := by decide +kernel
theorem dX6_has_0 : decode cX6_has 0 = .ok (.iload_n 0, 1) := by decide +kernel
theorem dX6_has_1 : decode cX6_has 1 = .ok (.iload_n 1, 1) := by decide +kernel
theorem dX6_has_2 : decode cX6_has 2 = .ok (.ishr, 1) := by decide +kernel
theorem dX6_has_3 : decode cX6_has 3 = .ok (.iconst 1, 1) := by decide +kernel
theorem dX6_has_4 : decode cX6_has 4 = .ok (.iand, 1) := by decide +kernel
theorem dX6_has_5 : decode cX6_has 5 = .ok (.iconst 1, 1) := by decide +kernel
theorem dX6_has_6 : decode cX6_has 6 = .ok (.if_icmp .ne 7, 3) := by decide +kernel
theorem dX6_has_9 : decode cX6_has 9 = .ok (.iconst 1, 1) := by decide +kernel
theorem dX6_has_10 : decode cX6_has 10 = .ok (.goto 4, 3) := by decide +kernel
theorem dX6_has_13 : decode cX6_has 13 = .ok (.iconst 0, 1) := by decide +kernel
theorem dX6_has_14 : decode cX6_has 14 = .ok (.ireturn, 1) := by decide +kernel
theorem dX6_isGuest_0 : decode cX6_isGuest 0 = .ok (.iload_n 0, 1) := by decide +kernel
theorem dX6_isGuest_1 : decode cX6_isGuest 1 = .ok (.iconst 0, 1) := by decide +kernel
theorem dX6_isGuest_2 : decode cX6_isGuest 2 = .ok (.bipush 7, 2) := by decide +kernel
theorem dX6_isGuest_4 : decode cX6_isGuest 4 = .ok (.invokestatic 60, 3) := by decide +kernel
theorem dX6_isGuest_7 : decode cX6_isGuest 7 = .ok (.ireturn, 1) := by decide +kernel
theorem dX6_isBed_0 : decode cX6_isBed 0 = .ok (.iload_n 1, 1) := by decide +kernel
theorem dX6_isBed_1 : decode cX6_isBed 1 = .ok (.iconst 0, 1) := by decide +kernel
theorem dX6_isBed_2 : decode cX6_isBed 2 = .ok (.aload_n 0, 1) := by decide +kernel
theorem dX6_isBed_3 : decode cX6_isBed 3 = .ok (.getfield 7, 3) := by decide +kernel
theorem dX6_isBed_6 : decode cX6_isBed 6 = .ok (.iconst 1, 1) := by decide +kernel
theorem dX6_isBed_7 : decode cX6_isBed 7 = .ok (.isub, 1) := by decide +kernel
theorem dX6_isBed_8 : decode cX6_isBed 8 = .ok (.invokestatic 60, 3) := by decide +kernel
theorem dX6_isBed_11 : decode cX6_isBed 11 = .ok (.ireturn, 1) := by decide +kernel
theorem dX6_beds_0 : decode cX6_beds 0 = .ok (.iload_n 1, 1) := by decide +kernel
theorem dX6_beds_1 : decode cX6_beds 1 = .ok (.iconst 2, 1) := by decide +kernel
theorem dX6_beds_2 : decode cX6_beds 2 = .ok (.bipush 8, 2) := by decide +kernel
theorem dX6_beds_4 : decode cX6_beds 4 = .ok (.invokestatic 60, 3) := by decide +kernel
theorem dX6_beds_7 : decode cX6_beds 7 = .ok (.ifCond .ne 6, 3) := by decide +kernel
theorem dX6_beds_10 : decode cX6_beds 10 = .ok (.bipush (-2), 2) := by decide +kernel
theorem dX6_beds_12 : decode cX6_beds 12 = .ok (.ireturn, 1) := by decide +kernel
theorem dX6_beds_13 : decode cX6_beds 13 = .ok (.aload_n 0, 1) := by decide +kernel
theorem dX6_beds_14 : decode cX6_beds 14 = .ok (.getfield 7, 3) := by decide +kernel
theorem dX6_beds_17 : decode cX6_beds 17 = .ok (.istore_n 2, 1) := by decide +kernel
theorem dX6_beds_18 : decode cX6_beds 18 = .ok (.aload_n 0, 1) := by decide +kernel
theorem dX6_beds_19 : decode cX6_beds 19 = .ok (.iload_n 1, 1) := by decide +kernel
theorem dX6_beds_20 : decode cX6_beds 20 = .ok (.putfield 7, 3) := by decide +kernel
theorem dX6_beds_23 : decode cX6_beds 23 = .ok (.aload_n 0, 1) := by decide +kernel
theorem dX6_beds_24 : decode cX6_beds 24 = .ok (.iconst 0, 1) := by decide +kernel
theorem dX6_beds_25 : decode cX6_beds 25 = .ok (.putfield 64, 3) := by decide +kernel
theorem dX6_beds_28 : decode cX6_beds 28 = .ok (.iconst 0, 1) := by decide +kernel
theorem dX6_beds_29 : decode cX6_beds 29 = .ok (.istore_n 3, 1) := by decide +kernel
theorem dX6_beds_30 : decode cX6_beds 30 = .ok (.iload_n 3, 1) := by decide +kernel
theorem dX6_beds_31 : decode cX6_beds 31 = .ok (.bipush 64, 2) := by decide +kernel
theorem dX6_beds_33 : decode cX6_beds 33 = .ok (.if_icmp .ge 16, 3) := by decide +kernel
theorem dX6_beds_36 : decode cX6_beds 36 = .ok (.aload_n 0, 1) := by decide +kernel
theorem dX6_beds_37 : decode cX6_beds 37 = .ok (.getfield 13, 3) := by decide +kernel
theorem dX6_beds_40 : decode cX6_beds 40 = .ok (.iload_n 3, 1) := by decide +kernel
theorem dX6_beds_41 : decode cX6_beds 41 = .ok (.iconst 0, 1) := by decide +kernel
theorem dX6_beds_42 : decode cX6_beds 42 = .ok (.iastore, 1) := by decide +kernel
theorem dX6_beds_43 : decode cX6_beds 43 = .ok (.iinc 3 1, 3) := by decide +kernel
theorem dX6_beds_46 : decode cX6_beds 46 = .ok (.goto (-16), 3) := by decide +kernel
theorem dX6_beds_49 : decode cX6_beds 49 = .ok (.iload_n 2, 1) := by decide +kernel
theorem dX6_beds_50 : decode cX6_beds 50 = .ok (.ireturn, 1) := by decide +kernel
theorem dX6_worth_0 : decode cX6_worth 0 = .ok (.iload_n 1, 1) := by decide +kernel
theorem dX6_worth_1 : decode cX6_worth 1 = .ok (.invokestatic 67, 3) := by decide +kernel
theorem dX6_worth_4 : decode cX6_worth 4 = .ok (.ifCond .eq 11, 3) := by decide +kernel
theorem dX6_worth_7 : decode cX6_worth 7 = .ok (.aload_n 0, 1) := by decide +kernel
theorem dX6_worth_8 : decode cX6_worth 8 = .ok (.iload_n 2, 1) := by decide +kernel
theorem dX6_worth_9 : decode cX6_worth 9 = .ok (.invokevirtual 71, 3) := by decide +kernel
theorem dX6_worth_12 : decode cX6_worth 12 = .ok (.ifCond .ne 5, 3) := by decide +kernel
theorem dX6_worth_15 : decode cX6_worth 15 = .ok (.iconst (-1), 1) := by decide +kernel
theorem dX6_worth_16 : decode cX6_worth 16 = .ok (.ireturn, 1) := by decide +kernel
theorem dX6_worth_17 : decode cX6_worth 17 = .ok (.iload_n 3, 1) := by decide +kernel
theorem dX6_worth_18 : decode cX6_worth 18 = .ok (.iconst 0, 1) := by decide +kernel
theorem dX6_worth_19 : decode cX6_worth 19 = .ok (.bipush 99, 2) := by decide +kernel
theorem dX6_worth_21 : decode cX6_worth 21 = .ok (.invokestatic 60, 3) := by decide +kernel
theorem dX6_worth_24 : decode cX6_worth 24 = .ok (.ifCond .ne 6, 3) := by decide +kernel
theorem dX6_worth_27 : decode cX6_worth 27 = .ok (.bipush (-2), 2) := by decide +kernel
theorem dX6_worth_29 : decode cX6_worth 29 = .ok (.ireturn, 1) := by decide +kernel
theorem dX6_worth_30 : decode cX6_worth 30 = .ok (.aload_n 0, 1) := by decide +kernel
theorem dX6_worth_31 : decode cX6_worth 31 = .ok (.getfield 13, 3) := by decide +kernel
theorem dX6_worth_34 : decode cX6_worth 34 = .ok (.bipush 8, 2) := by decide +kernel
theorem dX6_worth_36 : decode cX6_worth 36 = .ok (.iload_n 1, 1) := by decide +kernel
theorem dX6_worth_37 : decode cX6_worth 37 = .ok (.imul, 1) := by decide +kernel
theorem dX6_worth_38 : decode cX6_worth 38 = .ok (.iload_n 2, 1) := by decide +kernel
theorem dX6_worth_39 : decode cX6_worth 39 = .ok (.iadd, 1) := by decide +kernel
theorem dX6_worth_40 : decode cX6_worth 40 = .ok (.iaload, 1) := by decide +kernel
theorem dX6_worth_41 : decode cX6_worth 41 = .ok (.istore 4, 2) := by decide +kernel
theorem dX6_worth_43 : decode cX6_worth 43 = .ok (.aload_n 0, 1) := by decide +kernel
theorem dX6_worth_44 : decode cX6_worth 44 = .ok (.getfield 13, 3) := by decide +kernel
theorem dX6_worth_47 : decode cX6_worth 47 = .ok (.bipush 8, 2) := by decide +kernel
theorem dX6_worth_49 : decode cX6_worth 49 = .ok (.iload_n 1, 1) := by decide +kernel
theorem dX6_worth_50 : decode cX6_worth 50 = .ok (.imul, 1) := by decide +kernel
theorem dX6_worth_51 : decode cX6_worth 51 = .ok (.iload_n 2, 1) := by decide +kernel
theorem dX6_worth_52 : decode cX6_worth 52 = .ok (.iadd, 1) := by decide +kernel
theorem dX6_worth_53 : decode cX6_worth 53 = .ok (.iload_n 3, 1) := by decide +kernel
theorem dX6_worth_54 : decode cX6_worth 54 = .ok (.iastore, 1) := by decide +kernel
theorem dX6_worth_55 : decode cX6_worth 55 = .ok (.iload 4, 2) := by decide +kernel
theorem dX6_worth_57 : decode cX6_worth 57 = .ok (.ireturn, 1) := by decide +kernel
theorem dX6_rule_0 : decode cX6_rule 0 = .ok (.iload_n 1, 1) := by decide +kernel
theorem dX6_rule_1 : decode cX6_rule 1 = .ok (.iconst 0, 1) := by decide +kernel
theorem dX6_rule_2 : decode cX6_rule 2 = .ok (.iconst 3, 1) := by decide +kernel
theorem dX6_rule_3 : decode cX6_rule 3 = .ok (.invokestatic 60, 3) := by decide +kernel
theorem dX6_rule_6 : decode cX6_rule 6 = .ok (.ifCond .ne 6, 3) := by decide +kernel
theorem dX6_rule_9 : decode cX6_rule 9 = .ok (.bipush (-2), 2) := by decide +kernel
theorem dX6_rule_11 : decode cX6_rule 11 = .ok (.ireturn, 1) := by decide +kernel
theorem dX6_rule_12 : decode cX6_rule 12 = .ok (.aload_n 0, 1) := by decide +kernel
theorem dX6_rule_13 : decode cX6_rule 13 = .ok (.getfield 57, 3) := by decide +kernel
theorem dX6_rule_16 : decode cX6_rule 16 = .ok (.istore_n 2, 1) := by decide +kernel
theorem dX6_rule_17 : decode cX6_rule 17 = .ok (.aload_n 0, 1) := by decide +kernel
theorem dX6_rule_18 : decode cX6_rule 18 = .ok (.iload_n 1, 1) := by decide +kernel
theorem dX6_rule_19 : decode cX6_rule 19 = .ok (.putfield 57, 3) := by decide +kernel
theorem dX6_rule_22 : decode cX6_rule 22 = .ok (.iload_n 2, 1) := by decide +kernel
theorem dX6_rule_23 : decode cX6_rule 23 = .ok (.ireturn, 1) := by decide +kernel
theorem dX6_say_0 : decode cX6_say 0 = .ok (.iload_n 1, 1) := by decide +kernel
theorem dX6_say_1 : decode cX6_say 1 = .ok (.bipush 33, 2) := by decide +kernel
theorem dX6_say_3 : decode cX6_say 3 = .ok (.bipush 126, 2) := by decide +kernel
theorem dX6_say_5 : decode cX6_say 5 = .ok (.invokestatic 60, 3) := by decide +kernel
theorem dX6_say_8 : decode cX6_say 8 = .ok (.ifCond .ne 6, 3) := by decide +kernel
theorem dX6_say_11 : decode cX6_say 11 = .ok (.bipush (-2), 2) := by decide +kernel
theorem dX6_say_13 : decode cX6_say 13 = .ok (.ireturn, 1) := by decide +kernel
theorem dX6_say_14 : decode cX6_say 14 = .ok (.aload_n 0, 1) := by decide +kernel
theorem dX6_say_15 : decode cX6_say 15 = .ok (.getfield 74, 3) := by decide +kernel
theorem dX6_say_18 : decode cX6_say 18 = .ok (.bipush 48, 2) := by decide +kernel
theorem dX6_say_20 : decode cX6_say 20 = .ok (.if_icmp .ne 6, 3) := by decide +kernel
theorem dX6_say_23 : decode cX6_say 23 = .ok (.bipush (-4), 2) := by decide +kernel
theorem dX6_say_25 : decode cX6_say 25 = .ok (.ireturn, 1) := by decide +kernel
theorem dX6_say_26 : decode cX6_say 26 = .ok (.aload_n 0, 1) := by decide +kernel
theorem dX6_say_27 : decode cX6_say 27 = .ok (.getfield 20, 3) := by decide +kernel
theorem dX6_say_30 : decode cX6_say 30 = .ok (.aload_n 0, 1) := by decide +kernel
theorem dX6_say_31 : decode cX6_say 31 = .ok (.getfield 74, 3) := by decide +kernel
theorem dX6_say_34 : decode cX6_say 34 = .ok (.iload_n 1, 1) := by decide +kernel
theorem dX6_say_35 : decode cX6_say 35 = .ok (.iastore, 1) := by decide +kernel
theorem dX6_say_36 : decode cX6_say 36 = .ok (.aload_n 0, 1) := by decide +kernel
theorem dX6_say_37 : decode cX6_say 37 = .ok (.dup, 1) := by decide +kernel
theorem dX6_say_38 : decode cX6_say 38 = .ok (.getfield 74, 3) := by decide +kernel
theorem dX6_say_41 : decode cX6_say 41 = .ok (.iconst 1, 1) := by decide +kernel
theorem dX6_say_42 : decode cX6_say 42 = .ok (.iadd, 1) := by decide +kernel
theorem dX6_say_43 : decode cX6_say 43 = .ok (.putfield 74, 3) := by decide +kernel
theorem dX6_say_46 : decode cX6_say 46 = .ok (.aload_n 0, 1) := by decide +kernel
theorem dX6_say_47 : decode cX6_say 47 = .ok (.getfield 74, 3) := by decide +kernel
theorem dX6_say_50 : decode cX6_say 50 = .ok (.ireturn, 1) := by decide +kernel
theorem dX6_wipe_0 : decode cX6_wipe 0 = .ok (.aload_n 0, 1) := by decide +kernel
theorem dX6_wipe_1 : decode cX6_wipe 1 = .ok (.getfield 74, 3) := by decide +kernel
theorem dX6_wipe_4 : decode cX6_wipe 4 = .ok (.istore_n 1, 1) := by decide +kernel
theorem dX6_wipe_5 : decode cX6_wipe 5 = .ok (.aload_n 0, 1) := by decide +kernel
theorem dX6_wipe_6 : decode cX6_wipe 6 = .ok (.iconst 0, 1) := by decide +kernel
theorem dX6_wipe_7 : decode cX6_wipe 7 = .ok (.putfield 74, 3) := by decide +kernel
theorem dX6_wipe_10 : decode cX6_wipe 10 = .ok (.iload_n 1, 1) := by decide +kernel
theorem dX6_wipe_11 : decode cX6_wipe 11 = .ok (.ireturn, 1) := by decide +kernel
theorem dX6_faultOf_0 : decode cX6_faultOf 0 = .ok (.iconst 0, 1) := by decide +kernel
theorem dX6_faultOf_1 : decode cX6_faultOf 1 = .ok (.istore_n 1, 1) := by decide +kernel
theorem dX6_faultOf_2 : decode cX6_faultOf 2 = .ok (.iconst 0, 1) := by decide +kernel
theorem dX6_faultOf_3 : decode cX6_faultOf 3 = .ok (.istore_n 2, 1) := by decide +kernel
theorem dX6_faultOf_4 : decode cX6_faultOf 4 = .ok (.iload_n 2, 1) := by decide +kernel
theorem dX6_faultOf_5 : decode cX6_faultOf 5 = .ok (.aload_n 0, 1) := by decide +kernel
theorem dX6_faultOf_6 : decode cX6_faultOf 6 = .ok (.getfield 74, 3) := by decide +kernel
theorem dX6_faultOf_9 : decode cX6_faultOf 9 = .ok (.if_icmp .ge 83, 3) := by decide +kernel
theorem dX6_faultOf_12 : decode cX6_faultOf 12 = .ok (.aload_n 0, 1) := by decide +kernel
theorem dX6_faultOf_13 : decode cX6_faultOf 13 = .ok (.getfield 20, 3) := by decide +kernel
theorem dX6_faultOf_16 : decode cX6_faultOf 16 = .ok (.iload_n 2, 1) := by decide +kernel
theorem dX6_faultOf_17 : decode cX6_faultOf 17 = .ok (.iaload, 1) := by decide +kernel
theorem dX6_faultOf_18 : decode cX6_faultOf 18 = .ok (.istore_n 3, 1) := by decide +kernel
theorem dX6_faultOf_19 : decode cX6_faultOf 19 = .ok (.iload_n 1, 1) := by decide +kernel
theorem dX6_faultOf_20 : decode cX6_faultOf 20 = .ok (.iload_n 3, 1) := by decide +kernel
theorem dX6_faultOf_21 : decode cX6_faultOf 21 = .ok (.bipush 63, 2) := by decide +kernel
theorem dX6_faultOf_23 : decode cX6_faultOf 23 = .ok (.if_icmp .ne 7, 3) := by decide +kernel
theorem dX6_faultOf_26 : decode cX6_faultOf 26 = .ok (.iconst 1, 1) := by decide +kernel
theorem dX6_faultOf_27 : decode cX6_faultOf 27 = .ok (.goto 4, 3) := by decide +kernel
theorem dX6_faultOf_30 : decode cX6_faultOf 30 = .ok (.iconst 0, 1) := by decide +kernel
theorem dX6_faultOf_31 : decode cX6_faultOf 31 = .ok (.iadd, 1) := by decide +kernel
theorem dX6_faultOf_32 : decode cX6_faultOf 32 = .ok (.istore_n 1, 1) := by decide +kernel
theorem dX6_faultOf_33 : decode cX6_faultOf 33 = .ok (.iload_n 3, 1) := by decide +kernel
theorem dX6_faultOf_34 : decode cX6_faultOf 34 = .ok (.bipush 65, 2) := by decide +kernel
theorem dX6_faultOf_36 : decode cX6_faultOf 36 = .ok (.bipush 72, 2) := by decide +kernel
theorem dX6_faultOf_38 : decode cX6_faultOf 38 = .ok (.invokestatic 60, 3) := by decide +kernel
theorem dX6_faultOf_41 : decode cX6_faultOf 41 = .ok (.ifCond .ne 31, 3) := by decide +kernel
theorem dX6_faultOf_44 : decode cX6_faultOf 44 = .ok (.iload_n 3, 1) := by decide +kernel
theorem dX6_faultOf_45 : decode cX6_faultOf 45 = .ok (.bipush 97, 2) := by decide +kernel
theorem dX6_faultOf_47 : decode cX6_faultOf 47 = .ok (.bipush 104, 2) := by decide +kernel
theorem dX6_faultOf_49 : decode cX6_faultOf 49 = .ok (.invokestatic 60, 3) := by decide +kernel
theorem dX6_faultOf_52 : decode cX6_faultOf 52 = .ok (.ifCond .ne 20, 3) := by decide +kernel
theorem dX6_faultOf_55 : decode cX6_faultOf 55 = .ok (.iload_n 3, 1) := by decide +kernel
theorem dX6_faultOf_56 : decode cX6_faultOf 56 = .ok (.bipush 46, 2) := by decide +kernel
theorem dX6_faultOf_58 : decode cX6_faultOf 58 = .ok (.if_icmp .eq 14, 3) := by decide +kernel
theorem dX6_faultOf_61 : decode cX6_faultOf 61 = .ok (.iload_n 3, 1) := by decide +kernel
theorem dX6_faultOf_62 : decode cX6_faultOf 62 = .ok (.bipush 63, 2) := by decide +kernel
theorem dX6_faultOf_64 : decode cX6_faultOf 64 = .ok (.if_icmp .ne 12, 3) := by decide +kernel
theorem dX6_faultOf_67 : decode cX6_faultOf 67 = .ok (.iload_n 1, 1) := by decide +kernel
theorem dX6_faultOf_68 : decode cX6_faultOf 68 = .ok (.iconst 4, 1) := by decide +kernel
theorem dX6_faultOf_69 : decode cX6_faultOf 69 = .ok (.if_icmp .ge 7, 3) := by decide +kernel
theorem dX6_faultOf_72 : decode cX6_faultOf 72 = .ok (.iconst 1, 1) := by decide +kernel
theorem dX6_faultOf_73 : decode cX6_faultOf 73 = .ok (.goto 4, 3) := by decide +kernel
theorem dX6_faultOf_76 : decode cX6_faultOf 76 = .ok (.iconst 0, 1) := by decide +kernel
theorem dX6_faultOf_77 : decode cX6_faultOf 77 = .ok (.istore 4, 2) := by decide +kernel
theorem dX6_faultOf_79 : decode cX6_faultOf 79 = .ok (.iload 4, 2) := by decide +kernel
theorem dX6_faultOf_81 : decode cX6_faultOf 81 = .ok (.ifCond .ne 5, 3) := by decide +kernel
theorem dX6_faultOf_84 : decode cX6_faultOf 84 = .ok (.iload_n 2, 1) := by decide +kernel
theorem dX6_faultOf_85 : decode cX6_faultOf 85 = .ok (.ireturn, 1) := by decide +kernel
theorem dX6_faultOf_86 : decode cX6_faultOf 86 = .ok (.iinc 2 1, 3) := by decide +kernel
theorem dX6_faultOf_89 : decode cX6_faultOf 89 = .ok (.goto (-85), 3) := by decide +kernel
theorem dX6_faultOf_92 : decode cX6_faultOf 92 = .ok (.bipush (-6), 2) := by decide +kernel
theorem dX6_faultOf_94 : decode cX6_faultOf 94 = .ok (.ireturn, 1) := by decide +kernel
theorem dX6_fault_0 : decode cX6_fault 0 = .ok (.aload_n 0, 1) := by decide +kernel
theorem dX6_fault_1 : decode cX6_fault 1 = .ok (.invokevirtual 77, 3) := by decide +kernel
theorem dX6_fault_4 : decode cX6_fault 4 = .ok (.ireturn, 1) := by decide +kernel
theorem dX6_opens_0 : decode cX6_opens 0 = .ok (.iconst 0, 1) := by decide +kernel
theorem dX6_opens_1 : decode cX6_opens 1 = .ok (.istore_n 2, 1) := by decide +kernel
theorem dX6_opens_2 : decode cX6_opens 2 = .ok (.iconst 0, 1) := by decide +kernel
theorem dX6_opens_3 : decode cX6_opens 3 = .ok (.istore_n 3, 1) := by decide +kernel
theorem dX6_opens_4 : decode cX6_opens 4 = .ok (.iload_n 3, 1) := by decide +kernel
theorem dX6_opens_5 : decode cX6_opens 5 = .ok (.iload_n 1, 1) := by decide +kernel
theorem dX6_opens_6 : decode cX6_opens 6 = .ok (.if_icmp .ge 28, 3) := by decide +kernel
theorem dX6_opens_9 : decode cX6_opens 9 = .ok (.iload_n 2, 1) := by decide +kernel
theorem dX6_opens_10 : decode cX6_opens 10 = .ok (.aload_n 0, 1) := by decide +kernel
theorem dX6_opens_11 : decode cX6_opens 11 = .ok (.getfield 20, 3) := by decide +kernel
theorem dX6_opens_14 : decode cX6_opens 14 = .ok (.iload_n 3, 1) := by decide +kernel
theorem dX6_opens_15 : decode cX6_opens 15 = .ok (.iaload, 1) := by decide +kernel
theorem dX6_opens_16 : decode cX6_opens 16 = .ok (.bipush 63, 2) := by decide +kernel
theorem dX6_opens_18 : decode cX6_opens 18 = .ok (.if_icmp .ne 7, 3) := by decide +kernel
theorem dX6_opens_21 : decode cX6_opens 21 = .ok (.iconst 1, 1) := by decide +kernel
theorem dX6_opens_22 : decode cX6_opens 22 = .ok (.goto 4, 3) := by decide +kernel
theorem dX6_opens_25 : decode cX6_opens 25 = .ok (.iconst 0, 1) := by decide +kernel
theorem dX6_opens_26 : decode cX6_opens 26 = .ok (.iadd, 1) := by decide +kernel
theorem dX6_opens_27 : decode cX6_opens 27 = .ok (.istore_n 2, 1) := by decide +kernel
theorem dX6_opens_28 : decode cX6_opens 28 = .ok (.iinc 3 1, 3) := by decide +kernel
theorem dX6_opens_31 : decode cX6_opens 31 = .ok (.goto (-27), 3) := by decide +kernel
theorem dX6_opens_34 : decode cX6_opens 34 = .ok (.iload_n 2, 1) := by decide +kernel
theorem dX6_opens_35 : decode cX6_opens 35 = .ok (.ireturn, 1) := by decide +kernel
theorem dX6_begin_0 : decode cX6_begin 0 = .ok (.aload_n 0, 1) := by decide +kernel
theorem dX6_begin_1 : decode cX6_begin 1 = .ok (.aload_n 0, 1) := by decide +kernel
theorem dX6_begin_2 : decode cX6_begin 2 = .ok (.getfield 7, 3) := by decide +kernel
theorem dX6_begin_5 : decode cX6_begin 5 = .ok (.putfield 81, 3) := by decide +kernel
theorem dX6_begin_8 : decode cX6_begin 8 = .ok (.aload_n 0, 1) := by decide +kernel
theorem dX6_begin_9 : decode cX6_begin 9 = .ok (.iconst 0, 1) := by decide +kernel
theorem dX6_begin_10 : decode cX6_begin 10 = .ok (.putfield 84, 3) := by decide +kernel
theorem dX6_begin_13 : decode cX6_begin 13 = .ok (.iconst 0, 1) := by decide +kernel
theorem dX6_begin_14 : decode cX6_begin 14 = .ok (.istore_n 1, 1) := by decide +kernel
theorem dX6_begin_15 : decode cX6_begin 15 = .ok (.iload_n 1, 1) := by decide +kernel
theorem dX6_begin_16 : decode cX6_begin 16 = .ok (.bipush 8, 2) := by decide +kernel
theorem dX6_begin_18 : decode cX6_begin 18 = .ok (.if_icmp .ge 53, 3) := by decide +kernel
theorem dX6_begin_21 : decode cX6_begin 21 = .ok (.aload_n 0, 1) := by decide +kernel
theorem dX6_begin_22 : decode cX6_begin 22 = .ok (.getfield 23, 3) := by decide +kernel
theorem dX6_begin_25 : decode cX6_begin 25 = .ok (.iload_n 1, 1) := by decide +kernel
theorem dX6_begin_26 : decode cX6_begin 26 = .ok (.bipush (-6), 2) := by decide +kernel
theorem dX6_begin_28 : decode cX6_begin 28 = .ok (.iastore, 1) := by decide +kernel
theorem dX6_begin_29 : decode cX6_begin 29 = .ok (.aload_n 0, 1) := by decide +kernel
theorem dX6_begin_30 : decode cX6_begin 30 = .ok (.getfield 26, 3) := by decide +kernel
theorem dX6_begin_33 : decode cX6_begin 33 = .ok (.iload_n 1, 1) := by decide +kernel
theorem dX6_begin_34 : decode cX6_begin 34 = .ok (.iload_n 1, 1) := by decide +kernel
theorem dX6_begin_35 : decode cX6_begin 35 = .ok (.iastore, 1) := by decide +kernel
theorem dX6_begin_36 : decode cX6_begin 36 = .ok (.aload_n 0, 1) := by decide +kernel
theorem dX6_begin_37 : decode cX6_begin 37 = .ok (.getfield 32, 3) := by decide +kernel
theorem dX6_begin_40 : decode cX6_begin 40 = .ok (.iload_n 1, 1) := by decide +kernel
theorem dX6_begin_41 : decode cX6_begin 41 = .ok (.bipush (-6), 2) := by decide +kernel
theorem dX6_begin_43 : decode cX6_begin 43 = .ok (.iastore, 1) := by decide +kernel
theorem dX6_begin_44 : decode cX6_begin 44 = .ok (.aload_n 0, 1) := by decide +kernel
theorem dX6_begin_45 : decode cX6_begin 45 = .ok (.getfield 35, 3) := by decide +kernel
theorem dX6_begin_48 : decode cX6_begin 48 = .ok (.iload_n 1, 1) := by decide +kernel
theorem dX6_begin_49 : decode cX6_begin 49 = .ok (.iconst 0, 1) := by decide +kernel
theorem dX6_begin_50 : decode cX6_begin 50 = .ok (.iastore, 1) := by decide +kernel
theorem dX6_begin_51 : decode cX6_begin 51 = .ok (.aload_n 0, 1) := by decide +kernel
theorem dX6_begin_52 : decode cX6_begin 52 = .ok (.getfield 38, 3) := by decide +kernel
theorem dX6_begin_55 : decode cX6_begin 55 = .ok (.iload_n 1, 1) := by decide +kernel
theorem dX6_begin_56 : decode cX6_begin 56 = .ok (.iconst 0, 1) := by decide +kernel
theorem dX6_begin_57 : decode cX6_begin 57 = .ok (.iastore, 1) := by decide +kernel
theorem dX6_begin_58 : decode cX6_begin 58 = .ok (.aload_n 0, 1) := by decide +kernel
theorem dX6_begin_59 : decode cX6_begin 59 = .ok (.getfield 41, 3) := by decide +kernel
theorem dX6_begin_62 : decode cX6_begin 62 = .ok (.iload_n 1, 1) := by decide +kernel
theorem dX6_begin_63 : decode cX6_begin 63 = .ok (.iconst 0, 1) := by decide +kernel
theorem dX6_begin_64 : decode cX6_begin 64 = .ok (.iastore, 1) := by decide +kernel
theorem dX6_begin_65 : decode cX6_begin 65 = .ok (.iinc 1 1, 3) := by decide +kernel
theorem dX6_begin_68 : decode cX6_begin 68 = .ok (.goto (-53), 3) := by decide +kernel
theorem dX6_begin_71 : decode cX6_begin 71 = .ok (.return_, 1) := by decide +kernel
theorem dX6_bedOf_0 : decode cX6_bedOf 0 = .ok (.bipush (-6), 2) := by decide +kernel
theorem dX6_bedOf_2 : decode cX6_bedOf 2 = .ok (.istore_n 2, 1) := by decide +kernel
theorem dX6_bedOf_3 : decode cX6_bedOf 3 = .ok (.iconst 0, 1) := by decide +kernel
theorem dX6_bedOf_4 : decode cX6_bedOf 4 = .ok (.istore_n 3, 1) := by decide +kernel
theorem dX6_bedOf_5 : decode cX6_bedOf 5 = .ok (.iload_n 3, 1) := by decide +kernel
theorem dX6_bedOf_6 : decode cX6_bedOf 6 = .ok (.aload_n 0, 1) := by decide +kernel
theorem dX6_bedOf_7 : decode cX6_bedOf 7 = .ok (.getfield 7, 3) := by decide +kernel
theorem dX6_bedOf_10 : decode cX6_bedOf 10 = .ok (.if_icmp .ge 25, 3) := by decide +kernel
theorem dX6_bedOf_13 : decode cX6_bedOf 13 = .ok (.aload_n 0, 1) := by decide +kernel
theorem dX6_bedOf_14 : decode cX6_bedOf 14 = .ok (.getfield 23, 3) := by decide +kernel
theorem dX6_bedOf_17 : decode cX6_bedOf 17 = .ok (.iload_n 3, 1) := by decide +kernel
theorem dX6_bedOf_18 : decode cX6_bedOf 18 = .ok (.iaload, 1) := by decide +kernel
theorem dX6_bedOf_19 : decode cX6_bedOf 19 = .ok (.iload_n 1, 1) := by decide +kernel
theorem dX6_bedOf_20 : decode cX6_bedOf 20 = .ok (.if_icmp .ne 7, 3) := by decide +kernel
theorem dX6_bedOf_23 : decode cX6_bedOf 23 = .ok (.iload_n 3, 1) := by decide +kernel
theorem dX6_bedOf_24 : decode cX6_bedOf 24 = .ok (.goto 4, 3) := by decide +kernel
theorem dX6_bedOf_27 : decode cX6_bedOf 27 = .ok (.iload_n 2, 1) := by decide +kernel
theorem dX6_bedOf_28 : decode cX6_bedOf 28 = .ok (.istore_n 2, 1) := by decide +kernel
theorem dX6_bedOf_29 : decode cX6_bedOf 29 = .ok (.iinc 3 1, 3) := by decide +kernel
theorem dX6_bedOf_32 : decode cX6_bedOf 32 = .ok (.goto (-27), 3) := by decide +kernel
theorem dX6_bedOf_35 : decode cX6_bedOf 35 = .ok (.iload_n 2, 1) := by decide +kernel
theorem dX6_bedOf_36 : decode cX6_bedOf 36 = .ok (.ireturn, 1) := by decide +kernel
theorem dX6_isWaiting_0 : decode cX6_isWaiting 0 = .ok (.iconst 0, 1) := by decide +kernel
theorem dX6_isWaiting_1 : decode cX6_isWaiting 1 = .ok (.istore_n 2, 1) := by decide +kernel
theorem dX6_isWaiting_2 : decode cX6_isWaiting 2 = .ok (.iconst 0, 1) := by decide +kernel
theorem dX6_isWaiting_3 : decode cX6_isWaiting 3 = .ok (.istore_n 3, 1) := by decide +kernel
theorem dX6_isWaiting_4 : decode cX6_isWaiting 4 = .ok (.iload_n 3, 1) := by decide +kernel
theorem dX6_isWaiting_5 : decode cX6_isWaiting 5 = .ok (.aload_n 0, 1) := by decide +kernel
theorem dX6_isWaiting_6 : decode cX6_isWaiting 6 = .ok (.getfield 84, 3) := by decide +kernel
theorem dX6_isWaiting_9 : decode cX6_isWaiting 9 = .ok (.if_icmp .ge 29, 3) := by decide +kernel
theorem dX6_isWaiting_12 : decode cX6_isWaiting 12 = .ok (.iload_n 2, 1) := by decide +kernel
theorem dX6_isWaiting_13 : decode cX6_isWaiting 13 = .ok (.ifCond .ne 13, 3) := by decide +kernel
theorem dX6_isWaiting_16 : decode cX6_isWaiting 16 = .ok (.aload_n 0, 1) := by decide +kernel
theorem dX6_isWaiting_17 : decode cX6_isWaiting 17 = .ok (.getfield 29, 3) := by decide +kernel
theorem dX6_isWaiting_20 : decode cX6_isWaiting 20 = .ok (.iload_n 3, 1) := by decide +kernel
theorem dX6_isWaiting_21 : decode cX6_isWaiting 21 = .ok (.iaload, 1) := by decide +kernel
theorem dX6_isWaiting_22 : decode cX6_isWaiting 22 = .ok (.iload_n 1, 1) := by decide +kernel
theorem dX6_isWaiting_23 : decode cX6_isWaiting 23 = .ok (.if_icmp .ne 7, 3) := by decide +kernel
theorem dX6_isWaiting_26 : decode cX6_isWaiting 26 = .ok (.iconst 1, 1) := by decide +kernel
theorem dX6_isWaiting_27 : decode cX6_isWaiting 27 = .ok (.goto 4, 3) := by decide +kernel
theorem dX6_isWaiting_30 : decode cX6_isWaiting 30 = .ok (.iconst 0, 1) := by decide +kernel
theorem dX6_isWaiting_31 : decode cX6_isWaiting 31 = .ok (.istore_n 2, 1) := by decide +kernel
theorem dX6_isWaiting_32 : decode cX6_isWaiting 32 = .ok (.iinc 3 1, 3) := by decide +kernel
theorem dX6_isWaiting_35 : decode cX6_isWaiting 35 = .ok (.goto (-31), 3) := by decide +kernel
theorem dX6_isWaiting_38 : decode cX6_isWaiting 38 = .ok (.iload_n 2, 1) := by decide +kernel
theorem dX6_isWaiting_39 : decode cX6_isWaiting 39 = .ok (.ireturn, 1) := by decide +kernel
theorem dX6_isThere_0 : decode cX6_isThere 0 = .ok (.aload_n 0, 1) := by decide +kernel
theorem dX6_isThere_1 : decode cX6_isThere 1 = .ok (.iload_n 1, 1) := by decide +kernel
theorem dX6_isThere_2 : decode cX6_isThere 2 = .ok (.invokevirtual 87, 3) := by decide +kernel
theorem dX6_isThere_5 : decode cX6_isThere 5 = .ok (.ifCond .ge 11, 3) := by decide +kernel
theorem dX6_isThere_8 : decode cX6_isThere 8 = .ok (.aload_n 0, 1) := by decide +kernel
theorem dX6_isThere_9 : decode cX6_isThere 9 = .ok (.iload_n 1, 1) := by decide +kernel
theorem dX6_isThere_10 : decode cX6_isThere 10 = .ok (.invokevirtual 91, 3) := by decide +kernel
theorem dX6_isThere_13 : decode cX6_isThere 13 = .ok (.ifCond .eq 7, 3) := by decide +kernel
theorem dX6_isThere_16 : decode cX6_isThere 16 = .ok (.iconst 1, 1) := by decide +kernel
theorem dX6_isThere_17 : decode cX6_isThere 17 = .ok (.goto 4, 3) := by decide +kernel
theorem dX6_isThere_20 : decode cX6_isThere 20 = .ok (.iconst 0, 1) := by decide +kernel
theorem dX6_isThere_21 : decode cX6_isThere 21 = .ok (.ireturn, 1) := by decide +kernel
theorem dX6_take_0 : decode cX6_take 0 = .ok (.aload_n 0, 1) := by decide +kernel
theorem dX6_take_1 : decode cX6_take 1 = .ok (.getfield 23, 3) := by decide +kernel
theorem dX6_take_4 : decode cX6_take 4 = .ok (.iload_n 1, 1) := by decide +kernel
theorem dX6_take_5 : decode cX6_take 5 = .ok (.iload_n 2, 1) := by decide +kernel
theorem dX6_take_6 : decode cX6_take 6 = .ok (.iastore, 1) := by decide +kernel
theorem dX6_take_7 : decode cX6_take 7 = .ok (.aload_n 0, 1) := by decide +kernel
theorem dX6_take_8 : decode cX6_take 8 = .ok (.getfield 35, 3) := by decide +kernel
theorem dX6_take_11 : decode cX6_take 11 = .ok (.iload_n 1, 1) := by decide +kernel
theorem dX6_take_12 : decode cX6_take 12 = .ok (.dup2, 1) := by decide +kernel
theorem dX6_take_13 : decode cX6_take 13 = .ok (.iaload, 1) := by decide +kernel
theorem dX6_take_14 : decode cX6_take 14 = .ok (.iconst 1, 1) := by decide +kernel
theorem dX6_take_15 : decode cX6_take 15 = .ok (.iadd, 1) := by decide +kernel
theorem dX6_take_16 : decode cX6_take 16 = .ok (.iastore, 1) := by decide +kernel
theorem dX6_take_17 : decode cX6_take 17 = .ok (.aload_n 0, 1) := by decide +kernel
theorem dX6_take_18 : decode cX6_take 18 = .ok (.getfield 38, 3) := by decide +kernel
theorem dX6_take_21 : decode cX6_take 21 = .ok (.iload_n 1, 1) := by decide +kernel
theorem dX6_take_22 : decode cX6_take 22 = .ok (.dup2, 1) := by decide +kernel
theorem dX6_take_23 : decode cX6_take 23 = .ok (.iaload, 1) := by decide +kernel
theorem dX6_take_24 : decode cX6_take 24 = .ok (.aload_n 0, 1) := by decide +kernel
theorem dX6_take_25 : decode cX6_take 25 = .ok (.getfield 32, 3) := by decide +kernel
theorem dX6_take_28 : decode cX6_take 28 = .ok (.iload_n 1, 1) := by decide +kernel
theorem dX6_take_29 : decode cX6_take 29 = .ok (.iaload, 1) := by decide +kernel
theorem dX6_take_30 : decode cX6_take 30 = .ok (.iload_n 2, 1) := by decide +kernel
theorem dX6_take_31 : decode cX6_take 31 = .ok (.if_icmp .ne 7, 3) := by decide +kernel
theorem dX6_take_34 : decode cX6_take 34 = .ok (.iconst 0, 1) := by decide +kernel
theorem dX6_take_35 : decode cX6_take 35 = .ok (.goto 4, 3) := by decide +kernel
theorem dX6_take_38 : decode cX6_take 38 = .ok (.iconst 1, 1) := by decide +kernel
theorem dX6_take_39 : decode cX6_take 39 = .ok (.iadd, 1) := by decide +kernel
theorem dX6_take_40 : decode cX6_take 40 = .ok (.iastore, 1) := by decide +kernel
theorem dX6_take_41 : decode cX6_take 41 = .ok (.aload_n 0, 1) := by decide +kernel
theorem dX6_take_42 : decode cX6_take 42 = .ok (.getfield 32, 3) := by decide +kernel
theorem dX6_take_45 : decode cX6_take 45 = .ok (.iload_n 1, 1) := by decide +kernel
theorem dX6_take_46 : decode cX6_take 46 = .ok (.iload_n 2, 1) := by decide +kernel
theorem dX6_take_47 : decode cX6_take 47 = .ok (.iastore, 1) := by decide +kernel
theorem dX6_take_48 : decode cX6_take 48 = .ok (.return_, 1) := by decide +kernel
theorem dX6_worthTo_0 : decode cX6_worthTo 0 = .ok (.iload_n 1, 1) := by decide +kernel
theorem dX6_worthTo_1 : decode cX6_worthTo 1 = .ok (.bipush 8, 2) := by decide +kernel
theorem dX6_worthTo_3 : decode cX6_worthTo 3 = .ok (.if_icmp .ge 17, 3) := by decide +kernel
theorem dX6_worthTo_6 : decode cX6_worthTo 6 = .ok (.aload_n 0, 1) := by decide +kernel
theorem dX6_worthTo_7 : decode cX6_worthTo 7 = .ok (.getfield 13, 3) := by decide +kernel
theorem dX6_worthTo_10 : decode cX6_worthTo 10 = .ok (.bipush 8, 2) := by decide +kernel
theorem dX6_worthTo_12 : decode cX6_worthTo 12 = .ok (.iload_n 1, 1) := by decide +kernel
theorem dX6_worthTo_13 : decode cX6_worthTo 13 = .ok (.imul, 1) := by decide +kernel
theorem dX6_worthTo_14 : decode cX6_worthTo 14 = .ok (.iload_n 2, 1) := by decide +kernel
theorem dX6_worthTo_15 : decode cX6_worthTo 15 = .ok (.iadd, 1) := by decide +kernel
theorem dX6_worthTo_16 : decode cX6_worthTo 16 = .ok (.iaload, 1) := by decide +kernel
theorem dX6_worthTo_17 : decode cX6_worthTo 17 = .ok (.goto 4, 3) := by decide +kernel
theorem dX6_worthTo_20 : decode cX6_worthTo 20 = .ok (.iconst 0, 1) := by decide +kernel
theorem dX6_worthTo_21 : decode cX6_worthTo 21 = .ok (.ireturn, 1) := by decide +kernel
theorem dX6_chosen_0 : decode cX6_chosen 0 = .ok (.aload_n 0, 1) := by decide +kernel
theorem dX6_chosen_1 : decode cX6_chosen 1 = .ok (.getfield 57, 3) := by decide +kernel
theorem dX6_chosen_4 : decode cX6_chosen 4 = .ok (.ifCond .ne 12, 3) := by decide +kernel
theorem dX6_chosen_7 : decode cX6_chosen 7 = .ok (.aload_n 0, 1) := by decide +kernel
theorem dX6_chosen_8 : decode cX6_chosen 8 = .ok (.getfield 81, 3) := by decide +kernel
theorem dX6_chosen_11 : decode cX6_chosen 11 = .ok (.iconst 1, 1) := by decide +kernel
theorem dX6_chosen_12 : decode cX6_chosen 12 = .ok (.isub, 1) := by decide +kernel
theorem dX6_chosen_13 : decode cX6_chosen 13 = .ok (.goto 4, 3) := by decide +kernel
theorem dX6_chosen_16 : decode cX6_chosen 16 = .ok (.iconst 0, 1) := by decide +kernel
theorem dX6_chosen_17 : decode cX6_chosen 17 = .ok (.istore_n 2, 1) := by decide +kernel
theorem dX6_chosen_18 : decode cX6_chosen 18 = .ok (.iconst 1, 1) := by decide +kernel
theorem dX6_chosen_19 : decode cX6_chosen 19 = .ok (.istore_n 3, 1) := by decide +kernel
theorem dX6_chosen_20 : decode cX6_chosen 20 = .ok (.iload_n 3, 1) := by decide +kernel
theorem dX6_chosen_21 : decode cX6_chosen 21 = .ok (.aload_n 0, 1) := by decide +kernel
theorem dX6_chosen_22 : decode cX6_chosen 22 = .ok (.getfield 81, 3) := by decide +kernel
theorem dX6_chosen_25 : decode cX6_chosen 25 = .ok (.if_icmp .ge 91, 3) := by decide +kernel
theorem dX6_chosen_28 : decode cX6_chosen 28 = .ok (.aload_n 0, 1) := by decide +kernel
theorem dX6_chosen_29 : decode cX6_chosen 29 = .ok (.getfield 57, 3) := by decide +kernel
theorem dX6_chosen_32 : decode cX6_chosen 32 = .ok (.iconst 1, 1) := by decide +kernel
theorem dX6_chosen_33 : decode cX6_chosen 33 = .ok (.if_icmp .le 83, 3) := by decide +kernel
theorem dX6_chosen_36 : decode cX6_chosen 36 = .ok (.aload_n 0, 1) := by decide +kernel
theorem dX6_chosen_37 : decode cX6_chosen 37 = .ok (.getfield 57, 3) := by decide +kernel
theorem dX6_chosen_40 : decode cX6_chosen 40 = .ok (.iconst 2, 1) := by decide +kernel
theorem dX6_chosen_41 : decode cX6_chosen 41 = .ok (.if_icmp .ne 26, 3) := by decide +kernel
theorem dX6_chosen_44 : decode cX6_chosen 44 = .ok (.aload_n 0, 1) := by decide +kernel
theorem dX6_chosen_45 : decode cX6_chosen 45 = .ok (.getfield 26, 3) := by decide +kernel
theorem dX6_chosen_48 : decode cX6_chosen 48 = .ok (.iload_n 3, 1) := by decide +kernel
theorem dX6_chosen_49 : decode cX6_chosen 49 = .ok (.iaload, 1) := by decide +kernel
theorem dX6_chosen_50 : decode cX6_chosen 50 = .ok (.aload_n 0, 1) := by decide +kernel
theorem dX6_chosen_51 : decode cX6_chosen 51 = .ok (.getfield 26, 3) := by decide +kernel
theorem dX6_chosen_54 : decode cX6_chosen 54 = .ok (.iload_n 2, 1) := by decide +kernel
theorem dX6_chosen_55 : decode cX6_chosen 55 = .ok (.iaload, 1) := by decide +kernel
theorem dX6_chosen_56 : decode cX6_chosen 56 = .ok (.if_icmp .ge 7, 3) := by decide +kernel
theorem dX6_chosen_59 : decode cX6_chosen 59 = .ok (.iconst 1, 1) := by decide +kernel
theorem dX6_chosen_60 : decode cX6_chosen 60 = .ok (.goto 37, 3) := by decide +kernel
theorem dX6_chosen_63 : decode cX6_chosen 63 = .ok (.iconst 0, 1) := by decide +kernel
theorem dX6_chosen_64 : decode cX6_chosen 64 = .ok (.goto 33, 3) := by decide +kernel
theorem dX6_chosen_67 : decode cX6_chosen 67 = .ok (.aload_n 0, 1) := by decide +kernel
theorem dX6_chosen_68 : decode cX6_chosen 68 = .ok (.iload_n 1, 1) := by decide +kernel
theorem dX6_chosen_69 : decode cX6_chosen 69 = .ok (.aload_n 0, 1) := by decide +kernel
theorem dX6_chosen_70 : decode cX6_chosen 70 = .ok (.getfield 26, 3) := by decide +kernel
theorem dX6_chosen_73 : decode cX6_chosen 73 = .ok (.iload_n 3, 1) := by decide +kernel
theorem dX6_chosen_74 : decode cX6_chosen 74 = .ok (.iaload, 1) := by decide +kernel
theorem dX6_chosen_75 : decode cX6_chosen 75 = .ok (.invokevirtual 94, 3) := by decide +kernel
theorem dX6_chosen_78 : decode cX6_chosen 78 = .ok (.aload_n 0, 1) := by decide +kernel
theorem dX6_chosen_79 : decode cX6_chosen 79 = .ok (.iload_n 1, 1) := by decide +kernel
theorem dX6_chosen_80 : decode cX6_chosen 80 = .ok (.aload_n 0, 1) := by decide +kernel
theorem dX6_chosen_81 : decode cX6_chosen 81 = .ok (.getfield 26, 3) := by decide +kernel
theorem dX6_chosen_84 : decode cX6_chosen 84 = .ok (.iload_n 2, 1) := by decide +kernel
theorem dX6_chosen_85 : decode cX6_chosen 85 = .ok (.iaload, 1) := by decide +kernel
theorem dX6_chosen_86 : decode cX6_chosen 86 = .ok (.invokevirtual 94, 3) := by decide +kernel
theorem dX6_chosen_89 : decode cX6_chosen 89 = .ok (.if_icmp .lt 7, 3) := by decide +kernel
theorem dX6_chosen_92 : decode cX6_chosen 92 = .ok (.iconst 1, 1) := by decide +kernel
theorem dX6_chosen_93 : decode cX6_chosen 93 = .ok (.goto 4, 3) := by decide +kernel
theorem dX6_chosen_96 : decode cX6_chosen 96 = .ok (.iconst 0, 1) := by decide +kernel
theorem dX6_chosen_97 : decode cX6_chosen 97 = .ok (.istore 4, 2) := by decide +kernel
theorem dX6_chosen_99 : decode cX6_chosen 99 = .ok (.iload 4, 2) := by decide +kernel
theorem dX6_chosen_101 : decode cX6_chosen 101 = .ok (.ifCond .eq 7, 3) := by decide +kernel
theorem dX6_chosen_104 : decode cX6_chosen 104 = .ok (.iload_n 3, 1) := by decide +kernel
theorem dX6_chosen_105 : decode cX6_chosen 105 = .ok (.goto 4, 3) := by decide +kernel
theorem dX6_chosen_108 : decode cX6_chosen 108 = .ok (.iload_n 2, 1) := by decide +kernel
theorem dX6_chosen_109 : decode cX6_chosen 109 = .ok (.istore_n 2, 1) := by decide +kernel
theorem dX6_chosen_110 : decode cX6_chosen 110 = .ok (.iinc 3 1, 3) := by decide +kernel
theorem dX6_chosen_113 : decode cX6_chosen 113 = .ok (.goto (-93), 3) := by decide +kernel
theorem dX6_chosen_116 : decode cX6_chosen 116 = .ok (.iload_n 2, 1) := by decide +kernel
theorem dX6_chosen_117 : decode cX6_chosen 117 = .ok (.ireturn, 1) := by decide +kernel
theorem dX6_comeIn_0 : decode cX6_comeIn 0 = .ok (.aload_n 0, 1) := by decide +kernel
theorem dX6_comeIn_1 : decode cX6_comeIn 1 = .ok (.getfield 81, 3) := by decide +kernel
theorem dX6_comeIn_4 : decode cX6_comeIn 4 = .ok (.ifCond .ne 24, 3) := by decide +kernel
theorem dX6_comeIn_7 : decode cX6_comeIn 7 = .ok (.aload_n 0, 1) := by decide +kernel
theorem dX6_comeIn_8 : decode cX6_comeIn 8 = .ok (.getfield 29, 3) := by decide +kernel
theorem dX6_comeIn_11 : decode cX6_comeIn 11 = .ok (.aload_n 0, 1) := by decide +kernel
theorem dX6_comeIn_12 : decode cX6_comeIn 12 = .ok (.getfield 84, 3) := by decide +kernel
theorem dX6_comeIn_15 : decode cX6_comeIn 15 = .ok (.iload_n 1, 1) := by decide +kernel
theorem dX6_comeIn_16 : decode cX6_comeIn 16 = .ok (.iastore, 1) := by decide +kernel
theorem dX6_comeIn_17 : decode cX6_comeIn 17 = .ok (.aload_n 0, 1) := by decide +kernel
theorem dX6_comeIn_18 : decode cX6_comeIn 18 = .ok (.dup, 1) := by decide +kernel
theorem dX6_comeIn_19 : decode cX6_comeIn 19 = .ok (.getfield 84, 3) := by decide +kernel
theorem dX6_comeIn_22 : decode cX6_comeIn 22 = .ok (.iconst 1, 1) := by decide +kernel
theorem dX6_comeIn_23 : decode cX6_comeIn 23 = .ok (.iadd, 1) := by decide +kernel
theorem dX6_comeIn_24 : decode cX6_comeIn 24 = .ok (.putfield 84, 3) := by decide +kernel
theorem dX6_comeIn_27 : decode cX6_comeIn 27 = .ok (.return_, 1) := by decide +kernel
theorem dX6_comeIn_28 : decode cX6_comeIn 28 = .ok (.aload_n 0, 1) := by decide +kernel
theorem dX6_comeIn_29 : decode cX6_comeIn 29 = .ok (.iload_n 1, 1) := by decide +kernel
theorem dX6_comeIn_30 : decode cX6_comeIn 30 = .ok (.invokevirtual 98, 3) := by decide +kernel
theorem dX6_comeIn_33 : decode cX6_comeIn 33 = .ok (.istore_n 2, 1) := by decide +kernel
theorem dX6_comeIn_34 : decode cX6_comeIn 34 = .ok (.aload_n 0, 1) := by decide +kernel
theorem dX6_comeIn_35 : decode cX6_comeIn 35 = .ok (.getfield 26, 3) := by decide +kernel
theorem dX6_comeIn_38 : decode cX6_comeIn 38 = .ok (.iload_n 2, 1) := by decide +kernel
theorem dX6_comeIn_39 : decode cX6_comeIn 39 = .ok (.iaload, 1) := by decide +kernel
theorem dX6_comeIn_40 : decode cX6_comeIn 40 = .ok (.istore_n 3, 1) := by decide +kernel
theorem dX6_comeIn_41 : decode cX6_comeIn 41 = .ok (.aload_n 0, 1) := by decide +kernel
theorem dX6_comeIn_42 : decode cX6_comeIn 42 = .ok (.dup, 1) := by decide +kernel
theorem dX6_comeIn_43 : decode cX6_comeIn 43 = .ok (.getfield 81, 3) := by decide +kernel
theorem dX6_comeIn_46 : decode cX6_comeIn 46 = .ok (.iconst 1, 1) := by decide +kernel
theorem dX6_comeIn_47 : decode cX6_comeIn 47 = .ok (.isub, 1) := by decide +kernel
theorem dX6_comeIn_48 : decode cX6_comeIn 48 = .ok (.putfield 81, 3) := by decide +kernel
theorem dX6_comeIn_51 : decode cX6_comeIn 51 = .ok (.iload_n 2, 1) := by decide +kernel
theorem dX6_comeIn_52 : decode cX6_comeIn 52 = .ok (.istore 4, 2) := by decide +kernel
theorem dX6_comeIn_54 : decode cX6_comeIn 54 = .ok (.iload 4, 2) := by decide +kernel
theorem dX6_comeIn_56 : decode cX6_comeIn 56 = .ok (.aload_n 0, 1) := by decide +kernel
theorem dX6_comeIn_57 : decode cX6_comeIn 57 = .ok (.getfield 81, 3) := by decide +kernel
theorem dX6_comeIn_60 : decode cX6_comeIn 60 = .ok (.if_icmp .ge 25, 3) := by decide +kernel
theorem dX6_comeIn_63 : decode cX6_comeIn 63 = .ok (.aload_n 0, 1) := by decide +kernel
theorem dX6_comeIn_64 : decode cX6_comeIn 64 = .ok (.getfield 26, 3) := by decide +kernel
theorem dX6_comeIn_67 : decode cX6_comeIn 67 = .ok (.iload 4, 2) := by decide +kernel
theorem dX6_comeIn_69 : decode cX6_comeIn 69 = .ok (.aload_n 0, 1) := by decide +kernel
theorem dX6_comeIn_70 : decode cX6_comeIn 70 = .ok (.getfield 26, 3) := by decide +kernel
theorem dX6_comeIn_73 : decode cX6_comeIn 73 = .ok (.iload 4, 2) := by decide +kernel
theorem dX6_comeIn_75 : decode cX6_comeIn 75 = .ok (.iconst 1, 1) := by decide +kernel
theorem dX6_comeIn_76 : decode cX6_comeIn 76 = .ok (.iadd, 1) := by decide +kernel
theorem dX6_comeIn_77 : decode cX6_comeIn 77 = .ok (.iaload, 1) := by decide +kernel
theorem dX6_comeIn_78 : decode cX6_comeIn 78 = .ok (.iastore, 1) := by decide +kernel
theorem dX6_comeIn_79 : decode cX6_comeIn 79 = .ok (.iinc 4 1, 3) := by decide +kernel
theorem dX6_comeIn_82 : decode cX6_comeIn 82 = .ok (.goto (-28), 3) := by decide +kernel
theorem dX6_comeIn_85 : decode cX6_comeIn 85 = .ok (.aload_n 0, 1) := by decide +kernel
theorem dX6_comeIn_86 : decode cX6_comeIn 86 = .ok (.iload_n 3, 1) := by decide +kernel
theorem dX6_comeIn_87 : decode cX6_comeIn 87 = .ok (.iload_n 1, 1) := by decide +kernel
theorem dX6_comeIn_88 : decode cX6_comeIn 88 = .ok (.invokevirtual 101, 3) := by decide +kernel
theorem dX6_comeIn_91 : decode cX6_comeIn 91 = .ok (.return_, 1) := by decide +kernel
theorem dX6_outOfYard_0 : decode cX6_outOfYard 0 = .ok (.aload_n 0, 1) := by decide +kernel
theorem dX6_outOfYard_1 : decode cX6_outOfYard 1 = .ok (.dup, 1) := by decide +kernel
theorem dX6_outOfYard_2 : decode cX6_outOfYard 2 = .ok (.getfield 84, 3) := by decide +kernel
theorem dX6_outOfYard_5 : decode cX6_outOfYard 5 = .ok (.iconst 1, 1) := by decide +kernel
theorem dX6_outOfYard_6 : decode cX6_outOfYard 6 = .ok (.isub, 1) := by decide +kernel
theorem dX6_outOfYard_7 : decode cX6_outOfYard 7 = .ok (.putfield 84, 3) := by decide +kernel
theorem dX6_outOfYard_10 : decode cX6_outOfYard 10 = .ok (.iload_n 1, 1) := by decide +kernel
theorem dX6_outOfYard_11 : decode cX6_outOfYard 11 = .ok (.istore_n 2, 1) := by decide +kernel
theorem dX6_outOfYard_12 : decode cX6_outOfYard 12 = .ok (.iload_n 2, 1) := by decide +kernel
theorem dX6_outOfYard_13 : decode cX6_outOfYard 13 = .ok (.aload_n 0, 1) := by decide +kernel
theorem dX6_outOfYard_14 : decode cX6_outOfYard 14 = .ok (.getfield 84, 3) := by decide +kernel
theorem dX6_outOfYard_17 : decode cX6_outOfYard 17 = .ok (.if_icmp .ge 23, 3) := by decide +kernel
theorem dX6_outOfYard_20 : decode cX6_outOfYard 20 = .ok (.aload_n 0, 1) := by decide +kernel
theorem dX6_outOfYard_21 : decode cX6_outOfYard 21 = .ok (.getfield 29, 3) := by decide +kernel
theorem dX6_outOfYard_24 : decode cX6_outOfYard 24 = .ok (.iload_n 2, 1) := by decide +kernel
theorem dX6_outOfYard_25 : decode cX6_outOfYard 25 = .ok (.aload_n 0, 1) := by decide +kernel
theorem dX6_outOfYard_26 : decode cX6_outOfYard 26 = .ok (.getfield 29, 3) := by decide +kernel
theorem dX6_outOfYard_29 : decode cX6_outOfYard 29 = .ok (.iload_n 2, 1) := by decide +kernel
theorem dX6_outOfYard_30 : decode cX6_outOfYard 30 = .ok (.iconst 1, 1) := by decide +kernel
theorem dX6_outOfYard_31 : decode cX6_outOfYard 31 = .ok (.iadd, 1) := by decide +kernel
theorem dX6_outOfYard_32 : decode cX6_outOfYard 32 = .ok (.iaload, 1) := by decide +kernel
theorem dX6_outOfYard_33 : decode cX6_outOfYard 33 = .ok (.iastore, 1) := by decide +kernel
theorem dX6_outOfYard_34 : decode cX6_outOfYard 34 = .ok (.iinc 2 1, 3) := by decide +kernel
theorem dX6_outOfYard_37 : decode cX6_outOfYard 37 = .ok (.goto (-25), 3) := by decide +kernel
theorem dX6_outOfYard_40 : decode cX6_outOfYard 40 = .ok (.return_, 1) := by decide +kernel
theorem dX6_goOut_0 : decode cX6_goOut 0 = .ok (.aload_n 0, 1) := by decide +kernel
theorem dX6_goOut_1 : decode cX6_goOut 1 = .ok (.iload_n 1, 1) := by decide +kernel
theorem dX6_goOut_2 : decode cX6_goOut 2 = .ok (.invokevirtual 87, 3) := by decide +kernel
theorem dX6_goOut_5 : decode cX6_goOut 5 = .ok (.istore_n 2, 1) := by decide +kernel
theorem dX6_goOut_6 : decode cX6_goOut 6 = .ok (.iload_n 2, 1) := by decide +kernel
theorem dX6_goOut_7 : decode cX6_goOut 7 = .ok (.ifCond .ge 29, 3) := by decide +kernel
theorem dX6_goOut_10 : decode cX6_goOut 10 = .ok (.iconst 0, 1) := by decide +kernel
theorem dX6_goOut_11 : decode cX6_goOut 11 = .ok (.istore_n 3, 1) := by decide +kernel
theorem dX6_goOut_12 : decode cX6_goOut 12 = .ok (.aload_n 0, 1) := by decide +kernel
theorem dX6_goOut_13 : decode cX6_goOut 13 = .ok (.getfield 29, 3) := by decide +kernel
theorem dX6_goOut_16 : decode cX6_goOut 16 = .ok (.iload_n 3, 1) := by decide +kernel
theorem dX6_goOut_17 : decode cX6_goOut 17 = .ok (.iaload, 1) := by decide +kernel
theorem dX6_goOut_18 : decode cX6_goOut 18 = .ok (.iload_n 1, 1) := by decide +kernel
theorem dX6_goOut_19 : decode cX6_goOut 19 = .ok (.if_icmp .eq 9, 3) := by decide +kernel
theorem dX6_goOut_22 : decode cX6_goOut 22 = .ok (.iinc 3 1, 3) := by decide +kernel
theorem dX6_goOut_25 : decode cX6_goOut 25 = .ok (.goto (-13), 3) := by decide +kernel
theorem dX6_goOut_28 : decode cX6_goOut 28 = .ok (.aload_n 0, 1) := by decide +kernel
theorem dX6_goOut_29 : decode cX6_goOut 29 = .ok (.iload_n 3, 1) := by decide +kernel
theorem dX6_goOut_30 : decode cX6_goOut 30 = .ok (.invokevirtual 105, 3) := by decide +kernel
theorem dX6_goOut_33 : decode cX6_goOut 33 = .ok (.goto 59, 3) := by decide +kernel
theorem dX6_goOut_36 : decode cX6_goOut 36 = .ok (.aload_n 0, 1) := by decide +kernel
theorem dX6_goOut_37 : decode cX6_goOut 37 = .ok (.getfield 84, 3) := by decide +kernel
theorem dX6_goOut_40 : decode cX6_goOut 40 = .ok (.ifCond .le 24, 3) := by decide +kernel
theorem dX6_goOut_43 : decode cX6_goOut 43 = .ok (.aload_n 0, 1) := by decide +kernel
theorem dX6_goOut_44 : decode cX6_goOut 44 = .ok (.getfield 29, 3) := by decide +kernel
theorem dX6_goOut_47 : decode cX6_goOut 47 = .ok (.iconst 0, 1) := by decide +kernel
theorem dX6_goOut_48 : decode cX6_goOut 48 = .ok (.iaload, 1) := by decide +kernel
theorem dX6_goOut_49 : decode cX6_goOut 49 = .ok (.istore_n 3, 1) := by decide +kernel
theorem dX6_goOut_50 : decode cX6_goOut 50 = .ok (.aload_n 0, 1) := by decide +kernel
theorem dX6_goOut_51 : decode cX6_goOut 51 = .ok (.iconst 0, 1) := by decide +kernel
theorem dX6_goOut_52 : decode cX6_goOut 52 = .ok (.invokevirtual 105, 3) := by decide +kernel
theorem dX6_goOut_55 : decode cX6_goOut 55 = .ok (.aload_n 0, 1) := by decide +kernel
theorem dX6_goOut_56 : decode cX6_goOut 56 = .ok (.iload_n 2, 1) := by decide +kernel
theorem dX6_goOut_57 : decode cX6_goOut 57 = .ok (.iload_n 3, 1) := by decide +kernel
theorem dX6_goOut_58 : decode cX6_goOut 58 = .ok (.invokevirtual 101, 3) := by decide +kernel
theorem dX6_goOut_61 : decode cX6_goOut 61 = .ok (.goto 31, 3) := by decide +kernel
theorem dX6_goOut_64 : decode cX6_goOut 64 = .ok (.aload_n 0, 1) := by decide +kernel
theorem dX6_goOut_65 : decode cX6_goOut 65 = .ok (.getfield 23, 3) := by decide +kernel
theorem dX6_goOut_68 : decode cX6_goOut 68 = .ok (.iload_n 2, 1) := by decide +kernel
theorem dX6_goOut_69 : decode cX6_goOut 69 = .ok (.bipush (-6), 2) := by decide +kernel
theorem dX6_goOut_71 : decode cX6_goOut 71 = .ok (.iastore, 1) := by decide +kernel
theorem dX6_goOut_72 : decode cX6_goOut 72 = .ok (.aload_n 0, 1) := by decide +kernel
theorem dX6_goOut_73 : decode cX6_goOut 73 = .ok (.getfield 26, 3) := by decide +kernel
theorem dX6_goOut_76 : decode cX6_goOut 76 = .ok (.aload_n 0, 1) := by decide +kernel
theorem dX6_goOut_77 : decode cX6_goOut 77 = .ok (.getfield 81, 3) := by decide +kernel
theorem dX6_goOut_80 : decode cX6_goOut 80 = .ok (.iload_n 2, 1) := by decide +kernel
theorem dX6_goOut_81 : decode cX6_goOut 81 = .ok (.iastore, 1) := by decide +kernel
theorem dX6_goOut_82 : decode cX6_goOut 82 = .ok (.aload_n 0, 1) := by decide +kernel
theorem dX6_goOut_83 : decode cX6_goOut 83 = .ok (.dup, 1) := by decide +kernel
theorem dX6_goOut_84 : decode cX6_goOut 84 = .ok (.getfield 81, 3) := by decide +kernel
theorem dX6_goOut_87 : decode cX6_goOut 87 = .ok (.iconst 1, 1) := by decide +kernel
theorem dX6_goOut_88 : decode cX6_goOut 88 = .ok (.iadd, 1) := by decide +kernel
theorem dX6_goOut_89 : decode cX6_goOut 89 = .ok (.putfield 81, 3) := by decide +kernel
theorem dX6_goOut_92 : decode cX6_goOut 92 = .ok (.return_, 1) := by decide +kernel
theorem dX6_pass_0 : decode cX6_pass 0 = .ok (.iconst 0, 1) := by decide +kernel
theorem dX6_pass_1 : decode cX6_pass 1 = .ok (.istore_n 1, 1) := by decide +kernel
theorem dX6_pass_2 : decode cX6_pass 2 = .ok (.iload_n 1, 1) := by decide +kernel
theorem dX6_pass_3 : decode cX6_pass 3 = .ok (.aload_n 0, 1) := by decide +kernel
theorem dX6_pass_4 : decode cX6_pass 4 = .ok (.getfield 7, 3) := by decide +kernel
theorem dX6_pass_7 : decode cX6_pass 7 = .ok (.if_icmp .ge 128, 3) := by decide +kernel
theorem dX6_pass_10 : decode cX6_pass 10 = .ok (.aload_n 0, 1) := by decide +kernel
theorem dX6_pass_11 : decode cX6_pass 11 = .ok (.getfield 23, 3) := by decide +kernel
theorem dX6_pass_14 : decode cX6_pass 14 = .ok (.iload_n 1, 1) := by decide +kernel
theorem dX6_pass_15 : decode cX6_pass 15 = .ok (.iaload, 1) := by decide +kernel
theorem dX6_pass_16 : decode cX6_pass 16 = .ok (.ifCond .lt 113, 3) := by decide +kernel
theorem dX6_pass_19 : decode cX6_pass 19 = .ok (.aload_n 0, 1) := by decide +kernel
theorem dX6_pass_20 : decode cX6_pass 20 = .ok (.getfield 41, 3) := by decide +kernel
theorem dX6_pass_23 : decode cX6_pass 23 = .ok (.iload_n 1, 1) := by decide +kernel
theorem dX6_pass_24 : decode cX6_pass 24 = .ok (.dup2, 1) := by decide +kernel
theorem dX6_pass_25 : decode cX6_pass 25 = .ok (.iaload, 1) := by decide +kernel
theorem dX6_pass_26 : decode cX6_pass 26 = .ok (.iconst 1, 1) := by decide +kernel
theorem dX6_pass_27 : decode cX6_pass 27 = .ok (.iadd, 1) := by decide +kernel
theorem dX6_pass_28 : decode cX6_pass 28 = .ok (.iastore, 1) := by decide +kernel
theorem dX6_pass_29 : decode cX6_pass 29 = .ok (.aload_n 0, 1) := by decide +kernel
theorem dX6_pass_30 : decode cX6_pass 30 = .ok (.getfield 109, 3) := by decide +kernel
theorem dX6_pass_33 : decode cX6_pass 33 = .ok (.iload_n 1, 1) := by decide +kernel
theorem dX6_pass_34 : decode cX6_pass 34 = .ok (.invokestatic 112, 3) := by decide +kernel
theorem dX6_pass_37 : decode cX6_pass 37 = .ok (.ifCond .ne 30, 3) := by decide +kernel
theorem dX6_pass_40 : decode cX6_pass 40 = .ok (.aload_n 0, 1) := by decide +kernel
theorem dX6_pass_41 : decode cX6_pass 41 = .ok (.getfield 23, 3) := by decide +kernel
theorem dX6_pass_44 : decode cX6_pass 44 = .ok (.iload_n 1, 1) := by decide +kernel
theorem dX6_pass_45 : decode cX6_pass 45 = .ok (.iaload, 1) := by decide +kernel
theorem dX6_pass_46 : decode cX6_pass 46 = .ok (.bipush 8, 2) := by decide +kernel
theorem dX6_pass_48 : decode cX6_pass 48 = .ok (.if_icmp .ge 23, 3) := by decide +kernel
theorem dX6_pass_51 : decode cX6_pass 51 = .ok (.aload_n 0, 1) := by decide +kernel
theorem dX6_pass_52 : decode cX6_pass 52 = .ok (.getfield 116, 3) := by decide +kernel
theorem dX6_pass_55 : decode cX6_pass 55 = .ok (.aload_n 0, 1) := by decide +kernel
theorem dX6_pass_56 : decode cX6_pass 56 = .ok (.getfield 23, 3) := by decide +kernel
theorem dX6_pass_59 : decode cX6_pass 59 = .ok (.iload_n 1, 1) := by decide +kernel
theorem dX6_pass_60 : decode cX6_pass 60 = .ok (.iaload, 1) := by decide +kernel
theorem dX6_pass_61 : decode cX6_pass 61 = .ok (.invokestatic 112, 3) := by decide +kernel
theorem dX6_pass_64 : decode cX6_pass 64 = .ok (.ifCond .eq 7, 3) := by decide +kernel
theorem dX6_pass_67 : decode cX6_pass 67 = .ok (.iconst 1, 1) := by decide +kernel
theorem dX6_pass_68 : decode cX6_pass 68 = .ok (.goto 4, 3) := by decide +kernel
theorem dX6_pass_71 : decode cX6_pass 71 = .ok (.iconst 0, 1) := by decide +kernel
theorem dX6_pass_72 : decode cX6_pass 72 = .ok (.istore_n 2, 1) := by decide +kernel
theorem dX6_pass_73 : decode cX6_pass 73 = .ok (.aload_n 0, 1) := by decide +kernel
theorem dX6_pass_74 : decode cX6_pass 74 = .ok (.dup, 1) := by decide +kernel
theorem dX6_pass_75 : decode cX6_pass 75 = .ok (.getfield 109, 3) := by decide +kernel
theorem dX6_pass_78 : decode cX6_pass 78 = .ok (.iload_n 2, 1) := by decide +kernel
theorem dX6_pass_79 : decode cX6_pass 79 = .ok (.ifCond .eq 9, 3) := by decide +kernel
theorem dX6_pass_82 : decode cX6_pass 82 = .ok (.iconst 1, 1) := by decide +kernel
theorem dX6_pass_83 : decode cX6_pass 83 = .ok (.iload_n 1, 1) := by decide +kernel
theorem dX6_pass_84 : decode cX6_pass 84 = .ok (.ishl, 1) := by decide +kernel
theorem dX6_pass_85 : decode cX6_pass 85 = .ok (.goto 4, 3) := by decide +kernel
theorem dX6_pass_88 : decode cX6_pass 88 = .ok (.iconst 0, 1) := by decide +kernel
theorem dX6_pass_89 : decode cX6_pass 89 = .ok (.ior, 1) := by decide +kernel
theorem dX6_pass_90 : decode cX6_pass 90 = .ok (.putfield 109, 3) := by decide +kernel
theorem dX6_pass_93 : decode cX6_pass 93 = .ok (.aload_n 0, 1) := by decide +kernel
theorem dX6_pass_94 : decode cX6_pass 94 = .ok (.dup, 1) := by decide +kernel
theorem dX6_pass_95 : decode cX6_pass 95 = .ok (.getfield 116, 3) := by decide +kernel
theorem dX6_pass_98 : decode cX6_pass 98 = .ok (.iload_n 2, 1) := by decide +kernel
theorem dX6_pass_99 : decode cX6_pass 99 = .ok (.ifCond .eq 25, 3) := by decide +kernel
theorem dX6_pass_102 : decode cX6_pass 102 = .ok (.aload_n 0, 1) := by decide +kernel
theorem dX6_pass_103 : decode cX6_pass 103 = .ok (.getfield 23, 3) := by decide +kernel
theorem dX6_pass_106 : decode cX6_pass 106 = .ok (.iload_n 1, 1) := by decide +kernel
theorem dX6_pass_107 : decode cX6_pass 107 = .ok (.iaload, 1) := by decide +kernel
theorem dX6_pass_108 : decode cX6_pass 108 = .ok (.bipush 8, 2) := by decide +kernel
theorem dX6_pass_110 : decode cX6_pass 110 = .ok (.if_icmp .ge 14, 3) := by decide +kernel
theorem dX6_pass_113 : decode cX6_pass 113 = .ok (.iconst 1, 1) := by decide +kernel
theorem dX6_pass_114 : decode cX6_pass 114 = .ok (.aload_n 0, 1) := by decide +kernel
theorem dX6_pass_115 : decode cX6_pass 115 = .ok (.getfield 23, 3) := by decide +kernel
theorem dX6_pass_118 : decode cX6_pass 118 = .ok (.iload_n 1, 1) := by decide +kernel
theorem dX6_pass_119 : decode cX6_pass 119 = .ok (.iaload, 1) := by decide +kernel
theorem dX6_pass_120 : decode cX6_pass 120 = .ok (.ishl, 1) := by decide +kernel
theorem dX6_pass_121 : decode cX6_pass 121 = .ok (.goto 4, 3) := by decide +kernel
theorem dX6_pass_124 : decode cX6_pass 124 = .ok (.iconst 0, 1) := by decide +kernel
theorem dX6_pass_125 : decode cX6_pass 125 = .ok (.ior, 1) := by decide +kernel
theorem dX6_pass_126 : decode cX6_pass 126 = .ok (.putfield 116, 3) := by decide +kernel
theorem dX6_pass_129 : decode cX6_pass 129 = .ok (.iinc 1 1, 3) := by decide +kernel
theorem dX6_pass_132 : decode cX6_pass 132 = .ok (.goto (-130), 3) := by decide +kernel
theorem dX6_pass_135 : decode cX6_pass 135 = .ok (.return_, 1) := by decide +kernel
theorem dX6_happen_0 : decode cX6_happen 0 = .ok (.iload_n 1, 1) := by decide +kernel
theorem dX6_happen_1 : decode cX6_happen 1 = .ok (.bipush 100, 2) := by decide +kernel
theorem dX6_happen_3 : decode cX6_happen 3 = .ok (.if_icmp .ne 9, 3) := by decide +kernel
theorem dX6_happen_6 : decode cX6_happen 6 = .ok (.aload_n 0, 1) := by decide +kernel
theorem dX6_happen_7 : decode cX6_happen 7 = .ok (.invokevirtual 119, 3) := by decide +kernel
theorem dX6_happen_10 : decode cX6_happen 10 = .ok (.iconst 0, 1) := by decide +kernel
theorem dX6_happen_11 : decode cX6_happen 11 = .ok (.ireturn, 1) := by decide +kernel
theorem dX6_happen_12 : decode cX6_happen 12 = .ok (.iload_n 1, 1) := by decide +kernel
theorem dX6_happen_13 : decode cX6_happen 13 = .ok (.bipush 8, 2) := by decide +kernel
theorem dX6_happen_15 : decode cX6_happen 15 = .ok (.irem, 1) := by decide +kernel
theorem dX6_happen_16 : decode cX6_happen 16 = .ok (.istore_n 2, 1) := by decide +kernel
theorem dX6_happen_17 : decode cX6_happen 17 = .ok (.iload_n 1, 1) := by decide +kernel
theorem dX6_happen_18 : decode cX6_happen 18 = .ok (.bipush 8, 2) := by decide +kernel
theorem dX6_happen_20 : decode cX6_happen 20 = .ok (.if_icmp .ge 21, 3) := by decide +kernel
theorem dX6_happen_23 : decode cX6_happen 23 = .ok (.aload_n 0, 1) := by decide +kernel
theorem dX6_happen_24 : decode cX6_happen 24 = .ok (.iload_n 2, 1) := by decide +kernel
theorem dX6_happen_25 : decode cX6_happen 25 = .ok (.invokevirtual 122, 3) := by decide +kernel
theorem dX6_happen_28 : decode cX6_happen 28 = .ok (.ifCond .eq 5, 3) := by decide +kernel
theorem dX6_happen_31 : decode cX6_happen 31 = .ok (.iconst 1, 1) := by decide +kernel
theorem dX6_happen_32 : decode cX6_happen 32 = .ok (.ireturn, 1) := by decide +kernel
theorem dX6_happen_33 : decode cX6_happen 33 = .ok (.aload_n 0, 1) := by decide +kernel
theorem dX6_happen_34 : decode cX6_happen 34 = .ok (.iload_n 2, 1) := by decide +kernel
theorem dX6_happen_35 : decode cX6_happen 35 = .ok (.invokevirtual 125, 3) := by decide +kernel
theorem dX6_happen_38 : decode cX6_happen 38 = .ok (.goto 18, 3) := by decide +kernel
theorem dX6_happen_41 : decode cX6_happen 41 = .ok (.aload_n 0, 1) := by decide +kernel
theorem dX6_happen_42 : decode cX6_happen 42 = .ok (.iload_n 2, 1) := by decide +kernel
theorem dX6_happen_43 : decode cX6_happen 43 = .ok (.invokevirtual 122, 3) := by decide +kernel
theorem dX6_happen_46 : decode cX6_happen 46 = .ok (.ifCond .ne 5, 3) := by decide +kernel
theorem dX6_happen_49 : decode cX6_happen 49 = .ok (.iconst 2, 1) := by decide +kernel
theorem dX6_happen_50 : decode cX6_happen 50 = .ok (.ireturn, 1) := by decide +kernel
theorem dX6_happen_51 : decode cX6_happen 51 = .ok (.aload_n 0, 1) := by decide +kernel
theorem dX6_happen_52 : decode cX6_happen 52 = .ok (.iload_n 2, 1) := by decide +kernel
theorem dX6_happen_53 : decode cX6_happen 53 = .ok (.invokevirtual 128, 3) := by decide +kernel
theorem dX6_happen_56 : decode cX6_happen 56 = .ok (.iconst 0, 1) := by decide +kernel
theorem dX6_happen_57 : decode cX6_happen 57 = .ok (.ireturn, 1) := by decide +kernel
theorem dX6_eventOf_0 : decode cX6_eventOf 0 = .ok (.iload_n 1, 1) := by decide +kernel
theorem dX6_eventOf_1 : decode cX6_eventOf 1 = .ok (.bipush 46, 2) := by decide +kernel
theorem dX6_eventOf_3 : decode cX6_eventOf 3 = .ok (.if_icmp .ne 8, 3) := by decide +kernel
theorem dX6_eventOf_6 : decode cX6_eventOf 6 = .ok (.bipush 100, 2) := by decide +kernel
theorem dX6_eventOf_8 : decode cX6_eventOf 8 = .ok (.goto 28, 3) := by decide +kernel
theorem dX6_eventOf_11 : decode cX6_eventOf 11 = .ok (.iload_n 1, 1) := by decide +kernel
theorem dX6_eventOf_12 : decode cX6_eventOf 12 = .ok (.bipush 65, 2) := by decide +kernel
theorem dX6_eventOf_14 : decode cX6_eventOf 14 = .ok (.bipush 72, 2) := by decide +kernel
theorem dX6_eventOf_16 : decode cX6_eventOf 16 = .ok (.invokestatic 60, 3) := by decide +kernel
theorem dX6_eventOf_19 : decode cX6_eventOf 19 = .ok (.ifCond .eq 10, 3) := by decide +kernel
theorem dX6_eventOf_22 : decode cX6_eventOf 22 = .ok (.iload_n 1, 1) := by decide +kernel
theorem dX6_eventOf_23 : decode cX6_eventOf 23 = .ok (.bipush 65, 2) := by decide +kernel
theorem dX6_eventOf_25 : decode cX6_eventOf 25 = .ok (.isub, 1) := by decide +kernel
theorem dX6_eventOf_26 : decode cX6_eventOf 26 = .ok (.goto 10, 3) := by decide +kernel
theorem dX6_eventOf_29 : decode cX6_eventOf 29 = .ok (.bipush 8, 2) := by decide +kernel
theorem dX6_eventOf_31 : decode cX6_eventOf 31 = .ok (.iload_n 1, 1) := by decide +kernel
theorem dX6_eventOf_32 : decode cX6_eventOf 32 = .ok (.iadd, 1) := by decide +kernel
theorem dX6_eventOf_33 : decode cX6_eventOf 33 = .ok (.bipush 97, 2) := by decide +kernel
theorem dX6_eventOf_35 : decode cX6_eventOf 35 = .ok (.isub, 1) := by decide +kernel
theorem dX6_eventOf_36 : decode cX6_eventOf 36 = .ok (.ireturn, 1) := by decide +kernel
theorem dX6_go_0 : decode cX6_go 0 = .ok (.aload_n 0, 1) := by decide +kernel
theorem dX6_go_1 : decode cX6_go 1 = .ok (.invokevirtual 131, 3) := by decide +kernel
theorem dX6_go_4 : decode cX6_go 4 = .ok (.aload_n 0, 1) := by decide +kernel
theorem dX6_go_5 : decode cX6_go 5 = .ok (.iconst 0, 1) := by decide +kernel
theorem dX6_go_6 : decode cX6_go 6 = .ok (.putfield 134, 3) := by decide +kernel
theorem dX6_go_9 : decode cX6_go 9 = .ok (.iconst 1, 1) := by decide +kernel
theorem dX6_go_10 : decode cX6_go 10 = .ok (.istore 5, 2) := by decide +kernel
theorem dX6_go_12 : decode cX6_go 12 = .ok (.iconst 1, 1) := by decide +kernel
theorem dX6_go_13 : decode cX6_go 13 = .ok (.istore 6, 2) := by decide +kernel
theorem dX6_go_15 : decode cX6_go 15 = .ok (.iload 6, 2) := by decide +kernel
theorem dX6_go_17 : decode cX6_go 17 = .ok (.aload_n 0, 1) := by decide +kernel
theorem dX6_go_18 : decode cX6_go 18 = .ok (.aload_n 0, 1) := by decide +kernel
theorem dX6_go_19 : decode cX6_go 19 = .ok (.getfield 74, 3) := by decide +kernel
theorem dX6_go_22 : decode cX6_go 22 = .ok (.invokevirtual 137, 3) := by decide +kernel
theorem dX6_go_25 : decode cX6_go 25 = .ok (.if_icmp .ge 16, 3) := by decide +kernel
theorem dX6_go_28 : decode cX6_go 28 = .ok (.iload 5, 2) := by decide +kernel
theorem dX6_go_30 : decode cX6_go 30 = .ok (.bipush 8, 2) := by decide +kernel
theorem dX6_go_32 : decode cX6_go 32 = .ok (.imul, 1) := by decide +kernel
theorem dX6_go_33 : decode cX6_go 33 = .ok (.istore 5, 2) := by decide +kernel
theorem dX6_go_35 : decode cX6_go 35 = .ok (.iinc 6 1, 3) := by decide +kernel
theorem dX6_go_38 : decode cX6_go 38 = .ok (.goto (-23), 3) := by decide +kernel
theorem dX6_go_41 : decode cX6_go 41 = .ok (.iconst 0, 1) := by decide +kernel
theorem dX6_go_42 : decode cX6_go 42 = .ok (.istore 6, 2) := by decide +kernel
theorem dX6_go_44 : decode cX6_go 44 = .ok (.iload 6, 2) := by decide +kernel
theorem dX6_go_46 : decode cX6_go 46 = .ok (.iload_n 1, 1) := by decide +kernel
theorem dX6_go_47 : decode cX6_go 47 = .ok (.if_icmp .gt 115, 3) := by decide +kernel
theorem dX6_go_50 : decode cX6_go 50 = .ok (.iload 6, 2) := by decide +kernel
theorem dX6_go_52 : decode cX6_go 52 = .ok (.iload_n 3, 1) := by decide +kernel
theorem dX6_go_53 : decode cX6_go 53 = .ok (.if_icmp .ne 13, 3) := by decide +kernel
theorem dX6_go_56 : decode cX6_go 56 = .ok (.aload_n 0, 1) := by decide +kernel
theorem dX6_go_57 : decode cX6_go 57 = .ok (.aload_n 0, 1) := by decide +kernel
theorem dX6_go_58 : decode cX6_go 58 = .ok (.iload 4, 2) := by decide +kernel
theorem dX6_go_60 : decode cX6_go 60 = .ok (.invokevirtual 140, 3) := by decide +kernel
theorem dX6_go_63 : decode cX6_go 63 = .ok (.putfield 134, 3) := by decide +kernel
theorem dX6_go_66 : decode cX6_go 66 = .ok (.iload 6, 2) := by decide +kernel
theorem dX6_go_68 : decode cX6_go 68 = .ok (.iload_n 1, 1) := by decide +kernel
theorem dX6_go_69 : decode cX6_go 69 = .ok (.if_icmp .ge 77, 3) := by decide +kernel
theorem dX6_go_72 : decode cX6_go 72 = .ok (.aload_n 0, 1) := by decide +kernel
theorem dX6_go_73 : decode cX6_go 73 = .ok (.getfield 134, 3) := by decide +kernel
theorem dX6_go_76 : decode cX6_go 76 = .ok (.ifCond .ne 70, 3) := by decide +kernel
theorem dX6_go_79 : decode cX6_go 79 = .ok (.aload_n 0, 1) := by decide +kernel
theorem dX6_go_80 : decode cX6_go 80 = .ok (.getfield 20, 3) := by decide +kernel
theorem dX6_go_83 : decode cX6_go 83 = .ok (.iload 6, 2) := by decide +kernel
theorem dX6_go_85 : decode cX6_go 85 = .ok (.iaload, 1) := by decide +kernel
theorem dX6_go_86 : decode cX6_go 86 = .ok (.bipush 63, 2) := by decide +kernel
theorem dX6_go_88 : decode cX6_go 88 = .ok (.if_icmp .ne 39, 3) := by decide +kernel
theorem dX6_go_91 : decode cX6_go 91 = .ok (.aload_n 0, 1) := by decide +kernel
theorem dX6_go_92 : decode cX6_go 92 = .ok (.aload_n 0, 1) := by decide +kernel
theorem dX6_go_93 : decode cX6_go 93 = .ok (.iload_n 2, 1) := by decide +kernel
theorem dX6_go_94 : decode cX6_go 94 = .ok (.iload 5, 2) := by decide +kernel
theorem dX6_go_96 : decode cX6_go 96 = .ok (.idiv, 1) := by decide +kernel
theorem dX6_go_97 : decode cX6_go 97 = .ok (.bipush 8, 2) := by decide +kernel
theorem dX6_go_99 : decode cX6_go 99 = .ok (.irem, 1) := by decide +kernel
theorem dX6_go_100 : decode cX6_go 100 = .ok (.invokevirtual 140, 3) := by decide +kernel
theorem dX6_go_103 : decode cX6_go 103 = .ok (.putfield 134, 3) := by decide +kernel
theorem dX6_go_106 : decode cX6_go 106 = .ok (.iload 5, 2) := by decide +kernel
theorem dX6_go_108 : decode cX6_go 108 = .ok (.iconst 1, 1) := by decide +kernel
theorem dX6_go_109 : decode cX6_go 109 = .ok (.if_icmp .le 11, 3) := by decide +kernel
theorem dX6_go_112 : decode cX6_go 112 = .ok (.iload 5, 2) := by decide +kernel
theorem dX6_go_114 : decode cX6_go 114 = .ok (.bipush 8, 2) := by decide +kernel
theorem dX6_go_116 : decode cX6_go 116 = .ok (.idiv, 1) := by decide +kernel
theorem dX6_go_117 : decode cX6_go 117 = .ok (.goto 5, 3) := by decide +kernel
theorem dX6_go_120 : decode cX6_go 120 = .ok (.iload 5, 2) := by decide +kernel
theorem dX6_go_122 : decode cX6_go 122 = .ok (.istore 5, 2) := by decide +kernel
theorem dX6_go_124 : decode cX6_go 124 = .ok (.goto 22, 3) := by decide +kernel
theorem dX6_go_127 : decode cX6_go 127 = .ok (.aload_n 0, 1) := by decide +kernel
theorem dX6_go_128 : decode cX6_go 128 = .ok (.aload_n 0, 1) := by decide +kernel
theorem dX6_go_129 : decode cX6_go 129 = .ok (.aload_n 0, 1) := by decide +kernel
theorem dX6_go_130 : decode cX6_go 130 = .ok (.aload_n 0, 1) := by decide +kernel
theorem dX6_go_131 : decode cX6_go 131 = .ok (.getfield 20, 3) := by decide +kernel
theorem dX6_go_134 : decode cX6_go 134 = .ok (.iload 6, 2) := by decide +kernel
theorem dX6_go_136 : decode cX6_go 136 = .ok (.iaload, 1) := by decide +kernel
theorem dX6_go_137 : decode cX6_go 137 = .ok (.invokevirtual 143, 3) := by decide +kernel
theorem dX6_go_140 : decode cX6_go 140 = .ok (.invokevirtual 140, 3) := by decide +kernel
theorem dX6_go_143 : decode cX6_go 143 = .ok (.putfield 134, 3) := by decide +kernel
theorem dX6_go_146 : decode cX6_go 146 = .ok (.aload_n 0, 1) := by decide +kernel
theorem dX6_go_147 : decode cX6_go 147 = .ok (.getfield 134, 3) := by decide +kernel
theorem dX6_go_150 : decode cX6_go 150 = .ok (.ifCond .le 6, 3) := by decide +kernel
theorem dX6_go_153 : decode cX6_go 153 = .ok (.iload 6, 2) := by decide +kernel
theorem dX6_go_155 : decode cX6_go 155 = .ok (.ireturn, 1) := by decide +kernel
theorem dX6_go_156 : decode cX6_go 156 = .ok (.iinc 6 1, 3) := by decide +kernel
theorem dX6_go_159 : decode cX6_go 159 = .ok (.goto (-115), 3) := by decide +kernel
theorem dX6_go_162 : decode cX6_go 162 = .ok (.bipush (-6), 2) := by decide +kernel
end
section
theorem dX6_go_164 : decode cX6_go 164 = .ok (.ireturn, 1) := by decide +kernel
theorem dX6_judge_0 : decode cX6_judge 0 = .ok (.iload_n 1, 1) := by decide +kernel
theorem dX6_judge_1 : decode cX6_judge 1 = .ok (.iconst 0, 1) := by decide +kernel
theorem dX6_judge_2 : decode cX6_judge 2 = .ok (.iconst 1, 1) := by decide +kernel
theorem dX6_judge_3 : decode cX6_judge 3 = .ok (.invokestatic 60, 3) := by decide +kernel
theorem dX6_judge_6 : decode cX6_judge 6 = .ok (.ifCond .ne 6, 3) := by decide +kernel
theorem dX6_judge_9 : decode cX6_judge 9 = .ok (.bipush (-2), 2) := by decide +kernel
theorem dX6_judge_11 : decode cX6_judge 11 = .ok (.ireturn, 1) := by decide +kernel
theorem dX6_judge_12 : decode cX6_judge 12 = .ok (.aload_n 0, 1) := by decide +kernel
theorem dX6_judge_13 : decode cX6_judge 13 = .ok (.invokevirtual 77, 3) := by decide +kernel
theorem dX6_judge_16 : decode cX6_judge 16 = .ok (.ifCond .lt 6, 3) := by decide +kernel
theorem dX6_judge_19 : decode cX6_judge 19 = .ok (.bipush (-5), 2) := by decide +kernel
theorem dX6_judge_21 : decode cX6_judge 21 = .ok (.ireturn, 1) := by decide +kernel
theorem dX6_judge_22 : decode cX6_judge 22 = .ok (.aload_n 0, 1) := by decide +kernel
theorem dX6_judge_23 : decode cX6_judge 23 = .ok (.aload_n 0, 1) := by decide +kernel
theorem dX6_judge_24 : decode cX6_judge 24 = .ok (.getfield 74, 3) := by decide +kernel
theorem dX6_judge_27 : decode cX6_judge 27 = .ok (.invokevirtual 137, 3) := by decide +kernel
theorem dX6_judge_30 : decode cX6_judge 30 = .ok (.ifCond .le 6, 3) := by decide +kernel
theorem dX6_judge_33 : decode cX6_judge 33 = .ok (.bipush (-3), 2) := by decide +kernel
theorem dX6_judge_35 : decode cX6_judge 35 = .ok (.ireturn, 1) := by decide +kernel
theorem dX6_judge_36 : decode cX6_judge 36 = .ok (.aload_n 0, 1) := by decide +kernel
theorem dX6_judge_37 : decode cX6_judge 37 = .ok (.aload_n 0, 1) := by decide +kernel
theorem dX6_judge_38 : decode cX6_judge 38 = .ok (.getfield 74, 3) := by decide +kernel
theorem dX6_judge_41 : decode cX6_judge 41 = .ok (.iconst 0, 1) := by decide +kernel
theorem dX6_judge_42 : decode cX6_judge 42 = .ok (.bipush (-6), 2) := by decide +kernel
theorem dX6_judge_44 : decode cX6_judge 44 = .ok (.iconst 0, 1) := by decide +kernel
theorem dX6_judge_45 : decode cX6_judge 45 = .ok (.invokevirtual 146, 3) := by decide +kernel
theorem dX6_judge_48 : decode cX6_judge 48 = .ok (.istore_n 2, 1) := by decide +kernel
theorem dX6_judge_49 : decode cX6_judge 49 = .ok (.iload_n 2, 1) := by decide +kernel
theorem dX6_judge_50 : decode cX6_judge 50 = .ok (.ifCond .lt 7, 3) := by decide +kernel
theorem dX6_judge_53 : decode cX6_judge 53 = .ok (.iload_n 1, 1) := by decide +kernel
theorem dX6_judge_54 : decode cX6_judge 54 = .ok (.ifCond .ne 7, 3) := by decide +kernel
theorem dX6_judge_57 : decode cX6_judge 57 = .ok (.iload_n 2, 1) := by decide +kernel
theorem dX6_judge_58 : decode cX6_judge 58 = .ok (.goto 7, 3) := by decide +kernel
theorem dX6_judge_61 : decode cX6_judge 61 = .ok (.aload_n 0, 1) := by decide +kernel
theorem dX6_judge_62 : decode cX6_judge 62 = .ok (.getfield 134, 3) := by decide +kernel
theorem dX6_judge_65 : decode cX6_judge 65 = .ok (.ireturn, 1) := by decide +kernel
theorem dX6_barOf_0 : decode cX6_barOf 0 = .ok (.aload_n 0, 1) := by decide +kernel
theorem dX6_barOf_1 : decode cX6_barOf 1 = .ok (.invokevirtual 77, 3) := by decide +kernel
theorem dX6_barOf_4 : decode cX6_barOf 4 = .ok (.ifCond .lt 6, 3) := by decide +kernel
theorem dX6_barOf_7 : decode cX6_barOf 7 = .ok (.bipush (-5), 2) := by decide +kernel
theorem dX6_barOf_9 : decode cX6_barOf 9 = .ok (.ireturn, 1) := by decide +kernel
theorem dX6_barOf_10 : decode cX6_barOf 10 = .ok (.aload_n 0, 1) := by decide +kernel
theorem dX6_barOf_11 : decode cX6_barOf 11 = .ok (.iload_n 1, 1) := by decide +kernel
theorem dX6_barOf_12 : decode cX6_barOf 12 = .ok (.invokevirtual 137, 3) := by decide +kernel
theorem dX6_barOf_15 : decode cX6_barOf 15 = .ok (.ifCond .le 6, 3) := by decide +kernel
theorem dX6_barOf_18 : decode cX6_barOf 18 = .ok (.bipush (-3), 2) := by decide +kernel
theorem dX6_barOf_20 : decode cX6_barOf 20 = .ok (.ireturn, 1) := by decide +kernel
theorem dX6_barOf_21 : decode cX6_barOf 21 = .ok (.aload_n 0, 1) := by decide +kernel
theorem dX6_barOf_22 : decode cX6_barOf 22 = .ok (.iload_n 1, 1) := by decide +kernel
theorem dX6_barOf_23 : decode cX6_barOf 23 = .ok (.iconst 0, 1) := by decide +kernel
theorem dX6_barOf_24 : decode cX6_barOf 24 = .ok (.bipush (-6), 2) := by decide +kernel
theorem dX6_barOf_26 : decode cX6_barOf 26 = .ok (.iconst 0, 1) := by decide +kernel
theorem dX6_barOf_27 : decode cX6_barOf 27 = .ok (.invokevirtual 146, 3) := by decide +kernel
theorem dX6_barOf_30 : decode cX6_barOf 30 = .ok (.ifCond .lt 8, 3) := by decide +kernel
theorem dX6_barOf_33 : decode cX6_barOf 33 = .ok (.bipush (-5), 2) := by decide +kernel
theorem dX6_barOf_35 : decode cX6_barOf 35 = .ok (.goto 4, 3) := by decide +kernel
theorem dX6_barOf_38 : decode cX6_barOf 38 = .ok (.iconst 0, 1) := by decide +kernel
theorem dX6_barOf_39 : decode cX6_barOf 39 = .ok (.ireturn, 1) := by decide +kernel
theorem dX6_bed_0 : decode cX6_bed 0 = .ok (.iload_n 1, 1) := by decide +kernel
theorem dX6_bed_1 : decode cX6_bed 1 = .ok (.invokestatic 67, 3) := by decide +kernel
theorem dX6_bed_4 : decode cX6_bed 4 = .ok (.ifCond .ne 5, 3) := by decide +kernel
theorem dX6_bed_7 : decode cX6_bed 7 = .ok (.iconst (-1), 1) := by decide +kernel
theorem dX6_bed_8 : decode cX6_bed 8 = .ok (.ireturn, 1) := by decide +kernel
theorem dX6_bed_9 : decode cX6_bed 9 = .ok (.iload_n 2, 1) := by decide +kernel
theorem dX6_bed_10 : decode cX6_bed 10 = .ok (.iconst (-1), 1) := by decide +kernel
theorem dX6_bed_11 : decode cX6_bed 11 = .ok (.aload_n 0, 1) := by decide +kernel
theorem dX6_bed_12 : decode cX6_bed 12 = .ok (.getfield 74, 3) := by decide +kernel
theorem dX6_bed_15 : decode cX6_bed 15 = .ok (.invokestatic 60, 3) := by decide +kernel
theorem dX6_bed_18 : decode cX6_bed 18 = .ok (.ifCond .ne 6, 3) := by decide +kernel
theorem dX6_bed_21 : decode cX6_bed 21 = .ok (.bipush (-2), 2) := by decide +kernel
theorem dX6_bed_23 : decode cX6_bed 23 = .ok (.ireturn, 1) := by decide +kernel
theorem dX6_bed_24 : decode cX6_bed 24 = .ok (.aload_n 0, 1) := by decide +kernel
theorem dX6_bed_25 : decode cX6_bed 25 = .ok (.iload_n 2, 1) := by decide +kernel
theorem dX6_bed_26 : decode cX6_bed 26 = .ok (.ifCond .ge 10, 3) := by decide +kernel
theorem dX6_bed_29 : decode cX6_bed 29 = .ok (.aload_n 0, 1) := by decide +kernel
theorem dX6_bed_30 : decode cX6_bed 30 = .ok (.getfield 74, 3) := by decide +kernel
theorem dX6_bed_33 : decode cX6_bed 33 = .ok (.goto 4, 3) := by decide +kernel
theorem dX6_bed_36 : decode cX6_bed 36 = .ok (.iload_n 2, 1) := by decide +kernel
theorem dX6_bed_37 : decode cX6_bed 37 = .ok (.invokevirtual 150, 3) := by decide +kernel
theorem dX6_bed_40 : decode cX6_bed 40 = .ok (.istore_n 3, 1) := by decide +kernel
theorem dX6_bed_41 : decode cX6_bed 41 = .ok (.iload_n 3, 1) := by decide +kernel
theorem dX6_bed_42 : decode cX6_bed 42 = .ok (.ifCond .ge 7, 3) := by decide +kernel
theorem dX6_bed_45 : decode cX6_bed 45 = .ok (.iload_n 3, 1) := by decide +kernel
theorem dX6_bed_46 : decode cX6_bed 46 = .ok (.goto 8, 3) := by decide +kernel
theorem dX6_bed_49 : decode cX6_bed 49 = .ok (.aload_n 0, 1) := by decide +kernel
theorem dX6_bed_50 : decode cX6_bed 50 = .ok (.iload_n 1, 1) := by decide +kernel
theorem dX6_bed_51 : decode cX6_bed 51 = .ok (.invokevirtual 87, 3) := by decide +kernel
theorem dX6_bed_54 : decode cX6_bed 54 = .ok (.ireturn, 1) := by decide +kernel
theorem dX6_who_0 : decode cX6_who 0 = .ok (.aload_n 0, 1) := by decide +kernel
theorem dX6_who_1 : decode cX6_who 1 = .ok (.iload_n 1, 1) := by decide +kernel
theorem dX6_who_2 : decode cX6_who 2 = .ok (.invokevirtual 71, 3) := by decide +kernel
theorem dX6_who_5 : decode cX6_who 5 = .ok (.ifCond .ne 5, 3) := by decide +kernel
theorem dX6_who_8 : decode cX6_who 8 = .ok (.iconst (-1), 1) := by decide +kernel
theorem dX6_who_9 : decode cX6_who 9 = .ok (.ireturn, 1) := by decide +kernel
theorem dX6_who_10 : decode cX6_who 10 = .ok (.iload_n 2, 1) := by decide +kernel
theorem dX6_who_11 : decode cX6_who 11 = .ok (.iconst (-1), 1) := by decide +kernel
theorem dX6_who_12 : decode cX6_who 12 = .ok (.aload_n 0, 1) := by decide +kernel
theorem dX6_who_13 : decode cX6_who 13 = .ok (.getfield 74, 3) := by decide +kernel
theorem dX6_who_16 : decode cX6_who 16 = .ok (.invokestatic 60, 3) := by decide +kernel
theorem dX6_who_19 : decode cX6_who 19 = .ok (.ifCond .ne 6, 3) := by decide +kernel
theorem dX6_who_22 : decode cX6_who 22 = .ok (.bipush (-2), 2) := by decide +kernel
theorem dX6_who_24 : decode cX6_who 24 = .ok (.ireturn, 1) := by decide +kernel
theorem dX6_who_25 : decode cX6_who 25 = .ok (.aload_n 0, 1) := by decide +kernel
theorem dX6_who_26 : decode cX6_who 26 = .ok (.iload_n 2, 1) := by decide +kernel
theorem dX6_who_27 : decode cX6_who 27 = .ok (.ifCond .ge 10, 3) := by decide +kernel
theorem dX6_who_30 : decode cX6_who 30 = .ok (.aload_n 0, 1) := by decide +kernel
theorem dX6_who_31 : decode cX6_who 31 = .ok (.getfield 74, 3) := by decide +kernel
theorem dX6_who_34 : decode cX6_who 34 = .ok (.goto 4, 3) := by decide +kernel
theorem dX6_who_37 : decode cX6_who 37 = .ok (.iload_n 2, 1) := by decide +kernel
theorem dX6_who_38 : decode cX6_who 38 = .ok (.invokevirtual 150, 3) := by decide +kernel
theorem dX6_who_41 : decode cX6_who 41 = .ok (.istore_n 3, 1) := by decide +kernel
theorem dX6_who_42 : decode cX6_who 42 = .ok (.iload_n 3, 1) := by decide +kernel
theorem dX6_who_43 : decode cX6_who 43 = .ok (.ifCond .ge 7, 3) := by decide +kernel
theorem dX6_who_46 : decode cX6_who 46 = .ok (.iload_n 3, 1) := by decide +kernel
theorem dX6_who_47 : decode cX6_who 47 = .ok (.goto 9, 3) := by decide +kernel
theorem dX6_who_50 : decode cX6_who 50 = .ok (.aload_n 0, 1) := by decide +kernel
theorem dX6_who_51 : decode cX6_who 51 = .ok (.getfield 23, 3) := by decide +kernel
theorem dX6_who_54 : decode cX6_who 54 = .ok (.iload_n 1, 1) := by decide +kernel
theorem dX6_who_55 : decode cX6_who 55 = .ok (.iaload, 1) := by decide +kernel
theorem dX6_who_56 : decode cX6_who 56 = .ok (.ireturn, 1) := by decide +kernel
theorem dX6_left_0 : decode cX6_left 0 = .ok (.iload_n 1, 1) := by decide +kernel
theorem dX6_left_1 : decode cX6_left 1 = .ok (.iconst (-1), 1) := by decide +kernel
theorem dX6_left_2 : decode cX6_left 2 = .ok (.aload_n 0, 1) := by decide +kernel
theorem dX6_left_3 : decode cX6_left 3 = .ok (.getfield 74, 3) := by decide +kernel
theorem dX6_left_6 : decode cX6_left 6 = .ok (.invokestatic 60, 3) := by decide +kernel
theorem dX6_left_9 : decode cX6_left 9 = .ok (.ifCond .ne 6, 3) := by decide +kernel
theorem dX6_left_12 : decode cX6_left 12 = .ok (.bipush (-2), 2) := by decide +kernel
theorem dX6_left_14 : decode cX6_left 14 = .ok (.ireturn, 1) := by decide +kernel
theorem dX6_left_15 : decode cX6_left 15 = .ok (.aload_n 0, 1) := by decide +kernel
theorem dX6_left_16 : decode cX6_left 16 = .ok (.iload_n 1, 1) := by decide +kernel
theorem dX6_left_17 : decode cX6_left 17 = .ok (.ifCond .ge 10, 3) := by decide +kernel
theorem dX6_left_20 : decode cX6_left 20 = .ok (.aload_n 0, 1) := by decide +kernel
theorem dX6_left_21 : decode cX6_left 21 = .ok (.getfield 74, 3) := by decide +kernel
theorem dX6_left_24 : decode cX6_left 24 = .ok (.goto 4, 3) := by decide +kernel
theorem dX6_left_27 : decode cX6_left 27 = .ok (.iload_n 1, 1) := by decide +kernel
theorem dX6_left_28 : decode cX6_left 28 = .ok (.invokevirtual 150, 3) := by decide +kernel
theorem dX6_left_31 : decode cX6_left 31 = .ok (.istore_n 3, 1) := by decide +kernel
theorem dX6_left_32 : decode cX6_left 32 = .ok (.iload_n 3, 1) := by decide +kernel
theorem dX6_left_33 : decode cX6_left 33 = .ok (.ifCond .ge 7, 3) := by decide +kernel
theorem dX6_left_36 : decode cX6_left 36 = .ok (.iload_n 3, 1) := by decide +kernel
theorem dX6_left_37 : decode cX6_left 37 = .ok (.goto 47, 3) := by decide +kernel
theorem dX6_left_40 : decode cX6_left 40 = .ok (.iload_n 2, 1) := by decide +kernel
theorem dX6_left_41 : decode cX6_left 41 = .ok (.iconst (-1), 1) := by decide +kernel
theorem dX6_left_42 : decode cX6_left 42 = .ok (.if_icmp .ne 10, 3) := by decide +kernel
theorem dX6_left_45 : decode cX6_left 45 = .ok (.aload_n 0, 1) := by decide +kernel
theorem dX6_left_46 : decode cX6_left 46 = .ok (.getfield 84, 3) := by decide +kernel
theorem dX6_left_49 : decode cX6_left 49 = .ok (.goto 35, 3) := by decide +kernel
theorem dX6_left_52 : decode cX6_left 52 = .ok (.iload_n 2, 1) := by decide +kernel
theorem dX6_left_53 : decode cX6_left 53 = .ok (.iconst 0, 1) := by decide +kernel
theorem dX6_left_54 : decode cX6_left 54 = .ok (.aload_n 0, 1) := by decide +kernel
theorem dX6_left_55 : decode cX6_left 55 = .ok (.getfield 81, 3) := by decide +kernel
theorem dX6_left_58 : decode cX6_left 58 = .ok (.iconst 1, 1) := by decide +kernel
theorem dX6_left_59 : decode cX6_left 59 = .ok (.isub, 1) := by decide +kernel
theorem dX6_left_60 : decode cX6_left 60 = .ok (.invokestatic 60, 3) := by decide +kernel
theorem dX6_left_63 : decode cX6_left 63 = .ok (.ifCond .eq 19, 3) := by decide +kernel
theorem dX6_left_66 : decode cX6_left 66 = .ok (.aload_n 0, 1) := by decide +kernel
theorem dX6_left_67 : decode cX6_left 67 = .ok (.getfield 26, 3) := by decide +kernel
theorem dX6_left_70 : decode cX6_left 70 = .ok (.aload_n 0, 1) := by decide +kernel
theorem dX6_left_71 : decode cX6_left 71 = .ok (.getfield 81, 3) := by decide +kernel
theorem dX6_left_74 : decode cX6_left 74 = .ok (.iconst 1, 1) := by decide +kernel
theorem dX6_left_75 : decode cX6_left 75 = .ok (.isub, 1) := by decide +kernel
theorem dX6_left_76 : decode cX6_left 76 = .ok (.iload_n 2, 1) := by decide +kernel
theorem dX6_left_77 : decode cX6_left 77 = .ok (.isub, 1) := by decide +kernel
theorem dX6_left_78 : decode cX6_left 78 = .ok (.iaload, 1) := by decide +kernel
theorem dX6_left_79 : decode cX6_left 79 = .ok (.goto 5, 3) := by decide +kernel
theorem dX6_left_82 : decode cX6_left 82 = .ok (.bipush (-6), 2) := by decide +kernel
theorem dX6_left_84 : decode cX6_left 84 = .ok (.ireturn, 1) := by decide +kernel
theorem dX6_slept_0 : decode cX6_slept 0 = .ok (.aload_n 0, 1) := by decide +kernel
theorem dX6_slept_1 : decode cX6_slept 1 = .ok (.iload_n 1, 1) := by decide +kernel
theorem dX6_slept_2 : decode cX6_slept 2 = .ok (.invokevirtual 71, 3) := by decide +kernel
theorem dX6_slept_5 : decode cX6_slept 5 = .ok (.ifCond .ne 5, 3) := by decide +kernel
theorem dX6_slept_8 : decode cX6_slept 8 = .ok (.iconst (-1), 1) := by decide +kernel
theorem dX6_slept_9 : decode cX6_slept 9 = .ok (.ireturn, 1) := by decide +kernel
theorem dX6_slept_10 : decode cX6_slept 10 = .ok (.iload_n 2, 1) := by decide +kernel
theorem dX6_slept_11 : decode cX6_slept 11 = .ok (.iconst 0, 1) := by decide +kernel
theorem dX6_slept_12 : decode cX6_slept 12 = .ok (.iconst 2, 1) := by decide +kernel
theorem dX6_slept_13 : decode cX6_slept 13 = .ok (.invokestatic 60, 3) := by decide +kernel
theorem dX6_slept_16 : decode cX6_slept 16 = .ok (.ifCond .ne 6, 3) := by decide +kernel
theorem dX6_slept_19 : decode cX6_slept 19 = .ok (.bipush (-2), 2) := by decide +kernel
theorem dX6_slept_21 : decode cX6_slept 21 = .ok (.ireturn, 1) := by decide +kernel
theorem dX6_slept_22 : decode cX6_slept 22 = .ok (.aload_n 0, 1) := by decide +kernel
theorem dX6_slept_23 : decode cX6_slept 23 = .ok (.aload_n 0, 1) := by decide +kernel
theorem dX6_slept_24 : decode cX6_slept 24 = .ok (.getfield 74, 3) := by decide +kernel
theorem dX6_slept_27 : decode cX6_slept 27 = .ok (.invokevirtual 150, 3) := by decide +kernel
theorem dX6_slept_30 : decode cX6_slept 30 = .ok (.istore_n 3, 1) := by decide +kernel
theorem dX6_slept_31 : decode cX6_slept 31 = .ok (.iload_n 3, 1) := by decide +kernel
theorem dX6_slept_32 : decode cX6_slept 32 = .ok (.ifCond .ge 7, 3) := by decide +kernel
theorem dX6_slept_35 : decode cX6_slept 35 = .ok (.iload_n 3, 1) := by decide +kernel
theorem dX6_slept_36 : decode cX6_slept 36 = .ok (.goto 36, 3) := by decide +kernel
theorem dX6_slept_39 : decode cX6_slept 39 = .ok (.iload_n 2, 1) := by decide +kernel
theorem dX6_slept_40 : decode cX6_slept 40 = .ok (.ifCond .ne 12, 3) := by decide +kernel
theorem dX6_slept_43 : decode cX6_slept 43 = .ok (.aload_n 0, 1) := by decide +kernel
theorem dX6_slept_44 : decode cX6_slept 44 = .ok (.getfield 41, 3) := by decide +kernel
theorem dX6_slept_47 : decode cX6_slept 47 = .ok (.iload_n 1, 1) := by decide +kernel
theorem dX6_slept_48 : decode cX6_slept 48 = .ok (.iaload, 1) := by decide +kernel
theorem dX6_slept_49 : decode cX6_slept 49 = .ok (.goto 23, 3) := by decide +kernel
theorem dX6_slept_52 : decode cX6_slept 52 = .ok (.iload_n 2, 1) := by decide +kernel
theorem dX6_slept_53 : decode cX6_slept 53 = .ok (.iconst 1, 1) := by decide +kernel
theorem dX6_slept_54 : decode cX6_slept 54 = .ok (.if_icmp .ne 12, 3) := by decide +kernel
theorem dX6_slept_57 : decode cX6_slept 57 = .ok (.aload_n 0, 1) := by decide +kernel
theorem dX6_slept_58 : decode cX6_slept 58 = .ok (.getfield 35, 3) := by decide +kernel
theorem dX6_slept_61 : decode cX6_slept 61 = .ok (.iload_n 1, 1) := by decide +kernel
theorem dX6_slept_62 : decode cX6_slept 62 = .ok (.iaload, 1) := by decide +kernel
theorem dX6_slept_63 : decode cX6_slept 63 = .ok (.goto 9, 3) := by decide +kernel
theorem dX6_slept_66 : decode cX6_slept 66 = .ok (.aload_n 0, 1) := by decide +kernel
theorem dX6_slept_67 : decode cX6_slept 67 = .ok (.getfield 38, 3) := by decide +kernel
theorem dX6_slept_70 : decode cX6_slept 70 = .ok (.iload_n 1, 1) := by decide +kernel
theorem dX6_slept_71 : decode cX6_slept 71 = .ok (.iaload, 1) := by decide +kernel
theorem dX6_slept_72 : decode cX6_slept 72 = .ok (.ireturn, 1) := by decide +kernel
theorem dX6_fewest_0 : decode cX6_fewest 0 = .ok (.iload_n 1, 1) := by decide +kernel
theorem dX6_fewest_1 : decode cX6_fewest 1 = .ok (.iconst 0, 1) := by decide +kernel
theorem dX6_fewest_2 : decode cX6_fewest 2 = .ok (.iconst 1, 1) := by decide +kernel
theorem dX6_fewest_3 : decode cX6_fewest 3 = .ok (.invokestatic 60, 3) := by decide +kernel
theorem dX6_fewest_6 : decode cX6_fewest 6 = .ok (.ifCond .ne 6, 3) := by decide +kernel
theorem dX6_fewest_9 : decode cX6_fewest 9 = .ok (.bipush (-2), 2) := by decide +kernel
theorem dX6_fewest_11 : decode cX6_fewest 11 = .ok (.ireturn, 1) := by decide +kernel
theorem dX6_fewest_12 : decode cX6_fewest 12 = .ok (.aload_n 0, 1) := by decide +kernel
theorem dX6_fewest_13 : decode cX6_fewest 13 = .ok (.aload_n 0, 1) := by decide +kernel
theorem dX6_fewest_14 : decode cX6_fewest 14 = .ok (.getfield 74, 3) := by decide +kernel
theorem dX6_fewest_17 : decode cX6_fewest 17 = .ok (.invokevirtual 150, 3) := by decide +kernel
theorem dX6_fewest_20 : decode cX6_fewest 20 = .ok (.istore_n 2, 1) := by decide +kernel
theorem dX6_fewest_21 : decode cX6_fewest 21 = .ok (.iload_n 2, 1) := by decide +kernel
theorem dX6_fewest_22 : decode cX6_fewest 22 = .ok (.ifCond .ge 5, 3) := by decide +kernel
theorem dX6_fewest_25 : decode cX6_fewest 25 = .ok (.iload_n 2, 1) := by decide +kernel
theorem dX6_fewest_26 : decode cX6_fewest 26 = .ok (.ireturn, 1) := by decide +kernel
theorem dX6_fewest_27 : decode cX6_fewest 27 = .ok (.aload_n 0, 1) := by decide +kernel
theorem dX6_fewest_28 : decode cX6_fewest 28 = .ok (.getfield 57, 3) := by decide +kernel
theorem dX6_fewest_31 : decode cX6_fewest 31 = .ok (.istore_n 3, 1) := by decide +kernel
theorem dX6_fewest_32 : decode cX6_fewest 32 = .ok (.bipush (-6), 2) := by decide +kernel
theorem dX6_fewest_34 : decode cX6_fewest 34 = .ok (.istore 4, 2) := by decide +kernel
theorem dX6_fewest_36 : decode cX6_fewest 36 = .ok (.bipush (-6), 2) := by decide +kernel
theorem dX6_fewest_38 : decode cX6_fewest 38 = .ok (.istore 5, 2) := by decide +kernel
theorem dX6_fewest_40 : decode cX6_fewest 40 = .ok (.iconst 0, 1) := by decide +kernel
theorem dX6_fewest_41 : decode cX6_fewest 41 = .ok (.istore 6, 2) := by decide +kernel
theorem dX6_fewest_43 : decode cX6_fewest 43 = .ok (.iload 6, 2) := by decide +kernel
theorem dX6_fewest_45 : decode cX6_fewest 45 = .ok (.iconst 4, 1) := by decide +kernel
theorem dX6_fewest_46 : decode cX6_fewest 46 = .ok (.if_icmp .ge 115, 3) := by decide +kernel
theorem dX6_fewest_49 : decode cX6_fewest 49 = .ok (.aload_n 0, 1) := by decide +kernel
theorem dX6_fewest_50 : decode cX6_fewest 50 = .ok (.iload 6, 2) := by decide +kernel
theorem dX6_fewest_52 : decode cX6_fewest 52 = .ok (.putfield 57, 3) := by decide +kernel
theorem dX6_fewest_55 : decode cX6_fewest 55 = .ok (.aload_n 0, 1) := by decide +kernel
theorem dX6_fewest_56 : decode cX6_fewest 56 = .ok (.aload_n 0, 1) := by decide +kernel
theorem dX6_fewest_57 : decode cX6_fewest 57 = .ok (.getfield 74, 3) := by decide +kernel
theorem dX6_fewest_60 : decode cX6_fewest 60 = .ok (.iconst 0, 1) := by decide +kernel
theorem dX6_fewest_61 : decode cX6_fewest 61 = .ok (.bipush (-6), 2) := by decide +kernel
theorem dX6_fewest_63 : decode cX6_fewest 63 = .ok (.iconst 0, 1) := by decide +kernel
theorem dX6_fewest_64 : decode cX6_fewest 64 = .ok (.invokevirtual 146, 3) := by decide +kernel
theorem dX6_fewest_67 : decode cX6_fewest 67 = .ok (.istore 7, 2) := by decide +kernel
theorem dX6_fewest_69 : decode cX6_fewest 69 = .ok (.iload 7, 2) := by decide +kernel
theorem dX6_fewest_71 : decode cX6_fewest 71 = .ok (.ifCond .ge 7, 3) := by decide +kernel
theorem dX6_fewest_74 : decode cX6_fewest 74 = .ok (.iconst 0, 1) := by decide +kernel
theorem dX6_fewest_75 : decode cX6_fewest 75 = .ok (.goto 6, 3) := by decide +kernel
theorem dX6_fewest_78 : decode cX6_fewest 78 = .ok (.sipush 1000, 3) := by decide +kernel
theorem dX6_fewest_81 : decode cX6_fewest 81 = .ok (.istore 8, 2) := by decide +kernel
theorem dX6_fewest_83 : decode cX6_fewest 83 = .ok (.iconst 0, 1) := by decide +kernel
theorem dX6_fewest_84 : decode cX6_fewest 84 = .ok (.istore 9, 2) := by decide +kernel
theorem dX6_fewest_86 : decode cX6_fewest 86 = .ok (.iload 9, 2) := by decide +kernel
theorem dX6_fewest_88 : decode cX6_fewest 88 = .ok (.aload_n 0, 1) := by decide +kernel
theorem dX6_fewest_89 : decode cX6_fewest 89 = .ok (.getfield 7, 3) := by decide +kernel
theorem dX6_fewest_92 : decode cX6_fewest 92 = .ok (.if_icmp .ge 21, 3) := by decide +kernel
theorem dX6_fewest_95 : decode cX6_fewest 95 = .ok (.iload 8, 2) := by decide +kernel
theorem dX6_fewest_97 : decode cX6_fewest 97 = .ok (.aload_n 0, 1) := by decide +kernel
theorem dX6_fewest_98 : decode cX6_fewest 98 = .ok (.getfield 38, 3) := by decide +kernel
theorem dX6_fewest_101 : decode cX6_fewest 101 = .ok (.iload 9, 2) := by decide +kernel
theorem dX6_fewest_103 : decode cX6_fewest 103 = .ok (.iaload, 1) := by decide +kernel
theorem dX6_fewest_104 : decode cX6_fewest 104 = .ok (.iadd, 1) := by decide +kernel
theorem dX6_fewest_105 : decode cX6_fewest 105 = .ok (.istore 8, 2) := by decide +kernel
theorem dX6_fewest_107 : decode cX6_fewest 107 = .ok (.iinc 9 1, 3) := by decide +kernel
theorem dX6_fewest_110 : decode cX6_fewest 110 = .ok (.goto (-24), 3) := by decide +kernel
theorem dX6_fewest_113 : decode cX6_fewest 113 = .ok (.iload 4, 2) := by decide +kernel
theorem dX6_fewest_115 : decode cX6_fewest 115 = .ok (.ifCond .lt 10, 3) := by decide +kernel
theorem dX6_fewest_118 : decode cX6_fewest 118 = .ok (.iload 8, 2) := by decide +kernel
theorem dX6_fewest_120 : decode cX6_fewest 120 = .ok (.iload 5, 2) := by decide +kernel
theorem dX6_fewest_122 : decode cX6_fewest 122 = .ok (.if_icmp .ge 8, 3) := by decide +kernel
theorem dX6_fewest_125 : decode cX6_fewest 125 = .ok (.iload 6, 2) := by decide +kernel
theorem dX6_fewest_127 : decode cX6_fewest 127 = .ok (.goto 5, 3) := by decide +kernel
theorem dX6_fewest_130 : decode cX6_fewest 130 = .ok (.iload 4, 2) := by decide +kernel
theorem dX6_fewest_132 : decode cX6_fewest 132 = .ok (.istore 4, 2) := by decide +kernel
theorem dX6_fewest_134 : decode cX6_fewest 134 = .ok (.iload 5, 2) := by decide +kernel
theorem dX6_fewest_136 : decode cX6_fewest 136 = .ok (.ifCond .lt 10, 3) := by decide +kernel
theorem dX6_fewest_139 : decode cX6_fewest 139 = .ok (.iload 8, 2) := by decide +kernel
theorem dX6_fewest_141 : decode cX6_fewest 141 = .ok (.iload 5, 2) := by decide +kernel
theorem dX6_fewest_143 : decode cX6_fewest 143 = .ok (.if_icmp .ge 8, 3) := by decide +kernel
theorem dX6_fewest_146 : decode cX6_fewest 146 = .ok (.iload 8, 2) := by decide +kernel
theorem dX6_fewest_148 : decode cX6_fewest 148 = .ok (.goto 5, 3) := by decide +kernel
theorem dX6_fewest_151 : decode cX6_fewest 151 = .ok (.iload 5, 2) := by decide +kernel
theorem dX6_fewest_153 : decode cX6_fewest 153 = .ok (.istore 5, 2) := by decide +kernel
theorem dX6_fewest_155 : decode cX6_fewest 155 = .ok (.iinc 6 1, 3) := by decide +kernel
theorem dX6_fewest_158 : decode cX6_fewest 158 = .ok (.goto (-115), 3) := by decide +kernel
theorem dX6_fewest_161 : decode cX6_fewest 161 = .ok (.aload_n 0, 1) := by decide +kernel
theorem dX6_fewest_162 : decode cX6_fewest 162 = .ok (.iload_n 3, 1) := by decide +kernel
theorem dX6_fewest_163 : decode cX6_fewest 163 = .ok (.putfield 57, 3) := by decide +kernel
theorem dX6_fewest_166 : decode cX6_fewest 166 = .ok (.iload_n 1, 1) := by decide +kernel
theorem dX6_fewest_167 : decode cX6_fewest 167 = .ok (.ifCond .ne 8, 3) := by decide +kernel
theorem dX6_fewest_170 : decode cX6_fewest 170 = .ok (.iload 4, 2) := by decide +kernel
theorem dX6_fewest_172 : decode cX6_fewest 172 = .ok (.goto 5, 3) := by decide +kernel
theorem dX6_fewest_175 : decode cX6_fewest 175 = .ok (.iload 5, 2) := by decide +kernel
theorem dX6_fewest_177 : decode cX6_fewest 177 = .ok (.ireturn, 1) := by decide +kernel
theorem dX6_isInDay_0 : decode cX6_isInDay 0 = .ok (.iconst 0, 1) := by decide +kernel
theorem dX6_isInDay_1 : decode cX6_isInDay 1 = .ok (.istore_n 2, 1) := by decide +kernel
theorem dX6_isInDay_2 : decode cX6_isInDay 2 = .ok (.iconst 0, 1) := by decide +kernel
theorem dX6_isInDay_3 : decode cX6_isInDay 3 = .ok (.istore_n 3, 1) := by decide +kernel
theorem dX6_isInDay_4 : decode cX6_isInDay 4 = .ok (.iload_n 3, 1) := by decide +kernel
theorem dX6_isInDay_5 : decode cX6_isInDay 5 = .ok (.aload_n 0, 1) := by decide +kernel
theorem dX6_isInDay_6 : decode cX6_isInDay 6 = .ok (.getfield 74, 3) := by decide +kernel
theorem dX6_isInDay_9 : decode cX6_isInDay 9 = .ok (.if_icmp .ge 45, 3) := by decide +kernel
theorem dX6_isInDay_12 : decode cX6_isInDay 12 = .ok (.iload_n 2, 1) := by decide +kernel
theorem dX6_isInDay_13 : decode cX6_isInDay 13 = .ok (.ifCond .ne 29, 3) := by decide +kernel
theorem dX6_isInDay_16 : decode cX6_isInDay 16 = .ok (.aload_n 0, 1) := by decide +kernel
theorem dX6_isInDay_17 : decode cX6_isInDay 17 = .ok (.getfield 20, 3) := by decide +kernel
theorem dX6_isInDay_20 : decode cX6_isInDay 20 = .ok (.iload_n 3, 1) := by decide +kernel
theorem dX6_isInDay_21 : decode cX6_isInDay 21 = .ok (.iaload, 1) := by decide +kernel
theorem dX6_isInDay_22 : decode cX6_isInDay 22 = .ok (.bipush 65, 2) := by decide +kernel
theorem dX6_isInDay_24 : decode cX6_isInDay 24 = .ok (.iload_n 1, 1) := by decide +kernel
theorem dX6_isInDay_25 : decode cX6_isInDay 25 = .ok (.iadd, 1) := by decide +kernel
theorem dX6_isInDay_26 : decode cX6_isInDay 26 = .ok (.if_icmp .eq 16, 3) := by decide +kernel
theorem dX6_isInDay_29 : decode cX6_isInDay 29 = .ok (.aload_n 0, 1) := by decide +kernel
theorem dX6_isInDay_30 : decode cX6_isInDay 30 = .ok (.getfield 20, 3) := by decide +kernel
theorem dX6_isInDay_33 : decode cX6_isInDay 33 = .ok (.iload_n 3, 1) := by decide +kernel
theorem dX6_isInDay_34 : decode cX6_isInDay 34 = .ok (.iaload, 1) := by decide +kernel
theorem dX6_isInDay_35 : decode cX6_isInDay 35 = .ok (.bipush 97, 2) := by decide +kernel
theorem dX6_isInDay_37 : decode cX6_isInDay 37 = .ok (.iload_n 1, 1) := by decide +kernel
theorem dX6_isInDay_38 : decode cX6_isInDay 38 = .ok (.iadd, 1) := by decide +kernel
theorem dX6_isInDay_39 : decode cX6_isInDay 39 = .ok (.if_icmp .ne 7, 3) := by decide +kernel
theorem dX6_isInDay_42 : decode cX6_isInDay 42 = .ok (.iconst 1, 1) := by decide +kernel
theorem dX6_isInDay_43 : decode cX6_isInDay 43 = .ok (.goto 4, 3) := by decide +kernel
theorem dX6_isInDay_46 : decode cX6_isInDay 46 = .ok (.iconst 0, 1) := by decide +kernel
theorem dX6_isInDay_47 : decode cX6_isInDay 47 = .ok (.istore_n 2, 1) := by decide +kernel
theorem dX6_isInDay_48 : decode cX6_isInDay 48 = .ok (.iinc 3 1, 3) := by decide +kernel
theorem dX6_isInDay_51 : decode cX6_isInDay 51 = .ok (.goto (-47), 3) := by decide +kernel
theorem dX6_isInDay_54 : decode cX6_isInDay 54 = .ok (.iload_n 2, 1) := by decide +kernel
theorem dX6_isInDay_55 : decode cX6_isInDay 55 = .ok (.ireturn, 1) := by decide +kernel
theorem dX6_barOfComing_0 : decode cX6_barOfComing 0 = .ok (.aload_n 0, 1) := by decide +kernel
theorem dX6_barOfComing_1 : decode cX6_barOfComing 1 = .ok (.aload_n 0, 1) := by decide +kernel
theorem dX6_barOfComing_2 : decode cX6_barOfComing 2 = .ok (.getfield 74, 3) := by decide +kernel
theorem dX6_barOfComing_5 : decode cX6_barOfComing 5 = .ok (.invokevirtual 150, 3) := by decide +kernel
theorem dX6_barOfComing_8 : decode cX6_barOfComing 8 = .ok (.istore_n 1, 1) := by decide +kernel
theorem dX6_barOfComing_9 : decode cX6_barOfComing 9 = .ok (.iload_n 1, 1) := by decide +kernel
theorem dX6_barOfComing_10 : decode cX6_barOfComing 10 = .ok (.ifCond .ge 7, 3) := by decide +kernel
theorem dX6_barOfComing_13 : decode cX6_barOfComing 13 = .ok (.iload_n 1, 1) := by decide +kernel
theorem dX6_barOfComing_14 : decode cX6_barOfComing 14 = .ok (.goto 18, 3) := by decide +kernel
theorem dX6_barOfComing_17 : decode cX6_barOfComing 17 = .ok (.aload_n 0, 1) := by decide +kernel
theorem dX6_barOfComing_18 : decode cX6_barOfComing 18 = .ok (.getfield 74, 3) := by decide +kernel
theorem dX6_barOfComing_21 : decode cX6_barOfComing 21 = .ok (.bipush 48, 2) := by decide +kernel
theorem dX6_barOfComing_23 : decode cX6_barOfComing 23 = .ok (.if_icmp .ne 8, 3) := by decide +kernel
theorem dX6_barOfComing_26 : decode cX6_barOfComing 26 = .ok (.bipush (-4), 2) := by decide +kernel
theorem dX6_barOfComing_28 : decode cX6_barOfComing 28 = .ok (.goto 4, 3) := by decide +kernel
theorem dX6_barOfComing_31 : decode cX6_barOfComing 31 = .ok (.iconst 0, 1) := by decide +kernel
theorem dX6_barOfComing_32 : decode cX6_barOfComing 32 = .ok (.ireturn, 1) := by decide +kernel
theorem dX6_when_0 : decode cX6_when 0 = .ok (.iload_n 1, 1) := by decide +kernel
theorem dX6_when_1 : decode cX6_when 1 = .ok (.invokestatic 67, 3) := by decide +kernel
theorem dX6_when_4 : decode cX6_when 4 = .ok (.ifCond .eq 19, 3) := by decide +kernel
theorem dX6_when_7 : decode cX6_when 7 = .ok (.aload_n 0, 1) := by decide +kernel
theorem dX6_when_8 : decode cX6_when 8 = .ok (.iload_n 2, 1) := by decide +kernel
theorem dX6_when_9 : decode cX6_when 9 = .ok (.invokevirtual 71, 3) := by decide +kernel
theorem dX6_when_12 : decode cX6_when 12 = .ok (.ifCond .eq 11, 3) := by decide +kernel
theorem dX6_when_15 : decode cX6_when 15 = .ok (.aload_n 0, 1) := by decide +kernel
theorem dX6_when_16 : decode cX6_when 16 = .ok (.iload_n 1, 1) := by decide +kernel
theorem dX6_when_17 : decode cX6_when 17 = .ok (.invokevirtual 153, 3) := by decide +kernel
theorem dX6_when_20 : decode cX6_when 20 = .ok (.ifCond .eq 5, 3) := by decide +kernel
theorem dX6_when_23 : decode cX6_when 23 = .ok (.iconst (-1), 1) := by decide +kernel
theorem dX6_when_24 : decode cX6_when 24 = .ok (.ireturn, 1) := by decide +kernel
theorem dX6_when_25 : decode cX6_when 25 = .ok (.iload_n 3, 1) := by decide +kernel
theorem dX6_when_26 : decode cX6_when 26 = .ok (.iconst 0, 1) := by decide +kernel
theorem dX6_when_27 : decode cX6_when 27 = .ok (.iconst 1, 1) := by decide +kernel
theorem dX6_when_28 : decode cX6_when 28 = .ok (.invokestatic 60, 3) := by decide +kernel
theorem dX6_when_31 : decode cX6_when 31 = .ok (.ifCond .ne 6, 3) := by decide +kernel
theorem dX6_when_34 : decode cX6_when 34 = .ok (.bipush (-2), 2) := by decide +kernel
theorem dX6_when_36 : decode cX6_when 36 = .ok (.ireturn, 1) := by decide +kernel
theorem dX6_when_37 : decode cX6_when 37 = .ok (.aload_n 0, 1) := by decide +kernel
theorem dX6_when_38 : decode cX6_when 38 = .ok (.invokevirtual 156, 3) := by decide +kernel
theorem dX6_when_41 : decode cX6_when 41 = .ok (.istore 4, 2) := by decide +kernel
theorem dX6_when_43 : decode cX6_when 43 = .ok (.iload 4, 2) := by decide +kernel
theorem dX6_when_45 : decode cX6_when 45 = .ok (.ifCond .ge 6, 3) := by decide +kernel
theorem dX6_when_48 : decode cX6_when 48 = .ok (.iload 4, 2) := by decide +kernel
theorem dX6_when_50 : decode cX6_when 50 = .ok (.ireturn, 1) := by decide +kernel
theorem dX6_when_51 : decode cX6_when 51 = .ok (.iconst 0, 1) := by decide +kernel
theorem dX6_when_52 : decode cX6_when 52 = .ok (.istore 5, 2) := by decide +kernel
theorem dX6_when_54 : decode cX6_when 54 = .ok (.bipush (-6), 2) := by decide +kernel
theorem dX6_when_56 : decode cX6_when 56 = .ok (.istore 6, 2) := by decide +kernel
theorem dX6_when_58 : decode cX6_when 58 = .ok (.iconst 0, 1) := by decide +kernel
theorem dX6_when_59 : decode cX6_when 59 = .ok (.istore 7, 2) := by decide +kernel
theorem dX6_when_61 : decode cX6_when 61 = .ok (.iload 7, 2) := by decide +kernel
theorem dX6_when_63 : decode cX6_when 63 = .ok (.aload_n 0, 1) := by decide +kernel
theorem dX6_when_64 : decode cX6_when 64 = .ok (.getfield 74, 3) := by decide +kernel
theorem dX6_when_67 : decode cX6_when 67 = .ok (.if_icmp .gt 50, 3) := by decide +kernel
theorem dX6_when_70 : decode cX6_when 70 = .ok (.aload_n 0, 1) := by decide +kernel
theorem dX6_when_71 : decode cX6_when 71 = .ok (.aload_n 0, 1) := by decide +kernel
theorem dX6_when_72 : decode cX6_when 72 = .ok (.getfield 74, 3) := by decide +kernel
theorem dX6_when_75 : decode cX6_when 75 = .ok (.iconst 0, 1) := by decide +kernel
theorem dX6_when_76 : decode cX6_when 76 = .ok (.iload 7, 2) := by decide +kernel
theorem dX6_when_78 : decode cX6_when 78 = .ok (.iload_n 1, 1) := by decide +kernel
theorem dX6_when_79 : decode cX6_when 79 = .ok (.invokevirtual 146, 3) := by decide +kernel
theorem dX6_when_82 : decode cX6_when 82 = .ok (.ifCond .ge 29, 3) := by decide +kernel
theorem dX6_when_85 : decode cX6_when 85 = .ok (.aload_n 0, 1) := by decide +kernel
theorem dX6_when_86 : decode cX6_when 86 = .ok (.iload_n 1, 1) := by decide +kernel
theorem dX6_when_87 : decode cX6_when 87 = .ok (.invokevirtual 87, 3) := by decide +kernel
theorem dX6_when_90 : decode cX6_when 90 = .ok (.iload_n 2, 1) := by decide +kernel
theorem dX6_when_91 : decode cX6_when 91 = .ok (.if_icmp .ne 20, 3) := by decide +kernel
theorem dX6_when_94 : decode cX6_when 94 = .ok (.iload 6, 2) := by decide +kernel
theorem dX6_when_96 : decode cX6_when 96 = .ok (.ifCond .ge 8, 3) := by decide +kernel
theorem dX6_when_99 : decode cX6_when 99 = .ok (.iload 7, 2) := by decide +kernel
theorem dX6_when_101 : decode cX6_when 101 = .ok (.goto 5, 3) := by decide +kernel
theorem dX6_when_104 : decode cX6_when 104 = .ok (.iload 6, 2) := by decide +kernel
theorem dX6_when_106 : decode cX6_when 106 = .ok (.istore 6, 2) := by decide +kernel
theorem dX6_when_108 : decode cX6_when 108 = .ok (.iinc 5 1, 3) := by decide +kernel
theorem dX6_when_111 : decode cX6_when 111 = .ok (.iinc 7 1, 3) := by decide +kernel
theorem dX6_when_114 : decode cX6_when 114 = .ok (.goto (-53), 3) := by decide +kernel
theorem dX6_when_117 : decode cX6_when 117 = .ok (.iload_n 3, 1) := by decide +kernel
theorem dX6_when_118 : decode cX6_when 118 = .ok (.ifCond .ne 8, 3) := by decide +kernel
theorem dX6_when_121 : decode cX6_when 121 = .ok (.iload 5, 2) := by decide +kernel
theorem dX6_when_123 : decode cX6_when 123 = .ok (.goto 5, 3) := by decide +kernel
theorem dX6_when_126 : decode cX6_when 126 = .ok (.iload 6, 2) := by decide +kernel
theorem dX6_when_128 : decode cX6_when 128 = .ok (.ireturn, 1) := by decide +kernel
theorem dX6_best_0 : decode cX6_best 0 = .ok (.iload_n 1, 1) := by decide +kernel
theorem dX6_best_1 : decode cX6_best 1 = .ok (.invokestatic 67, 3) := by decide +kernel
theorem dX6_best_4 : decode cX6_best 4 = .ok (.ifCond .eq 11, 3) := by decide +kernel
theorem dX6_best_7 : decode cX6_best 7 = .ok (.aload_n 0, 1) := by decide +kernel
theorem dX6_best_8 : decode cX6_best 8 = .ok (.iload_n 1, 1) := by decide +kernel
theorem dX6_best_9 : decode cX6_best 9 = .ok (.invokevirtual 153, 3) := by decide +kernel
theorem dX6_best_12 : decode cX6_best 12 = .ok (.ifCond .eq 5, 3) := by decide +kernel
theorem dX6_best_15 : decode cX6_best 15 = .ok (.iconst (-1), 1) := by decide +kernel
theorem dX6_best_16 : decode cX6_best 16 = .ok (.ireturn, 1) := by decide +kernel
theorem dX6_best_17 : decode cX6_best 17 = .ok (.iload_n 2, 1) := by decide +kernel
theorem dX6_best_18 : decode cX6_best 18 = .ok (.iconst 0, 1) := by decide +kernel
theorem dX6_best_19 : decode cX6_best 19 = .ok (.iconst 1, 1) := by decide +kernel
theorem dX6_best_20 : decode cX6_best 20 = .ok (.invokestatic 60, 3) := by decide +kernel
theorem dX6_best_23 : decode cX6_best 23 = .ok (.ifCond .ne 6, 3) := by decide +kernel
theorem dX6_best_26 : decode cX6_best 26 = .ok (.bipush (-2), 2) := by decide +kernel
theorem dX6_best_28 : decode cX6_best 28 = .ok (.ireturn, 1) := by decide +kernel
theorem dX6_best_29 : decode cX6_best 29 = .ok (.aload_n 0, 1) := by decide +kernel
theorem dX6_best_30 : decode cX6_best 30 = .ok (.invokevirtual 156, 3) := by decide +kernel
theorem dX6_best_33 : decode cX6_best 33 = .ok (.istore_n 3, 1) := by decide +kernel
theorem dX6_best_34 : decode cX6_best 34 = .ok (.iload_n 3, 1) := by decide +kernel
theorem dX6_best_35 : decode cX6_best 35 = .ok (.ifCond .ge 5, 3) := by decide +kernel
theorem dX6_best_38 : decode cX6_best 38 = .ok (.iload_n 3, 1) := by decide +kernel
theorem dX6_best_39 : decode cX6_best 39 = .ok (.ireturn, 1) := by decide +kernel
theorem dX6_best_40 : decode cX6_best 40 = .ok (.bipush (-6), 2) := by decide +kernel
theorem dX6_best_42 : decode cX6_best 42 = .ok (.istore 4, 2) := by decide +kernel
theorem dX6_best_44 : decode cX6_best 44 = .ok (.bipush (-2), 2) := by decide +kernel
theorem dX6_best_46 : decode cX6_best 46 = .ok (.istore 5, 2) := by decide +kernel
theorem dX6_best_48 : decode cX6_best 48 = .ok (.iconst 0, 1) := by decide +kernel
theorem dX6_best_49 : decode cX6_best 49 = .ok (.istore 6, 2) := by decide +kernel
theorem dX6_best_51 : decode cX6_best 51 = .ok (.iload 6, 2) := by decide +kernel
theorem dX6_best_53 : decode cX6_best 53 = .ok (.aload_n 0, 1) := by decide +kernel
theorem dX6_best_54 : decode cX6_best 54 = .ok (.getfield 74, 3) := by decide +kernel
theorem dX6_best_57 : decode cX6_best 57 = .ok (.if_icmp .gt 90, 3) := by decide +kernel
theorem dX6_best_60 : decode cX6_best 60 = .ok (.aload_n 0, 1) := by decide +kernel
theorem dX6_best_61 : decode cX6_best 61 = .ok (.aload_n 0, 1) := by decide +kernel
theorem dX6_best_62 : decode cX6_best 62 = .ok (.getfield 74, 3) := by decide +kernel
theorem dX6_best_65 : decode cX6_best 65 = .ok (.iconst 0, 1) := by decide +kernel
theorem dX6_best_66 : decode cX6_best 66 = .ok (.iload 6, 2) := by decide +kernel
theorem dX6_best_68 : decode cX6_best 68 = .ok (.iload_n 1, 1) := by decide +kernel
theorem dX6_best_69 : decode cX6_best 69 = .ok (.invokevirtual 146, 3) := by decide +kernel
theorem dX6_best_72 : decode cX6_best 72 = .ok (.istore 7, 2) := by decide +kernel
theorem dX6_best_74 : decode cX6_best 74 = .ok (.aload_n 0, 1) := by decide +kernel
theorem dX6_best_75 : decode cX6_best 75 = .ok (.iload_n 1, 1) := by decide +kernel
theorem dX6_best_76 : decode cX6_best 76 = .ok (.invokevirtual 87, 3) := by decide +kernel
theorem dX6_best_79 : decode cX6_best 79 = .ok (.istore 8, 2) := by decide +kernel
theorem dX6_best_81 : decode cX6_best 81 = .ok (.iload 7, 2) := by decide +kernel
theorem dX6_best_83 : decode cX6_best 83 = .ok (.ifCond .ge 8, 3) := by decide +kernel
theorem dX6_best_86 : decode cX6_best 86 = .ok (.iload 8, 2) := by decide +kernel
theorem dX6_best_88 : decode cX6_best 88 = .ok (.ifCond .ge 7, 3) := by decide +kernel
theorem dX6_best_91 : decode cX6_best 91 = .ok (.iconst (-1), 1) := by decide +kernel
theorem dX6_best_92 : decode cX6_best 92 = .ok (.goto 15, 3) := by decide +kernel
theorem dX6_best_95 : decode cX6_best 95 = .ok (.aload_n 0, 1) := by decide +kernel
theorem dX6_best_96 : decode cX6_best 96 = .ok (.getfield 13, 3) := by decide +kernel
theorem dX6_best_99 : decode cX6_best 99 = .ok (.bipush 8, 2) := by decide +kernel
theorem dX6_best_101 : decode cX6_best 101 = .ok (.iload_n 1, 1) := by decide +kernel
theorem dX6_best_102 : decode cX6_best 102 = .ok (.imul, 1) := by decide +kernel
theorem dX6_best_103 : decode cX6_best 103 = .ok (.iload 8, 2) := by decide +kernel
theorem dX6_best_105 : decode cX6_best 105 = .ok (.iadd, 1) := by decide +kernel
theorem dX6_best_106 : decode cX6_best 106 = .ok (.iaload, 1) := by decide +kernel
theorem dX6_best_107 : decode cX6_best 107 = .ok (.istore 9, 2) := by decide +kernel
theorem dX6_best_109 : decode cX6_best 109 = .ok (.iload 9, 2) := by decide +kernel
theorem dX6_best_111 : decode cX6_best 111 = .ok (.iload 5, 2) := by decide +kernel
theorem dX6_best_113 : decode cX6_best 113 = .ok (.if_icmp .le 8, 3) := by decide +kernel
theorem dX6_best_116 : decode cX6_best 116 = .ok (.iload 6, 2) := by decide +kernel
theorem dX6_best_118 : decode cX6_best 118 = .ok (.goto 5, 3) := by decide +kernel
theorem dX6_best_121 : decode cX6_best 121 = .ok (.iload 4, 2) := by decide +kernel
theorem dX6_best_123 : decode cX6_best 123 = .ok (.istore 4, 2) := by decide +kernel
theorem dX6_best_125 : decode cX6_best 125 = .ok (.iload 9, 2) := by decide +kernel
theorem dX6_best_127 : decode cX6_best 127 = .ok (.iload 5, 2) := by decide +kernel
theorem dX6_best_129 : decode cX6_best 129 = .ok (.if_icmp .le 8, 3) := by decide +kernel
theorem dX6_best_132 : decode cX6_best 132 = .ok (.iload 9, 2) := by decide +kernel
theorem dX6_best_134 : decode cX6_best 134 = .ok (.goto 5, 3) := by decide +kernel
theorem dX6_best_137 : decode cX6_best 137 = .ok (.iload 5, 2) := by decide +kernel
theorem dX6_best_139 : decode cX6_best 139 = .ok (.istore 5, 2) := by decide +kernel
theorem dX6_best_141 : decode cX6_best 141 = .ok (.iinc 6 1, 3) := by decide +kernel
theorem dX6_best_144 : decode cX6_best 144 = .ok (.goto (-93), 3) := by decide +kernel
theorem dX6_best_147 : decode cX6_best 147 = .ok (.iload_n 2, 1) := by decide +kernel
theorem dX6_best_148 : decode cX6_best 148 = .ok (.ifCond .ne 8, 3) := by decide +kernel
theorem dX6_best_151 : decode cX6_best 151 = .ok (.iload 4, 2) := by decide +kernel
theorem dX6_best_153 : decode cX6_best 153 = .ok (.goto 5, 3) := by decide +kernel
theorem dX6_best_156 : decode cX6_best 156 = .ok (.iload 5, 2) := by decide +kernel
theorem dX6_best_158 : decode cX6_best 158 = .ok (.ireturn, 1) := by decide +kernel
theorem dX6_reach_0 : decode cX6_reach 0 = .ok (.aload_n 0, 1) := by decide +kernel
theorem dX6_reach_1 : decode cX6_reach 1 = .ok (.iload_n 1, 1) := by decide +kernel
theorem dX6_reach_2 : decode cX6_reach 2 = .ok (.invokevirtual 71, 3) := by decide +kernel
theorem dX6_reach_5 : decode cX6_reach 5 = .ok (.ifCond .ne 5, 3) := by decide +kernel
theorem dX6_reach_8 : decode cX6_reach 8 = .ok (.iconst (-1), 1) := by decide +kernel
theorem dX6_reach_9 : decode cX6_reach 9 = .ok (.ireturn, 1) := by decide +kernel
theorem dX6_reach_10 : decode cX6_reach 10 = .ok (.aload_n 0, 1) := by decide +kernel
theorem dX6_reach_11 : decode cX6_reach 11 = .ok (.aload_n 0, 1) := by decide +kernel
theorem dX6_reach_12 : decode cX6_reach 12 = .ok (.getfield 74, 3) := by decide +kernel
theorem dX6_reach_15 : decode cX6_reach 15 = .ok (.invokevirtual 150, 3) := by decide +kernel
theorem dX6_reach_18 : decode cX6_reach 18 = .ok (.istore_n 2, 1) := by decide +kernel
theorem dX6_reach_19 : decode cX6_reach 19 = .ok (.iload_n 2, 1) := by decide +kernel
theorem dX6_reach_20 : decode cX6_reach 20 = .ok (.ifCond .ge 5, 3) := by decide +kernel
theorem dX6_reach_23 : decode cX6_reach 23 = .ok (.iload_n 2, 1) := by decide +kernel
theorem dX6_reach_24 : decode cX6_reach 24 = .ok (.ireturn, 1) := by decide +kernel
theorem dX6_reach_25 : decode cX6_reach 25 = .ok (.iconst 0, 1) := by decide +kernel
theorem dX6_reach_26 : decode cX6_reach 26 = .ok (.istore_n 3, 1) := by decide +kernel
theorem dX6_reach_27 : decode cX6_reach 27 = .ok (.aload_n 0, 1) := by decide +kernel
theorem dX6_reach_28 : decode cX6_reach 28 = .ok (.getfield 23, 3) := by decide +kernel
theorem dX6_reach_31 : decode cX6_reach 31 = .ok (.iload_n 1, 1) := by decide +kernel
theorem dX6_reach_32 : decode cX6_reach 32 = .ok (.iaload, 1) := by decide +kernel
theorem dX6_reach_33 : decode cX6_reach 33 = .ok (.ifCond .ge 17, 3) := by decide +kernel
theorem dX6_reach_36 : decode cX6_reach 36 = .ok (.aload_n 0, 1) := by decide +kernel
theorem dX6_reach_37 : decode cX6_reach 37 = .ok (.bipush 8, 2) := by decide +kernel
theorem dX6_reach_39 : decode cX6_reach 39 = .ok (.iload_n 3, 1) := by decide +kernel
theorem dX6_reach_40 : decode cX6_reach 40 = .ok (.iadd, 1) := by decide +kernel
theorem dX6_reach_41 : decode cX6_reach 41 = .ok (.invokevirtual 125, 3) := by decide +kernel
theorem dX6_reach_44 : decode cX6_reach 44 = .ok (.iinc 3 1, 3) := by decide +kernel
theorem dX6_reach_47 : decode cX6_reach 47 = .ok (.goto (-20), 3) := by decide +kernel
theorem dX6_reach_50 : decode cX6_reach 50 = .ok (.iload_n 3, 1) := by decide +kernel
theorem dX6_reach_51 : decode cX6_reach 51 = .ok (.ireturn, 1) := by decide +kernel
theorem dX6_nextRow_0 : decode cX6_nextRow 0 = .ok (.iload_n 1, 1) := by decide +kernel
theorem dX6_nextRow_1 : decode cX6_nextRow 1 = .ok (.iconst 2, 1) := by decide +kernel
theorem dX6_nextRow_2 : decode cX6_nextRow 2 = .ok (.isub, 1) := by decide +kernel
theorem dX6_nextRow_3 : decode cX6_nextRow 3 = .ok (.istore_n 2, 1) := by decide +kernel
theorem dX6_nextRow_4 : decode cX6_nextRow 4 = .ok (.iload_n 2, 1) := by decide +kernel
theorem dX6_nextRow_5 : decode cX6_nextRow 5 = .ok (.ifCond .lt 26, 3) := by decide +kernel
theorem dX6_nextRow_8 : decode cX6_nextRow 8 = .ok (.aload_n 0, 1) := by decide +kernel
theorem dX6_nextRow_9 : decode cX6_nextRow 9 = .ok (.getfield 44, 3) := by decide +kernel
theorem dX6_nextRow_12 : decode cX6_nextRow 12 = .ok (.iload_n 2, 1) := by decide +kernel
theorem dX6_nextRow_13 : decode cX6_nextRow 13 = .ok (.iaload, 1) := by decide +kernel
theorem dX6_nextRow_14 : decode cX6_nextRow 14 = .ok (.aload_n 0, 1) := by decide +kernel
theorem dX6_nextRow_15 : decode cX6_nextRow 15 = .ok (.getfield 44, 3) := by decide +kernel
theorem dX6_nextRow_18 : decode cX6_nextRow 18 = .ok (.iload_n 2, 1) := by decide +kernel
theorem dX6_nextRow_19 : decode cX6_nextRow 19 = .ok (.iconst 1, 1) := by decide +kernel
theorem dX6_nextRow_20 : decode cX6_nextRow 20 = .ok (.iadd, 1) := by decide +kernel
theorem dX6_nextRow_21 : decode cX6_nextRow 21 = .ok (.iaload, 1) := by decide +kernel
theorem dX6_nextRow_22 : decode cX6_nextRow 22 = .ok (.if_icmp .le 9, 3) := by decide +kernel
theorem dX6_nextRow_25 : decode cX6_nextRow 25 = .ok (.iinc 2 (-1), 3) := by decide +kernel
theorem dX6_nextRow_28 : decode cX6_nextRow 28 = .ok (.goto (-24), 3) := by decide +kernel
theorem dX6_nextRow_31 : decode cX6_nextRow 31 = .ok (.iload_n 2, 1) := by decide +kernel
theorem dX6_nextRow_32 : decode cX6_nextRow 32 = .ok (.ifCond .ge 5, 3) := by decide +kernel
theorem dX6_nextRow_35 : decode cX6_nextRow 35 = .ok (.iconst 0, 1) := by decide +kernel
theorem dX6_nextRow_36 : decode cX6_nextRow 36 = .ok (.ireturn, 1) := by decide +kernel
theorem dX6_nextRow_37 : decode cX6_nextRow 37 = .ok (.iload_n 1, 1) := by decide +kernel
theorem dX6_nextRow_38 : decode cX6_nextRow 38 = .ok (.iconst 1, 1) := by decide +kernel
theorem dX6_nextRow_39 : decode cX6_nextRow 39 = .ok (.isub, 1) := by decide +kernel
theorem dX6_nextRow_40 : decode cX6_nextRow 40 = .ok (.istore_n 3, 1) := by decide +kernel
theorem dX6_nextRow_41 : decode cX6_nextRow 41 = .ok (.aload_n 0, 1) := by decide +kernel
theorem dX6_nextRow_42 : decode cX6_nextRow 42 = .ok (.getfield 44, 3) := by decide +kernel
theorem dX6_nextRow_45 : decode cX6_nextRow 45 = .ok (.iload_n 3, 1) := by decide +kernel
theorem dX6_nextRow_46 : decode cX6_nextRow 46 = .ok (.iaload, 1) := by decide +kernel
theorem dX6_nextRow_47 : decode cX6_nextRow 47 = .ok (.aload_n 0, 1) := by decide +kernel
theorem dX6_nextRow_48 : decode cX6_nextRow 48 = .ok (.getfield 44, 3) := by decide +kernel
theorem dX6_nextRow_51 : decode cX6_nextRow 51 = .ok (.iload_n 2, 1) := by decide +kernel
theorem dX6_nextRow_52 : decode cX6_nextRow 52 = .ok (.iaload, 1) := by decide +kernel
theorem dX6_nextRow_53 : decode cX6_nextRow 53 = .ok (.if_icmp .ge 9, 3) := by decide +kernel
theorem dX6_nextRow_56 : decode cX6_nextRow 56 = .ok (.iinc 3 (-1), 3) := by decide +kernel
theorem dX6_nextRow_59 : decode cX6_nextRow 59 = .ok (.goto (-18), 3) := by decide +kernel
theorem dX6_nextRow_62 : decode cX6_nextRow 62 = .ok (.aload_n 0, 1) := by decide +kernel
theorem dX6_nextRow_63 : decode cX6_nextRow 63 = .ok (.iload_n 2, 1) := by decide +kernel
theorem dX6_nextRow_64 : decode cX6_nextRow 64 = .ok (.iload_n 3, 1) := by decide +kernel
theorem dX6_nextRow_65 : decode cX6_nextRow 65 = .ok (.invokevirtual 159, 3) := by decide +kernel
theorem dX6_nextRow_68 : decode cX6_nextRow 68 = .ok (.iload_n 2, 1) := by decide +kernel
theorem dX6_nextRow_69 : decode cX6_nextRow 69 = .ok (.iconst 1, 1) := by decide +kernel
theorem dX6_nextRow_70 : decode cX6_nextRow 70 = .ok (.iadd, 1) := by decide +kernel
theorem dX6_nextRow_71 : decode cX6_nextRow 71 = .ok (.istore 4, 2) := by decide +kernel
theorem dX6_nextRow_73 : decode cX6_nextRow 73 = .ok (.iload_n 1, 1) := by decide +kernel
theorem dX6_nextRow_74 : decode cX6_nextRow 74 = .ok (.iconst 1, 1) := by decide +kernel
theorem dX6_nextRow_75 : decode cX6_nextRow 75 = .ok (.isub, 1) := by decide +kernel
theorem dX6_nextRow_76 : decode cX6_nextRow 76 = .ok (.istore 5, 2) := by decide +kernel
theorem dX6_nextRow_78 : decode cX6_nextRow 78 = .ok (.iload 4, 2) := by decide +kernel
theorem dX6_nextRow_80 : decode cX6_nextRow 80 = .ok (.iload 5, 2) := by decide +kernel
theorem dX6_nextRow_82 : decode cX6_nextRow 82 = .ok (.if_icmp .ge 20, 3) := by decide +kernel
theorem dX6_nextRow_85 : decode cX6_nextRow 85 = .ok (.aload_n 0, 1) := by decide +kernel
theorem dX6_nextRow_86 : decode cX6_nextRow 86 = .ok (.iload 4, 2) := by decide +kernel
theorem dX6_nextRow_88 : decode cX6_nextRow 88 = .ok (.iload 5, 2) := by decide +kernel
theorem dX6_nextRow_90 : decode cX6_nextRow 90 = .ok (.invokevirtual 159, 3) := by decide +kernel
theorem dX6_nextRow_93 : decode cX6_nextRow 93 = .ok (.iinc 4 1, 3) := by decide +kernel
theorem dX6_nextRow_96 : decode cX6_nextRow 96 = .ok (.iinc 5 (-1), 3) := by decide +kernel
theorem dX6_nextRow_99 : decode cX6_nextRow 99 = .ok (.goto (-21), 3) := by decide +kernel
theorem dX6_nextRow_102 : decode cX6_nextRow 102 = .ok (.iconst 1, 1) := by decide +kernel
theorem dX6_nextRow_103 : decode cX6_nextRow 103 = .ok (.ireturn, 1) := by decide +kernel
theorem dX6_change_0 : decode cX6_change 0 = .ok (.aload_n 0, 1) := by decide +kernel
theorem dX6_change_1 : decode cX6_change 1 = .ok (.getfield 44, 3) := by decide +kernel
theorem dX6_change_4 : decode cX6_change 4 = .ok (.iload_n 1, 1) := by decide +kernel
theorem dX6_change_5 : decode cX6_change 5 = .ok (.iaload, 1) := by decide +kernel
theorem dX6_change_6 : decode cX6_change 6 = .ok (.istore_n 3, 1) := by decide +kernel
theorem dX6_change_7 : decode cX6_change 7 = .ok (.aload_n 0, 1) := by decide +kernel
theorem dX6_change_8 : decode cX6_change 8 = .ok (.getfield 44, 3) := by decide +kernel
theorem dX6_change_11 : decode cX6_change 11 = .ok (.iload_n 1, 1) := by decide +kernel
theorem dX6_change_12 : decode cX6_change 12 = .ok (.aload_n 0, 1) := by decide +kernel
theorem dX6_change_13 : decode cX6_change 13 = .ok (.getfield 44, 3) := by decide +kernel
theorem dX6_change_16 : decode cX6_change 16 = .ok (.iload_n 2, 1) := by decide +kernel
theorem dX6_change_17 : decode cX6_change 17 = .ok (.iaload, 1) := by decide +kernel
theorem dX6_change_18 : decode cX6_change 18 = .ok (.iastore, 1) := by decide +kernel
theorem dX6_change_19 : decode cX6_change 19 = .ok (.aload_n 0, 1) := by decide +kernel
theorem dX6_change_20 : decode cX6_change 20 = .ok (.getfield 44, 3) := by decide +kernel
theorem dX6_change_23 : decode cX6_change 23 = .ok (.iload_n 2, 1) := by decide +kernel
theorem dX6_change_24 : decode cX6_change 24 = .ok (.iload_n 3, 1) := by decide +kernel
theorem dX6_change_25 : decode cX6_change 25 = .ok (.iastore, 1) := by decide +kernel
theorem dX6_change_26 : decode cX6_change 26 = .ok (.return_, 1) := by decide +kernel
theorem dX6_party_0 : decode cX6_party 0 = .ok (.iload_n 1, 1) := by decide +kernel
theorem dX6_party_1 : decode cX6_party 1 = .ok (.iconst 1, 1) := by decide +kernel
theorem dX6_party_2 : decode cX6_party 2 = .ok (.sipush 255, 3) := by decide +kernel
theorem dX6_party_5 : decode cX6_party 5 = .ok (.invokestatic 60, 3) := by decide +kernel
theorem dX6_party_8 : decode cX6_party 8 = .ok (.ifCond .ne 6, 3) := by decide +kernel
theorem dX6_party_11 : decode cX6_party 11 = .ok (.bipush (-2), 2) := by decide +kernel
theorem dX6_party_13 : decode cX6_party 13 = .ok (.ireturn, 1) := by decide +kernel
theorem dX6_party_14 : decode cX6_party 14 = .ok (.aload_n 0, 1) := by decide +kernel
theorem dX6_party_15 : decode cX6_party 15 = .ok (.aload_n 0, 1) := by decide +kernel
theorem dX6_party_16 : decode cX6_party 16 = .ok (.getfield 74, 3) := by decide +kernel
theorem dX6_party_19 : decode cX6_party 19 = .ok (.invokevirtual 150, 3) := by decide +kernel
theorem dX6_party_22 : decode cX6_party 22 = .ok (.istore_n 3, 1) := by decide +kernel
theorem dX6_party_23 : decode cX6_party 23 = .ok (.iload_n 3, 1) := by decide +kernel
theorem dX6_party_24 : decode cX6_party 24 = .ok (.ifCond .ge 5, 3) := by decide +kernel
theorem dX6_party_27 : decode cX6_party 27 = .ok (.iload_n 3, 1) := by decide +kernel
theorem dX6_party_28 : decode cX6_party 28 = .ok (.ireturn, 1) := by decide +kernel
theorem dX6_party_29 : decode cX6_party 29 = .ok (.iconst 0, 1) := by decide +kernel
theorem dX6_party_30 : decode cX6_party 30 = .ok (.istore 4, 2) := by decide +kernel
theorem dX6_party_32 : decode cX6_party 32 = .ok (.iconst 0, 1) := by decide +kernel
theorem dX6_party_33 : decode cX6_party 33 = .ok (.istore 5, 2) := by decide +kernel
theorem dX6_party_35 : decode cX6_party 35 = .ok (.iconst 0, 1) := by decide +kernel
theorem dX6_party_36 : decode cX6_party 36 = .ok (.istore 6, 2) := by decide +kernel
theorem dX6_party_38 : decode cX6_party 38 = .ok (.iload 6, 2) := by decide +kernel
theorem dX6_party_40 : decode cX6_party 40 = .ok (.bipush 8, 2) := by decide +kernel
theorem dX6_party_42 : decode cX6_party 42 = .ok (.if_icmp .ge 51, 3) := by decide +kernel
theorem dX6_party_45 : decode cX6_party 45 = .ok (.iload_n 1, 1) := by decide +kernel
theorem dX6_party_46 : decode cX6_party 46 = .ok (.iload 6, 2) := by decide +kernel
theorem dX6_party_48 : decode cX6_party 48 = .ok (.invokestatic 112, 3) := by decide +kernel
theorem dX6_party_51 : decode cX6_party 51 = .ok (.ifCond .eq 36, 3) := by decide +kernel
theorem dX6_party_54 : decode cX6_party 54 = .ok (.iload 5, 2) := by decide +kernel
theorem dX6_party_56 : decode cX6_party 56 = .ok (.ifCond .ne 12, 3) := by decide +kernel
theorem dX6_party_59 : decode cX6_party 59 = .ok (.aload_n 0, 1) := by decide +kernel
theorem dX6_party_60 : decode cX6_party 60 = .ok (.iload 6, 2) := by decide +kernel
theorem dX6_party_62 : decode cX6_party 62 = .ok (.invokevirtual 122, 3) := by decide +kernel
theorem dX6_party_65 : decode cX6_party 65 = .ok (.ifCond .eq 7, 3) := by decide +kernel
theorem dX6_party_68 : decode cX6_party 68 = .ok (.iconst 1, 1) := by decide +kernel
theorem dX6_party_69 : decode cX6_party 69 = .ok (.goto 4, 3) := by decide +kernel
theorem dX6_party_72 : decode cX6_party 72 = .ok (.iconst 0, 1) := by decide +kernel
theorem dX6_party_73 : decode cX6_party 73 = .ok (.istore 5, 2) := by decide +kernel
theorem dX6_party_75 : decode cX6_party 75 = .ok (.aload_n 0, 1) := by decide +kernel
theorem dX6_party_76 : decode cX6_party 76 = .ok (.getfield 44, 3) := by decide +kernel
theorem dX6_party_79 : decode cX6_party 79 = .ok (.iload 4, 2) := by decide +kernel
theorem dX6_party_81 : decode cX6_party 81 = .ok (.iload 6, 2) := by decide +kernel
theorem dX6_party_83 : decode cX6_party 83 = .ok (.iastore, 1) := by decide +kernel
theorem dX6_party_84 : decode cX6_party 84 = .ok (.iinc 4 1, 3) := by decide +kernel
theorem dX6_party_87 : decode cX6_party 87 = .ok (.iinc 6 1, 3) := by decide +kernel
theorem dX6_party_90 : decode cX6_party 90 = .ok (.goto (-52), 3) := by decide +kernel
theorem dX6_party_93 : decode cX6_party 93 = .ok (.iload 5, 2) := by decide +kernel
theorem dX6_party_95 : decode cX6_party 95 = .ok (.ifCond .ne 10, 3) := by decide +kernel
theorem dX6_party_98 : decode cX6_party 98 = .ok (.iload 4, 2) := by decide +kernel
theorem dX6_party_100 : decode cX6_party 100 = .ok (.bipush 6, 2) := by decide +kernel
theorem dX6_party_102 : decode cX6_party 102 = .ok (.if_icmp .le 16, 3) := by decide +kernel
theorem dX6_party_105 : decode cX6_party 105 = .ok (.iload 5, 2) := by decide +kernel
theorem dX6_party_107 : decode cX6_party 107 = .ok (.ifCond .eq 8, 3) := by decide +kernel
theorem dX6_party_110 : decode cX6_party 110 = .ok (.bipush (-5), 2) := by decide +kernel
theorem dX6_party_112 : decode cX6_party 112 = .ok (.goto 5, 3) := by decide +kernel
theorem dX6_party_115 : decode cX6_party 115 = .ok (.bipush (-4), 2) := by decide +kernel
theorem dX6_party_117 : decode cX6_party 117 = .ok (.ireturn, 1) := by decide +kernel
theorem dX6_party_118 : decode cX6_party 118 = .ok (.bipush (-6), 2) := by decide +kernel
theorem dX6_party_120 : decode cX6_party 120 = .ok (.istore 6, 2) := by decide +kernel
theorem dX6_party_122 : decode cX6_party 122 = .ok (.iconst 1, 1) := by decide +kernel
theorem dX6_party_123 : decode cX6_party 123 = .ok (.istore 7, 2) := by decide +kernel
theorem dX6_party_125 : decode cX6_party 125 = .ok (.iload 7, 2) := by decide +kernel
theorem dX6_party_127 : decode cX6_party 127 = .ok (.ifCond .eq 182, 3) := by decide +kernel
theorem dX6_party_130 : decode cX6_party 130 = .ok (.aload_n 0, 1) := by decide +kernel
theorem dX6_party_131 : decode cX6_party 131 = .ok (.aload_n 0, 1) := by decide +kernel
theorem dX6_party_132 : decode cX6_party 132 = .ok (.getfield 74, 3) := by decide +kernel
theorem dX6_party_135 : decode cX6_party 135 = .ok (.iconst 0, 1) := by decide +kernel
theorem dX6_party_136 : decode cX6_party 136 = .ok (.bipush (-6), 2) := by decide +kernel
theorem dX6_party_138 : decode cX6_party 138 = .ok (.iconst 0, 1) := by decide +kernel
theorem dX6_party_139 : decode cX6_party 139 = .ok (.invokevirtual 146, 3) := by decide +kernel
theorem dX6_party_142 : decode cX6_party 142 = .ok (.istore 8, 2) := by decide +kernel
theorem dX6_party_144 : decode cX6_party 144 = .ok (.iconst 0, 1) := by decide +kernel
theorem dX6_party_145 : decode cX6_party 145 = .ok (.istore 9, 2) := by decide +kernel
theorem dX6_party_147 : decode cX6_party 147 = .ok (.iload 9, 2) := by decide +kernel
theorem dX6_party_149 : decode cX6_party 149 = .ok (.iload 4, 2) := by decide +kernel
theorem dX6_party_151 : decode cX6_party 151 = .ok (.if_icmp .ge 20, 3) := by decide +kernel
theorem dX6_party_154 : decode cX6_party 154 = .ok (.aload_n 0, 1) := by decide +kernel
theorem dX6_party_155 : decode cX6_party 155 = .ok (.aload_n 0, 1) := by decide +kernel
theorem dX6_party_156 : decode cX6_party 156 = .ok (.getfield 44, 3) := by decide +kernel
theorem dX6_party_159 : decode cX6_party 159 = .ok (.iload 9, 2) := by decide +kernel
theorem dX6_party_161 : decode cX6_party 161 = .ok (.iaload, 1) := by decide +kernel
theorem dX6_party_162 : decode cX6_party 162 = .ok (.invokevirtual 125, 3) := by decide +kernel
theorem dX6_party_165 : decode cX6_party 165 = .ok (.iinc 9 1, 3) := by decide +kernel
theorem dX6_party_168 : decode cX6_party 168 = .ok (.goto (-21), 3) := by decide +kernel
theorem dX6_party_171 : decode cX6_party 171 = .ok (.iload 8, 2) := by decide +kernel
theorem dX6_party_173 : decode cX6_party 173 = .ok (.ifCond .ge 7, 3) := by decide +kernel
theorem dX6_party_176 : decode cX6_party 176 = .ok (.iconst 0, 1) := by decide +kernel
theorem dX6_party_177 : decode cX6_party 177 = .ok (.goto 5, 3) := by decide +kernel
theorem dX6_party_180 : decode cX6_party 180 = .ok (.bipush (-6), 2) := by decide +kernel
theorem dX6_party_182 : decode cX6_party 182 = .ok (.istore 9, 2) := by decide +kernel
theorem dX6_party_184 : decode cX6_party 184 = .ok (.iconst 0, 1) := by decide +kernel
theorem dX6_party_185 : decode cX6_party 185 = .ok (.istore 10, 2) := by decide +kernel
theorem dX6_party_187 : decode cX6_party 187 = .ok (.iload 10, 2) := by decide +kernel
theorem dX6_party_189 : decode cX6_party 189 = .ok (.iload 4, 2) := by decide +kernel
theorem dX6_party_191 : decode cX6_party 191 = .ok (.if_icmp .ge 54, 3) := by decide +kernel
theorem dX6_party_194 : decode cX6_party 194 = .ok (.aload_n 0, 1) := by decide +kernel
theorem dX6_party_195 : decode cX6_party 195 = .ok (.aload_n 0, 1) := by decide +kernel
theorem dX6_party_196 : decode cX6_party 196 = .ok (.getfield 44, 3) := by decide +kernel
theorem dX6_party_199 : decode cX6_party 199 = .ok (.iload 10, 2) := by decide +kernel
theorem dX6_party_201 : decode cX6_party 201 = .ok (.iaload, 1) := by decide +kernel
theorem dX6_party_202 : decode cX6_party 202 = .ok (.invokevirtual 87, 3) := by decide +kernel
theorem dX6_party_205 : decode cX6_party 205 = .ok (.istore 11, 2) := by decide +kernel
theorem dX6_party_207 : decode cX6_party 207 = .ok (.iload 9, 2) := by decide +kernel
theorem dX6_party_209 : decode cX6_party 209 = .ok (.iload 11, 2) := by decide +kernel
theorem dX6_party_211 : decode cX6_party 211 = .ok (.ifCond .ge 7, 3) := by decide +kernel
theorem dX6_party_214 : decode cX6_party 214 = .ok (.iconst 0, 1) := by decide +kernel
theorem dX6_party_215 : decode cX6_party 215 = .ok (.goto 21, 3) := by decide +kernel
theorem dX6_party_218 : decode cX6_party 218 = .ok (.aload_n 0, 1) := by decide +kernel
theorem dX6_party_219 : decode cX6_party 219 = .ok (.getfield 13, 3) := by decide +kernel
theorem dX6_party_222 : decode cX6_party 222 = .ok (.bipush 8, 2) := by decide +kernel
theorem dX6_party_224 : decode cX6_party 224 = .ok (.aload_n 0, 1) := by decide +kernel
theorem dX6_party_225 : decode cX6_party 225 = .ok (.getfield 44, 3) := by decide +kernel
theorem dX6_party_228 : decode cX6_party 228 = .ok (.iload 10, 2) := by decide +kernel
theorem dX6_party_230 : decode cX6_party 230 = .ok (.iaload, 1) := by decide +kernel
theorem dX6_party_231 : decode cX6_party 231 = .ok (.imul, 1) := by decide +kernel
theorem dX6_party_232 : decode cX6_party 232 = .ok (.iload 11, 2) := by decide +kernel
theorem dX6_party_234 : decode cX6_party 234 = .ok (.iadd, 1) := by decide +kernel
theorem dX6_party_235 : decode cX6_party 235 = .ok (.iaload, 1) := by decide +kernel
theorem dX6_party_236 : decode cX6_party 236 = .ok (.iadd, 1) := by decide +kernel
theorem dX6_party_237 : decode cX6_party 237 = .ok (.istore 9, 2) := by decide +kernel
theorem dX6_party_239 : decode cX6_party 239 = .ok (.iinc 10 1, 3) := by decide +kernel
theorem dX6_party_242 : decode cX6_party 242 = .ok (.goto (-55), 3) := by decide +kernel
theorem dX6_party_245 : decode cX6_party 245 = .ok (.iconst 0, 1) := by decide +kernel
theorem dX6_party_246 : decode cX6_party 246 = .ok (.istore 10, 2) := by decide +kernel
theorem dX6_party_248 : decode cX6_party 248 = .ok (.iload 10, 2) := by decide +kernel
theorem dX6_party_250 : decode cX6_party 250 = .ok (.iload 4, 2) := by decide +kernel
theorem dX6_party_252 : decode cX6_party 252 = .ok (.if_icmp .ge 30, 3) := by decide +kernel
theorem dX6_party_255 : decode cX6_party 255 = .ok (.iload 9, 2) := by decide +kernel
theorem dX6_party_257 : decode cX6_party 257 = .ok (.iload 6, 2) := by decide +kernel
theorem dX6_party_259 : decode cX6_party 259 = .ok (.if_icmp .le 23, 3) := by decide +kernel
theorem dX6_party_262 : decode cX6_party 262 = .ok (.aload_n 0, 1) := by decide +kernel
theorem dX6_party_263 : decode cX6_party 263 = .ok (.getfield 47, 3) := by decide +kernel
theorem dX6_party_266 : decode cX6_party 266 = .ok (.iload 10, 2) := by decide +kernel
theorem dX6_party_268 : decode cX6_party 268 = .ok (.aload_n 0, 1) := by decide +kernel
theorem dX6_party_269 : decode cX6_party 269 = .ok (.getfield 44, 3) := by decide +kernel
theorem dX6_party_272 : decode cX6_party 272 = .ok (.iload 10, 2) := by decide +kernel
theorem dX6_party_274 : decode cX6_party 274 = .ok (.iaload, 1) := by decide +kernel
theorem dX6_party_275 : decode cX6_party 275 = .ok (.iastore, 1) := by decide +kernel
theorem dX6_party_276 : decode cX6_party 276 = .ok (.iinc 10 1, 3) := by decide +kernel
theorem dX6_party_279 : decode cX6_party 279 = .ok (.goto (-31), 3) := by decide +kernel
theorem dX6_party_282 : decode cX6_party 282 = .ok (.iload 9, 2) := by decide +kernel
theorem dX6_party_284 : decode cX6_party 284 = .ok (.iload 6, 2) := by decide +kernel
theorem dX6_party_286 : decode cX6_party 286 = .ok (.if_icmp .le 8, 3) := by decide +kernel
theorem dX6_party_289 : decode cX6_party 289 = .ok (.iload 9, 2) := by decide +kernel
theorem dX6_party_291 : decode cX6_party 291 = .ok (.goto 5, 3) := by decide +kernel
theorem dX6_party_294 : decode cX6_party 294 = .ok (.iload 6, 2) := by decide +kernel
theorem dX6_party_296 : decode cX6_party 296 = .ok (.istore 6, 2) := by decide +kernel
theorem dX6_party_298 : decode cX6_party 298 = .ok (.aload_n 0, 1) := by decide +kernel
theorem dX6_party_299 : decode cX6_party 299 = .ok (.iload 4, 2) := by decide +kernel
theorem dX6_party_301 : decode cX6_party 301 = .ok (.invokevirtual 162, 3) := by decide +kernel
theorem dX6_party_304 : decode cX6_party 304 = .ok (.istore 7, 2) := by decide +kernel
theorem dX6_party_306 : decode cX6_party 306 = .ok (.goto (-181), 3) := by decide +kernel
theorem dX6_party_309 : decode cX6_party 309 = .ok (.iload_n 2, 1) := by decide +kernel
theorem dX6_party_310 : decode cX6_party 310 = .ok (.iconst (-1), 1) := by decide +kernel
theorem dX6_party_311 : decode cX6_party 311 = .ok (.if_icmp .ne 8, 3) := by decide +kernel
theorem dX6_party_314 : decode cX6_party 314 = .ok (.iload 6, 2) := by decide +kernel
theorem dX6_party_316 : decode cX6_party 316 = .ok (.goto 26, 3) := by decide +kernel
theorem dX6_party_319 : decode cX6_party 319 = .ok (.iload_n 2, 1) := by decide +kernel
theorem dX6_party_320 : decode cX6_party 320 = .ok (.iconst 0, 1) := by decide +kernel
theorem dX6_party_321 : decode cX6_party 321 = .ok (.iload 4, 2) := by decide +kernel
theorem dX6_party_323 : decode cX6_party 323 = .ok (.iconst 1, 1) := by decide +kernel
theorem dX6_party_324 : decode cX6_party 324 = .ok (.isub, 1) := by decide +kernel
theorem dX6_party_325 : decode cX6_party 325 = .ok (.invokestatic 60, 3) := by decide +kernel
theorem dX6_party_328 : decode cX6_party 328 = .ok (.ifCond .eq 12, 3) := by decide +kernel
theorem dX6_party_331 : decode cX6_party 331 = .ok (.aload_n 0, 1) := by decide +kernel
theorem dX6_party_332 : decode cX6_party 332 = .ok (.getfield 47, 3) := by decide +kernel
theorem dX6_party_335 : decode cX6_party 335 = .ok (.iload_n 2, 1) := by decide +kernel
theorem dX6_party_336 : decode cX6_party 336 = .ok (.iaload, 1) := by decide +kernel
theorem dX6_party_337 : decode cX6_party 337 = .ok (.goto 5, 3) := by decide +kernel
theorem dX6_party_340 : decode cX6_party 340 = .ok (.bipush (-6), 2) := by decide +kernel
theorem dX6_party_342 : decode cX6_party 342 = .ok (.ireturn, 1) := by decide +kernel
theorem dX6_layFleas_0 : decode cX6_layFleas 0 = .ok (.aload_n 0, 1) := by decide +kernel
theorem dX6_layFleas_1 : decode cX6_layFleas 1 = .ok (.iload_n 1, 1) := by decide +kernel
theorem dX6_layFleas_2 : decode cX6_layFleas 2 = .ok (.putfield 116, 3) := by decide +kernel
theorem dX6_layFleas_5 : decode cX6_layFleas 5 = .ok (.aload_n 0, 1) := by decide +kernel
theorem dX6_layFleas_6 : decode cX6_layFleas 6 = .ok (.iload_n 2, 1) := by decide +kernel
theorem dX6_layFleas_7 : decode cX6_layFleas 7 = .ok (.putfield 109, 3) := by decide +kernel
theorem dX6_layFleas_10 : decode cX6_layFleas 10 = .ok (.aload_n 0, 1) := by decide +kernel
theorem dX6_layFleas_11 : decode cX6_layFleas 11 = .ok (.aload_n 0, 1) := by decide +kernel
theorem dX6_layFleas_12 : decode cX6_layFleas 12 = .ok (.getfield 74, 3) := by decide +kernel
theorem dX6_layFleas_15 : decode cX6_layFleas 15 = .ok (.iconst 0, 1) := by decide +kernel
theorem dX6_layFleas_16 : decode cX6_layFleas 16 = .ok (.bipush (-6), 2) := by decide +kernel
theorem dX6_layFleas_18 : decode cX6_layFleas 18 = .ok (.iconst 0, 1) := by decide +kernel
theorem dX6_layFleas_19 : decode cX6_layFleas 19 = .ok (.invokevirtual 146, 3) := by decide +kernel
theorem dX6_layFleas_22 : decode cX6_layFleas 22 = .ok (.ireturn, 1) := by decide +kernel
theorem dX6_fleas_0 : decode cX6_fleas 0 = .ok (.iload_n 1, 1) := by decide +kernel
theorem dX6_fleas_1 : decode cX6_fleas 1 = .ok (.iconst 0, 1) := by decide +kernel
theorem dX6_fleas_2 : decode cX6_fleas 2 = .ok (.bipush 7, 2) := by decide +kernel
theorem dX6_fleas_4 : decode cX6_fleas 4 = .ok (.aload_n 0, 1) := by decide +kernel
theorem dX6_fleas_5 : decode cX6_fleas 5 = .ok (.getfield 7, 3) := by decide +kernel
theorem dX6_fleas_8 : decode cX6_fleas 8 = .ok (.iadd, 1) := by decide +kernel
theorem dX6_fleas_9 : decode cX6_fleas 9 = .ok (.invokestatic 60, 3) := by decide +kernel
theorem dX6_fleas_12 : decode cX6_fleas 12 = .ok (.ifCond .ne 5, 3) := by decide +kernel
theorem dX6_fleas_15 : decode cX6_fleas 15 = .ok (.iconst (-1), 1) := by decide +kernel
theorem dX6_fleas_16 : decode cX6_fleas 16 = .ok (.ireturn, 1) := by decide +kernel
theorem dX6_fleas_17 : decode cX6_fleas 17 = .ok (.iload_n 2, 1) := by decide +kernel
theorem dX6_fleas_18 : decode cX6_fleas 18 = .ok (.iconst 0, 1) := by decide +kernel
theorem dX6_fleas_19 : decode cX6_fleas 19 = .ok (.iconst 1, 1) := by decide +kernel
theorem dX6_fleas_20 : decode cX6_fleas 20 = .ok (.invokestatic 60, 3) := by decide +kernel
theorem dX6_fleas_23 : decode cX6_fleas 23 = .ok (.ifCond .ne 6, 3) := by decide +kernel
theorem dX6_fleas_26 : decode cX6_fleas 26 = .ok (.bipush (-2), 2) := by decide +kernel
theorem dX6_fleas_28 : decode cX6_fleas 28 = .ok (.ireturn, 1) := by decide +kernel
theorem dX6_fleas_29 : decode cX6_fleas 29 = .ok (.aload_n 0, 1) := by decide +kernel
theorem dX6_fleas_30 : decode cX6_fleas 30 = .ok (.aload_n 0, 1) := by decide +kernel
theorem dX6_fleas_31 : decode cX6_fleas 31 = .ok (.getfield 74, 3) := by decide +kernel
theorem dX6_fleas_34 : decode cX6_fleas 34 = .ok (.invokevirtual 150, 3) := by decide +kernel
theorem dX6_fleas_37 : decode cX6_fleas 37 = .ok (.istore_n 3, 1) := by decide +kernel
theorem dX6_fleas_38 : decode cX6_fleas 38 = .ok (.iload_n 3, 1) := by decide +kernel
theorem dX6_fleas_39 : decode cX6_fleas 39 = .ok (.ifCond .ge 5, 3) := by decide +kernel
theorem dX6_fleas_42 : decode cX6_fleas 42 = .ok (.iload_n 3, 1) := by decide +kernel
theorem dX6_fleas_43 : decode cX6_fleas 43 = .ok (.ireturn, 1) := by decide +kernel
theorem dX6_fleas_44 : decode cX6_fleas 44 = .ok (.aload_n 0, 1) := by decide +kernel
theorem dX6_fleas_45 : decode cX6_fleas 45 = .ok (.iload_n 1, 1) := by decide +kernel
theorem dX6_fleas_46 : decode cX6_fleas 46 = .ok (.bipush 8, 2) := by decide +kernel
theorem dX6_fleas_48 : decode cX6_fleas 48 = .ok (.if_icmp .ge 9, 3) := by decide +kernel
theorem dX6_fleas_51 : decode cX6_fleas 51 = .ok (.iconst 1, 1) := by decide +kernel
theorem dX6_fleas_52 : decode cX6_fleas 52 = .ok (.iload_n 1, 1) := by decide +kernel
theorem dX6_fleas_53 : decode cX6_fleas 53 = .ok (.ishl, 1) := by decide +kernel
theorem dX6_fleas_54 : decode cX6_fleas 54 = .ok (.goto 4, 3) := by decide +kernel
theorem dX6_fleas_57 : decode cX6_fleas 57 = .ok (.iconst 0, 1) := by decide +kernel
theorem dX6_fleas_58 : decode cX6_fleas 58 = .ok (.iload_n 1, 1) := by decide +kernel
theorem dX6_fleas_59 : decode cX6_fleas 59 = .ok (.bipush 8, 2) := by decide +kernel
theorem dX6_fleas_61 : decode cX6_fleas 61 = .ok (.if_icmp .ge 7, 3) := by decide +kernel
theorem dX6_fleas_64 : decode cX6_fleas 64 = .ok (.iconst 0, 1) := by decide +kernel
theorem dX6_fleas_65 : decode cX6_fleas 65 = .ok (.goto 9, 3) := by decide +kernel
theorem dX6_fleas_68 : decode cX6_fleas 68 = .ok (.iconst 1, 1) := by decide +kernel
theorem dX6_fleas_69 : decode cX6_fleas 69 = .ok (.iload_n 1, 1) := by decide +kernel
theorem dX6_fleas_70 : decode cX6_fleas 70 = .ok (.bipush 8, 2) := by decide +kernel
theorem dX6_fleas_72 : decode cX6_fleas 72 = .ok (.isub, 1) := by decide +kernel
theorem dX6_fleas_73 : decode cX6_fleas 73 = .ok (.ishl, 1) := by decide +kernel
theorem dX6_fleas_74 : decode cX6_fleas 74 = .ok (.invokevirtual 165, 3) := by decide +kernel
theorem dX6_fleas_77 : decode cX6_fleas 77 = .ok (.istore 4, 2) := by decide +kernel
theorem dX6_fleas_79 : decode cX6_fleas 79 = .ok (.iload 4, 2) := by decide +kernel
theorem dX6_fleas_81 : decode cX6_fleas 81 = .ok (.ifCond .lt 8, 3) := by decide +kernel
theorem dX6_fleas_84 : decode cX6_fleas 84 = .ok (.bipush (-5), 2) := by decide +kernel
theorem dX6_fleas_86 : decode cX6_fleas 86 = .ok (.goto 18, 3) := by decide +kernel
theorem dX6_fleas_89 : decode cX6_fleas 89 = .ok (.iload_n 2, 1) := by decide +kernel
theorem dX6_fleas_90 : decode cX6_fleas 90 = .ok (.ifCond .ne 10, 3) := by decide +kernel
theorem dX6_fleas_93 : decode cX6_fleas 93 = .ok (.aload_n 0, 1) := by decide +kernel
theorem dX6_fleas_94 : decode cX6_fleas 94 = .ok (.getfield 116, 3) := by decide +kernel
theorem dX6_fleas_97 : decode cX6_fleas 97 = .ok (.goto 7, 3) := by decide +kernel
theorem dX6_fleas_100 : decode cX6_fleas 100 = .ok (.aload_n 0, 1) := by decide +kernel
theorem dX6_fleas_101 : decode cX6_fleas 101 = .ok (.getfield 109, 3) := by decide +kernel
theorem dX6_fleas_104 : decode cX6_fleas 104 = .ok (.ireturn, 1) := by decide +kernel
theorem dX6_brought_0 : decode cX6_brought 0 = .ok (.iload_n 1, 1) := by decide +kernel
theorem dX6_brought_1 : decode cX6_brought 1 = .ok (.iconst 0, 1) := by decide +kernel
theorem dX6_brought_2 : decode cX6_brought 2 = .ok (.sipush 255, 3) := by decide +kernel
theorem dX6_brought_5 : decode cX6_brought 5 = .ok (.invokestatic 60, 3) := by decide +kernel
theorem dX6_brought_8 : decode cX6_brought 8 = .ok (.ifCond .ne 6, 3) := by decide +kernel
theorem dX6_brought_11 : decode cX6_brought 11 = .ok (.bipush (-2), 2) := by decide +kernel
theorem dX6_brought_13 : decode cX6_brought 13 = .ok (.ireturn, 1) := by decide +kernel
theorem dX6_brought_14 : decode cX6_brought 14 = .ok (.aload_n 0, 1) := by decide +kernel
theorem dX6_brought_15 : decode cX6_brought 15 = .ok (.aload_n 0, 1) := by decide +kernel
theorem dX6_brought_16 : decode cX6_brought 16 = .ok (.getfield 74, 3) := by decide +kernel
theorem dX6_brought_19 : decode cX6_brought 19 = .ok (.invokevirtual 150, 3) := by decide +kernel
theorem dX6_brought_22 : decode cX6_brought 22 = .ok (.istore_n 2, 1) := by decide +kernel
theorem dX6_brought_23 : decode cX6_brought 23 = .ok (.iload_n 2, 1) := by decide +kernel
theorem dX6_brought_24 : decode cX6_brought 24 = .ok (.ifCond .ge 5, 3) := by decide +kernel
theorem dX6_brought_27 : decode cX6_brought 27 = .ok (.iload_n 2, 1) := by decide +kernel
theorem dX6_brought_28 : decode cX6_brought 28 = .ok (.ireturn, 1) := by decide +kernel
theorem dX6_brought_29 : decode cX6_brought 29 = .ok (.iconst 0, 1) := by decide +kernel
theorem dX6_brought_30 : decode cX6_brought 30 = .ok (.istore_n 3, 1) := by decide +kernel
theorem dX6_brought_31 : decode cX6_brought 31 = .ok (.iconst 0, 1) := by decide +kernel
theorem dX6_brought_32 : decode cX6_brought 32 = .ok (.istore 4, 2) := by decide +kernel
theorem dX6_brought_34 : decode cX6_brought 34 = .ok (.iload 4, 2) := by decide +kernel
theorem dX6_brought_36 : decode cX6_brought 36 = .ok (.bipush 8, 2) := by decide +kernel
theorem dX6_brought_38 : decode cX6_brought 38 = .ok (.if_icmp .ge 44, 3) := by decide +kernel
theorem dX6_brought_41 : decode cX6_brought 41 = .ok (.aload_n 0, 1) := by decide +kernel
theorem dX6_brought_42 : decode cX6_brought 42 = .ok (.iconst 1, 1) := by decide +kernel
theorem dX6_brought_43 : decode cX6_brought 43 = .ok (.iload 4, 2) := by decide +kernel
theorem dX6_brought_45 : decode cX6_brought 45 = .ok (.ishl, 1) := by decide +kernel
theorem dX6_brought_46 : decode cX6_brought 46 = .ok (.iconst 0, 1) := by decide +kernel
theorem dX6_brought_47 : decode cX6_brought 47 = .ok (.invokevirtual 165, 3) := by decide +kernel
theorem dX6_brought_50 : decode cX6_brought 50 = .ok (.istore 5, 2) := by decide +kernel
theorem dX6_brought_52 : decode cX6_brought 52 = .ok (.iload_n 3, 1) := by decide +kernel
theorem dX6_brought_53 : decode cX6_brought 53 = .ok (.iload 5, 2) := by decide +kernel
theorem dX6_brought_55 : decode cX6_brought 55 = .ok (.ifCond .ge 18, 3) := by decide +kernel
theorem dX6_brought_58 : decode cX6_brought 58 = .ok (.aload_n 0, 1) := by decide +kernel
theorem dX6_brought_59 : decode cX6_brought 59 = .ok (.getfield 116, 3) := by decide +kernel
theorem dX6_brought_62 : decode cX6_brought 62 = .ok (.iload_n 1, 1) := by decide +kernel
theorem dX6_brought_63 : decode cX6_brought 63 = .ok (.if_icmp .ne 10, 3) := by decide +kernel
theorem dX6_brought_66 : decode cX6_brought 66 = .ok (.iconst 1, 1) := by decide +kernel
theorem dX6_brought_67 : decode cX6_brought 67 = .ok (.iload 4, 2) := by decide +kernel
theorem dX6_brought_69 : decode cX6_brought 69 = .ok (.ishl, 1) := by decide +kernel
theorem dX6_brought_70 : decode cX6_brought 70 = .ok (.goto 4, 3) := by decide +kernel
theorem dX6_brought_73 : decode cX6_brought 73 = .ok (.iconst 0, 1) := by decide +kernel
theorem dX6_brought_74 : decode cX6_brought 74 = .ok (.ior, 1) := by decide +kernel
theorem dX6_brought_75 : decode cX6_brought 75 = .ok (.istore_n 3, 1) := by decide +kernel
theorem dX6_brought_76 : decode cX6_brought 76 = .ok (.iinc 4 1, 3) := by decide +kernel
theorem dX6_brought_79 : decode cX6_brought 79 = .ok (.goto (-45), 3) := by decide +kernel
theorem dX6_brought_82 : decode cX6_brought 82 = .ok (.iload_n 3, 1) := by decide +kernel
theorem dX6_brought_83 : decode cX6_brought 83 = .ok (.ireturn, 1) := by decide +kernel
theorem dX6_seen_0 : decode cX6_seen 0 = .ok (.iload_n 1, 1) := by decide +kernel
theorem dX6_seen_1 : decode cX6_seen 1 = .ok (.invokestatic 67, 3) := by decide +kernel
theorem dX6_seen_4 : decode cX6_seen 4 = .ok (.ifCond .eq 11, 3) := by decide +kernel
theorem dX6_seen_7 : decode cX6_seen 7 = .ok (.aload_n 0, 1) := by decide +kernel
theorem dX6_seen_8 : decode cX6_seen 8 = .ok (.iload_n 2, 1) := by decide +kernel
theorem dX6_seen_9 : decode cX6_seen 9 = .ok (.invokevirtual 71, 3) := by decide +kernel
theorem dX6_seen_12 : decode cX6_seen 12 = .ok (.ifCond .ne 5, 3) := by decide +kernel
theorem dX6_seen_15 : decode cX6_seen 15 = .ok (.iconst (-1), 1) := by decide +kernel
theorem dX6_seen_16 : decode cX6_seen 16 = .ok (.ireturn, 1) := by decide +kernel
theorem dX6_seen_17 : decode cX6_seen 17 = .ok (.aload_n 0, 1) := by decide +kernel
theorem dX6_seen_18 : decode cX6_seen 18 = .ok (.getfield 64, 3) := by decide +kernel
theorem dX6_seen_21 : decode cX6_seen 21 = .ok (.bipush 6, 2) := by decide +kernel
theorem dX6_seen_23 : decode cX6_seen 23 = .ok (.if_icmp .ne 6, 3) := by decide +kernel
theorem dX6_seen_26 : decode cX6_seen 26 = .ok (.bipush (-4), 2) := by decide +kernel
theorem dX6_seen_28 : decode cX6_seen 28 = .ok (.ireturn, 1) := by decide +kernel
theorem dX6_seen_29 : decode cX6_seen 29 = .ok (.aload_n 0, 1) := by decide +kernel
theorem dX6_seen_30 : decode cX6_seen 30 = .ok (.getfield 17, 3) := by decide +kernel
theorem dX6_seen_33 : decode cX6_seen 33 = .ok (.iconst 2, 1) := by decide +kernel
theorem dX6_seen_34 : decode cX6_seen 34 = .ok (.aload_n 0, 1) := by decide +kernel
theorem dX6_seen_35 : decode cX6_seen 35 = .ok (.getfield 64, 3) := by decide +kernel
theorem dX6_seen_38 : decode cX6_seen 38 = .ok (.imul, 1) := by decide +kernel
theorem dX6_seen_39 : decode cX6_seen 39 = .ok (.iload_n 1, 1) := by decide +kernel
theorem dX6_seen_40 : decode cX6_seen 40 = .ok (.iastore, 1) := by decide +kernel
theorem dX6_seen_41 : decode cX6_seen 41 = .ok (.aload_n 0, 1) := by decide +kernel
theorem dX6_seen_42 : decode cX6_seen 42 = .ok (.getfield 17, 3) := by decide +kernel
theorem dX6_seen_45 : decode cX6_seen 45 = .ok (.iconst 2, 1) := by decide +kernel
theorem dX6_seen_46 : decode cX6_seen 46 = .ok (.aload_n 0, 1) := by decide +kernel
theorem dX6_seen_47 : decode cX6_seen 47 = .ok (.getfield 64, 3) := by decide +kernel
theorem dX6_seen_50 : decode cX6_seen 50 = .ok (.imul, 1) := by decide +kernel
theorem dX6_seen_51 : decode cX6_seen 51 = .ok (.iconst 1, 1) := by decide +kernel
theorem dX6_seen_52 : decode cX6_seen 52 = .ok (.iadd, 1) := by decide +kernel
theorem dX6_seen_53 : decode cX6_seen 53 = .ok (.iload_n 2, 1) := by decide +kernel
theorem dX6_seen_54 : decode cX6_seen 54 = .ok (.iastore, 1) := by decide +kernel
theorem dX6_seen_55 : decode cX6_seen 55 = .ok (.aload_n 0, 1) := by decide +kernel
theorem dX6_seen_56 : decode cX6_seen 56 = .ok (.dup, 1) := by decide +kernel
theorem dX6_seen_57 : decode cX6_seen 57 = .ok (.getfield 64, 3) := by decide +kernel
theorem dX6_seen_60 : decode cX6_seen 60 = .ok (.iconst 1, 1) := by decide +kernel
theorem dX6_seen_61 : decode cX6_seen 61 = .ok (.iadd, 1) := by decide +kernel
theorem dX6_seen_62 : decode cX6_seen 62 = .ok (.putfield 64, 3) := by decide +kernel
theorem dX6_seen_65 : decode cX6_seen 65 = .ok (.aload_n 0, 1) := by decide +kernel
theorem dX6_seen_66 : decode cX6_seen 66 = .ok (.getfield 64, 3) := by decide +kernel
theorem dX6_seen_69 : decode cX6_seen 69 = .ok (.ireturn, 1) := by decide +kernel
theorem dX6_forget_0 : decode cX6_forget 0 = .ok (.aload_n 0, 1) := by decide +kernel
theorem dX6_forget_1 : decode cX6_forget 1 = .ok (.getfield 64, 3) := by decide +kernel
theorem dX6_forget_4 : decode cX6_forget 4 = .ok (.istore_n 1, 1) := by decide +kernel
theorem dX6_forget_5 : decode cX6_forget 5 = .ok (.aload_n 0, 1) := by decide +kernel
theorem dX6_forget_6 : decode cX6_forget 6 = .ok (.iconst 0, 1) := by decide +kernel
theorem dX6_forget_7 : decode cX6_forget 7 = .ok (.putfield 64, 3) := by decide +kernel
theorem dX6_forget_10 : decode cX6_forget 10 = .ok (.iload_n 1, 1) := by decide +kernel
theorem dX6_forget_11 : decode cX6_forget 11 = .ok (.ireturn, 1) := by decide +kernel
theorem dX6_isFit_0 : decode cX6_isFit 0 = .ok (.aload_n 0, 1) := by decide +kernel
theorem dX6_isFit_1 : decode cX6_isFit 1 = .ok (.aload_n 0, 1) := by decide +kernel
theorem dX6_isFit_2 : decode cX6_isFit 2 = .ok (.getfield 74, 3) := by decide +kernel
theorem dX6_isFit_5 : decode cX6_isFit 5 = .ok (.iload_n 1, 1) := by decide +kernel
theorem dX6_isFit_6 : decode cX6_isFit 6 = .ok (.bipush (-6), 2) := by decide +kernel
theorem dX6_isFit_8 : decode cX6_isFit 8 = .ok (.iconst 0, 1) := by decide +kernel
theorem dX6_isFit_9 : decode cX6_isFit 9 = .ok (.invokevirtual 146, 3) := by decide +kernel
theorem dX6_isFit_12 : decode cX6_isFit 12 = .ok (.ifCond .ge 7, 3) := by decide +kernel
theorem dX6_isFit_15 : decode cX6_isFit 15 = .ok (.iconst 1, 1) := by decide +kernel
theorem dX6_isFit_16 : decode cX6_isFit 16 = .ok (.goto 4, 3) := by decide +kernel
theorem dX6_isFit_19 : decode cX6_isFit 19 = .ok (.iconst 0, 1) := by decide +kernel
theorem dX6_isFit_20 : decode cX6_isFit 20 = .ok (.istore_n 2, 1) := by decide +kernel
theorem dX6_isFit_21 : decode cX6_isFit 21 = .ok (.iconst 0, 1) := by decide +kernel
theorem dX6_isFit_22 : decode cX6_isFit 22 = .ok (.istore_n 3, 1) := by decide +kernel
theorem dX6_isFit_23 : decode cX6_isFit 23 = .ok (.iload_n 3, 1) := by decide +kernel
theorem dX6_isFit_24 : decode cX6_isFit 24 = .ok (.aload_n 0, 1) := by decide +kernel
theorem dX6_isFit_25 : decode cX6_isFit 25 = .ok (.getfield 64, 3) := by decide +kernel
theorem dX6_isFit_28 : decode cX6_isFit 28 = .ok (.if_icmp .ge 45, 3) := by decide +kernel
theorem dX6_isFit_31 : decode cX6_isFit 31 = .ok (.iload_n 2, 1) := by decide +kernel
theorem dX6_isFit_32 : decode cX6_isFit 32 = .ok (.ifCond .eq 41, 3) := by decide +kernel
theorem dX6_isFit_35 : decode cX6_isFit 35 = .ok (.aload_n 0, 1) := by decide +kernel
theorem dX6_isFit_36 : decode cX6_isFit 36 = .ok (.getfield 23, 3) := by decide +kernel
theorem dX6_isFit_39 : decode cX6_isFit 39 = .ok (.aload_n 0, 1) := by decide +kernel
theorem dX6_isFit_40 : decode cX6_isFit 40 = .ok (.getfield 17, 3) := by decide +kernel
theorem dX6_isFit_43 : decode cX6_isFit 43 = .ok (.iconst 2, 1) := by decide +kernel
theorem dX6_isFit_44 : decode cX6_isFit 44 = .ok (.iload_n 3, 1) := by decide +kernel
theorem dX6_isFit_45 : decode cX6_isFit 45 = .ok (.imul, 1) := by decide +kernel
theorem dX6_isFit_46 : decode cX6_isFit 46 = .ok (.iconst 1, 1) := by decide +kernel
theorem dX6_isFit_47 : decode cX6_isFit 47 = .ok (.iadd, 1) := by decide +kernel
theorem dX6_isFit_48 : decode cX6_isFit 48 = .ok (.iaload, 1) := by decide +kernel
theorem dX6_isFit_49 : decode cX6_isFit 49 = .ok (.iaload, 1) := by decide +kernel
theorem dX6_isFit_50 : decode cX6_isFit 50 = .ok (.aload_n 0, 1) := by decide +kernel
theorem dX6_isFit_51 : decode cX6_isFit 51 = .ok (.getfield 17, 3) := by decide +kernel
theorem dX6_isFit_54 : decode cX6_isFit 54 = .ok (.iconst 2, 1) := by decide +kernel
theorem dX6_isFit_55 : decode cX6_isFit 55 = .ok (.iload_n 3, 1) := by decide +kernel
theorem dX6_isFit_56 : decode cX6_isFit 56 = .ok (.imul, 1) := by decide +kernel
theorem dX6_isFit_57 : decode cX6_isFit 57 = .ok (.iaload, 1) := by decide +kernel
theorem dX6_isFit_58 : decode cX6_isFit 58 = .ok (.if_icmp .ne 7, 3) := by decide +kernel
theorem dX6_isFit_61 : decode cX6_isFit 61 = .ok (.iconst 1, 1) := by decide +kernel
theorem dX6_isFit_62 : decode cX6_isFit 62 = .ok (.goto 4, 3) := by decide +kernel
theorem dX6_isFit_65 : decode cX6_isFit 65 = .ok (.iconst 0, 1) := by decide +kernel
theorem dX6_isFit_66 : decode cX6_isFit 66 = .ok (.istore_n 2, 1) := by decide +kernel
theorem dX6_isFit_67 : decode cX6_isFit 67 = .ok (.iinc 3 1, 3) := by decide +kernel
theorem dX6_isFit_70 : decode cX6_isFit 70 = .ok (.goto (-47), 3) := by decide +kernel
theorem dX6_isFit_73 : decode cX6_isFit 73 = .ok (.iload_n 2, 1) := by decide +kernel
theorem dX6_isFit_74 : decode cX6_isFit 74 = .ok (.ireturn, 1) := by decide +kernel
theorem dX6_codes_0 : decode cX6_codes 0 = .ok (.iconst 1, 1) := by decide +kernel
theorem dX6_codes_1 : decode cX6_codes 1 = .ok (.istore_n 1, 1) := by decide +kernel
theorem dX6_codes_2 : decode cX6_codes 2 = .ok (.iconst 0, 1) := by decide +kernel
theorem dX6_codes_3 : decode cX6_codes 3 = .ok (.istore_n 2, 1) := by decide +kernel
theorem dX6_codes_4 : decode cX6_codes 4 = .ok (.iload_n 2, 1) := by decide +kernel
theorem dX6_codes_5 : decode cX6_codes 5 = .ok (.aload_n 0, 1) := by decide +kernel
theorem dX6_codes_6 : decode cX6_codes 6 = .ok (.aload_n 0, 1) := by decide +kernel
theorem dX6_codes_7 : decode cX6_codes 7 = .ok (.getfield 74, 3) := by decide +kernel
theorem dX6_codes_10 : decode cX6_codes 10 = .ok (.invokevirtual 137, 3) := by decide +kernel
theorem dX6_codes_13 : decode cX6_codes 13 = .ok (.if_icmp .ge 14, 3) := by decide +kernel
theorem dX6_codes_16 : decode cX6_codes 16 = .ok (.iload_n 1, 1) := by decide +kernel
theorem dX6_codes_17 : decode cX6_codes 17 = .ok (.bipush 8, 2) := by decide +kernel
theorem dX6_codes_19 : decode cX6_codes 19 = .ok (.imul, 1) := by decide +kernel
theorem dX6_codes_20 : decode cX6_codes 20 = .ok (.istore_n 1, 1) := by decide +kernel
theorem dX6_codes_21 : decode cX6_codes 21 = .ok (.iinc 2 1, 3) := by decide +kernel
theorem dX6_codes_24 : decode cX6_codes 24 = .ok (.goto (-20), 3) := by decide +kernel
theorem dX6_codes_27 : decode cX6_codes 27 = .ok (.iload_n 1, 1) := by decide +kernel
theorem dX6_codes_28 : decode cX6_codes 28 = .ok (.ireturn, 1) := by decide +kernel
theorem dX6_guestAt_0 : decode cX6_guestAt 0 = .ok (.iload_n 1, 1) := by decide +kernel
theorem dX6_guestAt_1 : decode cX6_guestAt 1 = .ok (.istore_n 3, 1) := by decide +kernel
theorem dX6_guestAt_2 : decode cX6_guestAt 2 = .ok (.aload_n 0, 1) := by decide +kernel
theorem dX6_guestAt_3 : decode cX6_guestAt 3 = .ok (.aload_n 0, 1) := by decide +kernel
theorem dX6_guestAt_4 : decode cX6_guestAt 4 = .ok (.getfield 74, 3) := by decide +kernel
theorem dX6_guestAt_7 : decode cX6_guestAt 7 = .ok (.invokevirtual 137, 3) := by decide +kernel
theorem dX6_guestAt_10 : decode cX6_guestAt 10 = .ok (.iconst 1, 1) := by decide +kernel
theorem dX6_guestAt_11 : decode cX6_guestAt 11 = .ok (.isub, 1) := by decide +kernel
theorem dX6_guestAt_12 : decode cX6_guestAt 12 = .ok (.istore 4, 2) := by decide +kernel
theorem dX6_guestAt_14 : decode cX6_guestAt 14 = .ok (.iload 4, 2) := by decide +kernel
theorem dX6_guestAt_16 : decode cX6_guestAt 16 = .ok (.iload_n 2, 1) := by decide +kernel
theorem dX6_guestAt_17 : decode cX6_guestAt 17 = .ok (.if_icmp .le 14, 3) := by decide +kernel
theorem dX6_guestAt_20 : decode cX6_guestAt 20 = .ok (.iload_n 3, 1) := by decide +kernel
theorem dX6_guestAt_21 : decode cX6_guestAt 21 = .ok (.bipush 8, 2) := by decide +kernel
theorem dX6_guestAt_23 : decode cX6_guestAt 23 = .ok (.idiv, 1) := by decide +kernel
theorem dX6_guestAt_24 : decode cX6_guestAt 24 = .ok (.istore_n 3, 1) := by decide +kernel
theorem dX6_guestAt_25 : decode cX6_guestAt 25 = .ok (.iinc 4 (-1), 3) := by decide +kernel
theorem dX6_guestAt_28 : decode cX6_guestAt 28 = .ok (.goto (-14), 3) := by decide +kernel
theorem dX6_guestAt_31 : decode cX6_guestAt 31 = .ok (.iload_n 3, 1) := by decide +kernel
theorem dX6_guestAt_32 : decode cX6_guestAt 32 = .ok (.bipush 8, 2) := by decide +kernel
theorem dX6_guestAt_34 : decode cX6_guestAt 34 = .ok (.irem, 1) := by decide +kernel
theorem dX6_guestAt_35 : decode cX6_guestAt 35 = .ok (.ireturn, 1) := by decide +kernel
theorem dX6_filled_0 : decode cX6_filled 0 = .ok (.aload_n 0, 1) := by decide +kernel
theorem dX6_filled_1 : decode cX6_filled 1 = .ok (.invokevirtual 77, 3) := by decide +kernel
theorem dX6_filled_4 : decode cX6_filled 4 = .ok (.ifCond .lt 6, 3) := by decide +kernel
theorem dX6_filled_7 : decode cX6_filled 7 = .ok (.bipush (-5), 2) := by decide +kernel
theorem dX6_filled_9 : decode cX6_filled 9 = .ok (.ireturn, 1) := by decide +kernel
theorem dX6_filled_10 : decode cX6_filled 10 = .ok (.iconst 0, 1) := by decide +kernel
theorem dX6_filled_11 : decode cX6_filled 11 = .ok (.istore_n 2, 1) := by decide +kernel
theorem dX6_filled_12 : decode cX6_filled 12 = .ok (.bipush (-6), 2) := by decide +kernel
theorem dX6_filled_14 : decode cX6_filled 14 = .ok (.istore_n 3, 1) := by decide +kernel
theorem dX6_filled_15 : decode cX6_filled 15 = .ok (.iconst 0, 1) := by decide +kernel
theorem dX6_filled_16 : decode cX6_filled 16 = .ok (.istore 4, 2) := by decide +kernel
theorem dX6_filled_18 : decode cX6_filled 18 = .ok (.iload 4, 2) := by decide +kernel
theorem dX6_filled_20 : decode cX6_filled 20 = .ok (.aload_n 0, 1) := by decide +kernel
theorem dX6_filled_21 : decode cX6_filled 21 = .ok (.invokevirtual 168, 3) := by decide +kernel
theorem dX6_filled_24 : decode cX6_filled 24 = .ok (.if_icmp .ge 32, 3) := by decide +kernel
theorem dX6_filled_27 : decode cX6_filled 27 = .ok (.aload_n 0, 1) := by decide +kernel
theorem dX6_filled_28 : decode cX6_filled 28 = .ok (.iload 4, 2) := by decide +kernel
theorem dX6_filled_30 : decode cX6_filled 30 = .ok (.invokevirtual 171, 3) := by decide +kernel
theorem dX6_filled_33 : decode cX6_filled 33 = .ok (.ifCond .eq 17, 3) := by decide +kernel
theorem dX6_filled_36 : decode cX6_filled 36 = .ok (.iload_n 3, 1) := by decide +kernel
theorem dX6_filled_37 : decode cX6_filled 37 = .ok (.ifCond .ge 8, 3) := by decide +kernel
theorem dX6_filled_40 : decode cX6_filled 40 = .ok (.iload 4, 2) := by decide +kernel
theorem dX6_filled_42 : decode cX6_filled 42 = .ok (.goto 4, 3) := by decide +kernel
theorem dX6_filled_45 : decode cX6_filled 45 = .ok (.iload_n 3, 1) := by decide +kernel
theorem dX6_filled_46 : decode cX6_filled 46 = .ok (.istore_n 3, 1) := by decide +kernel
theorem dX6_filled_47 : decode cX6_filled 47 = .ok (.iinc 2 1, 3) := by decide +kernel
theorem dX6_filled_50 : decode cX6_filled 50 = .ok (.iinc 4 1, 3) := by decide +kernel
theorem dX6_filled_53 : decode cX6_filled 53 = .ok (.goto (-35), 3) := by decide +kernel
theorem dX6_filled_56 : decode cX6_filled 56 = .ok (.iload_n 1, 1) := by decide +kernel
theorem dX6_filled_57 : decode cX6_filled 57 = .ok (.iconst (-1), 1) := by decide +kernel
theorem dX6_filled_58 : decode cX6_filled 58 = .ok (.if_icmp .ne 5, 3) := by decide +kernel
theorem dX6_filled_61 : decode cX6_filled 61 = .ok (.iload_n 2, 1) := by decide +kernel
theorem dX6_filled_62 : decode cX6_filled 62 = .ok (.ireturn, 1) := by decide +kernel
theorem dX6_filled_63 : decode cX6_filled 63 = .ok (.iload_n 3, 1) := by decide +kernel
theorem dX6_filled_64 : decode cX6_filled 64 = .ok (.ifCond .lt 30, 3) := by decide +kernel
theorem dX6_filled_67 : decode cX6_filled 67 = .ok (.iload_n 1, 1) := by decide +kernel
theorem dX6_filled_68 : decode cX6_filled 68 = .ok (.iconst 0, 1) := by decide +kernel
theorem dX6_filled_69 : decode cX6_filled 69 = .ok (.aload_n 0, 1) := by decide +kernel
theorem dX6_filled_70 : decode cX6_filled 70 = .ok (.aload_n 0, 1) := by decide +kernel
theorem dX6_filled_71 : decode cX6_filled 71 = .ok (.getfield 74, 3) := by decide +kernel
theorem dX6_filled_74 : decode cX6_filled 74 = .ok (.invokevirtual 137, 3) := by decide +kernel
theorem dX6_filled_77 : decode cX6_filled 77 = .ok (.iconst 1, 1) := by decide +kernel
theorem dX6_filled_78 : decode cX6_filled 78 = .ok (.isub, 1) := by decide +kernel
theorem dX6_filled_79 : decode cX6_filled 79 = .ok (.invokestatic 60, 3) := by decide +kernel
theorem dX6_filled_82 : decode cX6_filled 82 = .ok (.ifCond .eq 12, 3) := by decide +kernel
theorem dX6_filled_85 : decode cX6_filled 85 = .ok (.aload_n 0, 1) := by decide +kernel
theorem dX6_filled_86 : decode cX6_filled 86 = .ok (.iload_n 3, 1) := by decide +kernel
theorem dX6_filled_87 : decode cX6_filled 87 = .ok (.iload_n 1, 1) := by decide +kernel
theorem dX6_filled_88 : decode cX6_filled 88 = .ok (.invokevirtual 174, 3) := by decide +kernel
theorem dX6_filled_91 : decode cX6_filled 91 = .ok (.goto 5, 3) := by decide +kernel
theorem dX6_filled_94 : decode cX6_filled 94 = .ok (.bipush (-6), 2) := by decide +kernel
theorem dX6_filled_96 : decode cX6_filled 96 = .ok (.ireturn, 1) := by decide +kernel
theorem dX6_could_0 : decode cX6_could 0 = .ok (.aload_n 0, 1) := by decide +kernel
theorem dX6_could_1 : decode cX6_could 1 = .ok (.invokevirtual 77, 3) := by decide +kernel
theorem dX6_could_4 : decode cX6_could 4 = .ok (.ifCond .lt 6, 3) := by decide +kernel
theorem dX6_could_7 : decode cX6_could 7 = .ok (.bipush (-5), 2) := by decide +kernel
theorem dX6_could_9 : decode cX6_could 9 = .ok (.ireturn, 1) := by decide +kernel
theorem dX6_could_10 : decode cX6_could 10 = .ok (.iload_n 1, 1) := by decide +kernel
theorem dX6_could_11 : decode cX6_could 11 = .ok (.iconst 0, 1) := by decide +kernel
theorem dX6_could_12 : decode cX6_could 12 = .ok (.aload_n 0, 1) := by decide +kernel
theorem dX6_could_13 : decode cX6_could 13 = .ok (.aload_n 0, 1) := by decide +kernel
theorem dX6_could_14 : decode cX6_could 14 = .ok (.getfield 74, 3) := by decide +kernel
theorem dX6_could_17 : decode cX6_could 17 = .ok (.invokevirtual 137, 3) := by decide +kernel
theorem dX6_could_20 : decode cX6_could 20 = .ok (.iconst 1, 1) := by decide +kernel
theorem dX6_could_21 : decode cX6_could 21 = .ok (.isub, 1) := by decide +kernel
theorem dX6_could_22 : decode cX6_could 22 = .ok (.invokestatic 60, 3) := by decide +kernel
theorem dX6_could_25 : decode cX6_could 25 = .ok (.ifCond .ne 6, 3) := by decide +kernel
theorem dX6_could_28 : decode cX6_could 28 = .ok (.bipush (-6), 2) := by decide +kernel
theorem dX6_could_30 : decode cX6_could 30 = .ok (.ireturn, 1) := by decide +kernel
theorem dX6_could_31 : decode cX6_could 31 = .ok (.iconst 0, 1) := by decide +kernel
theorem dX6_could_32 : decode cX6_could 32 = .ok (.istore_n 2, 1) := by decide +kernel
theorem dX6_could_33 : decode cX6_could 33 = .ok (.iconst 0, 1) := by decide +kernel
theorem dX6_could_34 : decode cX6_could 34 = .ok (.istore_n 3, 1) := by decide +kernel
theorem dX6_could_35 : decode cX6_could 35 = .ok (.iload_n 3, 1) := by decide +kernel
theorem dX6_could_36 : decode cX6_could 36 = .ok (.aload_n 0, 1) := by decide +kernel
theorem dX6_could_37 : decode cX6_could 37 = .ok (.invokevirtual 168, 3) := by decide +kernel
theorem dX6_could_40 : decode cX6_could 40 = .ok (.if_icmp .ge 32, 3) := by decide +kernel
theorem dX6_could_43 : decode cX6_could 43 = .ok (.iload_n 2, 1) := by decide +kernel
theorem dX6_could_44 : decode cX6_could 44 = .ok (.aload_n 0, 1) := by decide +kernel
theorem dX6_could_45 : decode cX6_could 45 = .ok (.iload_n 3, 1) := by decide +kernel
theorem dX6_could_46 : decode cX6_could 46 = .ok (.invokevirtual 171, 3) := by decide +kernel
theorem dX6_could_49 : decode cX6_could 49 = .ok (.ifCond .eq 14, 3) := by decide +kernel
theorem dX6_could_52 : decode cX6_could 52 = .ok (.iconst 1, 1) := by decide +kernel
theorem dX6_could_53 : decode cX6_could 53 = .ok (.aload_n 0, 1) := by decide +kernel
theorem dX6_could_54 : decode cX6_could 54 = .ok (.iload_n 3, 1) := by decide +kernel
theorem dX6_could_55 : decode cX6_could 55 = .ok (.iload_n 1, 1) := by decide +kernel
theorem dX6_could_56 : decode cX6_could 56 = .ok (.invokevirtual 174, 3) := by decide +kernel
theorem dX6_could_59 : decode cX6_could 59 = .ok (.ishl, 1) := by decide +kernel
theorem dX6_could_60 : decode cX6_could 60 = .ok (.goto 4, 3) := by decide +kernel
theorem dX6_could_63 : decode cX6_could 63 = .ok (.iconst 0, 1) := by decide +kernel
theorem dX6_could_64 : decode cX6_could 64 = .ok (.ior, 1) := by decide +kernel
theorem dX6_could_65 : decode cX6_could 65 = .ok (.istore_n 2, 1) := by decide +kernel
theorem dX6_could_66 : decode cX6_could 66 = .ok (.iinc 3 1, 3) := by decide +kernel
theorem dX6_could_69 : decode cX6_could 69 = .ok (.goto (-34), 3) := by decide +kernel
theorem dX6_could_72 : decode cX6_could 72 = .ok (.iload_n 2, 1) := by decide +kernel
theorem dX6_could_73 : decode cX6_could 73 = .ok (.ireturn, 1) := by decide +kernel
theorem dX6_power_0 : decode cX6_power 0 = .ok (.lconst 1, 1) := by decide +kernel
theorem dX6_power_1 : decode cX6_power 1 = .ok (.lstore_n 3, 1) := by decide +kernel
theorem dX6_power_2 : decode cX6_power 2 = .ok (.iconst 0, 1) := by decide +kernel
theorem dX6_power_3 : decode cX6_power 3 = .ok (.istore 5, 2) := by decide +kernel
theorem dX6_power_5 : decode cX6_power 5 = .ok (.iload 5, 2) := by decide +kernel
theorem dX6_power_7 : decode cX6_power 7 = .ok (.iload_n 2, 1) := by decide +kernel
theorem dX6_power_8 : decode cX6_power 8 = .ok (.if_icmp .ge 13, 3) := by decide +kernel
theorem dX6_power_11 : decode cX6_power 11 = .ok (.lload_n 3, 1) := by decide +kernel
theorem dX6_power_12 : decode cX6_power 12 = .ok (.lload_n 0, 1) := by decide +kernel
theorem dX6_power_13 : decode cX6_power 13 = .ok (.lmul, 1) := by decide +kernel
theorem dX6_power_14 : decode cX6_power 14 = .ok (.lstore_n 3, 1) := by decide +kernel
theorem dX6_power_15 : decode cX6_power 15 = .ok (.iinc 5 1, 3) := by decide +kernel
theorem dX6_power_18 : decode cX6_power 18 = .ok (.goto (-13), 3) := by decide +kernel
theorem dX6_power_21 : decode cX6_power 21 = .ok (.lload_n 3, 1) := by decide +kernel
theorem dX6_power_22 : decode cX6_power 22 = .ok (.lreturn, 1) := by decide +kernel
theorem dX6_chance_0 : decode cX6_chance 0 = .ok (.aload_n 0, 1) := by decide +kernel
theorem dX6_chance_1 : decode cX6_chance 1 = .ok (.iload_n 1, 1) := by decide +kernel
theorem dX6_chance_2 : decode cX6_chance 2 = .ok (.invokevirtual 71, 3) := by decide +kernel
theorem dX6_chance_5 : decode cX6_chance 5 = .ok (.ifCond .ne 7, 3) := by decide +kernel
theorem dX6_chance_8 : decode cX6_chance 8 = .ok (.ldc2_w 177, 3) := by decide +kernel
theorem dX6_chance_11 : decode cX6_chance 11 = .ok (.lreturn, 1) := by decide +kernel
theorem dX6_chance_12 : decode cX6_chance 12 = .ok (.iload_n 2, 1) := by decide +kernel
theorem dX6_chance_13 : decode cX6_chance 13 = .ok (.iconst 0, 1) := by decide +kernel
theorem dX6_chance_14 : decode cX6_chance 14 = .ok (.bipush 8, 2) := by decide +kernel
theorem dX6_chance_16 : decode cX6_chance 16 = .ok (.invokestatic 60, 3) := by decide +kernel
theorem dX6_chance_19 : decode cX6_chance 19 = .ok (.ifCond .eq 23, 3) := by decide +kernel
theorem dX6_chance_22 : decode cX6_chance 22 = .ok (.iload_n 3, 1) := by decide +kernel
theorem dX6_chance_23 : decode cX6_chance 23 = .ok (.iconst 0, 1) := by decide +kernel
theorem dX6_chance_24 : decode cX6_chance 24 = .ok (.bipush 10, 2) := by decide +kernel
theorem dX6_chance_26 : decode cX6_chance 26 = .ok (.invokestatic 60, 3) := by decide +kernel
theorem dX6_chance_29 : decode cX6_chance 29 = .ok (.ifCond .eq 13, 3) := by decide +kernel
theorem dX6_chance_32 : decode cX6_chance 32 = .ok (.iload 4, 2) := by decide +kernel
theorem dX6_chance_34 : decode cX6_chance 34 = .ok (.iconst 0, 1) := by decide +kernel
theorem dX6_chance_35 : decode cX6_chance 35 = .ok (.iconst 1, 1) := by decide +kernel
theorem dX6_chance_36 : decode cX6_chance 36 = .ok (.invokestatic 60, 3) := by decide +kernel
theorem dX6_chance_39 : decode cX6_chance 39 = .ok (.ifCond .ne 7, 3) := by decide +kernel
theorem dX6_chance_42 : decode cX6_chance 42 = .ok (.ldc2_w 179, 3) := by decide +kernel
theorem dX6_chance_45 : decode cX6_chance 45 = .ok (.lreturn, 1) := by decide +kernel
theorem dX6_chance_46 : decode cX6_chance 46 = .ok (.aload_n 0, 1) := by decide +kernel
theorem dX6_chance_47 : decode cX6_chance 47 = .ok (.aload_n 0, 1) := by decide +kernel
theorem dX6_chance_48 : decode cX6_chance 48 = .ok (.getfield 74, 3) := by decide +kernel
theorem dX6_chance_51 : decode cX6_chance 51 = .ok (.invokevirtual 150, 3) := by decide +kernel
theorem dX6_chance_54 : decode cX6_chance 54 = .ok (.istore 5, 2) := by decide +kernel
theorem dX6_chance_56 : decode cX6_chance 56 = .ok (.iload 5, 2) := by decide +kernel
theorem dX6_chance_58 : decode cX6_chance 58 = .ok (.ifCond .ge 11, 3) := by decide +kernel
theorem dX6_chance_61 : decode cX6_chance 61 = .ok (.ldc2_w 181, 3) := by decide +kernel
theorem dX6_chance_64 : decode cX6_chance 64 = .ok (.iload 5, 2) := by decide +kernel
theorem dX6_chance_66 : decode cX6_chance 66 = .ok (.i2l, 1) := by decide +kernel
theorem dX6_chance_67 : decode cX6_chance 67 = .ok (.ladd, 1) := by decide +kernel
theorem dX6_chance_68 : decode cX6_chance 68 = .ok (.lreturn, 1) := by decide +kernel
theorem dX6_chance_69 : decode cX6_chance 69 = .ok (.lconst 0, 1) := by decide +kernel
theorem dX6_chance_70 : decode cX6_chance 70 = .ok (.lstore 6, 2) := by decide +kernel
theorem dX6_chance_72 : decode cX6_chance 72 = .ok (.iconst 0, 1) := by decide +kernel
theorem dX6_chance_73 : decode cX6_chance 73 = .ok (.istore 8, 2) := by decide +kernel
theorem dX6_chance_75 : decode cX6_chance 75 = .ok (.iload 8, 2) := by decide +kernel
theorem dX6_chance_77 : decode cX6_chance 77 = .ok (.iconst 1, 1) := by decide +kernel
theorem dX6_chance_78 : decode cX6_chance 78 = .ok (.iload_n 2, 1) := by decide +kernel
theorem dX6_chance_79 : decode cX6_chance 79 = .ok (.ishl, 1) := by decide +kernel
theorem dX6_chance_80 : decode cX6_chance 80 = .ok (.if_icmp .ge 157, 3) := by decide +kernel
theorem dX6_chance_83 : decode cX6_chance 83 = .ok (.aload_n 0, 1) := by decide +kernel
theorem dX6_chance_84 : decode cX6_chance 84 = .ok (.aload_n 0, 1) := by decide +kernel
theorem dX6_chance_85 : decode cX6_chance 85 = .ok (.getfield 74, 3) := by decide +kernel
theorem dX6_chance_88 : decode cX6_chance 88 = .ok (.iconst 0, 1) := by decide +kernel
theorem dX6_chance_89 : decode cX6_chance 89 = .ok (.bipush (-6), 2) := by decide +kernel
theorem dX6_chance_91 : decode cX6_chance 91 = .ok (.iconst 0, 1) := by decide +kernel
theorem dX6_chance_92 : decode cX6_chance 92 = .ok (.invokevirtual 146, 3) := by decide +kernel
end
section
theorem dX6_chance_95 : decode cX6_chance 95 = .ok (.istore 9, 2) := by decide +kernel
theorem dX6_chance_97 : decode cX6_chance 97 = .ok (.iload 9, 2) := by decide +kernel
theorem dX6_chance_99 : decode cX6_chance 99 = .ok (.ifCond .ge 7, 3) := by decide +kernel
theorem dX6_chance_102 : decode cX6_chance 102 = .ok (.lconst 1, 1) := by decide +kernel
theorem dX6_chance_103 : decode cX6_chance 103 = .ok (.goto 4, 3) := by decide +kernel
theorem dX6_chance_106 : decode cX6_chance 106 = .ok (.lconst 0, 1) := by decide +kernel
theorem dX6_chance_107 : decode cX6_chance 107 = .ok (.lstore 10, 2) := by decide +kernel
theorem dX6_chance_109 : decode cX6_chance 109 = .ok (.iconst 0, 1) := by decide +kernel
theorem dX6_chance_110 : decode cX6_chance 110 = .ok (.istore 12, 2) := by decide +kernel
theorem dX6_chance_112 : decode cX6_chance 112 = .ok (.iload 12, 2) := by decide +kernel
theorem dX6_chance_114 : decode cX6_chance 114 = .ok (.iload_n 2, 1) := by decide +kernel
theorem dX6_chance_115 : decode cX6_chance 115 = .ok (.if_icmp .ge 96, 3) := by decide +kernel
theorem dX6_chance_118 : decode cX6_chance 118 = .ok (.iload 8, 2) := by decide +kernel
theorem dX6_chance_120 : decode cX6_chance 120 = .ok (.iload 12, 2) := by decide +kernel
theorem dX6_chance_122 : decode cX6_chance 122 = .ok (.invokestatic 112, 3) := by decide +kernel
theorem dX6_chance_125 : decode cX6_chance 125 = .ok (.ifCond .eq 22, 3) := by decide +kernel
theorem dX6_chance_128 : decode cX6_chance 128 = .ok (.lload 10, 2) := by decide +kernel
theorem dX6_chance_130 : decode cX6_chance 130 = .ok (.iload_n 3, 1) := by decide +kernel
theorem dX6_chance_131 : decode cX6_chance 131 = .ok (.i2l, 1) := by decide +kernel
theorem dX6_chance_132 : decode cX6_chance 132 = .ok (.lmul, 1) := by decide +kernel
theorem dX6_chance_133 : decode cX6_chance 133 = .ok (.lstore 10, 2) := by decide +kernel
theorem dX6_chance_135 : decode cX6_chance 135 = .ok (.aload_n 0, 1) := by decide +kernel
theorem dX6_chance_136 : decode cX6_chance 136 = .ok (.bipush 8, 2) := by decide +kernel
theorem dX6_chance_138 : decode cX6_chance 138 = .ok (.iload 12, 2) := by decide +kernel
theorem dX6_chance_140 : decode cX6_chance 140 = .ok (.iadd, 1) := by decide +kernel
theorem dX6_chance_141 : decode cX6_chance 141 = .ok (.invokevirtual 125, 3) := by decide +kernel
theorem dX6_chance_144 : decode cX6_chance 144 = .ok (.goto 61, 3) := by decide +kernel
theorem dX6_chance_147 : decode cX6_chance 147 = .ok (.lload 10, 2) := by decide +kernel
theorem dX6_chance_149 : decode cX6_chance 149 = .ok (.bipush 10, 2) := by decide +kernel
theorem dX6_chance_151 : decode cX6_chance 151 = .ok (.iload_n 3, 1) := by decide +kernel
theorem dX6_chance_152 : decode cX6_chance 152 = .ok (.isub, 1) := by decide +kernel
theorem dX6_chance_153 : decode cX6_chance 153 = .ok (.i2l, 1) := by decide +kernel
theorem dX6_chance_154 : decode cX6_chance 154 = .ok (.lmul, 1) := by decide +kernel
theorem dX6_chance_155 : decode cX6_chance 155 = .ok (.lstore 10, 2) := by decide +kernel
theorem dX6_chance_157 : decode cX6_chance 157 = .ok (.iconst 0, 1) := by decide +kernel
theorem dX6_chance_158 : decode cX6_chance 158 = .ok (.istore 13, 2) := by decide +kernel
theorem dX6_chance_160 : decode cX6_chance 160 = .ok (.iload 13, 2) := by decide +kernel
theorem dX6_chance_162 : decode cX6_chance 162 = .ok (.aload_n 0, 1) := by decide +kernel
theorem dX6_chance_163 : decode cX6_chance 163 = .ok (.getfield 7, 3) := by decide +kernel
theorem dX6_chance_166 : decode cX6_chance 166 = .ok (.if_icmp .ge 19, 3) := by decide +kernel
theorem dX6_chance_169 : decode cX6_chance 169 = .ok (.aload_n 0, 1) := by decide +kernel
theorem dX6_chance_170 : decode cX6_chance 170 = .ok (.getfield 23, 3) := by decide +kernel
theorem dX6_chance_173 : decode cX6_chance 173 = .ok (.iload 13, 2) := by decide +kernel
theorem dX6_chance_175 : decode cX6_chance 175 = .ok (.iaload, 1) := by decide +kernel
theorem dX6_chance_176 : decode cX6_chance 176 = .ok (.ifCond .ge 9, 3) := by decide +kernel
theorem dX6_chance_179 : decode cX6_chance 179 = .ok (.iinc 13 1, 3) := by decide +kernel
theorem dX6_chance_182 : decode cX6_chance 182 = .ok (.goto (-22), 3) := by decide +kernel
theorem dX6_chance_185 : decode cX6_chance 185 = .ok (.iload 13, 2) := by decide +kernel
theorem dX6_chance_187 : decode cX6_chance 187 = .ok (.aload_n 0, 1) := by decide +kernel
theorem dX6_chance_188 : decode cX6_chance 188 = .ok (.getfield 7, 3) := by decide +kernel
theorem dX6_chance_191 : decode cX6_chance 191 = .ok (.if_icmp .ge 14, 3) := by decide +kernel
theorem dX6_chance_194 : decode cX6_chance 194 = .ok (.aload_n 0, 1) := by decide +kernel
theorem dX6_chance_195 : decode cX6_chance 195 = .ok (.aload_n 0, 1) := by decide +kernel
theorem dX6_chance_196 : decode cX6_chance 196 = .ok (.getfield 23, 3) := by decide +kernel
theorem dX6_chance_199 : decode cX6_chance 199 = .ok (.iload 13, 2) := by decide +kernel
theorem dX6_chance_201 : decode cX6_chance 201 = .ok (.iaload, 1) := by decide +kernel
theorem dX6_chance_202 : decode cX6_chance 202 = .ok (.invokevirtual 128, 3) := by decide +kernel
theorem dX6_chance_205 : decode cX6_chance 205 = .ok (.iinc 12 1, 3) := by decide +kernel
theorem dX6_chance_208 : decode cX6_chance 208 = .ok (.goto (-96), 3) := by decide +kernel
theorem dX6_chance_211 : decode cX6_chance 211 = .ok (.lload 6, 2) := by decide +kernel
theorem dX6_chance_213 : decode cX6_chance 213 = .ok (.aload_n 0, 1) := by decide +kernel
theorem dX6_chance_214 : decode cX6_chance 214 = .ok (.getfield 23, 3) := by decide +kernel
theorem dX6_chance_217 : decode cX6_chance 217 = .ok (.iload_n 1, 1) := by decide +kernel
theorem dX6_chance_218 : decode cX6_chance 218 = .ok (.iaload, 1) := by decide +kernel
theorem dX6_chance_219 : decode cX6_chance 219 = .ok (.ifCond .lt 8, 3) := by decide +kernel
theorem dX6_chance_222 : decode cX6_chance 222 = .ok (.lload 10, 2) := by decide +kernel
theorem dX6_chance_224 : decode cX6_chance 224 = .ok (.goto 4, 3) := by decide +kernel
theorem dX6_chance_227 : decode cX6_chance 227 = .ok (.lconst 0, 1) := by decide +kernel
theorem dX6_chance_228 : decode cX6_chance 228 = .ok (.ladd, 1) := by decide +kernel
theorem dX6_chance_229 : decode cX6_chance 229 = .ok (.lstore 6, 2) := by decide +kernel
theorem dX6_chance_231 : decode cX6_chance 231 = .ok (.iinc 8 1, 3) := by decide +kernel
theorem dX6_chance_234 : decode cX6_chance 234 = .ok (.goto (-159), 3) := by decide +kernel
theorem dX6_chance_237 : decode cX6_chance 237 = .ok (.ldc2_w 183, 3) := by decide +kernel
theorem dX6_chance_240 : decode cX6_chance 240 = .ok (.iload_n 2, 1) := by decide +kernel
theorem dX6_chance_241 : decode cX6_chance 241 = .ok (.invokestatic 185, 3) := by decide +kernel
theorem dX6_chance_244 : decode cX6_chance 244 = .ok (.lstore 8, 2) := by decide +kernel
theorem dX6_chance_246 : decode cX6_chance 246 = .ok (.lload 6, 2) := by decide +kernel
theorem dX6_chance_248 : decode cX6_chance 248 = .ok (.lstore 10, 2) := by decide +kernel
theorem dX6_chance_250 : decode cX6_chance 250 = .ok (.lload 8, 2) := by decide +kernel
theorem dX6_chance_252 : decode cX6_chance 252 = .ok (.lstore 12, 2) := by decide +kernel
theorem dX6_chance_254 : decode cX6_chance 254 = .ok (.lload 12, 2) := by decide +kernel
theorem dX6_chance_256 : decode cX6_chance 256 = .ok (.lconst 0, 1) := by decide +kernel
theorem dX6_chance_257 : decode cX6_chance 257 = .ok (.lcmp, 1) := by decide +kernel
theorem dX6_chance_258 : decode cX6_chance 258 = .ok (.ifCond .eq 21, 3) := by decide +kernel
theorem dX6_chance_261 : decode cX6_chance 261 = .ok (.lload 10, 2) := by decide +kernel
theorem dX6_chance_263 : decode cX6_chance 263 = .ok (.lload 12, 2) := by decide +kernel
theorem dX6_chance_265 : decode cX6_chance 265 = .ok (.lrem, 1) := by decide +kernel
theorem dX6_chance_266 : decode cX6_chance 266 = .ok (.lstore 14, 2) := by decide +kernel
theorem dX6_chance_268 : decode cX6_chance 268 = .ok (.lload 12, 2) := by decide +kernel
theorem dX6_chance_270 : decode cX6_chance 270 = .ok (.lstore 10, 2) := by decide +kernel
theorem dX6_chance_272 : decode cX6_chance 272 = .ok (.lload 14, 2) := by decide +kernel
theorem dX6_chance_274 : decode cX6_chance 274 = .ok (.lstore 12, 2) := by decide +kernel
theorem dX6_chance_276 : decode cX6_chance 276 = .ok (.goto (-22), 3) := by decide +kernel
theorem dX6_chance_279 : decode cX6_chance 279 = .ok (.iload 4, 2) := by decide +kernel
theorem dX6_chance_281 : decode cX6_chance 281 = .ok (.ifCond .ne 11, 3) := by decide +kernel
theorem dX6_chance_284 : decode cX6_chance 284 = .ok (.lload 6, 2) := by decide +kernel
theorem dX6_chance_286 : decode cX6_chance 286 = .ok (.lload 10, 2) := by decide +kernel
theorem dX6_chance_288 : decode cX6_chance 288 = .ok (.ldiv, 1) := by decide +kernel
theorem dX6_chance_289 : decode cX6_chance 289 = .ok (.goto 8, 3) := by decide +kernel
theorem dX6_chance_292 : decode cX6_chance 292 = .ok (.lload 8, 2) := by decide +kernel
theorem dX6_chance_294 : decode cX6_chance 294 = .ok (.lload 10, 2) := by decide +kernel
theorem dX6_chance_296 : decode cX6_chance 296 = .ok (.ldiv, 1) := by decide +kernel
theorem dX6_chance_297 : decode cX6_chance 297 = .ok (.lreturn, 1) := by decide +kernel
theorem dX6_year_0 : decode cX6_year 0 = .ok (.aload_n 0, 1) := by decide +kernel
theorem dX6_year_1 : decode cX6_year 1 = .ok (.iload_n 3, 1) := by decide +kernel
theorem dX6_year_2 : decode cX6_year 2 = .ok (.invokevirtual 71, 3) := by decide +kernel
theorem dX6_year_5 : decode cX6_year 5 = .ok (.ifCond .ne 5, 3) := by decide +kernel
theorem dX6_year_8 : decode cX6_year 8 = .ok (.iconst (-1), 1) := by decide +kernel
theorem dX6_year_9 : decode cX6_year 9 = .ok (.ireturn, 1) := by decide +kernel
theorem dX6_year_10 : decode cX6_year 10 = .ok (.iload_n 1, 1) := by decide +kernel
theorem dX6_year_11 : decode cX6_year 11 = .ok (.iconst 0, 1) := by decide +kernel
theorem dX6_year_12 : decode cX6_year 12 = .ok (.sipush 9999, 3) := by decide +kernel
theorem dX6_year_15 : decode cX6_year 15 = .ok (.invokestatic 60, 3) := by decide +kernel
theorem dX6_year_18 : decode cX6_year 18 = .ok (.ifCond .eq 13, 3) := by decide +kernel
theorem dX6_year_21 : decode cX6_year 21 = .ok (.iload_n 2, 1) := by decide +kernel
theorem dX6_year_22 : decode cX6_year 22 = .ok (.iconst 1, 1) := by decide +kernel
theorem dX6_year_23 : decode cX6_year 23 = .ok (.bipush 99, 2) := by decide +kernel
theorem dX6_year_25 : decode cX6_year 25 = .ok (.invokestatic 60, 3) := by decide +kernel
theorem dX6_year_28 : decode cX6_year 28 = .ok (.ifCond .ne 6, 3) := by decide +kernel
theorem dX6_year_31 : decode cX6_year 31 = .ok (.bipush (-2), 2) := by decide +kernel
theorem dX6_year_33 : decode cX6_year 33 = .ok (.ireturn, 1) := by decide +kernel
theorem dX6_year_34 : decode cX6_year 34 = .ok (.aload_n 0, 1) := by decide +kernel
theorem dX6_year_35 : decode cX6_year 35 = .ok (.invokevirtual 131, 3) := by decide +kernel
theorem dX6_year_38 : decode cX6_year 38 = .ok (.iload_n 1, 1) := by decide +kernel
theorem dX6_year_39 : decode cX6_year 39 = .ok (.istore 4, 2) := by decide +kernel
theorem dX6_year_41 : decode cX6_year 41 = .ok (.iconst 0, 1) := by decide +kernel
theorem dX6_year_42 : decode cX6_year 42 = .ok (.istore 5, 2) := by decide +kernel
theorem dX6_year_44 : decode cX6_year 44 = .ok (.iload 5, 2) := by decide +kernel
theorem dX6_year_46 : decode cX6_year 46 = .ok (.iload_n 2, 1) := by decide +kernel
theorem dX6_year_47 : decode cX6_year 47 = .ok (.if_icmp .ge 53, 3) := by decide +kernel
theorem dX6_year_50 : decode cX6_year 50 = .ok (.bipush 75, 2) := by decide +kernel
theorem dX6_year_52 : decode cX6_year 52 = .ok (.iload 4, 2) := by decide +kernel
theorem dX6_year_54 : decode cX6_year 54 = .ok (.imul, 1) := by decide +kernel
theorem dX6_year_55 : decode cX6_year 55 = .ok (.bipush 74, 2) := by decide +kernel
theorem dX6_year_57 : decode cX6_year 57 = .ok (.iadd, 1) := by decide +kernel
theorem dX6_year_58 : decode cX6_year 58 = .ok (.ldc 189, 2) := by decide +kernel
theorem dX6_year_60 : decode cX6_year 60 = .ok (.irem, 1) := by decide +kernel
theorem dX6_year_61 : decode cX6_year 61 = .ok (.istore 4, 2) := by decide +kernel
theorem dX6_year_63 : decode cX6_year 63 = .ok (.iload 4, 2) := by decide +kernel
theorem dX6_year_65 : decode cX6_year 65 = .ok (.bipush 8, 2) := by decide +kernel
theorem dX6_year_67 : decode cX6_year 67 = .ok (.irem, 1) := by decide +kernel
theorem dX6_year_68 : decode cX6_year 68 = .ok (.istore 6, 2) := by decide +kernel
theorem dX6_year_70 : decode cX6_year 70 = .ok (.aload_n 0, 1) := by decide +kernel
theorem dX6_year_71 : decode cX6_year 71 = .ok (.iload 6, 2) := by decide +kernel
theorem dX6_year_73 : decode cX6_year 73 = .ok (.invokevirtual 122, 3) := by decide +kernel
theorem dX6_year_76 : decode cX6_year 76 = .ok (.ifCond .eq 12, 3) := by decide +kernel
theorem dX6_year_79 : decode cX6_year 79 = .ok (.aload_n 0, 1) := by decide +kernel
theorem dX6_year_80 : decode cX6_year 80 = .ok (.iload 6, 2) := by decide +kernel
theorem dX6_year_82 : decode cX6_year 82 = .ok (.invokevirtual 128, 3) := by decide +kernel
theorem dX6_year_85 : decode cX6_year 85 = .ok (.goto 9, 3) := by decide +kernel
theorem dX6_year_88 : decode cX6_year 88 = .ok (.aload_n 0, 1) := by decide +kernel
theorem dX6_year_89 : decode cX6_year 89 = .ok (.iload 6, 2) := by decide +kernel
theorem dX6_year_91 : decode cX6_year 91 = .ok (.invokevirtual 125, 3) := by decide +kernel
theorem dX6_year_94 : decode cX6_year 94 = .ok (.iinc 5 1, 3) := by decide +kernel
theorem dX6_year_97 : decode cX6_year 97 = .ok (.goto (-53), 3) := by decide +kernel
theorem dX6_year_100 : decode cX6_year 100 = .ok (.aload_n 0, 1) := by decide +kernel
theorem dX6_year_101 : decode cX6_year 101 = .ok (.getfield 35, 3) := by decide +kernel
theorem dX6_year_104 : decode cX6_year 104 = .ok (.iload_n 3, 1) := by decide +kernel
theorem dX6_year_105 : decode cX6_year 105 = .ok (.iaload, 1) := by decide +kernel
theorem dX6_year_106 : decode cX6_year 106 = .ok (.ireturn, 1) := by decide +kernel
theorem dX6_image_0 : decode cX6_image 0 = .ok (.iload_n 1, 1) := by decide +kernel
theorem dX6_image_1 : decode cX6_image 1 = .ok (.iconst 0, 1) := by decide +kernel
theorem dX6_image_2 : decode cX6_image 2 = .ok (.iconst 1, 1) := by decide +kernel
theorem dX6_image_3 : decode cX6_image 3 = .ok (.invokestatic 60, 3) := by decide +kernel
theorem dX6_image_6 : decode cX6_image 6 = .ok (.ifCond .ne 6, 3) := by decide +kernel
theorem dX6_image_9 : decode cX6_image 9 = .ok (.bipush (-2), 2) := by decide +kernel
theorem dX6_image_11 : decode cX6_image 11 = .ok (.ireturn, 1) := by decide +kernel
theorem dX6_image_12 : decode cX6_image 12 = .ok (.bipush 80, 2) := by decide +kernel
theorem dX6_image_14 : decode cX6_image 14 = .ok (.iload_n 1, 1) := by decide +kernel
theorem dX6_image_15 : decode cX6_image 15 = .ok (.imul, 1) := by decide +kernel
theorem dX6_image_16 : decode cX6_image 16 = .ok (.istore_n 2, 1) := by decide +kernel
theorem dX6_image_17 : decode cX6_image 17 = .ok (.iconst 0, 1) := by decide +kernel
theorem dX6_image_18 : decode cX6_image 18 = .ok (.istore_n 3, 1) := by decide +kernel
theorem dX6_image_19 : decode cX6_image 19 = .ok (.iload_n 3, 1) := by decide +kernel
theorem dX6_image_20 : decode cX6_image 20 = .ok (.bipush 64, 2) := by decide +kernel
theorem dX6_image_22 : decode cX6_image 22 = .ok (.if_icmp .ge 23, 3) := by decide +kernel
theorem dX6_image_25 : decode cX6_image 25 = .ok (.aload_n 0, 1) := by decide +kernel
theorem dX6_image_26 : decode cX6_image 26 = .ok (.getfield 50, 3) := by decide +kernel
theorem dX6_image_29 : decode cX6_image 29 = .ok (.iload_n 2, 1) := by decide +kernel
theorem dX6_image_30 : decode cX6_image 30 = .ok (.iload_n 3, 1) := by decide +kernel
theorem dX6_image_31 : decode cX6_image 31 = .ok (.iadd, 1) := by decide +kernel
theorem dX6_image_32 : decode cX6_image 32 = .ok (.aload_n 0, 1) := by decide +kernel
theorem dX6_image_33 : decode cX6_image 33 = .ok (.getfield 13, 3) := by decide +kernel
theorem dX6_image_36 : decode cX6_image 36 = .ok (.iload_n 3, 1) := by decide +kernel
theorem dX6_image_37 : decode cX6_image 37 = .ok (.iaload, 1) := by decide +kernel
theorem dX6_image_38 : decode cX6_image 38 = .ok (.iastore, 1) := by decide +kernel
theorem dX6_image_39 : decode cX6_image 39 = .ok (.iinc 3 1, 3) := by decide +kernel
theorem dX6_image_42 : decode cX6_image 42 = .ok (.goto (-23), 3) := by decide +kernel
theorem dX6_image_45 : decode cX6_image 45 = .ok (.iconst 0, 1) := by decide +kernel
theorem dX6_image_46 : decode cX6_image 46 = .ok (.istore_n 3, 1) := by decide +kernel
theorem dX6_image_47 : decode cX6_image 47 = .ok (.iload_n 3, 1) := by decide +kernel
theorem dX6_image_48 : decode cX6_image 48 = .ok (.bipush 12, 2) := by decide +kernel
theorem dX6_image_50 : decode cX6_image 50 = .ok (.if_icmp .ge 26, 3) := by decide +kernel
theorem dX6_image_53 : decode cX6_image 53 = .ok (.aload_n 0, 1) := by decide +kernel
theorem dX6_image_54 : decode cX6_image 54 = .ok (.getfield 50, 3) := by decide +kernel
theorem dX6_image_57 : decode cX6_image 57 = .ok (.iload_n 2, 1) := by decide +kernel
theorem dX6_image_58 : decode cX6_image 58 = .ok (.bipush 64, 2) := by decide +kernel
theorem dX6_image_60 : decode cX6_image 60 = .ok (.iadd, 1) := by decide +kernel
theorem dX6_image_61 : decode cX6_image 61 = .ok (.iload_n 3, 1) := by decide +kernel
theorem dX6_image_62 : decode cX6_image 62 = .ok (.iadd, 1) := by decide +kernel
theorem dX6_image_63 : decode cX6_image 63 = .ok (.aload_n 0, 1) := by decide +kernel
theorem dX6_image_64 : decode cX6_image 64 = .ok (.getfield 17, 3) := by decide +kernel
theorem dX6_image_67 : decode cX6_image 67 = .ok (.iload_n 3, 1) := by decide +kernel
theorem dX6_image_68 : decode cX6_image 68 = .ok (.iaload, 1) := by decide +kernel
theorem dX6_image_69 : decode cX6_image 69 = .ok (.iastore, 1) := by decide +kernel
theorem dX6_image_70 : decode cX6_image 70 = .ok (.iinc 3 1, 3) := by decide +kernel
theorem dX6_image_73 : decode cX6_image 73 = .ok (.goto (-26), 3) := by decide +kernel
theorem dX6_image_76 : decode cX6_image 76 = .ok (.aload_n 0, 1) := by decide +kernel
theorem dX6_image_77 : decode cX6_image 77 = .ok (.getfield 50, 3) := by decide +kernel
theorem dX6_image_80 : decode cX6_image 80 = .ok (.iload_n 2, 1) := by decide +kernel
theorem dX6_image_81 : decode cX6_image 81 = .ok (.bipush 76, 2) := by decide +kernel
theorem dX6_image_83 : decode cX6_image 83 = .ok (.iadd, 1) := by decide +kernel
theorem dX6_image_84 : decode cX6_image 84 = .ok (.aload_n 0, 1) := by decide +kernel
theorem dX6_image_85 : decode cX6_image 85 = .ok (.getfield 7, 3) := by decide +kernel
theorem dX6_image_88 : decode cX6_image 88 = .ok (.iastore, 1) := by decide +kernel
theorem dX6_image_89 : decode cX6_image 89 = .ok (.aload_n 0, 1) := by decide +kernel
theorem dX6_image_90 : decode cX6_image 90 = .ok (.getfield 50, 3) := by decide +kernel
theorem dX6_image_93 : decode cX6_image 93 = .ok (.iload_n 2, 1) := by decide +kernel
theorem dX6_image_94 : decode cX6_image 94 = .ok (.bipush 77, 2) := by decide +kernel
theorem dX6_image_96 : decode cX6_image 96 = .ok (.iadd, 1) := by decide +kernel
theorem dX6_image_97 : decode cX6_image 97 = .ok (.aload_n 0, 1) := by decide +kernel
theorem dX6_image_98 : decode cX6_image 98 = .ok (.getfield 57, 3) := by decide +kernel
theorem dX6_image_101 : decode cX6_image 101 = .ok (.iastore, 1) := by decide +kernel
theorem dX6_image_102 : decode cX6_image 102 = .ok (.aload_n 0, 1) := by decide +kernel
theorem dX6_image_103 : decode cX6_image 103 = .ok (.getfield 50, 3) := by decide +kernel
theorem dX6_image_106 : decode cX6_image 106 = .ok (.iload_n 2, 1) := by decide +kernel
theorem dX6_image_107 : decode cX6_image 107 = .ok (.bipush 78, 2) := by decide +kernel
theorem dX6_image_109 : decode cX6_image 109 = .ok (.iadd, 1) := by decide +kernel
theorem dX6_image_110 : decode cX6_image 110 = .ok (.aload_n 0, 1) := by decide +kernel
theorem dX6_image_111 : decode cX6_image 111 = .ok (.getfield 64, 3) := by decide +kernel
theorem dX6_image_114 : decode cX6_image 114 = .ok (.iastore, 1) := by decide +kernel
theorem dX6_image_115 : decode cX6_image 115 = .ok (.aload_n 0, 1) := by decide +kernel
theorem dX6_image_116 : decode cX6_image 116 = .ok (.getfield 53, 3) := by decide +kernel
theorem dX6_image_119 : decode cX6_image 119 = .ok (.iload_n 1, 1) := by decide +kernel
theorem dX6_image_120 : decode cX6_image 120 = .ok (.iconst 1, 1) := by decide +kernel
theorem dX6_image_121 : decode cX6_image 121 = .ok (.bastore, 1) := by decide +kernel
theorem dX6_image_122 : decode cX6_image 122 = .ok (.iconst 1, 1) := by decide +kernel
theorem dX6_image_123 : decode cX6_image 123 = .ok (.ireturn, 1) := by decide +kernel
theorem dX6_restore_0 : decode cX6_restore 0 = .ok (.iload_n 1, 1) := by decide +kernel
theorem dX6_restore_1 : decode cX6_restore 1 = .ok (.iconst 0, 1) := by decide +kernel
theorem dX6_restore_2 : decode cX6_restore 2 = .ok (.iconst 1, 1) := by decide +kernel
theorem dX6_restore_3 : decode cX6_restore 3 = .ok (.invokestatic 60, 3) := by decide +kernel
theorem dX6_restore_6 : decode cX6_restore 6 = .ok (.ifCond .ne 6, 3) := by decide +kernel
theorem dX6_restore_9 : decode cX6_restore 9 = .ok (.bipush (-2), 2) := by decide +kernel
theorem dX6_restore_11 : decode cX6_restore 11 = .ok (.ireturn, 1) := by decide +kernel
theorem dX6_restore_12 : decode cX6_restore 12 = .ok (.aload_n 0, 1) := by decide +kernel
theorem dX6_restore_13 : decode cX6_restore 13 = .ok (.getfield 53, 3) := by decide +kernel
theorem dX6_restore_16 : decode cX6_restore 16 = .ok (.iload_n 1, 1) := by decide +kernel
theorem dX6_restore_17 : decode cX6_restore 17 = .ok (.baload, 1) := by decide +kernel
theorem dX6_restore_18 : decode cX6_restore 18 = .ok (.ifCond .ne 6, 3) := by decide +kernel
theorem dX6_restore_21 : decode cX6_restore 21 = .ok (.bipush (-3), 2) := by decide +kernel
theorem dX6_restore_23 : decode cX6_restore 23 = .ok (.ireturn, 1) := by decide +kernel
theorem dX6_restore_24 : decode cX6_restore 24 = .ok (.bipush 80, 2) := by decide +kernel
theorem dX6_restore_26 : decode cX6_restore 26 = .ok (.iload_n 1, 1) := by decide +kernel
theorem dX6_restore_27 : decode cX6_restore 27 = .ok (.imul, 1) := by decide +kernel
theorem dX6_restore_28 : decode cX6_restore 28 = .ok (.istore_n 2, 1) := by decide +kernel
theorem dX6_restore_29 : decode cX6_restore 29 = .ok (.iconst 0, 1) := by decide +kernel
theorem dX6_restore_30 : decode cX6_restore 30 = .ok (.istore_n 3, 1) := by decide +kernel
theorem dX6_restore_31 : decode cX6_restore 31 = .ok (.iload_n 3, 1) := by decide +kernel
theorem dX6_restore_32 : decode cX6_restore 32 = .ok (.bipush 64, 2) := by decide +kernel
theorem dX6_restore_34 : decode cX6_restore 34 = .ok (.if_icmp .ge 23, 3) := by decide +kernel
theorem dX6_restore_37 : decode cX6_restore 37 = .ok (.aload_n 0, 1) := by decide +kernel
theorem dX6_restore_38 : decode cX6_restore 38 = .ok (.getfield 13, 3) := by decide +kernel
theorem dX6_restore_41 : decode cX6_restore 41 = .ok (.iload_n 3, 1) := by decide +kernel
theorem dX6_restore_42 : decode cX6_restore 42 = .ok (.aload_n 0, 1) := by decide +kernel
theorem dX6_restore_43 : decode cX6_restore 43 = .ok (.getfield 50, 3) := by decide +kernel
theorem dX6_restore_46 : decode cX6_restore 46 = .ok (.iload_n 2, 1) := by decide +kernel
theorem dX6_restore_47 : decode cX6_restore 47 = .ok (.iload_n 3, 1) := by decide +kernel
theorem dX6_restore_48 : decode cX6_restore 48 = .ok (.iadd, 1) := by decide +kernel
theorem dX6_restore_49 : decode cX6_restore 49 = .ok (.iaload, 1) := by decide +kernel
theorem dX6_restore_50 : decode cX6_restore 50 = .ok (.iastore, 1) := by decide +kernel
theorem dX6_restore_51 : decode cX6_restore 51 = .ok (.iinc 3 1, 3) := by decide +kernel
theorem dX6_restore_54 : decode cX6_restore 54 = .ok (.goto (-23), 3) := by decide +kernel
theorem dX6_restore_57 : decode cX6_restore 57 = .ok (.iconst 0, 1) := by decide +kernel
theorem dX6_restore_58 : decode cX6_restore 58 = .ok (.istore_n 3, 1) := by decide +kernel
theorem dX6_restore_59 : decode cX6_restore 59 = .ok (.iload_n 3, 1) := by decide +kernel
theorem dX6_restore_60 : decode cX6_restore 60 = .ok (.bipush 12, 2) := by decide +kernel
theorem dX6_restore_62 : decode cX6_restore 62 = .ok (.if_icmp .ge 26, 3) := by decide +kernel
theorem dX6_restore_65 : decode cX6_restore 65 = .ok (.aload_n 0, 1) := by decide +kernel
theorem dX6_restore_66 : decode cX6_restore 66 = .ok (.getfield 17, 3) := by decide +kernel
theorem dX6_restore_69 : decode cX6_restore 69 = .ok (.iload_n 3, 1) := by decide +kernel
theorem dX6_restore_70 : decode cX6_restore 70 = .ok (.aload_n 0, 1) := by decide +kernel
theorem dX6_restore_71 : decode cX6_restore 71 = .ok (.getfield 50, 3) := by decide +kernel
theorem dX6_restore_74 : decode cX6_restore 74 = .ok (.iload_n 2, 1) := by decide +kernel
theorem dX6_restore_75 : decode cX6_restore 75 = .ok (.bipush 64, 2) := by decide +kernel
theorem dX6_restore_77 : decode cX6_restore 77 = .ok (.iadd, 1) := by decide +kernel
theorem dX6_restore_78 : decode cX6_restore 78 = .ok (.iload_n 3, 1) := by decide +kernel
theorem dX6_restore_79 : decode cX6_restore 79 = .ok (.iadd, 1) := by decide +kernel
theorem dX6_restore_80 : decode cX6_restore 80 = .ok (.iaload, 1) := by decide +kernel
theorem dX6_restore_81 : decode cX6_restore 81 = .ok (.iastore, 1) := by decide +kernel
theorem dX6_restore_82 : decode cX6_restore 82 = .ok (.iinc 3 1, 3) := by decide +kernel
theorem dX6_restore_85 : decode cX6_restore 85 = .ok (.goto (-26), 3) := by decide +kernel
theorem dX6_restore_88 : decode cX6_restore 88 = .ok (.aload_n 0, 1) := by decide +kernel
theorem dX6_restore_89 : decode cX6_restore 89 = .ok (.aload_n 0, 1) := by decide +kernel
theorem dX6_restore_90 : decode cX6_restore 90 = .ok (.getfield 50, 3) := by decide +kernel
theorem dX6_restore_93 : decode cX6_restore 93 = .ok (.iload_n 2, 1) := by decide +kernel
theorem dX6_restore_94 : decode cX6_restore 94 = .ok (.bipush 76, 2) := by decide +kernel
theorem dX6_restore_96 : decode cX6_restore 96 = .ok (.iadd, 1) := by decide +kernel
theorem dX6_restore_97 : decode cX6_restore 97 = .ok (.iaload, 1) := by decide +kernel
theorem dX6_restore_98 : decode cX6_restore 98 = .ok (.putfield 7, 3) := by decide +kernel
theorem dX6_restore_101 : decode cX6_restore 101 = .ok (.aload_n 0, 1) := by decide +kernel
theorem dX6_restore_102 : decode cX6_restore 102 = .ok (.aload_n 0, 1) := by decide +kernel
theorem dX6_restore_103 : decode cX6_restore 103 = .ok (.getfield 50, 3) := by decide +kernel
theorem dX6_restore_106 : decode cX6_restore 106 = .ok (.iload_n 2, 1) := by decide +kernel
theorem dX6_restore_107 : decode cX6_restore 107 = .ok (.bipush 77, 2) := by decide +kernel
theorem dX6_restore_109 : decode cX6_restore 109 = .ok (.iadd, 1) := by decide +kernel
theorem dX6_restore_110 : decode cX6_restore 110 = .ok (.iaload, 1) := by decide +kernel
theorem dX6_restore_111 : decode cX6_restore 111 = .ok (.putfield 57, 3) := by decide +kernel
theorem dX6_restore_114 : decode cX6_restore 114 = .ok (.aload_n 0, 1) := by decide +kernel
theorem dX6_restore_115 : decode cX6_restore 115 = .ok (.aload_n 0, 1) := by decide +kernel
theorem dX6_restore_116 : decode cX6_restore 116 = .ok (.getfield 50, 3) := by decide +kernel
theorem dX6_restore_119 : decode cX6_restore 119 = .ok (.iload_n 2, 1) := by decide +kernel
theorem dX6_restore_120 : decode cX6_restore 120 = .ok (.bipush 78, 2) := by decide +kernel
theorem dX6_restore_122 : decode cX6_restore 122 = .ok (.iadd, 1) := by decide +kernel
theorem dX6_restore_123 : decode cX6_restore 123 = .ok (.iaload, 1) := by decide +kernel
theorem dX6_restore_124 : decode cX6_restore 124 = .ok (.putfield 64, 3) := by decide +kernel
theorem dX6_restore_127 : decode cX6_restore 127 = .ok (.iconst 1, 1) := by decide +kernel
theorem dX6_restore_128 : decode cX6_restore 128 = .ok (.ireturn, 1) := by decide +kernel
theorem dX6_told_0 : decode cX6_told 0 = .ok (.iload_n 1, 1) := by decide +kernel
theorem dX6_told_1 : decode cX6_told 1 = .ok (.tableswitch 51 0 3 #[31, 36, 41, 46], 31) := by decide +kernel
theorem dX6_told_32 : decode cX6_told 32 = .ok (.aload_n 0, 1) := by decide +kernel
theorem dX6_told_33 : decode cX6_told 33 = .ok (.getfield 74, 3) := by decide +kernel
theorem dX6_told_36 : decode cX6_told 36 = .ok (.ireturn, 1) := by decide +kernel
theorem dX6_told_37 : decode cX6_told 37 = .ok (.aload_n 0, 1) := by decide +kernel
theorem dX6_told_38 : decode cX6_told 38 = .ok (.getfield 7, 3) := by decide +kernel
theorem dX6_told_41 : decode cX6_told 41 = .ok (.ireturn, 1) := by decide +kernel
theorem dX6_told_42 : decode cX6_told 42 = .ok (.aload_n 0, 1) := by decide +kernel
theorem dX6_told_43 : decode cX6_told 43 = .ok (.getfield 57, 3) := by decide +kernel
theorem dX6_told_46 : decode cX6_told 46 = .ok (.ireturn, 1) := by decide +kernel
theorem dX6_told_47 : decode cX6_told 47 = .ok (.aload_n 0, 1) := by decide +kernel
theorem dX6_told_48 : decode cX6_told 48 = .ok (.getfield 64, 3) := by decide +kernel
theorem dX6_told_51 : decode cX6_told 51 = .ok (.ireturn, 1) := by decide +kernel
theorem dX6_told_52 : decode cX6_told 52 = .ok (.iload_n 1, 1) := by decide +kernel
theorem dX6_told_53 : decode cX6_told 53 = .ok (.bipush 10, 2) := by decide +kernel
theorem dX6_told_55 : decode cX6_told 55 = .ok (.bipush 89, 2) := by decide +kernel
theorem dX6_told_57 : decode cX6_told 57 = .ok (.invokestatic 60, 3) := by decide +kernel
theorem dX6_told_60 : decode cX6_told 60 = .ok (.ifCond .eq 36, 3) := by decide +kernel
theorem dX6_told_63 : decode cX6_told 63 = .ok (.aload_n 0, 1) := by decide +kernel
theorem dX6_told_64 : decode cX6_told 64 = .ok (.iload_n 1, 1) := by decide +kernel
theorem dX6_told_65 : decode cX6_told 65 = .ok (.bipush 10, 2) := by decide +kernel
theorem dX6_told_67 : decode cX6_told 67 = .ok (.irem, 1) := by decide +kernel
theorem dX6_told_68 : decode cX6_told 68 = .ok (.invokevirtual 71, 3) := by decide +kernel
theorem dX6_told_71 : decode cX6_told 71 = .ok (.ifCond .eq 25, 3) := by decide +kernel
theorem dX6_told_74 : decode cX6_told 74 = .ok (.aload_n 0, 1) := by decide +kernel
theorem dX6_told_75 : decode cX6_told 75 = .ok (.getfield 13, 3) := by decide +kernel
theorem dX6_told_78 : decode cX6_told 78 = .ok (.bipush 8, 2) := by decide +kernel
theorem dX6_told_80 : decode cX6_told 80 = .ok (.iload_n 1, 1) := by decide +kernel
theorem dX6_told_81 : decode cX6_told 81 = .ok (.bipush 10, 2) := by decide +kernel
theorem dX6_told_83 : decode cX6_told 83 = .ok (.idiv, 1) := by decide +kernel
theorem dX6_told_84 : decode cX6_told 84 = .ok (.iconst 1, 1) := by decide +kernel
theorem dX6_told_85 : decode cX6_told 85 = .ok (.isub, 1) := by decide +kernel
theorem dX6_told_86 : decode cX6_told 86 = .ok (.imul, 1) := by decide +kernel
theorem dX6_told_87 : decode cX6_told 87 = .ok (.iload_n 1, 1) := by decide +kernel
theorem dX6_told_88 : decode cX6_told 88 = .ok (.bipush 10, 2) := by decide +kernel
theorem dX6_told_90 : decode cX6_told 90 = .ok (.irem, 1) := by decide +kernel
theorem dX6_told_91 : decode cX6_told 91 = .ok (.iadd, 1) := by decide +kernel
theorem dX6_told_92 : decode cX6_told 92 = .ok (.iaload, 1) := by decide +kernel
theorem dX6_told_93 : decode cX6_told 93 = .ok (.goto 5, 3) := by decide +kernel
theorem dX6_told_96 : decode cX6_told 96 = .ok (.bipush (-2), 2) := by decide +kernel
theorem dX6_told_98 : decode cX6_told 98 = .ok (.ireturn, 1) := by decide +kernel
theorem dJ6_bitCount_0f7a4_0 : decode cJ6_bitCount_0f7a4 0 = .ok (.iload_n 0, 1) := by decide +kernel
theorem dJ6_bitCount_0f7a4_1 : decode cJ6_bitCount_0f7a4 1 = .ok (.iload_n 0, 1) := by decide +kernel
theorem dJ6_bitCount_0f7a4_2 : decode cJ6_bitCount_0f7a4 2 = .ok (.iconst 1, 1) := by decide +kernel
theorem dJ6_bitCount_0f7a4_3 : decode cJ6_bitCount_0f7a4 3 = .ok (.iushr, 1) := by decide +kernel
theorem dJ6_bitCount_0f7a4_4 : decode cJ6_bitCount_0f7a4 4 = .ok (.ldc_w 265, 3) := by decide +kernel
theorem dJ6_bitCount_0f7a4_7 : decode cJ6_bitCount_0f7a4 7 = .ok (.iand, 1) := by decide +kernel
theorem dJ6_bitCount_0f7a4_8 : decode cJ6_bitCount_0f7a4 8 = .ok (.isub, 1) := by decide +kernel
theorem dJ6_bitCount_0f7a4_9 : decode cJ6_bitCount_0f7a4 9 = .ok (.istore_n 0, 1) := by decide +kernel
theorem dJ6_bitCount_0f7a4_10 : decode cJ6_bitCount_0f7a4 10 = .ok (.iload_n 0, 1) := by decide +kernel
theorem dJ6_bitCount_0f7a4_11 : decode cJ6_bitCount_0f7a4 11 = .ok (.ldc_w 266, 3) := by decide +kernel
theorem dJ6_bitCount_0f7a4_14 : decode cJ6_bitCount_0f7a4 14 = .ok (.iand, 1) := by decide +kernel
theorem dJ6_bitCount_0f7a4_15 : decode cJ6_bitCount_0f7a4 15 = .ok (.iload_n 0, 1) := by decide +kernel
theorem dJ6_bitCount_0f7a4_16 : decode cJ6_bitCount_0f7a4 16 = .ok (.iconst 2, 1) := by decide +kernel
theorem dJ6_bitCount_0f7a4_17 : decode cJ6_bitCount_0f7a4 17 = .ok (.iushr, 1) := by decide +kernel
theorem dJ6_bitCount_0f7a4_18 : decode cJ6_bitCount_0f7a4 18 = .ok (.ldc_w 266, 3) := by decide +kernel
theorem dJ6_bitCount_0f7a4_21 : decode cJ6_bitCount_0f7a4 21 = .ok (.iand, 1) := by decide +kernel
theorem dJ6_bitCount_0f7a4_22 : decode cJ6_bitCount_0f7a4 22 = .ok (.iadd, 1) := by decide +kernel
theorem dJ6_bitCount_0f7a4_23 : decode cJ6_bitCount_0f7a4 23 = .ok (.istore_n 0, 1) := by decide +kernel
theorem dJ6_bitCount_0f7a4_24 : decode cJ6_bitCount_0f7a4 24 = .ok (.iload_n 0, 1) := by decide +kernel
theorem dJ6_bitCount_0f7a4_25 : decode cJ6_bitCount_0f7a4 25 = .ok (.iload_n 0, 1) := by decide +kernel
theorem dJ6_bitCount_0f7a4_26 : decode cJ6_bitCount_0f7a4 26 = .ok (.iconst 4, 1) := by decide +kernel
theorem dJ6_bitCount_0f7a4_27 : decode cJ6_bitCount_0f7a4 27 = .ok (.iushr, 1) := by decide +kernel
theorem dJ6_bitCount_0f7a4_28 : decode cJ6_bitCount_0f7a4 28 = .ok (.iadd, 1) := by decide +kernel
theorem dJ6_bitCount_0f7a4_29 : decode cJ6_bitCount_0f7a4 29 = .ok (.ldc_w 267, 3) := by decide +kernel
theorem dJ6_bitCount_0f7a4_32 : decode cJ6_bitCount_0f7a4 32 = .ok (.iand, 1) := by decide +kernel
theorem dJ6_bitCount_0f7a4_33 : decode cJ6_bitCount_0f7a4 33 = .ok (.istore_n 0, 1) := by decide +kernel
theorem dJ6_bitCount_0f7a4_34 : decode cJ6_bitCount_0f7a4 34 = .ok (.iload_n 0, 1) := by decide +kernel
theorem dJ6_bitCount_0f7a4_35 : decode cJ6_bitCount_0f7a4 35 = .ok (.iload_n 0, 1) := by decide +kernel
theorem dJ6_bitCount_0f7a4_36 : decode cJ6_bitCount_0f7a4 36 = .ok (.bipush 8, 2) := by decide +kernel
theorem dJ6_bitCount_0f7a4_38 : decode cJ6_bitCount_0f7a4 38 = .ok (.iushr, 1) := by decide +kernel
theorem dJ6_bitCount_0f7a4_39 : decode cJ6_bitCount_0f7a4 39 = .ok (.iadd, 1) := by decide +kernel
theorem dJ6_bitCount_0f7a4_40 : decode cJ6_bitCount_0f7a4 40 = .ok (.istore_n 0, 1) := by decide +kernel
theorem dJ6_bitCount_0f7a4_41 : decode cJ6_bitCount_0f7a4 41 = .ok (.iload_n 0, 1) := by decide +kernel
theorem dJ6_bitCount_0f7a4_42 : decode cJ6_bitCount_0f7a4 42 = .ok (.iload_n 0, 1) := by decide +kernel
theorem dJ6_bitCount_0f7a4_43 : decode cJ6_bitCount_0f7a4 43 = .ok (.bipush 16, 2) := by decide +kernel
theorem dJ6_bitCount_0f7a4_45 : decode cJ6_bitCount_0f7a4 45 = .ok (.iushr, 1) := by decide +kernel
theorem dJ6_bitCount_0f7a4_46 : decode cJ6_bitCount_0f7a4 46 = .ok (.iadd, 1) := by decide +kernel
theorem dJ6_bitCount_0f7a4_47 : decode cJ6_bitCount_0f7a4 47 = .ok (.istore_n 0, 1) := by decide +kernel
theorem dJ6_bitCount_0f7a4_48 : decode cJ6_bitCount_0f7a4 48 = .ok (.iload_n 0, 1) := by decide +kernel
theorem dJ6_bitCount_0f7a4_49 : decode cJ6_bitCount_0f7a4 49 = .ok (.bipush 63, 2) := by decide +kernel
theorem dJ6_bitCount_0f7a4_51 : decode cJ6_bitCount_0f7a4 51 = .ok (.iand, 1) := by decide +kernel
theorem dJ6_bitCount_0f7a4_52 : decode cJ6_bitCount_0f7a4 52 = .ok (.ireturn, 1) := by decide +kernel
theorem dL_law_0 : decode cL_law 0 = .ok (.new 7, 3) := by decide +kernel
theorem dL_law_3 : decode cL_law 3 = .ok (.dup, 1) := by decide +kernel
theorem dL_law_4 : decode cL_law 4 = .ok (.invokespecial 9, 3) := by decide +kernel
theorem dL_law_7 : decode cL_law 7 = .ok (.astore_n 1, 1) := by decide +kernel
theorem dL_law_8 : decode cL_law 8 = .ok (.new 10, 3) := by decide +kernel
theorem dL_law_11 : decode cL_law 11 = .ok (.dup, 1) := by decide +kernel
theorem dL_law_12 : decode cL_law 12 = .ok (.invokespecial 12, 3) := by decide +kernel
theorem dL_law_15 : decode cL_law 15 = .ok (.astore_n 2, 1) := by decide +kernel
theorem dL_law_16 : decode cL_law 16 = .ok (.iconst 0, 1) := by decide +kernel
theorem dL_law_17 : decode cL_law 17 = .ok (.istore_n 3, 1) := by decide +kernel
theorem dL_law_18 : decode cL_law 18 = .ok (.iload_n 3, 1) := by decide +kernel
theorem dL_law_19 : decode cL_law 19 = .ok (.aload_n 0, 1) := by decide +kernel
theorem dL_law_20 : decode cL_law 20 = .ok (.arraylength, 1) := by decide +kernel
theorem dL_law_21 : decode cL_law 21 = .ok (.iconst 5, 1) := by decide +kernel
theorem dL_law_22 : decode cL_law 22 = .ok (.isub, 1) := by decide +kernel
theorem dL_law_23 : decode cL_law 23 = .ok (.if_icmp .gt 901, 3) := by decide +kernel
theorem dL_law_26 : decode cL_law 26 = .ok (.aload_n 0, 1) := by decide +kernel
theorem dL_law_27 : decode cL_law 27 = .ok (.iload_n 3, 1) := by decide +kernel
theorem dL_law_28 : decode cL_law 28 = .ok (.iaload, 1) := by decide +kernel
theorem dL_law_29 : decode cL_law 29 = .ok (.bipush 31, 2) := by decide +kernel
theorem dL_law_31 : decode cL_law 31 = .ok (.iand, 1) := by decide +kernel
theorem dL_law_32 : decode cL_law 32 = .ok (.tableswitch 886 0 26 #[124, 147, 190, 213, 236, 249, 262, 285, 318, 351, 384, 417, 440, 483, 516, 539, 572, 605, 628, 661, 674, 697, 720, 774, 817, 840, 863], 124) := by decide +kernel
theorem dL_law_156 : decode cL_law 156 = .ok (.aload_n 1, 1) := by decide +kernel
theorem dL_law_157 : decode cL_law 157 = .ok (.aload_n 0, 1) := by decide +kernel
theorem dL_law_158 : decode cL_law 158 = .ok (.iload_n 3, 1) := by decide +kernel
theorem dL_law_159 : decode cL_law 159 = .ok (.iconst 1, 1) := by decide +kernel
theorem dL_law_160 : decode cL_law 160 = .ok (.iadd, 1) := by decide +kernel
theorem dL_law_161 : decode cL_law 161 = .ok (.iaload, 1) := by decide +kernel
theorem dL_law_162 : decode cL_law 162 = .ok (.invokevirtual 13, 3) := by decide +kernel
theorem dL_law_165 : decode cL_law 165 = .ok (.aload_n 2, 1) := by decide +kernel
theorem dL_law_166 : decode cL_law 166 = .ok (.aload_n 0, 1) := by decide +kernel
theorem dL_law_167 : decode cL_law 167 = .ok (.iload_n 3, 1) := by decide +kernel
theorem dL_law_168 : decode cL_law 168 = .ok (.iconst 1, 1) := by decide +kernel
theorem dL_law_169 : decode cL_law 169 = .ok (.iadd, 1) := by decide +kernel
theorem dL_law_170 : decode cL_law 170 = .ok (.iaload, 1) := by decide +kernel
theorem dL_law_171 : decode cL_law 171 = .ok (.invokevirtual 17, 3) := by decide +kernel
theorem dL_law_174 : decode cL_law 174 = .ok (.if_icmp .eq 744, 3) := by decide +kernel
theorem dL_law_177 : decode cL_law 177 = .ok (.iconst 0, 1) := by decide +kernel
theorem dL_law_178 : decode cL_law 178 = .ok (.ireturn, 1) := by decide +kernel
theorem dL_law_179 : decode cL_law 179 = .ok (.aload_n 1, 1) := by decide +kernel
theorem dL_law_180 : decode cL_law 180 = .ok (.aload_n 0, 1) := by decide +kernel
theorem dL_law_181 : decode cL_law 181 = .ok (.iload_n 3, 1) := by decide +kernel
theorem dL_law_182 : decode cL_law 182 = .ok (.iconst 1, 1) := by decide +kernel
theorem dL_law_183 : decode cL_law 183 = .ok (.iadd, 1) := by decide +kernel
theorem dL_law_184 : decode cL_law 184 = .ok (.iaload, 1) := by decide +kernel
theorem dL_law_185 : decode cL_law 185 = .ok (.aload_n 0, 1) := by decide +kernel
theorem dL_law_186 : decode cL_law 186 = .ok (.iload_n 3, 1) := by decide +kernel
theorem dL_law_187 : decode cL_law 187 = .ok (.iconst 2, 1) := by decide +kernel
theorem dL_law_188 : decode cL_law 188 = .ok (.iadd, 1) := by decide +kernel
theorem dL_law_189 : decode cL_law 189 = .ok (.iaload, 1) := by decide +kernel
theorem dL_law_190 : decode cL_law 190 = .ok (.aload_n 0, 1) := by decide +kernel
theorem dL_law_191 : decode cL_law 191 = .ok (.iload_n 3, 1) := by decide +kernel
theorem dL_law_192 : decode cL_law 192 = .ok (.iconst 3, 1) := by decide +kernel
theorem dL_law_193 : decode cL_law 193 = .ok (.iadd, 1) := by decide +kernel
theorem dL_law_194 : decode cL_law 194 = .ok (.iaload, 1) := by decide +kernel
theorem dL_law_195 : decode cL_law 195 = .ok (.invokevirtual 18, 3) := by decide +kernel
theorem dL_law_198 : decode cL_law 198 = .ok (.aload_n 2, 1) := by decide +kernel
theorem dL_law_199 : decode cL_law 199 = .ok (.aload_n 0, 1) := by decide +kernel
theorem dL_law_200 : decode cL_law 200 = .ok (.iload_n 3, 1) := by decide +kernel
theorem dL_law_201 : decode cL_law 201 = .ok (.iconst 1, 1) := by decide +kernel
theorem dL_law_202 : decode cL_law 202 = .ok (.iadd, 1) := by decide +kernel
theorem dL_law_203 : decode cL_law 203 = .ok (.iaload, 1) := by decide +kernel
theorem dL_law_204 : decode cL_law 204 = .ok (.aload_n 0, 1) := by decide +kernel
theorem dL_law_205 : decode cL_law 205 = .ok (.iload_n 3, 1) := by decide +kernel
theorem dL_law_206 : decode cL_law 206 = .ok (.iconst 2, 1) := by decide +kernel
theorem dL_law_207 : decode cL_law 207 = .ok (.iadd, 1) := by decide +kernel
theorem dL_law_208 : decode cL_law 208 = .ok (.iaload, 1) := by decide +kernel
theorem dL_law_209 : decode cL_law 209 = .ok (.aload_n 0, 1) := by decide +kernel
theorem dL_law_210 : decode cL_law 210 = .ok (.iload_n 3, 1) := by decide +kernel
theorem dL_law_211 : decode cL_law 211 = .ok (.iconst 3, 1) := by decide +kernel
theorem dL_law_212 : decode cL_law 212 = .ok (.iadd, 1) := by decide +kernel
theorem dL_law_213 : decode cL_law 213 = .ok (.iaload, 1) := by decide +kernel
theorem dL_law_214 : decode cL_law 214 = .ok (.invokevirtual 22, 3) := by decide +kernel
theorem dL_law_217 : decode cL_law 217 = .ok (.if_icmp .eq 701, 3) := by decide +kernel
theorem dL_law_220 : decode cL_law 220 = .ok (.iconst 0, 1) := by decide +kernel
theorem dL_law_221 : decode cL_law 221 = .ok (.ireturn, 1) := by decide +kernel
theorem dL_law_222 : decode cL_law 222 = .ok (.aload_n 1, 1) := by decide +kernel
theorem dL_law_223 : decode cL_law 223 = .ok (.aload_n 0, 1) := by decide +kernel
theorem dL_law_224 : decode cL_law 224 = .ok (.iload_n 3, 1) := by decide +kernel
theorem dL_law_225 : decode cL_law 225 = .ok (.iconst 1, 1) := by decide +kernel
theorem dL_law_226 : decode cL_law 226 = .ok (.iadd, 1) := by decide +kernel
theorem dL_law_227 : decode cL_law 227 = .ok (.iaload, 1) := by decide +kernel
theorem dL_law_228 : decode cL_law 228 = .ok (.invokevirtual 23, 3) := by decide +kernel
theorem dL_law_231 : decode cL_law 231 = .ok (.aload_n 2, 1) := by decide +kernel
theorem dL_law_232 : decode cL_law 232 = .ok (.aload_n 0, 1) := by decide +kernel
theorem dL_law_233 : decode cL_law 233 = .ok (.iload_n 3, 1) := by decide +kernel
theorem dL_law_234 : decode cL_law 234 = .ok (.iconst 1, 1) := by decide +kernel
theorem dL_law_235 : decode cL_law 235 = .ok (.iadd, 1) := by decide +kernel
theorem dL_law_236 : decode cL_law 236 = .ok (.iaload, 1) := by decide +kernel
theorem dL_law_237 : decode cL_law 237 = .ok (.invokevirtual 26, 3) := by decide +kernel
theorem dL_law_240 : decode cL_law 240 = .ok (.if_icmp .eq 678, 3) := by decide +kernel
theorem dL_law_243 : decode cL_law 243 = .ok (.iconst 0, 1) := by decide +kernel
theorem dL_law_244 : decode cL_law 244 = .ok (.ireturn, 1) := by decide +kernel
theorem dL_law_245 : decode cL_law 245 = .ok (.aload_n 1, 1) := by decide +kernel
theorem dL_law_246 : decode cL_law 246 = .ok (.aload_n 0, 1) := by decide +kernel
theorem dL_law_247 : decode cL_law 247 = .ok (.iload_n 3, 1) := by decide +kernel
theorem dL_law_248 : decode cL_law 248 = .ok (.iconst 1, 1) := by decide +kernel
theorem dL_law_249 : decode cL_law 249 = .ok (.iadd, 1) := by decide +kernel
theorem dL_law_250 : decode cL_law 250 = .ok (.iaload, 1) := by decide +kernel
theorem dL_law_251 : decode cL_law 251 = .ok (.invokevirtual 27, 3) := by decide +kernel
theorem dL_law_254 : decode cL_law 254 = .ok (.aload_n 2, 1) := by decide +kernel
theorem dL_law_255 : decode cL_law 255 = .ok (.aload_n 0, 1) := by decide +kernel
theorem dL_law_256 : decode cL_law 256 = .ok (.iload_n 3, 1) := by decide +kernel
theorem dL_law_257 : decode cL_law 257 = .ok (.iconst 1, 1) := by decide +kernel
theorem dL_law_258 : decode cL_law 258 = .ok (.iadd, 1) := by decide +kernel
theorem dL_law_259 : decode cL_law 259 = .ok (.iaload, 1) := by decide +kernel
theorem dL_law_260 : decode cL_law 260 = .ok (.invokevirtual 30, 3) := by decide +kernel
theorem dL_law_263 : decode cL_law 263 = .ok (.if_icmp .eq 655, 3) := by decide +kernel
theorem dL_law_266 : decode cL_law 266 = .ok (.iconst 0, 1) := by decide +kernel
theorem dL_law_267 : decode cL_law 267 = .ok (.ireturn, 1) := by decide +kernel
theorem dL_law_268 : decode cL_law 268 = .ok (.aload_n 1, 1) := by decide +kernel
theorem dL_law_269 : decode cL_law 269 = .ok (.invokevirtual 31, 3) := by decide +kernel
theorem dL_law_272 : decode cL_law 272 = .ok (.aload_n 2, 1) := by decide +kernel
theorem dL_law_273 : decode cL_law 273 = .ok (.invokevirtual 35, 3) := by decide +kernel
theorem dL_law_276 : decode cL_law 276 = .ok (.if_icmp .eq 642, 3) := by decide +kernel
theorem dL_law_279 : decode cL_law 279 = .ok (.iconst 0, 1) := by decide +kernel
theorem dL_law_280 : decode cL_law 280 = .ok (.ireturn, 1) := by decide +kernel
theorem dL_law_281 : decode cL_law 281 = .ok (.aload_n 1, 1) := by decide +kernel
theorem dL_law_282 : decode cL_law 282 = .ok (.invokevirtual 36, 3) := by decide +kernel
theorem dL_law_285 : decode cL_law 285 = .ok (.aload_n 2, 1) := by decide +kernel
theorem dL_law_286 : decode cL_law 286 = .ok (.invokevirtual 39, 3) := by decide +kernel
theorem dL_law_289 : decode cL_law 289 = .ok (.if_icmp .eq 629, 3) := by decide +kernel
theorem dL_law_292 : decode cL_law 292 = .ok (.iconst 0, 1) := by decide +kernel
theorem dL_law_293 : decode cL_law 293 = .ok (.ireturn, 1) := by decide +kernel
theorem dL_law_294 : decode cL_law 294 = .ok (.aload_n 1, 1) := by decide +kernel
theorem dL_law_295 : decode cL_law 295 = .ok (.aload_n 0, 1) := by decide +kernel
theorem dL_law_296 : decode cL_law 296 = .ok (.iload_n 3, 1) := by decide +kernel
theorem dL_law_297 : decode cL_law 297 = .ok (.iconst 1, 1) := by decide +kernel
theorem dL_law_298 : decode cL_law 298 = .ok (.iadd, 1) := by decide +kernel
theorem dL_law_299 : decode cL_law 299 = .ok (.iaload, 1) := by decide +kernel
theorem dL_law_300 : decode cL_law 300 = .ok (.invokevirtual 40, 3) := by decide +kernel
theorem dL_law_303 : decode cL_law 303 = .ok (.aload_n 2, 1) := by decide +kernel
theorem dL_law_304 : decode cL_law 304 = .ok (.aload_n 0, 1) := by decide +kernel
theorem dL_law_305 : decode cL_law 305 = .ok (.iload_n 3, 1) := by decide +kernel
theorem dL_law_306 : decode cL_law 306 = .ok (.iconst 1, 1) := by decide +kernel
theorem dL_law_307 : decode cL_law 307 = .ok (.iadd, 1) := by decide +kernel
theorem dL_law_308 : decode cL_law 308 = .ok (.iaload, 1) := by decide +kernel
theorem dL_law_309 : decode cL_law 309 = .ok (.invokevirtual 43, 3) := by decide +kernel
theorem dL_law_312 : decode cL_law 312 = .ok (.if_icmp .eq 606, 3) := by decide +kernel
theorem dL_law_315 : decode cL_law 315 = .ok (.iconst 0, 1) := by decide +kernel
theorem dL_law_316 : decode cL_law 316 = .ok (.ireturn, 1) := by decide +kernel
theorem dL_law_317 : decode cL_law 317 = .ok (.aload_n 1, 1) := by decide +kernel
theorem dL_law_318 : decode cL_law 318 = .ok (.aload_n 0, 1) := by decide +kernel
theorem dL_law_319 : decode cL_law 319 = .ok (.iload_n 3, 1) := by decide +kernel
theorem dL_law_320 : decode cL_law 320 = .ok (.iconst 1, 1) := by decide +kernel
theorem dL_law_321 : decode cL_law 321 = .ok (.iadd, 1) := by decide +kernel
theorem dL_law_322 : decode cL_law 322 = .ok (.iaload, 1) := by decide +kernel
theorem dL_law_323 : decode cL_law 323 = .ok (.aload_n 0, 1) := by decide +kernel
theorem dL_law_324 : decode cL_law 324 = .ok (.iload_n 3, 1) := by decide +kernel
theorem dL_law_325 : decode cL_law 325 = .ok (.iconst 2, 1) := by decide +kernel
theorem dL_law_326 : decode cL_law 326 = .ok (.iadd, 1) := by decide +kernel
theorem dL_law_327 : decode cL_law 327 = .ok (.iaload, 1) := by decide +kernel
theorem dL_law_328 : decode cL_law 328 = .ok (.invokevirtual 44, 3) := by decide +kernel
theorem dL_law_331 : decode cL_law 331 = .ok (.aload_n 2, 1) := by decide +kernel
theorem dL_law_332 : decode cL_law 332 = .ok (.aload_n 0, 1) := by decide +kernel
theorem dL_law_333 : decode cL_law 333 = .ok (.iload_n 3, 1) := by decide +kernel
theorem dL_law_334 : decode cL_law 334 = .ok (.iconst 1, 1) := by decide +kernel
theorem dL_law_335 : decode cL_law 335 = .ok (.iadd, 1) := by decide +kernel
theorem dL_law_336 : decode cL_law 336 = .ok (.iaload, 1) := by decide +kernel
theorem dL_law_337 : decode cL_law 337 = .ok (.aload_n 0, 1) := by decide +kernel
theorem dL_law_338 : decode cL_law 338 = .ok (.iload_n 3, 1) := by decide +kernel
theorem dL_law_339 : decode cL_law 339 = .ok (.iconst 2, 1) := by decide +kernel
theorem dL_law_340 : decode cL_law 340 = .ok (.iadd, 1) := by decide +kernel
theorem dL_law_341 : decode cL_law 341 = .ok (.iaload, 1) := by decide +kernel
theorem dL_law_342 : decode cL_law 342 = .ok (.invokevirtual 48, 3) := by decide +kernel
theorem dL_law_345 : decode cL_law 345 = .ok (.if_icmp .eq 573, 3) := by decide +kernel
theorem dL_law_348 : decode cL_law 348 = .ok (.iconst 0, 1) := by decide +kernel
theorem dL_law_349 : decode cL_law 349 = .ok (.ireturn, 1) := by decide +kernel
theorem dL_law_350 : decode cL_law 350 = .ok (.aload_n 1, 1) := by decide +kernel
theorem dL_law_351 : decode cL_law 351 = .ok (.aload_n 0, 1) := by decide +kernel
theorem dL_law_352 : decode cL_law 352 = .ok (.iload_n 3, 1) := by decide +kernel
theorem dL_law_353 : decode cL_law 353 = .ok (.iconst 1, 1) := by decide +kernel
theorem dL_law_354 : decode cL_law 354 = .ok (.iadd, 1) := by decide +kernel
theorem dL_law_355 : decode cL_law 355 = .ok (.iaload, 1) := by decide +kernel
theorem dL_law_356 : decode cL_law 356 = .ok (.aload_n 0, 1) := by decide +kernel
theorem dL_law_357 : decode cL_law 357 = .ok (.iload_n 3, 1) := by decide +kernel
theorem dL_law_358 : decode cL_law 358 = .ok (.iconst 2, 1) := by decide +kernel
theorem dL_law_359 : decode cL_law 359 = .ok (.iadd, 1) := by decide +kernel
theorem dL_law_360 : decode cL_law 360 = .ok (.iaload, 1) := by decide +kernel
theorem dL_law_361 : decode cL_law 361 = .ok (.invokevirtual 49, 3) := by decide +kernel
theorem dL_law_364 : decode cL_law 364 = .ok (.aload_n 2, 1) := by decide +kernel
theorem dL_law_365 : decode cL_law 365 = .ok (.aload_n 0, 1) := by decide +kernel
theorem dL_law_366 : decode cL_law 366 = .ok (.iload_n 3, 1) := by decide +kernel
theorem dL_law_367 : decode cL_law 367 = .ok (.iconst 1, 1) := by decide +kernel
theorem dL_law_368 : decode cL_law 368 = .ok (.iadd, 1) := by decide +kernel
theorem dL_law_369 : decode cL_law 369 = .ok (.iaload, 1) := by decide +kernel
theorem dL_law_370 : decode cL_law 370 = .ok (.aload_n 0, 1) := by decide +kernel
theorem dL_law_371 : decode cL_law 371 = .ok (.iload_n 3, 1) := by decide +kernel
theorem dL_law_372 : decode cL_law 372 = .ok (.iconst 2, 1) := by decide +kernel
theorem dL_law_373 : decode cL_law 373 = .ok (.iadd, 1) := by decide +kernel
theorem dL_law_374 : decode cL_law 374 = .ok (.iaload, 1) := by decide +kernel
theorem dL_law_375 : decode cL_law 375 = .ok (.invokevirtual 52, 3) := by decide +kernel
theorem dL_law_378 : decode cL_law 378 = .ok (.if_icmp .eq 540, 3) := by decide +kernel
theorem dL_law_381 : decode cL_law 381 = .ok (.iconst 0, 1) := by decide +kernel
theorem dL_law_382 : decode cL_law 382 = .ok (.ireturn, 1) := by decide +kernel
theorem dL_law_383 : decode cL_law 383 = .ok (.aload_n 1, 1) := by decide +kernel
theorem dL_law_384 : decode cL_law 384 = .ok (.aload_n 0, 1) := by decide +kernel
theorem dL_law_385 : decode cL_law 385 = .ok (.iload_n 3, 1) := by decide +kernel
theorem dL_law_386 : decode cL_law 386 = .ok (.iconst 1, 1) := by decide +kernel
theorem dL_law_387 : decode cL_law 387 = .ok (.iadd, 1) := by decide +kernel
theorem dL_law_388 : decode cL_law 388 = .ok (.iaload, 1) := by decide +kernel
theorem dL_law_389 : decode cL_law 389 = .ok (.aload_n 0, 1) := by decide +kernel
theorem dL_law_390 : decode cL_law 390 = .ok (.iload_n 3, 1) := by decide +kernel
theorem dL_law_391 : decode cL_law 391 = .ok (.iconst 2, 1) := by decide +kernel
theorem dL_law_392 : decode cL_law 392 = .ok (.iadd, 1) := by decide +kernel
theorem dL_law_393 : decode cL_law 393 = .ok (.iaload, 1) := by decide +kernel
theorem dL_law_394 : decode cL_law 394 = .ok (.invokevirtual 53, 3) := by decide +kernel
theorem dL_law_397 : decode cL_law 397 = .ok (.aload_n 2, 1) := by decide +kernel
theorem dL_law_398 : decode cL_law 398 = .ok (.aload_n 0, 1) := by decide +kernel
theorem dL_law_399 : decode cL_law 399 = .ok (.iload_n 3, 1) := by decide +kernel
theorem dL_law_400 : decode cL_law 400 = .ok (.iconst 1, 1) := by decide +kernel
theorem dL_law_401 : decode cL_law 401 = .ok (.iadd, 1) := by decide +kernel
theorem dL_law_402 : decode cL_law 402 = .ok (.iaload, 1) := by decide +kernel
theorem dL_law_403 : decode cL_law 403 = .ok (.aload_n 0, 1) := by decide +kernel
theorem dL_law_404 : decode cL_law 404 = .ok (.iload_n 3, 1) := by decide +kernel
theorem dL_law_405 : decode cL_law 405 = .ok (.iconst 2, 1) := by decide +kernel
theorem dL_law_406 : decode cL_law 406 = .ok (.iadd, 1) := by decide +kernel
theorem dL_law_407 : decode cL_law 407 = .ok (.iaload, 1) := by decide +kernel
theorem dL_law_408 : decode cL_law 408 = .ok (.invokevirtual 56, 3) := by decide +kernel
theorem dL_law_411 : decode cL_law 411 = .ok (.if_icmp .eq 507, 3) := by decide +kernel
theorem dL_law_414 : decode cL_law 414 = .ok (.iconst 0, 1) := by decide +kernel
theorem dL_law_415 : decode cL_law 415 = .ok (.ireturn, 1) := by decide +kernel
theorem dL_law_416 : decode cL_law 416 = .ok (.aload_n 1, 1) := by decide +kernel
theorem dL_law_417 : decode cL_law 417 = .ok (.aload_n 0, 1) := by decide +kernel
theorem dL_law_418 : decode cL_law 418 = .ok (.iload_n 3, 1) := by decide +kernel
theorem dL_law_419 : decode cL_law 419 = .ok (.iconst 1, 1) := by decide +kernel
theorem dL_law_420 : decode cL_law 420 = .ok (.iadd, 1) := by decide +kernel
theorem dL_law_421 : decode cL_law 421 = .ok (.iaload, 1) := by decide +kernel
theorem dL_law_422 : decode cL_law 422 = .ok (.aload_n 0, 1) := by decide +kernel
theorem dL_law_423 : decode cL_law 423 = .ok (.iload_n 3, 1) := by decide +kernel
theorem dL_law_424 : decode cL_law 424 = .ok (.iconst 2, 1) := by decide +kernel
theorem dL_law_425 : decode cL_law 425 = .ok (.iadd, 1) := by decide +kernel
theorem dL_law_426 : decode cL_law 426 = .ok (.iaload, 1) := by decide +kernel
theorem dL_law_427 : decode cL_law 427 = .ok (.invokevirtual 57, 3) := by decide +kernel
theorem dL_law_430 : decode cL_law 430 = .ok (.aload_n 2, 1) := by decide +kernel
theorem dL_law_431 : decode cL_law 431 = .ok (.aload_n 0, 1) := by decide +kernel
theorem dL_law_432 : decode cL_law 432 = .ok (.iload_n 3, 1) := by decide +kernel
theorem dL_law_433 : decode cL_law 433 = .ok (.iconst 1, 1) := by decide +kernel
theorem dL_law_434 : decode cL_law 434 = .ok (.iadd, 1) := by decide +kernel
theorem dL_law_435 : decode cL_law 435 = .ok (.iaload, 1) := by decide +kernel
theorem dL_law_436 : decode cL_law 436 = .ok (.aload_n 0, 1) := by decide +kernel
theorem dL_law_437 : decode cL_law 437 = .ok (.iload_n 3, 1) := by decide +kernel
theorem dL_law_438 : decode cL_law 438 = .ok (.iconst 2, 1) := by decide +kernel
theorem dL_law_439 : decode cL_law 439 = .ok (.iadd, 1) := by decide +kernel
theorem dL_law_440 : decode cL_law 440 = .ok (.iaload, 1) := by decide +kernel
theorem dL_law_441 : decode cL_law 441 = .ok (.invokevirtual 60, 3) := by decide +kernel
theorem dL_law_444 : decode cL_law 444 = .ok (.if_icmp .eq 474, 3) := by decide +kernel
theorem dL_law_447 : decode cL_law 447 = .ok (.iconst 0, 1) := by decide +kernel
theorem dL_law_448 : decode cL_law 448 = .ok (.ireturn, 1) := by decide +kernel
theorem dL_law_449 : decode cL_law 449 = .ok (.aload_n 1, 1) := by decide +kernel
theorem dL_law_450 : decode cL_law 450 = .ok (.aload_n 0, 1) := by decide +kernel
theorem dL_law_451 : decode cL_law 451 = .ok (.iload_n 3, 1) := by decide +kernel
theorem dL_law_452 : decode cL_law 452 = .ok (.iconst 1, 1) := by decide +kernel
theorem dL_law_453 : decode cL_law 453 = .ok (.iadd, 1) := by decide +kernel
theorem dL_law_454 : decode cL_law 454 = .ok (.iaload, 1) := by decide +kernel
theorem dL_law_455 : decode cL_law 455 = .ok (.invokevirtual 61, 3) := by decide +kernel
theorem dL_law_458 : decode cL_law 458 = .ok (.aload_n 2, 1) := by decide +kernel
theorem dL_law_459 : decode cL_law 459 = .ok (.aload_n 0, 1) := by decide +kernel
theorem dL_law_460 : decode cL_law 460 = .ok (.iload_n 3, 1) := by decide +kernel
theorem dL_law_461 : decode cL_law 461 = .ok (.iconst 1, 1) := by decide +kernel
theorem dL_law_462 : decode cL_law 462 = .ok (.iadd, 1) := by decide +kernel
theorem dL_law_463 : decode cL_law 463 = .ok (.iaload, 1) := by decide +kernel
theorem dL_law_464 : decode cL_law 464 = .ok (.invokevirtual 64, 3) := by decide +kernel
theorem dL_law_467 : decode cL_law 467 = .ok (.if_icmp .eq 451, 3) := by decide +kernel
theorem dL_law_470 : decode cL_law 470 = .ok (.iconst 0, 1) := by decide +kernel
theorem dL_law_471 : decode cL_law 471 = .ok (.ireturn, 1) := by decide +kernel
theorem dL_law_472 : decode cL_law 472 = .ok (.aload_n 1, 1) := by decide +kernel
theorem dL_law_473 : decode cL_law 473 = .ok (.aload_n 0, 1) := by decide +kernel
theorem dL_law_474 : decode cL_law 474 = .ok (.iload_n 3, 1) := by decide +kernel
theorem dL_law_475 : decode cL_law 475 = .ok (.iconst 1, 1) := by decide +kernel
theorem dL_law_476 : decode cL_law 476 = .ok (.iadd, 1) := by decide +kernel
theorem dL_law_477 : decode cL_law 477 = .ok (.iaload, 1) := by decide +kernel
theorem dL_law_478 : decode cL_law 478 = .ok (.aload_n 0, 1) := by decide +kernel
theorem dL_law_479 : decode cL_law 479 = .ok (.iload_n 3, 1) := by decide +kernel
theorem dL_law_480 : decode cL_law 480 = .ok (.iconst 2, 1) := by decide +kernel
theorem dL_law_481 : decode cL_law 481 = .ok (.iadd, 1) := by decide +kernel
theorem dL_law_482 : decode cL_law 482 = .ok (.iaload, 1) := by decide +kernel
theorem dL_law_483 : decode cL_law 483 = .ok (.aload_n 0, 1) := by decide +kernel
theorem dL_law_484 : decode cL_law 484 = .ok (.iload_n 3, 1) := by decide +kernel
theorem dL_law_485 : decode cL_law 485 = .ok (.iconst 3, 1) := by decide +kernel
theorem dL_law_486 : decode cL_law 486 = .ok (.iadd, 1) := by decide +kernel
theorem dL_law_487 : decode cL_law 487 = .ok (.iaload, 1) := by decide +kernel
theorem dL_law_488 : decode cL_law 488 = .ok (.invokevirtual 65, 3) := by decide +kernel
theorem dL_law_491 : decode cL_law 491 = .ok (.aload_n 2, 1) := by decide +kernel
theorem dL_law_492 : decode cL_law 492 = .ok (.aload_n 0, 1) := by decide +kernel
theorem dL_law_493 : decode cL_law 493 = .ok (.iload_n 3, 1) := by decide +kernel
theorem dL_law_494 : decode cL_law 494 = .ok (.iconst 1, 1) := by decide +kernel
theorem dL_law_495 : decode cL_law 495 = .ok (.iadd, 1) := by decide +kernel
theorem dL_law_496 : decode cL_law 496 = .ok (.iaload, 1) := by decide +kernel
theorem dL_law_497 : decode cL_law 497 = .ok (.aload_n 0, 1) := by decide +kernel
theorem dL_law_498 : decode cL_law 498 = .ok (.iload_n 3, 1) := by decide +kernel
theorem dL_law_499 : decode cL_law 499 = .ok (.iconst 2, 1) := by decide +kernel
theorem dL_law_500 : decode cL_law 500 = .ok (.iadd, 1) := by decide +kernel
theorem dL_law_501 : decode cL_law 501 = .ok (.iaload, 1) := by decide +kernel
theorem dL_law_502 : decode cL_law 502 = .ok (.aload_n 0, 1) := by decide +kernel
theorem dL_law_503 : decode cL_law 503 = .ok (.iload_n 3, 1) := by decide +kernel
theorem dL_law_504 : decode cL_law 504 = .ok (.iconst 3, 1) := by decide +kernel
theorem dL_law_505 : decode cL_law 505 = .ok (.iadd, 1) := by decide +kernel
theorem dL_law_506 : decode cL_law 506 = .ok (.iaload, 1) := by decide +kernel
theorem dL_law_507 : decode cL_law 507 = .ok (.invokevirtual 68, 3) := by decide +kernel
theorem dL_law_510 : decode cL_law 510 = .ok (.if_icmp .eq 408, 3) := by decide +kernel
theorem dL_law_513 : decode cL_law 513 = .ok (.iconst 0, 1) := by decide +kernel
theorem dL_law_514 : decode cL_law 514 = .ok (.ireturn, 1) := by decide +kernel
theorem dL_law_515 : decode cL_law 515 = .ok (.aload_n 1, 1) := by decide +kernel
theorem dL_law_516 : decode cL_law 516 = .ok (.aload_n 0, 1) := by decide +kernel
theorem dL_law_517 : decode cL_law 517 = .ok (.iload_n 3, 1) := by decide +kernel
theorem dL_law_518 : decode cL_law 518 = .ok (.iconst 1, 1) := by decide +kernel
theorem dL_law_519 : decode cL_law 519 = .ok (.iadd, 1) := by decide +kernel
theorem dL_law_520 : decode cL_law 520 = .ok (.iaload, 1) := by decide +kernel
theorem dL_law_521 : decode cL_law 521 = .ok (.aload_n 0, 1) := by decide +kernel
theorem dL_law_522 : decode cL_law 522 = .ok (.iload_n 3, 1) := by decide +kernel
theorem dL_law_523 : decode cL_law 523 = .ok (.iconst 2, 1) := by decide +kernel
theorem dL_law_524 : decode cL_law 524 = .ok (.iadd, 1) := by decide +kernel
theorem dL_law_525 : decode cL_law 525 = .ok (.iaload, 1) := by decide +kernel
theorem dL_law_526 : decode cL_law 526 = .ok (.invokevirtual 69, 3) := by decide +kernel
theorem dL_law_529 : decode cL_law 529 = .ok (.aload_n 2, 1) := by decide +kernel
theorem dL_law_530 : decode cL_law 530 = .ok (.aload_n 0, 1) := by decide +kernel
theorem dL_law_531 : decode cL_law 531 = .ok (.iload_n 3, 1) := by decide +kernel
theorem dL_law_532 : decode cL_law 532 = .ok (.iconst 1, 1) := by decide +kernel
theorem dL_law_533 : decode cL_law 533 = .ok (.iadd, 1) := by decide +kernel
theorem dL_law_534 : decode cL_law 534 = .ok (.iaload, 1) := by decide +kernel
theorem dL_law_535 : decode cL_law 535 = .ok (.aload_n 0, 1) := by decide +kernel
theorem dL_law_536 : decode cL_law 536 = .ok (.iload_n 3, 1) := by decide +kernel
theorem dL_law_537 : decode cL_law 537 = .ok (.iconst 2, 1) := by decide +kernel
theorem dL_law_538 : decode cL_law 538 = .ok (.iadd, 1) := by decide +kernel
theorem dL_law_539 : decode cL_law 539 = .ok (.iaload, 1) := by decide +kernel
theorem dL_law_540 : decode cL_law 540 = .ok (.invokevirtual 72, 3) := by decide +kernel
theorem dL_law_543 : decode cL_law 543 = .ok (.if_icmp .eq 375, 3) := by decide +kernel
theorem dL_law_546 : decode cL_law 546 = .ok (.iconst 0, 1) := by decide +kernel
theorem dL_law_547 : decode cL_law 547 = .ok (.ireturn, 1) := by decide +kernel
theorem dL_law_548 : decode cL_law 548 = .ok (.aload_n 1, 1) := by decide +kernel
theorem dL_law_549 : decode cL_law 549 = .ok (.aload_n 0, 1) := by decide +kernel
theorem dL_law_550 : decode cL_law 550 = .ok (.iload_n 3, 1) := by decide +kernel
theorem dL_law_551 : decode cL_law 551 = .ok (.iconst 1, 1) := by decide +kernel
theorem dL_law_552 : decode cL_law 552 = .ok (.iadd, 1) := by decide +kernel
theorem dL_law_553 : decode cL_law 553 = .ok (.iaload, 1) := by decide +kernel
theorem dL_law_554 : decode cL_law 554 = .ok (.invokevirtual 73, 3) := by decide +kernel
theorem dL_law_557 : decode cL_law 557 = .ok (.aload_n 2, 1) := by decide +kernel
theorem dL_law_558 : decode cL_law 558 = .ok (.aload_n 0, 1) := by decide +kernel
theorem dL_law_559 : decode cL_law 559 = .ok (.iload_n 3, 1) := by decide +kernel
theorem dL_law_560 : decode cL_law 560 = .ok (.iconst 1, 1) := by decide +kernel
theorem dL_law_561 : decode cL_law 561 = .ok (.iadd, 1) := by decide +kernel
theorem dL_law_562 : decode cL_law 562 = .ok (.iaload, 1) := by decide +kernel
theorem dL_law_563 : decode cL_law 563 = .ok (.invokevirtual 76, 3) := by decide +kernel
theorem dL_law_566 : decode cL_law 566 = .ok (.if_icmp .eq 352, 3) := by decide +kernel
theorem dL_law_569 : decode cL_law 569 = .ok (.iconst 0, 1) := by decide +kernel
theorem dL_law_570 : decode cL_law 570 = .ok (.ireturn, 1) := by decide +kernel
theorem dL_law_571 : decode cL_law 571 = .ok (.aload_n 1, 1) := by decide +kernel
theorem dL_law_572 : decode cL_law 572 = .ok (.aload_n 0, 1) := by decide +kernel
theorem dL_law_573 : decode cL_law 573 = .ok (.iload_n 3, 1) := by decide +kernel
theorem dL_law_574 : decode cL_law 574 = .ok (.iconst 1, 1) := by decide +kernel
theorem dL_law_575 : decode cL_law 575 = .ok (.iadd, 1) := by decide +kernel
theorem dL_law_576 : decode cL_law 576 = .ok (.iaload, 1) := by decide +kernel
theorem dL_law_577 : decode cL_law 577 = .ok (.aload_n 0, 1) := by decide +kernel
theorem dL_law_578 : decode cL_law 578 = .ok (.iload_n 3, 1) := by decide +kernel
theorem dL_law_579 : decode cL_law 579 = .ok (.iconst 2, 1) := by decide +kernel
theorem dL_law_580 : decode cL_law 580 = .ok (.iadd, 1) := by decide +kernel
theorem dL_law_581 : decode cL_law 581 = .ok (.iaload, 1) := by decide +kernel
theorem dL_law_582 : decode cL_law 582 = .ok (.invokevirtual 77, 3) := by decide +kernel
theorem dL_law_585 : decode cL_law 585 = .ok (.aload_n 2, 1) := by decide +kernel
theorem dL_law_586 : decode cL_law 586 = .ok (.aload_n 0, 1) := by decide +kernel
theorem dL_law_587 : decode cL_law 587 = .ok (.iload_n 3, 1) := by decide +kernel
theorem dL_law_588 : decode cL_law 588 = .ok (.iconst 1, 1) := by decide +kernel
theorem dL_law_589 : decode cL_law 589 = .ok (.iadd, 1) := by decide +kernel
theorem dL_law_590 : decode cL_law 590 = .ok (.iaload, 1) := by decide +kernel
theorem dL_law_591 : decode cL_law 591 = .ok (.aload_n 0, 1) := by decide +kernel
theorem dL_law_592 : decode cL_law 592 = .ok (.iload_n 3, 1) := by decide +kernel
theorem dL_law_593 : decode cL_law 593 = .ok (.iconst 2, 1) := by decide +kernel
theorem dL_law_594 : decode cL_law 594 = .ok (.iadd, 1) := by decide +kernel
theorem dL_law_595 : decode cL_law 595 = .ok (.iaload, 1) := by decide +kernel
theorem dL_law_596 : decode cL_law 596 = .ok (.invokevirtual 80, 3) := by decide +kernel
theorem dL_law_599 : decode cL_law 599 = .ok (.if_icmp .eq 319, 3) := by decide +kernel
theorem dL_law_602 : decode cL_law 602 = .ok (.iconst 0, 1) := by decide +kernel
theorem dL_law_603 : decode cL_law 603 = .ok (.ireturn, 1) := by decide +kernel
theorem dL_law_604 : decode cL_law 604 = .ok (.aload_n 1, 1) := by decide +kernel
theorem dL_law_605 : decode cL_law 605 = .ok (.aload_n 0, 1) := by decide +kernel
theorem dL_law_606 : decode cL_law 606 = .ok (.iload_n 3, 1) := by decide +kernel
theorem dL_law_607 : decode cL_law 607 = .ok (.iconst 1, 1) := by decide +kernel
theorem dL_law_608 : decode cL_law 608 = .ok (.iadd, 1) := by decide +kernel
theorem dL_law_609 : decode cL_law 609 = .ok (.iaload, 1) := by decide +kernel
theorem dL_law_610 : decode cL_law 610 = .ok (.aload_n 0, 1) := by decide +kernel
theorem dL_law_611 : decode cL_law 611 = .ok (.iload_n 3, 1) := by decide +kernel
theorem dL_law_612 : decode cL_law 612 = .ok (.iconst 2, 1) := by decide +kernel
theorem dL_law_613 : decode cL_law 613 = .ok (.iadd, 1) := by decide +kernel
theorem dL_law_614 : decode cL_law 614 = .ok (.iaload, 1) := by decide +kernel
theorem dL_law_615 : decode cL_law 615 = .ok (.invokevirtual 81, 3) := by decide +kernel
theorem dL_law_618 : decode cL_law 618 = .ok (.aload_n 2, 1) := by decide +kernel
theorem dL_law_619 : decode cL_law 619 = .ok (.aload_n 0, 1) := by decide +kernel
theorem dL_law_620 : decode cL_law 620 = .ok (.iload_n 3, 1) := by decide +kernel
theorem dL_law_621 : decode cL_law 621 = .ok (.iconst 1, 1) := by decide +kernel
theorem dL_law_622 : decode cL_law 622 = .ok (.iadd, 1) := by decide +kernel
theorem dL_law_623 : decode cL_law 623 = .ok (.iaload, 1) := by decide +kernel
theorem dL_law_624 : decode cL_law 624 = .ok (.aload_n 0, 1) := by decide +kernel
theorem dL_law_625 : decode cL_law 625 = .ok (.iload_n 3, 1) := by decide +kernel
theorem dL_law_626 : decode cL_law 626 = .ok (.iconst 2, 1) := by decide +kernel
theorem dL_law_627 : decode cL_law 627 = .ok (.iadd, 1) := by decide +kernel
theorem dL_law_628 : decode cL_law 628 = .ok (.iaload, 1) := by decide +kernel
theorem dL_law_629 : decode cL_law 629 = .ok (.invokevirtual 84, 3) := by decide +kernel
theorem dL_law_632 : decode cL_law 632 = .ok (.if_icmp .eq 286, 3) := by decide +kernel
theorem dL_law_635 : decode cL_law 635 = .ok (.iconst 0, 1) := by decide +kernel
theorem dL_law_636 : decode cL_law 636 = .ok (.ireturn, 1) := by decide +kernel
theorem dL_law_637 : decode cL_law 637 = .ok (.aload_n 1, 1) := by decide +kernel
theorem dL_law_638 : decode cL_law 638 = .ok (.aload_n 0, 1) := by decide +kernel
theorem dL_law_639 : decode cL_law 639 = .ok (.iload_n 3, 1) := by decide +kernel
theorem dL_law_640 : decode cL_law 640 = .ok (.iconst 1, 1) := by decide +kernel
theorem dL_law_641 : decode cL_law 641 = .ok (.iadd, 1) := by decide +kernel
theorem dL_law_642 : decode cL_law 642 = .ok (.iaload, 1) := by decide +kernel
theorem dL_law_643 : decode cL_law 643 = .ok (.invokevirtual 85, 3) := by decide +kernel
theorem dL_law_646 : decode cL_law 646 = .ok (.aload_n 2, 1) := by decide +kernel
theorem dL_law_647 : decode cL_law 647 = .ok (.aload_n 0, 1) := by decide +kernel
theorem dL_law_648 : decode cL_law 648 = .ok (.iload_n 3, 1) := by decide +kernel
theorem dL_law_649 : decode cL_law 649 = .ok (.iconst 1, 1) := by decide +kernel
theorem dL_law_650 : decode cL_law 650 = .ok (.iadd, 1) := by decide +kernel
theorem dL_law_651 : decode cL_law 651 = .ok (.iaload, 1) := by decide +kernel
theorem dL_law_652 : decode cL_law 652 = .ok (.invokevirtual 88, 3) := by decide +kernel
theorem dL_law_655 : decode cL_law 655 = .ok (.if_icmp .eq 263, 3) := by decide +kernel
theorem dL_law_658 : decode cL_law 658 = .ok (.iconst 0, 1) := by decide +kernel
theorem dL_law_659 : decode cL_law 659 = .ok (.ireturn, 1) := by decide +kernel
theorem dL_law_660 : decode cL_law 660 = .ok (.aload_n 1, 1) := by decide +kernel
theorem dL_law_661 : decode cL_law 661 = .ok (.aload_n 0, 1) := by decide +kernel
theorem dL_law_662 : decode cL_law 662 = .ok (.iload_n 3, 1) := by decide +kernel
theorem dL_law_663 : decode cL_law 663 = .ok (.iconst 1, 1) := by decide +kernel
theorem dL_law_664 : decode cL_law 664 = .ok (.iadd, 1) := by decide +kernel
theorem dL_law_665 : decode cL_law 665 = .ok (.iaload, 1) := by decide +kernel
theorem dL_law_666 : decode cL_law 666 = .ok (.aload_n 0, 1) := by decide +kernel
theorem dL_law_667 : decode cL_law 667 = .ok (.iload_n 3, 1) := by decide +kernel
theorem dL_law_668 : decode cL_law 668 = .ok (.iconst 2, 1) := by decide +kernel
theorem dL_law_669 : decode cL_law 669 = .ok (.iadd, 1) := by decide +kernel
theorem dL_law_670 : decode cL_law 670 = .ok (.iaload, 1) := by decide +kernel
theorem dL_law_671 : decode cL_law 671 = .ok (.invokevirtual 89, 3) := by decide +kernel
theorem dL_law_674 : decode cL_law 674 = .ok (.aload_n 2, 1) := by decide +kernel
theorem dL_law_675 : decode cL_law 675 = .ok (.aload_n 0, 1) := by decide +kernel
theorem dL_law_676 : decode cL_law 676 = .ok (.iload_n 3, 1) := by decide +kernel
theorem dL_law_677 : decode cL_law 677 = .ok (.iconst 1, 1) := by decide +kernel
theorem dL_law_678 : decode cL_law 678 = .ok (.iadd, 1) := by decide +kernel
theorem dL_law_679 : decode cL_law 679 = .ok (.iaload, 1) := by decide +kernel
theorem dL_law_680 : decode cL_law 680 = .ok (.aload_n 0, 1) := by decide +kernel
theorem dL_law_681 : decode cL_law 681 = .ok (.iload_n 3, 1) := by decide +kernel
theorem dL_law_682 : decode cL_law 682 = .ok (.iconst 2, 1) := by decide +kernel
theorem dL_law_683 : decode cL_law 683 = .ok (.iadd, 1) := by decide +kernel
theorem dL_law_684 : decode cL_law 684 = .ok (.iaload, 1) := by decide +kernel
theorem dL_law_685 : decode cL_law 685 = .ok (.invokevirtual 92, 3) := by decide +kernel
theorem dL_law_688 : decode cL_law 688 = .ok (.if_icmp .eq 230, 3) := by decide +kernel
theorem dL_law_691 : decode cL_law 691 = .ok (.iconst 0, 1) := by decide +kernel
theorem dL_law_692 : decode cL_law 692 = .ok (.ireturn, 1) := by decide +kernel
theorem dL_law_693 : decode cL_law 693 = .ok (.aload_n 1, 1) := by decide +kernel
theorem dL_law_694 : decode cL_law 694 = .ok (.invokevirtual 93, 3) := by decide +kernel
theorem dL_law_697 : decode cL_law 697 = .ok (.aload_n 2, 1) := by decide +kernel
theorem dL_law_698 : decode cL_law 698 = .ok (.invokevirtual 96, 3) := by decide +kernel
theorem dL_law_701 : decode cL_law 701 = .ok (.if_icmp .eq 217, 3) := by decide +kernel
theorem dL_law_704 : decode cL_law 704 = .ok (.iconst 0, 1) := by decide +kernel
theorem dL_law_705 : decode cL_law 705 = .ok (.ireturn, 1) := by decide +kernel
theorem dL_law_706 : decode cL_law 706 = .ok (.aload_n 1, 1) := by decide +kernel
theorem dL_law_707 : decode cL_law 707 = .ok (.aload_n 0, 1) := by decide +kernel
theorem dL_law_708 : decode cL_law 708 = .ok (.iload_n 3, 1) := by decide +kernel
theorem dL_law_709 : decode cL_law 709 = .ok (.iconst 1, 1) := by decide +kernel
theorem dL_law_710 : decode cL_law 710 = .ok (.iadd, 1) := by decide +kernel
theorem dL_law_711 : decode cL_law 711 = .ok (.iaload, 1) := by decide +kernel
theorem dL_law_712 : decode cL_law 712 = .ok (.invokevirtual 97, 3) := by decide +kernel
theorem dL_law_715 : decode cL_law 715 = .ok (.aload_n 2, 1) := by decide +kernel
theorem dL_law_716 : decode cL_law 716 = .ok (.aload_n 0, 1) := by decide +kernel
theorem dL_law_717 : decode cL_law 717 = .ok (.iload_n 3, 1) := by decide +kernel
theorem dL_law_718 : decode cL_law 718 = .ok (.iconst 1, 1) := by decide +kernel
theorem dL_law_719 : decode cL_law 719 = .ok (.iadd, 1) := by decide +kernel
theorem dL_law_720 : decode cL_law 720 = .ok (.iaload, 1) := by decide +kernel
theorem dL_law_721 : decode cL_law 721 = .ok (.invokevirtual 100, 3) := by decide +kernel
theorem dL_law_724 : decode cL_law 724 = .ok (.if_icmp .eq 194, 3) := by decide +kernel
theorem dL_law_727 : decode cL_law 727 = .ok (.iconst 0, 1) := by decide +kernel
theorem dL_law_728 : decode cL_law 728 = .ok (.ireturn, 1) := by decide +kernel
theorem dL_law_729 : decode cL_law 729 = .ok (.aload_n 1, 1) := by decide +kernel
theorem dL_law_730 : decode cL_law 730 = .ok (.aload_n 0, 1) := by decide +kernel
theorem dL_law_731 : decode cL_law 731 = .ok (.iload_n 3, 1) := by decide +kernel
theorem dL_law_732 : decode cL_law 732 = .ok (.iconst 1, 1) := by decide +kernel
theorem dL_law_733 : decode cL_law 733 = .ok (.iadd, 1) := by decide +kernel
theorem dL_law_734 : decode cL_law 734 = .ok (.iaload, 1) := by decide +kernel
theorem dL_law_735 : decode cL_law 735 = .ok (.invokevirtual 101, 3) := by decide +kernel
theorem dL_law_738 : decode cL_law 738 = .ok (.aload_n 2, 1) := by decide +kernel
theorem dL_law_739 : decode cL_law 739 = .ok (.aload_n 0, 1) := by decide +kernel
theorem dL_law_740 : decode cL_law 740 = .ok (.iload_n 3, 1) := by decide +kernel
theorem dL_law_741 : decode cL_law 741 = .ok (.iconst 1, 1) := by decide +kernel
theorem dL_law_742 : decode cL_law 742 = .ok (.iadd, 1) := by decide +kernel
theorem dL_law_743 : decode cL_law 743 = .ok (.iaload, 1) := by decide +kernel
theorem dL_law_744 : decode cL_law 744 = .ok (.invokevirtual 104, 3) := by decide +kernel
theorem dL_law_747 : decode cL_law 747 = .ok (.if_icmp .eq 171, 3) := by decide +kernel
theorem dL_law_750 : decode cL_law 750 = .ok (.iconst 0, 1) := by decide +kernel
theorem dL_law_751 : decode cL_law 751 = .ok (.ireturn, 1) := by decide +kernel
theorem dL_law_752 : decode cL_law 752 = .ok (.aload_n 1, 1) := by decide +kernel
theorem dL_law_753 : decode cL_law 753 = .ok (.aload_n 0, 1) := by decide +kernel
theorem dL_law_754 : decode cL_law 754 = .ok (.iload_n 3, 1) := by decide +kernel
theorem dL_law_755 : decode cL_law 755 = .ok (.iconst 1, 1) := by decide +kernel
theorem dL_law_756 : decode cL_law 756 = .ok (.iadd, 1) := by decide +kernel
theorem dL_law_757 : decode cL_law 757 = .ok (.iaload, 1) := by decide +kernel
theorem dL_law_758 : decode cL_law 758 = .ok (.aload_n 0, 1) := by decide +kernel
theorem dL_law_759 : decode cL_law 759 = .ok (.iload_n 3, 1) := by decide +kernel
theorem dL_law_760 : decode cL_law 760 = .ok (.iconst 2, 1) := by decide +kernel
theorem dL_law_761 : decode cL_law 761 = .ok (.iadd, 1) := by decide +kernel
theorem dL_law_762 : decode cL_law 762 = .ok (.iaload, 1) := by decide +kernel
theorem dL_law_763 : decode cL_law 763 = .ok (.aload_n 0, 1) := by decide +kernel
theorem dL_law_764 : decode cL_law 764 = .ok (.iload_n 3, 1) := by decide +kernel
theorem dL_law_765 : decode cL_law 765 = .ok (.iconst 3, 1) := by decide +kernel
theorem dL_law_766 : decode cL_law 766 = .ok (.iadd, 1) := by decide +kernel
theorem dL_law_767 : decode cL_law 767 = .ok (.iaload, 1) := by decide +kernel
theorem dL_law_768 : decode cL_law 768 = .ok (.aload_n 0, 1) := by decide +kernel
theorem dL_law_769 : decode cL_law 769 = .ok (.iload_n 3, 1) := by decide +kernel
theorem dL_law_770 : decode cL_law 770 = .ok (.iconst 4, 1) := by decide +kernel
theorem dL_law_771 : decode cL_law 771 = .ok (.iadd, 1) := by decide +kernel
theorem dL_law_772 : decode cL_law 772 = .ok (.iaload, 1) := by decide +kernel
theorem dL_law_773 : decode cL_law 773 = .ok (.invokevirtual 105, 3) := by decide +kernel
theorem dL_law_776 : decode cL_law 776 = .ok (.aload_n 2, 1) := by decide +kernel
theorem dL_law_777 : decode cL_law 777 = .ok (.aload_n 0, 1) := by decide +kernel
theorem dL_law_778 : decode cL_law 778 = .ok (.iload_n 3, 1) := by decide +kernel
theorem dL_law_779 : decode cL_law 779 = .ok (.iconst 1, 1) := by decide +kernel
theorem dL_law_780 : decode cL_law 780 = .ok (.iadd, 1) := by decide +kernel
theorem dL_law_781 : decode cL_law 781 = .ok (.iaload, 1) := by decide +kernel
theorem dL_law_782 : decode cL_law 782 = .ok (.aload_n 0, 1) := by decide +kernel
theorem dL_law_783 : decode cL_law 783 = .ok (.iload_n 3, 1) := by decide +kernel
theorem dL_law_784 : decode cL_law 784 = .ok (.iconst 2, 1) := by decide +kernel
theorem dL_law_785 : decode cL_law 785 = .ok (.iadd, 1) := by decide +kernel
theorem dL_law_786 : decode cL_law 786 = .ok (.iaload, 1) := by decide +kernel
theorem dL_law_787 : decode cL_law 787 = .ok (.aload_n 0, 1) := by decide +kernel
theorem dL_law_788 : decode cL_law 788 = .ok (.iload_n 3, 1) := by decide +kernel
theorem dL_law_789 : decode cL_law 789 = .ok (.iconst 3, 1) := by decide +kernel
theorem dL_law_790 : decode cL_law 790 = .ok (.iadd, 1) := by decide +kernel
theorem dL_law_791 : decode cL_law 791 = .ok (.iaload, 1) := by decide +kernel
theorem dL_law_792 : decode cL_law 792 = .ok (.aload_n 0, 1) := by decide +kernel
theorem dL_law_793 : decode cL_law 793 = .ok (.iload_n 3, 1) := by decide +kernel
theorem dL_law_794 : decode cL_law 794 = .ok (.iconst 4, 1) := by decide +kernel
theorem dL_law_795 : decode cL_law 795 = .ok (.iadd, 1) := by decide +kernel
theorem dL_law_796 : decode cL_law 796 = .ok (.iaload, 1) := by decide +kernel
theorem dL_law_797 : decode cL_law 797 = .ok (.invokevirtual 109, 3) := by decide +kernel
theorem dL_law_800 : decode cL_law 800 = .ok (.lcmp, 1) := by decide +kernel
theorem dL_law_801 : decode cL_law 801 = .ok (.ifCond .eq 117, 3) := by decide +kernel
theorem dL_law_804 : decode cL_law 804 = .ok (.iconst 0, 1) := by decide +kernel
theorem dL_law_805 : decode cL_law 805 = .ok (.ireturn, 1) := by decide +kernel
theorem dL_law_806 : decode cL_law 806 = .ok (.aload_n 1, 1) := by decide +kernel
theorem dL_law_807 : decode cL_law 807 = .ok (.aload_n 0, 1) := by decide +kernel
theorem dL_law_808 : decode cL_law 808 = .ok (.iload_n 3, 1) := by decide +kernel
theorem dL_law_809 : decode cL_law 809 = .ok (.iconst 1, 1) := by decide +kernel
theorem dL_law_810 : decode cL_law 810 = .ok (.iadd, 1) := by decide +kernel
theorem dL_law_811 : decode cL_law 811 = .ok (.iaload, 1) := by decide +kernel
theorem dL_law_812 : decode cL_law 812 = .ok (.aload_n 0, 1) := by decide +kernel
theorem dL_law_813 : decode cL_law 813 = .ok (.iload_n 3, 1) := by decide +kernel
theorem dL_law_814 : decode cL_law 814 = .ok (.iconst 2, 1) := by decide +kernel
theorem dL_law_815 : decode cL_law 815 = .ok (.iadd, 1) := by decide +kernel
theorem dL_law_816 : decode cL_law 816 = .ok (.iaload, 1) := by decide +kernel
theorem dL_law_817 : decode cL_law 817 = .ok (.aload_n 0, 1) := by decide +kernel
theorem dL_law_818 : decode cL_law 818 = .ok (.iload_n 3, 1) := by decide +kernel
theorem dL_law_819 : decode cL_law 819 = .ok (.iconst 3, 1) := by decide +kernel
theorem dL_law_820 : decode cL_law 820 = .ok (.iadd, 1) := by decide +kernel
theorem dL_law_821 : decode cL_law 821 = .ok (.iaload, 1) := by decide +kernel
theorem dL_law_822 : decode cL_law 822 = .ok (.invokevirtual 110, 3) := by decide +kernel
theorem dL_law_825 : decode cL_law 825 = .ok (.aload_n 2, 1) := by decide +kernel
theorem dL_law_826 : decode cL_law 826 = .ok (.aload_n 0, 1) := by decide +kernel
theorem dL_law_827 : decode cL_law 827 = .ok (.iload_n 3, 1) := by decide +kernel
theorem dL_law_828 : decode cL_law 828 = .ok (.iconst 1, 1) := by decide +kernel
theorem dL_law_829 : decode cL_law 829 = .ok (.iadd, 1) := by decide +kernel
theorem dL_law_830 : decode cL_law 830 = .ok (.iaload, 1) := by decide +kernel
theorem dL_law_831 : decode cL_law 831 = .ok (.aload_n 0, 1) := by decide +kernel
theorem dL_law_832 : decode cL_law 832 = .ok (.iload_n 3, 1) := by decide +kernel
theorem dL_law_833 : decode cL_law 833 = .ok (.iconst 2, 1) := by decide +kernel
theorem dL_law_834 : decode cL_law 834 = .ok (.iadd, 1) := by decide +kernel
theorem dL_law_835 : decode cL_law 835 = .ok (.iaload, 1) := by decide +kernel
theorem dL_law_836 : decode cL_law 836 = .ok (.aload_n 0, 1) := by decide +kernel
theorem dL_law_837 : decode cL_law 837 = .ok (.iload_n 3, 1) := by decide +kernel
theorem dL_law_838 : decode cL_law 838 = .ok (.iconst 3, 1) := by decide +kernel
theorem dL_law_839 : decode cL_law 839 = .ok (.iadd, 1) := by decide +kernel
theorem dL_law_840 : decode cL_law 840 = .ok (.iaload, 1) := by decide +kernel
theorem dL_law_841 : decode cL_law 841 = .ok (.invokevirtual 113, 3) := by decide +kernel
theorem dL_law_844 : decode cL_law 844 = .ok (.if_icmp .eq 74, 3) := by decide +kernel
theorem dL_law_847 : decode cL_law 847 = .ok (.iconst 0, 1) := by decide +kernel
theorem dL_law_848 : decode cL_law 848 = .ok (.ireturn, 1) := by decide +kernel
theorem dL_law_849 : decode cL_law 849 = .ok (.aload_n 1, 1) := by decide +kernel
theorem dL_law_850 : decode cL_law 850 = .ok (.aload_n 0, 1) := by decide +kernel
theorem dL_law_851 : decode cL_law 851 = .ok (.iload_n 3, 1) := by decide +kernel
theorem dL_law_852 : decode cL_law 852 = .ok (.iconst 1, 1) := by decide +kernel
theorem dL_law_853 : decode cL_law 853 = .ok (.iadd, 1) := by decide +kernel
theorem dL_law_854 : decode cL_law 854 = .ok (.iaload, 1) := by decide +kernel
theorem dL_law_855 : decode cL_law 855 = .ok (.invokevirtual 114, 3) := by decide +kernel
theorem dL_law_858 : decode cL_law 858 = .ok (.aload_n 2, 1) := by decide +kernel
theorem dL_law_859 : decode cL_law 859 = .ok (.aload_n 0, 1) := by decide +kernel
theorem dL_law_860 : decode cL_law 860 = .ok (.iload_n 3, 1) := by decide +kernel
theorem dL_law_861 : decode cL_law 861 = .ok (.iconst 1, 1) := by decide +kernel
theorem dL_law_862 : decode cL_law 862 = .ok (.iadd, 1) := by decide +kernel
theorem dL_law_863 : decode cL_law 863 = .ok (.iaload, 1) := by decide +kernel
theorem dL_law_864 : decode cL_law 864 = .ok (.invokevirtual 117, 3) := by decide +kernel
theorem dL_law_867 : decode cL_law 867 = .ok (.if_icmp .eq 51, 3) := by decide +kernel
theorem dL_law_870 : decode cL_law 870 = .ok (.iconst 0, 1) := by decide +kernel
theorem dL_law_871 : decode cL_law 871 = .ok (.ireturn, 1) := by decide +kernel
theorem dL_law_872 : decode cL_law 872 = .ok (.aload_n 1, 1) := by decide +kernel
theorem dL_law_873 : decode cL_law 873 = .ok (.aload_n 0, 1) := by decide +kernel
theorem dL_law_874 : decode cL_law 874 = .ok (.iload_n 3, 1) := by decide +kernel
theorem dL_law_875 : decode cL_law 875 = .ok (.iconst 1, 1) := by decide +kernel
theorem dL_law_876 : decode cL_law 876 = .ok (.iadd, 1) := by decide +kernel
theorem dL_law_877 : decode cL_law 877 = .ok (.iaload, 1) := by decide +kernel
theorem dL_law_878 : decode cL_law 878 = .ok (.invokevirtual 118, 3) := by decide +kernel
theorem dL_law_881 : decode cL_law 881 = .ok (.aload_n 2, 1) := by decide +kernel
theorem dL_law_882 : decode cL_law 882 = .ok (.aload_n 0, 1) := by decide +kernel
theorem dL_law_883 : decode cL_law 883 = .ok (.iload_n 3, 1) := by decide +kernel
theorem dL_law_884 : decode cL_law 884 = .ok (.iconst 1, 1) := by decide +kernel
theorem dL_law_885 : decode cL_law 885 = .ok (.iadd, 1) := by decide +kernel
theorem dL_law_886 : decode cL_law 886 = .ok (.iaload, 1) := by decide +kernel
theorem dL_law_887 : decode cL_law 887 = .ok (.invokevirtual 121, 3) := by decide +kernel
theorem dL_law_890 : decode cL_law 890 = .ok (.if_icmp .eq 28, 3) := by decide +kernel
theorem dL_law_893 : decode cL_law 893 = .ok (.iconst 0, 1) := by decide +kernel
theorem dL_law_894 : decode cL_law 894 = .ok (.ireturn, 1) := by decide +kernel
theorem dL_law_895 : decode cL_law 895 = .ok (.aload_n 1, 1) := by decide +kernel
theorem dL_law_896 : decode cL_law 896 = .ok (.aload_n 0, 1) := by decide +kernel
theorem dL_law_897 : decode cL_law 897 = .ok (.iload_n 3, 1) := by decide +kernel
theorem dL_law_898 : decode cL_law 898 = .ok (.iconst 1, 1) := by decide +kernel
theorem dL_law_899 : decode cL_law 899 = .ok (.iadd, 1) := by decide +kernel
theorem dL_law_900 : decode cL_law 900 = .ok (.iaload, 1) := by decide +kernel
theorem dL_law_901 : decode cL_law 901 = .ok (.invokevirtual 122, 3) := by decide +kernel
theorem dL_law_904 : decode cL_law 904 = .ok (.aload_n 2, 1) := by decide +kernel
theorem dL_law_905 : decode cL_law 905 = .ok (.aload_n 0, 1) := by decide +kernel
theorem dL_law_906 : decode cL_law 906 = .ok (.iload_n 3, 1) := by decide +kernel
theorem dL_law_907 : decode cL_law 907 = .ok (.iconst 1, 1) := by decide +kernel
theorem dL_law_908 : decode cL_law 908 = .ok (.iadd, 1) := by decide +kernel
theorem dL_law_909 : decode cL_law 909 = .ok (.iaload, 1) := by decide +kernel
theorem dL_law_910 : decode cL_law 910 = .ok (.invokevirtual 125, 3) := by decide +kernel
theorem dL_law_913 : decode cL_law 913 = .ok (.if_icmp .eq 5, 3) := by decide +kernel
theorem dL_law_916 : decode cL_law 916 = .ok (.iconst 0, 1) := by decide +kernel
theorem dL_law_917 : decode cL_law 917 = .ok (.ireturn, 1) := by decide +kernel
theorem dL_law_918 : decode cL_law 918 = .ok (.iinc 3 5, 3) := by decide +kernel
theorem dL_law_921 : decode cL_law 921 = .ok (.goto (-903), 3) := by decide +kernel
theorem dL_law_924 : decode cL_law 924 = .ok (.iconst 1, 1) := by decide +kernel
theorem dL_law_925 : decode cL_law 925 = .ok (.ireturn, 1) := by decide +kernel
end
section
/-! A layer of mine over the kit's judgement: G says of a frame at pc, over a world ws and locals lv, that every heap which holds them goes on to Q. One list of words (wsL_law) for every method. -/
def gTY (cI cZ : ClassId) : List (ClassId × FieldType) := [(cI, .int), (cZ, .boolean)]
def gNF : List (String × Nat × String × String × String × String) := [(RX5, 56, RX2, "beds", "I", RX5), (RX3, 64, RX2, "beds", "I", RX5), (RX1, 37, RX2, "law", "I", RX5), (RX5, 79, RX2, "law", "I", RX5), (RX5, 185, RX2, "sights", "I", RX5), (RX5, 233, RX2, "isKept", "Z", RX5), (RX1, 28, RX0, "length", "I", RX5), (RX5, 89, RX0, "length", "I", RX5), (RX5, 170, RX4, "most", "I", RX5), (RX5, 196, RX1, "ways", "I", RX5), (RX4, 52, RX3, "house", "LWarmBeds$House;", RX5), (RX1, 77, RX3, "house", "LWarmBeds$House;", RX5), (RX4, 39, RX3, "deeper", "LWarmBeds$Inn;", RX5), (RX1, 63, RX3, "deeper", "LWarmBeds$Inn;", RX5), (RX5, 243, RX3, "deeper", "LWarmBeds$Inn;", RX5), (RX5, 158, RX3, "there", "I", RX5), (RX5, 128, RX3, "waiting", "I", RX5), (RX5, 179, RX3, "guestsWithFleas", "I", RX5), (RX5, 182, RX3, "bedsWithFleas", "I", RX5)]
def gNM : List (String × Nat × MethodName × String) := [(RX5, 11, yX2_init, RX5), (RX5, 24, yX0_init, RX5), (RX5, 31, yX4_init, RX5), (RX5, 38, yX1_init, RX5), (RX5, 49, yX3_init, RX5), (RX5, 60, yX2_furnish, RX5), (RX5, 71, yX2_worthOf, RX5), (RX5, 75, yX2_setWorth, RX5), (RX2, 28, yX5_isGuest, RX5), (RX5, 82, yX0_isFull, RX5), (RX5, 86, yX0_write, RX5), (RX5, 92, yX0_firstFault, RX5), (RX5, 99, yX0_isUntold, RX5), (RX5, 102, yX3_open, RX5), (RX5, 105, yX3_live, RX5), (RX3, 79, yX0_signAt, RX5), (RX3, 88, yX0_isComing, RX5), (RX3, 95, yX0_isGoing, RX5), (RX3, 145, yX2_worthOf, RX5), (RX5, 109, yX0_signAt, RX5), (RX5, 113, yX3_whyNot, RX5), (RX5, 122, yX3_bedOf, RX5), (RX5, 125, yX3_sleeperOf, RX5), (RX5, 131, yX3_emptyBed, RX5), (RX5, 134, yX3_countOf, RX5), (RX5, 240, yX3_allSheets, RX5), (RX5, 140, yX0_names, RX5), (RX5, 246, yX3_standAs, RX5), (RX5, 155, yX3_takeIn, RX5), (RX5, 166, yX4_order, RX5), (RX4, 45, yX3_standAs, RX5), (RX4, 49, yX3_takeIn, RX5), (RX4, 56, yX3_bedOf, RX5), (RX4, 59, yX2_worthOf, RX5), (RX5, 173, yX4_guestAt, RX5), (RX5, 250, yX3_infest, RX5), (RX5, 188, yX2_addSight, RX5), (RX5, 192, yX1_search, RX5), (RX1, 33, yX0_signAt, RX5), (RX1, 42, yX3_open, RX5), (RX1, 52, yX0_nextUntold, RX5), (RX1, 55, yX3_live, RX5), (RX1, 81, yX2_allSightsHold, RX5), (RX2, 32, yX3_sleeperOf, RX5), (RX1, 67, yX3_isThere, RX5), (RX1, 71, yX3_standAs, RX5), (RX1, 74, yX3_takeIn, RX5), (RX5, 199, yX1_firstAt, RX5), (RX5, 202, yX1_suspectsAt, RX5), (RX5, 253, yX3_emptyLeastBed, RX5), (RX5, 220, yX3_isThere, RX5), (RX5, 223, yX3_letGo, RX5), (RX5, 226, yX3_timesUsed, RX5), (RX5, 229, yX2_copy, RX5)]
def gNW (U : State) : Prop := (∀ q ∈ gNF, va_Nw (.fieldLinkNest q.1 q.2.1 q.2.2.1 q.2.2.2.1 q.2.2.2.2.1 q.2.2.2.2.2) U) ∧ ∀ q ∈ gNM, va_Nw (.methodLinkNest q.1 q.2.1 q.2.2.1 q.2.2.2) U
theorem gNW.warm {s U : State} (hW : s.WarmedH U.vm) (h : gNW s) : gNW U := ⟨fun q hq => va_Nw.warmF hW (h.1 q hq), fun q hq => va_Nw.warmM hW (h.2 q hq)⟩
theorem gNW.same {u U : State} (hvm : u.vm = U.vm) (h : gNW u) : gNW U := ⟨fun q hq => va_Nw.same rfl hvm (h.1 q hq), fun q hq => va_Nw.same rfl hvm (h.2 q hq)⟩
theorem gGood : GoodIn wsL_law wsL_law := goodIn_sub (fun _ h => h) gGoodAll
def gC (p : Program) (s : State) (m : MethodId) (args : Array Value) (c : Code) (cc : ByteArray) (nL : Nat) (own : String) (D : va_G) (cI cZ : ClassId) : Prop :=
  p.tables.exec = Jvm.exec ∧ c.code = cc ∧ c.maxLocals = nL ∧ s.vm.findClass own = some m.cls ∧ (∀ w ∈ wsL_law, w.before args s = true) ∧ gNW s ∧ va_K D vwCl (gTY cI cZ) s
def G (p : Program) (l : Launch) (e : Env) (R : Room) (s : State) (m : MethodId) (args : Array Value) (below : List Frame) (meth : Method) (c : Code) (nL : Nat) (D : va_G) (A : Nat → Prop) (H0 : Heap) (kc ks : Nat) (Q : State → Prop) (ws : List va_W) (pc : Nat) (lv : List (Nat × Value)) (st : List Value) : Prop :=
  ∀ (H : Heap) (locs : List Loc) (ls : Array Slot), va_P D vwCl ws.flatten H → va_D A ws.flatten → va_S A H0 H locs → lv_has ls nL lv → W p l e R s m args below meth c H locs kc ks Q (F0 m pc ls st)
/-- what a method starts with, and ends with -/
def gPc (D : va_G) (cI cZ : ClassId) (argl : List Value) (W0 : List va_W) (sz : Nat) : Array Value → State → Prop := va_Pc argl (fun U => U.heap.size = sz ∧ va_P D vwCl W0.flatten U.heap ∧ va_K D vwCl (gTY cI cZ) U ∧ gNW U ∧ va_D (fun _ => True) W0.flatten)
def gQc (D : va_G) (W0 : List va_W) (sz : Nat) (post : Option Value → List va_W → Prop) : Array Value → State → Outcome → State → Prop := fun _ st oc t => (∃ (v : Option Value) (W1 : List va_W), oc = .returned v ∧ post v W1 ∧ va_P D vwCl W1.flatten t.heap ∧ va_D (va_A W0.flatten sz) W1.flatten) ∧ va_F (va_A W0.flatten sz) st t
def gPost (v : Option Value) (W1 : List va_W) : Option Value → List va_W → Prop := fun v' W' => v' = v ∧ W' = W1
theorem gPc_blind (D : va_G) (cI cZ : ClassId) (argl : List Value) (W0 : List va_W) (sz : Nat) : FrameBlind (gPc D cI cZ argl W0 sz) := fun a U g mk h => by
  obtain ⟨q0, q1, qP, qK, qN, qD⟩ := h
  exact ⟨q0, q1, qP, va_K.moved (u := U) (U := U.calling g mk a) (Vm.Alike.refl U.vm) qK, gNW.same (u := U) (U := U.calling g mk a) rfl qN, qD⟩
/-- a contract -/
def CT (l : Launch) (D : va_G) (cI cZ : ClassId) (y : MethodName) (cc : ByteArray) (mL : Nat) (ret : Option FieldType) (fr lo mc ms : Nat) (argl : List Value) (W0 : List va_W) (post : Option Value → List va_W → Prop) : Prop :=
  ∀ sz : Nat, Met l y (.code y cc mL ret :: wsL_law) ({ frames := fr, cells := mc, slots := ms, locals := lo }) (gPc D cI cZ argl W0 sz) (gQc D W0 sz post) mc ms (va_A W0.flatten sz)
theorem CT.mk {l : Launch} {D : va_G} {cI cZ : ClassId} {y : MethodName} {cc : ByteArray} {mL : Nat} {ret : Option FieldType} {fr lo mc ms : Nat} {argl : List Value} {W0 : List va_W} {post : Option Value → List va_W → Prop} (hpl : plainName y.cls = true) (hnl : (lg_sl argl).length ≤ mL)
    (body : ∀ (p : Program) (e : Env) (s : State) (m : MethodId) (below : List Frame) (meth : Method) (c : Code), gC p s m argl.toArray c cc mL y.cls D cI cZ → meth.sig.returnType = ret → meth.locks = false → meth.name = y.name →
      G p l e ({ frames := fr, cells := mc, slots := ms, locals := lo }) s m argl.toArray below meth c mL D (va_A W0.flatten s.heap.size) s.heap 0 0 (MQ below (gQc D W0 s.heap.size post) argl.toArray s mc ms (va_A W0.flatten s.heap.size)) W0 0 (lv_args 0 argl) []) :
    CT l D cI cZ y cc mL ret fr lo mc ms argl W0 post := by
  intro sz
  refine Met.ofW (cc := cc) (maxL := mL) (ret := ret) hpl rfl ?_
  intro p e s m args below meth c s₁ B hml hv
  obtain ⟨rfl, hsz, hP, hK, hN, hD⟩ := hv
  subst hsz
  have hts := atoms_spec (ws := .code y cc mL ret :: wsL_law) B.pre
  have hl := lv_entry argl hnl
  rw [lg_entry_eq]
  exact body p e s m below meth c ⟨B.exec, B.bytes, hml, findClass_of_methodNamed B.named, fun w hw => hts w (List.mem_cons_of_mem _ hw), hN, hK⟩ B.returns B.notSynchronized (name_of_methodNamed B.named B.method).1 s.heap [] _ hP hD.self va_S.rf hl
/-- components put back into their places -/
def gRepl {α : Type} : List α → List Nat → List α → List α
  | ws, i :: pl, e :: w1 => gRepl (ws.set i e) pl w1
  | ws, _, _ => ws
theorem gRepl_get {α : Type} : ∀ (pl : List Nat) (w1 ws : List α), pl.length = w1.length → ∀ (k : Nat) (q : α), (gRepl ws pl w1)[k]? = some q → (∃ j : Nat, w1[j]? = some q) ∨ (k ∉ pl ∧ ws[k]? = some q)
  | [], [], ws, _, k, q, h => Or.inr ⟨List.not_mem_nil, h⟩
  | [], e :: w1, ws, hl, k, q, h => by simp at hl
  | i :: pl, [], ws, hl, k, q, h => by simp at hl
  | i :: pl, e :: w1, ws, hl, k, q, h => by
    rcases gRepl_get pl w1 (ws.set i e) (by simpa using hl) k q h with ⟨j, hj⟩ | ⟨hk, hq⟩
    · exact Or.inl ⟨j + 1, by simpa using hj⟩
    · by_cases hki : k = i
      · subst hki
        have hlt : k < (ws.set k e).length := (List.getElem?_eq_some_iff.mp hq).1
        rw [List.getElem?_set_self (by simpa using hlt)] at hq
        exact Or.inl ⟨0, by simpa using hq⟩
      · rw [List.getElem?_set_ne (Ne.symm hki)] at hq
        exact Or.inr ⟨fun hm => (List.mem_cons.mp hm).elim hki hk, hq⟩
theorem gRepl_map {α β : Type} (f : α → β) : ∀ (pl : List Nat) (wc w1 ws : List α), pl.map (fun i => ws[i]?) = wc.map some → w1.map f = wc.map f → (gRepl ws pl w1).map f = ws.map f := by
  have key : ∀ (pl : List Nat) (w1 ws : List α), (∀ (j i : Nat) (q : α), pl[j]? = some i → w1[j]? = some q → (ws.map f)[i]? = some (f q)) → (gRepl ws pl w1).map f = ws.map f := by
    intro pl
    induction pl with
    | nil => intro w1 ws _; cases w1 <;> rfl
    | cons i pl ih =>
      intro w1 ws h
      cases w1 with
      | nil => rfl
      | cons e w1 =>
        have h0 := h 0 i e rfl rfl
        have hset : (ws.set i e).map f = ws.map f := by
          rw [List.map_set]
          have hlt : i < (ws.map f).length := (List.getElem?_eq_some_iff.mp h0).1
          have h1 : (ws.map f)[i] = f e := (List.getElem?_eq_some_iff.mp h0).2
          rw [← h1]
          exact List.set_getElem_self hlt
        show (gRepl (ws.set i e) pl w1).map f = _
        rw [ih w1 (ws.set i e) (fun j i' q hj hq => by rw [hset]; exact h (j + 1) i' q (by simpa using hj) (by simpa using hq)), hset]
  intro pl wc w1 ws hs hf
  refine key pl w1 ws (fun j i q hj hq => ?_)
  have h1 : (pl.map (fun i => ws[i]?))[j]? = some ws[i]? := by rw [List.getElem?_map, hj]; rfl
  rw [hs, List.getElem?_map] at h1
  have h2 : (w1.map f)[j]? = some (f q) := by rw [List.getElem?_map, hq]; rfl
  rw [hf, List.getElem?_map] at h2
  cases hc : wc[j]? with
  | none => rw [hc] at h1; cases h1
  | some z =>
    rw [hc] at h1 h2
    have h3 : some z = ws[i]? := Option.some.inj h1
    have h4 : f z = f q := Option.some.inj h2
    rw [List.getElem?_map, ← h3, ← h4]
    rfl
theorem va_D.of_fst {A : Nat → Prop} {ws ws' : va_W} (h : va_D A ws) (hf : ws'.map (fun q => q.1) = ws.map (fun q => q.1)) : va_D A ws' := by
  have key : ∀ (k : Nat) (q : Nat × va_E), ws'[k]? = some q → ∃ q0, ws[k]? = some q0 ∧ q0.1 = q.1 := by
    intro k q hk
    have h1 : (ws'.map (fun q => q.1))[k]? = some q.1 := by rw [List.getElem?_map, hk]; rfl
    rw [hf, List.getElem?_map] at h1
    cases hw : ws[k]? with
    | none => rw [hw] at h1; cases h1
    | some z => rw [hw] at h1; exact ⟨z, rfl, Option.some.inj h1⟩
  refine ⟨fun i j x y hi hj hxy => ?_, fun k q hk => ?_⟩
  · obtain ⟨x0, h1, h2⟩ := key i x hi
    obtain ⟨y0, h3, h4⟩ := key j y hj
    exact h.1 i j x0 y0 h1 h3 (h2.trans (hxy.trans h4.symm))
  · obtain ⟨q0, h1, h2⟩ := key k q hk
    rw [← h2]
    exact h.2 k q0 h1
theorem fl_get {α : Type} : ∀ (cs : List (List α)) (i j : Nat) (w : List α) (q : α), cs[i]? = some w → w[j]? = some q → cs.flatten[(cs.take i).flatten.length + j]? = some q
  | [], i, j, w, q, h, _ => by simp at h
  | c :: cs, 0, j, w, q, h, hq => by
    have hc : c = w := by simpa using h
    subst hc
    have hlt : j < c.length := (List.getElem?_eq_some_iff.mp hq).1
    simp only [List.take_zero, List.flatten_nil, List.length_nil, Nat.zero_add, List.flatten_cons]
    rw [List.getElem?_append_left hlt]
    exact hq
  | c :: cs, i + 1, j, w, q, h, hq => by
    have ih := fl_get cs i j w q (by simpa using h) hq
    simp only [List.take_succ_cons, List.flatten_cons, List.length_append]
    rw [List.getElem?_append_right (by omega), show c.length + (cs.take i).flatten.length + j - c.length = (cs.take i).flatten.length + j by omega]
    exact ih
theorem fl_set {α : Type} (x : α) : ∀ (cs : List (List α)) (i j : Nat) (w : List α), cs[i]? = some w → j < w.length → cs.flatten.set ((cs.take i).flatten.length + j) x = (cs.set i (w.set j x)).flatten
  | [], i, j, w, h, _ => by simp at h
  | c :: cs, 0, j, w, h, hj => by
    have hc : c = w := by simpa using h
    subst hc
    simp only [List.take_zero, List.flatten_nil, List.length_nil, Nat.zero_add, List.flatten_cons, List.set_cons_zero]
    rw [List.set_append_left _ _ hj]
  | c :: cs, i + 1, j, w, h, hj => by
    have ih := fl_set x cs i j w (by simpa using h) hj
    simp only [List.take_succ_cons, List.flatten_cons, List.length_append, List.set_cons_succ]
    rw [List.set_append_right _ _ (by omega), show c.length + (cs.take i).flatten.length + j - c.length = (cs.take i).flatten.length + j by omega, ih]
theorem fl_off {α : Type} : ∀ (cs : List (List α)) (k i : Nat) (u : List α), k < i → cs[k]? = some u → (cs.take k).flatten.length + u.length ≤ (cs.take i).flatten.length
  | [], k, i, u, _, h => by simp at h
  | c :: cs, 0, i, u, hk, h => by
    have hc : c = u := by simpa using h
    subst hc
    cases i with
    | zero => omega
    | succ i => simp
  | c :: cs, k + 1, i, u, hk, h => by
    cases i with
    | zero => omega
    | succ i =>
      have ih := fl_off cs k i u (by omega) (by simpa using h)
      simp only [List.take_succ_cons, List.flatten_cons, List.length_append]
      omega
theorem fl_apart {A : Nat → Prop} {cs : List va_W} (hD : va_D A cs.flatten) {k i a b : Nat} {u w : va_W} {x y : Nat × va_E} (hki : k ≠ i) (hu : cs[k]? = some u) (hx : u[a]? = some x) (hw : cs[i]? = some w) (hy : w[b]? = some y) : x.1 ≠ y.1 := by
  intro h
  have h1 := fl_get cs k a u x hu hx
  have h2 := fl_get cs i b w y hw hy
  have h3 := hD.1 _ _ x y h1 h2 h
  have la : a < u.length := (List.getElem?_eq_some_iff.mp hx).1
  have lb : b < w.length := (List.getElem?_eq_some_iff.mp hy).1
  rcases Nat.lt_or_gt_of_ne hki with hlt | hgt
  · have := fl_off cs k i u hlt hu
    omega
  · have := fl_off cs i k w hgt hw
    omega
/-- a place of the flat list lies in a component -/
theorem fl_mem {α : Type} : ∀ (cs : List (List α)) (n : Nat) (q : α), cs.flatten[n]? = some q → ∃ (i j : Nat) (w : List α), cs[i]? = some w ∧ w[j]? = some q ∧ n = (cs.take i).flatten.length + j
  | [], n, q, h => by simp at h
  | c :: cs, n, q, h => by
    rw [List.flatten_cons] at h
    by_cases hn : n < c.length
    · rw [List.getElem?_append_left hn] at h
      exact ⟨0, n, c, rfl, h, by simp⟩
    · rw [List.getElem?_append_right (by omega)] at h
      obtain ⟨i, j, w, h1, h2, h3⟩ := fl_mem cs _ q h
      exact ⟨i + 1, j, w, by simpa using h1, h2, by simp only [List.take_succ_cons, List.flatten_cons, List.length_append]; omega⟩
theorem sub_at {α : Type} {ws wc : List α} {pl : List Nat} (hs : pl.map (fun i => ws[i]?) = wc.map some) {k : Nat} {q : α} (h : wc[k]? = some q) : ∃ i, pl[k]? = some i ∧ ws[i]? = some q := by
  have h1 : (pl.map (fun i => ws[i]?))[k]? = some (some q) := by rw [hs, List.getElem?_map, h]; rfl
  rw [List.getElem?_map] at h1
  cases hi : pl[k]? with
  | none => rw [hi] at h1; cases h1
  | some i => rw [hi] at h1; exact ⟨i, rfl, Option.some.inj h1⟩
/-- a callee's components are a part of the caller's -/
theorem sub_P {D : va_G} {cl : List vw_C} {ws wc : List va_W} {H : Heap} {pl : List Nat} (hP : va_P D cl ws.flatten H) (hs : pl.map (fun i => ws[i]?) = wc.map some) : va_P D cl wc.flatten H := by
  intro n q hn
  obtain ⟨k, j, w, h1, h2, -⟩ := fl_mem wc n q hn
  obtain ⟨i, -, h3⟩ := sub_at hs h1
  exact hP _ q (fl_get ws i j w q h3 h2)
theorem sub_D {A : Nat → Prop} {ws wc : List va_W} {pl : List Nat} (hD : va_D A ws.flatten) (hnd : va_nd pl = true) (hs : pl.map (fun i => ws[i]?) = wc.map some) : va_D A wc.flatten := by
  refine ⟨fun n n' x y hn hn' hxy => ?_, fun n q hn => ?_⟩
  · obtain ⟨k, j, w, h1, h2, e1⟩ := fl_mem wc n x hn
    obtain ⟨k', j', w', h1', h2', e2⟩ := fl_mem wc n' y hn'
    obtain ⟨i, g1, h3⟩ := sub_at hs h1
    obtain ⟨i', g1', h3'⟩ := sub_at hs h1'
    by_cases hii : i = i'
    · subst hii
      have hk : k = k' := va_nd_inj pl hnd k k' i g1 g1'
      subst hk
      have hww : w = w' := Option.some.inj (h1.symm.trans h1')
      subst hww
      have h5 := hD.1 _ _ x y (fl_get ws i j w x h3 h2) (fl_get ws i j' w y h3' h2') hxy
      omega
    · exact absurd hxy (fl_apart hD hii h3 h2 h3' h2')
  · obtain ⟨k, j, w, h1, h2, -⟩ := fl_mem wc n q hn
    obtain ⟨i, -, h3⟩ := sub_at hs h1
    exact hD.2 _ q (fl_get ws i j w q h3 h2)
theorem gRepl_ok {A0 : Nat → Prop} {D : va_G} {cl : List vw_C} {ws wc w1 : List va_W} {H H1 : Heap} (hP : va_P D cl ws.flatten H) (hD : va_D A0 ws.flatten) (pl : List Nat) (hs : pl.map (fun i => ws[i]?) = wc.map some) (hf : w1.map (fun w => w.map (fun q => q.1)) = wc.map (fun w => w.map (fun q => q.1)))
    (hk : ∀ q : Nat, q < H.size → ¬ va_A wc.flatten H.size q → H1[q]? = H[q]?) (hP1 : va_P D cl w1.flatten H1) : va_P D cl (gRepl ws pl w1).flatten H1 ∧ va_D A0 (gRepl ws pl w1).flatten := by
  have hlen : pl.length = w1.length := by
    have h1 := congrArg List.length hs
    have h2 := congrArg List.length hf
    simp only [List.length_map] at h1 h2
    rw [h1, h2]
  have hmap := gRepl_map (fun w : va_W => w.map (fun q => q.1)) pl wc w1 ws hs hf
  refine ⟨fun n q hn => ?_, hD.of_fst ?_⟩
  · obtain ⟨k, j, w, g1, g2, -⟩ := fl_mem _ n q hn
    rcases gRepl_get pl w1 ws hlen k w g1 with ⟨j2, hj⟩ | ⟨hnk, hw⟩
    · exact hP1 _ q (fl_get w1 j2 j w q hj g2)
    · have h0 := hP _ q (fl_get ws k j w q hw g2)
      refine h0.kept (hk q.1 h0.lt (fun h => ?_))
      rcases h with ⟨k2, e, h⟩ | h
      · obtain ⟨k3, j3, w3, g3, g4, -⟩ := fl_mem wc k2 _ h
        obtain ⟨i, g5, g6⟩ := sub_at hs g3
        exact fl_apart hD (fun e => hnk (by rw [e]; exact List.mem_of_getElem? g5)) hw g2 g6 g4 rfl
      · have := h0.lt
        omega
  · rw [List.map_flatten, List.map_flatten, hmap]
section GQ
variable {p : Program} {l : Launch} {e : Env} {R : Room} {s : State} {m : MethodId} {args : Array Value} {below : List Frame} {meth : Method} {c : Code} {cc : ByteArray} {nL : Nat} {own : String} {D : va_G} {cI cZ : ClassId} {A : Nat → Prop} {H0 : Heap} {kc ks : Nat} {Q : State → Prop} {ws : List va_W} {pc : Nat} {lv : List (Nat × Value)} {st : List Value}
theorem gq_lv {lv' : List (Nat × Value)} (is : List Nat) (hl : lv_pick lv is = lv') (k : G p l e R s m args below meth c nL D A H0 kc ks Q ws pc lv' st) : G p l e R s m args below meth c nL D A H0 kc ks Q ws pc lv st :=
  fun H locs ls hP hD hS h => k H locs ls hP hD hS (lv_sub h is hl)
theorem gq_ws {ws' : List va_W} (hw : ws = ws') (k : G p l e R s m args below meth c nL D A H0 kc ks Q ws' pc lv st) : G p l e R s m args below meth c nL D A H0 kc ks Q ws pc lv st := hw ▸ k
theorem gq_iconst (C : gC p s m args c cc nL own D cI cZ) {i : Int} (v : Int32) (n : Nat) (hdg : decode cc pc = .ok (.iconst i, 1)) (hv : Int32.ofInt i = v) (hn : pc + 1 = n) (k : G p l e R s m args below meth c nL D A H0 kc ks Q ws n lv (.int v :: st)) : G p l e R s m args below meth c nL D A H0 kc ks Q ws pc lv st := by
  subst hn
  exact fun H locs ls hP hD hS hl => lv_iconst C.1 C.2.1 hdg hv (k H locs ls hP hD hS hl)
theorem gq_bipush (C : gC p s m args c cc nL own D cI cZ) {i : Int} (v : Int32) (n : Nat) (hdg : decode cc pc = .ok (.bipush i, 2)) (hv : (Int8.ofInt i).toInt32 = v) (hn : pc + 2 = n) (k : G p l e R s m args below meth c nL D A H0 kc ks Q ws n lv (.int v :: st)) : G p l e R s m args below meth c nL D A H0 kc ks Q ws pc lv st := by
  subst hn
  exact fun H locs ls hP hD hS hl => lv_bipush C.1 C.2.1 hdg hv (k H locs ls hP hD hS hl)
theorem gq_sipush (C : gC p s m args c cc nL own D cI cZ) {i : Int} (v : Int32) (n : Nat) (hdg : decode cc pc = .ok (.sipush i, 3)) (hv : (Int16.ofInt i).toInt32 = v) (hn : pc + 3 = n) (k : G p l e R s m args below meth c nL D A H0 kc ks Q ws n lv (.int v :: st)) : G p l e R s m args below meth c nL D A H0 kc ks Q ws pc lv st := by
  subst hn
  exact fun H locs ls hP hD hS hl => lv_sipush C.1 C.2.1 hdg hv (k H locs ls hP hD hS hl)
theorem gq_lconst (C : gC p s m args c cc nL own D cI cZ) {i : Fin 2} (v : Int64) (n : Nat) (hdg : decode cc pc = .ok (.lconst i, 1)) (hv : Int64.ofNat (i : Nat) = v) (hn : pc + 1 = n) (k : G p l e R s m args below meth c nL D A H0 kc ks Q ws n lv (.long v :: st)) : G p l e R s m args below meth c nL D A H0 kc ks Q ws pc lv st := by
  subst hn
  exact fun H locs ls hP hD hS hl => lv_lconst C.1 C.2.1 hdg hv (k H locs ls hP hD hS hl)
theorem gq_ldc (C : gC p s m args c cc nL own D cI cZ) {i : Nat} (v : Int32) (n : Nat) (hw : Jvm.Cond.constant own i v ∈ wsL_law) (hdg : decode cc pc = .ok (.ldc i, 2)) (hn : pc + 2 = n) (k : G p l e R s m args below meth c nL D A H0 kc ks Q ws n lv (.int v :: st)) : G p l e R s m args below meth c nL D A H0 kc ks Q ws pc lv st := by
  subst hn
  exact fun H locs ls hP hD hS hl => lv_ldc C.1 C.2.1 C.2.2.2.1 (C.2.2.2.2.1 _ hw) hdg (k H locs ls hP hD hS hl)
theorem gq_ldcw (C : gC p s m args c cc nL own D cI cZ) {i : Nat} (v : Int32) (n : Nat) (hw : Jvm.Cond.constant own i v ∈ wsL_law) (hdg : decode cc pc = .ok (.ldc_w i, 3)) (hn : pc + 3 = n) (k : G p l e R s m args below meth c nL D A H0 kc ks Q ws n lv (.int v :: st)) : G p l e R s m args below meth c nL D A H0 kc ks Q ws pc lv st := by
  subst hn
  exact fun H locs ls hP hD hS hl => lv_ldcw C.1 C.2.1 C.2.2.2.1 (C.2.2.2.2.1 _ hw) hdg (k H locs ls hP hD hS hl)
theorem gq_ldc2 (C : gC p s m args c cc nL own D cI cZ) {i : Nat} (v : Int64) (n : Nat) (hw : Jvm.Cond.constantLong own i v ∈ wsL_law) (hdg : decode cc pc = .ok (.ldc2_w i, 3)) (hn : pc + 3 = n) (k : G p l e R s m args below meth c nL D A H0 kc ks Q ws n lv (.long v :: st)) : G p l e R s m args below meth c nL D A H0 kc ks Q ws pc lv st := by
  subst hn
  exact fun H locs ls hP hD hS hl => lv_ldc2 C.1 C.2.1 C.2.2.2.1 (C.2.2.2.2.1 _ hw) hdg (k H locs ls hP hD hS hl)
theorem gq_iload_n (C : gC p s m args c cc nL own D cI cZ) {k : Fin 4} {x : Int32} (j n : Nat) (hdg : decode cc pc = .ok (.iload_n k, 1)) (hk : lv[j]? = some ((k : Nat), .int x)) (hn : pc + 1 = n) (kk : G p l e R s m args below meth c nL D A H0 kc ks Q ws n lv (.int x :: st)) : G p l e R s m args below meth c nL D A H0 kc ks Q ws pc lv st := by
  subst hn
  exact fun H locs ls hP hD hS hl => lv_iload_n C.1 C.2.1 hdg rfl (lv_at hl j hk) (kk H locs ls hP hD hS hl)
theorem gq_iload (C : gC p s m args c cc nL own D cI cZ) {i : Nat} {x : Int32} (j n : Nat) (hdg : decode cc pc = .ok (.iload i, 2)) (hk : lv[j]? = some (i, .int x)) (hn : pc + 2 = n) (kk : G p l e R s m args below meth c nL D A H0 kc ks Q ws n lv (.int x :: st)) : G p l e R s m args below meth c nL D A H0 kc ks Q ws pc lv st := by
  subst hn
  exact fun H locs ls hP hD hS hl => lv_iload C.1 C.2.1 hdg (lv_at hl j hk) (kk H locs ls hP hD hS hl)
theorem gq_lload_n (C : gC p s m args c cc nL own D cI cZ) {k : Fin 4} {x : Int64} (j n : Nat) (hdg : decode cc pc = .ok (.lload_n k, 1)) (hk : lv[j]? = some ((k : Nat), .long x)) (hn : pc + 1 = n) (kk : G p l e R s m args below meth c nL D A H0 kc ks Q ws n lv (.long x :: st)) : G p l e R s m args below meth c nL D A H0 kc ks Q ws pc lv st := by
  subst hn
  exact fun H locs ls hP hD hS hl => lv_lload_n C.1 C.2.1 hdg rfl (lv_at hl j hk) (kk H locs ls hP hD hS hl)
theorem gq_lload (C : gC p s m args c cc nL own D cI cZ) {i : Nat} {x : Int64} (j n : Nat) (hdg : decode cc pc = .ok (.lload i, 2)) (hk : lv[j]? = some (i, .long x)) (hn : pc + 2 = n) (kk : G p l e R s m args below meth c nL D A H0 kc ks Q ws n lv (.long x :: st)) : G p l e R s m args below meth c nL D A H0 kc ks Q ws pc lv st := by
  subst hn
  exact fun H locs ls hP hD hS hl => lv_lload C.1 C.2.1 hdg (lv_at hl j hk) (kk H locs ls hP hD hS hl)
theorem gq_aload_n (C : gC p s m args c cc nL own D cI cZ) {k : Fin 4} {x : Nat} (j n : Nat) (hdg : decode cc pc = .ok (.aload_n k, 1)) (hk : lv[j]? = some ((k : Nat), .ref x)) (hn : pc + 1 = n) (kk : G p l e R s m args below meth c nL D A H0 kc ks Q ws n lv (.ref x :: st)) : G p l e R s m args below meth c nL D A H0 kc ks Q ws pc lv st := by
  subst hn
  exact fun H locs ls hP hD hS hl => lv_aload_n C.1 C.2.1 hdg rfl (lv_at hl j hk) (kk H locs ls hP hD hS hl)
theorem gq_aload (C : gC p s m args c cc nL own D cI cZ) {i x : Nat} (j n : Nat) (hdg : decode cc pc = .ok (.aload i, 2)) (hk : lv[j]? = some (i, .ref x)) (hn : pc + 2 = n) (kk : G p l e R s m args below meth c nL D A H0 kc ks Q ws n lv (.ref x :: st)) : G p l e R s m args below meth c nL D A H0 kc ks Q ws pc lv st := by
  subst hn
  exact fun H locs ls hP hD hS hl => lv_aload C.1 C.2.1 hdg (lv_at hl j hk) (kk H locs ls hP hD hS hl)
theorem gq_istore_n (C : gC p s m args c cc nL own D cI cZ) {k : Fin 4} {x : Int32} (lv' : List (Nat × Value)) (n : Nat) (hdg : decode cc pc = .ok (.istore_n k, 1)) (hi : (k : Nat) < nL) (hl : ((k : Nat), Value.int x) :: lv.filter (fun q => !(q.1 == (k : Nat)) && !(q.1 + 1 == (k : Nat) && q.2.category == 2)) = lv') (hn : pc + 1 = n) (kk : G p l e R s m args below meth c nL D A H0 kc ks Q ws n lv' st) : G p l e R s m args below meth c nL D A H0 kc ks Q ws pc lv (.int x :: st) := by
  subst hn
  exact fun H locs ls hP hD hS h => lv_istore_n C.1 C.2.1 hdg rfl h hi hl (fun ls' h' => kk H locs ls' hP hD hS h')
theorem gq_istore (C : gC p s m args c cc nL own D cI cZ) {i : Nat} {x : Int32} (lv' : List (Nat × Value)) (n : Nat) (hdg : decode cc pc = .ok (.istore i, 2)) (hi : i < nL) (hl : (i, Value.int x) :: lv.filter (fun q => !(q.1 == i) && !(q.1 + 1 == i && q.2.category == 2)) = lv') (hn : pc + 2 = n) (kk : G p l e R s m args below meth c nL D A H0 kc ks Q ws n lv' st) : G p l e R s m args below meth c nL D A H0 kc ks Q ws pc lv (.int x :: st) := by
  subst hn
  exact fun H locs ls hP hD hS h => lv_istore C.1 C.2.1 hdg h hi hl (fun ls' h' => kk H locs ls' hP hD hS h')
theorem gq_lstore_n (C : gC p s m args c cc nL own D cI cZ) {k : Fin 4} {x : Int64} (lv' : List (Nat × Value)) (n : Nat) (hdg : decode cc pc = .ok (.lstore_n k, 1)) (hi : (k : Nat) + 1 < nL) (hl : ((k : Nat), Value.long x) :: lv.filter (fun q => !(q.1 == (k : Nat)) && (!(q.1 == (k : Nat) + 1) && !(q.1 + 1 == (k : Nat) && q.2.category == 2))) = lv') (hn : pc + 1 = n) (kk : G p l e R s m args below meth c nL D A H0 kc ks Q ws n lv' st) : G p l e R s m args below meth c nL D A H0 kc ks Q ws pc lv (.long x :: st) := by
  subst hn
  exact fun H locs ls hP hD hS h => lv_lstore_n C.1 C.2.1 hdg rfl h hi hl (fun ls' h' => kk H locs ls' hP hD hS h')
theorem gq_lstore (C : gC p s m args c cc nL own D cI cZ) {i : Nat} {x : Int64} (lv' : List (Nat × Value)) (n : Nat) (hdg : decode cc pc = .ok (.lstore i, 2)) (hi : i + 1 < nL) (hl : (i, Value.long x) :: lv.filter (fun q => !(q.1 == i) && (!(q.1 == i + 1) && !(q.1 + 1 == i && q.2.category == 2))) = lv') (hn : pc + 2 = n) (kk : G p l e R s m args below meth c nL D A H0 kc ks Q ws n lv' st) : G p l e R s m args below meth c nL D A H0 kc ks Q ws pc lv (.long x :: st) := by
  subst hn
  exact fun H locs ls hP hD hS h => lv_lstore C.1 C.2.1 hdg h hi hl (fun ls' h' => kk H locs ls' hP hD hS h')
theorem gq_astore_n (C : gC p s m args c cc nL own D cI cZ) {k : Fin 4} {x : Nat} (lv' : List (Nat × Value)) (n : Nat) (hdg : decode cc pc = .ok (.astore_n k, 1)) (hi : (k : Nat) < nL) (hl : ((k : Nat), Value.ref x) :: lv.filter (fun q => !(q.1 == (k : Nat)) && !(q.1 + 1 == (k : Nat) && q.2.category == 2)) = lv') (hn : pc + 1 = n) (kk : G p l e R s m args below meth c nL D A H0 kc ks Q ws n lv' st) : G p l e R s m args below meth c nL D A H0 kc ks Q ws pc lv (.ref x :: st) := by
  subst hn
  exact fun H locs ls hP hD hS h => lv_astore_n C.1 C.2.1 hdg rfl h hi hl (fun ls' h' => kk H locs ls' hP hD hS h')
theorem gq_astore (C : gC p s m args c cc nL own D cI cZ) {i x : Nat} (lv' : List (Nat × Value)) (n : Nat) (hdg : decode cc pc = .ok (.astore i, 2)) (hi : i < nL) (hl : (i, Value.ref x) :: lv.filter (fun q => !(q.1 == i) && !(q.1 + 1 == i && q.2.category == 2)) = lv') (hn : pc + 2 = n) (kk : G p l e R s m args below meth c nL D A H0 kc ks Q ws n lv' st) : G p l e R s m args below meth c nL D A H0 kc ks Q ws pc lv (.ref x :: st) := by
  subst hn
  exact fun H locs ls hP hD hS h => lv_astore C.1 C.2.1 hdg h hi hl (fun ls' h' => kk H locs ls' hP hD hS h')
theorem gq_iinc (C : gC p s m args c cc nL own D cI cZ) {i : Nat} {d : Int} {x v : Int32} (j : Nat) (lv' : List (Nat × Value)) (n : Nat) (hdg : decode cc pc = .ok (.iinc i d, 3)) (hk : lv[j]? = some (i, .int x)) (hv : x + Int32.ofInt d = v) (hi : i < nL) (hl : (i, Value.int v) :: lv.filter (fun q => !(q.1 == i) && !(q.1 + 1 == i && q.2.category == 2)) = lv') (hn : pc + 3 = n) (kk : G p l e R s m args below meth c nL D A H0 kc ks Q ws n lv' st) : G p l e R s m args below meth c nL D A H0 kc ks Q ws pc lv st := by
  subst hn
  exact fun H locs ls hP hD hS h => lv_iinc C.1 C.2.1 hdg h hk hv hi hl (fun ls' h' => kk H locs ls' hP hD hS h')
theorem gq_iadd (C : gC p s m args c cc nL own D cI cZ) {x y : Int32} (n : Nat) (hdg : decode cc pc = .ok (.iadd, 1)) (hn : pc + 1 = n) (k : G p l e R s m args below meth c nL D A H0 kc ks Q ws n lv (.int (x + y) :: st)) : G p l e R s m args below meth c nL D A H0 kc ks Q ws pc lv (.int y :: .int x :: st) := by
  subst hn
  exact fun H locs ls hP hD hS hl => lv_iadd C.1 C.2.1 hdg (k H locs ls hP hD hS hl)
theorem gq_isub (C : gC p s m args c cc nL own D cI cZ) {x y : Int32} (n : Nat) (hdg : decode cc pc = .ok (.isub, 1)) (hn : pc + 1 = n) (k : G p l e R s m args below meth c nL D A H0 kc ks Q ws n lv (.int (x - y) :: st)) : G p l e R s m args below meth c nL D A H0 kc ks Q ws pc lv (.int y :: .int x :: st) := by
  subst hn
  exact fun H locs ls hP hD hS hl => lv_isub C.1 C.2.1 hdg (k H locs ls hP hD hS hl)
theorem gq_imul (C : gC p s m args c cc nL own D cI cZ) {x y : Int32} (n : Nat) (hdg : decode cc pc = .ok (.imul, 1)) (hn : pc + 1 = n) (k : G p l e R s m args below meth c nL D A H0 kc ks Q ws n lv (.int (x * y) :: st)) : G p l e R s m args below meth c nL D A H0 kc ks Q ws pc lv (.int y :: .int x :: st) := by
  subst hn
  exact fun H locs ls hP hD hS hl => lv_imul C.1 C.2.1 hdg (k H locs ls hP hD hS hl)
theorem gq_iand (C : gC p s m args c cc nL own D cI cZ) {x y : Int32} (n : Nat) (hdg : decode cc pc = .ok (.iand, 1)) (hn : pc + 1 = n) (k : G p l e R s m args below meth c nL D A H0 kc ks Q ws n lv (.int (x &&& y) :: st)) : G p l e R s m args below meth c nL D A H0 kc ks Q ws pc lv (.int y :: .int x :: st) := by
  subst hn
  exact fun H locs ls hP hD hS hl => lv_iand C.1 C.2.1 hdg (k H locs ls hP hD hS hl)
theorem gq_ior (C : gC p s m args c cc nL own D cI cZ) {x y : Int32} (n : Nat) (hdg : decode cc pc = .ok (.ior, 1)) (hn : pc + 1 = n) (k : G p l e R s m args below meth c nL D A H0 kc ks Q ws n lv (.int (x ||| y) :: st)) : G p l e R s m args below meth c nL D A H0 kc ks Q ws pc lv (.int y :: .int x :: st) := by
  subst hn
  exact fun H locs ls hP hD hS hl => lv_ior C.1 C.2.1 hdg (k H locs ls hP hD hS hl)
theorem gq_ixor (C : gC p s m args c cc nL own D cI cZ) {x y : Int32} (n : Nat) (hdg : decode cc pc = .ok (.ixor, 1)) (hn : pc + 1 = n) (k : G p l e R s m args below meth c nL D A H0 kc ks Q ws n lv (.int (x ^^^ y) :: st)) : G p l e R s m args below meth c nL D A H0 kc ks Q ws pc lv (.int y :: .int x :: st) := by
  subst hn
  exact fun H locs ls hP hD hS hl => lv_ixor C.1 C.2.1 hdg (k H locs ls hP hD hS hl)
theorem gq_ishl (C : gC p s m args c cc nL own D cI cZ) {x y : Int32} (n : Nat) (hdg : decode cc pc = .ok (.ishl, 1)) (hn : pc + 1 = n) (k : G p l e R s m args below meth c nL D A H0 kc ks Q ws n lv (.int (x <<< (y &&& 31)) :: st)) : G p l e R s m args below meth c nL D A H0 kc ks Q ws pc lv (.int y :: .int x :: st) := by
  subst hn
  exact fun H locs ls hP hD hS hl => lv_ishl C.1 C.2.1 hdg (k H locs ls hP hD hS hl)
theorem gq_ishr (C : gC p s m args c cc nL own D cI cZ) {x y : Int32} (n : Nat) (hdg : decode cc pc = .ok (.ishr, 1)) (hn : pc + 1 = n) (k : G p l e R s m args below meth c nL D A H0 kc ks Q ws n lv (.int (x >>> (y &&& 31)) :: st)) : G p l e R s m args below meth c nL D A H0 kc ks Q ws pc lv (.int y :: .int x :: st) := by
  subst hn
  exact fun H locs ls hP hD hS hl => lv_ishr C.1 C.2.1 hdg (k H locs ls hP hD hS hl)
theorem gq_ladd (C : gC p s m args c cc nL own D cI cZ) {x y : Int64} (n : Nat) (hdg : decode cc pc = .ok (.ladd, 1)) (hn : pc + 1 = n) (k : G p l e R s m args below meth c nL D A H0 kc ks Q ws n lv (.long (x + y) :: st)) : G p l e R s m args below meth c nL D A H0 kc ks Q ws pc lv (.long y :: .long x :: st) := by
  subst hn
  exact fun H locs ls hP hD hS hl => lv_ladd C.1 C.2.1 hdg (k H locs ls hP hD hS hl)
theorem gq_lsub (C : gC p s m args c cc nL own D cI cZ) {x y : Int64} (n : Nat) (hdg : decode cc pc = .ok (.lsub, 1)) (hn : pc + 1 = n) (k : G p l e R s m args below meth c nL D A H0 kc ks Q ws n lv (.long (x - y) :: st)) : G p l e R s m args below meth c nL D A H0 kc ks Q ws pc lv (.long y :: .long x :: st) := by
  subst hn
  exact fun H locs ls hP hD hS hl => lv_lsub C.1 C.2.1 hdg (k H locs ls hP hD hS hl)
theorem gq_lmul (C : gC p s m args c cc nL own D cI cZ) {x y : Int64} (n : Nat) (hdg : decode cc pc = .ok (.lmul, 1)) (hn : pc + 1 = n) (k : G p l e R s m args below meth c nL D A H0 kc ks Q ws n lv (.long (x * y) :: st)) : G p l e R s m args below meth c nL D A H0 kc ks Q ws pc lv (.long y :: .long x :: st) := by
  subst hn
  exact fun H locs ls hP hD hS hl => lv_lmul C.1 C.2.1 hdg (k H locs ls hP hD hS hl)
theorem gq_idiv (C : gC p s m args c cc nL own D cI cZ) {x y : Int32} (n : Nat) (hdg : decode cc pc = .ok (.idiv, 1)) (hne : ¬ y = 0) (hn : pc + 1 = n) (k : G p l e R s m args below meth c nL D A H0 kc ks Q ws n lv (.int (x / y) :: st)) : G p l e R s m args below meth c nL D A H0 kc ks Q ws pc lv (.int y :: .int x :: st) := by
  subst hn
  exact fun H locs ls hP hD hS hl => lv_idiv C.1 C.2.1 hdg hne (k H locs ls hP hD hS hl)
theorem gq_irem (C : gC p s m args c cc nL own D cI cZ) {x y : Int32} (n : Nat) (hdg : decode cc pc = .ok (.irem, 1)) (hne : ¬ y = 0) (hn : pc + 1 = n) (k : G p l e R s m args below meth c nL D A H0 kc ks Q ws n lv (.int (x - x / y * y) :: st)) : G p l e R s m args below meth c nL D A H0 kc ks Q ws pc lv (.int y :: .int x :: st) := by
  subst hn
  exact fun H locs ls hP hD hS hl => lv_irem C.1 C.2.1 hdg hne (k H locs ls hP hD hS hl)
theorem gq_ldiv (C : gC p s m args c cc nL own D cI cZ) {x y : Int64} (n : Nat) (hdg : decode cc pc = .ok (.ldiv, 1)) (hne : ¬ y = 0) (hn : pc + 1 = n) (k : G p l e R s m args below meth c nL D A H0 kc ks Q ws n lv (.long (x / y) :: st)) : G p l e R s m args below meth c nL D A H0 kc ks Q ws pc lv (.long y :: .long x :: st) := by
  subst hn
  exact fun H locs ls hP hD hS hl => lv_ldiv C.1 C.2.1 hdg hne (k H locs ls hP hD hS hl)
theorem gq_lrem (C : gC p s m args c cc nL own D cI cZ) {x y : Int64} (n : Nat) (hdg : decode cc pc = .ok (.lrem, 1)) (hne : ¬ y = 0) (hn : pc + 1 = n) (k : G p l e R s m args below meth c nL D A H0 kc ks Q ws n lv (.long (x - x / y * y) :: st)) : G p l e R s m args below meth c nL D A H0 kc ks Q ws pc lv (.long y :: .long x :: st) := by
  subst hn
  exact fun H locs ls hP hD hS hl => lv_lrem C.1 C.2.1 hdg hne (k H locs ls hP hD hS hl)
theorem gq_lcmp (C : gC p s m args c cc nL own D cI cZ) {x y : Int64} (n : Nat) (hdg : decode cc pc = .ok (.lcmp, 1)) (hn : pc + 1 = n) (k : G p l e R s m args below meth c nL D A H0 kc ks Q ws n lv (.int (lg_cmp x y) :: st)) : G p l e R s m args below meth c nL D A H0 kc ks Q ws pc lv (.long y :: .long x :: st) := by
  subst hn
  exact fun H locs ls hP hD hS hl => W.lcmp C.1 C.2.1 hdg (k H locs ls hP hD hS hl)
theorem gq_iushr (C : gC p s m args c cc nL own D cI cZ) {x y : Int32} (n : Nat) (hdg : decode cc pc = .ok (.iushr, 1)) (hn : pc + 1 = n) (k : G p l e R s m args below meth c nL D A H0 kc ks Q ws n lv (.int (x.toUInt32 >>> (y.toUInt32 &&& Int32.toUInt32 31)).toInt32 :: st)) : G p l e R s m args below meth c nL D A H0 kc ks Q ws pc lv (.int y :: .int x :: st) := by
  subst hn
  exact fun H locs ls hP hD hS hl => lv_iushr C.1 C.2.1 hdg rfl (k H locs ls hP hD hS hl)
theorem gq_i2l (C : gC p s m args c cc nL own D cI cZ) {x : Int32} (n : Nat) (hdg : decode cc pc = .ok (.i2l, 1)) (hn : pc + 1 = n) (k : G p l e R s m args below meth c nL D A H0 kc ks Q ws n lv (.long x.toInt64 :: st)) : G p l e R s m args below meth c nL D A H0 kc ks Q ws pc lv (.int x :: st) := by
  subst hn
  exact fun H locs ls hP hD hS hl => lv_i2l C.1 C.2.1 hdg rfl (k H locs ls hP hD hS hl)
theorem gq_pop (C : gC p s m args c cc nL own D cI cZ) {v : Value} (n : Nat) (hdg : decode cc pc = .ok (.pop, 1)) (hva : v.category = 1) (hn : pc + 1 = n) (k : G p l e R s m args below meth c nL D A H0 kc ks Q ws n lv st) : G p l e R s m args below meth c nL D A H0 kc ks Q ws pc lv (v :: st) := by
  subst hn
  exact fun H locs ls hP hD hS hl => lv_pop C.1 C.2.1 hdg hva (k H locs ls hP hD hS hl)
theorem gq_dup (C : gC p s m args c cc nL own D cI cZ) {v : Value} (n : Nat) (hdg : decode cc pc = .ok (.dup, 1)) (hva : v.category = 1) (hn : pc + 1 = n) (k : G p l e R s m args below meth c nL D A H0 kc ks Q ws n lv (v :: v :: st)) : G p l e R s m args below meth c nL D A H0 kc ks Q ws pc lv (v :: st) := by
  subst hn
  exact fun H locs ls hP hD hS hl => lv_dup C.1 C.2.1 hdg hva (k H locs ls hP hD hS hl)
theorem gq_dup2 (C : gC p s m args c cc nL own D cI cZ) {v w : Value} (n : Nat) (hdg : decode cc pc = .ok (.dup2, 1)) (hva : v.category = 1) (hvb : w.category = 1) (hn : pc + 1 = n) (k : G p l e R s m args below meth c nL D A H0 kc ks Q ws n lv (v :: w :: v :: w :: st)) : G p l e R s m args below meth c nL D A H0 kc ks Q ws pc lv (v :: w :: st) := by
  subst hn
  exact fun H locs ls hP hD hS hl => lv_dup2_11 C.1 C.2.1 hdg hva hvb (k H locs ls hP hD hS hl)
theorem gq_null (C : gC p s m args c cc nL own D cI cZ) (n : Nat) (hdg : decode cc pc = .ok (.aconst_null, 1)) (hn : pc + 1 = n) (k : G p l e R s m args below meth c nL D A H0 kc ks Q ws n lv (.null :: st)) : G p l e R s m args below meth c nL D A H0 kc ks Q ws pc lv st := by
  subst hn
  exact fun H locs ls hP hD hS hl => lv_null C.1 C.2.1 hdg (k H locs ls hP hD hS hl)
theorem gq_goto (C : gC p s m args c cc nL own D cI cZ) {off : Int} (tgt : Nat) (hdg : decode cc pc = .ok (.goto off, 3)) (ht : (pc : Int) + off = (tgt : Int)) (k : G p l e R s m args below meth c nL D A H0 kc ks Q ws tgt lv st) : G p l e R s m args below meth c nL D A H0 kc ks Q ws pc lv st :=
  fun H locs ls hP hD hS hl => lv_goto C.1 C.2.1 hdg ht (k H locs ls hP hD hS hl)
theorem gq_ifnull (C : gC p s m args c cc nL own D cI cZ) {off : Int} {x : Nat} (n : Nat) (hdg : decode cc pc = .ok (.ifnull off, 3)) (hn : pc + 3 = n) (k : G p l e R s m args below meth c nL D A H0 kc ks Q ws n lv st) : G p l e R s m args below meth c nL D A H0 kc ks Q ws pc lv (.ref x :: st) := by
  subst hn
  exact fun H locs ls hP hD hS hl => lv_ifnull C.1 C.2.1 hdg (k H locs ls hP hD hS hl)
theorem gq_ifnonnull (C : gC p s m args c cc nL own D cI cZ) {off : Int} {x : Nat} (tgt : Nat) (hdg : decode cc pc = .ok (.ifnonnull off, 3)) (ht : (pc : Int) + off = (tgt : Int)) (k : G p l e R s m args below meth c nL D A H0 kc ks Q ws tgt lv st) : G p l e R s m args below meth c nL D A H0 kc ks Q ws pc lv (.ref x :: st) :=
  fun H locs ls hP hD hS hl => lv_ifnonnull C.1 C.2.1 hdg ht (k H locs ls hP hD hS hl)
theorem gq_icmp_eq (C : gC p s m args c cc nL own D cI cZ) {x y : Int32} {off : Int} (tgt n : Nat) (hdg : decode cc pc = .ok (.if_icmp .eq off, 3)) (ht : (pc : Int) + off = (tgt : Int)) (hn : pc + 3 = n) (kt : x = y → G p l e R s m args below meth c nL D A H0 kc ks Q ws tgt lv st) (kf : ¬ x = y → G p l e R s m args below meth c nL D A H0 kc ks Q ws n lv st) : G p l e R s m args below meth c nL D A H0 kc ks Q ws pc lv (.int y :: .int x :: st) := by
  subst hn
  exact fun H locs ls hP hD hS hl => lv_icmp_eq C.1 C.2.1 hdg ht (fun h => kt h H locs ls hP hD hS hl) (fun h => kf h H locs ls hP hD hS hl)
theorem gq_if_eq (C : gC p s m args c cc nL own D cI cZ) {x : Int32} {off : Int} (tgt n : Nat) (hdg : decode cc pc = .ok (.ifCond .eq off, 3)) (ht : (pc : Int) + off = (tgt : Int)) (hn : pc + 3 = n) (kt : x = 0 → G p l e R s m args below meth c nL D A H0 kc ks Q ws tgt lv st) (kf : ¬ x = 0 → G p l e R s m args below meth c nL D A H0 kc ks Q ws n lv st) : G p l e R s m args below meth c nL D A H0 kc ks Q ws pc lv (.int x :: st) := by
  subst hn
  exact fun H locs ls hP hD hS hl => lv_if_eq C.1 C.2.1 hdg ht (fun h => kt h H locs ls hP hD hS hl) (fun h => kf h H locs ls hP hD hS hl)
theorem gq_icmp_ne (C : gC p s m args c cc nL own D cI cZ) {x y : Int32} {off : Int} (tgt n : Nat) (hdg : decode cc pc = .ok (.if_icmp .ne off, 3)) (ht : (pc : Int) + off = (tgt : Int)) (hn : pc + 3 = n) (kt : ¬ x = y → G p l e R s m args below meth c nL D A H0 kc ks Q ws tgt lv st) (kf : x = y → G p l e R s m args below meth c nL D A H0 kc ks Q ws n lv st) : G p l e R s m args below meth c nL D A H0 kc ks Q ws pc lv (.int y :: .int x :: st) := by
  subst hn
  exact fun H locs ls hP hD hS hl => lv_icmp_ne C.1 C.2.1 hdg ht (fun h => kt h H locs ls hP hD hS hl) (fun h => kf h H locs ls hP hD hS hl)
theorem gq_if_ne (C : gC p s m args c cc nL own D cI cZ) {x : Int32} {off : Int} (tgt n : Nat) (hdg : decode cc pc = .ok (.ifCond .ne off, 3)) (ht : (pc : Int) + off = (tgt : Int)) (hn : pc + 3 = n) (kt : ¬ x = 0 → G p l e R s m args below meth c nL D A H0 kc ks Q ws tgt lv st) (kf : x = 0 → G p l e R s m args below meth c nL D A H0 kc ks Q ws n lv st) : G p l e R s m args below meth c nL D A H0 kc ks Q ws pc lv (.int x :: st) := by
  subst hn
  exact fun H locs ls hP hD hS hl => lv_if_ne C.1 C.2.1 hdg ht (fun h => kt h H locs ls hP hD hS hl) (fun h => kf h H locs ls hP hD hS hl)
theorem gq_icmp_lt (C : gC p s m args c cc nL own D cI cZ) {x y : Int32} {off : Int} (tgt n : Nat) (hdg : decode cc pc = .ok (.if_icmp .lt off, 3)) (ht : (pc : Int) + off = (tgt : Int)) (hn : pc + 3 = n) (kt : x < y → G p l e R s m args below meth c nL D A H0 kc ks Q ws tgt lv st) (kf : ¬ x < y → G p l e R s m args below meth c nL D A H0 kc ks Q ws n lv st) : G p l e R s m args below meth c nL D A H0 kc ks Q ws pc lv (.int y :: .int x :: st) := by
  subst hn
  exact fun H locs ls hP hD hS hl => lv_icmp_lt C.1 C.2.1 hdg ht (fun h => kt h H locs ls hP hD hS hl) (fun h => kf h H locs ls hP hD hS hl)
theorem gq_if_lt (C : gC p s m args c cc nL own D cI cZ) {x : Int32} {off : Int} (tgt n : Nat) (hdg : decode cc pc = .ok (.ifCond .lt off, 3)) (ht : (pc : Int) + off = (tgt : Int)) (hn : pc + 3 = n) (kt : x < 0 → G p l e R s m args below meth c nL D A H0 kc ks Q ws tgt lv st) (kf : ¬ x < 0 → G p l e R s m args below meth c nL D A H0 kc ks Q ws n lv st) : G p l e R s m args below meth c nL D A H0 kc ks Q ws pc lv (.int x :: st) := by
  subst hn
  exact fun H locs ls hP hD hS hl => lv_if_lt C.1 C.2.1 hdg ht (fun h => kt h H locs ls hP hD hS hl) (fun h => kf h H locs ls hP hD hS hl)
theorem gq_icmp_ge (C : gC p s m args c cc nL own D cI cZ) {x y : Int32} {off : Int} (tgt n : Nat) (hdg : decode cc pc = .ok (.if_icmp .ge off, 3)) (ht : (pc : Int) + off = (tgt : Int)) (hn : pc + 3 = n) (kt : y ≤ x → G p l e R s m args below meth c nL D A H0 kc ks Q ws tgt lv st) (kf : ¬ y ≤ x → G p l e R s m args below meth c nL D A H0 kc ks Q ws n lv st) : G p l e R s m args below meth c nL D A H0 kc ks Q ws pc lv (.int y :: .int x :: st) := by
  subst hn
  exact fun H locs ls hP hD hS hl => lv_icmp_ge C.1 C.2.1 hdg ht (fun h => kt h H locs ls hP hD hS hl) (fun h => kf h H locs ls hP hD hS hl)
theorem gq_if_ge (C : gC p s m args c cc nL own D cI cZ) {x : Int32} {off : Int} (tgt n : Nat) (hdg : decode cc pc = .ok (.ifCond .ge off, 3)) (ht : (pc : Int) + off = (tgt : Int)) (hn : pc + 3 = n) (kt : 0 ≤ x → G p l e R s m args below meth c nL D A H0 kc ks Q ws tgt lv st) (kf : ¬ 0 ≤ x → G p l e R s m args below meth c nL D A H0 kc ks Q ws n lv st) : G p l e R s m args below meth c nL D A H0 kc ks Q ws pc lv (.int x :: st) := by
  subst hn
  exact fun H locs ls hP hD hS hl => lv_if_ge C.1 C.2.1 hdg ht (fun h => kt h H locs ls hP hD hS hl) (fun h => kf h H locs ls hP hD hS hl)
theorem gq_icmp_gt (C : gC p s m args c cc nL own D cI cZ) {x y : Int32} {off : Int} (tgt n : Nat) (hdg : decode cc pc = .ok (.if_icmp .gt off, 3)) (ht : (pc : Int) + off = (tgt : Int)) (hn : pc + 3 = n) (kt : y < x → G p l e R s m args below meth c nL D A H0 kc ks Q ws tgt lv st) (kf : ¬ y < x → G p l e R s m args below meth c nL D A H0 kc ks Q ws n lv st) : G p l e R s m args below meth c nL D A H0 kc ks Q ws pc lv (.int y :: .int x :: st) := by
  subst hn
  exact fun H locs ls hP hD hS hl => lv_icmp_gt C.1 C.2.1 hdg ht (fun h => kt h H locs ls hP hD hS hl) (fun h => kf h H locs ls hP hD hS hl)
theorem gq_if_gt (C : gC p s m args c cc nL own D cI cZ) {x : Int32} {off : Int} (tgt n : Nat) (hdg : decode cc pc = .ok (.ifCond .gt off, 3)) (ht : (pc : Int) + off = (tgt : Int)) (hn : pc + 3 = n) (kt : 0 < x → G p l e R s m args below meth c nL D A H0 kc ks Q ws tgt lv st) (kf : ¬ 0 < x → G p l e R s m args below meth c nL D A H0 kc ks Q ws n lv st) : G p l e R s m args below meth c nL D A H0 kc ks Q ws pc lv (.int x :: st) := by
  subst hn
  exact fun H locs ls hP hD hS hl => lv_if_gt C.1 C.2.1 hdg ht (fun h => kt h H locs ls hP hD hS hl) (fun h => kf h H locs ls hP hD hS hl)
theorem gq_icmp_le (C : gC p s m args c cc nL own D cI cZ) {x y : Int32} {off : Int} (tgt n : Nat) (hdg : decode cc pc = .ok (.if_icmp .le off, 3)) (ht : (pc : Int) + off = (tgt : Int)) (hn : pc + 3 = n) (kt : x ≤ y → G p l e R s m args below meth c nL D A H0 kc ks Q ws tgt lv st) (kf : ¬ x ≤ y → G p l e R s m args below meth c nL D A H0 kc ks Q ws n lv st) : G p l e R s m args below meth c nL D A H0 kc ks Q ws pc lv (.int y :: .int x :: st) := by
  subst hn
  exact fun H locs ls hP hD hS hl => lv_icmp_le C.1 C.2.1 hdg ht (fun h => kt h H locs ls hP hD hS hl) (fun h => kf h H locs ls hP hD hS hl)
theorem gq_if_le (C : gC p s m args c cc nL own D cI cZ) {x : Int32} {off : Int} (tgt n : Nat) (hdg : decode cc pc = .ok (.ifCond .le off, 3)) (ht : (pc : Int) + off = (tgt : Int)) (hn : pc + 3 = n) (kt : x ≤ 0 → G p l e R s m args below meth c nL D A H0 kc ks Q ws tgt lv st) (kf : ¬ x ≤ 0 → G p l e R s m args below meth c nL D A H0 kc ks Q ws n lv st) : G p l e R s m args below meth c nL D A H0 kc ks Q ws pc lv (.int x :: st) := by
  subst hn
  exact fun H locs ls hP hD hS hl => lv_if_le C.1 C.2.1 hdg ht (fun h => kt h H locs ls hP hD hS hl) (fun h => kf h H locs ls hP hD hS hl)
theorem gq_tableIn (C : gC p s m args c cc nL own D cI cZ) {dflt lo hi : Int} {offs : Array Int} {len : Nat} {x : Int32} {off : Int} (tgt : Nat) (hdg : decode cc pc = .ok (.tableswitch dflt lo hi offs, len)) (h1 : ¬ x.toInt < lo) (h2 : ¬ hi < x.toInt) (ho : offs[(x.toInt - lo).toNat]? = some off) (ht : (pc : Int) + off = (tgt : Int)) (k : G p l e R s m args below meth c nL D A H0 kc ks Q ws tgt lv st) : G p l e R s m args below meth c nL D A H0 kc ks Q ws pc lv (.int x :: st) :=
  fun H locs ls hP hD hS hl => lv_tableIn C.1 C.2.1 hdg h1 h2 ho ht (k H locs ls hP hD hS hl)
theorem gq_tableOut (C : gC p s m args c cc nL own D cI cZ) {dflt lo hi : Int} {offs : Array Int} {len : Nat} {x : Int32} (tgt : Nat) (hdg : decode cc pc = .ok (.tableswitch dflt lo hi offs, len)) (h : x.toInt < lo ∨ hi < x.toInt) (ht : (pc : Int) + dflt = (tgt : Int)) (k : G p l e R s m args below meth c nL D A H0 kc ks Q ws tgt lv st) : G p l e R s m args below meth c nL D A H0 kc ks Q ws pc lv (.int x :: st) :=
  fun H locs ls hP hD hS hl => lv_tableOut C.1 C.2.1 hdg h ht (k H locs ls hP hD hS hl)
theorem gq_lookup (C : gC p s m args c cc nL own D cI cZ) {dflt : Int} {ps : Array (Int × Int)} {len : Nat} {x : Int32} {off : Int} (tgt : Nat) (hdg : decode cc pc = .ok (.lookupswitch dflt ps, len)) (hp : (ps.toList.zip (ps.toList.drop 1)).all (fun (a, next) => a.1 < next.1) = true) (ho : Op.lookupswitch.offset ps.toList dflt x.toInt = off) (ht : (pc : Int) + off = (tgt : Int)) (k : G p l e R s m args below meth c nL D A H0 kc ks Q ws tgt lv st) : G p l e R s m args below meth c nL D A H0 kc ks Q ws pc lv (.int x :: st) :=
  fun H locs ls hP hD hS hl => lv_lookup C.1 C.2.1 hdg hp ho ht (k H locs ls hP hD hS hl)
end GQ
section GM
variable {p : Program} {l : Launch} {e : Env} {R : Room} {s : State} {m : MethodId} {args : Array Value} {below : List Frame} {meth : Method} {c : Code} {cc : ByteArray} {nL : Nat} {own : String} {D : va_G} {cI cZ : ClassId} {A : Nat → Prop} {H0 : Heap} {kc ks : Nat} {Q : State → Prop} {ws : List va_W} {pc : Nat} {lv : List (Nat × Value)} {st : List Value}
/-- what a field's rows need of the tables -/
def gFO (ci : Nat) (C : String) (T : u_T) (N : Nat) (k : Nat) : Prop := vwCl[ci]? = some (C, T, N) ∧ (∀ w ∈ u_ws C T N, w ∈ wsL_law) ∧ k < N ∧ (T k).1 = C
def gFP (C : String) (T : u_T) (N : Nat) (k : Nat) (ty0 : Nat → FieldType) (ty : FieldType) : Prop := (∀ k, k < N → parseFieldDescriptor (T k).2.2.1 = some (ty0 k)) ∧ (∀ a, a < N → ∀ b, b < N → a ≠ b → (T a).2.1 ≠ (T b).2.1) ∧ parseFieldDescriptor (T k).2.2.1 = some ty
theorem gq_get (C : gC p s m args c cc nL own D cI cZ) {ix ci N k a : Nat} {Cn : String} {T : u_T} {fs : List Value} {v : Value} (F : gFO ci Cn T N k) (hw : Cond.fieldLink own ix Cn (T k).2.1 (T k).2.2.1 ∈ wsL_law) {w0 : va_W} (i0 q0 n : Nat) (h0 : ws[i0]? = some w0) (he : w0[q0]? = some (a, .inr (ci, fs))) (hv : fs[k]? = some v) (hdg : decode cc pc = .ok (.getfield ix, 3)) (hn : pc + 3 = n) (kk : G p l e R s m args below meth c nL D A H0 kc ks Q ws n lv (v :: st)) : G p l e R s m args below meth c nL D A H0 kc ks Q ws pc lv (.ref a :: st) := by
  subst hn
  obtain ⟨f1, f2, f3, f4⟩ := F
  exact fun H locs ls hP hD hS hl => va_get C.1 C.2.1 C.2.2.2.2.1 f2 C.2.2.2.1 C.2.2.2.2.2.2 hP _ (fl_get _ _ _ _ _ h0 he) f1 k f3 (C.2.2.2.2.1 _ hw) (fun x hx => by rw [← f4]; exact hx) hv hdg (kk H locs ls hP hD hS hl)
theorem gq_getN (C : gC p s m args c cc nL own D cI cZ) {ix ci N k a : Nat} {Cn : String} {T : u_T} {fs : List Value} {v : Value} {host : String} (F : gFO ci Cn T N k) (hw : (own, ix, Cn, (T k).2.1, (T k).2.2.1, host) ∈ gNF) {w0 : va_W} (i0 q0 n : Nat) (h0 : ws[i0]? = some w0) (he : w0[q0]? = some (a, .inr (ci, fs))) (hv : fs[k]? = some v) (hdg : decode cc pc = .ok (.getfield ix, 3)) (hn : pc + 3 = n) (kk : G p l e R s m args below meth c nL D A H0 kc ks Q ws n lv (v :: st)) : G p l e R s m args below meth c nL D A H0 kc ks Q ws pc lv (.ref a :: st) := by
  subst hn
  obtain ⟨f1, f2, f3, f4⟩ := F
  exact fun H locs ls hP hD hS hl => va_getN C.1 C.2.1 C.2.2.2.2.1 f2 C.2.2.2.1 C.2.2.2.2.2.2 hP _ (fl_get _ _ _ _ _ h0 he) f1 k f3 (va_Nw.use rfl (C.2.2.2.2.2.1.1 _ hw)) (fun x hx => by rw [← f4]; exact hx) hv hdg (kk H locs ls hP hD hS hl)
theorem gq_put (C : gC p s m args c cc nL own D cI cZ) {ix ci N k a : Nat} {Cn : String} {T : u_T} {fs : List Value} {v : Value} {ty0 : Nat → FieldType} {ty : FieldType} (F : gFO ci Cn T N k) (P : gFP Cn T N k ty0 ty) (hfin : (T k).2.2.2 = false) (hw : Cond.fieldLink own ix Cn (T k).2.1 (T k).2.2.1 ∈ wsL_law) {w0 : va_W} (i0 q0 n : Nat) (ws' : List va_W) (h0 : ws[i0]? = some w0) (he : w0[q0]? = some (a, .inr (ci, fs))) (hr : narrow ty v = v) (hfit : fits ty v = true) (hl0 : k < fs.length) (hws : ws.set i0 (w0.set q0 (a, .inr (ci, fs.set k v))) = ws') (hdg : decode cc pc = .ok (.putfield ix, 3)) (hn : pc + 3 = n) (kk : G p l e R s m args below meth c nL D A H0 kc ks Q ws' n lv st) : G p l e R s m args below meth c nL D A H0 kc ks Q ws pc lv (v :: .ref a :: st) := by
  subst hn
  subst hws
  obtain ⟨f1, f2, f3, f4⟩ := F
  exact fun H locs ls hP hD hS hl => va_put C.1 C.2.1 C.2.2.2.2.1 f2 ty0 P.1 P.2.1 C.2.2.2.1 C.2.2.2.2.2.2 hP hD hS _ (fl_get _ _ _ _ _ h0 he) f1 k f3 (C.2.2.2.2.1 _ hw) (fun x hx => by rw [← f4]; exact hx) hfin P.2.2 hr hfit hl0 hdg (fun H1 locs1 hP1 hD1 hS1 => kk H1 locs1 ls (by rw [← fl_set _ _ _ _ _ h0 (List.getElem?_eq_some_iff.mp he).1]; exact hP1) (by rw [← fl_set _ _ _ _ _ h0 (List.getElem?_eq_some_iff.mp he).1]; exact hD1) hS1 hl)
theorem gq_putN (C : gC p s m args c cc nL own D cI cZ) {ix ci N k a : Nat} {Cn : String} {T : u_T} {fs : List Value} {v : Value} {host : String} {ty0 : Nat → FieldType} {ty : FieldType} (F : gFO ci Cn T N k) (P : gFP Cn T N k ty0 ty) (hfin : (T k).2.2.2 = false) (hw : (own, ix, Cn, (T k).2.1, (T k).2.2.1, host) ∈ gNF) {w0 : va_W} (i0 q0 n : Nat) (ws' : List va_W) (h0 : ws[i0]? = some w0) (he : w0[q0]? = some (a, .inr (ci, fs))) (hr : narrow ty v = v) (hfit : fits ty v = true) (hl0 : k < fs.length) (hws : ws.set i0 (w0.set q0 (a, .inr (ci, fs.set k v))) = ws') (hdg : decode cc pc = .ok (.putfield ix, 3)) (hn : pc + 3 = n) (kk : G p l e R s m args below meth c nL D A H0 kc ks Q ws' n lv st) : G p l e R s m args below meth c nL D A H0 kc ks Q ws pc lv (v :: .ref a :: st) := by
  subst hn
  subst hws
  obtain ⟨f1, f2, f3, f4⟩ := F
  exact fun H locs ls hP hD hS hl => va_putN C.1 C.2.1 C.2.2.2.2.1 f2 ty0 P.1 P.2.1 C.2.2.2.1 C.2.2.2.2.2.2 hP hD hS _ (fl_get _ _ _ _ _ h0 he) f1 k f3 (va_Nw.use rfl (C.2.2.2.2.2.1.1 _ hw)) (fun x hx => by rw [← f4]; exact hx) hfin P.2.2 hr hfit hl0 hdg (fun H1 locs1 hP1 hD1 hS1 => kk H1 locs1 ls (by rw [← fl_set _ _ _ _ _ h0 (List.getElem?_eq_some_iff.mp he).1]; exact hP1) (by rw [← fl_set _ _ _ _ _ h0 (List.getElem?_eq_some_iff.mp he).1]; exact hD1) hS1 hl)
theorem gq_putF (C : gC p s m args c cc nL own D cI cZ) (hin : meth.name = "<init>") {ix ci N k a : Nat} {Cn : String} {T : u_T} {fs : List Value} {v : Value} {ty0 : Nat → FieldType} {ty : FieldType} (F : gFO ci Cn T N k) (P : gFP Cn T N k ty0 ty) (hown : Cn = own) (hfin : (T k).2.2.2 = true) (hw : Cond.fieldLink own ix Cn (T k).2.1 (T k).2.2.1 ∈ wsL_law) {w0 : va_W} (i0 q0 n : Nat) (ws' : List va_W) (h0 : ws[i0]? = some w0) (he : w0[q0]? = some (a, .inr (ci, fs))) (hr : narrow ty v = v) (hfit : fits ty v = true) (hl0 : k < fs.length) (hws : ws.set i0 (w0.set q0 (a, .inr (ci, fs.set k v))) = ws') (hdg : decode cc pc = .ok (.putfield ix, 3)) (hn : pc + 3 = n) (kk : G p l e R s m args below meth c nL D A H0 kc ks Q ws' n lv st) : G p l e R s m args below meth c nL D A H0 kc ks Q ws pc lv (v :: .ref a :: st) := by
  subst hn
  subst hws
  obtain ⟨f1, f2, f3, f4⟩ := F
  exact fun H locs ls hP hD hS hl => va_putF C.1 C.2.1 C.2.2.2.2.1 f2 ty0 P.1 P.2.1 C.2.2.2.1 C.2.2.2.2.2.2 hP hD hS _ (fl_get _ _ _ _ _ h0 he) f1 k f3 (C.2.2.2.2.1 _ hw) (fun x hx => by rw [← f4]; exact hx) hfin hin (f4.trans hown) P.2.2 hr hfit hl0 hdg (fun H1 locs1 hP1 hD1 hS1 => kk H1 locs1 ls (by rw [← fl_set _ _ _ _ _ h0 (List.getElem?_eq_some_iff.mp he).1]; exact hP1) (by rw [← fl_set _ _ _ _ _ h0 (List.getElem?_eq_some_iff.mp he).1]; exact hD1) hS1 hl)
theorem gq_iald (C : gC p s m args c cc nL own D cI cZ) {a N : Nat} {f : Nat → Int32} {i : Int32} {w0 : va_W} (i0 q0 n : Nat) (h0 : ws[i0]? = some w0) (he : w0[q0]? = some (a, .inl (cI, N, .inl f))) (hin : ¬ (i < 0 ∨ N ≤ i.toNatClampNeg)) (hdg : decode cc pc = .ok (.iaload, 1)) (hn : pc + 1 = n) (kk : G p l e R s m args below meth c nL D A H0 kc ks Q ws n lv (.int (f i.toNatClampNeg) :: st)) : G p l e R s m args below meth c nL D A H0 kc ks Q ws pc lv (.int i :: .ref a :: st) := by
  subst hn
  exact fun H locs ls hP hD hS hl => va_iald C.1 C.2.1 C.2.2.2.2.2.2 hP _ 0 (fl_get _ _ _ _ _ h0 he) rfl hin hdg (kk H locs ls hP hD hS hl)
theorem gq_zald (C : gC p s m args c cc nL own D cI cZ) {a N : Nat} {f : Nat → Int32} {i : Int32} {w0 : va_W} (i0 q0 n : Nat) (h0 : ws[i0]? = some w0) (he : w0[q0]? = some (a, .inl (cZ, N, .inl f))) (hin : ¬ (i < 0 ∨ N ≤ i.toNatClampNeg)) (hdg : decode cc pc = .ok (.baload, 1)) (hn : pc + 1 = n) (kk : G p l e R s m args below meth c nL D A H0 kc ks Q ws n lv (.int (f i.toNatClampNeg) :: st)) : G p l e R s m args below meth c nL D A H0 kc ks Q ws pc lv (.int i :: .ref a :: st) := by
  subst hn
  exact fun H locs ls hP hD hS hl => va_zald C.1 C.2.1 C.2.2.2.2.2.2 hP _ 1 (fl_get _ _ _ _ _ h0 he) rfl hin hdg (kk H locs ls hP hD hS hl)
theorem gq_iast (C : gC p s m args c cc nL own D cI cZ) {a N : Nat} {f : Nat → Int32} {i x : Int32} {w0 : va_W} (i0 q0 n : Nat) (ws' : List va_W) (h0 : ws[i0]? = some w0) (he : w0[q0]? = some (a, .inl (cI, N, .inl f))) (hin : ¬ (i < 0 ∨ N ≤ i.toNatClampNeg)) (hws : ws.set i0 (w0.set q0 (a, .inl (cI, N, .inl (upd f i.toNatClampNeg x)))) = ws') (hdg : decode cc pc = .ok (.iastore, 1)) (hn : pc + 1 = n) (kk : G p l e R s m args below meth c nL D A H0 kc ks Q ws' n lv st) : G p l e R s m args below meth c nL D A H0 kc ks Q ws pc lv (.int x :: .int i :: .ref a :: st) := by
  subst hn
  subst hws
  exact fun H locs ls hP hD hS hl => va_iast C.1 C.2.1 C.2.2.2.2.2.2 hP hD hS _ 0 (fl_get _ _ _ _ _ h0 he) rfl hin hdg (fun H1 locs1 hP1 hD1 hS1 => kk H1 locs1 ls (by rw [← fl_set _ _ _ _ _ h0 (List.getElem?_eq_some_iff.mp he).1]; exact hP1) (by rw [← fl_set _ _ _ _ _ h0 (List.getElem?_eq_some_iff.mp he).1]; exact hD1) hS1 hl)
theorem gq_zast (C : gC p s m args c cc nL own D cI cZ) {a N : Nat} {f : Nat → Int32} {i x y : Int32} {w0 : va_W} (i0 q0 n : Nat) (ws' : List va_W) (h0 : ws[i0]? = some w0) (he : w0[q0]? = some (a, .inl (cZ, N, .inl f))) (hin : ¬ (i < 0 ∨ N ≤ i.toNatClampNeg)) (hy : vp_nar .boolean x = y) (hws : ws.set i0 (w0.set q0 (a, .inl (cZ, N, .inl (upd f i.toNatClampNeg y)))) = ws') (hdg : decode cc pc = .ok (.bastore, 1)) (hn : pc + 1 = n) (kk : G p l e R s m args below meth c nL D A H0 kc ks Q ws' n lv st) : G p l e R s m args below meth c nL D A H0 kc ks Q ws pc lv (.int x :: .int i :: .ref a :: st) := by
  subst hn
  subst hy
  subst hws
  exact fun H locs ls hP hD hS hl => va_zast C.1 C.2.1 C.2.2.2.2.2.2 hP hD hS _ 1 (fl_get _ _ _ _ _ h0 he) rfl hin hdg (fun H1 locs1 hP1 hD1 hS1 => kk H1 locs1 ls (by rw [← fl_set _ _ _ _ _ h0 (List.getElem?_eq_some_iff.mp he).1]; exact hP1) (by rw [← fl_set _ _ _ _ _ h0 (List.getElem?_eq_some_iff.mp he).1]; exact hD1) hS1 hl)
theorem gq_alen (C : gC p s m args c cc nL own D cI cZ) {a N : Nat} {f : Nat → Int32} {w0 : va_W} (i0 q0 n : Nat) (v : Int32) (h0 : ws[i0]? = some w0) (he : w0[q0]? = some (a, .inl (cI, N, .inl f))) (hv : Int32.ofNat N = v) (hdg : decode cc pc = .ok (.arraylength, 1)) (hn : pc + 1 = n) (kk : G p l e R s m args below meth c nL D A H0 kc ks Q ws n lv (.int v :: st)) : G p l e R s m args below meth c nL D A H0 kc ks Q ws pc lv (.ref a :: st) := by
  subst hn
  exact fun H locs ls hP hD hS hl => va_alen C.1 C.2.1 C.2.2.2.2.2.2 hP _ 0 (fl_get _ _ _ _ _ h0 he) rfl hv hdg (kk H locs ls hP hD hS hl)
theorem gq_copy (C : gC p s m args c cc nL own D cI cZ) {ix a a0 n0 n1 : Nat} {f g : Nat → Int32} {z : Int32} {w0 w1 : va_W} (i0 q0 i1 q1 n : Nat) (ws' : List va_W) (hw : Cond.methodLink own ix arraycopyName ∈ wsL_law) (hw2 : Cond.native arraycopyName ∈ wsL_law) (hw3 : Cond.static arraycopyName ∈ wsL_law) (hw4 : Cond.initialized "java/lang/System" ∈ wsL_law) (h0 : ws[i0]? = some w0) (he0 : w0[q0]? = some (a0, .inl (cI, n0, .inl f))) (h1 : ws[i1]? = some w1) (he : w1[q1]? = some (a, .inl (cI, n1, .inl g))) (hz : ¬ z < 0) (hz0 : z.toNatClampNeg ≤ n0) (hz1 : z.toNatClampNeg ≤ n1)
    (hws : ws.set i1 (w1.set q1 (a, .inl (cI, n1, .inl (va_cpy f g 0 0 z.toNatClampNeg)))) = ws') (hfr : 1 ≤ R.frames) (hlo : (st.map fun v => v.category).sum + (nativeFrameWords "java/lang/System" "arraycopy" 5 + 11) ≤ R.locals) (hdg : decode cc pc = .ok (.invokestatic ix, 3)) (hn : pc + 3 = n)
    (kk : G p l e R s m args below meth c nL D A H0 kc ks Q ws' n lv st) : G p l e R s m args below meth c nL D A H0 kc ks Q ws pc lv (.int z :: .int 0 :: .ref a :: .int 0 :: .ref a0 :: st) := by
  subst hn
  subst hws
  exact fun H locs ls hP hD hS hl => va_copyi C.1 C.2.1 (by rw [C.2.2.1]; exact hl.1.symm) C.2.2.2.1 (C.2.2.2.2.1 _ hw) (C.2.2.2.2.1 _ hw2) (C.2.2.2.2.1 _ hw3) (C.2.2.2.2.1 _ hw4) C.2.2.2.2.2.2 hP hD hS _ _ 0 0 (fl_get _ _ _ _ _ h0 he0) (fl_get _ _ _ _ _ h1 he) rfl rfl rfl (by decide) (by decide) hz (by rw [show ((0 : Int32).toNatClampNeg) = 0 from rfl, Nat.zero_add]; exact hz0) (by rw [show ((0 : Int32).toNatClampNeg) = 0 from rfl, Nat.zero_add]; exact hz1) (fun i hi => rfl) hfr hlo hdg (fun H1 locs1 hP1 hD1 hS1 => kk H1 locs1 ls (by rw [← fl_set _ _ _ _ _ h1 (List.getElem?_eq_some_iff.mp he).1]; exact hP1) (by rw [← fl_set _ _ _ _ _ h1 (List.getElem?_eq_some_iff.mp he).1]; exact hD1) hS1 hl)
/-- ends -/
theorem gq_iret {W0 : List va_W} {post : Option Value → List va_W → Prop} (C : gC p s m args c cc nL own D cI cZ) (hr : meth.sig.returnType = some .int) (hlk : meth.locks = false) {x : Int32} (hdg : decode cc pc = .ok (.ireturn, 1)) (hp : post (some (.int x)) ws) : G p l e R s m args below meth c nL D (va_A W0.flatten s.heap.size) s.heap kc ks (MQ below (gQc D W0 s.heap.size post) args s kc ks (va_A W0.flatten s.heap.size)) ws pc lv [.int x] :=
  fun H locs ls hP hD hS hl => W.iret C.1 C.2.1 hr (fun t ht hW => ⟨⟨some (.int x), ws, rfl, hp, by rw [ht]; exact hP, hD⟩, hS.F ht⟩) hS.2.2 hdg hlk
theorem gq_zret {W0 : List va_W} {post : Option Value → List va_W → Prop} (C : gC p s m args c cc nL own D cI cZ) (hr : meth.sig.returnType = some .boolean) (hlk : meth.locks = false) {x : Int32} (hdg : decode cc pc = .ok (.ireturn, 1)) (hx : narrow .boolean (.int x) = .int x) (hp : post (some (.int x)) ws) : G p l e R s m args below meth c nL D (va_A W0.flatten s.heap.size) s.heap kc ks (MQ below (gQc D W0 s.heap.size post) args s kc ks (va_A W0.flatten s.heap.size)) ws pc lv [.int x] :=
  fun H locs ls hP hD hS hl => W.zret C.1 C.2.1 hr hx (fun t ht hW => ⟨⟨some (.int x), ws, rfl, hp, by rw [ht]; exact hP, hD⟩, hS.F ht⟩) hS.2.2 hdg hlk
theorem gq_lret {W0 : List va_W} {post : Option Value → List va_W → Prop} (C : gC p s m args c cc nL own D cI cZ) (hr : meth.sig.returnType = some .long) (hlk : meth.locks = false) {x : Int64} (hdg : decode cc pc = .ok (.lreturn, 1)) (hp : post (some (.long x)) ws) : G p l e R s m args below meth c nL D (va_A W0.flatten s.heap.size) s.heap kc ks (MQ below (gQc D W0 s.heap.size post) args s kc ks (va_A W0.flatten s.heap.size)) ws pc lv [.long x] :=
  fun H locs ls hP hD hS hl => W.lret C.1 C.2.1 hr (fun t ht hW => ⟨⟨some (.long x), ws, rfl, hp, by rw [ht]; exact hP, hD⟩, hS.F ht⟩) hS.2.2 hdg hlk
theorem gq_vret {W0 : List va_W} {post : Option Value → List va_W → Prop} (C : gC p s m args c cc nL own D cI cZ) (hr : meth.sig.returnType = none) (hlk : meth.locks = false) (hdg : decode cc pc = .ok (.return_, 1)) (hp : post none ws) : G p l e R s m args below meth c nL D (va_A W0.flatten s.heap.size) s.heap kc ks (MQ below (gQc D W0 s.heap.size post) args s kc ks (va_A W0.flatten s.heap.size)) ws pc lv [] :=
  fun H locs ls hP hD hS hl => W.vret C.1 C.2.1 hr (fun t ht hW => ⟨⟨none, ws, rfl, hp, by rw [ht]; exact hP, hD⟩, hS.F ht⟩) hS.2.2 hdg hlk
/-- a call whose answer and world are known: the callee's cells at the places pl -/
theorem gq_after {Wc W1 : List va_W} {v : Option Value} {st0 : List Value} {a0 : Array Value} (pl : List Nat) (ws' : List va_W) (n : Nat)
    (hrun : ∀ (H : Heap) (locs : List Loc) (ls : Array Slot), va_P D vwCl ws.flatten H → va_P D vwCl Wc.flatten H → va_D A ws.flatten → va_D (fun _ => True) Wc.flatten → va_S A H0 H locs → lv_has ls nL lv → va_Run p l e R s m args below meth c H locs kc ks 0 0 (F0 m pc ls st0) st (gQc D Wc H.size (gPost v W1) a0) (va_A Wc.flatten H.size))
    (hA : ∀ q, H0.size ≤ q → A q) (hs : pl.map (fun i => ws[i]?) = Wc.map some) (hnd : va_nd pl = true) (hf : W1.map (fun w => w.map (fun q => q.1)) = Wc.map (fun w => w.map (fun q => q.1))) (hws : gRepl ws pl W1 = ws') (hn : pc + 3 = n)
    (kk : G p l e R s m args below meth c nL D A H0 kc ks Q ws' n lv (v.toList ++ st)) : G p l e R s m args below meth c nL D A H0 kc ks Q ws pc lv st0 := by
  subst hn
  intro H locs ls hP hD hS hl
  have hDc : va_D A Wc.flatten := sub_D hD hnd hs
  have hPc : va_P D vwCl Wc.flatten H := sub_P hP hs
  intro T hT X
  obtain ⟨v', st₀, t, T', L, h0, X', hL, e1, e2, ⟨⟨v2, W2, hv2, ⟨rfl, rfl⟩, hP1, hD1⟩, hz, hk⟩, stp⟩ := hrun H locs ls hP hPc hD (hDc.weaken (fun _ _ _ _ => trivial)) hS hl T hT X
  cases hv2
  rw [h0] at hz hk
  have hF : ∀ q, va_A Wc.flatten H.size q → A q := fun q h => by
    rcases h with ⟨k, e, h⟩ | h
    · exact hDc.2 k (q, e) h
    · exact hA q (Nat.le_trans hS.1 h)
  obtain ⟨r1, r2⟩ := gRepl_ok hP hD pl hs hf hk hP1
  rw [hws] at r1 r2
  obtain ⟨t2, a1, b1⟩ := kk t.heap (locs ++ L) ls r1 r2
    ⟨Nat.le_trans hS.1 hz, fun q h1 h2 => by rw [hk q (Nat.lt_of_lt_of_le h1 hS.1) (fun z => h2 (hF q z))]; exact hS.2.1 q h1 h2, fun q hq => by
      rcases List.mem_append.mp hq with h | h
      · exact hS.2.2 q h
      · exact hF _ (hL q h)⟩ hl T' e1 X'
  exact ⟨t2, stp t2 a1, b1⟩
def gMV (own : String) (ix : Nat) (y : MethodName) (cc' : ByteArray) (mL : Nat) (ret : Option FieldType) (n : Nat) : Prop := Cond.methodLink own ix y ∈ wsL_law ∧ Cond.instanceMethod y ∈ wsL_law ∧ Cond.selects y.cls y y ∈ wsL_law ∧ Cond.initialized y.cls ∈ wsL_law ∧ Cond.code y cc' mL ret ∈ wsL_law ∧ (y.cls ≠ "java/lang/invoke/MethodHandle" ∧ y.cls ≠ "java/lang/invoke/VarHandle" ∧ (parseMethodDescriptor y.desc).map (fun d => d.parameters.length) = some n)
def gMN (own : String) (ix : Nat) (y : MethodName) (host : String) (cc' : ByteArray) (mL : Nat) (ret : Option FieldType) (n : Nat) : Prop := (own, ix, y, host) ∈ gNM ∧ Cond.instanceMethod y ∈ wsL_law ∧ Cond.selects y.cls y y ∈ wsL_law ∧ Cond.initialized y.cls ∈ wsL_law ∧ Cond.code y cc' mL ret ∈ wsL_law ∧ (y.cls ≠ "java/lang/invoke/MethodHandle" ∧ y.cls ≠ "java/lang/invoke/VarHandle" ∧ (parseMethodDescriptor y.desc).map (fun d => d.parameters.length) = some n)
def gMS (own : String) (ix : Nat) (y : MethodName) (cc' : ByteArray) (mL : Nat) (ret : Option FieldType) (n : Nat) : Prop := Cond.methodLink own ix y ∈ wsL_law ∧ Cond.static y ∈ wsL_law ∧ Cond.initialized y.cls ∈ wsL_law ∧ Cond.code y cc' mL ret ∈ wsL_law ∧ (y.cls ≠ "java/lang/invoke/MethodHandle" ∧ y.cls ≠ "java/lang/invoke/VarHandle" ∧ (parseMethodDescriptor y.desc).map (fun d => d.parameters.length) = some n)
def gMT (own : String) (ix : Nat) (y : MethodName) (host : String) (cc' : ByteArray) (mL : Nat) (ret : Option FieldType) (n : Nat) : Prop := (own, ix, y, host) ∈ gNM ∧ Cond.static y ∈ wsL_law ∧ Cond.initialized y.cls ∈ wsL_law ∧ Cond.code y cc' mL ret ∈ wsL_law ∧ (y.cls ≠ "java/lang/invoke/MethodHandle" ∧ y.cls ≠ "java/lang/invoke/VarHandle" ∧ (parseMethodDescriptor y.desc).map (fun d => d.parameters.length) = some n)
/-- the callee's words among the caller's -/
theorem gGoodC {y : MethodName} {cc' : ByteArray} {mL : Nat} {ret : Option FieldType} (h : Cond.code y cc' mL ret ∈ wsL_law) : GoodIn wsL_law (.code y cc' mL ret :: wsL_law) := fun w hw => (List.mem_cons.mp hw).elim (fun e => e ▸ gGood _ h) (fun h => gGood w h)
theorem gq_callV (C : gC p s m args c cc nL own D cI cZ) {ix n mL fr lo b ci : Nat} {y : MethodName} {cc' : ByteArray} {ret : Option FieldType} {As : List Value} {Wc W1 : List va_W} {v : Option Value} {st0 : List Value} {T : u_T} {N : Nat} {fs : List Value} (hA : ∀ q, H0.size ≤ q → A q) (M : gMV own ix y cc' mL ret n) (hM : CT l D cI cZ y cc' mL ret fr lo 0 0 (.ref b :: As) Wc (gPost v W1)) (hc : vwCl[ci]? = some (y.cls, T, N)) {w0 : va_W} (ir qr : Nat) (h0 : ws[ir]? = some w0) (he : w0[qr]? = some (b, .inr (ci, fs))) (hlen : As.length = n) (hR : fr + 1 ≤ R.frames ∧ 8 + (mL + 11) + lo ≤ R.locals) (hkR : kc ≤ R.cells ∧ ks ≤ R.slots) (hst : st0 = As.reverse ++ .ref b :: st) (hcat : (st.map fun v => v.category).sum ≤ 8) (hdg : decode cc pc = .ok (.invokevirtual ix, 3)) (pl : List Nat) (ws' : List va_W) (n' : Nat) (hs : pl.map (fun i => ws[i]?) = Wc.map some) (hnd : va_nd pl = true) (hf : W1.map (fun w => w.map (fun q => q.1)) = Wc.map (fun w => w.map (fun q => q.1))) (hws : gRepl ws pl W1 = ws') (hn : pc + 3 = n')
    (st' : List Value) (hst' : v.toList ++ st = st') (kk : G p l e R s m args below meth c nL D A H0 kc ks Q ws' n' lv st') : G p l e R s m args below meth c nL D A H0 kc ks Q ws pc lv st0 := by
  subst hst
  subst hst'
  refine gq_after pl ws' n' (a0 := (Value.ref b :: As).toArray) (fun H locs ls hP hPc hD hDc hS hl => ?_) hA hs hnd hf hws hn kk
  obtain ⟨m1, m2, m3, m4, m5, m6⟩ := M
  refine va_runV (C := y.cls) ⟨C.1, C.2.1, C.2.2.1, C.2.2.2.1, C.2.2.2.2.1⟩ (hM H.size) (cwV n C.2.2.2.2.1 (fun w hw => ?_) rfl rfl rfl ⟨rfl, m6⟩ hR) ⟨gPc_blind _ _ _ _ _ _, va_recv C.2.2.2.2.2.2 hP hc (fl_get _ _ _ _ _ h0 he), fun U hU hW => ⟨rfl, by rw [hU], by rw [hU]; exact hPc, va_K.moved hW.alike C.2.2.2.2.2.2, gNW.warm hW C.2.2.2.2.2.1, hDc⟩⟩ rfl hlen hl.1 rfl (lv_room hcat) hdg hkR
  unfold wsV at hw
  rcases List.mem_append.mp hw with h | h
  · have h4 : w = Cond.methodLink own ix y ∨ w = Cond.instanceMethod y ∨ w = Cond.selects y.cls y y ∨ w = Cond.initialized y.cls := by simpa using h
    rcases h4 with rfl | rfl | rfl | rfl
    · exact gGood _ m1
    · exact gGood _ m2
    · exact gGood _ m3
    · exact gGood _ m4
  · exact gGoodC m5 w h
theorem gq_callN (C : gC p s m args c cc nL own D cI cZ) {ix n mL fr lo b ci : Nat} {y : MethodName} {host : String} {cc' : ByteArray} {ret : Option FieldType} {As : List Value} {Wc W1 : List va_W} {v : Option Value} {st0 : List Value} {T : u_T} {N : Nat} {fs : List Value} (hA : ∀ q, H0.size ≤ q → A q) (M : gMN own ix y host cc' mL ret n) (hM : CT l D cI cZ y cc' mL ret fr lo 0 0 (.ref b :: As) Wc (gPost v W1)) (hc : vwCl[ci]? = some (y.cls, T, N)) {w0 : va_W} (ir qr : Nat) (h0 : ws[ir]? = some w0) (he : w0[qr]? = some (b, .inr (ci, fs))) (hlen : As.length = n) (hR : fr + 1 ≤ R.frames ∧ 8 + (mL + 11) + lo ≤ R.locals) (hkR : kc ≤ R.cells ∧ ks ≤ R.slots) (hst : st0 = As.reverse ++ .ref b :: st) (hcat : (st.map fun v => v.category).sum ≤ 8) (hdg : decode cc pc = .ok (.invokevirtual ix, 3)) (pl : List Nat) (ws' : List va_W) (n' : Nat) (hs : pl.map (fun i => ws[i]?) = Wc.map some) (hnd : va_nd pl = true) (hf : W1.map (fun w => w.map (fun q => q.1)) = Wc.map (fun w => w.map (fun q => q.1))) (hws : gRepl ws pl W1 = ws') (hn : pc + 3 = n')
    (st' : List Value) (hst' : v.toList ++ st = st') (kk : G p l e R s m args below meth c nL D A H0 kc ks Q ws' n' lv st') : G p l e R s m args below meth c nL D A H0 kc ks Q ws pc lv st0 := by
  subst hst
  subst hst'
  refine gq_after pl ws' n' (a0 := (Value.ref b :: As).toArray) (fun H locs ls hP hPc hD hDc hS hl => ?_) hA hs hnd hf hws hn kk
  obtain ⟨m1, m2, m3, m4, m5, m6⟩ := M
  exact va_runVN (C := y.cls) ⟨C.1, C.2.1, C.2.2.1, C.2.2.2.1, C.2.2.2.2.1⟩ (hM H.size) ⟨va_cnB n C.2.2.2.2.1 (gGoodC m5) rfl rfl rfl (C.2.2.2.2.2.1.2 _ m1) (C.2.2.2.2.1 _ m4) m6 hR, C.2.2.2.2.1 _ m2, C.2.2.2.2.1 _ m3⟩ ⟨gPc_blind _ _ _ _ _ _, va_recv C.2.2.2.2.2.2 hP hc (fl_get _ _ _ _ _ h0 he), fun U hU hW => ⟨rfl, by rw [hU], by rw [hU]; exact hPc, va_K.moved hW.alike C.2.2.2.2.2.2, gNW.warm hW C.2.2.2.2.2.1, hDc⟩⟩ rfl hlen hl.1 rfl (lv_room hcat) hdg hkR
theorem gq_callS (C : gC p s m args c cc nL own D cI cZ) {ix n mL fr lo : Nat} {y : MethodName} {cc' : ByteArray} {ret : Option FieldType} {As : List Value} {Wc W1 : List va_W} {v : Option Value} {st0 : List Value} (hA : ∀ q, H0.size ≤ q → A q) (M : gMS own ix y cc' mL ret n) (hM : CT l D cI cZ y cc' mL ret fr lo 0 0 As Wc (gPost v W1)) (hlen : As.length = n) (hR : fr + 1 ≤ R.frames ∧ 8 + (mL + 11) + lo ≤ R.locals) (hkR : kc ≤ R.cells ∧ ks ≤ R.slots) (hst : st0 = As.reverse ++ st) (hcat : (st.map fun v => v.category).sum ≤ 8) (hdg : decode cc pc = .ok (.invokestatic ix, 3)) (pl : List Nat) (ws' : List va_W) (n' : Nat) (hs : pl.map (fun i => ws[i]?) = Wc.map some) (hnd : va_nd pl = true) (hf : W1.map (fun w => w.map (fun q => q.1)) = Wc.map (fun w => w.map (fun q => q.1))) (hws : gRepl ws pl W1 = ws') (hn : pc + 3 = n')
    (st' : List Value) (hst' : v.toList ++ st = st') (kk : G p l e R s m args below meth c nL D A H0 kc ks Q ws' n' lv st') : G p l e R s m args below meth c nL D A H0 kc ks Q ws pc lv st0 := by
  subst hst
  subst hst'
  refine gq_after pl ws' n' (a0 := As.toArray) (fun H locs ls hP hPc hD hDc hS hl => ?_) hA hs hnd hf hws hn kk
  obtain ⟨m1, m2, m4, m5, m6⟩ := M
  exact va_runS ⟨C.1, C.2.1, C.2.2.1, C.2.2.2.1, C.2.2.2.2.1⟩ (hM H.size) ⟨callB_of n C.2.2.2.2.1 (gGoodC m5) rfl rfl rfl (C.2.2.2.2.1 _ m4) (C.2.2.2.2.1 _ m1) m6 hR, C.2.2.2.2.1 _ m2⟩ ⟨gPc_blind _ _ _ _ _ _, fun U hU hW => ⟨rfl, by rw [hU], by rw [hU]; exact hPc, va_K.moved hW.alike C.2.2.2.2.2.2, gNW.warm hW C.2.2.2.2.2.1, hDc⟩⟩ rfl hlen hl.1 rfl (lv_room hcat) hdg hkR
theorem gq_callT (C : gC p s m args c cc nL own D cI cZ) {ix n mL fr lo : Nat} {y : MethodName} {host : String} {cc' : ByteArray} {ret : Option FieldType} {As : List Value} {Wc W1 : List va_W} {v : Option Value} {st0 : List Value} (hA : ∀ q, H0.size ≤ q → A q) (M : gMT own ix y host cc' mL ret n) (hM : CT l D cI cZ y cc' mL ret fr lo 0 0 As Wc (gPost v W1)) (hlen : As.length = n) (hR : fr + 1 ≤ R.frames ∧ 8 + (mL + 11) + lo ≤ R.locals) (hkR : kc ≤ R.cells ∧ ks ≤ R.slots) (hst : st0 = As.reverse ++ st) (hcat : (st.map fun v => v.category).sum ≤ 8) (hdg : decode cc pc = .ok (.invokestatic ix, 3)) (pl : List Nat) (ws' : List va_W) (n' : Nat) (hs : pl.map (fun i => ws[i]?) = Wc.map some) (hnd : va_nd pl = true) (hf : W1.map (fun w => w.map (fun q => q.1)) = Wc.map (fun w => w.map (fun q => q.1))) (hws : gRepl ws pl W1 = ws') (hn : pc + 3 = n')
    (st' : List Value) (hst' : v.toList ++ st = st') (kk : G p l e R s m args below meth c nL D A H0 kc ks Q ws' n' lv st') : G p l e R s m args below meth c nL D A H0 kc ks Q ws pc lv st0 := by
  subst hst
  subst hst'
  refine gq_after pl ws' n' (a0 := As.toArray) (fun H locs ls hP hPc hD hDc hS hl => ?_) hA hs hnd hf hws hn kk
  obtain ⟨m1, m2, m4, m5, m6⟩ := M
  exact va_runSN ⟨C.1, C.2.1, C.2.2.1, C.2.2.2.1, C.2.2.2.2.1⟩ (hM H.size) ⟨va_cnB n C.2.2.2.2.1 (gGoodC m5) rfl rfl rfl (C.2.2.2.2.2.1.2 _ m1) (C.2.2.2.2.1 _ m4) m6 hR, C.2.2.2.2.1 _ m2, trivial⟩ ⟨gPc_blind _ _ _ _ _ _, fun U hU hW => ⟨rfl, by rw [hU], by rw [hU]; exact hPc, va_K.moved hW.alike C.2.2.2.2.2.2, gNW.warm hW C.2.2.2.2.2.1, hDc⟩⟩ rfl hlen hl.1 rfl (lv_room hcat) hdg hkR
end GM
end
section
theorem fo_X0_0 : gFO 0 RX0 TX0 2 0 := ⟨rfl, inlX0, by decide, rfl⟩
theorem fp_X0_0 : gFP RX0 TX0 2 0 tyX0 .int := ⟨tyX0_ok, nmX0, tyX0_ok 0 (by decide)⟩
theorem fo_X0_1 : gFO 0 RX0 TX0 2 1 := ⟨rfl, inlX0, by decide, rfl⟩
theorem fp_X0_1 : gFP RX0 TX0 2 1 tyX0 (.array .int) := ⟨tyX0_ok, nmX0, tyX0_ok 1 (by decide)⟩
theorem fo_X1_0 : gFO 1 RX1 TX1 5 0 := ⟨rfl, inlX1, by decide, rfl⟩
theorem fp_X1_0 : gFP RX1 TX1 5 0 tyX1 .int := ⟨tyX1_ok, nmX1, tyX1_ok 0 (by decide)⟩
theorem fo_X1_1 : gFO 1 RX1 TX1 5 1 := ⟨rfl, inlX1, by decide, rfl⟩
theorem fp_X1_1 : gFP RX1 TX1 5 1 tyX1 .int := ⟨tyX1_ok, nmX1, tyX1_ok 1 (by decide)⟩
theorem fo_X1_2 : gFO 1 RX1 TX1 5 2 := ⟨rfl, inlX1, by decide, rfl⟩
theorem fp_X1_2 : gFP RX1 TX1 5 2 tyX1 (.array .int) := ⟨tyX1_ok, nmX1, tyX1_ok 2 (by decide)⟩
theorem fo_X1_3 : gFO 1 RX1 TX1 5 3 := ⟨rfl, inlX1, by decide, rfl⟩
theorem fp_X1_3 : gFP RX1 TX1 5 3 tyX1 (.array .int) := ⟨tyX1_ok, nmX1, tyX1_ok 3 (by decide)⟩
theorem fo_X1_4 : gFO 1 RX1 TX1 5 4 := ⟨rfl, inlX1, by decide, rfl⟩
theorem fp_X1_4 : gFP RX1 TX1 5 4 tyX1 (.array .int) := ⟨tyX1_ok, nmX1, tyX1_ok 4 (by decide)⟩
theorem fo_X2_0 : gFO 2 RX2 TX2 7 0 := ⟨rfl, inlX2, by decide, rfl⟩
theorem fp_X2_0 : gFP RX2 TX2 7 0 tyX2 .int := ⟨tyX2_ok, nmX2, tyX2_ok 0 (by decide)⟩
theorem fo_X2_1 : gFO 2 RX2 TX2 7 1 := ⟨rfl, inlX2, by decide, rfl⟩
theorem fp_X2_1 : gFP RX2 TX2 7 1 tyX2 .int := ⟨tyX2_ok, nmX2, tyX2_ok 1 (by decide)⟩
theorem fo_X2_2 : gFO 2 RX2 TX2 7 2 := ⟨rfl, inlX2, by decide, rfl⟩
theorem fp_X2_2 : gFP RX2 TX2 7 2 tyX2 .int := ⟨tyX2_ok, nmX2, tyX2_ok 2 (by decide)⟩
theorem fo_X2_3 : gFO 2 RX2 TX2 7 3 := ⟨rfl, inlX2, by decide, rfl⟩
theorem fp_X2_3 : gFP RX2 TX2 7 3 tyX2 .boolean := ⟨tyX2_ok, nmX2, tyX2_ok 3 (by decide)⟩
theorem fo_X2_4 : gFO 2 RX2 TX2 7 4 := ⟨rfl, inlX2, by decide, rfl⟩
theorem fp_X2_4 : gFP RX2 TX2 7 4 tyX2 (.array .int) := ⟨tyX2_ok, nmX2, tyX2_ok 4 (by decide)⟩
theorem fo_X2_5 : gFO 2 RX2 TX2 7 5 := ⟨rfl, inlX2, by decide, rfl⟩
theorem fp_X2_5 : gFP RX2 TX2 7 5 tyX2 (.array .int) := ⟨tyX2_ok, nmX2, tyX2_ok 5 (by decide)⟩
theorem fo_X2_6 : gFO 2 RX2 TX2 7 6 := ⟨rfl, inlX2, by decide, rfl⟩
theorem fp_X2_6 : gFP RX2 TX2 7 6 tyX2 (.array .int) := ⟨tyX2_ok, nmX2, tyX2_ok 6 (by decide)⟩
theorem fo_X3_0 : gFO 3 RX3 TX3 16 0 := ⟨rfl, inlX3, by decide, rfl⟩
theorem fp_X3_0 : gFP RX3 TX3 16 0 tyX3 (.object "WarmBeds$House") := ⟨tyX3_ok, nmX3, tyX3_ok 0 (by decide)⟩
theorem fo_X3_1 : gFO 3 RX3 TX3 16 1 := ⟨rfl, inlX3, by decide, rfl⟩
theorem fp_X3_1 : gFP RX3 TX3 16 1 tyX3 (.object "WarmBeds$Inn") := ⟨tyX3_ok, nmX3, tyX3_ok 1 (by decide)⟩
theorem fo_X3_2 : gFO 3 RX3 TX3 16 2 := ⟨rfl, inlX3, by decide, rfl⟩
theorem fp_X3_2 : gFP RX3 TX3 16 2 tyX3 .int := ⟨tyX3_ok, nmX3, tyX3_ok 2 (by decide)⟩
theorem fo_X3_3 : gFO 3 RX3 TX3 16 3 := ⟨rfl, inlX3, by decide, rfl⟩
theorem fp_X3_3 : gFP RX3 TX3 16 3 tyX3 .int := ⟨tyX3_ok, nmX3, tyX3_ok 3 (by decide)⟩
theorem fo_X3_4 : gFO 3 RX3 TX3 16 4 := ⟨rfl, inlX3, by decide, rfl⟩
theorem fp_X3_4 : gFP RX3 TX3 16 4 tyX3 (.array .int) := ⟨tyX3_ok, nmX3, tyX3_ok 4 (by decide)⟩
theorem fo_X3_5 : gFO 3 RX3 TX3 16 5 := ⟨rfl, inlX3, by decide, rfl⟩
theorem fp_X3_5 : gFP RX3 TX3 16 5 tyX3 (.array .int) := ⟨tyX3_ok, nmX3, tyX3_ok 5 (by decide)⟩
theorem fo_X3_6 : gFO 3 RX3 TX3 16 6 := ⟨rfl, inlX3, by decide, rfl⟩
theorem fp_X3_6 : gFP RX3 TX3 16 6 tyX3 .int := ⟨tyX3_ok, nmX3, tyX3_ok 6 (by decide)⟩
theorem fo_X3_7 : gFO 3 RX3 TX3 16 7 := ⟨rfl, inlX3, by decide, rfl⟩
theorem fp_X3_7 : gFP RX3 TX3 16 7 tyX3 (.array .int) := ⟨tyX3_ok, nmX3, tyX3_ok 7 (by decide)⟩
theorem fo_X3_8 : gFO 3 RX3 TX3 16 8 := ⟨rfl, inlX3, by decide, rfl⟩
theorem fp_X3_8 : gFP RX3 TX3 16 8 tyX3 .int := ⟨tyX3_ok, nmX3, tyX3_ok 8 (by decide)⟩
theorem fo_X3_9 : gFO 3 RX3 TX3 16 9 := ⟨rfl, inlX3, by decide, rfl⟩
theorem fp_X3_9 : gFP RX3 TX3 16 9 tyX3 (.array .int) := ⟨tyX3_ok, nmX3, tyX3_ok 9 (by decide)⟩
theorem fo_X3_10 : gFO 3 RX3 TX3 16 10 := ⟨rfl, inlX3, by decide, rfl⟩
theorem fp_X3_10 : gFP RX3 TX3 16 10 tyX3 (.array .int) := ⟨tyX3_ok, nmX3, tyX3_ok 10 (by decide)⟩
theorem fo_X3_11 : gFO 3 RX3 TX3 16 11 := ⟨rfl, inlX3, by decide, rfl⟩
theorem fp_X3_11 : gFP RX3 TX3 16 11 tyX3 (.array .int) := ⟨tyX3_ok, nmX3, tyX3_ok 11 (by decide)⟩
theorem fo_X3_12 : gFO 3 RX3 TX3 16 12 := ⟨rfl, inlX3, by decide, rfl⟩
theorem fp_X3_12 : gFP RX3 TX3 16 12 tyX3 (.array .int) := ⟨tyX3_ok, nmX3, tyX3_ok 12 (by decide)⟩
theorem fo_X3_13 : gFO 3 RX3 TX3 16 13 := ⟨rfl, inlX3, by decide, rfl⟩
theorem fp_X3_13 : gFP RX3 TX3 16 13 tyX3 .int := ⟨tyX3_ok, nmX3, tyX3_ok 13 (by decide)⟩
theorem fo_X3_14 : gFO 3 RX3 TX3 16 14 := ⟨rfl, inlX3, by decide, rfl⟩
theorem fp_X3_14 : gFP RX3 TX3 16 14 tyX3 .int := ⟨tyX3_ok, nmX3, tyX3_ok 14 (by decide)⟩
theorem fo_X3_15 : gFO 3 RX3 TX3 16 15 := ⟨rfl, inlX3, by decide, rfl⟩
theorem fp_X3_15 : gFP RX3 TX3 16 15 tyX3 .boolean := ⟨tyX3_ok, nmX3, tyX3_ok 15 (by decide)⟩
theorem fo_X4_0 : gFO 4 RX4 TX4 4 0 := ⟨rfl, inlX4, by decide, rfl⟩
theorem fp_X4_0 : gFP RX4 TX4 4 0 tyX4 .int := ⟨tyX4_ok, nmX4, tyX4_ok 0 (by decide)⟩
theorem fo_X4_1 : gFO 4 RX4 TX4 4 1 := ⟨rfl, inlX4, by decide, rfl⟩
theorem fp_X4_1 : gFP RX4 TX4 4 1 tyX4 .int := ⟨tyX4_ok, nmX4, tyX4_ok 1 (by decide)⟩
theorem fo_X4_2 : gFO 4 RX4 TX4 4 2 := ⟨rfl, inlX4, by decide, rfl⟩
theorem fp_X4_2 : gFP RX4 TX4 4 2 tyX4 (.array .int) := ⟨tyX4_ok, nmX4, tyX4_ok 2 (by decide)⟩
theorem fo_X4_3 : gFO 4 RX4 TX4 4 3 := ⟨rfl, inlX4, by decide, rfl⟩
theorem fp_X4_3 : gFP RX4 TX4 4 3 tyX4 (.array .int) := ⟨tyX4_ok, nmX4, tyX4_ok 3 (by decide)⟩
theorem fo_X5_0 : gFO 5 RX5 TX5 8 0 := ⟨rfl, inlX5, by decide, rfl⟩
theorem fp_X5_0 : gFP RX5 TX5 8 0 tyX5 (.object "WarmBeds$House") := ⟨tyX5_ok, nmX5, tyX5_ok 0 (by decide)⟩
theorem fo_X5_1 : gFO 5 RX5 TX5 8 1 := ⟨rfl, inlX5, by decide, rfl⟩
theorem fp_X5_1 : gFP RX5 TX5 8 1 tyX5 (.object "WarmBeds$House") := ⟨tyX5_ok, nmX5, tyX5_ok 1 (by decide)⟩
theorem fo_X5_2 : gFO 5 RX5 TX5 8 2 := ⟨rfl, inlX5, by decide, rfl⟩
theorem fp_X5_2 : gFP RX5 TX5 8 2 tyX5 (.object "WarmBeds$House") := ⟨tyX5_ok, nmX5, tyX5_ok 2 (by decide)⟩
theorem fo_X5_3 : gFO 5 RX5 TX5 8 3 := ⟨rfl, inlX5, by decide, rfl⟩
theorem fp_X5_3 : gFP RX5 TX5 8 3 tyX5 (.object "WarmBeds$Day") := ⟨tyX5_ok, nmX5, tyX5_ok 3 (by decide)⟩
theorem fo_X5_4 : gFO 5 RX5 TX5 8 4 := ⟨rfl, inlX5, by decide, rfl⟩
theorem fp_X5_4 : gFP RX5 TX5 8 4 tyX5 (.object "WarmBeds$Party") := ⟨tyX5_ok, nmX5, tyX5_ok 4 (by decide)⟩
theorem fo_X5_5 : gFO 5 RX5 TX5 8 5 := ⟨rfl, inlX5, by decide, rfl⟩
theorem fp_X5_5 : gFP RX5 TX5 8 5 tyX5 (.object "WarmBeds$Guesses") := ⟨tyX5_ok, nmX5, tyX5_ok 5 (by decide)⟩
theorem fo_X5_6 : gFO 5 RX5 TX5 8 6 := ⟨rfl, inlX5, by decide, rfl⟩
theorem fp_X5_6 : gFP RX5 TX5 8 6 tyX5 (.object "WarmBeds$Inn") := ⟨tyX5_ok, nmX5, tyX5_ok 6 (by decide)⟩
theorem fo_X5_7 : gFO 5 RX5 TX5 8 7 := ⟨rfl, inlX5, by decide, rfl⟩
theorem fp_X5_7 : gFP RX5 TX5 8 7 tyX5 (.array .int) := ⟨tyX5_ok, nmX5, tyX5_ok 7 (by decide)⟩
theorem fo_X6_0 : gFO 6 RX6 TX6 23 0 := ⟨rfl, inlX6, by decide, rfl⟩
theorem fp_X6_0 : gFP RX6 TX6 23 0 tyX6 .int := ⟨tyX6_ok, nmX6, tyX6_ok 0 (by decide)⟩
theorem fo_X6_1 : gFO 6 RX6 TX6 23 1 := ⟨rfl, inlX6, by decide, rfl⟩
theorem fp_X6_1 : gFP RX6 TX6 23 1 tyX6 .int := ⟨tyX6_ok, nmX6, tyX6_ok 1 (by decide)⟩
theorem fo_X6_2 : gFO 6 RX6 TX6 23 2 := ⟨rfl, inlX6, by decide, rfl⟩
theorem fp_X6_2 : gFP RX6 TX6 23 2 tyX6 (.array .int) := ⟨tyX6_ok, nmX6, tyX6_ok 2 (by decide)⟩
theorem fo_X6_3 : gFO 6 RX6 TX6 23 3 := ⟨rfl, inlX6, by decide, rfl⟩
theorem fp_X6_3 : gFP RX6 TX6 23 3 tyX6 .int := ⟨tyX6_ok, nmX6, tyX6_ok 3 (by decide)⟩
theorem fo_X6_4 : gFO 6 RX6 TX6 23 4 := ⟨rfl, inlX6, by decide, rfl⟩
theorem fp_X6_4 : gFP RX6 TX6 23 4 tyX6 (.array .int) := ⟨tyX6_ok, nmX6, tyX6_ok 4 (by decide)⟩
theorem fo_X6_5 : gFO 6 RX6 TX6 23 5 := ⟨rfl, inlX6, by decide, rfl⟩
theorem fp_X6_5 : gFP RX6 TX6 23 5 tyX6 .int := ⟨tyX6_ok, nmX6, tyX6_ok 5 (by decide)⟩
theorem fo_X6_6 : gFO 6 RX6 TX6 23 6 := ⟨rfl, inlX6, by decide, rfl⟩
theorem fp_X6_6 : gFP RX6 TX6 23 6 tyX6 (.array .int) := ⟨tyX6_ok, nmX6, tyX6_ok 6 (by decide)⟩
theorem fo_X6_7 : gFO 6 RX6 TX6 23 7 := ⟨rfl, inlX6, by decide, rfl⟩
theorem fp_X6_7 : gFP RX6 TX6 23 7 tyX6 (.array .int) := ⟨tyX6_ok, nmX6, tyX6_ok 7 (by decide)⟩
theorem fo_X6_8 : gFO 6 RX6 TX6 23 8 := ⟨rfl, inlX6, by decide, rfl⟩
theorem fp_X6_8 : gFP RX6 TX6 23 8 tyX6 .int := ⟨tyX6_ok, nmX6, tyX6_ok 8 (by decide)⟩
theorem fo_X6_9 : gFO 6 RX6 TX6 23 9 := ⟨rfl, inlX6, by decide, rfl⟩
theorem fp_X6_9 : gFP RX6 TX6 23 9 tyX6 (.array .int) := ⟨tyX6_ok, nmX6, tyX6_ok 9 (by decide)⟩
theorem fo_X6_10 : gFO 6 RX6 TX6 23 10 := ⟨rfl, inlX6, by decide, rfl⟩
theorem fp_X6_10 : gFP RX6 TX6 23 10 tyX6 .int := ⟨tyX6_ok, nmX6, tyX6_ok 10 (by decide)⟩
theorem fo_X6_11 : gFO 6 RX6 TX6 23 11 := ⟨rfl, inlX6, by decide, rfl⟩
theorem fp_X6_11 : gFP RX6 TX6 23 11 tyX6 (.array .int) := ⟨tyX6_ok, nmX6, tyX6_ok 11 (by decide)⟩
theorem fo_X6_12 : gFO 6 RX6 TX6 23 12 := ⟨rfl, inlX6, by decide, rfl⟩
theorem fp_X6_12 : gFP RX6 TX6 23 12 tyX6 (.array .int) := ⟨tyX6_ok, nmX6, tyX6_ok 12 (by decide)⟩
theorem fo_X6_13 : gFO 6 RX6 TX6 23 13 := ⟨rfl, inlX6, by decide, rfl⟩
theorem fp_X6_13 : gFP RX6 TX6 23 13 tyX6 (.array .int) := ⟨tyX6_ok, nmX6, tyX6_ok 13 (by decide)⟩
theorem fo_X6_14 : gFO 6 RX6 TX6 23 14 := ⟨rfl, inlX6, by decide, rfl⟩
theorem fp_X6_14 : gFP RX6 TX6 23 14 tyX6 (.array .int) := ⟨tyX6_ok, nmX6, tyX6_ok 14 (by decide)⟩
theorem fo_X6_15 : gFO 6 RX6 TX6 23 15 := ⟨rfl, inlX6, by decide, rfl⟩
theorem fp_X6_15 : gFP RX6 TX6 23 15 tyX6 (.array .int) := ⟨tyX6_ok, nmX6, tyX6_ok 15 (by decide)⟩
theorem fo_X6_16 : gFO 6 RX6 TX6 23 16 := ⟨rfl, inlX6, by decide, rfl⟩
theorem fp_X6_16 : gFP RX6 TX6 23 16 tyX6 .int := ⟨tyX6_ok, nmX6, tyX6_ok 16 (by decide)⟩
theorem fo_X6_17 : gFO 6 RX6 TX6 23 17 := ⟨rfl, inlX6, by decide, rfl⟩
theorem fp_X6_17 : gFP RX6 TX6 23 17 tyX6 .int := ⟨tyX6_ok, nmX6, tyX6_ok 17 (by decide)⟩
theorem fo_X6_18 : gFO 6 RX6 TX6 23 18 := ⟨rfl, inlX6, by decide, rfl⟩
theorem fp_X6_18 : gFP RX6 TX6 23 18 tyX6 .int := ⟨tyX6_ok, nmX6, tyX6_ok 18 (by decide)⟩
theorem fo_X6_19 : gFO 6 RX6 TX6 23 19 := ⟨rfl, inlX6, by decide, rfl⟩
theorem fp_X6_19 : gFP RX6 TX6 23 19 tyX6 (.array .int) := ⟨tyX6_ok, nmX6, tyX6_ok 19 (by decide)⟩
theorem fo_X6_20 : gFO 6 RX6 TX6 23 20 := ⟨rfl, inlX6, by decide, rfl⟩
theorem fp_X6_20 : gFP RX6 TX6 23 20 tyX6 (.array .int) := ⟨tyX6_ok, nmX6, tyX6_ok 20 (by decide)⟩
theorem fo_X6_21 : gFO 6 RX6 TX6 23 21 := ⟨rfl, inlX6, by decide, rfl⟩
theorem fp_X6_21 : gFP RX6 TX6 23 21 tyX6 (.array .int) := ⟨tyX6_ok, nmX6, tyX6_ok 21 (by decide)⟩
theorem fo_X6_22 : gFO 6 RX6 TX6 23 22 := ⟨rfl, inlX6, by decide, rfl⟩
theorem fp_X6_22 : gFP RX6 TX6 23 22 tyX6 (.array .boolean) := ⟨tyX6_ok, nmX6, tyX6_ok 22 (by decide)⟩
theorem fw_X5_12 : Cond.fieldLink RX5 12 RX5 (TX5 0).2.1 (TX5 0).2.2.1 ∈ wsL_law := wl_1 _ (List.mem_of_getElem? (i := 15) rfl)
theorem fw_X5_16 : Cond.fieldLink RX5 16 RX5 (TX5 1).2.1 (TX5 1).2.2.1 ∈ wsL_law := wl_1 _ (List.mem_of_getElem? (i := 16) rfl)
theorem fw_X5_19 : Cond.fieldLink RX5 19 RX5 (TX5 2).2.1 (TX5 2).2.2.1 ∈ wsL_law := wl_1 _ (List.mem_of_getElem? (i := 17) rfl)
theorem fw_X5_25 : Cond.fieldLink RX5 25 RX5 (TX5 3).2.1 (TX5 3).2.2.1 ∈ wsL_law := wl_1 _ (List.mem_of_getElem? (i := 21) rfl)
theorem fw_X5_32 : Cond.fieldLink RX5 32 RX5 (TX5 4).2.1 (TX5 4).2.2.1 ∈ wsL_law := wl_2 _ (List.mem_of_getElem? (i := 1) rfl)
theorem fw_X5_39 : Cond.fieldLink RX5 39 RX5 (TX5 5).2.1 (TX5 5).2.2.1 ∈ wsL_law := wl_2 _ (List.mem_of_getElem? (i := 5) rfl)
theorem fw_X5_43 : Cond.fieldLink RX5 43 RX5 (TX5 7).2.1 (TX5 7).2.2.1 ∈ wsL_law := wl_2 _ (List.mem_of_getElem? (i := 7) rfl)
theorem fw_X5_52 : Cond.fieldLink RX5 52 RX5 (TX5 6).2.1 (TX5 6).2.2.1 ∈ wsL_law := wl_2 _ (List.mem_of_getElem? (i := 11) rfl)
theorem fw_X0_9 : Cond.fieldLink RX0 9 RX0 (TX0 1).2.1 (TX0 1).2.2.1 ∈ wsL_law := wl_2 _ (List.mem_of_getElem? (i := 22) rfl)
theorem fw_X0_15 : Cond.fieldLink RX0 15 RX0 (TX0 0).2.1 (TX0 0).2.2.1 ∈ wsL_law := wl_7 _ (List.mem_of_getElem? (i := 6) rfl)
theorem fw_X1_9 : Cond.fieldLink RX1 9 RX1 (TX1 2).2.1 (TX1 2).2.2.1 ∈ wsL_law := wl_3 _ (List.mem_of_getElem? (i := 7) rfl)
theorem fw_X1_15 : Cond.fieldLink RX1 15 RX1 (TX1 3).2.1 (TX1 3).2.2.1 ∈ wsL_law := wl_3 _ (List.mem_of_getElem? (i := 8) rfl)
theorem fw_X1_18 : Cond.fieldLink RX1 18 RX1 (TX1 4).2.1 (TX1 4).2.2.1 ∈ wsL_law := wl_3 _ (List.mem_of_getElem? (i := 9) rfl)
theorem fw_X1_21 : Cond.fieldLink RX1 21 RX1 (TX1 0).2.1 (TX1 0).2.2.1 ∈ wsL_law := wl_25 _ (List.mem_of_getElem? (i := 2) rfl)
theorem fw_X1_25 : Cond.fieldLink RX1 25 RX1 (TX1 1).2.1 (TX1 1).2.2.1 ∈ wsL_law := wl_25 _ (List.mem_of_getElem? (i := 3) rfl)
theorem fw_X2_9 : Cond.fieldLink RX2 9 RX2 (TX2 0).2.1 (TX2 0).2.2.1 ∈ wsL_law := wl_2 _ (List.mem_of_getElem? (i := 15) rfl)
theorem fw_X2_15 : Cond.fieldLink RX2 15 RX2 (TX2 4).2.1 (TX2 4).2.2.1 ∈ wsL_law := wl_2 _ (List.mem_of_getElem? (i := 16) rfl)
theorem fw_X2_19 : Cond.fieldLink RX2 19 RX2 (TX2 5).2.1 (TX2 5).2.2.1 ∈ wsL_law := wl_2 _ (List.mem_of_getElem? (i := 17) rfl)
theorem fw_X2_22 : Cond.fieldLink RX2 22 RX2 (TX2 6).2.1 (TX2 6).2.2.1 ∈ wsL_law := wl_2 _ (List.mem_of_getElem? (i := 18) rfl)
theorem fw_X2_25 : Cond.fieldLink RX2 25 RX2 (TX2 2).2.1 (TX2 2).2.2.1 ∈ wsL_law := wl_5 _ (List.mem_of_getElem? (i := 2) rfl)
theorem fw_X2_38 : Cond.fieldLink RX2 38 RX2 (TX2 1).2.1 (TX2 1).2.2.1 ∈ wsL_law := wl_29 _ (List.mem_of_getElem? (i := 3) rfl)
theorem fw_X3_9 : Cond.fieldLink RX3 9 RX3 (TX3 4).2.1 (TX3 4).2.2.1 ∈ wsL_law := wl_3 _ (List.mem_of_getElem? (i := 13) rfl)
theorem fw_X3_15 : Cond.fieldLink RX3 15 RX3 (TX3 5).2.1 (TX3 5).2.2.1 ∈ wsL_law := wl_3 _ (List.mem_of_getElem? (i := 14) rfl)
theorem fw_X3_18 : Cond.fieldLink RX3 18 RX3 (TX3 7).2.1 (TX3 7).2.2.1 ∈ wsL_law := wl_3 _ (List.mem_of_getElem? (i := 15) rfl)
theorem fw_X3_21 : Cond.fieldLink RX3 21 RX3 (TX3 9).2.1 (TX3 9).2.2.1 ∈ wsL_law := wl_3 _ (List.mem_of_getElem? (i := 16) rfl)
theorem fw_X3_24 : Cond.fieldLink RX3 24 RX3 (TX3 10).2.1 (TX3 10).2.2.1 ∈ wsL_law := wl_3 _ (List.mem_of_getElem? (i := 17) rfl)
theorem fw_X3_27 : Cond.fieldLink RX3 27 RX3 (TX3 11).2.1 (TX3 11).2.2.1 ∈ wsL_law := wl_3 _ (List.mem_of_getElem? (i := 18) rfl)
theorem fw_X3_30 : Cond.fieldLink RX3 30 RX3 (TX3 12).2.1 (TX3 12).2.2.1 ∈ wsL_law := wl_3 _ (List.mem_of_getElem? (i := 19) rfl)
theorem fw_X3_33 : Cond.fieldLink RX3 33 RX3 (TX3 0).2.1 (TX3 0).2.2.1 ∈ wsL_law := wl_3 _ (List.mem_of_getElem? (i := 20) rfl)
theorem fw_X3_37 : Cond.fieldLink RX3 37 RX3 (TX3 1).2.1 (TX3 1).2.2.1 ∈ wsL_law := wl_3 _ (List.mem_of_getElem? (i := 21) rfl)
theorem fw_X3_41 : Cond.fieldLink RX3 41 RX3 (TX3 2).2.1 (TX3 2).2.2.1 ∈ wsL_law := wl_9 _ (List.mem_of_getElem? (i := 17) rfl)
theorem fw_X3_45 : Cond.fieldLink RX3 45 RX3 (TX3 3).2.1 (TX3 3).2.2.1 ∈ wsL_law := wl_9 _ (List.mem_of_getElem? (i := 18) rfl)
theorem fw_X3_48 : Cond.fieldLink RX3 48 RX3 (TX3 6).2.1 (TX3 6).2.2.1 ∈ wsL_law := wl_9 _ (List.mem_of_getElem? (i := 19) rfl)
theorem fw_X3_51 : Cond.fieldLink RX3 51 RX3 (TX3 8).2.1 (TX3 8).2.2.1 ∈ wsL_law := wl_9 _ (List.mem_of_getElem? (i := 20) rfl)
theorem fw_X3_54 : Cond.fieldLink RX3 54 RX3 (TX3 13).2.1 (TX3 13).2.2.1 ∈ wsL_law := wl_9 _ (List.mem_of_getElem? (i := 21) rfl)
theorem fw_X3_57 : Cond.fieldLink RX3 57 RX3 (TX3 14).2.1 (TX3 14).2.2.1 ∈ wsL_law := wl_9 _ (List.mem_of_getElem? (i := 22) rfl)
theorem fw_X3_60 : Cond.fieldLink RX3 60 RX3 (TX3 15).2.1 (TX3 15).2.2.1 ∈ wsL_law := wl_9 _ (List.mem_of_getElem? (i := 23) rfl)
theorem fw_X4_9 : Cond.fieldLink RX4 9 RX4 (TX4 2).2.1 (TX4 2).2.2.1 ∈ wsL_law := wl_3 _ (List.mem_of_getElem? (i := 2) rfl)
theorem fw_X4_15 : Cond.fieldLink RX4 15 RX4 (TX4 3).2.1 (TX4 3).2.2.1 ∈ wsL_law := wl_3 _ (List.mem_of_getElem? (i := 3) rfl)
theorem fw_X4_18 : Cond.fieldLink RX4 18 RX4 (TX4 0).2.1 (TX4 0).2.2.1 ∈ wsL_law := wl_21 _ (List.mem_of_getElem? (i := 19) rfl)
theorem fw_X4_28 : Cond.fieldLink RX4 28 RX4 (TX4 1).2.1 (TX4 1).2.2.1 ∈ wsL_law := wl_21 _ (List.mem_of_getElem? (i := 20) rfl)
theorem fw_X6_7 : Cond.fieldLink RX6 7 RX6 (TX6 0).2.1 (TX6 0).2.2.1 ∈ wsL_law := wl_4 _ (List.mem_of_getElem? (i := 2) rfl)
theorem fw_X6_13 : Cond.fieldLink RX6 13 RX6 (TX6 2).2.1 (TX6 2).2.2.1 ∈ wsL_law := wl_4 _ (List.mem_of_getElem? (i := 3) rfl)
theorem fw_X6_17 : Cond.fieldLink RX6 17 RX6 (TX6 4).2.1 (TX6 4).2.2.1 ∈ wsL_law := wl_4 _ (List.mem_of_getElem? (i := 4) rfl)
theorem fw_X6_20 : Cond.fieldLink RX6 20 RX6 (TX6 6).2.1 (TX6 6).2.2.1 ∈ wsL_law := wl_4 _ (List.mem_of_getElem? (i := 5) rfl)
theorem fw_X6_23 : Cond.fieldLink RX6 23 RX6 (TX6 7).2.1 (TX6 7).2.2.1 ∈ wsL_law := wl_4 _ (List.mem_of_getElem? (i := 6) rfl)
theorem fw_X6_26 : Cond.fieldLink RX6 26 RX6 (TX6 9).2.1 (TX6 9).2.2.1 ∈ wsL_law := wl_4 _ (List.mem_of_getElem? (i := 7) rfl)
theorem fw_X6_29 : Cond.fieldLink RX6 29 RX6 (TX6 11).2.1 (TX6 11).2.2.1 ∈ wsL_law := wl_4 _ (List.mem_of_getElem? (i := 8) rfl)
theorem fw_X6_32 : Cond.fieldLink RX6 32 RX6 (TX6 12).2.1 (TX6 12).2.2.1 ∈ wsL_law := wl_4 _ (List.mem_of_getElem? (i := 9) rfl)
theorem fw_X6_35 : Cond.fieldLink RX6 35 RX6 (TX6 13).2.1 (TX6 13).2.2.1 ∈ wsL_law := wl_4 _ (List.mem_of_getElem? (i := 10) rfl)
theorem fw_X6_38 : Cond.fieldLink RX6 38 RX6 (TX6 14).2.1 (TX6 14).2.2.1 ∈ wsL_law := wl_4 _ (List.mem_of_getElem? (i := 11) rfl)
theorem fw_X6_41 : Cond.fieldLink RX6 41 RX6 (TX6 15).2.1 (TX6 15).2.2.1 ∈ wsL_law := wl_4 _ (List.mem_of_getElem? (i := 12) rfl)
theorem fw_X6_44 : Cond.fieldLink RX6 44 RX6 (TX6 19).2.1 (TX6 19).2.2.1 ∈ wsL_law := wl_4 _ (List.mem_of_getElem? (i := 13) rfl)
theorem fw_X6_47 : Cond.fieldLink RX6 47 RX6 (TX6 20).2.1 (TX6 20).2.2.1 ∈ wsL_law := wl_4 _ (List.mem_of_getElem? (i := 14) rfl)
theorem fw_X6_50 : Cond.fieldLink RX6 50 RX6 (TX6 21).2.1 (TX6 21).2.2.1 ∈ wsL_law := wl_4 _ (List.mem_of_getElem? (i := 15) rfl)
theorem fw_X6_53 : Cond.fieldLink RX6 53 RX6 (TX6 22).2.1 (TX6 22).2.2.1 ∈ wsL_law := wl_4 _ (List.mem_of_getElem? (i := 17) rfl)
theorem fw_X6_57 : Cond.fieldLink RX6 57 RX6 (TX6 1).2.1 (TX6 1).2.2.1 ∈ wsL_law := wl_4 _ (List.mem_of_getElem? (i := 18) rfl)
theorem fw_X6_64 : Cond.fieldLink RX6 64 RX6 (TX6 3).2.1 (TX6 3).2.2.1 ∈ wsL_law := wl_5 _ (List.mem_of_getElem? (i := 7) rfl)
theorem fw_X6_74 : Cond.fieldLink RX6 74 RX6 (TX6 5).2.1 (TX6 5).2.2.1 ∈ wsL_law := wl_7 _ (List.mem_of_getElem? (i := 14) rfl)
theorem fw_X6_81 : Cond.fieldLink RX6 81 RX6 (TX6 8).2.1 (TX6 8).2.2.1 ∈ wsL_law := wl_13 _ (List.mem_of_getElem? (i := 19) rfl)
theorem fw_X6_84 : Cond.fieldLink RX6 84 RX6 (TX6 10).2.1 (TX6 10).2.2.1 ∈ wsL_law := wl_13 _ (List.mem_of_getElem? (i := 20) rfl)
theorem fw_X6_109 : Cond.fieldLink RX6 109 RX6 (TX6 17).2.1 (TX6 17).2.2.1 ∈ wsL_law := wl_14 _ (List.mem_of_getElem? (i := 5) rfl)
theorem fw_X6_116 : Cond.fieldLink RX6 116 RX6 (TX6 16).2.1 (TX6 16).2.2.1 ∈ wsL_law := wl_14 _ (List.mem_of_getElem? (i := 6) rfl)
theorem fw_X6_134 : Cond.fieldLink RX6 134 RX6 (TX6 18).2.1 (TX6 18).2.2.1 ∈ wsL_law := wl_13 _ (List.mem_of_getElem? (i := 6) rfl)
theorem fw_X5_56 : (RX5, 56, RX2, (TX2 0).2.1, (TX2 0).2.2.1, RX5) ∈ gNF := List.mem_of_getElem? (i := 0) rfl
theorem fw_X5_79 : (RX5, 79, RX2, (TX2 1).2.1, (TX2 1).2.2.1, RX5) ∈ gNF := List.mem_of_getElem? (i := 3) rfl
theorem fw_X5_89 : (RX5, 89, RX0, (TX0 0).2.1, (TX0 0).2.2.1, RX5) ∈ gNF := List.mem_of_getElem? (i := 7) rfl
theorem fw_X5_128 : (RX5, 128, RX3, (TX3 8).2.1, (TX3 8).2.2.1, RX5) ∈ gNF := List.mem_of_getElem? (i := 16) rfl
theorem fw_X5_158 : (RX5, 158, RX3, (TX3 3).2.1, (TX3 3).2.2.1, RX5) ∈ gNF := List.mem_of_getElem? (i := 15) rfl
theorem fw_X5_170 : (RX5, 170, RX4, (TX4 0).2.1, (TX4 0).2.2.1, RX5) ∈ gNF := List.mem_of_getElem? (i := 8) rfl
theorem fw_X5_179 : (RX5, 179, RX3, (TX3 13).2.1, (TX3 13).2.2.1, RX5) ∈ gNF := List.mem_of_getElem? (i := 17) rfl
theorem fw_X5_182 : (RX5, 182, RX3, (TX3 14).2.1, (TX3 14).2.2.1, RX5) ∈ gNF := List.mem_of_getElem? (i := 18) rfl
theorem fw_X5_185 : (RX5, 185, RX2, (TX2 2).2.1, (TX2 2).2.2.1, RX5) ∈ gNF := List.mem_of_getElem? (i := 4) rfl
theorem fw_X5_196 : (RX5, 196, RX1, (TX1 0).2.1, (TX1 0).2.2.1, RX5) ∈ gNF := List.mem_of_getElem? (i := 9) rfl
theorem fw_X5_233 : (RX5, 233, RX2, (TX2 3).2.1, (TX2 3).2.2.1, RX5) ∈ gNF := List.mem_of_getElem? (i := 5) rfl
theorem fw_X5_243 : (RX5, 243, RX3, (TX3 1).2.1, (TX3 1).2.2.1, RX5) ∈ gNF := List.mem_of_getElem? (i := 14) rfl
theorem fw_X1_28 : (RX1, 28, RX0, (TX0 0).2.1, (TX0 0).2.2.1, RX5) ∈ gNF := List.mem_of_getElem? (i := 6) rfl
theorem fw_X1_37 : (RX1, 37, RX2, (TX2 1).2.1, (TX2 1).2.2.1, RX5) ∈ gNF := List.mem_of_getElem? (i := 2) rfl
theorem fw_X1_63 : (RX1, 63, RX3, (TX3 1).2.1, (TX3 1).2.2.1, RX5) ∈ gNF := List.mem_of_getElem? (i := 13) rfl
theorem fw_X1_77 : (RX1, 77, RX3, (TX3 0).2.1, (TX3 0).2.2.1, RX5) ∈ gNF := List.mem_of_getElem? (i := 11) rfl
theorem fw_X3_64 : (RX3, 64, RX2, (TX2 0).2.1, (TX2 0).2.2.1, RX5) ∈ gNF := List.mem_of_getElem? (i := 1) rfl
theorem fw_X4_39 : (RX4, 39, RX3, (TX3 1).2.1, (TX3 1).2.2.1, RX5) ∈ gNF := List.mem_of_getElem? (i := 12) rfl
theorem fw_X4_52 : (RX4, 52, RX3, (TX3 0).2.1, (TX3 0).2.2.1, RX5) ∈ gNF := List.mem_of_getElem? (i := 10) rfl
theorem mw_X5_3 : Cond.methodLink RX5 3 objectInit ∈ wsL_law := wl_1 _ (List.mem_of_getElem? (i := 9) rfl)
theorem gm_X5_64 : gMS RX5 64 yX5_isGuest cX5_isGuest 1 (some .boolean) 1 := ⟨wl_5 _ (List.mem_of_getElem? (i := 15) rfl), wl_5 _ (List.mem_of_getElem? (i := 16) rfl), wl_1 _ (List.mem_of_getElem? (i := 2) rfl), wl_5 _ (List.mem_of_getElem? (i := 17) rfl), ⟨by decide, by decide, by decide +kernel⟩⟩
theorem gm_X5_68 : gMV RX5 68 yX5_isBed cX5_isBed 2 (some .boolean) 1 := ⟨wl_5 _ (List.mem_of_getElem? (i := 18) rfl), wl_5 _ (List.mem_of_getElem? (i := 19) rfl), wl_5 _ (List.mem_of_getElem? (i := 20) rfl), wl_1 _ (List.mem_of_getElem? (i := 2) rfl), wl_5 _ (List.mem_of_getElem? (i := 21) rfl), ⟨by decide, by decide, by decide +kernel⟩⟩
theorem gm_X5_96 : gMS RX5 96 yX5_isEither cX5_isEither 1 (some .boolean) 1 := ⟨wl_9 _ (List.mem_of_getElem? (i := 4) rfl), wl_9 _ (List.mem_of_getElem? (i := 5) rfl), wl_1 _ (List.mem_of_getElem? (i := 2) rfl), wl_9 _ (List.mem_of_getElem? (i := 6) rfl), ⟨by decide, by decide, by decide +kernel⟩⟩
theorem gm_X5_116 : gMV RX5 116 yX5_isCountOfEvents cX5_isCountOfEvents 2 (some .boolean) 1 := ⟨wl_16 _ (List.mem_of_getElem? (i := 6) rfl), wl_16 _ (List.mem_of_getElem? (i := 7) rfl), wl_16 _ (List.mem_of_getElem? (i := 8) rfl), wl_1 _ (List.mem_of_getElem? (i := 2) rfl), wl_16 _ (List.mem_of_getElem? (i := 9) rfl), ⟨by decide, by decide, by decide +kernel⟩⟩
theorem gm_X5_119 : gMV RX5 119 yX5_liveThrough cX5_liveThrough 3 (some .int) 1 := ⟨wl_16 _ (List.mem_of_getElem? (i := 10) rfl), wl_16 _ (List.mem_of_getElem? (i := 11) rfl), wl_16 _ (List.mem_of_getElem? (i := 12) rfl), wl_1 _ (List.mem_of_getElem? (i := 2) rfl), wl_16 _ (List.mem_of_getElem? (i := 13) rfl), ⟨by decide, by decide, by decide +kernel⟩⟩
theorem gm_X5_137 : gMV RX5 137 yX5_sheetsBy cX5_sheetsBy 2 (some .int) 1 := ⟨wl_18 _ (List.mem_of_getElem? (i := 8) rfl), wl_18 _ (List.mem_of_getElem? (i := 9) rfl), wl_18 _ (List.mem_of_getElem? (i := 10) rfl), wl_1 _ (List.mem_of_getElem? (i := 2) rfl), wl_18 _ (List.mem_of_getElem? (i := 11) rfl), ⟨by decide, by decide, by decide +kernel⟩⟩
theorem gm_X5_143 : gMV RX5 143 yX5_refusalOfComing cX5_refusalOfComing 3 (some .int) 1 := ⟨wl_19 _ (List.mem_of_getElem? (i := 2) rfl), wl_19 _ (List.mem_of_getElem? (i := 3) rfl), wl_19 _ (List.mem_of_getElem? (i := 4) rfl), wl_1 _ (List.mem_of_getElem? (i := 2) rfl), wl_19 _ (List.mem_of_getElem? (i := 5) rfl), ⟨by decide, by decide, by decide +kernel⟩⟩
theorem gm_X5_146 : gMV RX5 146 yX5_tryAllPlaces cX5_tryAllPlaces 4 none 1 := ⟨wl_19 _ (List.mem_of_getElem? (i := 6) rfl), wl_19 _ (List.mem_of_getElem? (i := 7) rfl), wl_19 _ (List.mem_of_getElem? (i := 8) rfl), wl_1 _ (List.mem_of_getElem? (i := 2) rfl), wl_19 _ (List.mem_of_getElem? (i := 9) rfl), ⟨by decide, by decide, by decide +kernel⟩⟩
theorem gm_X5_149 : gMV RX5 149 yX5_bedComingAt cX5_bedComingAt 2 (some .int) 1 := ⟨wl_19 _ (List.mem_of_getElem? (i := 17) rfl), wl_19 _ (List.mem_of_getElem? (i := 18) rfl), wl_19 _ (List.mem_of_getElem? (i := 19) rfl), wl_1 _ (List.mem_of_getElem? (i := 2) rfl), wl_19 _ (List.mem_of_getElem? (i := 20) rfl), ⟨by decide, by decide, by decide +kernel⟩⟩
theorem gm_X5_152 : gMV RX5 152 yX5_worthComingAt cX5_worthComingAt 4 (some .int) 2 := ⟨wl_20 _ (List.mem_of_getElem? (i := 13) rfl), wl_20 _ (List.mem_of_getElem? (i := 14) rfl), wl_20 _ (List.mem_of_getElem? (i := 15) rfl), wl_1 _ (List.mem_of_getElem? (i := 2) rfl), wl_20 _ (List.mem_of_getElem? (i := 16) rfl), ⟨by decide, by decide, by decide +kernel⟩⟩
theorem gm_X5_161 : gMS RX5 161 yJ6_bitCount_0f7a4 cJ6_bitCount_0f7a4 1 (some .int) 1 := ⟨wl_21 _ (List.mem_of_getElem? (i := 9) rfl), wl_21 _ (List.mem_of_getElem? (i := 10) rfl), wl_21 _ (List.mem_of_getElem? (i := 11) rfl), wl_21 _ (List.mem_of_getElem? (i := 12) rfl), ⟨by decide, by decide, by decide +kernel⟩⟩
theorem gm_X5_176 : gMV RX5 176 yX5_spreadFrom cX5_spreadFrom 2 none 1 := ⟨wl_23 _ (List.mem_of_getElem? (i := 1) rfl), wl_23 _ (List.mem_of_getElem? (i := 2) rfl), wl_23 _ (List.mem_of_getElem? (i := 3) rfl), wl_1 _ (List.mem_of_getElem? (i := 2) rfl), wl_23 _ (List.mem_of_getElem? (i := 4) rfl), ⟨by decide, by decide, by decide +kernel⟩⟩
theorem gm_X5_211 : gMS RX5 211 yX5_weightOf cX5_weightOf 9 (some .long) 4 := ⟨wl_27 _ (List.mem_of_getElem? (i := 8) rfl), wl_27 _ (List.mem_of_getElem? (i := 9) rfl), wl_1 _ (List.mem_of_getElem? (i := 2) rfl), wl_27 _ (List.mem_of_getElem? (i := 10) rfl), ⟨by decide, by decide, by decide +kernel⟩⟩
theorem gm_X5_215 : gMS RX5 215 yX5_partInLowestTerms cX5_partInLowestTerms 9 (some .long) 3 := ⟨wl_27 _ (List.mem_of_getElem? (i := 14) rfl), wl_27 _ (List.mem_of_getElem? (i := 15) rfl), wl_1 _ (List.mem_of_getElem? (i := 2) rfl), wl_27 _ (List.mem_of_getElem? (i := 16) rfl), ⟨by decide, by decide, by decide +kernel⟩⟩
theorem gm_X5_237 : gMV RX5 237 yX5_worthTold cX5_worthTold 4 (some .int) 1 := ⟨wl_29 _ (List.mem_of_getElem? (i := 21) rfl), wl_29 _ (List.mem_of_getElem? (i := 22) rfl), wl_29 _ (List.mem_of_getElem? (i := 23) rfl), wl_1 _ (List.mem_of_getElem? (i := 2) rfl), wl_30 _ (List.mem_of_getElem? (i := 0) rfl), ⟨by decide, by decide, by decide +kernel⟩⟩
theorem mw_X0_3 : Cond.methodLink RX0 3 objectInit ∈ wsL_law := wl_2 _ (List.mem_of_getElem? (i := 21) rfl)
theorem gm_X0_19 : gMV RX0 19 yX0_signAt cX0_signAt 2 (some .int) 1 := ⟨wl_8 _ (List.mem_of_getElem? (i := 6) rfl), wl_8 _ (List.mem_of_getElem? (i := 7) rfl), wl_8 _ (List.mem_of_getElem? (i := 8) rfl), wl_1 _ (List.mem_of_getElem? (i := 20) rfl), wl_8 _ (List.mem_of_getElem? (i := 9) rfl), ⟨by decide, by decide, by decide +kernel⟩⟩
theorem gm_X0_23 : gMS RX0 23 yX0_isComing cX0_isComing 1 (some .boolean) 1 := ⟨wl_8 _ (List.mem_of_getElem? (i := 10) rfl), wl_8 _ (List.mem_of_getElem? (i := 11) rfl), wl_1 _ (List.mem_of_getElem? (i := 20) rfl), wl_8 _ (List.mem_of_getElem? (i := 12) rfl), ⟨by decide, by decide, by decide +kernel⟩⟩
theorem gm_X0_27 : gMS RX0 27 yX0_isGoing cX0_isGoing 1 (some .boolean) 1 := ⟨wl_8 _ (List.mem_of_getElem? (i := 13) rfl), wl_8 _ (List.mem_of_getElem? (i := 14) rfl), wl_1 _ (List.mem_of_getElem? (i := 20) rfl), wl_8 _ (List.mem_of_getElem? (i := 15) rfl), ⟨by decide, by decide, by decide +kernel⟩⟩
theorem gm_X0_30 : gMV RX0 30 yX0_nextUntold cX0_nextUntold 3 (some .int) 1 := ⟨wl_9 _ (List.mem_of_getElem? (i := 10) rfl), wl_9 _ (List.mem_of_getElem? (i := 11) rfl), wl_9 _ (List.mem_of_getElem? (i := 12) rfl), wl_1 _ (List.mem_of_getElem? (i := 20) rfl), wl_9 _ (List.mem_of_getElem? (i := 13) rfl), ⟨by decide, by decide, by decide +kernel⟩⟩
theorem mw_X1_3 : Cond.methodLink RX1 3 objectInit ∈ wsL_law := wl_3 _ (List.mem_of_getElem? (i := 6) rfl)
theorem gm_X1_48 : gMS RX1 48 yX1_fillFrom cX1_fillFrom 8 none 5 := ⟨wl_25 _ (List.mem_of_getElem? (i := 4) rfl), wl_25 _ (List.mem_of_getElem? (i := 5) rfl), wl_2 _ (List.mem_of_getElem? (i := 4) rfl), wl_25 _ (List.mem_of_getElem? (i := 6) rfl), ⟨by decide, by decide, by decide +kernel⟩⟩
theorem gm_X1_59 : gMV RX1 59 yX1_keepIfSeen cX1_keepIfSeen 3 none 1 := ⟨wl_25 _ (List.mem_of_getElem? (i := 7) rfl), wl_25 _ (List.mem_of_getElem? (i := 8) rfl), wl_25 _ (List.mem_of_getElem? (i := 9) rfl), wl_2 _ (List.mem_of_getElem? (i := 4) rfl), wl_25 _ (List.mem_of_getElem? (i := 10) rfl), ⟨by decide, by decide, by decide +kernel⟩⟩
theorem mw_X1_85 : Cond.methodLink RX1 85 arraycopyName ∈ wsL_law := wl_25 _ (List.mem_of_getElem? (i := 11) rfl)
theorem gm_X1_91 : gMV RX1 91 yX1_isUntold cX1_isUntold 2 (some .boolean) 1 := ⟨wl_25 _ (List.mem_of_getElem? (i := 18) rfl), wl_25 _ (List.mem_of_getElem? (i := 19) rfl), wl_25 _ (List.mem_of_getElem? (i := 20) rfl), wl_2 _ (List.mem_of_getElem? (i := 4) rfl), wl_25 _ (List.mem_of_getElem? (i := 21) rfl), ⟨by decide, by decide, by decide +kernel⟩⟩
theorem mw_X2_3 : Cond.methodLink RX2 3 objectInit ∈ wsL_law := wl_2 _ (List.mem_of_getElem? (i := 14) rfl)
theorem mw_X2_41 : Cond.methodLink RX2 41 arraycopyName ∈ wsL_law := wl_29 _ (List.mem_of_getElem? (i := 4) rfl)
theorem mw_X3_3 : Cond.methodLink RX3 3 objectInit ∈ wsL_law := wl_3 _ (List.mem_of_getElem? (i := 12) rfl)
theorem gm_X3_69 : gMV RX3 69 yX3_leaveEmpty cX3_leaveEmpty 2 none 1 := ⟨wl_10 _ (List.mem_of_getElem? (i := 0) rfl), wl_10 _ (List.mem_of_getElem? (i := 1) rfl), wl_10 _ (List.mem_of_getElem? (i := 2) rfl), wl_2 _ (List.mem_of_getElem? (i := 10) rfl), wl_10 _ (List.mem_of_getElem? (i := 3) rfl), ⟨by decide, by decide, by decide +kernel⟩⟩
theorem mw_X3_73 : Cond.methodLink RX3 73 arraycopyName ∈ wsL_law := wl_19 _ (List.mem_of_getElem? (i := 13) rfl)
theorem gm_X3_85 : gMV RX3 85 yX3_whyNot cX3_whyNot 2 (some .int) 1 := ⟨wl_10 _ (List.mem_of_getElem? (i := 7) rfl), wl_10 _ (List.mem_of_getElem? (i := 8) rfl), wl_10 _ (List.mem_of_getElem? (i := 9) rfl), wl_2 _ (List.mem_of_getElem? (i := 10) rfl), wl_10 _ (List.mem_of_getElem? (i := 10) rfl), ⟨by decide, by decide, by decide +kernel⟩⟩
theorem gm_X3_92 : gMV RX3 92 yX3_takeIn cX3_takeIn 3 none 1 := ⟨wl_10 _ (List.mem_of_getElem? (i := 18) rfl), wl_10 _ (List.mem_of_getElem? (i := 19) rfl), wl_10 _ (List.mem_of_getElem? (i := 20) rfl), wl_2 _ (List.mem_of_getElem? (i := 10) rfl), wl_10 _ (List.mem_of_getElem? (i := 21) rfl), ⟨by decide, by decide, by decide +kernel⟩⟩
theorem gm_X3_98 : gMV RX3 98 yX3_letGo cX3_letGo 3 none 1 := ⟨wl_11 _ (List.mem_of_getElem? (i := 22) rfl), wl_11 _ (List.mem_of_getElem? (i := 23) rfl), wl_12 _ (List.mem_of_getElem? (i := 0) rfl), wl_2 _ (List.mem_of_getElem? (i := 10) rfl), wl_12 _ (List.mem_of_getElem? (i := 1) rfl), ⟨by decide, by decide, by decide +kernel⟩⟩
theorem gm_X3_101 : gMV RX3 101 yX3_passNight cX3_passNight 2 none 0 := ⟨wl_12 _ (List.mem_of_getElem? (i := 18) rfl), wl_12 _ (List.mem_of_getElem? (i := 19) rfl), wl_12 _ (List.mem_of_getElem? (i := 20) rfl), wl_2 _ (List.mem_of_getElem? (i := 10) rfl), wl_12 _ (List.mem_of_getElem? (i := 21) rfl), ⟨by decide, by decide, by decide +kernel⟩⟩
theorem gm_X3_104 : gMV RX3 104 yX3_isThere cX3_isThere 2 (some .boolean) 1 := ⟨wl_10 _ (List.mem_of_getElem? (i := 11) rfl), wl_10 _ (List.mem_of_getElem? (i := 12) rfl), wl_10 _ (List.mem_of_getElem? (i := 13) rfl), wl_2 _ (List.mem_of_getElem? (i := 10) rfl), wl_10 _ (List.mem_of_getElem? (i := 14) rfl), ⟨by decide, by decide, by decide +kernel⟩⟩
theorem gm_X3_107 : gMS RX3 107 yX3_bitOf cX3_bitOf 1 (some .int) 1 := ⟨wl_10 _ (List.mem_of_getElem? (i := 15) rfl), wl_10 _ (List.mem_of_getElem? (i := 16) rfl), wl_2 _ (List.mem_of_getElem? (i := 10) rfl), wl_10 _ (List.mem_of_getElem? (i := 17) rfl), ⟨by decide, by decide, by decide +kernel⟩⟩
theorem gm_X3_110 : gMV RX3 110 yX3_choice cX3_choice 2 (some .int) 1 := ⟨wl_10 _ (List.mem_of_getElem? (i := 22) rfl), wl_10 _ (List.mem_of_getElem? (i := 23) rfl), wl_11 _ (List.mem_of_getElem? (i := 0) rfl), wl_2 _ (List.mem_of_getElem? (i := 10) rfl), wl_11 _ (List.mem_of_getElem? (i := 1) rfl), ⟨by decide, by decide, by decide +kernel⟩⟩
theorem gm_X3_113 : gMV RX3 113 yX3_waitInYard cX3_waitInYard 2 none 1 := ⟨wl_11 _ (List.mem_of_getElem? (i := 10) rfl), wl_11 _ (List.mem_of_getElem? (i := 11) rfl), wl_11 _ (List.mem_of_getElem? (i := 12) rfl), wl_2 _ (List.mem_of_getElem? (i := 10) rfl), wl_11 _ (List.mem_of_getElem? (i := 13) rfl), ⟨by decide, by decide, by decide +kernel⟩⟩
theorem gm_X3_116 : gMV RX3 116 yX3_takeFromEmpty cX3_takeFromEmpty 4 (some .int) 1 := ⟨wl_11 _ (List.mem_of_getElem? (i := 14) rfl), wl_11 _ (List.mem_of_getElem? (i := 15) rfl), wl_11 _ (List.mem_of_getElem? (i := 16) rfl), wl_2 _ (List.mem_of_getElem? (i := 10) rfl), wl_11 _ (List.mem_of_getElem? (i := 17) rfl), ⟨by decide, by decide, by decide +kernel⟩⟩
theorem gm_X3_119 : gMV RX3 119 yX3_occupy cX3_occupy 3 none 2 := ⟨wl_11 _ (List.mem_of_getElem? (i := 18) rfl), wl_11 _ (List.mem_of_getElem? (i := 19) rfl), wl_11 _ (List.mem_of_getElem? (i := 20) rfl), wl_2 _ (List.mem_of_getElem? (i := 10) rfl), wl_11 _ (List.mem_of_getElem? (i := 21) rfl), ⟨by decide, by decide, by decide +kernel⟩⟩
theorem gm_X3_123 : gMV RX3 123 yX3_bedOf cX3_bedOf 3 (some .int) 1 := ⟨wl_12 _ (List.mem_of_getElem? (i := 2) rfl), wl_12 _ (List.mem_of_getElem? (i := 3) rfl), wl_12 _ (List.mem_of_getElem? (i := 4) rfl), wl_2 _ (List.mem_of_getElem? (i := 10) rfl), wl_12 _ (List.mem_of_getElem? (i := 5) rfl), ⟨by decide, by decide, by decide +kernel⟩⟩
theorem gm_X3_126 : gMV RX3 126 yX3_leaveYard cX3_leaveYard 5 none 1 := ⟨wl_12 _ (List.mem_of_getElem? (i := 6) rfl), wl_12 _ (List.mem_of_getElem? (i := 7) rfl), wl_12 _ (List.mem_of_getElem? (i := 8) rfl), wl_2 _ (List.mem_of_getElem? (i := 10) rfl), wl_12 _ (List.mem_of_getElem? (i := 9) rfl), ⟨by decide, by decide, by decide +kernel⟩⟩
theorem gm_X3_129 : gMV RX3 129 yX3_clear cX3_clear 3 none 1 := ⟨wl_12 _ (List.mem_of_getElem? (i := 10) rfl), wl_12 _ (List.mem_of_getElem? (i := 11) rfl), wl_12 _ (List.mem_of_getElem? (i := 12) rfl), wl_2 _ (List.mem_of_getElem? (i := 10) rfl), wl_12 _ (List.mem_of_getElem? (i := 13) rfl), ⟨by decide, by decide, by decide +kernel⟩⟩
theorem gm_X3_132 : gMV RX3 132 yX3_sleeperOf cX3_sleeperOf 2 (some .int) 1 := ⟨wl_12 _ (List.mem_of_getElem? (i := 14) rfl), wl_12 _ (List.mem_of_getElem? (i := 15) rfl), wl_12 _ (List.mem_of_getElem? (i := 16) rfl), wl_2 _ (List.mem_of_getElem? (i := 10) rfl), wl_12 _ (List.mem_of_getElem? (i := 17) rfl), ⟨by decide, by decide, by decide +kernel⟩⟩
theorem gm_X3_135 : gMV RX3 135 yX3_shareFleas cX3_shareFleas 3 none 2 := ⟨wl_12 _ (List.mem_of_getElem? (i := 22) rfl), wl_12 _ (List.mem_of_getElem? (i := 23) rfl), wl_13 _ (List.mem_of_getElem? (i := 0) rfl), wl_2 _ (List.mem_of_getElem? (i := 10) rfl), wl_13 _ (List.mem_of_getElem? (i := 1) rfl), ⟨by decide, by decide, by decide +kernel⟩⟩
theorem gm_X3_138 : gMV RX3 138 yX3_leastOfEmpty cX3_leastOfEmpty 3 (some .int) 0 := ⟨wl_11 _ (List.mem_of_getElem? (i := 2) rfl), wl_11 _ (List.mem_of_getElem? (i := 3) rfl), wl_11 _ (List.mem_of_getElem? (i := 4) rfl), wl_2 _ (List.mem_of_getElem? (i := 10) rfl), wl_11 _ (List.mem_of_getElem? (i := 5) rfl), ⟨by decide, by decide, by decide +kernel⟩⟩
theorem gm_X3_142 : gMV RX3 142 yX3_dearestOfEmpty cX3_dearestOfEmpty 4 (some .int) 1 := ⟨wl_11 _ (List.mem_of_getElem? (i := 6) rfl), wl_11 _ (List.mem_of_getElem? (i := 7) rfl), wl_11 _ (List.mem_of_getElem? (i := 8) rfl), wl_2 _ (List.mem_of_getElem? (i := 10) rfl), wl_11 _ (List.mem_of_getElem? (i := 9) rfl), ⟨by decide, by decide, by decide +kernel⟩⟩
theorem mw_X4_3 : Cond.methodLink RX4 3 objectInit ∈ wsL_law := wl_3 _ (List.mem_of_getElem? (i := 1) rfl)
theorem gm_X4_22 : gMS RX4 22 yJ6_bitCount_0f7a4 cJ6_bitCount_0f7a4 1 (some .int) 1 := ⟨wl_21 _ (List.mem_of_getElem? (i := 21) rfl), wl_21 _ (List.mem_of_getElem? (i := 10) rfl), wl_21 _ (List.mem_of_getElem? (i := 11) rfl), wl_21 _ (List.mem_of_getElem? (i := 12) rfl), ⟨by decide, by decide, by decide +kernel⟩⟩
theorem gm_X4_31 : gMS RX4 31 yX4_letIn cX4_letIn 8 none 5 := ⟨wl_21 _ (List.mem_of_getElem? (i := 22) rfl), wl_21 _ (List.mem_of_getElem? (i := 23) rfl), wl_2 _ (List.mem_of_getElem? (i := 0) rfl), wl_22 _ (List.mem_of_getElem? (i := 0) rfl), ⟨by decide, by decide, by decide +kernel⟩⟩
theorem gm_X4_35 : gMV RX4 35 yX4_keepIfBetter cX4_keepIfBetter 2 none 1 := ⟨wl_22 _ (List.mem_of_getElem? (i := 1) rfl), wl_22 _ (List.mem_of_getElem? (i := 2) rfl), wl_22 _ (List.mem_of_getElem? (i := 3) rfl), wl_2 _ (List.mem_of_getElem? (i := 0) rfl), wl_22 _ (List.mem_of_getElem? (i := 4) rfl), ⟨by decide, by decide, by decide +kernel⟩⟩
theorem mw_X4_65 : Cond.methodLink RX4 65 arraycopyName ∈ wsL_law := wl_22 _ (List.mem_of_getElem? (i := 5) rfl)
theorem gm_L_9 : Cond.methodLink RL 9 yX5_init ∈ wsL_law ∧ Cond.instanceMethod yX5_init ∈ wsL_law ∧ Cond.initialized yX5_init.cls ∈ wsL_law ∧ Cond.code yX5_init cX5_init 3 none ∈ wsL_law := ⟨wl_1 _ (List.mem_of_getElem? (i := 6) rfl), wl_1 _ (List.mem_of_getElem? (i := 7) rfl), wl_1 _ (List.mem_of_getElem? (i := 2) rfl), wl_1 _ (List.mem_of_getElem? (i := 8) rfl)⟩
theorem gm_L_12 : Cond.methodLink RL 12 yX6_init ∈ wsL_law ∧ Cond.instanceMethod yX6_init ∈ wsL_law ∧ Cond.initialized yX6_init.cls ∈ wsL_law ∧ Cond.code yX6_init cX6_init 1 none ∈ wsL_law := ⟨wl_3 _ (List.mem_of_getElem? (i := 22) rfl), wl_3 _ (List.mem_of_getElem? (i := 23) rfl), wl_1 _ (List.mem_of_getElem? (i := 5) rfl), wl_4 _ (List.mem_of_getElem? (i := 0) rfl)⟩
theorem gm_L_13 : gMV RL 13 yX5_beds cX5_beds 3 (some .int) 1 := ⟨wl_4 _ (List.mem_of_getElem? (i := 19) rfl), wl_4 _ (List.mem_of_getElem? (i := 20) rfl), wl_4 _ (List.mem_of_getElem? (i := 21) rfl), wl_1 _ (List.mem_of_getElem? (i := 2) rfl), wl_4 _ (List.mem_of_getElem? (i := 22) rfl), ⟨by decide, by decide, by decide +kernel⟩⟩
theorem gm_L_17 : gMV RL 17 yX6_beds cX6_beds 4 (some .int) 1 := ⟨wl_5 _ (List.mem_of_getElem? (i := 3) rfl), wl_5 _ (List.mem_of_getElem? (i := 4) rfl), wl_5 _ (List.mem_of_getElem? (i := 5) rfl), wl_1 _ (List.mem_of_getElem? (i := 5) rfl), wl_5 _ (List.mem_of_getElem? (i := 6) rfl), ⟨by decide, by decide, by decide +kernel⟩⟩
theorem gm_L_18 : gMV RL 18 yX5_worth cX5_worth 5 (some .int) 3 := ⟨wl_5 _ (List.mem_of_getElem? (i := 11) rfl), wl_5 _ (List.mem_of_getElem? (i := 12) rfl), wl_5 _ (List.mem_of_getElem? (i := 13) rfl), wl_1 _ (List.mem_of_getElem? (i := 2) rfl), wl_5 _ (List.mem_of_getElem? (i := 14) rfl), ⟨by decide, by decide, by decide +kernel⟩⟩
theorem gm_L_22 : gMV RL 22 yX6_worth cX6_worth 5 (some .int) 3 := ⟨wl_6 _ (List.mem_of_getElem? (i := 4) rfl), wl_6 _ (List.mem_of_getElem? (i := 5) rfl), wl_6 _ (List.mem_of_getElem? (i := 6) rfl), wl_1 _ (List.mem_of_getElem? (i := 5) rfl), wl_6 _ (List.mem_of_getElem? (i := 7) rfl), ⟨by decide, by decide, by decide +kernel⟩⟩
theorem gm_L_23 : gMV RL 23 yX5_rule cX5_rule 3 (some .int) 1 := ⟨wl_6 _ (List.mem_of_getElem? (i := 15) rfl), wl_6 _ (List.mem_of_getElem? (i := 16) rfl), wl_6 _ (List.mem_of_getElem? (i := 17) rfl), wl_1 _ (List.mem_of_getElem? (i := 2) rfl), wl_6 _ (List.mem_of_getElem? (i := 18) rfl), ⟨by decide, by decide, by decide +kernel⟩⟩
theorem gm_L_26 : gMV RL 26 yX6_rule cX6_rule 3 (some .int) 1 := ⟨wl_6 _ (List.mem_of_getElem? (i := 19) rfl), wl_6 _ (List.mem_of_getElem? (i := 20) rfl), wl_6 _ (List.mem_of_getElem? (i := 21) rfl), wl_1 _ (List.mem_of_getElem? (i := 5) rfl), wl_6 _ (List.mem_of_getElem? (i := 22) rfl), ⟨by decide, by decide, by decide +kernel⟩⟩
theorem gm_L_27 : gMV RL 27 yX5_say cX5_say 2 (some .int) 1 := ⟨wl_6 _ (List.mem_of_getElem? (i := 23) rfl), wl_7 _ (List.mem_of_getElem? (i := 0) rfl), wl_7 _ (List.mem_of_getElem? (i := 1) rfl), wl_1 _ (List.mem_of_getElem? (i := 2) rfl), wl_7 _ (List.mem_of_getElem? (i := 2) rfl), ⟨by decide, by decide, by decide +kernel⟩⟩
theorem gm_L_30 : gMV RL 30 yX6_say cX6_say 2 (some .int) 1 := ⟨wl_7 _ (List.mem_of_getElem? (i := 10) rfl), wl_7 _ (List.mem_of_getElem? (i := 11) rfl), wl_7 _ (List.mem_of_getElem? (i := 12) rfl), wl_1 _ (List.mem_of_getElem? (i := 5) rfl), wl_7 _ (List.mem_of_getElem? (i := 13) rfl), ⟨by decide, by decide, by decide +kernel⟩⟩
theorem gm_L_31 : gMV RL 31 yX5_wipe cX5_wipe 2 (some .int) 0 := ⟨wl_7 _ (List.mem_of_getElem? (i := 15) rfl), wl_7 _ (List.mem_of_getElem? (i := 16) rfl), wl_7 _ (List.mem_of_getElem? (i := 17) rfl), wl_1 _ (List.mem_of_getElem? (i := 2) rfl), wl_7 _ (List.mem_of_getElem? (i := 18) rfl), ⟨by decide, by decide, by decide +kernel⟩⟩
theorem gm_L_35 : gMV RL 35 yX6_wipe cX6_wipe 2 (some .int) 0 := ⟨wl_7 _ (List.mem_of_getElem? (i := 19) rfl), wl_7 _ (List.mem_of_getElem? (i := 20) rfl), wl_7 _ (List.mem_of_getElem? (i := 21) rfl), wl_1 _ (List.mem_of_getElem? (i := 5) rfl), wl_7 _ (List.mem_of_getElem? (i := 22) rfl), ⟨by decide, by decide, by decide +kernel⟩⟩
theorem gm_L_36 : gMV RL 36 yX5_fault cX5_fault 1 (some .int) 0 := ⟨wl_7 _ (List.mem_of_getElem? (i := 23) rfl), wl_8 _ (List.mem_of_getElem? (i := 0) rfl), wl_8 _ (List.mem_of_getElem? (i := 1) rfl), wl_1 _ (List.mem_of_getElem? (i := 2) rfl), wl_8 _ (List.mem_of_getElem? (i := 2) rfl), ⟨by decide, by decide, by decide +kernel⟩⟩
theorem gm_L_39 : gMV RL 39 yX6_fault cX6_fault 1 (some .int) 0 := ⟨wl_8 _ (List.mem_of_getElem? (i := 16) rfl), wl_8 _ (List.mem_of_getElem? (i := 17) rfl), wl_8 _ (List.mem_of_getElem? (i := 18) rfl), wl_1 _ (List.mem_of_getElem? (i := 5) rfl), wl_8 _ (List.mem_of_getElem? (i := 19) rfl), ⟨by decide, by decide, by decide +kernel⟩⟩
theorem gm_L_40 : gMV RL 40 yX5_judge cX5_judge 3 (some .int) 1 := ⟨wl_9 _ (List.mem_of_getElem? (i := 0) rfl), wl_9 _ (List.mem_of_getElem? (i := 1) rfl), wl_9 _ (List.mem_of_getElem? (i := 2) rfl), wl_1 _ (List.mem_of_getElem? (i := 2) rfl), wl_9 _ (List.mem_of_getElem? (i := 3) rfl), ⟨by decide, by decide, by decide +kernel⟩⟩
theorem gm_L_43 : gMV RL 43 yX6_judge cX6_judge 3 (some .int) 1 := ⟨wl_13 _ (List.mem_of_getElem? (i := 2) rfl), wl_13 _ (List.mem_of_getElem? (i := 3) rfl), wl_13 _ (List.mem_of_getElem? (i := 4) rfl), wl_1 _ (List.mem_of_getElem? (i := 5) rfl), wl_13 _ (List.mem_of_getElem? (i := 5) rfl), ⟨by decide, by decide, by decide +kernel⟩⟩
theorem gm_L_44 : gMV RL 44 yX5_bed cX5_bed 5 (some .int) 2 := ⟨wl_16 _ (List.mem_of_getElem? (i := 2) rfl), wl_16 _ (List.mem_of_getElem? (i := 3) rfl), wl_16 _ (List.mem_of_getElem? (i := 4) rfl), wl_1 _ (List.mem_of_getElem? (i := 2) rfl), wl_16 _ (List.mem_of_getElem? (i := 5) rfl), ⟨by decide, by decide, by decide +kernel⟩⟩
theorem gm_L_48 : gMV RL 48 yX6_bed cX6_bed 4 (some .int) 2 := ⟨wl_16 _ (List.mem_of_getElem? (i := 14) rfl), wl_16 _ (List.mem_of_getElem? (i := 15) rfl), wl_16 _ (List.mem_of_getElem? (i := 16) rfl), wl_1 _ (List.mem_of_getElem? (i := 5) rfl), wl_16 _ (List.mem_of_getElem? (i := 17) rfl), ⟨by decide, by decide, by decide +kernel⟩⟩
theorem gm_L_49 : gMV RL 49 yX5_who cX5_who 5 (some .int) 2 := ⟨wl_16 _ (List.mem_of_getElem? (i := 22) rfl), wl_16 _ (List.mem_of_getElem? (i := 23) rfl), wl_17 _ (List.mem_of_getElem? (i := 0) rfl), wl_1 _ (List.mem_of_getElem? (i := 2) rfl), wl_17 _ (List.mem_of_getElem? (i := 1) rfl), ⟨by decide, by decide, by decide +kernel⟩⟩
theorem gm_L_52 : gMV RL 52 yX6_who cX6_who 4 (some .int) 2 := ⟨wl_17 _ (List.mem_of_getElem? (i := 2) rfl), wl_17 _ (List.mem_of_getElem? (i := 3) rfl), wl_17 _ (List.mem_of_getElem? (i := 4) rfl), wl_1 _ (List.mem_of_getElem? (i := 5) rfl), wl_17 _ (List.mem_of_getElem? (i := 5) rfl), ⟨by decide, by decide, by decide +kernel⟩⟩
theorem gm_L_53 : gMV RL 53 yX5_left cX5_left 4 (some .int) 2 := ⟨wl_17 _ (List.mem_of_getElem? (i := 6) rfl), wl_17 _ (List.mem_of_getElem? (i := 7) rfl), wl_17 _ (List.mem_of_getElem? (i := 8) rfl), wl_1 _ (List.mem_of_getElem? (i := 2) rfl), wl_17 _ (List.mem_of_getElem? (i := 9) rfl), ⟨by decide, by decide, by decide +kernel⟩⟩
theorem gm_L_56 : gMV RL 56 yX6_left cX6_left 4 (some .int) 2 := ⟨wl_17 _ (List.mem_of_getElem? (i := 13) rfl), wl_17 _ (List.mem_of_getElem? (i := 14) rfl), wl_17 _ (List.mem_of_getElem? (i := 15) rfl), wl_1 _ (List.mem_of_getElem? (i := 5) rfl), wl_17 _ (List.mem_of_getElem? (i := 16) rfl), ⟨by decide, by decide, by decide +kernel⟩⟩
theorem gm_L_57 : gMV RL 57 yX5_slept cX5_slept 4 (some .int) 2 := ⟨wl_17 _ (List.mem_of_getElem? (i := 17) rfl), wl_17 _ (List.mem_of_getElem? (i := 18) rfl), wl_17 _ (List.mem_of_getElem? (i := 19) rfl), wl_1 _ (List.mem_of_getElem? (i := 2) rfl), wl_17 _ (List.mem_of_getElem? (i := 20) rfl), ⟨by decide, by decide, by decide +kernel⟩⟩
theorem gm_L_60 : gMV RL 60 yX6_slept cX6_slept 4 (some .int) 2 := ⟨wl_18 _ (List.mem_of_getElem? (i := 0) rfl), wl_18 _ (List.mem_of_getElem? (i := 1) rfl), wl_18 _ (List.mem_of_getElem? (i := 2) rfl), wl_1 _ (List.mem_of_getElem? (i := 5) rfl), wl_18 _ (List.mem_of_getElem? (i := 3) rfl), ⟨by decide, by decide, by decide +kernel⟩⟩
theorem gm_L_61 : gMV RL 61 yX5_fewest cX5_fewest 7 (some .int) 1 := ⟨wl_18 _ (List.mem_of_getElem? (i := 4) rfl), wl_18 _ (List.mem_of_getElem? (i := 5) rfl), wl_18 _ (List.mem_of_getElem? (i := 6) rfl), wl_1 _ (List.mem_of_getElem? (i := 2) rfl), wl_18 _ (List.mem_of_getElem? (i := 7) rfl), ⟨by decide, by decide, by decide +kernel⟩⟩
theorem gm_L_64 : gMV RL 64 yX6_fewest cX6_fewest 10 (some .int) 1 := ⟨wl_18 _ (List.mem_of_getElem? (i := 15) rfl), wl_18 _ (List.mem_of_getElem? (i := 16) rfl), wl_18 _ (List.mem_of_getElem? (i := 17) rfl), wl_1 _ (List.mem_of_getElem? (i := 5) rfl), wl_18 _ (List.mem_of_getElem? (i := 18) rfl), ⟨by decide, by decide, by decide +kernel⟩⟩
theorem gm_L_65 : gMV RL 65 yX5_when cX5_when 8 (some .int) 3 := ⟨wl_18 _ (List.mem_of_getElem? (i := 19) rfl), wl_18 _ (List.mem_of_getElem? (i := 20) rfl), wl_18 _ (List.mem_of_getElem? (i := 21) rfl), wl_1 _ (List.mem_of_getElem? (i := 2) rfl), wl_18 _ (List.mem_of_getElem? (i := 22) rfl), ⟨by decide, by decide, by decide +kernel⟩⟩
theorem gm_L_68 : gMV RL 68 yX6_when cX6_when 8 (some .int) 3 := ⟨wl_19 _ (List.mem_of_getElem? (i := 21) rfl), wl_19 _ (List.mem_of_getElem? (i := 22) rfl), wl_19 _ (List.mem_of_getElem? (i := 23) rfl), wl_1 _ (List.mem_of_getElem? (i := 5) rfl), wl_20 _ (List.mem_of_getElem? (i := 0) rfl), ⟨by decide, by decide, by decide +kernel⟩⟩
theorem gm_L_69 : gMV RL 69 yX5_best cX5_best 8 (some .int) 2 := ⟨wl_20 _ (List.mem_of_getElem? (i := 9) rfl), wl_20 _ (List.mem_of_getElem? (i := 10) rfl), wl_20 _ (List.mem_of_getElem? (i := 11) rfl), wl_1 _ (List.mem_of_getElem? (i := 2) rfl), wl_20 _ (List.mem_of_getElem? (i := 12) rfl), ⟨by decide, by decide, by decide +kernel⟩⟩
theorem gm_L_72 : gMV RL 72 yX6_best cX6_best 10 (some .int) 2 := ⟨wl_20 _ (List.mem_of_getElem? (i := 17) rfl), wl_20 _ (List.mem_of_getElem? (i := 18) rfl), wl_20 _ (List.mem_of_getElem? (i := 19) rfl), wl_1 _ (List.mem_of_getElem? (i := 5) rfl), wl_20 _ (List.mem_of_getElem? (i := 20) rfl), ⟨by decide, by decide, by decide +kernel⟩⟩
theorem gm_L_73 : gMV RL 73 yX5_reach cX5_reach 4 (some .int) 1 := ⟨wl_20 _ (List.mem_of_getElem? (i := 21) rfl), wl_20 _ (List.mem_of_getElem? (i := 22) rfl), wl_20 _ (List.mem_of_getElem? (i := 23) rfl), wl_1 _ (List.mem_of_getElem? (i := 2) rfl), wl_21 _ (List.mem_of_getElem? (i := 0) rfl), ⟨by decide, by decide, by decide +kernel⟩⟩
theorem gm_L_76 : gMV RL 76 yX6_reach cX6_reach 4 (some .int) 1 := ⟨wl_21 _ (List.mem_of_getElem? (i := 1) rfl), wl_21 _ (List.mem_of_getElem? (i := 2) rfl), wl_21 _ (List.mem_of_getElem? (i := 3) rfl), wl_1 _ (List.mem_of_getElem? (i := 5) rfl), wl_21 _ (List.mem_of_getElem? (i := 4) rfl), ⟨by decide, by decide, by decide +kernel⟩⟩
theorem gm_L_77 : gMV RL 77 yX5_party cX5_party 4 (some .int) 2 := ⟨wl_21 _ (List.mem_of_getElem? (i := 5) rfl), wl_21 _ (List.mem_of_getElem? (i := 6) rfl), wl_21 _ (List.mem_of_getElem? (i := 7) rfl), wl_1 _ (List.mem_of_getElem? (i := 2) rfl), wl_21 _ (List.mem_of_getElem? (i := 8) rfl), ⟨by decide, by decide, by decide +kernel⟩⟩
theorem gm_L_80 : gMV RL 80 yX6_party cX6_party 12 (some .int) 2 := ⟨wl_22 _ (List.mem_of_getElem? (i := 9) rfl), wl_22 _ (List.mem_of_getElem? (i := 10) rfl), wl_22 _ (List.mem_of_getElem? (i := 11) rfl), wl_1 _ (List.mem_of_getElem? (i := 5) rfl), wl_22 _ (List.mem_of_getElem? (i := 12) rfl), ⟨by decide, by decide, by decide +kernel⟩⟩
theorem gm_L_81 : gMV RL 81 yX5_fleas cX5_fleas 4 (some .int) 2 := ⟨wl_22 _ (List.mem_of_getElem? (i := 21) rfl), wl_22 _ (List.mem_of_getElem? (i := 22) rfl), wl_22 _ (List.mem_of_getElem? (i := 23) rfl), wl_1 _ (List.mem_of_getElem? (i := 2) rfl), wl_23 _ (List.mem_of_getElem? (i := 0) rfl), ⟨by decide, by decide, by decide +kernel⟩⟩
theorem gm_L_84 : gMV RL 84 yX6_fleas cX6_fleas 5 (some .int) 2 := ⟨wl_23 _ (List.mem_of_getElem? (i := 8) rfl), wl_23 _ (List.mem_of_getElem? (i := 9) rfl), wl_23 _ (List.mem_of_getElem? (i := 10) rfl), wl_1 _ (List.mem_of_getElem? (i := 5) rfl), wl_23 _ (List.mem_of_getElem? (i := 11) rfl), ⟨by decide, by decide, by decide +kernel⟩⟩
theorem gm_L_85 : gMV RL 85 yX5_brought cX5_brought 5 (some .int) 1 := ⟨wl_23 _ (List.mem_of_getElem? (i := 16) rfl), wl_23 _ (List.mem_of_getElem? (i := 17) rfl), wl_23 _ (List.mem_of_getElem? (i := 18) rfl), wl_1 _ (List.mem_of_getElem? (i := 2) rfl), wl_23 _ (List.mem_of_getElem? (i := 19) rfl), ⟨by decide, by decide, by decide +kernel⟩⟩
theorem gm_L_88 : gMV RL 88 yX6_brought cX6_brought 6 (some .int) 1 := ⟨wl_23 _ (List.mem_of_getElem? (i := 20) rfl), wl_23 _ (List.mem_of_getElem? (i := 21) rfl), wl_23 _ (List.mem_of_getElem? (i := 22) rfl), wl_1 _ (List.mem_of_getElem? (i := 5) rfl), wl_23 _ (List.mem_of_getElem? (i := 23) rfl), ⟨by decide, by decide, by decide +kernel⟩⟩
theorem gm_L_89 : gMV RL 89 yX5_seen cX5_seen 3 (some .int) 2 := ⟨wl_24 _ (List.mem_of_getElem? (i := 0) rfl), wl_24 _ (List.mem_of_getElem? (i := 1) rfl), wl_24 _ (List.mem_of_getElem? (i := 2) rfl), wl_1 _ (List.mem_of_getElem? (i := 2) rfl), wl_24 _ (List.mem_of_getElem? (i := 3) rfl), ⟨by decide, by decide, by decide +kernel⟩⟩
theorem gm_L_92 : gMV RL 92 yX6_seen cX6_seen 3 (some .int) 2 := ⟨wl_24 _ (List.mem_of_getElem? (i := 7) rfl), wl_24 _ (List.mem_of_getElem? (i := 8) rfl), wl_24 _ (List.mem_of_getElem? (i := 9) rfl), wl_1 _ (List.mem_of_getElem? (i := 5) rfl), wl_24 _ (List.mem_of_getElem? (i := 10) rfl), ⟨by decide, by decide, by decide +kernel⟩⟩
theorem gm_L_93 : gMV RL 93 yX5_forget cX5_forget 2 (some .int) 0 := ⟨wl_24 _ (List.mem_of_getElem? (i := 11) rfl), wl_24 _ (List.mem_of_getElem? (i := 12) rfl), wl_24 _ (List.mem_of_getElem? (i := 13) rfl), wl_1 _ (List.mem_of_getElem? (i := 2) rfl), wl_24 _ (List.mem_of_getElem? (i := 14) rfl), ⟨by decide, by decide, by decide +kernel⟩⟩
theorem gm_L_96 : gMV RL 96 yX6_forget cX6_forget 2 (some .int) 0 := ⟨wl_24 _ (List.mem_of_getElem? (i := 15) rfl), wl_24 _ (List.mem_of_getElem? (i := 16) rfl), wl_24 _ (List.mem_of_getElem? (i := 17) rfl), wl_1 _ (List.mem_of_getElem? (i := 5) rfl), wl_24 _ (List.mem_of_getElem? (i := 18) rfl), ⟨by decide, by decide, by decide +kernel⟩⟩
theorem gm_L_97 : gMV RL 97 yX5_filled cX5_filled 2 (some .int) 1 := ⟨wl_24 _ (List.mem_of_getElem? (i := 19) rfl), wl_24 _ (List.mem_of_getElem? (i := 20) rfl), wl_24 _ (List.mem_of_getElem? (i := 21) rfl), wl_1 _ (List.mem_of_getElem? (i := 2) rfl), wl_24 _ (List.mem_of_getElem? (i := 22) rfl), ⟨by decide, by decide, by decide +kernel⟩⟩
theorem gm_L_100 : gMV RL 100 yX6_filled cX6_filled 5 (some .int) 1 := ⟨wl_25 _ (List.mem_of_getElem? (i := 22) rfl), wl_25 _ (List.mem_of_getElem? (i := 23) rfl), wl_26 _ (List.mem_of_getElem? (i := 0) rfl), wl_1 _ (List.mem_of_getElem? (i := 5) rfl), wl_26 _ (List.mem_of_getElem? (i := 1) rfl), ⟨by decide, by decide, by decide +kernel⟩⟩
theorem gm_L_101 : gMV RL 101 yX5_could cX5_could 2 (some .int) 1 := ⟨wl_26 _ (List.mem_of_getElem? (i := 14) rfl), wl_26 _ (List.mem_of_getElem? (i := 15) rfl), wl_26 _ (List.mem_of_getElem? (i := 16) rfl), wl_1 _ (List.mem_of_getElem? (i := 2) rfl), wl_26 _ (List.mem_of_getElem? (i := 17) rfl), ⟨by decide, by decide, by decide +kernel⟩⟩
theorem gm_L_104 : gMV RL 104 yX6_could cX6_could 4 (some .int) 1 := ⟨wl_26 _ (List.mem_of_getElem? (i := 21) rfl), wl_26 _ (List.mem_of_getElem? (i := 22) rfl), wl_26 _ (List.mem_of_getElem? (i := 23) rfl), wl_1 _ (List.mem_of_getElem? (i := 5) rfl), wl_27 _ (List.mem_of_getElem? (i := 0) rfl), ⟨by decide, by decide, by decide +kernel⟩⟩
theorem gm_L_105 : gMV RL 105 yX5_chance cX5_chance 6 (some .long) 4 := ⟨wl_27 _ (List.mem_of_getElem? (i := 1) rfl), wl_27 _ (List.mem_of_getElem? (i := 2) rfl), wl_27 _ (List.mem_of_getElem? (i := 3) rfl), wl_1 _ (List.mem_of_getElem? (i := 2) rfl), wl_27 _ (List.mem_of_getElem? (i := 4) rfl), ⟨by decide, by decide, by decide +kernel⟩⟩
theorem gm_L_109 : gMV RL 109 yX6_chance cX6_chance 16 (some .long) 4 := ⟨wl_27 _ (List.mem_of_getElem? (i := 20) rfl), wl_27 _ (List.mem_of_getElem? (i := 21) rfl), wl_27 _ (List.mem_of_getElem? (i := 22) rfl), wl_1 _ (List.mem_of_getElem? (i := 5) rfl), wl_27 _ (List.mem_of_getElem? (i := 23) rfl), ⟨by decide, by decide, by decide +kernel⟩⟩
theorem gm_L_110 : gMV RL 110 yX5_year cX5_year 7 (some .int) 3 := ⟨wl_28 _ (List.mem_of_getElem? (i := 7) rfl), wl_28 _ (List.mem_of_getElem? (i := 8) rfl), wl_28 _ (List.mem_of_getElem? (i := 9) rfl), wl_1 _ (List.mem_of_getElem? (i := 2) rfl), wl_28 _ (List.mem_of_getElem? (i := 10) rfl), ⟨by decide, by decide, by decide +kernel⟩⟩
theorem gm_L_113 : gMV RL 113 yX6_year cX6_year 7 (some .int) 3 := ⟨wl_28 _ (List.mem_of_getElem? (i := 15) rfl), wl_28 _ (List.mem_of_getElem? (i := 16) rfl), wl_28 _ (List.mem_of_getElem? (i := 17) rfl), wl_1 _ (List.mem_of_getElem? (i := 5) rfl), wl_28 _ (List.mem_of_getElem? (i := 18) rfl), ⟨by decide, by decide, by decide +kernel⟩⟩
theorem gm_L_114 : gMV RL 114 yX5_image cX5_image 3 (some .int) 1 := ⟨wl_28 _ (List.mem_of_getElem? (i := 20) rfl), wl_28 _ (List.mem_of_getElem? (i := 21) rfl), wl_28 _ (List.mem_of_getElem? (i := 22) rfl), wl_1 _ (List.mem_of_getElem? (i := 2) rfl), wl_28 _ (List.mem_of_getElem? (i := 23) rfl), ⟨by decide, by decide, by decide +kernel⟩⟩
theorem gm_L_117 : gMV RL 117 yX6_image cX6_image 4 (some .int) 1 := ⟨wl_29 _ (List.mem_of_getElem? (i := 5) rfl), wl_29 _ (List.mem_of_getElem? (i := 6) rfl), wl_29 _ (List.mem_of_getElem? (i := 7) rfl), wl_1 _ (List.mem_of_getElem? (i := 5) rfl), wl_29 _ (List.mem_of_getElem? (i := 8) rfl), ⟨by decide, by decide, by decide +kernel⟩⟩
theorem gm_L_118 : gMV RL 118 yX5_restore cX5_restore 3 (some .int) 1 := ⟨wl_29 _ (List.mem_of_getElem? (i := 9) rfl), wl_29 _ (List.mem_of_getElem? (i := 10) rfl), wl_29 _ (List.mem_of_getElem? (i := 11) rfl), wl_1 _ (List.mem_of_getElem? (i := 2) rfl), wl_29 _ (List.mem_of_getElem? (i := 12) rfl), ⟨by decide, by decide, by decide +kernel⟩⟩
theorem gm_L_121 : gMV RL 121 yX6_restore cX6_restore 4 (some .int) 1 := ⟨wl_29 _ (List.mem_of_getElem? (i := 13) rfl), wl_29 _ (List.mem_of_getElem? (i := 14) rfl), wl_29 _ (List.mem_of_getElem? (i := 15) rfl), wl_1 _ (List.mem_of_getElem? (i := 5) rfl), wl_29 _ (List.mem_of_getElem? (i := 16) rfl), ⟨by decide, by decide, by decide +kernel⟩⟩
theorem gm_L_122 : gMV RL 122 yX5_told cX5_told 2 (some .int) 1 := ⟨wl_29 _ (List.mem_of_getElem? (i := 17) rfl), wl_29 _ (List.mem_of_getElem? (i := 18) rfl), wl_29 _ (List.mem_of_getElem? (i := 19) rfl), wl_1 _ (List.mem_of_getElem? (i := 2) rfl), wl_29 _ (List.mem_of_getElem? (i := 20) rfl), ⟨by decide, by decide, by decide +kernel⟩⟩
theorem gm_L_125 : gMV RL 125 yX6_told cX6_told 2 (some .int) 1 := ⟨wl_30 _ (List.mem_of_getElem? (i := 1) rfl), wl_30 _ (List.mem_of_getElem? (i := 2) rfl), wl_30 _ (List.mem_of_getElem? (i := 3) rfl), wl_1 _ (List.mem_of_getElem? (i := 5) rfl), wl_30 _ (List.mem_of_getElem? (i := 4) rfl), ⟨by decide, by decide, by decide +kernel⟩⟩
theorem mw_X6_1 : Cond.methodLink RX6 1 objectInit ∈ wsL_law := wl_4 _ (List.mem_of_getElem? (i := 1) rfl)
theorem gm_X6_60 : gMS RX6 60 yX6_in cX6_in 3 (some .boolean) 3 := ⟨wl_5 _ (List.mem_of_getElem? (i := 8) rfl), wl_5 _ (List.mem_of_getElem? (i := 9) rfl), wl_1 _ (List.mem_of_getElem? (i := 5) rfl), wl_5 _ (List.mem_of_getElem? (i := 10) rfl), ⟨by decide, by decide, by decide +kernel⟩⟩
theorem gm_X6_67 : gMS RX6 67 yX6_isGuest cX6_isGuest 1 (some .boolean) 1 := ⟨wl_6 _ (List.mem_of_getElem? (i := 8) rfl), wl_6 _ (List.mem_of_getElem? (i := 9) rfl), wl_1 _ (List.mem_of_getElem? (i := 5) rfl), wl_6 _ (List.mem_of_getElem? (i := 10) rfl), ⟨by decide, by decide, by decide +kernel⟩⟩
theorem gm_X6_71 : gMV RX6 71 yX6_isBed cX6_isBed 2 (some .boolean) 1 := ⟨wl_6 _ (List.mem_of_getElem? (i := 11) rfl), wl_6 _ (List.mem_of_getElem? (i := 12) rfl), wl_6 _ (List.mem_of_getElem? (i := 13) rfl), wl_1 _ (List.mem_of_getElem? (i := 5) rfl), wl_6 _ (List.mem_of_getElem? (i := 14) rfl), ⟨by decide, by decide, by decide +kernel⟩⟩
theorem gm_X6_77 : gMV RX6 77 yX6_faultOf cX6_faultOf 5 (some .int) 0 := ⟨wl_8 _ (List.mem_of_getElem? (i := 20) rfl), wl_8 _ (List.mem_of_getElem? (i := 21) rfl), wl_8 _ (List.mem_of_getElem? (i := 22) rfl), wl_1 _ (List.mem_of_getElem? (i := 5) rfl), wl_8 _ (List.mem_of_getElem? (i := 23) rfl), ⟨by decide, by decide, by decide +kernel⟩⟩
theorem gm_X6_87 : gMV RX6 87 yX6_bedOf cX6_bedOf 4 (some .int) 1 := ⟨wl_14 _ (List.mem_of_getElem? (i := 14) rfl), wl_14 _ (List.mem_of_getElem? (i := 15) rfl), wl_14 _ (List.mem_of_getElem? (i := 16) rfl), wl_1 _ (List.mem_of_getElem? (i := 5) rfl), wl_14 _ (List.mem_of_getElem? (i := 17) rfl), ⟨by decide, by decide, by decide +kernel⟩⟩
theorem gm_X6_91 : gMV RX6 91 yX6_isWaiting cX6_isWaiting 4 (some .boolean) 1 := ⟨wl_14 _ (List.mem_of_getElem? (i := 18) rfl), wl_14 _ (List.mem_of_getElem? (i := 19) rfl), wl_14 _ (List.mem_of_getElem? (i := 20) rfl), wl_1 _ (List.mem_of_getElem? (i := 5) rfl), wl_14 _ (List.mem_of_getElem? (i := 21) rfl), ⟨by decide, by decide, by decide +kernel⟩⟩
theorem gm_X6_94 : gMV RX6 94 yX6_worthTo cX6_worthTo 3 (some .int) 2 := ⟨wl_15 _ (List.mem_of_getElem? (i := 6) rfl), wl_15 _ (List.mem_of_getElem? (i := 7) rfl), wl_15 _ (List.mem_of_getElem? (i := 8) rfl), wl_1 _ (List.mem_of_getElem? (i := 5) rfl), wl_15 _ (List.mem_of_getElem? (i := 9) rfl), ⟨by decide, by decide, by decide +kernel⟩⟩
theorem gm_X6_98 : gMV RX6 98 yX6_chosen cX6_chosen 5 (some .int) 1 := ⟨wl_15 _ (List.mem_of_getElem? (i := 2) rfl), wl_15 _ (List.mem_of_getElem? (i := 3) rfl), wl_15 _ (List.mem_of_getElem? (i := 4) rfl), wl_1 _ (List.mem_of_getElem? (i := 5) rfl), wl_15 _ (List.mem_of_getElem? (i := 5) rfl), ⟨by decide, by decide, by decide +kernel⟩⟩
theorem gm_X6_101 : gMV RX6 101 yX6_take cX6_take 3 none 2 := ⟨wl_15 _ (List.mem_of_getElem? (i := 10) rfl), wl_15 _ (List.mem_of_getElem? (i := 11) rfl), wl_15 _ (List.mem_of_getElem? (i := 12) rfl), wl_1 _ (List.mem_of_getElem? (i := 5) rfl), wl_15 _ (List.mem_of_getElem? (i := 13) rfl), ⟨by decide, by decide, by decide +kernel⟩⟩
theorem gm_X6_105 : gMV RX6 105 yX6_outOfYard cX6_outOfYard 3 none 1 := ⟨wl_15 _ (List.mem_of_getElem? (i := 18) rfl), wl_15 _ (List.mem_of_getElem? (i := 19) rfl), wl_15 _ (List.mem_of_getElem? (i := 20) rfl), wl_1 _ (List.mem_of_getElem? (i := 5) rfl), wl_15 _ (List.mem_of_getElem? (i := 21) rfl), ⟨by decide, by decide, by decide +kernel⟩⟩
theorem gm_X6_112 : gMS RX6 112 yX6_has cX6_has 2 (some .boolean) 2 := ⟨wl_14 _ (List.mem_of_getElem? (i := 7) rfl), wl_14 _ (List.mem_of_getElem? (i := 8) rfl), wl_1 _ (List.mem_of_getElem? (i := 5) rfl), wl_14 _ (List.mem_of_getElem? (i := 9) rfl), ⟨by decide, by decide, by decide +kernel⟩⟩
theorem gm_X6_119 : gMV RX6 119 yX6_pass cX6_pass 3 none 0 := ⟨wl_14 _ (List.mem_of_getElem? (i := 1) rfl), wl_14 _ (List.mem_of_getElem? (i := 2) rfl), wl_14 _ (List.mem_of_getElem? (i := 3) rfl), wl_1 _ (List.mem_of_getElem? (i := 5) rfl), wl_14 _ (List.mem_of_getElem? (i := 4) rfl), ⟨by decide, by decide, by decide +kernel⟩⟩
theorem gm_X6_122 : gMV RX6 122 yX6_isThere cX6_isThere 2 (some .boolean) 1 := ⟨wl_14 _ (List.mem_of_getElem? (i := 10) rfl), wl_14 _ (List.mem_of_getElem? (i := 11) rfl), wl_14 _ (List.mem_of_getElem? (i := 12) rfl), wl_1 _ (List.mem_of_getElem? (i := 5) rfl), wl_14 _ (List.mem_of_getElem? (i := 13) rfl), ⟨by decide, by decide, by decide +kernel⟩⟩
theorem gm_X6_125 : gMV RX6 125 yX6_comeIn cX6_comeIn 5 none 1 := ⟨wl_14 _ (List.mem_of_getElem? (i := 22) rfl), wl_14 _ (List.mem_of_getElem? (i := 23) rfl), wl_15 _ (List.mem_of_getElem? (i := 0) rfl), wl_1 _ (List.mem_of_getElem? (i := 5) rfl), wl_15 _ (List.mem_of_getElem? (i := 1) rfl), ⟨by decide, by decide, by decide +kernel⟩⟩
theorem gm_X6_128 : gMV RX6 128 yX6_goOut cX6_goOut 4 none 1 := ⟨wl_15 _ (List.mem_of_getElem? (i := 14) rfl), wl_15 _ (List.mem_of_getElem? (i := 15) rfl), wl_15 _ (List.mem_of_getElem? (i := 16) rfl), wl_1 _ (List.mem_of_getElem? (i := 5) rfl), wl_15 _ (List.mem_of_getElem? (i := 17) rfl), ⟨by decide, by decide, by decide +kernel⟩⟩
theorem gm_X6_131 : gMV RX6 131 yX6_begin cX6_begin 2 none 0 := ⟨wl_13 _ (List.mem_of_getElem? (i := 15) rfl), wl_13 _ (List.mem_of_getElem? (i := 16) rfl), wl_13 _ (List.mem_of_getElem? (i := 17) rfl), wl_1 _ (List.mem_of_getElem? (i := 5) rfl), wl_13 _ (List.mem_of_getElem? (i := 18) rfl), ⟨by decide, by decide, by decide +kernel⟩⟩
theorem gm_X6_137 : gMV RX6 137 yX6_opens cX6_opens 4 (some .int) 1 := ⟨wl_13 _ (List.mem_of_getElem? (i := 7) rfl), wl_13 _ (List.mem_of_getElem? (i := 8) rfl), wl_13 _ (List.mem_of_getElem? (i := 9) rfl), wl_1 _ (List.mem_of_getElem? (i := 5) rfl), wl_13 _ (List.mem_of_getElem? (i := 10) rfl), ⟨by decide, by decide, by decide +kernel⟩⟩
theorem gm_X6_140 : gMV RX6 140 yX6_happen cX6_happen 3 (some .int) 1 := ⟨wl_13 _ (List.mem_of_getElem? (i := 21) rfl), wl_13 _ (List.mem_of_getElem? (i := 22) rfl), wl_13 _ (List.mem_of_getElem? (i := 23) rfl), wl_1 _ (List.mem_of_getElem? (i := 5) rfl), wl_14 _ (List.mem_of_getElem? (i := 0) rfl), ⟨by decide, by decide, by decide +kernel⟩⟩
theorem gm_X6_143 : gMV RX6 143 yX6_eventOf cX6_eventOf 2 (some .int) 1 := ⟨wl_15 _ (List.mem_of_getElem? (i := 22) rfl), wl_15 _ (List.mem_of_getElem? (i := 23) rfl), wl_16 _ (List.mem_of_getElem? (i := 0) rfl), wl_1 _ (List.mem_of_getElem? (i := 5) rfl), wl_16 _ (List.mem_of_getElem? (i := 1) rfl), ⟨by decide, by decide, by decide +kernel⟩⟩
theorem gm_X6_146 : gMV RX6 146 yX6_go cX6_go 7 (some .int) 4 := ⟨wl_13 _ (List.mem_of_getElem? (i := 11) rfl), wl_13 _ (List.mem_of_getElem? (i := 12) rfl), wl_13 _ (List.mem_of_getElem? (i := 13) rfl), wl_1 _ (List.mem_of_getElem? (i := 5) rfl), wl_13 _ (List.mem_of_getElem? (i := 14) rfl), ⟨by decide, by decide, by decide +kernel⟩⟩
theorem gm_X6_150 : gMV RX6 150 yX6_barOf cX6_barOf 2 (some .int) 1 := ⟨wl_16 _ (List.mem_of_getElem? (i := 18) rfl), wl_16 _ (List.mem_of_getElem? (i := 19) rfl), wl_16 _ (List.mem_of_getElem? (i := 20) rfl), wl_1 _ (List.mem_of_getElem? (i := 5) rfl), wl_16 _ (List.mem_of_getElem? (i := 21) rfl), ⟨by decide, by decide, by decide +kernel⟩⟩
theorem gm_X6_153 : gMV RX6 153 yX6_isInDay cX6_isInDay 4 (some .boolean) 1 := ⟨wl_20 _ (List.mem_of_getElem? (i := 1) rfl), wl_20 _ (List.mem_of_getElem? (i := 2) rfl), wl_20 _ (List.mem_of_getElem? (i := 3) rfl), wl_1 _ (List.mem_of_getElem? (i := 5) rfl), wl_20 _ (List.mem_of_getElem? (i := 4) rfl), ⟨by decide, by decide, by decide +kernel⟩⟩
theorem gm_X6_156 : gMV RX6 156 yX6_barOfComing cX6_barOfComing 2 (some .int) 0 := ⟨wl_20 _ (List.mem_of_getElem? (i := 5) rfl), wl_20 _ (List.mem_of_getElem? (i := 6) rfl), wl_20 _ (List.mem_of_getElem? (i := 7) rfl), wl_1 _ (List.mem_of_getElem? (i := 5) rfl), wl_20 _ (List.mem_of_getElem? (i := 8) rfl), ⟨by decide, by decide, by decide +kernel⟩⟩
theorem gm_X6_159 : gMV RX6 159 yX6_change cX6_change 4 none 2 := ⟨wl_22 _ (List.mem_of_getElem? (i := 17) rfl), wl_22 _ (List.mem_of_getElem? (i := 18) rfl), wl_22 _ (List.mem_of_getElem? (i := 19) rfl), wl_1 _ (List.mem_of_getElem? (i := 5) rfl), wl_22 _ (List.mem_of_getElem? (i := 20) rfl), ⟨by decide, by decide, by decide +kernel⟩⟩
theorem gm_X6_162 : gMV RX6 162 yX6_nextRow cX6_nextRow 6 (some .boolean) 1 := ⟨wl_22 _ (List.mem_of_getElem? (i := 13) rfl), wl_22 _ (List.mem_of_getElem? (i := 14) rfl), wl_22 _ (List.mem_of_getElem? (i := 15) rfl), wl_1 _ (List.mem_of_getElem? (i := 5) rfl), wl_22 _ (List.mem_of_getElem? (i := 16) rfl), ⟨by decide, by decide, by decide +kernel⟩⟩
theorem gm_X6_165 : gMV RX6 165 yX6_layFleas cX6_layFleas 3 (some .int) 2 := ⟨wl_23 _ (List.mem_of_getElem? (i := 12) rfl), wl_23 _ (List.mem_of_getElem? (i := 13) rfl), wl_23 _ (List.mem_of_getElem? (i := 14) rfl), wl_1 _ (List.mem_of_getElem? (i := 5) rfl), wl_23 _ (List.mem_of_getElem? (i := 15) rfl), ⟨by decide, by decide, by decide +kernel⟩⟩
theorem gm_X6_168 : gMV RX6 168 yX6_codes cX6_codes 3 (some .int) 0 := ⟨wl_26 _ (List.mem_of_getElem? (i := 2) rfl), wl_26 _ (List.mem_of_getElem? (i := 3) rfl), wl_26 _ (List.mem_of_getElem? (i := 4) rfl), wl_1 _ (List.mem_of_getElem? (i := 5) rfl), wl_26 _ (List.mem_of_getElem? (i := 5) rfl), ⟨by decide, by decide, by decide +kernel⟩⟩
theorem gm_X6_171 : gMV RX6 171 yX6_isFit cX6_isFit 4 (some .boolean) 1 := ⟨wl_26 _ (List.mem_of_getElem? (i := 6) rfl), wl_26 _ (List.mem_of_getElem? (i := 7) rfl), wl_26 _ (List.mem_of_getElem? (i := 8) rfl), wl_1 _ (List.mem_of_getElem? (i := 5) rfl), wl_26 _ (List.mem_of_getElem? (i := 9) rfl), ⟨by decide, by decide, by decide +kernel⟩⟩
theorem gm_X6_174 : gMV RX6 174 yX6_guestAt cX6_guestAt 5 (some .int) 2 := ⟨wl_26 _ (List.mem_of_getElem? (i := 10) rfl), wl_26 _ (List.mem_of_getElem? (i := 11) rfl), wl_26 _ (List.mem_of_getElem? (i := 12) rfl), wl_1 _ (List.mem_of_getElem? (i := 5) rfl), wl_26 _ (List.mem_of_getElem? (i := 13) rfl), ⟨by decide, by decide, by decide +kernel⟩⟩
theorem gm_X6_185 : gMS RX6 185 yX6_power cX6_power 6 (some .long) 2 := ⟨wl_28 _ (List.mem_of_getElem? (i := 4) rfl), wl_28 _ (List.mem_of_getElem? (i := 5) rfl), wl_1 _ (List.mem_of_getElem? (i := 5) rfl), wl_28 _ (List.mem_of_getElem? (i := 6) rfl), ⟨by decide, by decide, by decide +kernel⟩⟩
theorem gm_X5_11 : (RX5, 11, yX2_init, RX5) ∈ gNM ∧ Cond.instanceMethod yX2_init ∈ wsL_law ∧ Cond.initialized yX2_init.cls ∈ wsL_law ∧ Cond.code yX2_init cX2_init 1 none ∈ wsL_law := ⟨List.mem_of_getElem? (i := 0) rfl, wl_2 _ (List.mem_of_getElem? (i := 12) rfl), wl_1 _ (List.mem_of_getElem? (i := 14) rfl), wl_2 _ (List.mem_of_getElem? (i := 13) rfl)⟩
theorem gm_X5_24 : (RX5, 24, yX0_init, RX5) ∈ gNM ∧ Cond.instanceMethod yX0_init ∈ wsL_law ∧ Cond.initialized yX0_init.cls ∈ wsL_law ∧ Cond.code yX0_init cX0_init 1 none ∈ wsL_law := ⟨List.mem_of_getElem? (i := 1) rfl, wl_2 _ (List.mem_of_getElem? (i := 19) rfl), wl_1 _ (List.mem_of_getElem? (i := 20) rfl), wl_2 _ (List.mem_of_getElem? (i := 20) rfl)⟩
theorem gm_X5_31 : (RX5, 31, yX4_init, RX5) ∈ gNM ∧ Cond.instanceMethod yX4_init ∈ wsL_law ∧ Cond.initialized yX4_init.cls ∈ wsL_law ∧ Cond.code yX4_init cX4_init 1 none ∈ wsL_law := ⟨List.mem_of_getElem? (i := 2) rfl, wl_2 _ (List.mem_of_getElem? (i := 23) rfl), wl_2 _ (List.mem_of_getElem? (i := 0) rfl), wl_3 _ (List.mem_of_getElem? (i := 0) rfl)⟩
theorem gm_X5_38 : (RX5, 38, yX1_init, RX5) ∈ gNM ∧ Cond.instanceMethod yX1_init ∈ wsL_law ∧ Cond.initialized yX1_init.cls ∈ wsL_law ∧ Cond.code yX1_init cX1_init 1 none ∈ wsL_law := ⟨List.mem_of_getElem? (i := 3) rfl, wl_3 _ (List.mem_of_getElem? (i := 4) rfl), wl_2 _ (List.mem_of_getElem? (i := 4) rfl), wl_3 _ (List.mem_of_getElem? (i := 5) rfl)⟩
theorem gm_X5_49 : (RX5, 49, yX3_init, RX5) ∈ gNM ∧ Cond.instanceMethod yX3_init ∈ wsL_law ∧ Cond.initialized yX3_init.cls ∈ wsL_law ∧ Cond.code yX3_init cX3_init 3 none ∈ wsL_law := ⟨List.mem_of_getElem? (i := 4) rfl, wl_3 _ (List.mem_of_getElem? (i := 10) rfl), wl_2 _ (List.mem_of_getElem? (i := 10) rfl), wl_3 _ (List.mem_of_getElem? (i := 11) rfl)⟩
theorem gm_X5_60 : gMN RX5 60 yX2_furnish RX5 cX2_furnish 3 none 1 := ⟨List.mem_of_getElem? (i := 5) rfl, wl_4 _ (List.mem_of_getElem? (i := 23) rfl), wl_5 _ (List.mem_of_getElem? (i := 0) rfl), wl_1 _ (List.mem_of_getElem? (i := 14) rfl), wl_5 _ (List.mem_of_getElem? (i := 1) rfl), ⟨by decide, by decide, by decide +kernel⟩⟩
theorem gm_X5_71 : gMN RX5 71 yX2_worthOf RX5 cX2_worthOf 3 (some .int) 2 := ⟨List.mem_of_getElem? (i := 6) rfl, wl_5 _ (List.mem_of_getElem? (i := 22) rfl), wl_5 _ (List.mem_of_getElem? (i := 23) rfl), wl_1 _ (List.mem_of_getElem? (i := 14) rfl), wl_6 _ (List.mem_of_getElem? (i := 0) rfl), ⟨by decide, by decide, by decide +kernel⟩⟩
theorem gm_X5_75 : gMN RX5 75 yX2_setWorth RX5 cX2_setWorth 4 none 3 := ⟨List.mem_of_getElem? (i := 7) rfl, wl_6 _ (List.mem_of_getElem? (i := 1) rfl), wl_6 _ (List.mem_of_getElem? (i := 2) rfl), wl_1 _ (List.mem_of_getElem? (i := 14) rfl), wl_6 _ (List.mem_of_getElem? (i := 3) rfl), ⟨by decide, by decide, by decide +kernel⟩⟩
theorem gm_X5_82 : gMN RX5 82 yX0_isFull RX5 cX0_isFull 1 (some .boolean) 0 := ⟨List.mem_of_getElem? (i := 9) rfl, wl_7 _ (List.mem_of_getElem? (i := 3) rfl), wl_7 _ (List.mem_of_getElem? (i := 4) rfl), wl_1 _ (List.mem_of_getElem? (i := 20) rfl), wl_7 _ (List.mem_of_getElem? (i := 5) rfl), ⟨by decide, by decide, by decide +kernel⟩⟩
theorem gm_X5_86 : gMN RX5 86 yX0_write RX5 cX0_write 2 none 1 := ⟨List.mem_of_getElem? (i := 10) rfl, wl_7 _ (List.mem_of_getElem? (i := 7) rfl), wl_7 _ (List.mem_of_getElem? (i := 8) rfl), wl_1 _ (List.mem_of_getElem? (i := 20) rfl), wl_7 _ (List.mem_of_getElem? (i := 9) rfl), ⟨by decide, by decide, by decide +kernel⟩⟩
theorem gm_X5_92 : gMN RX5 92 yX0_firstFault RX5 cX0_firstFault 4 (some .int) 0 := ⟨List.mem_of_getElem? (i := 11) rfl, wl_8 _ (List.mem_of_getElem? (i := 3) rfl), wl_8 _ (List.mem_of_getElem? (i := 4) rfl), wl_1 _ (List.mem_of_getElem? (i := 20) rfl), wl_8 _ (List.mem_of_getElem? (i := 5) rfl), ⟨by decide, by decide, by decide +kernel⟩⟩
theorem gm_X5_99 : gMN RX5 99 yX0_isUntold RX5 cX0_isUntold 2 (some .boolean) 1 := ⟨List.mem_of_getElem? (i := 12) rfl, wl_9 _ (List.mem_of_getElem? (i := 7) rfl), wl_9 _ (List.mem_of_getElem? (i := 8) rfl), wl_1 _ (List.mem_of_getElem? (i := 20) rfl), wl_9 _ (List.mem_of_getElem? (i := 9) rfl), ⟨by decide, by decide, by decide +kernel⟩⟩
theorem gm_X5_102 : gMN RX5 102 yX3_open RX5 cX3_open 3 none 1 := ⟨List.mem_of_getElem? (i := 13) rfl, wl_9 _ (List.mem_of_getElem? (i := 14) rfl), wl_9 _ (List.mem_of_getElem? (i := 15) rfl), wl_2 _ (List.mem_of_getElem? (i := 10) rfl), wl_9 _ (List.mem_of_getElem? (i := 16) rfl), ⟨by decide, by decide, by decide +kernel⟩⟩
theorem gm_X5_105 : gMN RX5 105 yX3_live RX5 cX3_live 6 (some .int) 3 := ⟨List.mem_of_getElem? (i := 14) rfl, wl_10 _ (List.mem_of_getElem? (i := 4) rfl), wl_10 _ (List.mem_of_getElem? (i := 5) rfl), wl_2 _ (List.mem_of_getElem? (i := 10) rfl), wl_10 _ (List.mem_of_getElem? (i := 6) rfl), ⟨by decide, by decide, by decide +kernel⟩⟩
theorem gm_X5_109 : gMN RX5 109 yX0_signAt RX5 cX0_signAt 2 (some .int) 1 := ⟨List.mem_of_getElem? (i := 19) rfl, wl_8 _ (List.mem_of_getElem? (i := 7) rfl), wl_8 _ (List.mem_of_getElem? (i := 8) rfl), wl_1 _ (List.mem_of_getElem? (i := 20) rfl), wl_8 _ (List.mem_of_getElem? (i := 9) rfl), ⟨by decide, by decide, by decide +kernel⟩⟩
theorem gm_X5_113 : gMN RX5 113 yX3_whyNot RX5 cX3_whyNot 2 (some .int) 1 := ⟨List.mem_of_getElem? (i := 20) rfl, wl_10 _ (List.mem_of_getElem? (i := 8) rfl), wl_10 _ (List.mem_of_getElem? (i := 9) rfl), wl_2 _ (List.mem_of_getElem? (i := 10) rfl), wl_10 _ (List.mem_of_getElem? (i := 10) rfl), ⟨by decide, by decide, by decide +kernel⟩⟩
theorem gm_X5_122 : gMN RX5 122 yX3_bedOf RX5 cX3_bedOf 3 (some .int) 1 := ⟨List.mem_of_getElem? (i := 21) rfl, wl_12 _ (List.mem_of_getElem? (i := 3) rfl), wl_12 _ (List.mem_of_getElem? (i := 4) rfl), wl_2 _ (List.mem_of_getElem? (i := 10) rfl), wl_12 _ (List.mem_of_getElem? (i := 5) rfl), ⟨by decide, by decide, by decide +kernel⟩⟩
theorem gm_X5_125 : gMN RX5 125 yX3_sleeperOf RX5 cX3_sleeperOf 2 (some .int) 1 := ⟨List.mem_of_getElem? (i := 22) rfl, wl_12 _ (List.mem_of_getElem? (i := 15) rfl), wl_12 _ (List.mem_of_getElem? (i := 16) rfl), wl_2 _ (List.mem_of_getElem? (i := 10) rfl), wl_12 _ (List.mem_of_getElem? (i := 17) rfl), ⟨by decide, by decide, by decide +kernel⟩⟩
theorem gm_X5_131 : gMN RX5 131 yX3_emptyBed RX5 cX3_emptyBed 2 (some .int) 1 := ⟨List.mem_of_getElem? (i := 23) rfl, wl_17 _ (List.mem_of_getElem? (i := 10) rfl), wl_17 _ (List.mem_of_getElem? (i := 11) rfl), wl_2 _ (List.mem_of_getElem? (i := 10) rfl), wl_17 _ (List.mem_of_getElem? (i := 12) rfl), ⟨by decide, by decide, by decide +kernel⟩⟩
theorem gm_X5_134 : gMN RX5 134 yX3_countOf RX5 cX3_countOf 3 (some .int) 2 := ⟨List.mem_of_getElem? (i := 24) rfl, wl_17 _ (List.mem_of_getElem? (i := 21) rfl), wl_17 _ (List.mem_of_getElem? (i := 22) rfl), wl_2 _ (List.mem_of_getElem? (i := 10) rfl), wl_17 _ (List.mem_of_getElem? (i := 23) rfl), ⟨by decide, by decide, by decide +kernel⟩⟩
theorem gm_X5_140 : gMN RX5 140 yX0_names RX5 cX0_names 4 (some .boolean) 1 := ⟨List.mem_of_getElem? (i := 26) rfl, wl_18 _ (List.mem_of_getElem? (i := 23) rfl), wl_19 _ (List.mem_of_getElem? (i := 0) rfl), wl_1 _ (List.mem_of_getElem? (i := 20) rfl), wl_19 _ (List.mem_of_getElem? (i := 1) rfl), ⟨by decide, by decide, by decide +kernel⟩⟩
theorem gm_X5_155 : gMN RX5 155 yX3_takeIn RX5 cX3_takeIn 3 none 1 := ⟨List.mem_of_getElem? (i := 28) rfl, wl_10 _ (List.mem_of_getElem? (i := 19) rfl), wl_10 _ (List.mem_of_getElem? (i := 20) rfl), wl_2 _ (List.mem_of_getElem? (i := 10) rfl), wl_10 _ (List.mem_of_getElem? (i := 21) rfl), ⟨by decide, by decide, by decide +kernel⟩⟩
theorem gm_X5_166 : gMN RX5 166 yX4_order RX5 cX4_order 3 none 2 := ⟨List.mem_of_getElem? (i := 29) rfl, wl_21 _ (List.mem_of_getElem? (i := 16) rfl), wl_21 _ (List.mem_of_getElem? (i := 17) rfl), wl_2 _ (List.mem_of_getElem? (i := 0) rfl), wl_21 _ (List.mem_of_getElem? (i := 18) rfl), ⟨by decide, by decide, by decide +kernel⟩⟩
theorem gm_X5_173 : gMN RX5 173 yX4_guestAt RX5 cX4_guestAt 2 (some .int) 1 := ⟨List.mem_of_getElem? (i := 34) rfl, wl_22 _ (List.mem_of_getElem? (i := 6) rfl), wl_22 _ (List.mem_of_getElem? (i := 7) rfl), wl_2 _ (List.mem_of_getElem? (i := 0) rfl), wl_22 _ (List.mem_of_getElem? (i := 8) rfl), ⟨by decide, by decide, by decide +kernel⟩⟩
theorem gm_X5_188 : gMN RX5 188 yX2_addSight RX5 cX2_addSight 3 none 2 := ⟨List.mem_of_getElem? (i := 36) rfl, wl_24 _ (List.mem_of_getElem? (i := 4) rfl), wl_24 _ (List.mem_of_getElem? (i := 5) rfl), wl_1 _ (List.mem_of_getElem? (i := 14) rfl), wl_24 _ (List.mem_of_getElem? (i := 6) rfl), ⟨by decide, by decide, by decide +kernel⟩⟩
theorem gm_X5_192 : gMN RX5 192 yX1_search RX5 cX1_search 5 none 3 := ⟨List.mem_of_getElem? (i := 37) rfl, wl_24 _ (List.mem_of_getElem? (i := 23) rfl), wl_25 _ (List.mem_of_getElem? (i := 0) rfl), wl_2 _ (List.mem_of_getElem? (i := 4) rfl), wl_25 _ (List.mem_of_getElem? (i := 1) rfl), ⟨by decide, by decide, by decide +kernel⟩⟩
theorem gm_X5_199 : gMN RX5 199 yX1_firstAt RX5 cX1_firstAt 2 (some .int) 1 := ⟨List.mem_of_getElem? (i := 47) rfl, wl_25 _ (List.mem_of_getElem? (i := 15) rfl), wl_25 _ (List.mem_of_getElem? (i := 16) rfl), wl_2 _ (List.mem_of_getElem? (i := 4) rfl), wl_25 _ (List.mem_of_getElem? (i := 17) rfl), ⟨by decide, by decide, by decide +kernel⟩⟩
theorem gm_X5_202 : gMN RX5 202 yX1_suspectsAt RX5 cX1_suspectsAt 2 (some .int) 1 := ⟨List.mem_of_getElem? (i := 48) rfl, wl_26 _ (List.mem_of_getElem? (i := 18) rfl), wl_26 _ (List.mem_of_getElem? (i := 19) rfl), wl_2 _ (List.mem_of_getElem? (i := 4) rfl), wl_26 _ (List.mem_of_getElem? (i := 20) rfl), ⟨by decide, by decide, by decide +kernel⟩⟩
theorem gm_X5_220 : gMN RX5 220 yX3_isThere RX5 cX3_isThere 2 (some .boolean) 1 := ⟨List.mem_of_getElem? (i := 50) rfl, wl_10 _ (List.mem_of_getElem? (i := 12) rfl), wl_10 _ (List.mem_of_getElem? (i := 13) rfl), wl_2 _ (List.mem_of_getElem? (i := 10) rfl), wl_10 _ (List.mem_of_getElem? (i := 14) rfl), ⟨by decide, by decide, by decide +kernel⟩⟩
theorem gm_X5_223 : gMN RX5 223 yX3_letGo RX5 cX3_letGo 3 none 1 := ⟨List.mem_of_getElem? (i := 51) rfl, wl_11 _ (List.mem_of_getElem? (i := 23) rfl), wl_12 _ (List.mem_of_getElem? (i := 0) rfl), wl_2 _ (List.mem_of_getElem? (i := 10) rfl), wl_12 _ (List.mem_of_getElem? (i := 1) rfl), ⟨by decide, by decide, by decide +kernel⟩⟩
theorem gm_X5_226 : gMN RX5 226 yX3_timesUsed RX5 cX3_timesUsed 2 (some .int) 1 := ⟨List.mem_of_getElem? (i := 52) rfl, wl_28 _ (List.mem_of_getElem? (i := 12) rfl), wl_28 _ (List.mem_of_getElem? (i := 13) rfl), wl_2 _ (List.mem_of_getElem? (i := 10) rfl), wl_28 _ (List.mem_of_getElem? (i := 14) rfl), ⟨by decide, by decide, by decide +kernel⟩⟩
theorem gm_X5_229 : gMN RX5 229 yX2_copy RX5 cX2_copy 2 none 1 := ⟨List.mem_of_getElem? (i := 53) rfl, wl_29 _ (List.mem_of_getElem? (i := 0) rfl), wl_29 _ (List.mem_of_getElem? (i := 1) rfl), wl_1 _ (List.mem_of_getElem? (i := 14) rfl), wl_29 _ (List.mem_of_getElem? (i := 2) rfl), ⟨by decide, by decide, by decide +kernel⟩⟩
theorem gm_X5_240 : gMN RX5 240 yX3_allSheets RX5 cX3_allSheets 3 (some .int) 0 := ⟨List.mem_of_getElem? (i := 25) rfl, wl_18 _ (List.mem_of_getElem? (i := 12) rfl), wl_18 _ (List.mem_of_getElem? (i := 13) rfl), wl_2 _ (List.mem_of_getElem? (i := 10) rfl), wl_18 _ (List.mem_of_getElem? (i := 14) rfl), ⟨by decide, by decide, by decide +kernel⟩⟩
theorem gm_X5_246 : gMN RX5 246 yX3_standAs RX5 cX3_standAs 2 none 1 := ⟨List.mem_of_getElem? (i := 27) rfl, wl_19 _ (List.mem_of_getElem? (i := 10) rfl), wl_19 _ (List.mem_of_getElem? (i := 11) rfl), wl_2 _ (List.mem_of_getElem? (i := 10) rfl), wl_19 _ (List.mem_of_getElem? (i := 12) rfl), ⟨by decide, by decide, by decide +kernel⟩⟩
theorem gm_X5_250 : gMN RX5 250 yX3_infest RX5 cX3_infest 2 none 1 := ⟨List.mem_of_getElem? (i := 35) rfl, wl_23 _ (List.mem_of_getElem? (i := 5) rfl), wl_23 _ (List.mem_of_getElem? (i := 6) rfl), wl_2 _ (List.mem_of_getElem? (i := 10) rfl), wl_23 _ (List.mem_of_getElem? (i := 7) rfl), ⟨by decide, by decide, by decide +kernel⟩⟩
theorem gm_X5_253 : gMN RX5 253 yX3_emptyLeastBed RX5 cX3_emptyLeastBed 2 none 0 := ⟨List.mem_of_getElem? (i := 49) rfl, wl_27 _ (List.mem_of_getElem? (i := 11) rfl), wl_27 _ (List.mem_of_getElem? (i := 12) rfl), wl_2 _ (List.mem_of_getElem? (i := 10) rfl), wl_27 _ (List.mem_of_getElem? (i := 13) rfl), ⟨by decide, by decide, by decide +kernel⟩⟩
theorem gm_X1_33 : gMN RX1 33 yX0_signAt RX5 cX0_signAt 2 (some .int) 1 := ⟨List.mem_of_getElem? (i := 38) rfl, wl_8 _ (List.mem_of_getElem? (i := 7) rfl), wl_8 _ (List.mem_of_getElem? (i := 8) rfl), wl_1 _ (List.mem_of_getElem? (i := 20) rfl), wl_8 _ (List.mem_of_getElem? (i := 9) rfl), ⟨by decide, by decide, by decide +kernel⟩⟩
theorem gm_X1_42 : gMN RX1 42 yX3_open RX5 cX3_open 3 none 1 := ⟨List.mem_of_getElem? (i := 39) rfl, wl_9 _ (List.mem_of_getElem? (i := 14) rfl), wl_9 _ (List.mem_of_getElem? (i := 15) rfl), wl_2 _ (List.mem_of_getElem? (i := 10) rfl), wl_9 _ (List.mem_of_getElem? (i := 16) rfl), ⟨by decide, by decide, by decide +kernel⟩⟩
theorem gm_X1_52 : gMN RX1 52 yX0_nextUntold RX5 cX0_nextUntold 3 (some .int) 1 := ⟨List.mem_of_getElem? (i := 40) rfl, wl_9 _ (List.mem_of_getElem? (i := 11) rfl), wl_9 _ (List.mem_of_getElem? (i := 12) rfl), wl_1 _ (List.mem_of_getElem? (i := 20) rfl), wl_9 _ (List.mem_of_getElem? (i := 13) rfl), ⟨by decide, by decide, by decide +kernel⟩⟩
theorem gm_X1_55 : gMN RX1 55 yX3_live RX5 cX3_live 6 (some .int) 3 := ⟨List.mem_of_getElem? (i := 41) rfl, wl_10 _ (List.mem_of_getElem? (i := 4) rfl), wl_10 _ (List.mem_of_getElem? (i := 5) rfl), wl_2 _ (List.mem_of_getElem? (i := 10) rfl), wl_10 _ (List.mem_of_getElem? (i := 6) rfl), ⟨by decide, by decide, by decide +kernel⟩⟩
theorem gm_X1_67 : gMN RX1 67 yX3_isThere RX5 cX3_isThere 2 (some .boolean) 1 := ⟨List.mem_of_getElem? (i := 44) rfl, wl_10 _ (List.mem_of_getElem? (i := 12) rfl), wl_10 _ (List.mem_of_getElem? (i := 13) rfl), wl_2 _ (List.mem_of_getElem? (i := 10) rfl), wl_10 _ (List.mem_of_getElem? (i := 14) rfl), ⟨by decide, by decide, by decide +kernel⟩⟩
theorem gm_X1_71 : gMN RX1 71 yX3_standAs RX5 cX3_standAs 2 none 1 := ⟨List.mem_of_getElem? (i := 45) rfl, wl_19 _ (List.mem_of_getElem? (i := 10) rfl), wl_19 _ (List.mem_of_getElem? (i := 11) rfl), wl_2 _ (List.mem_of_getElem? (i := 10) rfl), wl_19 _ (List.mem_of_getElem? (i := 12) rfl), ⟨by decide, by decide, by decide +kernel⟩⟩
theorem gm_X1_74 : gMN RX1 74 yX3_takeIn RX5 cX3_takeIn 3 none 1 := ⟨List.mem_of_getElem? (i := 46) rfl, wl_10 _ (List.mem_of_getElem? (i := 19) rfl), wl_10 _ (List.mem_of_getElem? (i := 20) rfl), wl_2 _ (List.mem_of_getElem? (i := 10) rfl), wl_10 _ (List.mem_of_getElem? (i := 21) rfl), ⟨by decide, by decide, by decide +kernel⟩⟩
theorem gm_X1_81 : gMN RX1 81 yX2_allSightsHold RX5 cX2_allSightsHold 3 (some .boolean) 1 := ⟨List.mem_of_getElem? (i := 42) rfl, wl_25 _ (List.mem_of_getElem? (i := 12) rfl), wl_25 _ (List.mem_of_getElem? (i := 13) rfl), wl_1 _ (List.mem_of_getElem? (i := 14) rfl), wl_25 _ (List.mem_of_getElem? (i := 14) rfl), ⟨by decide, by decide, by decide +kernel⟩⟩
theorem gm_X2_28 : gMT RX2 28 yX5_isGuest RX5 cX5_isGuest 1 (some .boolean) 1 := ⟨List.mem_of_getElem? (i := 8) rfl, wl_5 _ (List.mem_of_getElem? (i := 16) rfl), wl_1 _ (List.mem_of_getElem? (i := 2) rfl), wl_5 _ (List.mem_of_getElem? (i := 17) rfl), ⟨by decide, by decide, by decide +kernel⟩⟩
theorem gm_X2_32 : gMN RX2 32 yX3_sleeperOf RX5 cX3_sleeperOf 2 (some .int) 1 := ⟨List.mem_of_getElem? (i := 43) rfl, wl_12 _ (List.mem_of_getElem? (i := 15) rfl), wl_12 _ (List.mem_of_getElem? (i := 16) rfl), wl_2 _ (List.mem_of_getElem? (i := 10) rfl), wl_12 _ (List.mem_of_getElem? (i := 17) rfl), ⟨by decide, by decide, by decide +kernel⟩⟩
theorem gm_X3_79 : gMN RX3 79 yX0_signAt RX5 cX0_signAt 2 (some .int) 1 := ⟨List.mem_of_getElem? (i := 15) rfl, wl_8 _ (List.mem_of_getElem? (i := 7) rfl), wl_8 _ (List.mem_of_getElem? (i := 8) rfl), wl_1 _ (List.mem_of_getElem? (i := 20) rfl), wl_8 _ (List.mem_of_getElem? (i := 9) rfl), ⟨by decide, by decide, by decide +kernel⟩⟩
theorem gm_X3_88 : gMT RX3 88 yX0_isComing RX5 cX0_isComing 1 (some .boolean) 1 := ⟨List.mem_of_getElem? (i := 16) rfl, wl_8 _ (List.mem_of_getElem? (i := 11) rfl), wl_1 _ (List.mem_of_getElem? (i := 20) rfl), wl_8 _ (List.mem_of_getElem? (i := 12) rfl), ⟨by decide, by decide, by decide +kernel⟩⟩
theorem gm_X3_95 : gMT RX3 95 yX0_isGoing RX5 cX0_isGoing 1 (some .boolean) 1 := ⟨List.mem_of_getElem? (i := 17) rfl, wl_8 _ (List.mem_of_getElem? (i := 14) rfl), wl_1 _ (List.mem_of_getElem? (i := 20) rfl), wl_8 _ (List.mem_of_getElem? (i := 15) rfl), ⟨by decide, by decide, by decide +kernel⟩⟩
theorem gm_X3_145 : gMN RX3 145 yX2_worthOf RX5 cX2_worthOf 3 (some .int) 2 := ⟨List.mem_of_getElem? (i := 18) rfl, wl_5 _ (List.mem_of_getElem? (i := 22) rfl), wl_5 _ (List.mem_of_getElem? (i := 23) rfl), wl_1 _ (List.mem_of_getElem? (i := 14) rfl), wl_6 _ (List.mem_of_getElem? (i := 0) rfl), ⟨by decide, by decide, by decide +kernel⟩⟩
theorem gm_X4_45 : gMN RX4 45 yX3_standAs RX5 cX3_standAs 2 none 1 := ⟨List.mem_of_getElem? (i := 30) rfl, wl_19 _ (List.mem_of_getElem? (i := 10) rfl), wl_19 _ (List.mem_of_getElem? (i := 11) rfl), wl_2 _ (List.mem_of_getElem? (i := 10) rfl), wl_19 _ (List.mem_of_getElem? (i := 12) rfl), ⟨by decide, by decide, by decide +kernel⟩⟩
theorem gm_X4_49 : gMN RX4 49 yX3_takeIn RX5 cX3_takeIn 3 none 1 := ⟨List.mem_of_getElem? (i := 31) rfl, wl_10 _ (List.mem_of_getElem? (i := 19) rfl), wl_10 _ (List.mem_of_getElem? (i := 20) rfl), wl_2 _ (List.mem_of_getElem? (i := 10) rfl), wl_10 _ (List.mem_of_getElem? (i := 21) rfl), ⟨by decide, by decide, by decide +kernel⟩⟩
theorem gm_X4_56 : gMN RX4 56 yX3_bedOf RX5 cX3_bedOf 3 (some .int) 1 := ⟨List.mem_of_getElem? (i := 32) rfl, wl_12 _ (List.mem_of_getElem? (i := 3) rfl), wl_12 _ (List.mem_of_getElem? (i := 4) rfl), wl_2 _ (List.mem_of_getElem? (i := 10) rfl), wl_12 _ (List.mem_of_getElem? (i := 5) rfl), ⟨by decide, by decide, by decide +kernel⟩⟩
theorem gm_X4_59 : gMN RX4 59 yX2_worthOf RX5 cX2_worthOf 3 (some .int) 2 := ⟨List.mem_of_getElem? (i := 33) rfl, wl_5 _ (List.mem_of_getElem? (i := 22) rfl), wl_5 _ (List.mem_of_getElem? (i := 23) rfl), wl_1 _ (List.mem_of_getElem? (i := 14) rfl), wl_6 _ (List.mem_of_getElem? (i := 0) rfl), ⟨by decide, by decide, by decide +kernel⟩⟩
theorem cw_X5_205 : Cond.constantLong RX5 205 (-1000000000000000001) ∈ wsL_law := wl_27 _ (List.mem_of_getElem? (i := 5) rfl)
theorem cw_X5_207 : Cond.constantLong RX5 207 (-1000000000000000002) ∈ wsL_law := wl_27 _ (List.mem_of_getElem? (i := 6) rfl)
theorem cw_X5_209 : Cond.constantLong RX5 209 (-1000000000000000000) ∈ wsL_law := wl_27 _ (List.mem_of_getElem? (i := 7) rfl)
theorem cw_X5_219 : Cond.constant RX5 219 (65537) ∈ wsL_law := wl_28 _ (List.mem_of_getElem? (i := 11) rfl)
theorem cw_X5_256 : Cond.constantLong RX5 256 (10) ∈ wsL_law := wl_27 _ (List.mem_of_getElem? (i := 17) rfl)
theorem cw_X5_258 : Cond.constantLong RX5 258 (2) ∈ wsL_law := wl_27 _ (List.mem_of_getElem? (i := 18) rfl)
theorem cw_X5_260 : Cond.constantLong RX5 260 (5) ∈ wsL_law := wl_27 _ (List.mem_of_getElem? (i := 19) rfl)
theorem cw_X6_177 : Cond.constantLong RX6 177 (-1000000000000000001) ∈ wsL_law := wl_28 _ (List.mem_of_getElem? (i := 0) rfl)
theorem cw_X6_179 : Cond.constantLong RX6 179 (-1000000000000000002) ∈ wsL_law := wl_28 _ (List.mem_of_getElem? (i := 1) rfl)
theorem cw_X6_181 : Cond.constantLong RX6 181 (-1000000000000000000) ∈ wsL_law := wl_28 _ (List.mem_of_getElem? (i := 2) rfl)
theorem cw_X6_183 : Cond.constantLong RX6 183 (10) ∈ wsL_law := wl_28 _ (List.mem_of_getElem? (i := 3) rfl)
theorem cw_X6_189 : Cond.constant RX6 189 (65537) ∈ wsL_law := wl_28 _ (List.mem_of_getElem? (i := 19) rfl)
theorem cw_J6_265 : Cond.constant RJ6 265 (1431655765) ∈ wsL_law := wl_21 _ (List.mem_of_getElem? (i := 13) rfl)
theorem cw_J6_266 : Cond.constant RJ6 266 (858993459) ∈ wsL_law := wl_21 _ (List.mem_of_getElem? (i := 14) rfl)
theorem cw_J6_267 : Cond.constant RJ6 267 (252645135) ∈ wsL_law := wl_21 _ (List.mem_of_getElem? (i := 15) rfl)
theorem aw_native : Cond.native arraycopyName ∈ wsL_law := wl_19 _ (List.mem_of_getElem? (i := 14) rfl)
theorem aw_static : Cond.static arraycopyName ∈ wsL_law := wl_19 _ (List.mem_of_getElem? (i := 15) rfl)
theorem aw_ini : Cond.initialized "java/lang/System" ∈ wsL_law := wl_19 _ (List.mem_of_getElem? (i := 16) rfl)
end
section
abbrev DayS : Type := Int32 × (Nat → Int32)
abbrev GueS : Type := Int32 × Int32 × (Nat → Int32) × (Nat → Int32) × (Nat → Int32)
abbrev HouS : Type := Int32 × Int32 × Int32 × Int32 × (Nat → Int32) × (Nat → Int32) × (Nat → Int32)
abbrev InnS : Type := Int32 × Int32 × (Nat → Int32) × (Nat → Int32) × Int32 × (Nat → Int32) × Int32 × (Nat → Int32) × (Nat → Int32) × (Nat → Int32) × (Nat → Int32) × Int32 × Int32 × Int32
abbrev ParS : Type := Int32 × Int32 × (Nat → Int32) × (Nat → Int32)
abbrev WbS : Type := (Nat → Int32)
abbrev ModS : Type := Int32 × Int32 × (Nat → Int32) × Int32 × (Nat → Int32) × Int32 × (Nat → Int32) × (Nat → Int32) × Int32 × (Nat → Int32) × Int32 × (Nat → Int32) × (Nat → Int32) × (Nat → Int32) × (Nat → Int32) × (Nat → Int32) × Int32 × Int32 × Int32 × (Nat → Int32) × (Nat → Int32) × (Nat → Int32) × (Nat → Int32)
def dC (cI : ClassId) (a : Nat → Nat) : DayS → va_W
  | (v_length, v_signs) => [(a 0, .inr (0, [.int v_length, .ref (a 1)])), (a 1, .inl (cI, 48, .inl v_signs))]
def qC (cI : ClassId) (a : Nat → Nat) : GueS → va_W
  | (v_ways, v_untold, v_trial, v_first, v_suspects) => [(a 0, .inr (1, [.int v_ways, .int v_untold, .ref (a 1), .ref (a 2), .ref (a 3)])), (a 1, .inl (cI, 3, .inl v_trial)), (a 2, .inl (cI, 3, .inl v_first)), (a 3, .inl (cI, 3, .inl v_suspects))]
def hC (cI : ClassId) (a : Nat → Nat) : HouS → va_W
  | (v_beds, v_law, v_sights, v_isKept, v_worths, v_sightGuests, v_sightBeds) => [(a 0, .inr (2, [.int v_beds, .int v_law, .int v_sights, .int v_isKept, .ref (a 1), .ref (a 2), .ref (a 3)])), (a 1, .inl (cI, 64, .inl v_worths)), (a 2, .inl (cI, 6, .inl v_sightGuests)), (a 3, .inl (cI, 6, .inl v_sightBeds))]
def iC (cI : ClassId) (a : Nat → Nat) (hh : Nat) (dp : Option Nat) : InnS → va_W
  | (v_law, v_there, v_sleepers, v_empty, v_empties, v_yard, v_waiting, v_nights, v_used, v_sheets, v_lastOnes, v_guestsWithFleas, v_bedsWithFleas, v_isCounting) => [(a 0, .inr (3, [.ref hh, va_rf dp, .int v_law, .int v_there, .ref (a 1), .ref (a 2), .int v_empties, .ref (a 3), .int v_waiting, .ref (a 4), .ref (a 5), .ref (a 6), .ref (a 7), .int v_guestsWithFleas, .int v_bedsWithFleas, .int v_isCounting])), (a 1, .inl (cI, 8, .inl v_sleepers)), (a 2, .inl (cI, 8, .inl v_empty)), (a 3, .inl (cI, 16, .inl v_yard)), (a 4, .inl (cI, 8, .inl v_nights)), (a 5, .inl (cI, 8, .inl v_used)), (a 6, .inl (cI, 8, .inl v_sheets)), (a 7, .inl (cI, 8, .inl v_lastOnes))]
def pC (cI : ClassId) (a : Nat → Nat) : ParS → va_W
  | (v_most, v_size, v_bestOrder, v_trial) => [(a 0, .inr (4, [.int v_most, .int v_size, .ref (a 1), .ref (a 2)])), (a 1, .inl (cI, 6, .inl v_bestOrder)), (a 2, .inl (cI, 6, .inl v_trial))]
def bC (cI : ClassId) (a : Nat → Nat) (r0 r1 r2 r3 r4 r5 r6 : Nat) : WbS → va_W
  | v_bedsByPlace => [(a 0, .inr (5, [.ref r0, .ref r1, .ref r2, .ref r3, .ref r4, .ref r5, .ref r6, .ref (a 1)])), (a 1, .inl (cI, 48, .inl v_bedsByPlace))]
def mC (cI : ClassId) (cZ : ClassId) (a : Nat → Nat) : ModS → va_W
  | (v_beds, v_law, v_worths, v_sights, v_sight, v_signs, v_pad, v_lies, v_empty, v_list, v_waits, v_yard, v_last, v_used, v_sheets, v_nights, v_fleasOfGuests, v_fleasOfBeds, v_reason, v_row, v_bestRow, v_image, v_isKept) => [(a 0, .inr (6, [.int v_beds, .int v_law, .ref (a 1), .int v_sights, .ref (a 2), .int v_signs, .ref (a 3), .ref (a 4), .int v_empty, .ref (a 5), .int v_waits, .ref (a 6), .ref (a 7), .ref (a 8), .ref (a 9), .ref (a 10), .int v_fleasOfGuests, .int v_fleasOfBeds, .int v_reason, .ref (a 11), .ref (a 12), .ref (a 13), .ref (a 14)])), (a 1, .inl (cI, 64, .inl v_worths)), (a 2, .inl (cI, 12, .inl v_sight)), (a 3, .inl (cI, 48, .inl v_pad)), (a 4, .inl (cI, 8, .inl v_lies)), (a 5, .inl (cI, 8, .inl v_list)), (a 6, .inl (cI, 64, .inl v_yard)), (a 7, .inl (cI, 8, .inl v_last)), (a 8, .inl (cI, 8, .inl v_used)), (a 9, .inl (cI, 8, .inl v_sheets)), (a 10, .inl (cI, 8, .inl v_nights)), (a 11, .inl (cI, 8, .inl v_row)), (a 12, .inl (cI, 8, .inl v_bestRow)), (a 13, .inl (cI, 160, .inl v_image)), (a 14, .inl (cZ, 2, .inl v_isKept))]
/-- rows on options: what a printed function says where it answers -/
theorem gq_ifp {α : Type} {c : Prop} [Decidable c] {a b : Option α} {r : α} (h : c) (hf : (if c then a else b) = some r) : a = some r := by rw [if_pos h] at hf; exact hf
theorem gq_ifn {α : Type} {c : Prop} [Decidable c] {a b : Option α} {r : α} (h : ¬ c) (hf : (if c then a else b) = some r) : b = some r := by rw [if_neg h] at hf; exact hf
theorem gq_ok {α : Type} {c : Prop} [Decidable c] {a : Option α} {r : α} (hf : (if c then none else a) = some r) : ¬ c ∧ a = some r := by
  by_cases h : c
  · rw [if_pos h] at hf; cases hf
  · rw [if_neg h] at hf; exact ⟨h, hf⟩
theorem gq_bd {α β : Type} {o : Option α} {g : α → Option β} {r : β} (hf : Option.bind o g = some r) : ∃ u, o = some u ∧ g u = some r := by
  cases o with
  | none => cases hf
  | some u => exact ⟨u, rfl, hf⟩
theorem gq_lf {α : Type} {x r : α} (hf : some x = some r) : x = r := Option.some.inj hf
def gJn {α β : Type} (r : α) (B : α → β) : β := B r
theorem gq_jn {α β : Type} {r : α} {B : α → Option β} {rr : β} {T : Prop} (P : α → Prop) (hf : gJn r B = some rr) (hP : P r) (kk : ∀ k, P k → B k = some rr → T) : T := kk r hP hf
theorem gPost.rf {v : Option Value} {W1 : List va_W} : gPost v W1 v W1 := ⟨rfl, rfl⟩
theorem gq_out1 {x : Int32} (h0 : ¬ x = 0) (h1 : ¬ x = 1) : x.toInt < 0 ∨ 1 < x.toInt := by
  have a0 : x.toInt ≠ 0 := fun h => h0 (Int32.toInt_inj.mp h)
  have a1 : x.toInt ≠ 1 := fun h => h1 (Int32.toInt_inj.mp h)
  omega
theorem gq_out2 {x : Int32} (h0 : ¬ x = 0) (h1 : ¬ x = 1) (h2 : ¬ x = 2) : x.toInt < 0 ∨ 2 < x.toInt := by
  have a0 : x.toInt ≠ 0 := fun h => h0 (Int32.toInt_inj.mp h)
  have a1 : x.toInt ≠ 1 := fun h => h1 (Int32.toInt_inj.mp h)
  have a2 : x.toInt ≠ 2 := fun h => h2 (Int32.toInt_inj.mp h)
  omega
theorem gq_out3 {x : Int32} (h0 : ¬ x = 0) (h1 : ¬ x = 1) (h2 : ¬ x = 2) (h3 : ¬ x = 3) : x.toInt < 0 ∨ 3 < x.toInt := by
  have a0 : x.toInt ≠ 0 := fun h => h0 (Int32.toInt_inj.mp h)
  have a1 : x.toInt ≠ 1 := fun h => h1 (Int32.toInt_inj.mp h)
  have a2 : x.toInt ≠ 2 := fun h => h2 (Int32.toInt_inj.mp h)
  have a3 : x.toInt ≠ 3 := fun h => h3 (Int32.toInt_inj.mp h)
  omega
section CTS
variable {l : Launch} {D : va_G} {cI cZ : ClassId} {y : MethodName} {cc : ByteArray} {mL : Nat} {fr lo mc ms : Nat} {argl : List Value} {W0 : List va_W} {post : Option Value → List va_W → Prop}
theorem CT.mkI (hpl : plainName y.cls = true) (hnl : (lg_sl argl).length ≤ mL)
    (body : ∀ {p : Program} {e : Env} {R : Room} {s : State} {m : MethodId} {args : Array Value} {below : List Frame} {meth : Method} {c : Code} {A : Nat → Prop} {H0 : Heap} {Q : State → Prop}, gC p s m args c cc mL y.cls D cI cZ → (∀ q, H0.size ≤ q → A q) → (fr ≤ R.frames ∧ lo ≤ R.locals ∧ mc ≤ R.cells ∧ ms ≤ R.slots) →
      (∀ {x : Int32} {ws : List va_W} {pc : Nat} {lv : List (Nat × Value)}, decode cc pc = .ok (.ireturn, 1) → post (some (.int x)) ws → G p l e R s m args below meth c mL D A H0 mc ms Q ws pc lv [.int x]) → G p l e R s m args below meth c mL D A H0 0 0 Q W0 0 (lv_args 0 argl) []) : CT l D cI cZ y cc mL (some .int) fr lo mc ms argl W0 post :=
  CT.mk hpl hnl fun _ _ _ _ _ _ _ C hr hlk _ => body C (fun _ h => Or.inr h) ⟨Nat.le_refl _, Nat.le_refl _, Nat.le_refl _, Nat.le_refl _⟩ (fun hdg hp => gq_iret C hr hlk hdg hp)
theorem CT.mkZ (hpl : plainName y.cls = true) (hnl : (lg_sl argl).length ≤ mL)
    (body : ∀ {p : Program} {e : Env} {R : Room} {s : State} {m : MethodId} {args : Array Value} {below : List Frame} {meth : Method} {c : Code} {A : Nat → Prop} {H0 : Heap} {Q : State → Prop}, gC p s m args c cc mL y.cls D cI cZ → (∀ q, H0.size ≤ q → A q) → (fr ≤ R.frames ∧ lo ≤ R.locals ∧ mc ≤ R.cells ∧ ms ≤ R.slots) →
      (∀ {x : Int32} {ws : List va_W} {pc : Nat} {lv : List (Nat × Value)}, decode cc pc = .ok (.ireturn, 1) → narrow .boolean (.int x) = .int x → post (some (.int x)) ws → G p l e R s m args below meth c mL D A H0 mc ms Q ws pc lv [.int x]) → G p l e R s m args below meth c mL D A H0 0 0 Q W0 0 (lv_args 0 argl) []) : CT l D cI cZ y cc mL (some .boolean) fr lo mc ms argl W0 post :=
  CT.mk hpl hnl fun _ _ _ _ _ _ _ C hr hlk _ => body C (fun _ h => Or.inr h) ⟨Nat.le_refl _, Nat.le_refl _, Nat.le_refl _, Nat.le_refl _⟩ (fun hdg hx hp => gq_zret C hr hlk hdg hx hp)
theorem CT.mkL (hpl : plainName y.cls = true) (hnl : (lg_sl argl).length ≤ mL)
    (body : ∀ {p : Program} {e : Env} {R : Room} {s : State} {m : MethodId} {args : Array Value} {below : List Frame} {meth : Method} {c : Code} {A : Nat → Prop} {H0 : Heap} {Q : State → Prop}, gC p s m args c cc mL y.cls D cI cZ → (∀ q, H0.size ≤ q → A q) → (fr ≤ R.frames ∧ lo ≤ R.locals ∧ mc ≤ R.cells ∧ ms ≤ R.slots) →
      (∀ {x : Int64} {ws : List va_W} {pc : Nat} {lv : List (Nat × Value)}, decode cc pc = .ok (.lreturn, 1) → post (some (.long x)) ws → G p l e R s m args below meth c mL D A H0 mc ms Q ws pc lv [.long x]) → G p l e R s m args below meth c mL D A H0 0 0 Q W0 0 (lv_args 0 argl) []) : CT l D cI cZ y cc mL (some .long) fr lo mc ms argl W0 post :=
  CT.mk hpl hnl fun _ _ _ _ _ _ _ C hr hlk _ => body C (fun _ h => Or.inr h) ⟨Nat.le_refl _, Nat.le_refl _, Nat.le_refl _, Nat.le_refl _⟩ (fun hdg hp => gq_lret C hr hlk hdg hp)
theorem CT.mkV (hpl : plainName y.cls = true) (hnl : (lg_sl argl).length ≤ mL)
    (body : ∀ {p : Program} {e : Env} {R : Room} {s : State} {m : MethodId} {args : Array Value} {below : List Frame} {meth : Method} {c : Code} {A : Nat → Prop} {H0 : Heap} {Q : State → Prop}, gC p s m args c cc mL y.cls D cI cZ → (∀ q, H0.size ≤ q → A q) → (fr ≤ R.frames ∧ lo ≤ R.locals ∧ mc ≤ R.cells ∧ ms ≤ R.slots) → meth.name = y.name →
      (∀ {ws : List va_W} {pc : Nat} {lv : List (Nat × Value)}, decode cc pc = .ok (.return_, 1) → post none ws → G p l e R s m args below meth c mL D A H0 mc ms Q ws pc lv []) → G p l e R s m args below meth c mL D A H0 0 0 Q W0 0 (lv_args 0 argl) []) : CT l D cI cZ y cc mL none fr lo mc ms argl W0 post :=
  CT.mk hpl hnl fun _ _ _ _ _ _ _ C hr hlk hn => body C (fun _ h => Or.inr h) ⟨Nat.le_refl _, Nat.le_refl _, Nat.le_refl _, Nat.le_refl _⟩ hn (fun hdg hp => gq_vret C hr hlk hdg hp)
end CTS
theorem gq_gd {α : Type} {c : Prop} [Decidable c] {a : Option α} {r : α} (hf : (if c then a else none) = some r) : c ∧ a = some r := by
  by_cases h : c
  · rw [if_pos h] at hf; exact ⟨h, hf⟩
  · rw [if_neg h] at hf; cases hf
theorem gq_bool {x : Int32} (h : x = 0 ∨ x = 1) : narrow .boolean (.int x) = .int x := by rcases h with rfl | rfl <;> rfl
/-- enough for every loop here -/
def FU : Nat := 2000
theorem gq_lk13 {x : Int32} (h0 : ¬ x = 0) (h1 : ¬ x = 1) : Op.lookupswitch.offset (#[(0, 27), (1, 34)] : Array (Int × Int)).toList 41 x.toInt = 41 := by
  have a0 : ¬ (0 : Int) = x.toInt := fun h => h0 (Int32.toInt_inj.mp h.symm)
  have a1 : ¬ (1 : Int) = x.toInt := fun h => h1 (Int32.toInt_inj.mp h.symm)
  simp only [Op.lookupswitch.offset_cons, if_neg a0, if_neg a1, Op.lookupswitch.offset_nil]
end
section
section GA
variable {p : Program} {l : Launch} {e : Env} {R : Room} {s : State} {m : MethodId} {args : Array Value} {below : List Frame} {meth : Method} {c : Code} {cc : ByteArray} {nL : Nat} {own : String} {D : va_G} {cI cZ : ClassId} {A : Nat → Prop} {H0 : Heap} {kc ks : Nat} {Q : State → Prop} {ws : List va_W} {pc : Nat} {lv : List (Nat × Value)} {st : List Value}
theorem gq_flat {ws' : List va_W} (h : ws.flatten = ws'.flatten) (k : G p l e R s m args below meth c nL D A H0 kc ks Q ws' pc lv st) : G p l e R s m args below meth c nL D A H0 kc ks Q ws pc lv st :=
  fun H locs ls hP hD hS hl => k H locs ls (by rw [← h]; exact hP) (by rw [← h]; exact hD) hS hl
/-- components put in another order, or some forgotten -/
theorem gq_perm {ws' : List va_W} (pl : List Nat) (hs : pl.map (fun i => ws[i]?) = ws'.map some) (hnd : va_nd pl = true) (k : G p l e R s m args below meth c nL D A H0 kc ks Q ws' pc lv st) : G p l e R s m args below meth c nL D A H0 kc ks Q ws pc lv st :=
  fun H locs ls hP hD hS hl => k H locs ls (sub_P hP hs) (sub_D hD hnd hs) hS hl
theorem gq_widen (kc' ks' : Nat) (h1 : kc ≤ kc') (h2 : ks ≤ ks') (k : G p l e R s m args below meth c nL D A H0 kc' ks' Q ws pc lv st) : G p l e R s m args below meth c nL D A H0 kc ks Q ws pc lv st :=
  fun H locs ls hP hD hS hl => W.widen h1 h2 (k H locs ls hP hD hS hl)
theorem fl_snoc {α : Type} (ws : List (List α)) (x : α) : (ws ++ [[x]]).flatten = ws.flatten ++ [x] := by simp
theorem gq_new (C : gC p s m args c cc nL own D cI cZ) (hA : ∀ q, H0.size ≤ q → A q) {ix ci N : Nat} {Cn : String} {T : u_T} {ty : Nat → FieldType} (fs : List Value) (n : Nat) (hc : vwCl[ci]? = some (Cn, T, N)) (hin : ∀ w ∈ u_ws Cn T N, w ∈ wsL_law) (hty : ∀ k, k < N → parseFieldDescriptor (T k).2.2.1 = some (ty k)) (hfs : ∀ j, j < N → defaultValue (ty j) = vp_V fs j) (w1 : Cond.classLink own ix Cn ∈ wsL_law) (w2 : Cond.instantiable Cn N ∈ wsL_law) (w3 : Cond.initialized Cn ∈ wsL_law) (hcR : kc + 1 ≤ R.cells) (hsR : ks + N ≤ R.slots) (hdg : decode cc pc = .ok (.new ix, 3)) (hn : pc + 3 = n)
    (kk : ∀ q : Nat, G p l e R s m args below meth c nL D A H0 (kc + 1) (ks + N) Q (ws ++ [[(q, .inr (ci, fs))]]) n lv (.ref q :: st)) : G p l e R s m args below meth c nL D A H0 kc ks Q ws pc lv st := by
  subst hn
  exact fun H locs ls hP hD hS hl => va_new C.1 C.2.1 C.2.2.2.2.1 hin ty hty C.2.2.2.1 (C.2.2.2.2.1 _ w1) (C.2.2.2.2.1 _ w2) (C.2.2.2.2.1 _ w3) C.2.2.2.2.2.2 hP hD hS hA hc hfs hcR hsR hdg (fun q H1 hP1 hD1 hS1 => kk q H1 locs ls (by rw [fl_snoc]; exact hP1) (by rw [fl_snoc]; exact hD1) hS1 hl)
theorem gq_newa (C : gC p s m args c cc nL own D cI cZ) (hA : ∀ q, H0.size ≤ q → A q) {z : Int32} (N n : Nat) (hw : Cond.arrayClass .int ∈ wsL_law) (hz : ¬ z < 0) (hN : z.toNatClampNeg = N) (hb : N * componentBytes .int ≤ 536870912) (hcR : kc + 1 ≤ R.cells) (hsR : ks + N ≤ R.slots) (hdg : decode cc pc = .ok (.newarray .int, 2)) (hn : pc + 2 = n)
    (kk : ∀ q : Nat, G p l e R s m args below meth c nL D A H0 (kc + 1) (ks + N) Q (ws ++ [[(q, .inl (cI, N, .inl (fun _ => 0)))]]) n lv (.ref q :: st)) : G p l e R s m args below meth c nL D A H0 kc ks Q ws pc lv (.int z :: st) := by
  subst hn
  exact fun H locs ls hP hD hS hl => va_newa (atype := .int) (a0 := (N, .inl (fun _ => 0))) C.1 C.2.1 (C.2.2.2.2.1 _ hw) rfl C.2.2.2.2.2.2 hP hD hS hA (fun _ => rfl) hz hN hb hcR hsR hdg (fun q cA H1 hK1 hP1 hD1 hS1 => by
    have h1 : s.vm.findClass ("[" ++ FieldType.int.toString) = some cA := (hK1.2 2 (cA, .int) rfl).2
    have h2 : s.vm.findClass ("[" ++ FieldType.int.toString) = some cI := (C.2.2.2.2.2.2.2 0 (cI, .int) rfl).2
    have h3 : cA = cI := Option.some.inj (h1.symm.trans h2)
    subst h3
    exact kk q H1 locs ls (by rw [fl_snoc]; exact hP1) (by rw [fl_snoc]; exact hD1) hS1 hl)
theorem gq_newz (C : gC p s m args c cc nL own D cI cZ) (hA : ∀ q, H0.size ≤ q → A q) {z : Int32} (N n : Nat) (hw : Cond.arrayClass .boolean ∈ wsL_law) (hz : ¬ z < 0) (hN : z.toNatClampNeg = N) (hb : N * componentBytes .boolean ≤ 536870912) (hcR : kc + 1 ≤ R.cells) (hsR : ks + N ≤ R.slots) (hdg : decode cc pc = .ok (.newarray .boolean, 2)) (hn : pc + 2 = n)
    (kk : ∀ q : Nat, G p l e R s m args below meth c nL D A H0 (kc + 1) (ks + N) Q (ws ++ [[(q, .inl (cZ, N, .inl (fun _ => 0)))]]) n lv (.ref q :: st)) : G p l e R s m args below meth c nL D A H0 kc ks Q ws pc lv (.int z :: st) := by
  subst hn
  exact fun H locs ls hP hD hS hl => va_newa (atype := .boolean) (a0 := (N, .inl (fun _ => 0))) C.1 C.2.1 (C.2.2.2.2.1 _ hw) rfl C.2.2.2.2.2.2 hP hD hS hA (fun _ => rfl) hz hN hb hcR hsR hdg (fun q cA H1 hK1 hP1 hD1 hS1 => by
    have h1 : s.vm.findClass ("[" ++ FieldType.boolean.toString) = some cA := (hK1.2 2 (cA, .boolean) rfl).2
    have h2 : s.vm.findClass ("[" ++ FieldType.boolean.toString) = some cZ := (C.2.2.2.2.2.2.2 1 (cZ, .boolean) rfl).2
    have h3 : cA = cZ := Option.some.inj (h1.symm.trans h2)
    subst h3
    exact kk q H1 locs ls (by rw [fl_snoc]; exact hP1) (by rw [fl_snoc]; exact hD1) hS1 hl)
theorem gq_objInit (C : gC p s m args c cc nL own D cI cZ) {ix a : Nat} (n : Nat) (w1 : Cond.methodLink own ix objectInit ∈ wsL_law) (w2 : Cond.instanceMethod objectInit ∈ wsL_law) (w3 : Cond.code objectInit ⟨#[0xb1]⟩ 1 none ∈ wsL_law) (hfr : 1 ≤ R.frames) (hlo : (st.map fun v => v.category).sum + 12 ≤ R.locals) (hdg : decode cc pc = .ok (.invokespecial ix, 3)) (hn : pc + 3 = n)
    (kk : G p l e R s m args below meth c nL D A H0 kc ks Q ws n lv st) : G p l e R s m args below meth c nL D A H0 kc ks Q ws pc lv (.ref a :: st) := by
  subst hn
  exact fun H locs ls hP hD hS hl => W.objInit C.1 C.2.1 C.2.2.2.1 (C.2.2.2.2.1 _ w1) (C.2.2.2.2.1 _ w2) (C.2.2.2.2.1 _ w3) rfl (by rw [C.2.2.1]; exact hl.1) rfl hdg hfr (by show 2 * 0 + _ + _ ≤ _; omega) (kk H locs ls hP hD hS hl)
/-- a callee that makes cells: the rest stays, its components come behind -/
theorem gq_grow {mc ms : Nat} {Wc : List va_W} {post : Option Value → List va_W → Prop} {st0 : List Value} {a0 : Array Value} (pl rl : List Nat) (Wr : List va_W) (n : Nat)
    (hrun : ∀ (H : Heap) (locs : List Loc) (ls : Array Slot), va_P D vwCl ws.flatten H → va_P D vwCl Wc.flatten H → va_D A ws.flatten → va_D (fun _ => True) Wc.flatten → va_S A H0 H locs → lv_has ls nL lv → va_Run p l e R s m args below meth c H locs kc ks mc ms (F0 m pc ls st0) st (gQc D Wc H.size post a0) (va_A Wc.flatten H.size))
    (hA : ∀ q, H0.size ≤ q → A q) (hs : pl.map (fun i => ws[i]?) = Wc.map some) (hnd : va_nd pl = true) (hr : rl.map (fun i => ws[i]?) = Wr.map some) (hnr : va_nd rl = true) (hdis : ∀ i ∈ rl, i ∉ pl) (hn : pc + 3 = n)
    (kk : ∀ (v : Option Value) (W1 : List va_W), post v W1 → G p l e R s m args below meth c nL D A H0 (kc + mc) (ks + ms) Q (Wr ++ W1) n lv (v.toList ++ st)) : G p l e R s m args below meth c nL D A H0 kc ks Q ws pc lv st0 := by
  subst hn
  intro H locs ls hP hD hS hl
  have hDc : va_D A Wc.flatten := sub_D hD hnd hs
  have hPc : va_P D vwCl Wc.flatten H := sub_P hP hs
  intro T hT X
  obtain ⟨v', st₀, t, T', L, h0, X', hL, e1, e2, ⟨⟨v2, W2, hv2, hpost, hP1, hD1⟩, hz, hk⟩, stp⟩ := hrun H locs ls hP hPc hD (hDc.weaken (fun _ _ _ _ => trivial)) hS hl T hT X
  cases hv2
  rw [h0] at hz hk
  have hF : ∀ q, va_A Wc.flatten H.size q → A q := fun q h => by
    rcases h with ⟨k, e, h⟩ | h
    · exact hDc.2 k (q, e) h
    · exact hA q (Nat.le_trans hS.1 h)
  have hPr : va_P D vwCl Wr.flatten H := sub_P hP hr
  have hDr : va_D A Wr.flatten := sub_D hD hnr hr
  have apart : ∀ (k : Nat) (q : Nat × va_E), Wr.flatten[k]? = some q → q.1 < H.size ∧ ¬ va_A Wc.flatten H.size q.1 := by
    intro k q hq
    have hl0 := (hPr k q hq).lt
    refine ⟨hl0, fun h => ?_⟩
    obtain ⟨i1, j1, w1, g1, g2, -⟩ := fl_mem Wr k q hq
    obtain ⟨i, g3, g4⟩ := sub_at hr g1
    rcases h with ⟨k2, e, h⟩ | h
    · obtain ⟨i2, j2, w2, g5, g6, -⟩ := fl_mem Wc k2 _ h
      obtain ⟨i', g7, g8⟩ := sub_at hs g5
      exact fl_apart hD (fun e => hdis i (List.mem_of_getElem? g3) (by rw [e]; exact List.mem_of_getElem? g7)) g4 g2 g8 g6 rfl
    · omega
  have r1 : va_P D vwCl (Wr ++ W2).flatten t.heap := by
    rw [List.flatten_append]
    exact va_P.app (fun k q hq => (hPr k q hq).kept (hk q.1 (apart k q hq).1 (apart k q hq).2)) hP1
  have r2 : va_D A (Wr ++ W2).flatten := by
    rw [List.flatten_append]
    exact va_D.app hDr (hD1.weaken (fun k q _ h => hF q.1 h)) (fun i j x y hx hy hxy => (apart i x hx).2 (by rw [hxy]; exact hD1.2 j y hy))
  obtain ⟨t2, a1, b1⟩ := kk _ W2 hpost t.heap (locs ++ L) ls r1 r2
    ⟨Nat.le_trans hS.1 hz, fun q h1 h2 => by rw [hk q (Nat.lt_of_lt_of_le h1 hS.1) (fun z => h2 (hF q z))]; exact hS.2.1 q h1 h2, fun q hq => by
      rcases List.mem_append.mp hq with h | h
      · exact hS.2.2 q h
      · exact hF _ (hL q h)⟩ hl T' e1 X'
  exact ⟨t2, stp t2 a1, b1⟩
theorem gq_callI (C : gC p s m args c cc nL own D cI cZ) {ix k mL fr lo mc ms b : Nat} {y : MethodName} {cc' : ByteArray} {As : List Value} {Wc : List va_W} {post : Option Value → List va_W → Prop} {st0 : List Value} (hA : ∀ q, H0.size ≤ q → A q) (M : Cond.methodLink own ix y ∈ wsL_law ∧ Cond.instanceMethod y ∈ wsL_law ∧ Cond.initialized y.cls ∈ wsL_law ∧ Cond.code y cc' mL none ∈ wsL_law) (hy : y.name = "<init>" ∧ y.cls ≠ "java/lang/invoke/MethodHandle" ∧ y.cls ≠ "java/lang/invoke/VarHandle" ∧ (parseMethodDescriptor y.desc).map (fun d => d.parameters.length) = some k) (hM : CT l D cI cZ y cc' mL none fr lo mc ms (.ref b :: As) Wc post) (hlen : As.length = k) (hR : fr + 1 ≤ R.frames ∧ 8 + (mL + 11) + lo ≤ R.locals) (hkR : kc + mc ≤ R.cells ∧ ks + ms ≤ R.slots) (hst : st0 = As.reverse ++ .ref b :: st) (hcat : (st.map fun v => v.category).sum ≤ 8) (hdg : decode cc pc = .ok (.invokespecial ix, 3)) (pl rl : List Nat) (Wr : List va_W) (n : Nat) (hs : pl.map (fun i => ws[i]?) = Wc.map some) (hnd : va_nd pl = true) (hr : rl.map (fun i => ws[i]?) = Wr.map some) (hnr : va_nd rl = true) (hdis : ∀ i ∈ rl, i ∉ pl) (hn : pc + 3 = n)
    (kk : ∀ (v : Option Value) (W1 : List va_W), post v W1 → G p l e R s m args below meth c nL D A H0 (kc + mc) (ks + ms) Q (Wr ++ W1) n lv (v.toList ++ st)) : G p l e R s m args below meth c nL D A H0 kc ks Q ws pc lv st0 := by
  subst hst
  refine gq_grow pl rl Wr n (a0 := (Value.ref b :: As).toArray) (fun H locs ls hP hPc hD hDc hS hl => ?_) hA hs hnd hr hnr hdis hn kk
  obtain ⟨m1, m2, m3, m4⟩ := M
  exact va_runI ⟨C.1, C.2.1, C.2.2.1, C.2.2.2.1, C.2.2.2.2.1⟩ (hM H.size) ⟨callB_of k C.2.2.2.2.1 (gGoodC m4) rfl rfl rfl (C.2.2.2.2.1 _ m3) (C.2.2.2.2.1 _ m1) hy.2 hR, hy.1, C.2.2.2.2.1 _ m2⟩ ⟨gPc_blind _ _ _ _ _ _, fun U hU hW => ⟨rfl, by rw [hU], by rw [hU]; exact hPc, va_K.moved hW.alike C.2.2.2.2.2.2, gNW.warm hW C.2.2.2.2.2.1, hDc⟩⟩ rfl hlen hl.1 rfl (lv_room hcat) hdg hkR
theorem gq_callIN (C : gC p s m args c cc nL own D cI cZ) {ix k mL fr lo mc ms b : Nat} {y : MethodName} {host : String} {cc' : ByteArray} {As : List Value} {Wc : List va_W} {post : Option Value → List va_W → Prop} {st0 : List Value} (hA : ∀ q, H0.size ≤ q → A q) (M : (own, ix, y, host) ∈ gNM ∧ Cond.instanceMethod y ∈ wsL_law ∧ Cond.initialized y.cls ∈ wsL_law ∧ Cond.code y cc' mL none ∈ wsL_law) (hy : y.name = "<init>" ∧ y.cls ≠ "java/lang/invoke/MethodHandle" ∧ y.cls ≠ "java/lang/invoke/VarHandle" ∧ (parseMethodDescriptor y.desc).map (fun d => d.parameters.length) = some k) (hM : CT l D cI cZ y cc' mL none fr lo mc ms (.ref b :: As) Wc post) (hlen : As.length = k) (hR : fr + 1 ≤ R.frames ∧ 8 + (mL + 11) + lo ≤ R.locals) (hkR : kc + mc ≤ R.cells ∧ ks + ms ≤ R.slots) (hst : st0 = As.reverse ++ .ref b :: st) (hcat : (st.map fun v => v.category).sum ≤ 8) (hdg : decode cc pc = .ok (.invokespecial ix, 3)) (pl rl : List Nat) (Wr : List va_W) (n : Nat) (hs : pl.map (fun i => ws[i]?) = Wc.map some) (hnd : va_nd pl = true) (hr : rl.map (fun i => ws[i]?) = Wr.map some) (hnr : va_nd rl = true) (hdis : ∀ i ∈ rl, i ∉ pl) (hn : pc + 3 = n)
    (kk : ∀ (v : Option Value) (W1 : List va_W), post v W1 → G p l e R s m args below meth c nL D A H0 (kc + mc) (ks + ms) Q (Wr ++ W1) n lv (v.toList ++ st)) : G p l e R s m args below meth c nL D A H0 kc ks Q ws pc lv st0 := by
  subst hst
  refine gq_grow pl rl Wr n (a0 := (Value.ref b :: As).toArray) (fun H locs ls hP hPc hD hDc hS hl => ?_) hA hs hnd hr hnr hdis hn kk
  obtain ⟨m1, m2, m3, m4⟩ := M
  exact va_runIN ⟨C.1, C.2.1, C.2.2.1, C.2.2.2.1, C.2.2.2.2.1⟩ (hM H.size) ⟨va_cnB k C.2.2.2.2.1 (gGoodC m4) rfl rfl rfl (C.2.2.2.2.2.1.2 _ m1) (C.2.2.2.2.1 _ m3) hy.2 hR, hy.1, C.2.2.2.2.1 _ m2⟩ ⟨gPc_blind _ _ _ _ _ _, fun U hU hW => ⟨rfl, by rw [hU], by rw [hU]; exact hPc, va_K.moved hW.alike C.2.2.2.2.2.2, gNW.warm hW C.2.2.2.2.2.1, hDc⟩⟩ rfl hlen hl.1 rfl (lv_room hcat) hdg hkR
theorem gq_aload_nN (C : gC p s m args c cc nL own D cI cZ) {k : Fin 4} (j n : Nat) (hdg : decode cc pc = .ok (.aload_n k, 1)) (hk : lv[j]? = some ((k : Nat), .null)) (hn : pc + 1 = n) (kk : G p l e R s m args below meth c nL D A H0 kc ks Q ws n lv (.null :: st)) : G p l e R s m args below meth c nL D A H0 kc ks Q ws pc lv st := by
  subst hn
  exact fun H locs ls hP hD hS hl => lv_aload_nN C.1 C.2.1 hdg rfl (lv_at hl j hk) (kk H locs ls hP hD hS hl)
def gA (l : List Nat) : Nat → Nat := fun k => l.getD k 0
/-- a chain of inns -/
def chW (cI : ClassId) (hh : Nat) : List (Nat → Nat) → List InnS → va_W
  | a :: as, t :: ts => iC cI a hh (as.head?.map (fun b => b 0)) t ++ chW cI hh as ts
  | _, _ => []
def nx (as : List (Nat → Nat)) : Option Nat := as.head?.map (fun b => b 0)
end GA
end
section
theorem oi_inst : Cond.instanceMethod objectInit ∈ wsL_law := wl_1 _ (List.mem_of_getElem? (i := 10) rfl)
theorem oi_code : Cond.code objectInit ⟨#[0xb1]⟩ 1 none ∈ wsL_law := wl_1 _ (List.mem_of_getElem? (i := 11) rfl)
set_option maxHeartbeats 4000000 in
set_option maxRecDepth 100000 in
theorem c_X2_init (l : Launch) (D : va_G) (cI cZ : ClassId) (h : Nat) : CT l D cI cZ yX2_init cX2_init 1 none 1 40 3 76 [.ref h] [[(h, .inr (2, [.int 0, .int 0, .int 0, .int 0, .null, .null, .null]))]] (fun v W => v = none ∧ ∃ a : Nat → Nat, a 0 = h ∧ W = [hC cI a (4, 0, 0, 0, fun _ => 0, fun _ => 0, fun _ => 0)]) := by
  refine CT.mkV (by decide) (Nat.le_of_ble_eq_true rfl) fun {p} {e} {R} {s} {m} {args} {below} {meth} {c} {A} {H0} {Q} C hA hR hnm hret => ?_
  show G p l e R s m args below meth c 1 D A H0 0 0 Q [[(h, .inr (2, [.int 0, .int 0, .int 0, .int 0, .null, .null, .null]))]] 0 [(0, .ref h)] []
  refine gq_aload_n C 0 1 dX2_init_0 rfl rfl ?_
  refine gq_objInit C 4 mw_X2_3 oi_inst oi_code (Nat.le_trans (Nat.le_of_ble_eq_true rfl) hR.1) (Nat.le_trans (Nat.le_of_ble_eq_true rfl) hR.2.1) dX2_init_1 rfl ?_
  refine gq_aload_n C 0 5 dX2_init_4 rfl rfl ?_
  refine gq_iconst C (4 : Int32) 6 dX2_init_5 (by decide) rfl ?_
  refine gq_put C fo_X2_0 fp_X2_0 rfl fw_X2_9 0 0 9 [[(h, .inr (2, [.int (4 : Int32), .int 0, .int 0, .int 0, .null, .null, .null]))]] rfl rfl rfl rfl (Nat.le_of_ble_eq_true rfl) rfl dX2_init_6 rfl ?_
  refine gq_aload_n C 0 10 dX2_init_9 rfl rfl ?_
  refine gq_bipush C (64 : Int32) 12 dX2_init_10 (by decide) rfl ?_
  refine gq_newa C hA 64 14 (wl_2 _ (List.mem_of_getElem? (i := 6) rfl)) (by decide) (by decide) (by decide) (Nat.le_trans (Nat.le_of_ble_eq_true rfl) hR.2.2.1) (Nat.le_trans (Nat.le_of_ble_eq_true rfl) hR.2.2.2) dX2_init_12 rfl (fun q12 => ?_)
  refine gq_putF C hnm fo_X2_4 fp_X2_4 rfl rfl fw_X2_15 0 0 17 [[(h, .inr (2, [.int (4 : Int32), .int 0, .int 0, .int 0, .ref q12, .null, .null]))], [(q12, .inl (cI, 64, .inl (fun _ => 0)))]] rfl rfl rfl rfl (Nat.le_of_ble_eq_true rfl) rfl dX2_init_14 rfl ?_
  refine gq_aload_n C 0 18 dX2_init_17 rfl rfl ?_
  refine gq_bipush C (6 : Int32) 20 dX2_init_18 (by decide) rfl ?_
  refine gq_newa C hA 6 22 (wl_2 _ (List.mem_of_getElem? (i := 6) rfl)) (by decide) (by decide) (by decide) (Nat.le_trans (Nat.le_of_ble_eq_true rfl) hR.2.2.1) (Nat.le_trans (Nat.le_of_ble_eq_true rfl) hR.2.2.2) dX2_init_20 rfl (fun q20 => ?_)
  refine gq_putF C hnm fo_X2_5 fp_X2_5 rfl rfl fw_X2_19 0 0 25 [[(h, .inr (2, [.int (4 : Int32), .int 0, .int 0, .int 0, .ref q12, .ref q20, .null]))], [(q12, .inl (cI, 64, .inl (fun _ => 0)))], [(q20, .inl (cI, 6, .inl (fun _ => 0)))]] rfl rfl rfl rfl (Nat.le_of_ble_eq_true rfl) rfl dX2_init_22 rfl ?_
  refine gq_aload_n C 0 26 dX2_init_25 rfl rfl ?_
  refine gq_bipush C (6 : Int32) 28 dX2_init_26 (by decide) rfl ?_
  refine gq_newa C hA 6 30 (wl_2 _ (List.mem_of_getElem? (i := 6) rfl)) (by decide) (by decide) (by decide) (Nat.le_trans (Nat.le_of_ble_eq_true rfl) hR.2.2.1) (Nat.le_trans (Nat.le_of_ble_eq_true rfl) hR.2.2.2) dX2_init_28 rfl (fun q28 => ?_)
  refine gq_putF C hnm fo_X2_6 fp_X2_6 rfl rfl fw_X2_22 0 0 33 [[(h, .inr (2, [.int (4 : Int32), .int 0, .int 0, .int 0, .ref q12, .ref q20, .ref q28]))], [(q12, .inl (cI, 64, .inl (fun _ => 0)))], [(q20, .inl (cI, 6, .inl (fun _ => 0)))], [(q28, .inl (cI, 6, .inl (fun _ => 0)))]] rfl rfl rfl rfl (Nat.le_of_ble_eq_true rfl) rfl dX2_init_30 rfl ?_
  refine gq_flat (ws' := [hC cI (gA [h, q12, q20, q28]) (4, 0, 0, 0, fun _ => 0, fun _ => 0, fun _ => 0)]) rfl ?_
  exact hret dX2_init_33 ⟨rfl, gA [h, q12, q20, q28], rfl, rfl⟩

set_option maxHeartbeats 4000000 in
set_option maxRecDepth 100000 in
theorem c_X0_init (l : Launch) (D : va_G) (cI cZ : ClassId) (h : Nat) : CT l D cI cZ yX0_init cX0_init 1 none 1 40 1 48 [.ref h] [[(h, .inr (0, [.int 0, .null]))]] (fun v W => v = none ∧ ∃ a : Nat → Nat, a 0 = h ∧ W = [dC cI a (0, fun _ => 0)]) := by
  refine CT.mkV (by decide) (Nat.le_of_ble_eq_true rfl) fun {p} {e} {R} {s} {m} {args} {below} {meth} {c} {A} {H0} {Q} C hA hR hnm hret => ?_
  show G p l e R s m args below meth c 1 D A H0 0 0 Q [[(h, .inr (0, [.int 0, .null]))]] 0 [(0, .ref h)] []
  refine gq_aload_n C 0 1 dX0_init_0 rfl rfl ?_
  refine gq_objInit C 4 mw_X0_3 oi_inst oi_code (Nat.le_trans (Nat.le_of_ble_eq_true rfl) hR.1) (Nat.le_trans (Nat.le_of_ble_eq_true rfl) hR.2.1) dX0_init_1 rfl ?_
  refine gq_aload_n C 0 5 dX0_init_4 rfl rfl ?_
  refine gq_bipush C (48 : Int32) 7 dX0_init_5 (by decide) rfl ?_
  refine gq_newa C hA 48 9 (wl_2 _ (List.mem_of_getElem? (i := 6) rfl)) (by decide) (by decide) (by decide) (Nat.le_trans (Nat.le_of_ble_eq_true rfl) hR.2.2.1) (Nat.le_trans (Nat.le_of_ble_eq_true rfl) hR.2.2.2) dX0_init_7 rfl (fun q7 => ?_)
  refine gq_putF C hnm fo_X0_1 fp_X0_1 rfl rfl fw_X0_9 0 0 12 [[(h, .inr (0, [.int 0, .ref q7]))], [(q7, .inl (cI, 48, .inl (fun _ => 0)))]] rfl rfl rfl rfl (Nat.le_of_ble_eq_true rfl) rfl dX0_init_9 rfl ?_
  refine gq_flat (ws' := [dC cI (gA [h, q7]) (0, fun _ => 0)]) rfl ?_
  exact hret dX0_init_12 ⟨rfl, gA [h, q7], rfl, rfl⟩

set_option maxHeartbeats 4000000 in
set_option maxRecDepth 100000 in
theorem c_X4_init (l : Launch) (D : va_G) (cI cZ : ClassId) (h : Nat) : CT l D cI cZ yX4_init cX4_init 1 none 1 40 2 12 [.ref h] [[(h, .inr (4, [.int 0, .int 0, .null, .null]))]] (fun v W => v = none ∧ ∃ a : Nat → Nat, a 0 = h ∧ W = [pC cI a (0, 0, fun _ => 0, fun _ => 0)]) := by
  refine CT.mkV (by decide) (Nat.le_of_ble_eq_true rfl) fun {p} {e} {R} {s} {m} {args} {below} {meth} {c} {A} {H0} {Q} C hA hR hnm hret => ?_
  show G p l e R s m args below meth c 1 D A H0 0 0 Q [[(h, .inr (4, [.int 0, .int 0, .null, .null]))]] 0 [(0, .ref h)] []
  refine gq_aload_n C 0 1 dX4_init_0 rfl rfl ?_
  refine gq_objInit C 4 mw_X4_3 oi_inst oi_code (Nat.le_trans (Nat.le_of_ble_eq_true rfl) hR.1) (Nat.le_trans (Nat.le_of_ble_eq_true rfl) hR.2.1) dX4_init_1 rfl ?_
  refine gq_aload_n C 0 5 dX4_init_4 rfl rfl ?_
  refine gq_bipush C (6 : Int32) 7 dX4_init_5 (by decide) rfl ?_
  refine gq_newa C hA 6 9 (wl_2 _ (List.mem_of_getElem? (i := 6) rfl)) (by decide) (by decide) (by decide) (Nat.le_trans (Nat.le_of_ble_eq_true rfl) hR.2.2.1) (Nat.le_trans (Nat.le_of_ble_eq_true rfl) hR.2.2.2) dX4_init_7 rfl (fun q7 => ?_)
  refine gq_putF C hnm fo_X4_2 fp_X4_2 rfl rfl fw_X4_9 0 0 12 [[(h, .inr (4, [.int 0, .int 0, .ref q7, .null]))], [(q7, .inl (cI, 6, .inl (fun _ => 0)))]] rfl rfl rfl rfl (Nat.le_of_ble_eq_true rfl) rfl dX4_init_9 rfl ?_
  refine gq_aload_n C 0 13 dX4_init_12 rfl rfl ?_
  refine gq_bipush C (6 : Int32) 15 dX4_init_13 (by decide) rfl ?_
  refine gq_newa C hA 6 17 (wl_2 _ (List.mem_of_getElem? (i := 6) rfl)) (by decide) (by decide) (by decide) (Nat.le_trans (Nat.le_of_ble_eq_true rfl) hR.2.2.1) (Nat.le_trans (Nat.le_of_ble_eq_true rfl) hR.2.2.2) dX4_init_15 rfl (fun q15 => ?_)
  refine gq_putF C hnm fo_X4_3 fp_X4_3 rfl rfl fw_X4_15 0 0 20 [[(h, .inr (4, [.int 0, .int 0, .ref q7, .ref q15]))], [(q7, .inl (cI, 6, .inl (fun _ => 0)))], [(q15, .inl (cI, 6, .inl (fun _ => 0)))]] rfl rfl rfl rfl (Nat.le_of_ble_eq_true rfl) rfl dX4_init_17 rfl ?_
  refine gq_flat (ws' := [pC cI (gA [h, q7, q15]) (0, 0, fun _ => 0, fun _ => 0)]) rfl ?_
  exact hret dX4_init_20 ⟨rfl, gA [h, q7, q15], rfl, rfl⟩

set_option maxHeartbeats 4000000 in
set_option maxRecDepth 100000 in
theorem c_X1_init (l : Launch) (D : va_G) (cI cZ : ClassId) (h : Nat) : CT l D cI cZ yX1_init cX1_init 1 none 1 40 3 9 [.ref h] [[(h, .inr (1, [.int 0, .int 0, .null, .null, .null]))]] (fun v W => v = none ∧ ∃ a : Nat → Nat, a 0 = h ∧ W = [qC cI a (0, 0, fun _ => 0, fun _ => 0, fun _ => 0)]) := by
  refine CT.mkV (by decide) (Nat.le_of_ble_eq_true rfl) fun {p} {e} {R} {s} {m} {args} {below} {meth} {c} {A} {H0} {Q} C hA hR hnm hret => ?_
  show G p l e R s m args below meth c 1 D A H0 0 0 Q [[(h, .inr (1, [.int 0, .int 0, .null, .null, .null]))]] 0 [(0, .ref h)] []
  refine gq_aload_n C 0 1 dX1_init_0 rfl rfl ?_
  refine gq_objInit C 4 mw_X1_3 oi_inst oi_code (Nat.le_trans (Nat.le_of_ble_eq_true rfl) hR.1) (Nat.le_trans (Nat.le_of_ble_eq_true rfl) hR.2.1) dX1_init_1 rfl ?_
  refine gq_aload_n C 0 5 dX1_init_4 rfl rfl ?_
  refine gq_iconst C (3 : Int32) 6 dX1_init_5 (by decide) rfl ?_
  refine gq_newa C hA 3 8 (wl_2 _ (List.mem_of_getElem? (i := 6) rfl)) (by decide) (by decide) (by decide) (Nat.le_trans (Nat.le_of_ble_eq_true rfl) hR.2.2.1) (Nat.le_trans (Nat.le_of_ble_eq_true rfl) hR.2.2.2) dX1_init_6 rfl (fun q6 => ?_)
  refine gq_putF C hnm fo_X1_2 fp_X1_2 rfl rfl fw_X1_9 0 0 11 [[(h, .inr (1, [.int 0, .int 0, .ref q6, .null, .null]))], [(q6, .inl (cI, 3, .inl (fun _ => 0)))]] rfl rfl rfl rfl (Nat.le_of_ble_eq_true rfl) rfl dX1_init_8 rfl ?_
  refine gq_aload_n C 0 12 dX1_init_11 rfl rfl ?_
  refine gq_iconst C (3 : Int32) 13 dX1_init_12 (by decide) rfl ?_
  refine gq_newa C hA 3 15 (wl_2 _ (List.mem_of_getElem? (i := 6) rfl)) (by decide) (by decide) (by decide) (Nat.le_trans (Nat.le_of_ble_eq_true rfl) hR.2.2.1) (Nat.le_trans (Nat.le_of_ble_eq_true rfl) hR.2.2.2) dX1_init_13 rfl (fun q13 => ?_)
  refine gq_putF C hnm fo_X1_3 fp_X1_3 rfl rfl fw_X1_15 0 0 18 [[(h, .inr (1, [.int 0, .int 0, .ref q6, .ref q13, .null]))], [(q6, .inl (cI, 3, .inl (fun _ => 0)))], [(q13, .inl (cI, 3, .inl (fun _ => 0)))]] rfl rfl rfl rfl (Nat.le_of_ble_eq_true rfl) rfl dX1_init_15 rfl ?_
  refine gq_aload_n C 0 19 dX1_init_18 rfl rfl ?_
  refine gq_iconst C (3 : Int32) 20 dX1_init_19 (by decide) rfl ?_
  refine gq_newa C hA 3 22 (wl_2 _ (List.mem_of_getElem? (i := 6) rfl)) (by decide) (by decide) (by decide) (Nat.le_trans (Nat.le_of_ble_eq_true rfl) hR.2.2.1) (Nat.le_trans (Nat.le_of_ble_eq_true rfl) hR.2.2.2) dX1_init_20 rfl (fun q20 => ?_)
  refine gq_putF C hnm fo_X1_4 fp_X1_4 rfl rfl fw_X1_18 0 0 25 [[(h, .inr (1, [.int 0, .int 0, .ref q6, .ref q13, .ref q20]))], [(q6, .inl (cI, 3, .inl (fun _ => 0)))], [(q13, .inl (cI, 3, .inl (fun _ => 0)))], [(q20, .inl (cI, 3, .inl (fun _ => 0)))]] rfl rfl rfl rfl (Nat.le_of_ble_eq_true rfl) rfl dX1_init_22 rfl ?_
  refine gq_flat (ws' := [qC cI (gA [h, q6, q13, q20]) (0, 0, fun _ => 0, fun _ => 0, fun _ => 0)]) rfl ?_
  exact hret dX1_init_25 ⟨rfl, gA [h, q6, q13, q20], rfl, rfl⟩

set_option maxHeartbeats 4000000 in
set_option maxRecDepth 100000 in
theorem c_X3_init (l : Launch) (D : va_G) (cI cZ : ClassId) (h : Nat) (hh : Nat) (dp : Option Nat) : CT l D cI cZ yX3_init cX3_init 3 none 1 40 7 64 [.ref h, .ref hh, va_rf dp] [[(h, .inr (3, [.null, .null, .int 0, .int 0, .null, .null, .int 0, .null, .int 0, .null, .null, .null, .null, .int 0, .int 0, .int 0]))]] (fun v W => v = none ∧ ∃ a : Nat → Nat, a 0 = h ∧ W = [iC cI a hh dp (0, 0, fun _ => 0, fun _ => 0, 0, fun _ => 0, 0, fun _ => 0, fun _ => 0, fun _ => 0, fun _ => 0, 0, 0, 0)]) := by
  cases dp with
  | none =>
    refine CT.mkV (by decide) (Nat.le_of_ble_eq_true rfl) fun {p} {e} {R} {s} {m} {args} {below} {meth} {c} {A} {H0} {Q} C hA hR hnm hret => ?_
    show G p l e R s m args below meth c 3 D A H0 0 0 Q [[(h, .inr (3, [.null, .null, .int 0, .int 0, .null, .null, .int 0, .null, .int 0, .null, .null, .null, .null, .int 0, .int 0, .int 0]))]] 0 [(0, .ref h), (1, .ref hh), (2, .null)] []
    refine gq_aload_n C 0 1 dX3_init_0 rfl rfl ?_
    refine gq_objInit C 4 mw_X3_3 oi_inst oi_code (Nat.le_trans (Nat.le_of_ble_eq_true rfl) hR.1) (Nat.le_trans (Nat.le_of_ble_eq_true rfl) hR.2.1) dX3_init_1 rfl ?_
    refine gq_aload_n C 0 5 dX3_init_4 rfl rfl ?_
    refine gq_bipush C (8 : Int32) 7 dX3_init_5 (by decide) rfl ?_
    refine gq_newa C hA 8 9 (wl_2 _ (List.mem_of_getElem? (i := 6) rfl)) (by decide) (by decide) (by decide) (Nat.le_trans (Nat.le_of_ble_eq_true rfl) hR.2.2.1) (Nat.le_trans (Nat.le_of_ble_eq_true rfl) hR.2.2.2) dX3_init_7 rfl (fun q7 => ?_)
    refine gq_putF C hnm fo_X3_4 fp_X3_4 rfl rfl fw_X3_9 0 0 12 [[(h, .inr (3, [.null, .null, .int 0, .int 0, .ref q7, .null, .int 0, .null, .int 0, .null, .null, .null, .null, .int 0, .int 0, .int 0]))], [(q7, .inl (cI, 8, .inl (fun _ => 0)))]] rfl rfl rfl rfl (Nat.le_of_ble_eq_true rfl) rfl dX3_init_9 rfl ?_
    refine gq_aload_n C 0 13 dX3_init_12 rfl rfl ?_
    refine gq_bipush C (8 : Int32) 15 dX3_init_13 (by decide) rfl ?_
    refine gq_newa C hA 8 17 (wl_2 _ (List.mem_of_getElem? (i := 6) rfl)) (by decide) (by decide) (by decide) (Nat.le_trans (Nat.le_of_ble_eq_true rfl) hR.2.2.1) (Nat.le_trans (Nat.le_of_ble_eq_true rfl) hR.2.2.2) dX3_init_15 rfl (fun q15 => ?_)
    refine gq_putF C hnm fo_X3_5 fp_X3_5 rfl rfl fw_X3_15 0 0 20 [[(h, .inr (3, [.null, .null, .int 0, .int 0, .ref q7, .ref q15, .int 0, .null, .int 0, .null, .null, .null, .null, .int 0, .int 0, .int 0]))], [(q7, .inl (cI, 8, .inl (fun _ => 0)))], [(q15, .inl (cI, 8, .inl (fun _ => 0)))]] rfl rfl rfl rfl (Nat.le_of_ble_eq_true rfl) rfl dX3_init_17 rfl ?_
    refine gq_aload_n C 0 21 dX3_init_20 rfl rfl ?_
    refine gq_bipush C (16 : Int32) 23 dX3_init_21 (by decide) rfl ?_
    refine gq_newa C hA 16 25 (wl_2 _ (List.mem_of_getElem? (i := 6) rfl)) (by decide) (by decide) (by decide) (Nat.le_trans (Nat.le_of_ble_eq_true rfl) hR.2.2.1) (Nat.le_trans (Nat.le_of_ble_eq_true rfl) hR.2.2.2) dX3_init_23 rfl (fun q23 => ?_)
    refine gq_putF C hnm fo_X3_7 fp_X3_7 rfl rfl fw_X3_18 0 0 28 [[(h, .inr (3, [.null, .null, .int 0, .int 0, .ref q7, .ref q15, .int 0, .ref q23, .int 0, .null, .null, .null, .null, .int 0, .int 0, .int 0]))], [(q7, .inl (cI, 8, .inl (fun _ => 0)))], [(q15, .inl (cI, 8, .inl (fun _ => 0)))], [(q23, .inl (cI, 16, .inl (fun _ => 0)))]] rfl rfl rfl rfl (Nat.le_of_ble_eq_true rfl) rfl dX3_init_25 rfl ?_
    refine gq_aload_n C 0 29 dX3_init_28 rfl rfl ?_
    refine gq_bipush C (8 : Int32) 31 dX3_init_29 (by decide) rfl ?_
    refine gq_newa C hA 8 33 (wl_2 _ (List.mem_of_getElem? (i := 6) rfl)) (by decide) (by decide) (by decide) (Nat.le_trans (Nat.le_of_ble_eq_true rfl) hR.2.2.1) (Nat.le_trans (Nat.le_of_ble_eq_true rfl) hR.2.2.2) dX3_init_31 rfl (fun q31 => ?_)
    refine gq_putF C hnm fo_X3_9 fp_X3_9 rfl rfl fw_X3_21 0 0 36 [[(h, .inr (3, [.null, .null, .int 0, .int 0, .ref q7, .ref q15, .int 0, .ref q23, .int 0, .ref q31, .null, .null, .null, .int 0, .int 0, .int 0]))], [(q7, .inl (cI, 8, .inl (fun _ => 0)))], [(q15, .inl (cI, 8, .inl (fun _ => 0)))], [(q23, .inl (cI, 16, .inl (fun _ => 0)))], [(q31, .inl (cI, 8, .inl (fun _ => 0)))]] rfl rfl rfl rfl (Nat.le_of_ble_eq_true rfl) rfl dX3_init_33 rfl ?_
    refine gq_aload_n C 0 37 dX3_init_36 rfl rfl ?_
    refine gq_bipush C (8 : Int32) 39 dX3_init_37 (by decide) rfl ?_
    refine gq_newa C hA 8 41 (wl_2 _ (List.mem_of_getElem? (i := 6) rfl)) (by decide) (by decide) (by decide) (Nat.le_trans (Nat.le_of_ble_eq_true rfl) hR.2.2.1) (Nat.le_trans (Nat.le_of_ble_eq_true rfl) hR.2.2.2) dX3_init_39 rfl (fun q39 => ?_)
    refine gq_putF C hnm fo_X3_10 fp_X3_10 rfl rfl fw_X3_24 0 0 44 [[(h, .inr (3, [.null, .null, .int 0, .int 0, .ref q7, .ref q15, .int 0, .ref q23, .int 0, .ref q31, .ref q39, .null, .null, .int 0, .int 0, .int 0]))], [(q7, .inl (cI, 8, .inl (fun _ => 0)))], [(q15, .inl (cI, 8, .inl (fun _ => 0)))], [(q23, .inl (cI, 16, .inl (fun _ => 0)))], [(q31, .inl (cI, 8, .inl (fun _ => 0)))], [(q39, .inl (cI, 8, .inl (fun _ => 0)))]] rfl rfl rfl rfl (Nat.le_of_ble_eq_true rfl) rfl dX3_init_41 rfl ?_
    refine gq_aload_n C 0 45 dX3_init_44 rfl rfl ?_
    refine gq_bipush C (8 : Int32) 47 dX3_init_45 (by decide) rfl ?_
    refine gq_newa C hA 8 49 (wl_2 _ (List.mem_of_getElem? (i := 6) rfl)) (by decide) (by decide) (by decide) (Nat.le_trans (Nat.le_of_ble_eq_true rfl) hR.2.2.1) (Nat.le_trans (Nat.le_of_ble_eq_true rfl) hR.2.2.2) dX3_init_47 rfl (fun q47 => ?_)
    refine gq_putF C hnm fo_X3_11 fp_X3_11 rfl rfl fw_X3_27 0 0 52 [[(h, .inr (3, [.null, .null, .int 0, .int 0, .ref q7, .ref q15, .int 0, .ref q23, .int 0, .ref q31, .ref q39, .ref q47, .null, .int 0, .int 0, .int 0]))], [(q7, .inl (cI, 8, .inl (fun _ => 0)))], [(q15, .inl (cI, 8, .inl (fun _ => 0)))], [(q23, .inl (cI, 16, .inl (fun _ => 0)))], [(q31, .inl (cI, 8, .inl (fun _ => 0)))], [(q39, .inl (cI, 8, .inl (fun _ => 0)))], [(q47, .inl (cI, 8, .inl (fun _ => 0)))]] rfl rfl rfl rfl (Nat.le_of_ble_eq_true rfl) rfl dX3_init_49 rfl ?_
    refine gq_aload_n C 0 53 dX3_init_52 rfl rfl ?_
    refine gq_bipush C (8 : Int32) 55 dX3_init_53 (by decide) rfl ?_
    refine gq_newa C hA 8 57 (wl_2 _ (List.mem_of_getElem? (i := 6) rfl)) (by decide) (by decide) (by decide) (Nat.le_trans (Nat.le_of_ble_eq_true rfl) hR.2.2.1) (Nat.le_trans (Nat.le_of_ble_eq_true rfl) hR.2.2.2) dX3_init_55 rfl (fun q55 => ?_)
    refine gq_putF C hnm fo_X3_12 fp_X3_12 rfl rfl fw_X3_30 0 0 60 [[(h, .inr (3, [.null, .null, .int 0, .int 0, .ref q7, .ref q15, .int 0, .ref q23, .int 0, .ref q31, .ref q39, .ref q47, .ref q55, .int 0, .int 0, .int 0]))], [(q7, .inl (cI, 8, .inl (fun _ => 0)))], [(q15, .inl (cI, 8, .inl (fun _ => 0)))], [(q23, .inl (cI, 16, .inl (fun _ => 0)))], [(q31, .inl (cI, 8, .inl (fun _ => 0)))], [(q39, .inl (cI, 8, .inl (fun _ => 0)))], [(q47, .inl (cI, 8, .inl (fun _ => 0)))], [(q55, .inl (cI, 8, .inl (fun _ => 0)))]] rfl rfl rfl rfl (Nat.le_of_ble_eq_true rfl) rfl dX3_init_57 rfl ?_
    refine gq_aload_n C 0 61 dX3_init_60 rfl rfl ?_
    refine gq_aload_n C 1 62 dX3_init_61 rfl rfl ?_
    refine gq_putF C hnm fo_X3_0 fp_X3_0 rfl rfl fw_X3_33 0 0 65 [[(h, .inr (3, [.ref hh, .null, .int 0, .int 0, .ref q7, .ref q15, .int 0, .ref q23, .int 0, .ref q31, .ref q39, .ref q47, .ref q55, .int 0, .int 0, .int 0]))], [(q7, .inl (cI, 8, .inl (fun _ => 0)))], [(q15, .inl (cI, 8, .inl (fun _ => 0)))], [(q23, .inl (cI, 16, .inl (fun _ => 0)))], [(q31, .inl (cI, 8, .inl (fun _ => 0)))], [(q39, .inl (cI, 8, .inl (fun _ => 0)))], [(q47, .inl (cI, 8, .inl (fun _ => 0)))], [(q55, .inl (cI, 8, .inl (fun _ => 0)))]] rfl rfl rfl rfl (Nat.le_of_ble_eq_true rfl) rfl dX3_init_62 rfl ?_
    refine gq_aload_n C 0 66 dX3_init_65 rfl rfl ?_
    refine gq_aload_nN C 2 67 dX3_init_66 rfl rfl ?_
    refine gq_putF C hnm fo_X3_1 fp_X3_1 rfl rfl fw_X3_37 0 0 70 [[(h, .inr (3, [.ref hh, .null, .int 0, .int 0, .ref q7, .ref q15, .int 0, .ref q23, .int 0, .ref q31, .ref q39, .ref q47, .ref q55, .int 0, .int 0, .int 0]))], [(q7, .inl (cI, 8, .inl (fun _ => 0)))], [(q15, .inl (cI, 8, .inl (fun _ => 0)))], [(q23, .inl (cI, 16, .inl (fun _ => 0)))], [(q31, .inl (cI, 8, .inl (fun _ => 0)))], [(q39, .inl (cI, 8, .inl (fun _ => 0)))], [(q47, .inl (cI, 8, .inl (fun _ => 0)))], [(q55, .inl (cI, 8, .inl (fun _ => 0)))]] rfl rfl rfl rfl (Nat.le_of_ble_eq_true rfl) rfl dX3_init_67 rfl ?_
    refine gq_flat (ws' := [iC cI (gA [h, q7, q15, q23, q31, q39, q47, q55]) hh none (0, 0, fun _ => 0, fun _ => 0, 0, fun _ => 0, 0, fun _ => 0, fun _ => 0, fun _ => 0, fun _ => 0, 0, 0, 0)]) rfl ?_
    exact hret dX3_init_70 ⟨rfl, gA [h, q7, q15, q23, q31, q39, q47, q55], rfl, rfl⟩
  | some dd =>
    refine CT.mkV (by decide) (Nat.le_of_ble_eq_true rfl) fun {p} {e} {R} {s} {m} {args} {below} {meth} {c} {A} {H0} {Q} C hA hR hnm hret => ?_
    show G p l e R s m args below meth c 3 D A H0 0 0 Q [[(h, .inr (3, [.null, .null, .int 0, .int 0, .null, .null, .int 0, .null, .int 0, .null, .null, .null, .null, .int 0, .int 0, .int 0]))]] 0 [(0, .ref h), (1, .ref hh), (2, .ref dd)] []
    refine gq_aload_n C 0 1 dX3_init_0 rfl rfl ?_
    refine gq_objInit C 4 mw_X3_3 oi_inst oi_code (Nat.le_trans (Nat.le_of_ble_eq_true rfl) hR.1) (Nat.le_trans (Nat.le_of_ble_eq_true rfl) hR.2.1) dX3_init_1 rfl ?_
    refine gq_aload_n C 0 5 dX3_init_4 rfl rfl ?_
    refine gq_bipush C (8 : Int32) 7 dX3_init_5 (by decide) rfl ?_
    refine gq_newa C hA 8 9 (wl_2 _ (List.mem_of_getElem? (i := 6) rfl)) (by decide) (by decide) (by decide) (Nat.le_trans (Nat.le_of_ble_eq_true rfl) hR.2.2.1) (Nat.le_trans (Nat.le_of_ble_eq_true rfl) hR.2.2.2) dX3_init_7 rfl (fun q7 => ?_)
    refine gq_putF C hnm fo_X3_4 fp_X3_4 rfl rfl fw_X3_9 0 0 12 [[(h, .inr (3, [.null, .null, .int 0, .int 0, .ref q7, .null, .int 0, .null, .int 0, .null, .null, .null, .null, .int 0, .int 0, .int 0]))], [(q7, .inl (cI, 8, .inl (fun _ => 0)))]] rfl rfl rfl rfl (Nat.le_of_ble_eq_true rfl) rfl dX3_init_9 rfl ?_
    refine gq_aload_n C 0 13 dX3_init_12 rfl rfl ?_
    refine gq_bipush C (8 : Int32) 15 dX3_init_13 (by decide) rfl ?_
    refine gq_newa C hA 8 17 (wl_2 _ (List.mem_of_getElem? (i := 6) rfl)) (by decide) (by decide) (by decide) (Nat.le_trans (Nat.le_of_ble_eq_true rfl) hR.2.2.1) (Nat.le_trans (Nat.le_of_ble_eq_true rfl) hR.2.2.2) dX3_init_15 rfl (fun q15 => ?_)
    refine gq_putF C hnm fo_X3_5 fp_X3_5 rfl rfl fw_X3_15 0 0 20 [[(h, .inr (3, [.null, .null, .int 0, .int 0, .ref q7, .ref q15, .int 0, .null, .int 0, .null, .null, .null, .null, .int 0, .int 0, .int 0]))], [(q7, .inl (cI, 8, .inl (fun _ => 0)))], [(q15, .inl (cI, 8, .inl (fun _ => 0)))]] rfl rfl rfl rfl (Nat.le_of_ble_eq_true rfl) rfl dX3_init_17 rfl ?_
    refine gq_aload_n C 0 21 dX3_init_20 rfl rfl ?_
    refine gq_bipush C (16 : Int32) 23 dX3_init_21 (by decide) rfl ?_
    refine gq_newa C hA 16 25 (wl_2 _ (List.mem_of_getElem? (i := 6) rfl)) (by decide) (by decide) (by decide) (Nat.le_trans (Nat.le_of_ble_eq_true rfl) hR.2.2.1) (Nat.le_trans (Nat.le_of_ble_eq_true rfl) hR.2.2.2) dX3_init_23 rfl (fun q23 => ?_)
    refine gq_putF C hnm fo_X3_7 fp_X3_7 rfl rfl fw_X3_18 0 0 28 [[(h, .inr (3, [.null, .null, .int 0, .int 0, .ref q7, .ref q15, .int 0, .ref q23, .int 0, .null, .null, .null, .null, .int 0, .int 0, .int 0]))], [(q7, .inl (cI, 8, .inl (fun _ => 0)))], [(q15, .inl (cI, 8, .inl (fun _ => 0)))], [(q23, .inl (cI, 16, .inl (fun _ => 0)))]] rfl rfl rfl rfl (Nat.le_of_ble_eq_true rfl) rfl dX3_init_25 rfl ?_
    refine gq_aload_n C 0 29 dX3_init_28 rfl rfl ?_
    refine gq_bipush C (8 : Int32) 31 dX3_init_29 (by decide) rfl ?_
    refine gq_newa C hA 8 33 (wl_2 _ (List.mem_of_getElem? (i := 6) rfl)) (by decide) (by decide) (by decide) (Nat.le_trans (Nat.le_of_ble_eq_true rfl) hR.2.2.1) (Nat.le_trans (Nat.le_of_ble_eq_true rfl) hR.2.2.2) dX3_init_31 rfl (fun q31 => ?_)
    refine gq_putF C hnm fo_X3_9 fp_X3_9 rfl rfl fw_X3_21 0 0 36 [[(h, .inr (3, [.null, .null, .int 0, .int 0, .ref q7, .ref q15, .int 0, .ref q23, .int 0, .ref q31, .null, .null, .null, .int 0, .int 0, .int 0]))], [(q7, .inl (cI, 8, .inl (fun _ => 0)))], [(q15, .inl (cI, 8, .inl (fun _ => 0)))], [(q23, .inl (cI, 16, .inl (fun _ => 0)))], [(q31, .inl (cI, 8, .inl (fun _ => 0)))]] rfl rfl rfl rfl (Nat.le_of_ble_eq_true rfl) rfl dX3_init_33 rfl ?_
    refine gq_aload_n C 0 37 dX3_init_36 rfl rfl ?_
    refine gq_bipush C (8 : Int32) 39 dX3_init_37 (by decide) rfl ?_
    refine gq_newa C hA 8 41 (wl_2 _ (List.mem_of_getElem? (i := 6) rfl)) (by decide) (by decide) (by decide) (Nat.le_trans (Nat.le_of_ble_eq_true rfl) hR.2.2.1) (Nat.le_trans (Nat.le_of_ble_eq_true rfl) hR.2.2.2) dX3_init_39 rfl (fun q39 => ?_)
    refine gq_putF C hnm fo_X3_10 fp_X3_10 rfl rfl fw_X3_24 0 0 44 [[(h, .inr (3, [.null, .null, .int 0, .int 0, .ref q7, .ref q15, .int 0, .ref q23, .int 0, .ref q31, .ref q39, .null, .null, .int 0, .int 0, .int 0]))], [(q7, .inl (cI, 8, .inl (fun _ => 0)))], [(q15, .inl (cI, 8, .inl (fun _ => 0)))], [(q23, .inl (cI, 16, .inl (fun _ => 0)))], [(q31, .inl (cI, 8, .inl (fun _ => 0)))], [(q39, .inl (cI, 8, .inl (fun _ => 0)))]] rfl rfl rfl rfl (Nat.le_of_ble_eq_true rfl) rfl dX3_init_41 rfl ?_
    refine gq_aload_n C 0 45 dX3_init_44 rfl rfl ?_
    refine gq_bipush C (8 : Int32) 47 dX3_init_45 (by decide) rfl ?_
    refine gq_newa C hA 8 49 (wl_2 _ (List.mem_of_getElem? (i := 6) rfl)) (by decide) (by decide) (by decide) (Nat.le_trans (Nat.le_of_ble_eq_true rfl) hR.2.2.1) (Nat.le_trans (Nat.le_of_ble_eq_true rfl) hR.2.2.2) dX3_init_47 rfl (fun q47 => ?_)
    refine gq_putF C hnm fo_X3_11 fp_X3_11 rfl rfl fw_X3_27 0 0 52 [[(h, .inr (3, [.null, .null, .int 0, .int 0, .ref q7, .ref q15, .int 0, .ref q23, .int 0, .ref q31, .ref q39, .ref q47, .null, .int 0, .int 0, .int 0]))], [(q7, .inl (cI, 8, .inl (fun _ => 0)))], [(q15, .inl (cI, 8, .inl (fun _ => 0)))], [(q23, .inl (cI, 16, .inl (fun _ => 0)))], [(q31, .inl (cI, 8, .inl (fun _ => 0)))], [(q39, .inl (cI, 8, .inl (fun _ => 0)))], [(q47, .inl (cI, 8, .inl (fun _ => 0)))]] rfl rfl rfl rfl (Nat.le_of_ble_eq_true rfl) rfl dX3_init_49 rfl ?_
    refine gq_aload_n C 0 53 dX3_init_52 rfl rfl ?_
    refine gq_bipush C (8 : Int32) 55 dX3_init_53 (by decide) rfl ?_
    refine gq_newa C hA 8 57 (wl_2 _ (List.mem_of_getElem? (i := 6) rfl)) (by decide) (by decide) (by decide) (Nat.le_trans (Nat.le_of_ble_eq_true rfl) hR.2.2.1) (Nat.le_trans (Nat.le_of_ble_eq_true rfl) hR.2.2.2) dX3_init_55 rfl (fun q55 => ?_)
    refine gq_putF C hnm fo_X3_12 fp_X3_12 rfl rfl fw_X3_30 0 0 60 [[(h, .inr (3, [.null, .null, .int 0, .int 0, .ref q7, .ref q15, .int 0, .ref q23, .int 0, .ref q31, .ref q39, .ref q47, .ref q55, .int 0, .int 0, .int 0]))], [(q7, .inl (cI, 8, .inl (fun _ => 0)))], [(q15, .inl (cI, 8, .inl (fun _ => 0)))], [(q23, .inl (cI, 16, .inl (fun _ => 0)))], [(q31, .inl (cI, 8, .inl (fun _ => 0)))], [(q39, .inl (cI, 8, .inl (fun _ => 0)))], [(q47, .inl (cI, 8, .inl (fun _ => 0)))], [(q55, .inl (cI, 8, .inl (fun _ => 0)))]] rfl rfl rfl rfl (Nat.le_of_ble_eq_true rfl) rfl dX3_init_57 rfl ?_
    refine gq_aload_n C 0 61 dX3_init_60 rfl rfl ?_
    refine gq_aload_n C 1 62 dX3_init_61 rfl rfl ?_
    refine gq_putF C hnm fo_X3_0 fp_X3_0 rfl rfl fw_X3_33 0 0 65 [[(h, .inr (3, [.ref hh, .null, .int 0, .int 0, .ref q7, .ref q15, .int 0, .ref q23, .int 0, .ref q31, .ref q39, .ref q47, .ref q55, .int 0, .int 0, .int 0]))], [(q7, .inl (cI, 8, .inl (fun _ => 0)))], [(q15, .inl (cI, 8, .inl (fun _ => 0)))], [(q23, .inl (cI, 16, .inl (fun _ => 0)))], [(q31, .inl (cI, 8, .inl (fun _ => 0)))], [(q39, .inl (cI, 8, .inl (fun _ => 0)))], [(q47, .inl (cI, 8, .inl (fun _ => 0)))], [(q55, .inl (cI, 8, .inl (fun _ => 0)))]] rfl rfl rfl rfl (Nat.le_of_ble_eq_true rfl) rfl dX3_init_62 rfl ?_
    refine gq_aload_n C 0 66 dX3_init_65 rfl rfl ?_
    refine gq_aload_n C 2 67 dX3_init_66 rfl rfl ?_
    refine gq_putF C hnm fo_X3_1 fp_X3_1 rfl rfl fw_X3_37 0 0 70 [[(h, .inr (3, [.ref hh, .ref dd, .int 0, .int 0, .ref q7, .ref q15, .int 0, .ref q23, .int 0, .ref q31, .ref q39, .ref q47, .ref q55, .int 0, .int 0, .int 0]))], [(q7, .inl (cI, 8, .inl (fun _ => 0)))], [(q15, .inl (cI, 8, .inl (fun _ => 0)))], [(q23, .inl (cI, 16, .inl (fun _ => 0)))], [(q31, .inl (cI, 8, .inl (fun _ => 0)))], [(q39, .inl (cI, 8, .inl (fun _ => 0)))], [(q47, .inl (cI, 8, .inl (fun _ => 0)))], [(q55, .inl (cI, 8, .inl (fun _ => 0)))]] rfl rfl rfl rfl (Nat.le_of_ble_eq_true rfl) rfl dX3_init_67 rfl ?_
    refine gq_flat (ws' := [iC cI (gA [h, q7, q15, q23, q31, q39, q47, q55]) hh (some dd) (0, 0, fun _ => 0, fun _ => 0, 0, fun _ => 0, 0, fun _ => 0, fun _ => 0, fun _ => 0, fun _ => 0, 0, 0, 0)]) rfl ?_
    exact hret dX3_init_70 ⟨rfl, gA [h, q7, q15, q23, q31, q39, q47, q55], rfl, rfl⟩

set_option maxHeartbeats 4000000 in
set_option maxRecDepth 100000 in
theorem c_X6_init (l : Launch) (D : va_G) (cI cZ : ClassId) (h : Nat) : CT l D cI cZ yX6_init cX6_init 1 none 1 40 14 414 [.ref h] [[(h, .inr (6, [.int 0, .int 0, .null, .int 0, .null, .int 0, .null, .null, .int 0, .null, .int 0, .null, .null, .null, .null, .null, .int 0, .int 0, .int 0, .null, .null, .null, .null]))]] (fun v W => v = none ∧ ∃ a : Nat → Nat, a 0 = h ∧ W = [mC cI cZ a (4, 0, fun _ => 0, 0, fun _ => 0, 0, fun _ => 0, fun _ => 0, 0, fun _ => 0, 0, fun _ => 0, fun _ => 0, fun _ => 0, fun _ => 0, fun _ => 0, 0, 0, 0, fun _ => 0, fun _ => 0, fun _ => 0, fun _ => 0)]) := by
  refine CT.mkV (by decide) (Nat.le_of_ble_eq_true rfl) fun {p} {e} {R} {s} {m} {args} {below} {meth} {c} {A} {H0} {Q} C hA hR hnm hret => ?_
  show G p l e R s m args below meth c 1 D A H0 0 0 Q [[(h, .inr (6, [.int 0, .int 0, .null, .int 0, .null, .int 0, .null, .null, .int 0, .null, .int 0, .null, .null, .null, .null, .null, .int 0, .int 0, .int 0, .null, .null, .null, .null]))]] 0 [(0, .ref h)] []
  refine gq_aload_n C 0 1 dX6_init_0 rfl rfl ?_
  refine gq_objInit C 4 mw_X6_1 oi_inst oi_code (Nat.le_trans (Nat.le_of_ble_eq_true rfl) hR.1) (Nat.le_trans (Nat.le_of_ble_eq_true rfl) hR.2.1) dX6_init_1 rfl ?_
  refine gq_aload_n C 0 5 dX6_init_4 rfl rfl ?_
  refine gq_iconst C (4 : Int32) 6 dX6_init_5 (by decide) rfl ?_
  refine gq_put C fo_X6_0 fp_X6_0 rfl fw_X6_7 0 0 9 [[(h, .inr (6, [.int (4 : Int32), .int 0, .null, .int 0, .null, .int 0, .null, .null, .int 0, .null, .int 0, .null, .null, .null, .null, .null, .int 0, .int 0, .int 0, .null, .null, .null, .null]))]] rfl rfl rfl rfl (Nat.le_of_ble_eq_true rfl) rfl dX6_init_6 rfl ?_
  refine gq_aload_n C 0 10 dX6_init_9 rfl rfl ?_
  refine gq_bipush C (64 : Int32) 12 dX6_init_10 (by decide) rfl ?_
  refine gq_newa C hA 64 14 (wl_2 _ (List.mem_of_getElem? (i := 6) rfl)) (by decide) (by decide) (by decide) (Nat.le_trans (Nat.le_of_ble_eq_true rfl) hR.2.2.1) (Nat.le_trans (Nat.le_of_ble_eq_true rfl) hR.2.2.2) dX6_init_12 rfl (fun q12 => ?_)
  refine gq_putF C hnm fo_X6_2 fp_X6_2 rfl rfl fw_X6_13 0 0 17 [[(h, .inr (6, [.int (4 : Int32), .int 0, .ref q12, .int 0, .null, .int 0, .null, .null, .int 0, .null, .int 0, .null, .null, .null, .null, .null, .int 0, .int 0, .int 0, .null, .null, .null, .null]))], [(q12, .inl (cI, 64, .inl (fun _ => 0)))]] rfl rfl rfl rfl (Nat.le_of_ble_eq_true rfl) rfl dX6_init_14 rfl ?_
  refine gq_aload_n C 0 18 dX6_init_17 rfl rfl ?_
  refine gq_bipush C (12 : Int32) 20 dX6_init_18 (by decide) rfl ?_
  refine gq_newa C hA 12 22 (wl_2 _ (List.mem_of_getElem? (i := 6) rfl)) (by decide) (by decide) (by decide) (Nat.le_trans (Nat.le_of_ble_eq_true rfl) hR.2.2.1) (Nat.le_trans (Nat.le_of_ble_eq_true rfl) hR.2.2.2) dX6_init_20 rfl (fun q20 => ?_)
  refine gq_putF C hnm fo_X6_4 fp_X6_4 rfl rfl fw_X6_17 0 0 25 [[(h, .inr (6, [.int (4 : Int32), .int 0, .ref q12, .int 0, .ref q20, .int 0, .null, .null, .int 0, .null, .int 0, .null, .null, .null, .null, .null, .int 0, .int 0, .int 0, .null, .null, .null, .null]))], [(q12, .inl (cI, 64, .inl (fun _ => 0)))], [(q20, .inl (cI, 12, .inl (fun _ => 0)))]] rfl rfl rfl rfl (Nat.le_of_ble_eq_true rfl) rfl dX6_init_22 rfl ?_
  refine gq_aload_n C 0 26 dX6_init_25 rfl rfl ?_
  refine gq_bipush C (48 : Int32) 28 dX6_init_26 (by decide) rfl ?_
  refine gq_newa C hA 48 30 (wl_2 _ (List.mem_of_getElem? (i := 6) rfl)) (by decide) (by decide) (by decide) (Nat.le_trans (Nat.le_of_ble_eq_true rfl) hR.2.2.1) (Nat.le_trans (Nat.le_of_ble_eq_true rfl) hR.2.2.2) dX6_init_28 rfl (fun q28 => ?_)
  refine gq_putF C hnm fo_X6_6 fp_X6_6 rfl rfl fw_X6_20 0 0 33 [[(h, .inr (6, [.int (4 : Int32), .int 0, .ref q12, .int 0, .ref q20, .int 0, .ref q28, .null, .int 0, .null, .int 0, .null, .null, .null, .null, .null, .int 0, .int 0, .int 0, .null, .null, .null, .null]))], [(q12, .inl (cI, 64, .inl (fun _ => 0)))], [(q20, .inl (cI, 12, .inl (fun _ => 0)))], [(q28, .inl (cI, 48, .inl (fun _ => 0)))]] rfl rfl rfl rfl (Nat.le_of_ble_eq_true rfl) rfl dX6_init_30 rfl ?_
  refine gq_aload_n C 0 34 dX6_init_33 rfl rfl ?_
  refine gq_bipush C (8 : Int32) 36 dX6_init_34 (by decide) rfl ?_
  refine gq_newa C hA 8 38 (wl_2 _ (List.mem_of_getElem? (i := 6) rfl)) (by decide) (by decide) (by decide) (Nat.le_trans (Nat.le_of_ble_eq_true rfl) hR.2.2.1) (Nat.le_trans (Nat.le_of_ble_eq_true rfl) hR.2.2.2) dX6_init_36 rfl (fun q36 => ?_)
  refine gq_putF C hnm fo_X6_7 fp_X6_7 rfl rfl fw_X6_23 0 0 41 [[(h, .inr (6, [.int (4 : Int32), .int 0, .ref q12, .int 0, .ref q20, .int 0, .ref q28, .ref q36, .int 0, .null, .int 0, .null, .null, .null, .null, .null, .int 0, .int 0, .int 0, .null, .null, .null, .null]))], [(q12, .inl (cI, 64, .inl (fun _ => 0)))], [(q20, .inl (cI, 12, .inl (fun _ => 0)))], [(q28, .inl (cI, 48, .inl (fun _ => 0)))], [(q36, .inl (cI, 8, .inl (fun _ => 0)))]] rfl rfl rfl rfl (Nat.le_of_ble_eq_true rfl) rfl dX6_init_38 rfl ?_
  refine gq_aload_n C 0 42 dX6_init_41 rfl rfl ?_
  refine gq_bipush C (8 : Int32) 44 dX6_init_42 (by decide) rfl ?_
  refine gq_newa C hA 8 46 (wl_2 _ (List.mem_of_getElem? (i := 6) rfl)) (by decide) (by decide) (by decide) (Nat.le_trans (Nat.le_of_ble_eq_true rfl) hR.2.2.1) (Nat.le_trans (Nat.le_of_ble_eq_true rfl) hR.2.2.2) dX6_init_44 rfl (fun q44 => ?_)
  refine gq_putF C hnm fo_X6_9 fp_X6_9 rfl rfl fw_X6_26 0 0 49 [[(h, .inr (6, [.int (4 : Int32), .int 0, .ref q12, .int 0, .ref q20, .int 0, .ref q28, .ref q36, .int 0, .ref q44, .int 0, .null, .null, .null, .null, .null, .int 0, .int 0, .int 0, .null, .null, .null, .null]))], [(q12, .inl (cI, 64, .inl (fun _ => 0)))], [(q20, .inl (cI, 12, .inl (fun _ => 0)))], [(q28, .inl (cI, 48, .inl (fun _ => 0)))], [(q36, .inl (cI, 8, .inl (fun _ => 0)))], [(q44, .inl (cI, 8, .inl (fun _ => 0)))]] rfl rfl rfl rfl (Nat.le_of_ble_eq_true rfl) rfl dX6_init_46 rfl ?_
  refine gq_aload_n C 0 50 dX6_init_49 rfl rfl ?_
  refine gq_bipush C (64 : Int32) 52 dX6_init_50 (by decide) rfl ?_
  refine gq_newa C hA 64 54 (wl_2 _ (List.mem_of_getElem? (i := 6) rfl)) (by decide) (by decide) (by decide) (Nat.le_trans (Nat.le_of_ble_eq_true rfl) hR.2.2.1) (Nat.le_trans (Nat.le_of_ble_eq_true rfl) hR.2.2.2) dX6_init_52 rfl (fun q52 => ?_)
  refine gq_putF C hnm fo_X6_11 fp_X6_11 rfl rfl fw_X6_29 0 0 57 [[(h, .inr (6, [.int (4 : Int32), .int 0, .ref q12, .int 0, .ref q20, .int 0, .ref q28, .ref q36, .int 0, .ref q44, .int 0, .ref q52, .null, .null, .null, .null, .int 0, .int 0, .int 0, .null, .null, .null, .null]))], [(q12, .inl (cI, 64, .inl (fun _ => 0)))], [(q20, .inl (cI, 12, .inl (fun _ => 0)))], [(q28, .inl (cI, 48, .inl (fun _ => 0)))], [(q36, .inl (cI, 8, .inl (fun _ => 0)))], [(q44, .inl (cI, 8, .inl (fun _ => 0)))], [(q52, .inl (cI, 64, .inl (fun _ => 0)))]] rfl rfl rfl rfl (Nat.le_of_ble_eq_true rfl) rfl dX6_init_54 rfl ?_
  refine gq_aload_n C 0 58 dX6_init_57 rfl rfl ?_
  refine gq_bipush C (8 : Int32) 60 dX6_init_58 (by decide) rfl ?_
  refine gq_newa C hA 8 62 (wl_2 _ (List.mem_of_getElem? (i := 6) rfl)) (by decide) (by decide) (by decide) (Nat.le_trans (Nat.le_of_ble_eq_true rfl) hR.2.2.1) (Nat.le_trans (Nat.le_of_ble_eq_true rfl) hR.2.2.2) dX6_init_60 rfl (fun q60 => ?_)
  refine gq_putF C hnm fo_X6_12 fp_X6_12 rfl rfl fw_X6_32 0 0 65 [[(h, .inr (6, [.int (4 : Int32), .int 0, .ref q12, .int 0, .ref q20, .int 0, .ref q28, .ref q36, .int 0, .ref q44, .int 0, .ref q52, .ref q60, .null, .null, .null, .int 0, .int 0, .int 0, .null, .null, .null, .null]))], [(q12, .inl (cI, 64, .inl (fun _ => 0)))], [(q20, .inl (cI, 12, .inl (fun _ => 0)))], [(q28, .inl (cI, 48, .inl (fun _ => 0)))], [(q36, .inl (cI, 8, .inl (fun _ => 0)))], [(q44, .inl (cI, 8, .inl (fun _ => 0)))], [(q52, .inl (cI, 64, .inl (fun _ => 0)))], [(q60, .inl (cI, 8, .inl (fun _ => 0)))]] rfl rfl rfl rfl (Nat.le_of_ble_eq_true rfl) rfl dX6_init_62 rfl ?_
  refine gq_aload_n C 0 66 dX6_init_65 rfl rfl ?_
  refine gq_bipush C (8 : Int32) 68 dX6_init_66 (by decide) rfl ?_
  refine gq_newa C hA 8 70 (wl_2 _ (List.mem_of_getElem? (i := 6) rfl)) (by decide) (by decide) (by decide) (Nat.le_trans (Nat.le_of_ble_eq_true rfl) hR.2.2.1) (Nat.le_trans (Nat.le_of_ble_eq_true rfl) hR.2.2.2) dX6_init_68 rfl (fun q68 => ?_)
  refine gq_putF C hnm fo_X6_13 fp_X6_13 rfl rfl fw_X6_35 0 0 73 [[(h, .inr (6, [.int (4 : Int32), .int 0, .ref q12, .int 0, .ref q20, .int 0, .ref q28, .ref q36, .int 0, .ref q44, .int 0, .ref q52, .ref q60, .ref q68, .null, .null, .int 0, .int 0, .int 0, .null, .null, .null, .null]))], [(q12, .inl (cI, 64, .inl (fun _ => 0)))], [(q20, .inl (cI, 12, .inl (fun _ => 0)))], [(q28, .inl (cI, 48, .inl (fun _ => 0)))], [(q36, .inl (cI, 8, .inl (fun _ => 0)))], [(q44, .inl (cI, 8, .inl (fun _ => 0)))], [(q52, .inl (cI, 64, .inl (fun _ => 0)))], [(q60, .inl (cI, 8, .inl (fun _ => 0)))], [(q68, .inl (cI, 8, .inl (fun _ => 0)))]] rfl rfl rfl rfl (Nat.le_of_ble_eq_true rfl) rfl dX6_init_70 rfl ?_
  refine gq_aload_n C 0 74 dX6_init_73 rfl rfl ?_
  refine gq_bipush C (8 : Int32) 76 dX6_init_74 (by decide) rfl ?_
  refine gq_newa C hA 8 78 (wl_2 _ (List.mem_of_getElem? (i := 6) rfl)) (by decide) (by decide) (by decide) (Nat.le_trans (Nat.le_of_ble_eq_true rfl) hR.2.2.1) (Nat.le_trans (Nat.le_of_ble_eq_true rfl) hR.2.2.2) dX6_init_76 rfl (fun q76 => ?_)
  refine gq_putF C hnm fo_X6_14 fp_X6_14 rfl rfl fw_X6_38 0 0 81 [[(h, .inr (6, [.int (4 : Int32), .int 0, .ref q12, .int 0, .ref q20, .int 0, .ref q28, .ref q36, .int 0, .ref q44, .int 0, .ref q52, .ref q60, .ref q68, .ref q76, .null, .int 0, .int 0, .int 0, .null, .null, .null, .null]))], [(q12, .inl (cI, 64, .inl (fun _ => 0)))], [(q20, .inl (cI, 12, .inl (fun _ => 0)))], [(q28, .inl (cI, 48, .inl (fun _ => 0)))], [(q36, .inl (cI, 8, .inl (fun _ => 0)))], [(q44, .inl (cI, 8, .inl (fun _ => 0)))], [(q52, .inl (cI, 64, .inl (fun _ => 0)))], [(q60, .inl (cI, 8, .inl (fun _ => 0)))], [(q68, .inl (cI, 8, .inl (fun _ => 0)))], [(q76, .inl (cI, 8, .inl (fun _ => 0)))]] rfl rfl rfl rfl (Nat.le_of_ble_eq_true rfl) rfl dX6_init_78 rfl ?_
  refine gq_aload_n C 0 82 dX6_init_81 rfl rfl ?_
  refine gq_bipush C (8 : Int32) 84 dX6_init_82 (by decide) rfl ?_
  refine gq_newa C hA 8 86 (wl_2 _ (List.mem_of_getElem? (i := 6) rfl)) (by decide) (by decide) (by decide) (Nat.le_trans (Nat.le_of_ble_eq_true rfl) hR.2.2.1) (Nat.le_trans (Nat.le_of_ble_eq_true rfl) hR.2.2.2) dX6_init_84 rfl (fun q84 => ?_)
  refine gq_putF C hnm fo_X6_15 fp_X6_15 rfl rfl fw_X6_41 0 0 89 [[(h, .inr (6, [.int (4 : Int32), .int 0, .ref q12, .int 0, .ref q20, .int 0, .ref q28, .ref q36, .int 0, .ref q44, .int 0, .ref q52, .ref q60, .ref q68, .ref q76, .ref q84, .int 0, .int 0, .int 0, .null, .null, .null, .null]))], [(q12, .inl (cI, 64, .inl (fun _ => 0)))], [(q20, .inl (cI, 12, .inl (fun _ => 0)))], [(q28, .inl (cI, 48, .inl (fun _ => 0)))], [(q36, .inl (cI, 8, .inl (fun _ => 0)))], [(q44, .inl (cI, 8, .inl (fun _ => 0)))], [(q52, .inl (cI, 64, .inl (fun _ => 0)))], [(q60, .inl (cI, 8, .inl (fun _ => 0)))], [(q68, .inl (cI, 8, .inl (fun _ => 0)))], [(q76, .inl (cI, 8, .inl (fun _ => 0)))], [(q84, .inl (cI, 8, .inl (fun _ => 0)))]] rfl rfl rfl rfl (Nat.le_of_ble_eq_true rfl) rfl dX6_init_86 rfl ?_
  refine gq_aload_n C 0 90 dX6_init_89 rfl rfl ?_
  refine gq_bipush C (8 : Int32) 92 dX6_init_90 (by decide) rfl ?_
  refine gq_newa C hA 8 94 (wl_2 _ (List.mem_of_getElem? (i := 6) rfl)) (by decide) (by decide) (by decide) (Nat.le_trans (Nat.le_of_ble_eq_true rfl) hR.2.2.1) (Nat.le_trans (Nat.le_of_ble_eq_true rfl) hR.2.2.2) dX6_init_92 rfl (fun q92 => ?_)
  refine gq_putF C hnm fo_X6_19 fp_X6_19 rfl rfl fw_X6_44 0 0 97 [[(h, .inr (6, [.int (4 : Int32), .int 0, .ref q12, .int 0, .ref q20, .int 0, .ref q28, .ref q36, .int 0, .ref q44, .int 0, .ref q52, .ref q60, .ref q68, .ref q76, .ref q84, .int 0, .int 0, .int 0, .ref q92, .null, .null, .null]))], [(q12, .inl (cI, 64, .inl (fun _ => 0)))], [(q20, .inl (cI, 12, .inl (fun _ => 0)))], [(q28, .inl (cI, 48, .inl (fun _ => 0)))], [(q36, .inl (cI, 8, .inl (fun _ => 0)))], [(q44, .inl (cI, 8, .inl (fun _ => 0)))], [(q52, .inl (cI, 64, .inl (fun _ => 0)))], [(q60, .inl (cI, 8, .inl (fun _ => 0)))], [(q68, .inl (cI, 8, .inl (fun _ => 0)))], [(q76, .inl (cI, 8, .inl (fun _ => 0)))], [(q84, .inl (cI, 8, .inl (fun _ => 0)))], [(q92, .inl (cI, 8, .inl (fun _ => 0)))]] rfl rfl rfl rfl (Nat.le_of_ble_eq_true rfl) rfl dX6_init_94 rfl ?_
  refine gq_aload_n C 0 98 dX6_init_97 rfl rfl ?_
  refine gq_bipush C (8 : Int32) 100 dX6_init_98 (by decide) rfl ?_
  refine gq_newa C hA 8 102 (wl_2 _ (List.mem_of_getElem? (i := 6) rfl)) (by decide) (by decide) (by decide) (Nat.le_trans (Nat.le_of_ble_eq_true rfl) hR.2.2.1) (Nat.le_trans (Nat.le_of_ble_eq_true rfl) hR.2.2.2) dX6_init_100 rfl (fun q100 => ?_)
  refine gq_putF C hnm fo_X6_20 fp_X6_20 rfl rfl fw_X6_47 0 0 105 [[(h, .inr (6, [.int (4 : Int32), .int 0, .ref q12, .int 0, .ref q20, .int 0, .ref q28, .ref q36, .int 0, .ref q44, .int 0, .ref q52, .ref q60, .ref q68, .ref q76, .ref q84, .int 0, .int 0, .int 0, .ref q92, .ref q100, .null, .null]))], [(q12, .inl (cI, 64, .inl (fun _ => 0)))], [(q20, .inl (cI, 12, .inl (fun _ => 0)))], [(q28, .inl (cI, 48, .inl (fun _ => 0)))], [(q36, .inl (cI, 8, .inl (fun _ => 0)))], [(q44, .inl (cI, 8, .inl (fun _ => 0)))], [(q52, .inl (cI, 64, .inl (fun _ => 0)))], [(q60, .inl (cI, 8, .inl (fun _ => 0)))], [(q68, .inl (cI, 8, .inl (fun _ => 0)))], [(q76, .inl (cI, 8, .inl (fun _ => 0)))], [(q84, .inl (cI, 8, .inl (fun _ => 0)))], [(q92, .inl (cI, 8, .inl (fun _ => 0)))], [(q100, .inl (cI, 8, .inl (fun _ => 0)))]] rfl rfl rfl rfl (Nat.le_of_ble_eq_true rfl) rfl dX6_init_102 rfl ?_
  refine gq_aload_n C 0 106 dX6_init_105 rfl rfl ?_
  refine gq_sipush C (160 : Int32) 109 dX6_init_106 (by decide) rfl ?_
  refine gq_newa C hA 160 111 (wl_2 _ (List.mem_of_getElem? (i := 6) rfl)) (by decide) (by decide) (by decide) (Nat.le_trans (Nat.le_of_ble_eq_true rfl) hR.2.2.1) (Nat.le_trans (Nat.le_of_ble_eq_true rfl) hR.2.2.2) dX6_init_109 rfl (fun q109 => ?_)
  refine gq_putF C hnm fo_X6_21 fp_X6_21 rfl rfl fw_X6_50 0 0 114 [[(h, .inr (6, [.int (4 : Int32), .int 0, .ref q12, .int 0, .ref q20, .int 0, .ref q28, .ref q36, .int 0, .ref q44, .int 0, .ref q52, .ref q60, .ref q68, .ref q76, .ref q84, .int 0, .int 0, .int 0, .ref q92, .ref q100, .ref q109, .null]))], [(q12, .inl (cI, 64, .inl (fun _ => 0)))], [(q20, .inl (cI, 12, .inl (fun _ => 0)))], [(q28, .inl (cI, 48, .inl (fun _ => 0)))], [(q36, .inl (cI, 8, .inl (fun _ => 0)))], [(q44, .inl (cI, 8, .inl (fun _ => 0)))], [(q52, .inl (cI, 64, .inl (fun _ => 0)))], [(q60, .inl (cI, 8, .inl (fun _ => 0)))], [(q68, .inl (cI, 8, .inl (fun _ => 0)))], [(q76, .inl (cI, 8, .inl (fun _ => 0)))], [(q84, .inl (cI, 8, .inl (fun _ => 0)))], [(q92, .inl (cI, 8, .inl (fun _ => 0)))], [(q100, .inl (cI, 8, .inl (fun _ => 0)))], [(q109, .inl (cI, 160, .inl (fun _ => 0)))]] rfl rfl rfl rfl (Nat.le_of_ble_eq_true rfl) rfl dX6_init_111 rfl ?_
  refine gq_aload_n C 0 115 dX6_init_114 rfl rfl ?_
  refine gq_iconst C (2 : Int32) 116 dX6_init_115 (by decide) rfl ?_
  refine gq_newz C hA 2 118 (wl_4 _ (List.mem_of_getElem? (i := 16) rfl)) (by decide) (by decide) (by decide) (Nat.le_trans (Nat.le_of_ble_eq_true rfl) hR.2.2.1) (Nat.le_trans (Nat.le_of_ble_eq_true rfl) hR.2.2.2) dX6_init_116 rfl (fun q116 => ?_)
  refine gq_putF C hnm fo_X6_22 fp_X6_22 rfl rfl fw_X6_53 0 0 121 [[(h, .inr (6, [.int (4 : Int32), .int 0, .ref q12, .int 0, .ref q20, .int 0, .ref q28, .ref q36, .int 0, .ref q44, .int 0, .ref q52, .ref q60, .ref q68, .ref q76, .ref q84, .int 0, .int 0, .int 0, .ref q92, .ref q100, .ref q109, .ref q116]))], [(q12, .inl (cI, 64, .inl (fun _ => 0)))], [(q20, .inl (cI, 12, .inl (fun _ => 0)))], [(q28, .inl (cI, 48, .inl (fun _ => 0)))], [(q36, .inl (cI, 8, .inl (fun _ => 0)))], [(q44, .inl (cI, 8, .inl (fun _ => 0)))], [(q52, .inl (cI, 64, .inl (fun _ => 0)))], [(q60, .inl (cI, 8, .inl (fun _ => 0)))], [(q68, .inl (cI, 8, .inl (fun _ => 0)))], [(q76, .inl (cI, 8, .inl (fun _ => 0)))], [(q84, .inl (cI, 8, .inl (fun _ => 0)))], [(q92, .inl (cI, 8, .inl (fun _ => 0)))], [(q100, .inl (cI, 8, .inl (fun _ => 0)))], [(q109, .inl (cI, 160, .inl (fun _ => 0)))], [(q116, .inl (cZ, 2, .inl (fun _ => 0)))]] rfl rfl rfl rfl (Nat.le_of_ble_eq_true rfl) rfl dX6_init_118 rfl ?_
  refine gq_aload_n C 0 122 dX6_init_121 rfl rfl ?_
  refine gq_iconst C (0 : Int32) 123 dX6_init_122 (by decide) rfl ?_
  refine gq_put C fo_X6_1 fp_X6_1 rfl fw_X6_57 0 0 126 [[(h, .inr (6, [.int (4 : Int32), .int (0 : Int32), .ref q12, .int 0, .ref q20, .int 0, .ref q28, .ref q36, .int 0, .ref q44, .int 0, .ref q52, .ref q60, .ref q68, .ref q76, .ref q84, .int 0, .int 0, .int 0, .ref q92, .ref q100, .ref q109, .ref q116]))], [(q12, .inl (cI, 64, .inl (fun _ => 0)))], [(q20, .inl (cI, 12, .inl (fun _ => 0)))], [(q28, .inl (cI, 48, .inl (fun _ => 0)))], [(q36, .inl (cI, 8, .inl (fun _ => 0)))], [(q44, .inl (cI, 8, .inl (fun _ => 0)))], [(q52, .inl (cI, 64, .inl (fun _ => 0)))], [(q60, .inl (cI, 8, .inl (fun _ => 0)))], [(q68, .inl (cI, 8, .inl (fun _ => 0)))], [(q76, .inl (cI, 8, .inl (fun _ => 0)))], [(q84, .inl (cI, 8, .inl (fun _ => 0)))], [(q92, .inl (cI, 8, .inl (fun _ => 0)))], [(q100, .inl (cI, 8, .inl (fun _ => 0)))], [(q109, .inl (cI, 160, .inl (fun _ => 0)))], [(q116, .inl (cZ, 2, .inl (fun _ => 0)))]] rfl rfl rfl rfl (Nat.le_of_ble_eq_true rfl) rfl dX6_init_123 rfl ?_
  refine gq_flat (ws' := [mC cI cZ (gA [h, q12, q20, q28, q36, q44, q52, q60, q68, q76, q84, q92, q100, q109, q116]) (4, 0, fun _ => 0, 0, fun _ => 0, 0, fun _ => 0, fun _ => 0, 0, fun _ => 0, 0, fun _ => 0, fun _ => 0, fun _ => 0, fun _ => 0, fun _ => 0, 0, 0, 0, fun _ => 0, fun _ => 0, fun _ => 0, fun _ => 0)]) rfl ?_
  exact hret dX6_init_126 ⟨rfl, gA [h, q12, q20, q28, q36, q44, q52, q60, q68, q76, q84, q92, q100, q109, q116], rfl, rfl⟩

def innS0 : InnS := (0, 0, fun _ => 0, fun _ => 0, 0, fun _ => 0, 0, fun _ => 0, fun _ => 0, fun _ => 0, fun _ => 0, 0, 0, 0)
def bInit (cI : ClassId) (aB aH aY aZ aD aP aQ aI : Nat → Nat) (aT : List (Nat → Nat)) : List va_W := [bC cI aB (aH 0) (aY 0) (aZ 0) (aD 0) (aP 0) (aQ 0) (aI 0) (fun _ => 0), hC cI aH (4, 0, 0, 0, fun _ => 0, fun _ => 0, fun _ => 0), hC cI aY (4, 0, 0, 0, fun _ => 0, fun _ => 0, fun _ => 0), hC cI aZ (4, 0, 0, 0, fun _ => 0, fun _ => 0, fun _ => 0), dC cI aD (0, fun _ => 0), pC cI aP (0, 0, fun _ => 0, fun _ => 0), qC cI aQ (0, 0, fun _ => 0, fun _ => 0, fun _ => 0), iC cI aI (aH 0) (nx aT) innS0, chW cI (aH 0) aT (List.replicate 8 innS0)]
set_option maxHeartbeats 4000000 in
set_option maxRecDepth 100000 in
theorem c_X5_init (l : Launch) (D : va_G) (cI cZ : ClassId) (h : Nat) : CT l D cI cZ yX5_init cX5_init 3 none 2 62 94 1097 [.ref h] [[(h, .inr (5, [.null, .null, .null, .null, .null, .null, .null, .null]))]] (fun v W => v = none ∧ ∃ (aB aH aY aZ aD aP aQ aI : Nat → Nat) (aT : List (Nat → Nat)), aB 0 = h ∧ aT.length = 8 ∧ W = bInit cI aB aH aY aZ aD aP aQ aI aT) := by
  refine CT.mkV (by decide) (Nat.le_of_ble_eq_true rfl) fun {p} {e} {R} {s} {m} {args} {below} {meth} {c} {A} {H0} {Q} C hA hR hnm hret => ?_
  show G p l e R s m args below meth c 3 D A H0 0 0 Q [[(h, .inr (5, [.null, .null, .null, .null, .null, .null, .null, .null]))]] 0 [(0, .ref h)] []
  refine gq_aload_n C 0 1 dX5_init_0 rfl rfl ?_
  refine gq_objInit C 4 mw_X5_3 oi_inst oi_code (Nat.le_trans (Nat.le_of_ble_eq_true rfl) hR.1) (Nat.le_trans (Nat.le_of_ble_eq_true rfl) hR.2.1) dX5_init_1 rfl ?_
  refine gq_aload_n C 0 5 dX5_init_4 rfl rfl ?_
  refine gq_new C hA (ci := 2) (ty := tyX2) [.int 0, .int 0, .int 0, .int 0, .null, .null, .null] 8 rfl inlX2 tyX2_ok (fun j hj => by rcases (show j = 0 ∨ j = 1 ∨ j = 2 ∨ j = 3 ∨ j = 4 ∨ j = 5 ∨ j = 6 by omega) with rfl | rfl | rfl | rfl | rfl | rfl | rfl <;> rfl) (wl_1 _ (List.mem_of_getElem? (i := 12) rfl)) (wl_1 _ (List.mem_of_getElem? (i := 13) rfl)) (wl_1 _ (List.mem_of_getElem? (i := 14) rfl)) (Nat.le_trans (Nat.le_of_ble_eq_true rfl) hR.2.2.1) (Nat.le_trans (Nat.le_of_ble_eq_true rfl) hR.2.2.2) dX5_init_5 rfl (fun q5_1 => ?_)
  refine gq_dup C 9 dX5_init_8 rfl rfl ?_
  refine gq_callIN (k := 0) C hA gm_X5_11 ⟨rfl, by decide, by decide, by decide +kernel⟩ (c_X2_init l D cI cZ q5_1) rfl ⟨Nat.le_trans (Nat.le_of_ble_eq_true rfl) hR.1, Nat.le_trans (Nat.le_of_ble_eq_true rfl) hR.2.1⟩ ⟨Nat.le_trans (Nat.le_of_ble_eq_true rfl) hR.2.2.1, Nat.le_trans (Nat.le_of_ble_eq_true rfl) hR.2.2.2⟩ rfl (Nat.le_of_ble_eq_true rfl) dX5_init_9 [1] [0] [[(h, .inr (5, [.null, .null, .null, .null, .null, .null, .null, .null]))]] 12 rfl rfl rfl rfl (by decide) rfl (fun v W1 hp => ?_)
  obtain ⟨rfl, a5_1, ha, rfl⟩ := hp
  subst ha
  refine gq_ws (ws' := [[(h, .inr (5, [.null, .null, .null, .null, .null, .null, .null, .null]))], hC cI a5_1 (4, 0, 0, 0, fun _ => 0, fun _ => 0, fun _ => 0)]) rfl ?_
  show G p l e R s m args below meth c 3 D A H0 _ _ Q _ 12 [(0, .ref h)] [.ref (a5_1 0), .ref h]
  refine gq_putF C hnm fo_X5_0 fp_X5_0 rfl rfl fw_X5_12 0 0 15 [[(h, .inr (5, [.ref (a5_1 0), .null, .null, .null, .null, .null, .null, .null]))], hC cI a5_1 (4, 0, 0, 0, fun _ => 0, fun _ => 0, fun _ => 0)] rfl rfl rfl rfl (Nat.le_of_ble_eq_true rfl) rfl dX5_init_12 rfl ?_
  refine gq_aload_n C 0 16 dX5_init_15 rfl rfl ?_
  refine gq_new C hA (ci := 2) (ty := tyX2) [.int 0, .int 0, .int 0, .int 0, .null, .null, .null] 19 rfl inlX2 tyX2_ok (fun j hj => by rcases (show j = 0 ∨ j = 1 ∨ j = 2 ∨ j = 3 ∨ j = 4 ∨ j = 5 ∨ j = 6 by omega) with rfl | rfl | rfl | rfl | rfl | rfl | rfl <;> rfl) (wl_1 _ (List.mem_of_getElem? (i := 12) rfl)) (wl_1 _ (List.mem_of_getElem? (i := 13) rfl)) (wl_1 _ (List.mem_of_getElem? (i := 14) rfl)) (Nat.le_trans (Nat.le_of_ble_eq_true rfl) hR.2.2.1) (Nat.le_trans (Nat.le_of_ble_eq_true rfl) hR.2.2.2) dX5_init_16 rfl (fun q16_2 => ?_)
  refine gq_dup C 20 dX5_init_19 rfl rfl ?_
  refine gq_callIN (k := 0) C hA gm_X5_11 ⟨rfl, by decide, by decide, by decide +kernel⟩ (c_X2_init l D cI cZ q16_2) rfl ⟨Nat.le_trans (Nat.le_of_ble_eq_true rfl) hR.1, Nat.le_trans (Nat.le_of_ble_eq_true rfl) hR.2.1⟩ ⟨Nat.le_trans (Nat.le_of_ble_eq_true rfl) hR.2.2.1, Nat.le_trans (Nat.le_of_ble_eq_true rfl) hR.2.2.2⟩ rfl (Nat.le_of_ble_eq_true rfl) dX5_init_20 [2] [0, 1] [[(h, .inr (5, [.ref (a5_1 0), .null, .null, .null, .null, .null, .null, .null]))], hC cI a5_1 (4, 0, 0, 0, fun _ => 0, fun _ => 0, fun _ => 0)] 23 rfl rfl rfl rfl (by decide) rfl (fun v W1 hp => ?_)
  obtain ⟨rfl, a16_2, ha, rfl⟩ := hp
  subst ha
  refine gq_ws (ws' := [[(h, .inr (5, [.ref (a5_1 0), .null, .null, .null, .null, .null, .null, .null]))], hC cI a5_1 (4, 0, 0, 0, fun _ => 0, fun _ => 0, fun _ => 0), hC cI a16_2 (4, 0, 0, 0, fun _ => 0, fun _ => 0, fun _ => 0)]) rfl ?_
  show G p l e R s m args below meth c 3 D A H0 _ _ Q _ 23 [(0, .ref h)] [.ref (a16_2 0), .ref h]
  refine gq_putF C hnm fo_X5_1 fp_X5_1 rfl rfl fw_X5_16 0 0 26 [[(h, .inr (5, [.ref (a5_1 0), .ref (a16_2 0), .null, .null, .null, .null, .null, .null]))], hC cI a5_1 (4, 0, 0, 0, fun _ => 0, fun _ => 0, fun _ => 0), hC cI a16_2 (4, 0, 0, 0, fun _ => 0, fun _ => 0, fun _ => 0)] rfl rfl rfl rfl (Nat.le_of_ble_eq_true rfl) rfl dX5_init_23 rfl ?_
  refine gq_aload_n C 0 27 dX5_init_26 rfl rfl ?_
  refine gq_new C hA (ci := 2) (ty := tyX2) [.int 0, .int 0, .int 0, .int 0, .null, .null, .null] 30 rfl inlX2 tyX2_ok (fun j hj => by rcases (show j = 0 ∨ j = 1 ∨ j = 2 ∨ j = 3 ∨ j = 4 ∨ j = 5 ∨ j = 6 by omega) with rfl | rfl | rfl | rfl | rfl | rfl | rfl <;> rfl) (wl_1 _ (List.mem_of_getElem? (i := 12) rfl)) (wl_1 _ (List.mem_of_getElem? (i := 13) rfl)) (wl_1 _ (List.mem_of_getElem? (i := 14) rfl)) (Nat.le_trans (Nat.le_of_ble_eq_true rfl) hR.2.2.1) (Nat.le_trans (Nat.le_of_ble_eq_true rfl) hR.2.2.2) dX5_init_27 rfl (fun q27_3 => ?_)
  refine gq_dup C 31 dX5_init_30 rfl rfl ?_
  refine gq_callIN (k := 0) C hA gm_X5_11 ⟨rfl, by decide, by decide, by decide +kernel⟩ (c_X2_init l D cI cZ q27_3) rfl ⟨Nat.le_trans (Nat.le_of_ble_eq_true rfl) hR.1, Nat.le_trans (Nat.le_of_ble_eq_true rfl) hR.2.1⟩ ⟨Nat.le_trans (Nat.le_of_ble_eq_true rfl) hR.2.2.1, Nat.le_trans (Nat.le_of_ble_eq_true rfl) hR.2.2.2⟩ rfl (Nat.le_of_ble_eq_true rfl) dX5_init_31 [3] [0, 1, 2] [[(h, .inr (5, [.ref (a5_1 0), .ref (a16_2 0), .null, .null, .null, .null, .null, .null]))], hC cI a5_1 (4, 0, 0, 0, fun _ => 0, fun _ => 0, fun _ => 0), hC cI a16_2 (4, 0, 0, 0, fun _ => 0, fun _ => 0, fun _ => 0)] 34 rfl rfl rfl rfl (by decide) rfl (fun v W1 hp => ?_)
  obtain ⟨rfl, a27_3, ha, rfl⟩ := hp
  subst ha
  refine gq_ws (ws' := [[(h, .inr (5, [.ref (a5_1 0), .ref (a16_2 0), .null, .null, .null, .null, .null, .null]))], hC cI a5_1 (4, 0, 0, 0, fun _ => 0, fun _ => 0, fun _ => 0), hC cI a16_2 (4, 0, 0, 0, fun _ => 0, fun _ => 0, fun _ => 0), hC cI a27_3 (4, 0, 0, 0, fun _ => 0, fun _ => 0, fun _ => 0)]) rfl ?_
  show G p l e R s m args below meth c 3 D A H0 _ _ Q _ 34 [(0, .ref h)] [.ref (a27_3 0), .ref h]
  refine gq_putF C hnm fo_X5_2 fp_X5_2 rfl rfl fw_X5_19 0 0 37 [[(h, .inr (5, [.ref (a5_1 0), .ref (a16_2 0), .ref (a27_3 0), .null, .null, .null, .null, .null]))], hC cI a5_1 (4, 0, 0, 0, fun _ => 0, fun _ => 0, fun _ => 0), hC cI a16_2 (4, 0, 0, 0, fun _ => 0, fun _ => 0, fun _ => 0), hC cI a27_3 (4, 0, 0, 0, fun _ => 0, fun _ => 0, fun _ => 0)] rfl rfl rfl rfl (Nat.le_of_ble_eq_true rfl) rfl dX5_init_34 rfl ?_
  refine gq_aload_n C 0 38 dX5_init_37 rfl rfl ?_
  refine gq_new C hA (ci := 0) (ty := tyX0) [.int 0, .null] 41 rfl inlX0 tyX0_ok (fun j hj => by rcases (show j = 0 ∨ j = 1 by omega) with rfl | rfl <;> rfl) (wl_1 _ (List.mem_of_getElem? (i := 18) rfl)) (wl_1 _ (List.mem_of_getElem? (i := 19) rfl)) (wl_1 _ (List.mem_of_getElem? (i := 20) rfl)) (Nat.le_trans (Nat.le_of_ble_eq_true rfl) hR.2.2.1) (Nat.le_trans (Nat.le_of_ble_eq_true rfl) hR.2.2.2) dX5_init_38 rfl (fun q38_4 => ?_)
  refine gq_dup C 42 dX5_init_41 rfl rfl ?_
  refine gq_callIN (k := 0) C hA gm_X5_24 ⟨rfl, by decide, by decide, by decide +kernel⟩ (c_X0_init l D cI cZ q38_4) rfl ⟨Nat.le_trans (Nat.le_of_ble_eq_true rfl) hR.1, Nat.le_trans (Nat.le_of_ble_eq_true rfl) hR.2.1⟩ ⟨Nat.le_trans (Nat.le_of_ble_eq_true rfl) hR.2.2.1, Nat.le_trans (Nat.le_of_ble_eq_true rfl) hR.2.2.2⟩ rfl (Nat.le_of_ble_eq_true rfl) dX5_init_42 [4] [0, 1, 2, 3] [[(h, .inr (5, [.ref (a5_1 0), .ref (a16_2 0), .ref (a27_3 0), .null, .null, .null, .null, .null]))], hC cI a5_1 (4, 0, 0, 0, fun _ => 0, fun _ => 0, fun _ => 0), hC cI a16_2 (4, 0, 0, 0, fun _ => 0, fun _ => 0, fun _ => 0), hC cI a27_3 (4, 0, 0, 0, fun _ => 0, fun _ => 0, fun _ => 0)] 45 rfl rfl rfl rfl (by decide) rfl (fun v W1 hp => ?_)
  obtain ⟨rfl, a38_4, ha, rfl⟩ := hp
  subst ha
  refine gq_ws (ws' := [[(h, .inr (5, [.ref (a5_1 0), .ref (a16_2 0), .ref (a27_3 0), .null, .null, .null, .null, .null]))], hC cI a5_1 (4, 0, 0, 0, fun _ => 0, fun _ => 0, fun _ => 0), hC cI a16_2 (4, 0, 0, 0, fun _ => 0, fun _ => 0, fun _ => 0), hC cI a27_3 (4, 0, 0, 0, fun _ => 0, fun _ => 0, fun _ => 0), dC cI a38_4 (0, fun _ => 0)]) rfl ?_
  show G p l e R s m args below meth c 3 D A H0 _ _ Q _ 45 [(0, .ref h)] [.ref (a38_4 0), .ref h]
  refine gq_putF C hnm fo_X5_3 fp_X5_3 rfl rfl fw_X5_25 0 0 48 [[(h, .inr (5, [.ref (a5_1 0), .ref (a16_2 0), .ref (a27_3 0), .ref (a38_4 0), .null, .null, .null, .null]))], hC cI a5_1 (4, 0, 0, 0, fun _ => 0, fun _ => 0, fun _ => 0), hC cI a16_2 (4, 0, 0, 0, fun _ => 0, fun _ => 0, fun _ => 0), hC cI a27_3 (4, 0, 0, 0, fun _ => 0, fun _ => 0, fun _ => 0), dC cI a38_4 (0, fun _ => 0)] rfl rfl rfl rfl (Nat.le_of_ble_eq_true rfl) rfl dX5_init_45 rfl ?_
  refine gq_aload_n C 0 49 dX5_init_48 rfl rfl ?_
  refine gq_new C hA (ci := 4) (ty := tyX4) [.int 0, .int 0, .null, .null] 52 rfl inlX4 tyX4_ok (fun j hj => by rcases (show j = 0 ∨ j = 1 ∨ j = 2 ∨ j = 3 by omega) with rfl | rfl | rfl | rfl <;> rfl) (wl_1 _ (List.mem_of_getElem? (i := 22) rfl)) (wl_1 _ (List.mem_of_getElem? (i := 23) rfl)) (wl_2 _ (List.mem_of_getElem? (i := 0) rfl)) (Nat.le_trans (Nat.le_of_ble_eq_true rfl) hR.2.2.1) (Nat.le_trans (Nat.le_of_ble_eq_true rfl) hR.2.2.2) dX5_init_49 rfl (fun q49_5 => ?_)
  refine gq_dup C 53 dX5_init_52 rfl rfl ?_
  refine gq_callIN (k := 0) C hA gm_X5_31 ⟨rfl, by decide, by decide, by decide +kernel⟩ (c_X4_init l D cI cZ q49_5) rfl ⟨Nat.le_trans (Nat.le_of_ble_eq_true rfl) hR.1, Nat.le_trans (Nat.le_of_ble_eq_true rfl) hR.2.1⟩ ⟨Nat.le_trans (Nat.le_of_ble_eq_true rfl) hR.2.2.1, Nat.le_trans (Nat.le_of_ble_eq_true rfl) hR.2.2.2⟩ rfl (Nat.le_of_ble_eq_true rfl) dX5_init_53 [5] [0, 1, 2, 3, 4] [[(h, .inr (5, [.ref (a5_1 0), .ref (a16_2 0), .ref (a27_3 0), .ref (a38_4 0), .null, .null, .null, .null]))], hC cI a5_1 (4, 0, 0, 0, fun _ => 0, fun _ => 0, fun _ => 0), hC cI a16_2 (4, 0, 0, 0, fun _ => 0, fun _ => 0, fun _ => 0), hC cI a27_3 (4, 0, 0, 0, fun _ => 0, fun _ => 0, fun _ => 0), dC cI a38_4 (0, fun _ => 0)] 56 rfl rfl rfl rfl (by decide) rfl (fun v W1 hp => ?_)
  obtain ⟨rfl, a49_5, ha, rfl⟩ := hp
  subst ha
  refine gq_ws (ws' := [[(h, .inr (5, [.ref (a5_1 0), .ref (a16_2 0), .ref (a27_3 0), .ref (a38_4 0), .null, .null, .null, .null]))], hC cI a5_1 (4, 0, 0, 0, fun _ => 0, fun _ => 0, fun _ => 0), hC cI a16_2 (4, 0, 0, 0, fun _ => 0, fun _ => 0, fun _ => 0), hC cI a27_3 (4, 0, 0, 0, fun _ => 0, fun _ => 0, fun _ => 0), dC cI a38_4 (0, fun _ => 0), pC cI a49_5 (0, 0, fun _ => 0, fun _ => 0)]) rfl ?_
  show G p l e R s m args below meth c 3 D A H0 _ _ Q _ 56 [(0, .ref h)] [.ref (a49_5 0), .ref h]
  refine gq_putF C hnm fo_X5_4 fp_X5_4 rfl rfl fw_X5_32 0 0 59 [[(h, .inr (5, [.ref (a5_1 0), .ref (a16_2 0), .ref (a27_3 0), .ref (a38_4 0), .ref (a49_5 0), .null, .null, .null]))], hC cI a5_1 (4, 0, 0, 0, fun _ => 0, fun _ => 0, fun _ => 0), hC cI a16_2 (4, 0, 0, 0, fun _ => 0, fun _ => 0, fun _ => 0), hC cI a27_3 (4, 0, 0, 0, fun _ => 0, fun _ => 0, fun _ => 0), dC cI a38_4 (0, fun _ => 0), pC cI a49_5 (0, 0, fun _ => 0, fun _ => 0)] rfl rfl rfl rfl (Nat.le_of_ble_eq_true rfl) rfl dX5_init_56 rfl ?_
  refine gq_aload_n C 0 60 dX5_init_59 rfl rfl ?_
  refine gq_new C hA (ci := 1) (ty := tyX1) [.int 0, .int 0, .null, .null, .null] 63 rfl inlX1 tyX1_ok (fun j hj => by rcases (show j = 0 ∨ j = 1 ∨ j = 2 ∨ j = 3 ∨ j = 4 by omega) with rfl | rfl | rfl | rfl | rfl <;> rfl) (wl_2 _ (List.mem_of_getElem? (i := 2) rfl)) (wl_2 _ (List.mem_of_getElem? (i := 3) rfl)) (wl_2 _ (List.mem_of_getElem? (i := 4) rfl)) (Nat.le_trans (Nat.le_of_ble_eq_true rfl) hR.2.2.1) (Nat.le_trans (Nat.le_of_ble_eq_true rfl) hR.2.2.2) dX5_init_60 rfl (fun q60_6 => ?_)
  refine gq_dup C 64 dX5_init_63 rfl rfl ?_
  refine gq_callIN (k := 0) C hA gm_X5_38 ⟨rfl, by decide, by decide, by decide +kernel⟩ (c_X1_init l D cI cZ q60_6) rfl ⟨Nat.le_trans (Nat.le_of_ble_eq_true rfl) hR.1, Nat.le_trans (Nat.le_of_ble_eq_true rfl) hR.2.1⟩ ⟨Nat.le_trans (Nat.le_of_ble_eq_true rfl) hR.2.2.1, Nat.le_trans (Nat.le_of_ble_eq_true rfl) hR.2.2.2⟩ rfl (Nat.le_of_ble_eq_true rfl) dX5_init_64 [6] [0, 1, 2, 3, 4, 5] [[(h, .inr (5, [.ref (a5_1 0), .ref (a16_2 0), .ref (a27_3 0), .ref (a38_4 0), .ref (a49_5 0), .null, .null, .null]))], hC cI a5_1 (4, 0, 0, 0, fun _ => 0, fun _ => 0, fun _ => 0), hC cI a16_2 (4, 0, 0, 0, fun _ => 0, fun _ => 0, fun _ => 0), hC cI a27_3 (4, 0, 0, 0, fun _ => 0, fun _ => 0, fun _ => 0), dC cI a38_4 (0, fun _ => 0), pC cI a49_5 (0, 0, fun _ => 0, fun _ => 0)] 67 rfl rfl rfl rfl (by decide) rfl (fun v W1 hp => ?_)
  obtain ⟨rfl, a60_6, ha, rfl⟩ := hp
  subst ha
  refine gq_ws (ws' := [[(h, .inr (5, [.ref (a5_1 0), .ref (a16_2 0), .ref (a27_3 0), .ref (a38_4 0), .ref (a49_5 0), .null, .null, .null]))], hC cI a5_1 (4, 0, 0, 0, fun _ => 0, fun _ => 0, fun _ => 0), hC cI a16_2 (4, 0, 0, 0, fun _ => 0, fun _ => 0, fun _ => 0), hC cI a27_3 (4, 0, 0, 0, fun _ => 0, fun _ => 0, fun _ => 0), dC cI a38_4 (0, fun _ => 0), pC cI a49_5 (0, 0, fun _ => 0, fun _ => 0), qC cI a60_6 (0, 0, fun _ => 0, fun _ => 0, fun _ => 0)]) rfl ?_
  show G p l e R s m args below meth c 3 D A H0 _ _ Q _ 67 [(0, .ref h)] [.ref (a60_6 0), .ref h]
  refine gq_putF C hnm fo_X5_5 fp_X5_5 rfl rfl fw_X5_39 0 0 70 [[(h, .inr (5, [.ref (a5_1 0), .ref (a16_2 0), .ref (a27_3 0), .ref (a38_4 0), .ref (a49_5 0), .ref (a60_6 0), .null, .null]))], hC cI a5_1 (4, 0, 0, 0, fun _ => 0, fun _ => 0, fun _ => 0), hC cI a16_2 (4, 0, 0, 0, fun _ => 0, fun _ => 0, fun _ => 0), hC cI a27_3 (4, 0, 0, 0, fun _ => 0, fun _ => 0, fun _ => 0), dC cI a38_4 (0, fun _ => 0), pC cI a49_5 (0, 0, fun _ => 0, fun _ => 0), qC cI a60_6 (0, 0, fun _ => 0, fun _ => 0, fun _ => 0)] rfl rfl rfl rfl (Nat.le_of_ble_eq_true rfl) rfl dX5_init_67 rfl ?_
  refine gq_aload_n C 0 71 dX5_init_70 rfl rfl ?_
  refine gq_bipush C (48 : Int32) 73 dX5_init_71 (by decide) rfl ?_
  refine gq_newa C hA 48 75 (wl_2 _ (List.mem_of_getElem? (i := 6) rfl)) (by decide) (by decide) (by decide) (Nat.le_trans (Nat.le_of_ble_eq_true rfl) hR.2.2.1) (Nat.le_trans (Nat.le_of_ble_eq_true rfl) hR.2.2.2) dX5_init_73 rfl (fun q73 => ?_)
  refine gq_putF C hnm fo_X5_7 fp_X5_7 rfl rfl fw_X5_43 0 0 78 [[(h, .inr (5, [.ref (a5_1 0), .ref (a16_2 0), .ref (a27_3 0), .ref (a38_4 0), .ref (a49_5 0), .ref (a60_6 0), .null, .ref q73]))], hC cI a5_1 (4, 0, 0, 0, fun _ => 0, fun _ => 0, fun _ => 0), hC cI a16_2 (4, 0, 0, 0, fun _ => 0, fun _ => 0, fun _ => 0), hC cI a27_3 (4, 0, 0, 0, fun _ => 0, fun _ => 0, fun _ => 0), dC cI a38_4 (0, fun _ => 0), pC cI a49_5 (0, 0, fun _ => 0, fun _ => 0), qC cI a60_6 (0, 0, fun _ => 0, fun _ => 0, fun _ => 0), [(q73, .inl (cI, 48, .inl (fun _ => 0)))]] rfl rfl rfl rfl (Nat.le_of_ble_eq_true rfl) rfl dX5_init_75 rfl ?_
  refine gq_new C hA (ci := 3) (ty := tyX3) [.null, .null, .int 0, .int 0, .null, .null, .int 0, .null, .int 0, .null, .null, .null, .null, .int 0, .int 0, .int 0] 81 rfl inlX3 tyX3_ok (fun j hj => by rcases (show j = 0 ∨ j = 1 ∨ j = 2 ∨ j = 3 ∨ j = 4 ∨ j = 5 ∨ j = 6 ∨ j = 7 ∨ j = 8 ∨ j = 9 ∨ j = 10 ∨ j = 11 ∨ j = 12 ∨ j = 13 ∨ j = 14 ∨ j = 15 by omega) with rfl | rfl | rfl | rfl | rfl | rfl | rfl | rfl | rfl | rfl | rfl | rfl | rfl | rfl | rfl | rfl <;> rfl) (wl_2 _ (List.mem_of_getElem? (i := 8) rfl)) (wl_2 _ (List.mem_of_getElem? (i := 9) rfl)) (wl_2 _ (List.mem_of_getElem? (i := 10) rfl)) (Nat.le_trans (Nat.le_of_ble_eq_true rfl) hR.2.2.1) (Nat.le_trans (Nat.le_of_ble_eq_true rfl) hR.2.2.2) dX5_init_78 rfl (fun q78_7 => ?_)
  refine gq_dup C 82 dX5_init_81 rfl rfl ?_
  refine gq_aload_n C 0 83 dX5_init_82 rfl rfl ?_
  refine gq_get C fo_X5_0 fw_X5_12 0 0 86 rfl rfl rfl dX5_init_83 rfl ?_
  refine gq_null C 87 dX5_init_86 rfl ?_
  refine gq_callIN (k := 2) C hA gm_X5_49 ⟨rfl, by decide, by decide, by decide +kernel⟩ (c_X3_init l D cI cZ q78_7 (a5_1 0) none) rfl ⟨Nat.le_trans (Nat.le_of_ble_eq_true rfl) hR.1, Nat.le_trans (Nat.le_of_ble_eq_true rfl) hR.2.1⟩ ⟨Nat.le_trans (Nat.le_of_ble_eq_true rfl) hR.2.2.1, Nat.le_trans (Nat.le_of_ble_eq_true rfl) hR.2.2.2⟩ rfl (Nat.le_of_ble_eq_true rfl) dX5_init_87 [8] [0, 1, 2, 3, 4, 5, 6, 7] [[(h, .inr (5, [.ref (a5_1 0), .ref (a16_2 0), .ref (a27_3 0), .ref (a38_4 0), .ref (a49_5 0), .ref (a60_6 0), .null, .ref q73]))], hC cI a5_1 (4, 0, 0, 0, fun _ => 0, fun _ => 0, fun _ => 0), hC cI a16_2 (4, 0, 0, 0, fun _ => 0, fun _ => 0, fun _ => 0), hC cI a27_3 (4, 0, 0, 0, fun _ => 0, fun _ => 0, fun _ => 0), dC cI a38_4 (0, fun _ => 0), pC cI a49_5 (0, 0, fun _ => 0, fun _ => 0), qC cI a60_6 (0, 0, fun _ => 0, fun _ => 0, fun _ => 0), [(q73, .inl (cI, 48, .inl (fun _ => 0)))]] 90 rfl rfl rfl rfl (by decide) rfl (fun v W1 hp => ?_)
  obtain ⟨rfl, a78_7, ha, rfl⟩ := hp
  subst ha
  refine gq_ws (ws' := [[(h, .inr (5, [.ref (a5_1 0), .ref (a16_2 0), .ref (a27_3 0), .ref (a38_4 0), .ref (a49_5 0), .ref (a60_6 0), .null, .ref q73]))], hC cI a5_1 (4, 0, 0, 0, fun _ => 0, fun _ => 0, fun _ => 0), hC cI a16_2 (4, 0, 0, 0, fun _ => 0, fun _ => 0, fun _ => 0), hC cI a27_3 (4, 0, 0, 0, fun _ => 0, fun _ => 0, fun _ => 0), dC cI a38_4 (0, fun _ => 0), pC cI a49_5 (0, 0, fun _ => 0, fun _ => 0), qC cI a60_6 (0, 0, fun _ => 0, fun _ => 0, fun _ => 0), [(q73, .inl (cI, 48, .inl (fun _ => 0)))], iC cI a78_7 (a5_1 0) none (0, 0, fun _ => 0, fun _ => 0, 0, fun _ => 0, 0, fun _ => 0, fun _ => 0, fun _ => 0, fun _ => 0, 0, 0, 0)]) rfl ?_
  show G p l e R s m args below meth c 3 D A H0 _ _ Q _ 90 [(0, .ref h)] [.ref (a78_7 0)]
  refine gq_astore_n C [(1, .ref (a78_7 0)), (0, .ref h)] 91 dX5_init_90 (by decide) rfl rfl ?_
  refine gq_iconst C (0 : Int32) 92 dX5_init_91 (by decide) rfl ?_
  refine gq_istore_n C [(2, .int (0 : Int32)), (1, .ref (a78_7 0)), (0, .ref h)] 93 dX5_init_92 (by decide) rfl rfl ?_
  refine gq_iload_n C 0 94 dX5_init_93 rfl rfl ?_
  refine gq_bipush C (8 : Int32) 96 dX5_init_94 (by decide) rfl ?_
  refine gq_icmp_ge C 118 99 dX5_init_96 (by decide) rfl (fun h => absurd h (by decide)) (fun _ => ?_)
  refine gq_new C hA (ci := 3) (ty := tyX3) [.null, .null, .int 0, .int 0, .null, .null, .int 0, .null, .int 0, .null, .null, .null, .null, .int 0, .int 0, .int 0] 102 rfl inlX3 tyX3_ok (fun j hj => by rcases (show j = 0 ∨ j = 1 ∨ j = 2 ∨ j = 3 ∨ j = 4 ∨ j = 5 ∨ j = 6 ∨ j = 7 ∨ j = 8 ∨ j = 9 ∨ j = 10 ∨ j = 11 ∨ j = 12 ∨ j = 13 ∨ j = 14 ∨ j = 15 by omega) with rfl | rfl | rfl | rfl | rfl | rfl | rfl | rfl | rfl | rfl | rfl | rfl | rfl | rfl | rfl | rfl <;> rfl) (wl_2 _ (List.mem_of_getElem? (i := 8) rfl)) (wl_2 _ (List.mem_of_getElem? (i := 9) rfl)) (wl_2 _ (List.mem_of_getElem? (i := 10) rfl)) (Nat.le_trans (Nat.le_of_ble_eq_true rfl) hR.2.2.1) (Nat.le_trans (Nat.le_of_ble_eq_true rfl) hR.2.2.2) dX5_init_99 rfl (fun q99_8 => ?_)
  refine gq_dup C 103 dX5_init_102 rfl rfl ?_
  refine gq_aload_n C 2 104 dX5_init_103 rfl rfl ?_
  refine gq_get C fo_X5_0 fw_X5_12 0 0 107 rfl rfl rfl dX5_init_104 rfl ?_
  refine gq_aload_n C 1 108 dX5_init_107 rfl rfl ?_
  refine gq_callIN (k := 2) C hA gm_X5_49 ⟨rfl, by decide, by decide, by decide +kernel⟩ (c_X3_init l D cI cZ q99_8 (a5_1 0) (some (a78_7 0))) rfl ⟨Nat.le_trans (Nat.le_of_ble_eq_true rfl) hR.1, Nat.le_trans (Nat.le_of_ble_eq_true rfl) hR.2.1⟩ ⟨Nat.le_trans (Nat.le_of_ble_eq_true rfl) hR.2.2.1, Nat.le_trans (Nat.le_of_ble_eq_true rfl) hR.2.2.2⟩ rfl (Nat.le_of_ble_eq_true rfl) dX5_init_108 [9] [0, 1, 2, 3, 4, 5, 6, 7, 8] [[(h, .inr (5, [.ref (a5_1 0), .ref (a16_2 0), .ref (a27_3 0), .ref (a38_4 0), .ref (a49_5 0), .ref (a60_6 0), .null, .ref q73]))], hC cI a5_1 (4, 0, 0, 0, fun _ => 0, fun _ => 0, fun _ => 0), hC cI a16_2 (4, 0, 0, 0, fun _ => 0, fun _ => 0, fun _ => 0), hC cI a27_3 (4, 0, 0, 0, fun _ => 0, fun _ => 0, fun _ => 0), dC cI a38_4 (0, fun _ => 0), pC cI a49_5 (0, 0, fun _ => 0, fun _ => 0), qC cI a60_6 (0, 0, fun _ => 0, fun _ => 0, fun _ => 0), [(q73, .inl (cI, 48, .inl (fun _ => 0)))], iC cI a78_7 (a5_1 0) none (0, 0, fun _ => 0, fun _ => 0, 0, fun _ => 0, 0, fun _ => 0, fun _ => 0, fun _ => 0, fun _ => 0, 0, 0, 0)] 111 rfl rfl rfl rfl (by decide) rfl (fun v W1 hp => ?_)
  obtain ⟨rfl, a99_8, ha, rfl⟩ := hp
  subst ha
  refine gq_ws (ws' := [[(h, .inr (5, [.ref (a5_1 0), .ref (a16_2 0), .ref (a27_3 0), .ref (a38_4 0), .ref (a49_5 0), .ref (a60_6 0), .null, .ref q73]))], hC cI a5_1 (4, 0, 0, 0, fun _ => 0, fun _ => 0, fun _ => 0), hC cI a16_2 (4, 0, 0, 0, fun _ => 0, fun _ => 0, fun _ => 0), hC cI a27_3 (4, 0, 0, 0, fun _ => 0, fun _ => 0, fun _ => 0), dC cI a38_4 (0, fun _ => 0), pC cI a49_5 (0, 0, fun _ => 0, fun _ => 0), qC cI a60_6 (0, 0, fun _ => 0, fun _ => 0, fun _ => 0), [(q73, .inl (cI, 48, .inl (fun _ => 0)))], iC cI a78_7 (a5_1 0) none (0, 0, fun _ => 0, fun _ => 0, 0, fun _ => 0, 0, fun _ => 0, fun _ => 0, fun _ => 0, fun _ => 0, 0, 0, 0), iC cI a99_8 (a5_1 0) (some (a78_7 0)) (0, 0, fun _ => 0, fun _ => 0, 0, fun _ => 0, 0, fun _ => 0, fun _ => 0, fun _ => 0, fun _ => 0, 0, 0, 0)]) rfl ?_
  show G p l e R s m args below meth c 3 D A H0 _ _ Q _ 111 [(2, .int (0 : Int32)), (1, .ref (a78_7 0)), (0, .ref h)] [.ref (a99_8 0)]
  refine gq_astore_n C [(1, .ref (a99_8 0)), (2, .int (0 : Int32)), (0, .ref h)] 112 dX5_init_111 (by decide) rfl rfl ?_
  refine gq_iinc C 1 [(2, .int (1 : Int32)), (1, .ref (a99_8 0)), (0, .ref h)] 115 dX5_init_112 rfl (by decide) (by decide) rfl rfl ?_
  refine gq_goto C 93 dX5_init_115 (by decide) ?_
  refine gq_iload_n C 0 94 dX5_init_93 rfl rfl ?_
  refine gq_bipush C (8 : Int32) 96 dX5_init_94 (by decide) rfl ?_
  refine gq_icmp_ge C 118 99 dX5_init_96 (by decide) rfl (fun h => absurd h (by decide)) (fun _ => ?_)
  refine gq_new C hA (ci := 3) (ty := tyX3) [.null, .null, .int 0, .int 0, .null, .null, .int 0, .null, .int 0, .null, .null, .null, .null, .int 0, .int 0, .int 0] 102 rfl inlX3 tyX3_ok (fun j hj => by rcases (show j = 0 ∨ j = 1 ∨ j = 2 ∨ j = 3 ∨ j = 4 ∨ j = 5 ∨ j = 6 ∨ j = 7 ∨ j = 8 ∨ j = 9 ∨ j = 10 ∨ j = 11 ∨ j = 12 ∨ j = 13 ∨ j = 14 ∨ j = 15 by omega) with rfl | rfl | rfl | rfl | rfl | rfl | rfl | rfl | rfl | rfl | rfl | rfl | rfl | rfl | rfl | rfl <;> rfl) (wl_2 _ (List.mem_of_getElem? (i := 8) rfl)) (wl_2 _ (List.mem_of_getElem? (i := 9) rfl)) (wl_2 _ (List.mem_of_getElem? (i := 10) rfl)) (Nat.le_trans (Nat.le_of_ble_eq_true rfl) hR.2.2.1) (Nat.le_trans (Nat.le_of_ble_eq_true rfl) hR.2.2.2) dX5_init_99 rfl (fun q99_9 => ?_)
  refine gq_dup C 103 dX5_init_102 rfl rfl ?_
  refine gq_aload_n C 2 104 dX5_init_103 rfl rfl ?_
  refine gq_get C fo_X5_0 fw_X5_12 0 0 107 rfl rfl rfl dX5_init_104 rfl ?_
  refine gq_aload_n C 1 108 dX5_init_107 rfl rfl ?_
  refine gq_callIN (k := 2) C hA gm_X5_49 ⟨rfl, by decide, by decide, by decide +kernel⟩ (c_X3_init l D cI cZ q99_9 (a5_1 0) (some (a99_8 0))) rfl ⟨Nat.le_trans (Nat.le_of_ble_eq_true rfl) hR.1, Nat.le_trans (Nat.le_of_ble_eq_true rfl) hR.2.1⟩ ⟨Nat.le_trans (Nat.le_of_ble_eq_true rfl) hR.2.2.1, Nat.le_trans (Nat.le_of_ble_eq_true rfl) hR.2.2.2⟩ rfl (Nat.le_of_ble_eq_true rfl) dX5_init_108 [10] [0, 1, 2, 3, 4, 5, 6, 7, 8, 9] [[(h, .inr (5, [.ref (a5_1 0), .ref (a16_2 0), .ref (a27_3 0), .ref (a38_4 0), .ref (a49_5 0), .ref (a60_6 0), .null, .ref q73]))], hC cI a5_1 (4, 0, 0, 0, fun _ => 0, fun _ => 0, fun _ => 0), hC cI a16_2 (4, 0, 0, 0, fun _ => 0, fun _ => 0, fun _ => 0), hC cI a27_3 (4, 0, 0, 0, fun _ => 0, fun _ => 0, fun _ => 0), dC cI a38_4 (0, fun _ => 0), pC cI a49_5 (0, 0, fun _ => 0, fun _ => 0), qC cI a60_6 (0, 0, fun _ => 0, fun _ => 0, fun _ => 0), [(q73, .inl (cI, 48, .inl (fun _ => 0)))], iC cI a78_7 (a5_1 0) none (0, 0, fun _ => 0, fun _ => 0, 0, fun _ => 0, 0, fun _ => 0, fun _ => 0, fun _ => 0, fun _ => 0, 0, 0, 0), iC cI a99_8 (a5_1 0) (some (a78_7 0)) (0, 0, fun _ => 0, fun _ => 0, 0, fun _ => 0, 0, fun _ => 0, fun _ => 0, fun _ => 0, fun _ => 0, 0, 0, 0)] 111 rfl rfl rfl rfl (by decide) rfl (fun v W1 hp => ?_)
  obtain ⟨rfl, a99_9, ha, rfl⟩ := hp
  subst ha
  refine gq_ws (ws' := [[(h, .inr (5, [.ref (a5_1 0), .ref (a16_2 0), .ref (a27_3 0), .ref (a38_4 0), .ref (a49_5 0), .ref (a60_6 0), .null, .ref q73]))], hC cI a5_1 (4, 0, 0, 0, fun _ => 0, fun _ => 0, fun _ => 0), hC cI a16_2 (4, 0, 0, 0, fun _ => 0, fun _ => 0, fun _ => 0), hC cI a27_3 (4, 0, 0, 0, fun _ => 0, fun _ => 0, fun _ => 0), dC cI a38_4 (0, fun _ => 0), pC cI a49_5 (0, 0, fun _ => 0, fun _ => 0), qC cI a60_6 (0, 0, fun _ => 0, fun _ => 0, fun _ => 0), [(q73, .inl (cI, 48, .inl (fun _ => 0)))], iC cI a78_7 (a5_1 0) none (0, 0, fun _ => 0, fun _ => 0, 0, fun _ => 0, 0, fun _ => 0, fun _ => 0, fun _ => 0, fun _ => 0, 0, 0, 0), iC cI a99_8 (a5_1 0) (some (a78_7 0)) (0, 0, fun _ => 0, fun _ => 0, 0, fun _ => 0, 0, fun _ => 0, fun _ => 0, fun _ => 0, fun _ => 0, 0, 0, 0), iC cI a99_9 (a5_1 0) (some (a99_8 0)) (0, 0, fun _ => 0, fun _ => 0, 0, fun _ => 0, 0, fun _ => 0, fun _ => 0, fun _ => 0, fun _ => 0, 0, 0, 0)]) rfl ?_
  show G p l e R s m args below meth c 3 D A H0 _ _ Q _ 111 [(2, .int (1 : Int32)), (1, .ref (a99_8 0)), (0, .ref h)] [.ref (a99_9 0)]
  refine gq_astore_n C [(1, .ref (a99_9 0)), (2, .int (1 : Int32)), (0, .ref h)] 112 dX5_init_111 (by decide) rfl rfl ?_
  refine gq_iinc C 1 [(2, .int (2 : Int32)), (1, .ref (a99_9 0)), (0, .ref h)] 115 dX5_init_112 rfl (by decide) (by decide) rfl rfl ?_
  refine gq_goto C 93 dX5_init_115 (by decide) ?_
  refine gq_iload_n C 0 94 dX5_init_93 rfl rfl ?_
  refine gq_bipush C (8 : Int32) 96 dX5_init_94 (by decide) rfl ?_
  refine gq_icmp_ge C 118 99 dX5_init_96 (by decide) rfl (fun h => absurd h (by decide)) (fun _ => ?_)
  refine gq_new C hA (ci := 3) (ty := tyX3) [.null, .null, .int 0, .int 0, .null, .null, .int 0, .null, .int 0, .null, .null, .null, .null, .int 0, .int 0, .int 0] 102 rfl inlX3 tyX3_ok (fun j hj => by rcases (show j = 0 ∨ j = 1 ∨ j = 2 ∨ j = 3 ∨ j = 4 ∨ j = 5 ∨ j = 6 ∨ j = 7 ∨ j = 8 ∨ j = 9 ∨ j = 10 ∨ j = 11 ∨ j = 12 ∨ j = 13 ∨ j = 14 ∨ j = 15 by omega) with rfl | rfl | rfl | rfl | rfl | rfl | rfl | rfl | rfl | rfl | rfl | rfl | rfl | rfl | rfl | rfl <;> rfl) (wl_2 _ (List.mem_of_getElem? (i := 8) rfl)) (wl_2 _ (List.mem_of_getElem? (i := 9) rfl)) (wl_2 _ (List.mem_of_getElem? (i := 10) rfl)) (Nat.le_trans (Nat.le_of_ble_eq_true rfl) hR.2.2.1) (Nat.le_trans (Nat.le_of_ble_eq_true rfl) hR.2.2.2) dX5_init_99 rfl (fun q99_10 => ?_)
  refine gq_dup C 103 dX5_init_102 rfl rfl ?_
  refine gq_aload_n C 2 104 dX5_init_103 rfl rfl ?_
  refine gq_get C fo_X5_0 fw_X5_12 0 0 107 rfl rfl rfl dX5_init_104 rfl ?_
  refine gq_aload_n C 1 108 dX5_init_107 rfl rfl ?_
  refine gq_callIN (k := 2) C hA gm_X5_49 ⟨rfl, by decide, by decide, by decide +kernel⟩ (c_X3_init l D cI cZ q99_10 (a5_1 0) (some (a99_9 0))) rfl ⟨Nat.le_trans (Nat.le_of_ble_eq_true rfl) hR.1, Nat.le_trans (Nat.le_of_ble_eq_true rfl) hR.2.1⟩ ⟨Nat.le_trans (Nat.le_of_ble_eq_true rfl) hR.2.2.1, Nat.le_trans (Nat.le_of_ble_eq_true rfl) hR.2.2.2⟩ rfl (Nat.le_of_ble_eq_true rfl) dX5_init_108 [11] [0, 1, 2, 3, 4, 5, 6, 7, 8, 9, 10] [[(h, .inr (5, [.ref (a5_1 0), .ref (a16_2 0), .ref (a27_3 0), .ref (a38_4 0), .ref (a49_5 0), .ref (a60_6 0), .null, .ref q73]))], hC cI a5_1 (4, 0, 0, 0, fun _ => 0, fun _ => 0, fun _ => 0), hC cI a16_2 (4, 0, 0, 0, fun _ => 0, fun _ => 0, fun _ => 0), hC cI a27_3 (4, 0, 0, 0, fun _ => 0, fun _ => 0, fun _ => 0), dC cI a38_4 (0, fun _ => 0), pC cI a49_5 (0, 0, fun _ => 0, fun _ => 0), qC cI a60_6 (0, 0, fun _ => 0, fun _ => 0, fun _ => 0), [(q73, .inl (cI, 48, .inl (fun _ => 0)))], iC cI a78_7 (a5_1 0) none (0, 0, fun _ => 0, fun _ => 0, 0, fun _ => 0, 0, fun _ => 0, fun _ => 0, fun _ => 0, fun _ => 0, 0, 0, 0), iC cI a99_8 (a5_1 0) (some (a78_7 0)) (0, 0, fun _ => 0, fun _ => 0, 0, fun _ => 0, 0, fun _ => 0, fun _ => 0, fun _ => 0, fun _ => 0, 0, 0, 0), iC cI a99_9 (a5_1 0) (some (a99_8 0)) (0, 0, fun _ => 0, fun _ => 0, 0, fun _ => 0, 0, fun _ => 0, fun _ => 0, fun _ => 0, fun _ => 0, 0, 0, 0)] 111 rfl rfl rfl rfl (by decide) rfl (fun v W1 hp => ?_)
  obtain ⟨rfl, a99_10, ha, rfl⟩ := hp
  subst ha
  refine gq_ws (ws' := [[(h, .inr (5, [.ref (a5_1 0), .ref (a16_2 0), .ref (a27_3 0), .ref (a38_4 0), .ref (a49_5 0), .ref (a60_6 0), .null, .ref q73]))], hC cI a5_1 (4, 0, 0, 0, fun _ => 0, fun _ => 0, fun _ => 0), hC cI a16_2 (4, 0, 0, 0, fun _ => 0, fun _ => 0, fun _ => 0), hC cI a27_3 (4, 0, 0, 0, fun _ => 0, fun _ => 0, fun _ => 0), dC cI a38_4 (0, fun _ => 0), pC cI a49_5 (0, 0, fun _ => 0, fun _ => 0), qC cI a60_6 (0, 0, fun _ => 0, fun _ => 0, fun _ => 0), [(q73, .inl (cI, 48, .inl (fun _ => 0)))], iC cI a78_7 (a5_1 0) none (0, 0, fun _ => 0, fun _ => 0, 0, fun _ => 0, 0, fun _ => 0, fun _ => 0, fun _ => 0, fun _ => 0, 0, 0, 0), iC cI a99_8 (a5_1 0) (some (a78_7 0)) (0, 0, fun _ => 0, fun _ => 0, 0, fun _ => 0, 0, fun _ => 0, fun _ => 0, fun _ => 0, fun _ => 0, 0, 0, 0), iC cI a99_9 (a5_1 0) (some (a99_8 0)) (0, 0, fun _ => 0, fun _ => 0, 0, fun _ => 0, 0, fun _ => 0, fun _ => 0, fun _ => 0, fun _ => 0, 0, 0, 0), iC cI a99_10 (a5_1 0) (some (a99_9 0)) (0, 0, fun _ => 0, fun _ => 0, 0, fun _ => 0, 0, fun _ => 0, fun _ => 0, fun _ => 0, fun _ => 0, 0, 0, 0)]) rfl ?_
  show G p l e R s m args below meth c 3 D A H0 _ _ Q _ 111 [(2, .int (2 : Int32)), (1, .ref (a99_9 0)), (0, .ref h)] [.ref (a99_10 0)]
  refine gq_astore_n C [(1, .ref (a99_10 0)), (2, .int (2 : Int32)), (0, .ref h)] 112 dX5_init_111 (by decide) rfl rfl ?_
  refine gq_iinc C 1 [(2, .int (3 : Int32)), (1, .ref (a99_10 0)), (0, .ref h)] 115 dX5_init_112 rfl (by decide) (by decide) rfl rfl ?_
  refine gq_goto C 93 dX5_init_115 (by decide) ?_
  refine gq_iload_n C 0 94 dX5_init_93 rfl rfl ?_
  refine gq_bipush C (8 : Int32) 96 dX5_init_94 (by decide) rfl ?_
  refine gq_icmp_ge C 118 99 dX5_init_96 (by decide) rfl (fun h => absurd h (by decide)) (fun _ => ?_)
  refine gq_new C hA (ci := 3) (ty := tyX3) [.null, .null, .int 0, .int 0, .null, .null, .int 0, .null, .int 0, .null, .null, .null, .null, .int 0, .int 0, .int 0] 102 rfl inlX3 tyX3_ok (fun j hj => by rcases (show j = 0 ∨ j = 1 ∨ j = 2 ∨ j = 3 ∨ j = 4 ∨ j = 5 ∨ j = 6 ∨ j = 7 ∨ j = 8 ∨ j = 9 ∨ j = 10 ∨ j = 11 ∨ j = 12 ∨ j = 13 ∨ j = 14 ∨ j = 15 by omega) with rfl | rfl | rfl | rfl | rfl | rfl | rfl | rfl | rfl | rfl | rfl | rfl | rfl | rfl | rfl | rfl <;> rfl) (wl_2 _ (List.mem_of_getElem? (i := 8) rfl)) (wl_2 _ (List.mem_of_getElem? (i := 9) rfl)) (wl_2 _ (List.mem_of_getElem? (i := 10) rfl)) (Nat.le_trans (Nat.le_of_ble_eq_true rfl) hR.2.2.1) (Nat.le_trans (Nat.le_of_ble_eq_true rfl) hR.2.2.2) dX5_init_99 rfl (fun q99_11 => ?_)
  refine gq_dup C 103 dX5_init_102 rfl rfl ?_
  refine gq_aload_n C 2 104 dX5_init_103 rfl rfl ?_
  refine gq_get C fo_X5_0 fw_X5_12 0 0 107 rfl rfl rfl dX5_init_104 rfl ?_
  refine gq_aload_n C 1 108 dX5_init_107 rfl rfl ?_
  refine gq_callIN (k := 2) C hA gm_X5_49 ⟨rfl, by decide, by decide, by decide +kernel⟩ (c_X3_init l D cI cZ q99_11 (a5_1 0) (some (a99_10 0))) rfl ⟨Nat.le_trans (Nat.le_of_ble_eq_true rfl) hR.1, Nat.le_trans (Nat.le_of_ble_eq_true rfl) hR.2.1⟩ ⟨Nat.le_trans (Nat.le_of_ble_eq_true rfl) hR.2.2.1, Nat.le_trans (Nat.le_of_ble_eq_true rfl) hR.2.2.2⟩ rfl (Nat.le_of_ble_eq_true rfl) dX5_init_108 [12] [0, 1, 2, 3, 4, 5, 6, 7, 8, 9, 10, 11] [[(h, .inr (5, [.ref (a5_1 0), .ref (a16_2 0), .ref (a27_3 0), .ref (a38_4 0), .ref (a49_5 0), .ref (a60_6 0), .null, .ref q73]))], hC cI a5_1 (4, 0, 0, 0, fun _ => 0, fun _ => 0, fun _ => 0), hC cI a16_2 (4, 0, 0, 0, fun _ => 0, fun _ => 0, fun _ => 0), hC cI a27_3 (4, 0, 0, 0, fun _ => 0, fun _ => 0, fun _ => 0), dC cI a38_4 (0, fun _ => 0), pC cI a49_5 (0, 0, fun _ => 0, fun _ => 0), qC cI a60_6 (0, 0, fun _ => 0, fun _ => 0, fun _ => 0), [(q73, .inl (cI, 48, .inl (fun _ => 0)))], iC cI a78_7 (a5_1 0) none (0, 0, fun _ => 0, fun _ => 0, 0, fun _ => 0, 0, fun _ => 0, fun _ => 0, fun _ => 0, fun _ => 0, 0, 0, 0), iC cI a99_8 (a5_1 0) (some (a78_7 0)) (0, 0, fun _ => 0, fun _ => 0, 0, fun _ => 0, 0, fun _ => 0, fun _ => 0, fun _ => 0, fun _ => 0, 0, 0, 0), iC cI a99_9 (a5_1 0) (some (a99_8 0)) (0, 0, fun _ => 0, fun _ => 0, 0, fun _ => 0, 0, fun _ => 0, fun _ => 0, fun _ => 0, fun _ => 0, 0, 0, 0), iC cI a99_10 (a5_1 0) (some (a99_9 0)) (0, 0, fun _ => 0, fun _ => 0, 0, fun _ => 0, 0, fun _ => 0, fun _ => 0, fun _ => 0, fun _ => 0, 0, 0, 0)] 111 rfl rfl rfl rfl (by decide) rfl (fun v W1 hp => ?_)
  obtain ⟨rfl, a99_11, ha, rfl⟩ := hp
  subst ha
  refine gq_ws (ws' := [[(h, .inr (5, [.ref (a5_1 0), .ref (a16_2 0), .ref (a27_3 0), .ref (a38_4 0), .ref (a49_5 0), .ref (a60_6 0), .null, .ref q73]))], hC cI a5_1 (4, 0, 0, 0, fun _ => 0, fun _ => 0, fun _ => 0), hC cI a16_2 (4, 0, 0, 0, fun _ => 0, fun _ => 0, fun _ => 0), hC cI a27_3 (4, 0, 0, 0, fun _ => 0, fun _ => 0, fun _ => 0), dC cI a38_4 (0, fun _ => 0), pC cI a49_5 (0, 0, fun _ => 0, fun _ => 0), qC cI a60_6 (0, 0, fun _ => 0, fun _ => 0, fun _ => 0), [(q73, .inl (cI, 48, .inl (fun _ => 0)))], iC cI a78_7 (a5_1 0) none (0, 0, fun _ => 0, fun _ => 0, 0, fun _ => 0, 0, fun _ => 0, fun _ => 0, fun _ => 0, fun _ => 0, 0, 0, 0), iC cI a99_8 (a5_1 0) (some (a78_7 0)) (0, 0, fun _ => 0, fun _ => 0, 0, fun _ => 0, 0, fun _ => 0, fun _ => 0, fun _ => 0, fun _ => 0, 0, 0, 0), iC cI a99_9 (a5_1 0) (some (a99_8 0)) (0, 0, fun _ => 0, fun _ => 0, 0, fun _ => 0, 0, fun _ => 0, fun _ => 0, fun _ => 0, fun _ => 0, 0, 0, 0), iC cI a99_10 (a5_1 0) (some (a99_9 0)) (0, 0, fun _ => 0, fun _ => 0, 0, fun _ => 0, 0, fun _ => 0, fun _ => 0, fun _ => 0, fun _ => 0, 0, 0, 0), iC cI a99_11 (a5_1 0) (some (a99_10 0)) (0, 0, fun _ => 0, fun _ => 0, 0, fun _ => 0, 0, fun _ => 0, fun _ => 0, fun _ => 0, fun _ => 0, 0, 0, 0)]) rfl ?_
  show G p l e R s m args below meth c 3 D A H0 _ _ Q _ 111 [(2, .int (3 : Int32)), (1, .ref (a99_10 0)), (0, .ref h)] [.ref (a99_11 0)]
  refine gq_astore_n C [(1, .ref (a99_11 0)), (2, .int (3 : Int32)), (0, .ref h)] 112 dX5_init_111 (by decide) rfl rfl ?_
  refine gq_iinc C 1 [(2, .int (4 : Int32)), (1, .ref (a99_11 0)), (0, .ref h)] 115 dX5_init_112 rfl (by decide) (by decide) rfl rfl ?_
  refine gq_goto C 93 dX5_init_115 (by decide) ?_
  refine gq_iload_n C 0 94 dX5_init_93 rfl rfl ?_
  refine gq_bipush C (8 : Int32) 96 dX5_init_94 (by decide) rfl ?_
  refine gq_icmp_ge C 118 99 dX5_init_96 (by decide) rfl (fun h => absurd h (by decide)) (fun _ => ?_)
  refine gq_new C hA (ci := 3) (ty := tyX3) [.null, .null, .int 0, .int 0, .null, .null, .int 0, .null, .int 0, .null, .null, .null, .null, .int 0, .int 0, .int 0] 102 rfl inlX3 tyX3_ok (fun j hj => by rcases (show j = 0 ∨ j = 1 ∨ j = 2 ∨ j = 3 ∨ j = 4 ∨ j = 5 ∨ j = 6 ∨ j = 7 ∨ j = 8 ∨ j = 9 ∨ j = 10 ∨ j = 11 ∨ j = 12 ∨ j = 13 ∨ j = 14 ∨ j = 15 by omega) with rfl | rfl | rfl | rfl | rfl | rfl | rfl | rfl | rfl | rfl | rfl | rfl | rfl | rfl | rfl | rfl <;> rfl) (wl_2 _ (List.mem_of_getElem? (i := 8) rfl)) (wl_2 _ (List.mem_of_getElem? (i := 9) rfl)) (wl_2 _ (List.mem_of_getElem? (i := 10) rfl)) (Nat.le_trans (Nat.le_of_ble_eq_true rfl) hR.2.2.1) (Nat.le_trans (Nat.le_of_ble_eq_true rfl) hR.2.2.2) dX5_init_99 rfl (fun q99_12 => ?_)
  refine gq_dup C 103 dX5_init_102 rfl rfl ?_
  refine gq_aload_n C 2 104 dX5_init_103 rfl rfl ?_
  refine gq_get C fo_X5_0 fw_X5_12 0 0 107 rfl rfl rfl dX5_init_104 rfl ?_
  refine gq_aload_n C 1 108 dX5_init_107 rfl rfl ?_
  refine gq_callIN (k := 2) C hA gm_X5_49 ⟨rfl, by decide, by decide, by decide +kernel⟩ (c_X3_init l D cI cZ q99_12 (a5_1 0) (some (a99_11 0))) rfl ⟨Nat.le_trans (Nat.le_of_ble_eq_true rfl) hR.1, Nat.le_trans (Nat.le_of_ble_eq_true rfl) hR.2.1⟩ ⟨Nat.le_trans (Nat.le_of_ble_eq_true rfl) hR.2.2.1, Nat.le_trans (Nat.le_of_ble_eq_true rfl) hR.2.2.2⟩ rfl (Nat.le_of_ble_eq_true rfl) dX5_init_108 [13] [0, 1, 2, 3, 4, 5, 6, 7, 8, 9, 10, 11, 12] [[(h, .inr (5, [.ref (a5_1 0), .ref (a16_2 0), .ref (a27_3 0), .ref (a38_4 0), .ref (a49_5 0), .ref (a60_6 0), .null, .ref q73]))], hC cI a5_1 (4, 0, 0, 0, fun _ => 0, fun _ => 0, fun _ => 0), hC cI a16_2 (4, 0, 0, 0, fun _ => 0, fun _ => 0, fun _ => 0), hC cI a27_3 (4, 0, 0, 0, fun _ => 0, fun _ => 0, fun _ => 0), dC cI a38_4 (0, fun _ => 0), pC cI a49_5 (0, 0, fun _ => 0, fun _ => 0), qC cI a60_6 (0, 0, fun _ => 0, fun _ => 0, fun _ => 0), [(q73, .inl (cI, 48, .inl (fun _ => 0)))], iC cI a78_7 (a5_1 0) none (0, 0, fun _ => 0, fun _ => 0, 0, fun _ => 0, 0, fun _ => 0, fun _ => 0, fun _ => 0, fun _ => 0, 0, 0, 0), iC cI a99_8 (a5_1 0) (some (a78_7 0)) (0, 0, fun _ => 0, fun _ => 0, 0, fun _ => 0, 0, fun _ => 0, fun _ => 0, fun _ => 0, fun _ => 0, 0, 0, 0), iC cI a99_9 (a5_1 0) (some (a99_8 0)) (0, 0, fun _ => 0, fun _ => 0, 0, fun _ => 0, 0, fun _ => 0, fun _ => 0, fun _ => 0, fun _ => 0, 0, 0, 0), iC cI a99_10 (a5_1 0) (some (a99_9 0)) (0, 0, fun _ => 0, fun _ => 0, 0, fun _ => 0, 0, fun _ => 0, fun _ => 0, fun _ => 0, fun _ => 0, 0, 0, 0), iC cI a99_11 (a5_1 0) (some (a99_10 0)) (0, 0, fun _ => 0, fun _ => 0, 0, fun _ => 0, 0, fun _ => 0, fun _ => 0, fun _ => 0, fun _ => 0, 0, 0, 0)] 111 rfl rfl rfl rfl (by decide) rfl (fun v W1 hp => ?_)
  obtain ⟨rfl, a99_12, ha, rfl⟩ := hp
  subst ha
  refine gq_ws (ws' := [[(h, .inr (5, [.ref (a5_1 0), .ref (a16_2 0), .ref (a27_3 0), .ref (a38_4 0), .ref (a49_5 0), .ref (a60_6 0), .null, .ref q73]))], hC cI a5_1 (4, 0, 0, 0, fun _ => 0, fun _ => 0, fun _ => 0), hC cI a16_2 (4, 0, 0, 0, fun _ => 0, fun _ => 0, fun _ => 0), hC cI a27_3 (4, 0, 0, 0, fun _ => 0, fun _ => 0, fun _ => 0), dC cI a38_4 (0, fun _ => 0), pC cI a49_5 (0, 0, fun _ => 0, fun _ => 0), qC cI a60_6 (0, 0, fun _ => 0, fun _ => 0, fun _ => 0), [(q73, .inl (cI, 48, .inl (fun _ => 0)))], iC cI a78_7 (a5_1 0) none (0, 0, fun _ => 0, fun _ => 0, 0, fun _ => 0, 0, fun _ => 0, fun _ => 0, fun _ => 0, fun _ => 0, 0, 0, 0), iC cI a99_8 (a5_1 0) (some (a78_7 0)) (0, 0, fun _ => 0, fun _ => 0, 0, fun _ => 0, 0, fun _ => 0, fun _ => 0, fun _ => 0, fun _ => 0, 0, 0, 0), iC cI a99_9 (a5_1 0) (some (a99_8 0)) (0, 0, fun _ => 0, fun _ => 0, 0, fun _ => 0, 0, fun _ => 0, fun _ => 0, fun _ => 0, fun _ => 0, 0, 0, 0), iC cI a99_10 (a5_1 0) (some (a99_9 0)) (0, 0, fun _ => 0, fun _ => 0, 0, fun _ => 0, 0, fun _ => 0, fun _ => 0, fun _ => 0, fun _ => 0, 0, 0, 0), iC cI a99_11 (a5_1 0) (some (a99_10 0)) (0, 0, fun _ => 0, fun _ => 0, 0, fun _ => 0, 0, fun _ => 0, fun _ => 0, fun _ => 0, fun _ => 0, 0, 0, 0), iC cI a99_12 (a5_1 0) (some (a99_11 0)) (0, 0, fun _ => 0, fun _ => 0, 0, fun _ => 0, 0, fun _ => 0, fun _ => 0, fun _ => 0, fun _ => 0, 0, 0, 0)]) rfl ?_
  show G p l e R s m args below meth c 3 D A H0 _ _ Q _ 111 [(2, .int (4 : Int32)), (1, .ref (a99_11 0)), (0, .ref h)] [.ref (a99_12 0)]
  refine gq_astore_n C [(1, .ref (a99_12 0)), (2, .int (4 : Int32)), (0, .ref h)] 112 dX5_init_111 (by decide) rfl rfl ?_
  refine gq_iinc C 1 [(2, .int (5 : Int32)), (1, .ref (a99_12 0)), (0, .ref h)] 115 dX5_init_112 rfl (by decide) (by decide) rfl rfl ?_
  refine gq_goto C 93 dX5_init_115 (by decide) ?_
  refine gq_iload_n C 0 94 dX5_init_93 rfl rfl ?_
  refine gq_bipush C (8 : Int32) 96 dX5_init_94 (by decide) rfl ?_
  refine gq_icmp_ge C 118 99 dX5_init_96 (by decide) rfl (fun h => absurd h (by decide)) (fun _ => ?_)
  refine gq_new C hA (ci := 3) (ty := tyX3) [.null, .null, .int 0, .int 0, .null, .null, .int 0, .null, .int 0, .null, .null, .null, .null, .int 0, .int 0, .int 0] 102 rfl inlX3 tyX3_ok (fun j hj => by rcases (show j = 0 ∨ j = 1 ∨ j = 2 ∨ j = 3 ∨ j = 4 ∨ j = 5 ∨ j = 6 ∨ j = 7 ∨ j = 8 ∨ j = 9 ∨ j = 10 ∨ j = 11 ∨ j = 12 ∨ j = 13 ∨ j = 14 ∨ j = 15 by omega) with rfl | rfl | rfl | rfl | rfl | rfl | rfl | rfl | rfl | rfl | rfl | rfl | rfl | rfl | rfl | rfl <;> rfl) (wl_2 _ (List.mem_of_getElem? (i := 8) rfl)) (wl_2 _ (List.mem_of_getElem? (i := 9) rfl)) (wl_2 _ (List.mem_of_getElem? (i := 10) rfl)) (Nat.le_trans (Nat.le_of_ble_eq_true rfl) hR.2.2.1) (Nat.le_trans (Nat.le_of_ble_eq_true rfl) hR.2.2.2) dX5_init_99 rfl (fun q99_13 => ?_)
  refine gq_dup C 103 dX5_init_102 rfl rfl ?_
  refine gq_aload_n C 2 104 dX5_init_103 rfl rfl ?_
  refine gq_get C fo_X5_0 fw_X5_12 0 0 107 rfl rfl rfl dX5_init_104 rfl ?_
  refine gq_aload_n C 1 108 dX5_init_107 rfl rfl ?_
  refine gq_callIN (k := 2) C hA gm_X5_49 ⟨rfl, by decide, by decide, by decide +kernel⟩ (c_X3_init l D cI cZ q99_13 (a5_1 0) (some (a99_12 0))) rfl ⟨Nat.le_trans (Nat.le_of_ble_eq_true rfl) hR.1, Nat.le_trans (Nat.le_of_ble_eq_true rfl) hR.2.1⟩ ⟨Nat.le_trans (Nat.le_of_ble_eq_true rfl) hR.2.2.1, Nat.le_trans (Nat.le_of_ble_eq_true rfl) hR.2.2.2⟩ rfl (Nat.le_of_ble_eq_true rfl) dX5_init_108 [14] [0, 1, 2, 3, 4, 5, 6, 7, 8, 9, 10, 11, 12, 13] [[(h, .inr (5, [.ref (a5_1 0), .ref (a16_2 0), .ref (a27_3 0), .ref (a38_4 0), .ref (a49_5 0), .ref (a60_6 0), .null, .ref q73]))], hC cI a5_1 (4, 0, 0, 0, fun _ => 0, fun _ => 0, fun _ => 0), hC cI a16_2 (4, 0, 0, 0, fun _ => 0, fun _ => 0, fun _ => 0), hC cI a27_3 (4, 0, 0, 0, fun _ => 0, fun _ => 0, fun _ => 0), dC cI a38_4 (0, fun _ => 0), pC cI a49_5 (0, 0, fun _ => 0, fun _ => 0), qC cI a60_6 (0, 0, fun _ => 0, fun _ => 0, fun _ => 0), [(q73, .inl (cI, 48, .inl (fun _ => 0)))], iC cI a78_7 (a5_1 0) none (0, 0, fun _ => 0, fun _ => 0, 0, fun _ => 0, 0, fun _ => 0, fun _ => 0, fun _ => 0, fun _ => 0, 0, 0, 0), iC cI a99_8 (a5_1 0) (some (a78_7 0)) (0, 0, fun _ => 0, fun _ => 0, 0, fun _ => 0, 0, fun _ => 0, fun _ => 0, fun _ => 0, fun _ => 0, 0, 0, 0), iC cI a99_9 (a5_1 0) (some (a99_8 0)) (0, 0, fun _ => 0, fun _ => 0, 0, fun _ => 0, 0, fun _ => 0, fun _ => 0, fun _ => 0, fun _ => 0, 0, 0, 0), iC cI a99_10 (a5_1 0) (some (a99_9 0)) (0, 0, fun _ => 0, fun _ => 0, 0, fun _ => 0, 0, fun _ => 0, fun _ => 0, fun _ => 0, fun _ => 0, 0, 0, 0), iC cI a99_11 (a5_1 0) (some (a99_10 0)) (0, 0, fun _ => 0, fun _ => 0, 0, fun _ => 0, 0, fun _ => 0, fun _ => 0, fun _ => 0, fun _ => 0, 0, 0, 0), iC cI a99_12 (a5_1 0) (some (a99_11 0)) (0, 0, fun _ => 0, fun _ => 0, 0, fun _ => 0, 0, fun _ => 0, fun _ => 0, fun _ => 0, fun _ => 0, 0, 0, 0)] 111 rfl rfl rfl rfl (by decide) rfl (fun v W1 hp => ?_)
  obtain ⟨rfl, a99_13, ha, rfl⟩ := hp
  subst ha
  refine gq_ws (ws' := [[(h, .inr (5, [.ref (a5_1 0), .ref (a16_2 0), .ref (a27_3 0), .ref (a38_4 0), .ref (a49_5 0), .ref (a60_6 0), .null, .ref q73]))], hC cI a5_1 (4, 0, 0, 0, fun _ => 0, fun _ => 0, fun _ => 0), hC cI a16_2 (4, 0, 0, 0, fun _ => 0, fun _ => 0, fun _ => 0), hC cI a27_3 (4, 0, 0, 0, fun _ => 0, fun _ => 0, fun _ => 0), dC cI a38_4 (0, fun _ => 0), pC cI a49_5 (0, 0, fun _ => 0, fun _ => 0), qC cI a60_6 (0, 0, fun _ => 0, fun _ => 0, fun _ => 0), [(q73, .inl (cI, 48, .inl (fun _ => 0)))], iC cI a78_7 (a5_1 0) none (0, 0, fun _ => 0, fun _ => 0, 0, fun _ => 0, 0, fun _ => 0, fun _ => 0, fun _ => 0, fun _ => 0, 0, 0, 0), iC cI a99_8 (a5_1 0) (some (a78_7 0)) (0, 0, fun _ => 0, fun _ => 0, 0, fun _ => 0, 0, fun _ => 0, fun _ => 0, fun _ => 0, fun _ => 0, 0, 0, 0), iC cI a99_9 (a5_1 0) (some (a99_8 0)) (0, 0, fun _ => 0, fun _ => 0, 0, fun _ => 0, 0, fun _ => 0, fun _ => 0, fun _ => 0, fun _ => 0, 0, 0, 0), iC cI a99_10 (a5_1 0) (some (a99_9 0)) (0, 0, fun _ => 0, fun _ => 0, 0, fun _ => 0, 0, fun _ => 0, fun _ => 0, fun _ => 0, fun _ => 0, 0, 0, 0), iC cI a99_11 (a5_1 0) (some (a99_10 0)) (0, 0, fun _ => 0, fun _ => 0, 0, fun _ => 0, 0, fun _ => 0, fun _ => 0, fun _ => 0, fun _ => 0, 0, 0, 0), iC cI a99_12 (a5_1 0) (some (a99_11 0)) (0, 0, fun _ => 0, fun _ => 0, 0, fun _ => 0, 0, fun _ => 0, fun _ => 0, fun _ => 0, fun _ => 0, 0, 0, 0), iC cI a99_13 (a5_1 0) (some (a99_12 0)) (0, 0, fun _ => 0, fun _ => 0, 0, fun _ => 0, 0, fun _ => 0, fun _ => 0, fun _ => 0, fun _ => 0, 0, 0, 0)]) rfl ?_
  show G p l e R s m args below meth c 3 D A H0 _ _ Q _ 111 [(2, .int (5 : Int32)), (1, .ref (a99_12 0)), (0, .ref h)] [.ref (a99_13 0)]
  refine gq_astore_n C [(1, .ref (a99_13 0)), (2, .int (5 : Int32)), (0, .ref h)] 112 dX5_init_111 (by decide) rfl rfl ?_
  refine gq_iinc C 1 [(2, .int (6 : Int32)), (1, .ref (a99_13 0)), (0, .ref h)] 115 dX5_init_112 rfl (by decide) (by decide) rfl rfl ?_
  refine gq_goto C 93 dX5_init_115 (by decide) ?_
  refine gq_iload_n C 0 94 dX5_init_93 rfl rfl ?_
  refine gq_bipush C (8 : Int32) 96 dX5_init_94 (by decide) rfl ?_
  refine gq_icmp_ge C 118 99 dX5_init_96 (by decide) rfl (fun h => absurd h (by decide)) (fun _ => ?_)
  refine gq_new C hA (ci := 3) (ty := tyX3) [.null, .null, .int 0, .int 0, .null, .null, .int 0, .null, .int 0, .null, .null, .null, .null, .int 0, .int 0, .int 0] 102 rfl inlX3 tyX3_ok (fun j hj => by rcases (show j = 0 ∨ j = 1 ∨ j = 2 ∨ j = 3 ∨ j = 4 ∨ j = 5 ∨ j = 6 ∨ j = 7 ∨ j = 8 ∨ j = 9 ∨ j = 10 ∨ j = 11 ∨ j = 12 ∨ j = 13 ∨ j = 14 ∨ j = 15 by omega) with rfl | rfl | rfl | rfl | rfl | rfl | rfl | rfl | rfl | rfl | rfl | rfl | rfl | rfl | rfl | rfl <;> rfl) (wl_2 _ (List.mem_of_getElem? (i := 8) rfl)) (wl_2 _ (List.mem_of_getElem? (i := 9) rfl)) (wl_2 _ (List.mem_of_getElem? (i := 10) rfl)) (Nat.le_trans (Nat.le_of_ble_eq_true rfl) hR.2.2.1) (Nat.le_trans (Nat.le_of_ble_eq_true rfl) hR.2.2.2) dX5_init_99 rfl (fun q99_14 => ?_)
  refine gq_dup C 103 dX5_init_102 rfl rfl ?_
  refine gq_aload_n C 2 104 dX5_init_103 rfl rfl ?_
  refine gq_get C fo_X5_0 fw_X5_12 0 0 107 rfl rfl rfl dX5_init_104 rfl ?_
  refine gq_aload_n C 1 108 dX5_init_107 rfl rfl ?_
  refine gq_callIN (k := 2) C hA gm_X5_49 ⟨rfl, by decide, by decide, by decide +kernel⟩ (c_X3_init l D cI cZ q99_14 (a5_1 0) (some (a99_13 0))) rfl ⟨Nat.le_trans (Nat.le_of_ble_eq_true rfl) hR.1, Nat.le_trans (Nat.le_of_ble_eq_true rfl) hR.2.1⟩ ⟨Nat.le_trans (Nat.le_of_ble_eq_true rfl) hR.2.2.1, Nat.le_trans (Nat.le_of_ble_eq_true rfl) hR.2.2.2⟩ rfl (Nat.le_of_ble_eq_true rfl) dX5_init_108 [15] [0, 1, 2, 3, 4, 5, 6, 7, 8, 9, 10, 11, 12, 13, 14] [[(h, .inr (5, [.ref (a5_1 0), .ref (a16_2 0), .ref (a27_3 0), .ref (a38_4 0), .ref (a49_5 0), .ref (a60_6 0), .null, .ref q73]))], hC cI a5_1 (4, 0, 0, 0, fun _ => 0, fun _ => 0, fun _ => 0), hC cI a16_2 (4, 0, 0, 0, fun _ => 0, fun _ => 0, fun _ => 0), hC cI a27_3 (4, 0, 0, 0, fun _ => 0, fun _ => 0, fun _ => 0), dC cI a38_4 (0, fun _ => 0), pC cI a49_5 (0, 0, fun _ => 0, fun _ => 0), qC cI a60_6 (0, 0, fun _ => 0, fun _ => 0, fun _ => 0), [(q73, .inl (cI, 48, .inl (fun _ => 0)))], iC cI a78_7 (a5_1 0) none (0, 0, fun _ => 0, fun _ => 0, 0, fun _ => 0, 0, fun _ => 0, fun _ => 0, fun _ => 0, fun _ => 0, 0, 0, 0), iC cI a99_8 (a5_1 0) (some (a78_7 0)) (0, 0, fun _ => 0, fun _ => 0, 0, fun _ => 0, 0, fun _ => 0, fun _ => 0, fun _ => 0, fun _ => 0, 0, 0, 0), iC cI a99_9 (a5_1 0) (some (a99_8 0)) (0, 0, fun _ => 0, fun _ => 0, 0, fun _ => 0, 0, fun _ => 0, fun _ => 0, fun _ => 0, fun _ => 0, 0, 0, 0), iC cI a99_10 (a5_1 0) (some (a99_9 0)) (0, 0, fun _ => 0, fun _ => 0, 0, fun _ => 0, 0, fun _ => 0, fun _ => 0, fun _ => 0, fun _ => 0, 0, 0, 0), iC cI a99_11 (a5_1 0) (some (a99_10 0)) (0, 0, fun _ => 0, fun _ => 0, 0, fun _ => 0, 0, fun _ => 0, fun _ => 0, fun _ => 0, fun _ => 0, 0, 0, 0), iC cI a99_12 (a5_1 0) (some (a99_11 0)) (0, 0, fun _ => 0, fun _ => 0, 0, fun _ => 0, 0, fun _ => 0, fun _ => 0, fun _ => 0, fun _ => 0, 0, 0, 0), iC cI a99_13 (a5_1 0) (some (a99_12 0)) (0, 0, fun _ => 0, fun _ => 0, 0, fun _ => 0, 0, fun _ => 0, fun _ => 0, fun _ => 0, fun _ => 0, 0, 0, 0)] 111 rfl rfl rfl rfl (by decide) rfl (fun v W1 hp => ?_)
  obtain ⟨rfl, a99_14, ha, rfl⟩ := hp
  subst ha
  refine gq_ws (ws' := [[(h, .inr (5, [.ref (a5_1 0), .ref (a16_2 0), .ref (a27_3 0), .ref (a38_4 0), .ref (a49_5 0), .ref (a60_6 0), .null, .ref q73]))], hC cI a5_1 (4, 0, 0, 0, fun _ => 0, fun _ => 0, fun _ => 0), hC cI a16_2 (4, 0, 0, 0, fun _ => 0, fun _ => 0, fun _ => 0), hC cI a27_3 (4, 0, 0, 0, fun _ => 0, fun _ => 0, fun _ => 0), dC cI a38_4 (0, fun _ => 0), pC cI a49_5 (0, 0, fun _ => 0, fun _ => 0), qC cI a60_6 (0, 0, fun _ => 0, fun _ => 0, fun _ => 0), [(q73, .inl (cI, 48, .inl (fun _ => 0)))], iC cI a78_7 (a5_1 0) none (0, 0, fun _ => 0, fun _ => 0, 0, fun _ => 0, 0, fun _ => 0, fun _ => 0, fun _ => 0, fun _ => 0, 0, 0, 0), iC cI a99_8 (a5_1 0) (some (a78_7 0)) (0, 0, fun _ => 0, fun _ => 0, 0, fun _ => 0, 0, fun _ => 0, fun _ => 0, fun _ => 0, fun _ => 0, 0, 0, 0), iC cI a99_9 (a5_1 0) (some (a99_8 0)) (0, 0, fun _ => 0, fun _ => 0, 0, fun _ => 0, 0, fun _ => 0, fun _ => 0, fun _ => 0, fun _ => 0, 0, 0, 0), iC cI a99_10 (a5_1 0) (some (a99_9 0)) (0, 0, fun _ => 0, fun _ => 0, 0, fun _ => 0, 0, fun _ => 0, fun _ => 0, fun _ => 0, fun _ => 0, 0, 0, 0), iC cI a99_11 (a5_1 0) (some (a99_10 0)) (0, 0, fun _ => 0, fun _ => 0, 0, fun _ => 0, 0, fun _ => 0, fun _ => 0, fun _ => 0, fun _ => 0, 0, 0, 0), iC cI a99_12 (a5_1 0) (some (a99_11 0)) (0, 0, fun _ => 0, fun _ => 0, 0, fun _ => 0, 0, fun _ => 0, fun _ => 0, fun _ => 0, fun _ => 0, 0, 0, 0), iC cI a99_13 (a5_1 0) (some (a99_12 0)) (0, 0, fun _ => 0, fun _ => 0, 0, fun _ => 0, 0, fun _ => 0, fun _ => 0, fun _ => 0, fun _ => 0, 0, 0, 0), iC cI a99_14 (a5_1 0) (some (a99_13 0)) (0, 0, fun _ => 0, fun _ => 0, 0, fun _ => 0, 0, fun _ => 0, fun _ => 0, fun _ => 0, fun _ => 0, 0, 0, 0)]) rfl ?_
  show G p l e R s m args below meth c 3 D A H0 _ _ Q _ 111 [(2, .int (6 : Int32)), (1, .ref (a99_13 0)), (0, .ref h)] [.ref (a99_14 0)]
  refine gq_astore_n C [(1, .ref (a99_14 0)), (2, .int (6 : Int32)), (0, .ref h)] 112 dX5_init_111 (by decide) rfl rfl ?_
  refine gq_iinc C 1 [(2, .int (7 : Int32)), (1, .ref (a99_14 0)), (0, .ref h)] 115 dX5_init_112 rfl (by decide) (by decide) rfl rfl ?_
  refine gq_goto C 93 dX5_init_115 (by decide) ?_
  refine gq_iload_n C 0 94 dX5_init_93 rfl rfl ?_
  refine gq_bipush C (8 : Int32) 96 dX5_init_94 (by decide) rfl ?_
  refine gq_icmp_ge C 118 99 dX5_init_96 (by decide) rfl (fun h => absurd h (by decide)) (fun _ => ?_)
  refine gq_new C hA (ci := 3) (ty := tyX3) [.null, .null, .int 0, .int 0, .null, .null, .int 0, .null, .int 0, .null, .null, .null, .null, .int 0, .int 0, .int 0] 102 rfl inlX3 tyX3_ok (fun j hj => by rcases (show j = 0 ∨ j = 1 ∨ j = 2 ∨ j = 3 ∨ j = 4 ∨ j = 5 ∨ j = 6 ∨ j = 7 ∨ j = 8 ∨ j = 9 ∨ j = 10 ∨ j = 11 ∨ j = 12 ∨ j = 13 ∨ j = 14 ∨ j = 15 by omega) with rfl | rfl | rfl | rfl | rfl | rfl | rfl | rfl | rfl | rfl | rfl | rfl | rfl | rfl | rfl | rfl <;> rfl) (wl_2 _ (List.mem_of_getElem? (i := 8) rfl)) (wl_2 _ (List.mem_of_getElem? (i := 9) rfl)) (wl_2 _ (List.mem_of_getElem? (i := 10) rfl)) (Nat.le_trans (Nat.le_of_ble_eq_true rfl) hR.2.2.1) (Nat.le_trans (Nat.le_of_ble_eq_true rfl) hR.2.2.2) dX5_init_99 rfl (fun q99_15 => ?_)
  refine gq_dup C 103 dX5_init_102 rfl rfl ?_
  refine gq_aload_n C 2 104 dX5_init_103 rfl rfl ?_
  refine gq_get C fo_X5_0 fw_X5_12 0 0 107 rfl rfl rfl dX5_init_104 rfl ?_
  refine gq_aload_n C 1 108 dX5_init_107 rfl rfl ?_
  refine gq_callIN (k := 2) C hA gm_X5_49 ⟨rfl, by decide, by decide, by decide +kernel⟩ (c_X3_init l D cI cZ q99_15 (a5_1 0) (some (a99_14 0))) rfl ⟨Nat.le_trans (Nat.le_of_ble_eq_true rfl) hR.1, Nat.le_trans (Nat.le_of_ble_eq_true rfl) hR.2.1⟩ ⟨Nat.le_trans (Nat.le_of_ble_eq_true rfl) hR.2.2.1, Nat.le_trans (Nat.le_of_ble_eq_true rfl) hR.2.2.2⟩ rfl (Nat.le_of_ble_eq_true rfl) dX5_init_108 [16] [0, 1, 2, 3, 4, 5, 6, 7, 8, 9, 10, 11, 12, 13, 14, 15] [[(h, .inr (5, [.ref (a5_1 0), .ref (a16_2 0), .ref (a27_3 0), .ref (a38_4 0), .ref (a49_5 0), .ref (a60_6 0), .null, .ref q73]))], hC cI a5_1 (4, 0, 0, 0, fun _ => 0, fun _ => 0, fun _ => 0), hC cI a16_2 (4, 0, 0, 0, fun _ => 0, fun _ => 0, fun _ => 0), hC cI a27_3 (4, 0, 0, 0, fun _ => 0, fun _ => 0, fun _ => 0), dC cI a38_4 (0, fun _ => 0), pC cI a49_5 (0, 0, fun _ => 0, fun _ => 0), qC cI a60_6 (0, 0, fun _ => 0, fun _ => 0, fun _ => 0), [(q73, .inl (cI, 48, .inl (fun _ => 0)))], iC cI a78_7 (a5_1 0) none (0, 0, fun _ => 0, fun _ => 0, 0, fun _ => 0, 0, fun _ => 0, fun _ => 0, fun _ => 0, fun _ => 0, 0, 0, 0), iC cI a99_8 (a5_1 0) (some (a78_7 0)) (0, 0, fun _ => 0, fun _ => 0, 0, fun _ => 0, 0, fun _ => 0, fun _ => 0, fun _ => 0, fun _ => 0, 0, 0, 0), iC cI a99_9 (a5_1 0) (some (a99_8 0)) (0, 0, fun _ => 0, fun _ => 0, 0, fun _ => 0, 0, fun _ => 0, fun _ => 0, fun _ => 0, fun _ => 0, 0, 0, 0), iC cI a99_10 (a5_1 0) (some (a99_9 0)) (0, 0, fun _ => 0, fun _ => 0, 0, fun _ => 0, 0, fun _ => 0, fun _ => 0, fun _ => 0, fun _ => 0, 0, 0, 0), iC cI a99_11 (a5_1 0) (some (a99_10 0)) (0, 0, fun _ => 0, fun _ => 0, 0, fun _ => 0, 0, fun _ => 0, fun _ => 0, fun _ => 0, fun _ => 0, 0, 0, 0), iC cI a99_12 (a5_1 0) (some (a99_11 0)) (0, 0, fun _ => 0, fun _ => 0, 0, fun _ => 0, 0, fun _ => 0, fun _ => 0, fun _ => 0, fun _ => 0, 0, 0, 0), iC cI a99_13 (a5_1 0) (some (a99_12 0)) (0, 0, fun _ => 0, fun _ => 0, 0, fun _ => 0, 0, fun _ => 0, fun _ => 0, fun _ => 0, fun _ => 0, 0, 0, 0), iC cI a99_14 (a5_1 0) (some (a99_13 0)) (0, 0, fun _ => 0, fun _ => 0, 0, fun _ => 0, 0, fun _ => 0, fun _ => 0, fun _ => 0, fun _ => 0, 0, 0, 0)] 111 rfl rfl rfl rfl (by decide) rfl (fun v W1 hp => ?_)
  obtain ⟨rfl, a99_15, ha, rfl⟩ := hp
  subst ha
  refine gq_ws (ws' := [[(h, .inr (5, [.ref (a5_1 0), .ref (a16_2 0), .ref (a27_3 0), .ref (a38_4 0), .ref (a49_5 0), .ref (a60_6 0), .null, .ref q73]))], hC cI a5_1 (4, 0, 0, 0, fun _ => 0, fun _ => 0, fun _ => 0), hC cI a16_2 (4, 0, 0, 0, fun _ => 0, fun _ => 0, fun _ => 0), hC cI a27_3 (4, 0, 0, 0, fun _ => 0, fun _ => 0, fun _ => 0), dC cI a38_4 (0, fun _ => 0), pC cI a49_5 (0, 0, fun _ => 0, fun _ => 0), qC cI a60_6 (0, 0, fun _ => 0, fun _ => 0, fun _ => 0), [(q73, .inl (cI, 48, .inl (fun _ => 0)))], iC cI a78_7 (a5_1 0) none (0, 0, fun _ => 0, fun _ => 0, 0, fun _ => 0, 0, fun _ => 0, fun _ => 0, fun _ => 0, fun _ => 0, 0, 0, 0), iC cI a99_8 (a5_1 0) (some (a78_7 0)) (0, 0, fun _ => 0, fun _ => 0, 0, fun _ => 0, 0, fun _ => 0, fun _ => 0, fun _ => 0, fun _ => 0, 0, 0, 0), iC cI a99_9 (a5_1 0) (some (a99_8 0)) (0, 0, fun _ => 0, fun _ => 0, 0, fun _ => 0, 0, fun _ => 0, fun _ => 0, fun _ => 0, fun _ => 0, 0, 0, 0), iC cI a99_10 (a5_1 0) (some (a99_9 0)) (0, 0, fun _ => 0, fun _ => 0, 0, fun _ => 0, 0, fun _ => 0, fun _ => 0, fun _ => 0, fun _ => 0, 0, 0, 0), iC cI a99_11 (a5_1 0) (some (a99_10 0)) (0, 0, fun _ => 0, fun _ => 0, 0, fun _ => 0, 0, fun _ => 0, fun _ => 0, fun _ => 0, fun _ => 0, 0, 0, 0), iC cI a99_12 (a5_1 0) (some (a99_11 0)) (0, 0, fun _ => 0, fun _ => 0, 0, fun _ => 0, 0, fun _ => 0, fun _ => 0, fun _ => 0, fun _ => 0, 0, 0, 0), iC cI a99_13 (a5_1 0) (some (a99_12 0)) (0, 0, fun _ => 0, fun _ => 0, 0, fun _ => 0, 0, fun _ => 0, fun _ => 0, fun _ => 0, fun _ => 0, 0, 0, 0), iC cI a99_14 (a5_1 0) (some (a99_13 0)) (0, 0, fun _ => 0, fun _ => 0, 0, fun _ => 0, 0, fun _ => 0, fun _ => 0, fun _ => 0, fun _ => 0, 0, 0, 0), iC cI a99_15 (a5_1 0) (some (a99_14 0)) (0, 0, fun _ => 0, fun _ => 0, 0, fun _ => 0, 0, fun _ => 0, fun _ => 0, fun _ => 0, fun _ => 0, 0, 0, 0)]) rfl ?_
  show G p l e R s m args below meth c 3 D A H0 _ _ Q _ 111 [(2, .int (7 : Int32)), (1, .ref (a99_14 0)), (0, .ref h)] [.ref (a99_15 0)]
  refine gq_astore_n C [(1, .ref (a99_15 0)), (2, .int (7 : Int32)), (0, .ref h)] 112 dX5_init_111 (by decide) rfl rfl ?_
  refine gq_iinc C 1 [(2, .int (8 : Int32)), (1, .ref (a99_15 0)), (0, .ref h)] 115 dX5_init_112 rfl (by decide) (by decide) rfl rfl ?_
  refine gq_goto C 93 dX5_init_115 (by decide) ?_
  refine gq_iload_n C 0 94 dX5_init_93 rfl rfl ?_
  refine gq_bipush C (8 : Int32) 96 dX5_init_94 (by decide) rfl ?_
  refine gq_icmp_ge C 118 99 dX5_init_96 (by decide) rfl (fun _ => ?_) (fun h => absurd (by decide) h)
  refine gq_aload_n C 2 119 dX5_init_118 rfl rfl ?_
  refine gq_aload_n C 1 120 dX5_init_119 rfl rfl ?_
  refine gq_putF C hnm fo_X5_6 fp_X5_6 rfl rfl fw_X5_52 0 0 123 [[(h, .inr (5, [.ref (a5_1 0), .ref (a16_2 0), .ref (a27_3 0), .ref (a38_4 0), .ref (a49_5 0), .ref (a60_6 0), .ref (a99_15 0), .ref q73]))], hC cI a5_1 (4, 0, 0, 0, fun _ => 0, fun _ => 0, fun _ => 0), hC cI a16_2 (4, 0, 0, 0, fun _ => 0, fun _ => 0, fun _ => 0), hC cI a27_3 (4, 0, 0, 0, fun _ => 0, fun _ => 0, fun _ => 0), dC cI a38_4 (0, fun _ => 0), pC cI a49_5 (0, 0, fun _ => 0, fun _ => 0), qC cI a60_6 (0, 0, fun _ => 0, fun _ => 0, fun _ => 0), [(q73, .inl (cI, 48, .inl (fun _ => 0)))], iC cI a78_7 (a5_1 0) none (0, 0, fun _ => 0, fun _ => 0, 0, fun _ => 0, 0, fun _ => 0, fun _ => 0, fun _ => 0, fun _ => 0, 0, 0, 0), iC cI a99_8 (a5_1 0) (some (a78_7 0)) (0, 0, fun _ => 0, fun _ => 0, 0, fun _ => 0, 0, fun _ => 0, fun _ => 0, fun _ => 0, fun _ => 0, 0, 0, 0), iC cI a99_9 (a5_1 0) (some (a99_8 0)) (0, 0, fun _ => 0, fun _ => 0, 0, fun _ => 0, 0, fun _ => 0, fun _ => 0, fun _ => 0, fun _ => 0, 0, 0, 0), iC cI a99_10 (a5_1 0) (some (a99_9 0)) (0, 0, fun _ => 0, fun _ => 0, 0, fun _ => 0, 0, fun _ => 0, fun _ => 0, fun _ => 0, fun _ => 0, 0, 0, 0), iC cI a99_11 (a5_1 0) (some (a99_10 0)) (0, 0, fun _ => 0, fun _ => 0, 0, fun _ => 0, 0, fun _ => 0, fun _ => 0, fun _ => 0, fun _ => 0, 0, 0, 0), iC cI a99_12 (a5_1 0) (some (a99_11 0)) (0, 0, fun _ => 0, fun _ => 0, 0, fun _ => 0, 0, fun _ => 0, fun _ => 0, fun _ => 0, fun _ => 0, 0, 0, 0), iC cI a99_13 (a5_1 0) (some (a99_12 0)) (0, 0, fun _ => 0, fun _ => 0, 0, fun _ => 0, 0, fun _ => 0, fun _ => 0, fun _ => 0, fun _ => 0, 0, 0, 0), iC cI a99_14 (a5_1 0) (some (a99_13 0)) (0, 0, fun _ => 0, fun _ => 0, 0, fun _ => 0, 0, fun _ => 0, fun _ => 0, fun _ => 0, fun _ => 0, 0, 0, 0), iC cI a99_15 (a5_1 0) (some (a99_14 0)) (0, 0, fun _ => 0, fun _ => 0, 0, fun _ => 0, 0, fun _ => 0, fun _ => 0, fun _ => 0, fun _ => 0, 0, 0, 0)] rfl rfl rfl rfl (Nat.le_of_ble_eq_true rfl) rfl dX5_init_120 rfl ?_
  refine gq_perm (ws' := [[(h, .inr (5, [.ref (a5_1 0), .ref (a16_2 0), .ref (a27_3 0), .ref (a38_4 0), .ref (a49_5 0), .ref (a60_6 0), .ref (a99_15 0), .ref q73]))], [(q73, .inl (cI, 48, .inl (fun _ => 0)))], hC cI a5_1 (4, 0, 0, 0, fun _ => 0, fun _ => 0, fun _ => 0), hC cI a16_2 (4, 0, 0, 0, fun _ => 0, fun _ => 0, fun _ => 0), hC cI a27_3 (4, 0, 0, 0, fun _ => 0, fun _ => 0, fun _ => 0), dC cI a38_4 (0, fun _ => 0), pC cI a49_5 (0, 0, fun _ => 0, fun _ => 0), qC cI a60_6 (0, 0, fun _ => 0, fun _ => 0, fun _ => 0), iC cI a99_15 (a5_1 0) (some (a99_14 0)) (0, 0, fun _ => 0, fun _ => 0, 0, fun _ => 0, 0, fun _ => 0, fun _ => 0, fun _ => 0, fun _ => 0, 0, 0, 0), iC cI a99_14 (a5_1 0) (some (a99_13 0)) (0, 0, fun _ => 0, fun _ => 0, 0, fun _ => 0, 0, fun _ => 0, fun _ => 0, fun _ => 0, fun _ => 0, 0, 0, 0), iC cI a99_13 (a5_1 0) (some (a99_12 0)) (0, 0, fun _ => 0, fun _ => 0, 0, fun _ => 0, 0, fun _ => 0, fun _ => 0, fun _ => 0, fun _ => 0, 0, 0, 0), iC cI a99_12 (a5_1 0) (some (a99_11 0)) (0, 0, fun _ => 0, fun _ => 0, 0, fun _ => 0, 0, fun _ => 0, fun _ => 0, fun _ => 0, fun _ => 0, 0, 0, 0), iC cI a99_11 (a5_1 0) (some (a99_10 0)) (0, 0, fun _ => 0, fun _ => 0, 0, fun _ => 0, 0, fun _ => 0, fun _ => 0, fun _ => 0, fun _ => 0, 0, 0, 0), iC cI a99_10 (a5_1 0) (some (a99_9 0)) (0, 0, fun _ => 0, fun _ => 0, 0, fun _ => 0, 0, fun _ => 0, fun _ => 0, fun _ => 0, fun _ => 0, 0, 0, 0), iC cI a99_9 (a5_1 0) (some (a99_8 0)) (0, 0, fun _ => 0, fun _ => 0, 0, fun _ => 0, 0, fun _ => 0, fun _ => 0, fun _ => 0, fun _ => 0, 0, 0, 0), iC cI a99_8 (a5_1 0) (some (a78_7 0)) (0, 0, fun _ => 0, fun _ => 0, 0, fun _ => 0, 0, fun _ => 0, fun _ => 0, fun _ => 0, fun _ => 0, 0, 0, 0), iC cI a78_7 (a5_1 0) none (0, 0, fun _ => 0, fun _ => 0, 0, fun _ => 0, 0, fun _ => 0, fun _ => 0, fun _ => 0, fun _ => 0, 0, 0, 0)]) [0, 7, 1, 2, 3, 4, 5, 6, 16, 15, 14, 13, 12, 11, 10, 9, 8] rfl rfl ?_
  refine gq_flat (ws' := [bC cI (gA [h, q73]) (a5_1 0) (a16_2 0) (a27_3 0) (a38_4 0) (a49_5 0) (a60_6 0) (a99_15 0) (fun _ => 0), hC cI a5_1 (4, 0, 0, 0, fun _ => 0, fun _ => 0, fun _ => 0), hC cI a16_2 (4, 0, 0, 0, fun _ => 0, fun _ => 0, fun _ => 0), hC cI a27_3 (4, 0, 0, 0, fun _ => 0, fun _ => 0, fun _ => 0), dC cI a38_4 (0, fun _ => 0), pC cI a49_5 (0, 0, fun _ => 0, fun _ => 0), qC cI a60_6 (0, 0, fun _ => 0, fun _ => 0, fun _ => 0), iC cI a99_15 (a5_1 0) (nx [a99_14, a99_13, a99_12, a99_11, a99_10, a99_9, a99_8, a78_7]) innS0, chW cI (a5_1 0) [a99_14, a99_13, a99_12, a99_11, a99_10, a99_9, a99_8, a78_7] (List.replicate 8 innS0)]) rfl ?_
  exact hret dX5_init_123 ⟨rfl, gA [h, q73], a5_1, a16_2, a27_3, a38_4, a49_5, a60_6, a99_15, [a99_14, a99_13, a99_12, a99_11, a99_10, a99_9, a99_8, a78_7], rfl, rfl, rfl⟩
end
