-- ===== PART A: goes FIRST, ahead of the names: the tables' words, and 'selects' of the private methods out of them =====
/-- a private method of a class that the tables say can be made, by its rows of tables_1 -/
def lw_okq (q : MethodName × Nat) : Prop := (q.1.cls ≠ "java/lang/invoke/MethodHandle" ∧ q.1.cls ≠ "java/lang/invoke/VarHandle") ∧ Cond.instantiable q.1.cls q.2 ∈ tables_1 ∧ Cond.privateMethod q.1 ∈ tables_1 ∧ Cond.instanceMethod q.1 ∈ tables_1
theorem lw_p0 : lw_okq (⟨"WarmBeds$House", "furnish", "(I)V"⟩, 7) := ⟨⟨by decide +kernel, by decide +kernel⟩, List.mem_of_getElem? (i := 19) (by decide +kernel), List.mem_of_getElem? (i := 204) (by decide +kernel), List.mem_of_getElem? (i := 205) (by decide +kernel)⟩
theorem lw_p1 : lw_okq (⟨"WarmBeds", "isBed", "(I)Z"⟩, 8) := ⟨⟨by decide +kernel, by decide +kernel⟩, List.mem_of_getElem? (i := 11) (by decide +kernel), List.mem_of_getElem? (i := 215) (by decide +kernel), List.mem_of_getElem? (i := 216) (by decide +kernel)⟩
theorem lw_p2 : lw_okq (⟨"WarmBeds$House", "worthOf", "(II)I"⟩, 7) := ⟨⟨by decide +kernel, by decide +kernel⟩, List.mem_of_getElem? (i := 19) (by decide +kernel), List.mem_of_getElem? (i := 219) (by decide +kernel), List.mem_of_getElem? (i := 220) (by decide +kernel)⟩
theorem lw_p3 : lw_okq (⟨"WarmBeds$House", "setWorth", "(III)V"⟩, 7) := ⟨⟨by decide +kernel, by decide +kernel⟩, List.mem_of_getElem? (i := 19) (by decide +kernel), List.mem_of_getElem? (i := 223) (by decide +kernel), List.mem_of_getElem? (i := 224) (by decide +kernel)⟩
theorem lw_p4 : lw_okq (⟨"WarmBeds$Day", "isFull", "()Z"⟩, 2) := ⟨⟨by decide +kernel, by decide +kernel⟩, List.mem_of_getElem? (i := 53) (by decide +kernel), List.mem_of_getElem? (i := 236) (by decide +kernel), List.mem_of_getElem? (i := 237) (by decide +kernel)⟩
theorem lw_p5 : lw_okq (⟨"WarmBeds$Day", "write", "(I)V"⟩, 2) := ⟨⟨by decide +kernel, by decide +kernel⟩, List.mem_of_getElem? (i := 53) (by decide +kernel), List.mem_of_getElem? (i := 240) (by decide +kernel), List.mem_of_getElem? (i := 241) (by decide +kernel)⟩
theorem lw_p6 : lw_okq (⟨"WarmBeds$Day", "firstFault", "()I"⟩, 2) := ⟨⟨by decide +kernel, by decide +kernel⟩, List.mem_of_getElem? (i := 53) (by decide +kernel), List.mem_of_getElem? (i := 252) (by decide +kernel), List.mem_of_getElem? (i := 253) (by decide +kernel)⟩
theorem lw_p7 : lw_okq (⟨"WarmBeds$Day", "signAt", "(I)I"⟩, 2) := ⟨⟨by decide +kernel, by decide +kernel⟩, List.mem_of_getElem? (i := 53) (by decide +kernel), List.mem_of_getElem? (i := 256) (by decide +kernel), List.mem_of_getElem? (i := 257) (by decide +kernel)⟩
theorem lw_p8 : lw_okq (⟨"WarmBeds$Day", "isUntold", "(I)Z"⟩, 2) := ⟨⟨by decide +kernel, by decide +kernel⟩, List.mem_of_getElem? (i := 53) (by decide +kernel), List.mem_of_getElem? (i := 273) (by decide +kernel), List.mem_of_getElem? (i := 274) (by decide +kernel)⟩
theorem lw_p9 : lw_okq (⟨"WarmBeds$Day", "nextUntold", "(I)I"⟩, 2) := ⟨⟨by decide +kernel, by decide +kernel⟩, List.mem_of_getElem? (i := 53) (by decide +kernel), List.mem_of_getElem? (i := 277) (by decide +kernel), List.mem_of_getElem? (i := 278) (by decide +kernel)⟩
theorem lw_p10 : lw_okq (⟨"WarmBeds$Inn", "open", "(I)V"⟩, 16) := ⟨⟨by decide +kernel, by decide +kernel⟩, List.mem_of_getElem? (i := 111) (by decide +kernel), List.mem_of_getElem? (i := 281) (by decide +kernel), List.mem_of_getElem? (i := 282) (by decide +kernel)⟩
theorem lw_p11 : lw_okq (⟨"WarmBeds$Inn", "leaveEmpty", "(I)V"⟩, 16) := ⟨⟨by decide +kernel, by decide +kernel⟩, List.mem_of_getElem? (i := 111) (by decide +kernel), List.mem_of_getElem? (i := 285) (by decide +kernel), List.mem_of_getElem? (i := 286) (by decide +kernel)⟩
theorem lw_p12 : lw_okq (⟨"WarmBeds$Inn", "live", "(LWarmBeds$Day;II)I"⟩, 16) := ⟨⟨by decide +kernel, by decide +kernel⟩, List.mem_of_getElem? (i := 111) (by decide +kernel), List.mem_of_getElem? (i := 289) (by decide +kernel), List.mem_of_getElem? (i := 290) (by decide +kernel)⟩
theorem lw_p13 : lw_okq (⟨"WarmBeds$Inn", "whyNot", "(I)I"⟩, 16) := ⟨⟨by decide +kernel, by decide +kernel⟩, List.mem_of_getElem? (i := 111) (by decide +kernel), List.mem_of_getElem? (i := 294) (by decide +kernel), List.mem_of_getElem? (i := 295) (by decide +kernel)⟩
theorem lw_p14 : lw_okq (⟨"WarmBeds$Inn", "isThere", "(I)Z"⟩, 16) := ⟨⟨by decide +kernel, by decide +kernel⟩, List.mem_of_getElem? (i := 111) (by decide +kernel), List.mem_of_getElem? (i := 299) (by decide +kernel), List.mem_of_getElem? (i := 300) (by decide +kernel)⟩
theorem lw_p15 : lw_okq (⟨"WarmBeds$Inn", "takeIn", "(I)V"⟩, 16) := ⟨⟨by decide +kernel, by decide +kernel⟩, List.mem_of_getElem? (i := 111) (by decide +kernel), List.mem_of_getElem? (i := 307) (by decide +kernel), List.mem_of_getElem? (i := 308) (by decide +kernel)⟩
def lw_privs_1 : List (MethodName × Nat) := [(⟨"WarmBeds$House", "furnish", "(I)V"⟩, 7), (⟨"WarmBeds", "isBed", "(I)Z"⟩, 8), (⟨"WarmBeds$House", "worthOf", "(II)I"⟩, 7), (⟨"WarmBeds$House", "setWorth", "(III)V"⟩, 7), (⟨"WarmBeds$Day", "isFull", "()Z"⟩, 2), (⟨"WarmBeds$Day", "write", "(I)V"⟩, 2), (⟨"WarmBeds$Day", "firstFault", "()I"⟩, 2), (⟨"WarmBeds$Day", "signAt", "(I)I"⟩, 2), (⟨"WarmBeds$Day", "isUntold", "(I)Z"⟩, 2), (⟨"WarmBeds$Day", "nextUntold", "(I)I"⟩, 2), (⟨"WarmBeds$Inn", "open", "(I)V"⟩, 16), (⟨"WarmBeds$Inn", "leaveEmpty", "(I)V"⟩, 16), (⟨"WarmBeds$Inn", "live", "(LWarmBeds$Day;II)I"⟩, 16), (⟨"WarmBeds$Inn", "whyNot", "(I)I"⟩, 16), (⟨"WarmBeds$Inn", "isThere", "(I)Z"⟩, 16), (⟨"WarmBeds$Inn", "takeIn", "(I)V"⟩, 16)]
theorem lw_r1 : ∀ q ∈ lw_privs_1, lw_okq q := List.forall_mem_cons.mpr ⟨lw_p0, List.forall_mem_cons.mpr ⟨lw_p1, List.forall_mem_cons.mpr ⟨lw_p2, List.forall_mem_cons.mpr ⟨lw_p3, List.forall_mem_cons.mpr ⟨lw_p4, List.forall_mem_cons.mpr ⟨lw_p5, List.forall_mem_cons.mpr ⟨lw_p6, List.forall_mem_cons.mpr ⟨lw_p7, List.forall_mem_cons.mpr ⟨lw_p8, List.forall_mem_cons.mpr ⟨lw_p9, List.forall_mem_cons.mpr ⟨lw_p10, List.forall_mem_cons.mpr ⟨lw_p11, List.forall_mem_cons.mpr ⟨lw_p12, List.forall_mem_cons.mpr ⟨lw_p13, List.forall_mem_cons.mpr ⟨lw_p14, List.forall_mem_cons.mpr ⟨lw_p15, fun _ h => absurd h List.not_mem_nil⟩⟩⟩⟩⟩⟩⟩⟩⟩⟩⟩⟩⟩⟩⟩⟩
theorem lw_p16 : lw_okq (⟨"WarmBeds$Inn", "choice", "(I)I"⟩, 16) := ⟨⟨by decide +kernel, by decide +kernel⟩, List.mem_of_getElem? (i := 111) (by decide +kernel), List.mem_of_getElem? (i := 311) (by decide +kernel), List.mem_of_getElem? (i := 312) (by decide +kernel)⟩
theorem lw_p17 : lw_okq (⟨"WarmBeds$Inn", "leastOfEmpty", "()I"⟩, 16) := ⟨⟨by decide +kernel, by decide +kernel⟩, List.mem_of_getElem? (i := 111) (by decide +kernel), List.mem_of_getElem? (i := 315) (by decide +kernel), List.mem_of_getElem? (i := 316) (by decide +kernel)⟩
theorem lw_p18 : lw_okq (⟨"WarmBeds$Inn", "dearestOfEmpty", "(I)I"⟩, 16) := ⟨⟨by decide +kernel, by decide +kernel⟩, List.mem_of_getElem? (i := 111) (by decide +kernel), List.mem_of_getElem? (i := 319) (by decide +kernel), List.mem_of_getElem? (i := 320) (by decide +kernel)⟩
theorem lw_p19 : lw_okq (⟨"WarmBeds$Inn", "waitInYard", "(I)V"⟩, 16) := ⟨⟨by decide +kernel, by decide +kernel⟩, List.mem_of_getElem? (i := 111) (by decide +kernel), List.mem_of_getElem? (i := 324) (by decide +kernel), List.mem_of_getElem? (i := 325) (by decide +kernel)⟩
theorem lw_p20 : lw_okq (⟨"WarmBeds$Inn", "takeFromEmpty", "(I)I"⟩, 16) := ⟨⟨by decide +kernel, by decide +kernel⟩, List.mem_of_getElem? (i := 111) (by decide +kernel), List.mem_of_getElem? (i := 328) (by decide +kernel), List.mem_of_getElem? (i := 329) (by decide +kernel)⟩
theorem lw_p21 : lw_okq (⟨"WarmBeds$Inn", "occupy", "(II)V"⟩, 16) := ⟨⟨by decide +kernel, by decide +kernel⟩, List.mem_of_getElem? (i := 111) (by decide +kernel), List.mem_of_getElem? (i := 332) (by decide +kernel), List.mem_of_getElem? (i := 333) (by decide +kernel)⟩
theorem lw_p22 : lw_okq (⟨"WarmBeds$Inn", "letGo", "(I)V"⟩, 16) := ⟨⟨by decide +kernel, by decide +kernel⟩, List.mem_of_getElem? (i := 111) (by decide +kernel), List.mem_of_getElem? (i := 336) (by decide +kernel), List.mem_of_getElem? (i := 337) (by decide +kernel)⟩
theorem lw_p23 : lw_okq (⟨"WarmBeds$Inn", "bedOf", "(I)I"⟩, 16) := ⟨⟨by decide +kernel, by decide +kernel⟩, List.mem_of_getElem? (i := 111) (by decide +kernel), List.mem_of_getElem? (i := 340) (by decide +kernel), List.mem_of_getElem? (i := 341) (by decide +kernel)⟩
theorem lw_p24 : lw_okq (⟨"WarmBeds$Inn", "leaveYard", "(I)V"⟩, 16) := ⟨⟨by decide +kernel, by decide +kernel⟩, List.mem_of_getElem? (i := 111) (by decide +kernel), List.mem_of_getElem? (i := 344) (by decide +kernel), List.mem_of_getElem? (i := 345) (by decide +kernel)⟩
theorem lw_p25 : lw_okq (⟨"WarmBeds$Inn", "clear", "(I)V"⟩, 16) := ⟨⟨by decide +kernel, by decide +kernel⟩, List.mem_of_getElem? (i := 111) (by decide +kernel), List.mem_of_getElem? (i := 348) (by decide +kernel), List.mem_of_getElem? (i := 349) (by decide +kernel)⟩
theorem lw_p26 : lw_okq (⟨"WarmBeds$Inn", "sleeperOf", "(I)I"⟩, 16) := ⟨⟨by decide +kernel, by decide +kernel⟩, List.mem_of_getElem? (i := 111) (by decide +kernel), List.mem_of_getElem? (i := 352) (by decide +kernel), List.mem_of_getElem? (i := 353) (by decide +kernel)⟩
theorem lw_p27 : lw_okq (⟨"WarmBeds$Inn", "passNight", "()V"⟩, 16) := ⟨⟨by decide +kernel, by decide +kernel⟩, List.mem_of_getElem? (i := 111) (by decide +kernel), List.mem_of_getElem? (i := 356) (by decide +kernel), List.mem_of_getElem? (i := 357) (by decide +kernel)⟩
theorem lw_p28 : lw_okq (⟨"WarmBeds$Inn", "shareFleas", "(II)V"⟩, 16) := ⟨⟨by decide +kernel, by decide +kernel⟩, List.mem_of_getElem? (i := 111) (by decide +kernel), List.mem_of_getElem? (i := 360) (by decide +kernel), List.mem_of_getElem? (i := 361) (by decide +kernel)⟩
theorem lw_p29 : lw_okq (⟨"WarmBeds", "isCountOfEvents", "(I)Z"⟩, 8) := ⟨⟨by decide +kernel, by decide +kernel⟩, List.mem_of_getElem? (i := 11) (by decide +kernel), List.mem_of_getElem? (i := 370) (by decide +kernel), List.mem_of_getElem? (i := 371) (by decide +kernel)⟩
theorem lw_p30 : lw_okq (⟨"WarmBeds", "liveThrough", "(I)I"⟩, 8) := ⟨⟨by decide +kernel, by decide +kernel⟩, List.mem_of_getElem? (i := 11) (by decide +kernel), List.mem_of_getElem? (i := 374) (by decide +kernel), List.mem_of_getElem? (i := 375) (by decide +kernel)⟩
theorem lw_p31 : lw_okq (⟨"WarmBeds$Inn", "emptyBed", "(I)I"⟩, 16) := ⟨⟨by decide +kernel, by decide +kernel⟩, List.mem_of_getElem? (i := 111) (by decide +kernel), List.mem_of_getElem? (i := 388) (by decide +kernel), List.mem_of_getElem? (i := 389) (by decide +kernel)⟩
def lw_privs_2 : List (MethodName × Nat) := [(⟨"WarmBeds$Inn", "choice", "(I)I"⟩, 16), (⟨"WarmBeds$Inn", "leastOfEmpty", "()I"⟩, 16), (⟨"WarmBeds$Inn", "dearestOfEmpty", "(I)I"⟩, 16), (⟨"WarmBeds$Inn", "waitInYard", "(I)V"⟩, 16), (⟨"WarmBeds$Inn", "takeFromEmpty", "(I)I"⟩, 16), (⟨"WarmBeds$Inn", "occupy", "(II)V"⟩, 16), (⟨"WarmBeds$Inn", "letGo", "(I)V"⟩, 16), (⟨"WarmBeds$Inn", "bedOf", "(I)I"⟩, 16), (⟨"WarmBeds$Inn", "leaveYard", "(I)V"⟩, 16), (⟨"WarmBeds$Inn", "clear", "(I)V"⟩, 16), (⟨"WarmBeds$Inn", "sleeperOf", "(I)I"⟩, 16), (⟨"WarmBeds$Inn", "passNight", "()V"⟩, 16), (⟨"WarmBeds$Inn", "shareFleas", "(II)V"⟩, 16), (⟨"WarmBeds", "isCountOfEvents", "(I)Z"⟩, 8), (⟨"WarmBeds", "liveThrough", "(I)I"⟩, 8), (⟨"WarmBeds$Inn", "emptyBed", "(I)I"⟩, 16)]
theorem lw_r2 : ∀ q ∈ lw_privs_2, lw_okq q := List.forall_mem_cons.mpr ⟨lw_p16, List.forall_mem_cons.mpr ⟨lw_p17, List.forall_mem_cons.mpr ⟨lw_p18, List.forall_mem_cons.mpr ⟨lw_p19, List.forall_mem_cons.mpr ⟨lw_p20, List.forall_mem_cons.mpr ⟨lw_p21, List.forall_mem_cons.mpr ⟨lw_p22, List.forall_mem_cons.mpr ⟨lw_p23, List.forall_mem_cons.mpr ⟨lw_p24, List.forall_mem_cons.mpr ⟨lw_p25, List.forall_mem_cons.mpr ⟨lw_p26, List.forall_mem_cons.mpr ⟨lw_p27, List.forall_mem_cons.mpr ⟨lw_p28, List.forall_mem_cons.mpr ⟨lw_p29, List.forall_mem_cons.mpr ⟨lw_p30, List.forall_mem_cons.mpr ⟨lw_p31, fun _ h => absurd h List.not_mem_nil⟩⟩⟩⟩⟩⟩⟩⟩⟩⟩⟩⟩⟩⟩⟩⟩
theorem lw_p32 : lw_okq (⟨"WarmBeds$Inn", "countOf", "(II)I"⟩, 16) := ⟨⟨by decide +kernel, by decide +kernel⟩, List.mem_of_getElem? (i := 111) (by decide +kernel), List.mem_of_getElem? (i := 396) (by decide +kernel), List.mem_of_getElem? (i := 397) (by decide +kernel)⟩
theorem lw_p33 : lw_okq (⟨"WarmBeds", "sheetsBy", "(I)I"⟩, 8) := ⟨⟨by decide +kernel, by decide +kernel⟩, List.mem_of_getElem? (i := 11) (by decide +kernel), List.mem_of_getElem? (i := 404) (by decide +kernel), List.mem_of_getElem? (i := 405) (by decide +kernel)⟩
theorem lw_p34 : lw_okq (⟨"WarmBeds$Inn", "allSheets", "()I"⟩, 16) := ⟨⟨by decide +kernel, by decide +kernel⟩, List.mem_of_getElem? (i := 111) (by decide +kernel), List.mem_of_getElem? (i := 408) (by decide +kernel), List.mem_of_getElem? (i := 409) (by decide +kernel)⟩
theorem lw_p35 : lw_okq (⟨"WarmBeds$Day", "names", "(I)Z"⟩, 2) := ⟨⟨by decide +kernel, by decide +kernel⟩, List.mem_of_getElem? (i := 53) (by decide +kernel), List.mem_of_getElem? (i := 416) (by decide +kernel), List.mem_of_getElem? (i := 417) (by decide +kernel)⟩
theorem lw_p36 : lw_okq (⟨"WarmBeds", "refusalOfComing", "(I)I"⟩, 8) := ⟨⟨by decide +kernel, by decide +kernel⟩, List.mem_of_getElem? (i := 11) (by decide +kernel), List.mem_of_getElem? (i := 420) (by decide +kernel), List.mem_of_getElem? (i := 421) (by decide +kernel)⟩
theorem lw_p37 : lw_okq (⟨"WarmBeds", "tryAllPlaces", "(I)V"⟩, 8) := ⟨⟨by decide +kernel, by decide +kernel⟩, List.mem_of_getElem? (i := 11) (by decide +kernel), List.mem_of_getElem? (i := 424) (by decide +kernel), List.mem_of_getElem? (i := 425) (by decide +kernel)⟩
theorem lw_p38 : lw_okq (⟨"WarmBeds$Inn", "standAs", "(LWarmBeds$Inn;)V"⟩, 16) := ⟨⟨by decide +kernel, by decide +kernel⟩, List.mem_of_getElem? (i := 111) (by decide +kernel), List.mem_of_getElem? (i := 428) (by decide +kernel), List.mem_of_getElem? (i := 429) (by decide +kernel)⟩
theorem lw_p39 : lw_okq (⟨"WarmBeds", "bedComingAt", "(I)I"⟩, 8) := ⟨⟨by decide +kernel, by decide +kernel⟩, List.mem_of_getElem? (i := 11) (by decide +kernel), List.mem_of_getElem? (i := 436) (by decide +kernel), List.mem_of_getElem? (i := 437) (by decide +kernel)⟩
theorem lw_p40 : lw_okq (⟨"WarmBeds", "worthComingAt", "(II)I"⟩, 8) := ⟨⟨by decide +kernel, by decide +kernel⟩, List.mem_of_getElem? (i := 11) (by decide +kernel), List.mem_of_getElem? (i := 444) (by decide +kernel), List.mem_of_getElem? (i := 445) (by decide +kernel)⟩
theorem lw_p41 : lw_okq (⟨"WarmBeds$Party", "order", "(LWarmBeds$Inn;I)V"⟩, 4) := ⟨⟨by decide +kernel, by decide +kernel⟩, List.mem_of_getElem? (i := 68) (by decide +kernel), List.mem_of_getElem? (i := 462) (by decide +kernel), List.mem_of_getElem? (i := 463) (by decide +kernel)⟩
theorem lw_p42 : lw_okq (⟨"WarmBeds$Party", "keepIfBetter", "(I)V"⟩, 4) := ⟨⟨by decide +kernel, by decide +kernel⟩, List.mem_of_getElem? (i := 68) (by decide +kernel), List.mem_of_getElem? (i := 470) (by decide +kernel), List.mem_of_getElem? (i := 471) (by decide +kernel)⟩
theorem lw_p43 : lw_okq (⟨"WarmBeds$Party", "guestAt", "(I)I"⟩, 4) := ⟨⟨by decide +kernel, by decide +kernel⟩, List.mem_of_getElem? (i := 68) (by decide +kernel), List.mem_of_getElem? (i := 479) (by decide +kernel), List.mem_of_getElem? (i := 480) (by decide +kernel)⟩
theorem lw_p44 : lw_okq (⟨"WarmBeds", "spreadFrom", "(I)V"⟩, 8) := ⟨⟨by decide +kernel, by decide +kernel⟩, List.mem_of_getElem? (i := 11) (by decide +kernel), List.mem_of_getElem? (i := 487) (by decide +kernel), List.mem_of_getElem? (i := 488) (by decide +kernel)⟩
theorem lw_p45 : lw_okq (⟨"WarmBeds$Inn", "infest", "(I)V"⟩, 16) := ⟨⟨by decide +kernel, by decide +kernel⟩, List.mem_of_getElem? (i := 111) (by decide +kernel), List.mem_of_getElem? (i := 491) (by decide +kernel), List.mem_of_getElem? (i := 492) (by decide +kernel)⟩
theorem lw_p46 : lw_okq (⟨"WarmBeds$House", "addSight", "(II)V"⟩, 7) := ⟨⟨by decide +kernel, by decide +kernel⟩, List.mem_of_getElem? (i := 19) (by decide +kernel), List.mem_of_getElem? (i := 503) (by decide +kernel), List.mem_of_getElem? (i := 504) (by decide +kernel)⟩
theorem lw_p47 : lw_okq (⟨"WarmBeds$Guesses", "search", "(LWarmBeds$Inn;LWarmBeds$Day;LWarmBeds$House;)V"⟩, 5) := ⟨⟨by decide +kernel, by decide +kernel⟩, List.mem_of_getElem? (i := 88) (by decide +kernel), List.mem_of_getElem? (i := 515) (by decide +kernel), List.mem_of_getElem? (i := 516) (by decide +kernel)⟩
def lw_privs_3 : List (MethodName × Nat) := [(⟨"WarmBeds$Inn", "countOf", "(II)I"⟩, 16), (⟨"WarmBeds", "sheetsBy", "(I)I"⟩, 8), (⟨"WarmBeds$Inn", "allSheets", "()I"⟩, 16), (⟨"WarmBeds$Day", "names", "(I)Z"⟩, 2), (⟨"WarmBeds", "refusalOfComing", "(I)I"⟩, 8), (⟨"WarmBeds", "tryAllPlaces", "(I)V"⟩, 8), (⟨"WarmBeds$Inn", "standAs", "(LWarmBeds$Inn;)V"⟩, 16), (⟨"WarmBeds", "bedComingAt", "(I)I"⟩, 8), (⟨"WarmBeds", "worthComingAt", "(II)I"⟩, 8), (⟨"WarmBeds$Party", "order", "(LWarmBeds$Inn;I)V"⟩, 4), (⟨"WarmBeds$Party", "keepIfBetter", "(I)V"⟩, 4), (⟨"WarmBeds$Party", "guestAt", "(I)I"⟩, 4), (⟨"WarmBeds", "spreadFrom", "(I)V"⟩, 8), (⟨"WarmBeds$Inn", "infest", "(I)V"⟩, 16), (⟨"WarmBeds$House", "addSight", "(II)V"⟩, 7), (⟨"WarmBeds$Guesses", "search", "(LWarmBeds$Inn;LWarmBeds$Day;LWarmBeds$House;)V"⟩, 5)]
theorem lw_r3 : ∀ q ∈ lw_privs_3, lw_okq q := List.forall_mem_cons.mpr ⟨lw_p32, List.forall_mem_cons.mpr ⟨lw_p33, List.forall_mem_cons.mpr ⟨lw_p34, List.forall_mem_cons.mpr ⟨lw_p35, List.forall_mem_cons.mpr ⟨lw_p36, List.forall_mem_cons.mpr ⟨lw_p37, List.forall_mem_cons.mpr ⟨lw_p38, List.forall_mem_cons.mpr ⟨lw_p39, List.forall_mem_cons.mpr ⟨lw_p40, List.forall_mem_cons.mpr ⟨lw_p41, List.forall_mem_cons.mpr ⟨lw_p42, List.forall_mem_cons.mpr ⟨lw_p43, List.forall_mem_cons.mpr ⟨lw_p44, List.forall_mem_cons.mpr ⟨lw_p45, List.forall_mem_cons.mpr ⟨lw_p46, List.forall_mem_cons.mpr ⟨lw_p47, fun _ h => absurd h List.not_mem_nil⟩⟩⟩⟩⟩⟩⟩⟩⟩⟩⟩⟩⟩⟩⟩⟩
theorem lw_p48 : lw_okq (⟨"WarmBeds$Guesses", "keepIfSeen", "(LWarmBeds$Inn;)V"⟩, 5) := ⟨⟨by decide +kernel, by decide +kernel⟩, List.mem_of_getElem? (i := 88) (by decide +kernel), List.mem_of_getElem? (i := 526) (by decide +kernel), List.mem_of_getElem? (i := 527) (by decide +kernel)⟩
theorem lw_p49 : lw_okq (⟨"WarmBeds$House", "allSightsHold", "(LWarmBeds$Inn;)Z"⟩, 7) := ⟨⟨by decide +kernel, by decide +kernel⟩, List.mem_of_getElem? (i := 19) (by decide +kernel), List.mem_of_getElem? (i := 530) (by decide +kernel), List.mem_of_getElem? (i := 531) (by decide +kernel)⟩
theorem lw_p50 : lw_okq (⟨"WarmBeds$Guesses", "firstAt", "(I)I"⟩, 5) := ⟨⟨by decide +kernel, by decide +kernel⟩, List.mem_of_getElem? (i := 88) (by decide +kernel), List.mem_of_getElem? (i := 539) (by decide +kernel), List.mem_of_getElem? (i := 540) (by decide +kernel)⟩
theorem lw_p51 : lw_okq (⟨"WarmBeds$Guesses", "isUntold", "(I)Z"⟩, 5) := ⟨⟨by decide +kernel, by decide +kernel⟩, List.mem_of_getElem? (i := 88) (by decide +kernel), List.mem_of_getElem? (i := 543) (by decide +kernel), List.mem_of_getElem? (i := 544) (by decide +kernel)⟩
theorem lw_p52 : lw_okq (⟨"WarmBeds$Guesses", "suspectsAt", "(I)I"⟩, 5) := ⟨⟨by decide +kernel, by decide +kernel⟩, List.mem_of_getElem? (i := 88) (by decide +kernel), List.mem_of_getElem? (i := 551) (by decide +kernel), List.mem_of_getElem? (i := 552) (by decide +kernel)⟩
theorem lw_p53 : lw_okq (⟨"WarmBeds$Inn", "emptyLeastBed", "()V"⟩, 16) := ⟨⟨by decide +kernel, by decide +kernel⟩, List.mem_of_getElem? (i := 111) (by decide +kernel), List.mem_of_getElem? (i := 565) (by decide +kernel), List.mem_of_getElem? (i := 566) (by decide +kernel)⟩
theorem lw_p54 : lw_okq (⟨"WarmBeds$Inn", "timesUsed", "(I)I"⟩, 16) := ⟨⟨by decide +kernel, by decide +kernel⟩, List.mem_of_getElem? (i := 111) (by decide +kernel), List.mem_of_getElem? (i := 582) (by decide +kernel), List.mem_of_getElem? (i := 583) (by decide +kernel)⟩
theorem lw_p55 : lw_okq (⟨"WarmBeds$House", "copy", "(LWarmBeds$House;)V"⟩, 7) := ⟨⟨by decide +kernel, by decide +kernel⟩, List.mem_of_getElem? (i := 19) (by decide +kernel), List.mem_of_getElem? (i := 590) (by decide +kernel), List.mem_of_getElem? (i := 591) (by decide +kernel)⟩
theorem lw_p56 : lw_okq (⟨"WarmBeds", "worthTold", "(I)I"⟩, 8) := ⟨⟨by decide +kernel, by decide +kernel⟩, List.mem_of_getElem? (i := 11) (by decide +kernel), List.mem_of_getElem? (i := 603) (by decide +kernel), List.mem_of_getElem? (i := 604) (by decide +kernel)⟩
theorem lw_p57 : lw_okq (⟨"WarmBedsModel", "isBed", "(I)Z"⟩, 23) := ⟨⟨by decide +kernel, by decide +kernel⟩, List.mem_of_getElem? (i := 607) (by decide +kernel), List.mem_of_getElem? (i := 698) (by decide +kernel), List.mem_of_getElem? (i := 699) (by decide +kernel)⟩
theorem lw_p58 : lw_okq (⟨"WarmBedsModel", "faultOf", "()I"⟩, 23) := ⟨⟨by decide +kernel, by decide +kernel⟩, List.mem_of_getElem? (i := 607) (by decide +kernel), List.mem_of_getElem? (i := 718) (by decide +kernel), List.mem_of_getElem? (i := 719) (by decide +kernel)⟩
theorem lw_p59 : lw_okq (⟨"WarmBedsModel", "opens", "(I)I"⟩, 23) := ⟨⟨by decide +kernel, by decide +kernel⟩, List.mem_of_getElem? (i := 607) (by decide +kernel), List.mem_of_getElem? (i := 726) (by decide +kernel), List.mem_of_getElem? (i := 727) (by decide +kernel)⟩
theorem lw_p60 : lw_okq (⟨"WarmBedsModel", "go", "(IIII)I"⟩, 23) := ⟨⟨by decide +kernel, by decide +kernel⟩, List.mem_of_getElem? (i := 607) (by decide +kernel), List.mem_of_getElem? (i := 730) (by decide +kernel), List.mem_of_getElem? (i := 731) (by decide +kernel)⟩
theorem lw_p61 : lw_okq (⟨"WarmBedsModel", "begin", "()V"⟩, 23) := ⟨⟨by decide +kernel, by decide +kernel⟩, List.mem_of_getElem? (i := 607) (by decide +kernel), List.mem_of_getElem? (i := 734) (by decide +kernel), List.mem_of_getElem? (i := 735) (by decide +kernel)⟩
theorem lw_p62 : lw_okq (⟨"WarmBedsModel", "happen", "(I)I"⟩, 23) := ⟨⟨by decide +kernel, by decide +kernel⟩, List.mem_of_getElem? (i := 607) (by decide +kernel), List.mem_of_getElem? (i := 738) (by decide +kernel), List.mem_of_getElem? (i := 739) (by decide +kernel)⟩
theorem lw_p63 : lw_okq (⟨"WarmBedsModel", "pass", "()V"⟩, 23) := ⟨⟨by decide +kernel, by decide +kernel⟩, List.mem_of_getElem? (i := 607) (by decide +kernel), List.mem_of_getElem? (i := 742) (by decide +kernel), List.mem_of_getElem? (i := 743) (by decide +kernel)⟩
def lw_privs_4 : List (MethodName × Nat) := [(⟨"WarmBeds$Guesses", "keepIfSeen", "(LWarmBeds$Inn;)V"⟩, 5), (⟨"WarmBeds$House", "allSightsHold", "(LWarmBeds$Inn;)Z"⟩, 7), (⟨"WarmBeds$Guesses", "firstAt", "(I)I"⟩, 5), (⟨"WarmBeds$Guesses", "isUntold", "(I)Z"⟩, 5), (⟨"WarmBeds$Guesses", "suspectsAt", "(I)I"⟩, 5), (⟨"WarmBeds$Inn", "emptyLeastBed", "()V"⟩, 16), (⟨"WarmBeds$Inn", "timesUsed", "(I)I"⟩, 16), (⟨"WarmBeds$House", "copy", "(LWarmBeds$House;)V"⟩, 7), (⟨"WarmBeds", "worthTold", "(I)I"⟩, 8), (⟨"WarmBedsModel", "isBed", "(I)Z"⟩, 23), (⟨"WarmBedsModel", "faultOf", "()I"⟩, 23), (⟨"WarmBedsModel", "opens", "(I)I"⟩, 23), (⟨"WarmBedsModel", "go", "(IIII)I"⟩, 23), (⟨"WarmBedsModel", "begin", "()V"⟩, 23), (⟨"WarmBedsModel", "happen", "(I)I"⟩, 23), (⟨"WarmBedsModel", "pass", "()V"⟩, 23)]
theorem lw_r4 : ∀ q ∈ lw_privs_4, lw_okq q := List.forall_mem_cons.mpr ⟨lw_p48, List.forall_mem_cons.mpr ⟨lw_p49, List.forall_mem_cons.mpr ⟨lw_p50, List.forall_mem_cons.mpr ⟨lw_p51, List.forall_mem_cons.mpr ⟨lw_p52, List.forall_mem_cons.mpr ⟨lw_p53, List.forall_mem_cons.mpr ⟨lw_p54, List.forall_mem_cons.mpr ⟨lw_p55, List.forall_mem_cons.mpr ⟨lw_p56, List.forall_mem_cons.mpr ⟨lw_p57, List.forall_mem_cons.mpr ⟨lw_p58, List.forall_mem_cons.mpr ⟨lw_p59, List.forall_mem_cons.mpr ⟨lw_p60, List.forall_mem_cons.mpr ⟨lw_p61, List.forall_mem_cons.mpr ⟨lw_p62, List.forall_mem_cons.mpr ⟨lw_p63, fun _ h => absurd h List.not_mem_nil⟩⟩⟩⟩⟩⟩⟩⟩⟩⟩⟩⟩⟩⟩⟩⟩
theorem lw_p64 : lw_okq (⟨"WarmBedsModel", "isThere", "(I)Z"⟩, 23) := ⟨⟨by decide +kernel, by decide +kernel⟩, List.mem_of_getElem? (i := 607) (by decide +kernel), List.mem_of_getElem? (i := 749) (by decide +kernel), List.mem_of_getElem? (i := 750) (by decide +kernel)⟩
theorem lw_p65 : lw_okq (⟨"WarmBedsModel", "bedOf", "(I)I"⟩, 23) := ⟨⟨by decide +kernel, by decide +kernel⟩, List.mem_of_getElem? (i := 607) (by decide +kernel), List.mem_of_getElem? (i := 753) (by decide +kernel), List.mem_of_getElem? (i := 754) (by decide +kernel)⟩
theorem lw_p66 : lw_okq (⟨"WarmBedsModel", "isWaiting", "(I)Z"⟩, 23) := ⟨⟨by decide +kernel, by decide +kernel⟩, List.mem_of_getElem? (i := 607) (by decide +kernel), List.mem_of_getElem? (i := 757) (by decide +kernel), List.mem_of_getElem? (i := 758) (by decide +kernel)⟩
theorem lw_p67 : lw_okq (⟨"WarmBedsModel", "comeIn", "(I)V"⟩, 23) := ⟨⟨by decide +kernel, by decide +kernel⟩, List.mem_of_getElem? (i := 607) (by decide +kernel), List.mem_of_getElem? (i := 761) (by decide +kernel), List.mem_of_getElem? (i := 762) (by decide +kernel)⟩
theorem lw_p68 : lw_okq (⟨"WarmBedsModel", "chosen", "(I)I"⟩, 23) := ⟨⟨by decide +kernel, by decide +kernel⟩, List.mem_of_getElem? (i := 607) (by decide +kernel), List.mem_of_getElem? (i := 765) (by decide +kernel), List.mem_of_getElem? (i := 766) (by decide +kernel)⟩
theorem lw_p69 : lw_okq (⟨"WarmBedsModel", "worthTo", "(II)I"⟩, 23) := ⟨⟨by decide +kernel, by decide +kernel⟩, List.mem_of_getElem? (i := 607) (by decide +kernel), List.mem_of_getElem? (i := 769) (by decide +kernel), List.mem_of_getElem? (i := 770) (by decide +kernel)⟩
theorem lw_p70 : lw_okq (⟨"WarmBedsModel", "take", "(II)V"⟩, 23) := ⟨⟨by decide +kernel, by decide +kernel⟩, List.mem_of_getElem? (i := 607) (by decide +kernel), List.mem_of_getElem? (i := 773) (by decide +kernel), List.mem_of_getElem? (i := 774) (by decide +kernel)⟩
theorem lw_p71 : lw_okq (⟨"WarmBedsModel", "goOut", "(I)V"⟩, 23) := ⟨⟨by decide +kernel, by decide +kernel⟩, List.mem_of_getElem? (i := 607) (by decide +kernel), List.mem_of_getElem? (i := 777) (by decide +kernel), List.mem_of_getElem? (i := 778) (by decide +kernel)⟩
theorem lw_p72 : lw_okq (⟨"WarmBedsModel", "outOfYard", "(I)V"⟩, 23) := ⟨⟨by decide +kernel, by decide +kernel⟩, List.mem_of_getElem? (i := 607) (by decide +kernel), List.mem_of_getElem? (i := 781) (by decide +kernel), List.mem_of_getElem? (i := 782) (by decide +kernel)⟩
theorem lw_p73 : lw_okq (⟨"WarmBedsModel", "eventOf", "(I)I"⟩, 23) := ⟨⟨by decide +kernel, by decide +kernel⟩, List.mem_of_getElem? (i := 607) (by decide +kernel), List.mem_of_getElem? (i := 785) (by decide +kernel), List.mem_of_getElem? (i := 786) (by decide +kernel)⟩
theorem lw_p74 : lw_okq (⟨"WarmBedsModel", "barOf", "(I)I"⟩, 23) := ⟨⟨by decide +kernel, by decide +kernel⟩, List.mem_of_getElem? (i := 607) (by decide +kernel), List.mem_of_getElem? (i := 793) (by decide +kernel), List.mem_of_getElem? (i := 794) (by decide +kernel)⟩
theorem lw_p75 : lw_okq (⟨"WarmBedsModel", "isInDay", "(I)Z"⟩, 23) := ⟨⟨by decide +kernel, by decide +kernel⟩, List.mem_of_getElem? (i := 607) (by decide +kernel), List.mem_of_getElem? (i := 817) (by decide +kernel), List.mem_of_getElem? (i := 818) (by decide +kernel)⟩
theorem lw_p76 : lw_okq (⟨"WarmBedsModel", "barOfComing", "()I"⟩, 23) := ⟨⟨by decide +kernel, by decide +kernel⟩, List.mem_of_getElem? (i := 607) (by decide +kernel), List.mem_of_getElem? (i := 821) (by decide +kernel), List.mem_of_getElem? (i := 822) (by decide +kernel)⟩
theorem lw_p77 : lw_okq (⟨"WarmBedsModel", "nextRow", "(I)Z"⟩, 23) := ⟨⟨by decide +kernel, by decide +kernel⟩, List.mem_of_getElem? (i := 607) (by decide +kernel), List.mem_of_getElem? (i := 837) (by decide +kernel), List.mem_of_getElem? (i := 838) (by decide +kernel)⟩
theorem lw_p78 : lw_okq (⟨"WarmBedsModel", "change", "(II)V"⟩, 23) := ⟨⟨by decide +kernel, by decide +kernel⟩, List.mem_of_getElem? (i := 607) (by decide +kernel), List.mem_of_getElem? (i := 841) (by decide +kernel), List.mem_of_getElem? (i := 842) (by decide +kernel)⟩
theorem lw_p79 : lw_okq (⟨"WarmBedsModel", "layFleas", "(II)I"⟩, 23) := ⟨⟨by decide +kernel, by decide +kernel⟩, List.mem_of_getElem? (i := 607) (by decide +kernel), List.mem_of_getElem? (i := 849) (by decide +kernel), List.mem_of_getElem? (i := 850) (by decide +kernel)⟩
def lw_privs_5 : List (MethodName × Nat) := [(⟨"WarmBedsModel", "isThere", "(I)Z"⟩, 23), (⟨"WarmBedsModel", "bedOf", "(I)I"⟩, 23), (⟨"WarmBedsModel", "isWaiting", "(I)Z"⟩, 23), (⟨"WarmBedsModel", "comeIn", "(I)V"⟩, 23), (⟨"WarmBedsModel", "chosen", "(I)I"⟩, 23), (⟨"WarmBedsModel", "worthTo", "(II)I"⟩, 23), (⟨"WarmBedsModel", "take", "(II)V"⟩, 23), (⟨"WarmBedsModel", "goOut", "(I)V"⟩, 23), (⟨"WarmBedsModel", "outOfYard", "(I)V"⟩, 23), (⟨"WarmBedsModel", "eventOf", "(I)I"⟩, 23), (⟨"WarmBedsModel", "barOf", "(I)I"⟩, 23), (⟨"WarmBedsModel", "isInDay", "(I)Z"⟩, 23), (⟨"WarmBedsModel", "barOfComing", "()I"⟩, 23), (⟨"WarmBedsModel", "nextRow", "(I)Z"⟩, 23), (⟨"WarmBedsModel", "change", "(II)V"⟩, 23), (⟨"WarmBedsModel", "layFleas", "(II)I"⟩, 23)]
theorem lw_r5 : ∀ q ∈ lw_privs_5, lw_okq q := List.forall_mem_cons.mpr ⟨lw_p64, List.forall_mem_cons.mpr ⟨lw_p65, List.forall_mem_cons.mpr ⟨lw_p66, List.forall_mem_cons.mpr ⟨lw_p67, List.forall_mem_cons.mpr ⟨lw_p68, List.forall_mem_cons.mpr ⟨lw_p69, List.forall_mem_cons.mpr ⟨lw_p70, List.forall_mem_cons.mpr ⟨lw_p71, List.forall_mem_cons.mpr ⟨lw_p72, List.forall_mem_cons.mpr ⟨lw_p73, List.forall_mem_cons.mpr ⟨lw_p74, List.forall_mem_cons.mpr ⟨lw_p75, List.forall_mem_cons.mpr ⟨lw_p76, List.forall_mem_cons.mpr ⟨lw_p77, List.forall_mem_cons.mpr ⟨lw_p78, List.forall_mem_cons.mpr ⟨lw_p79, fun _ h => absurd h List.not_mem_nil⟩⟩⟩⟩⟩⟩⟩⟩⟩⟩⟩⟩⟩⟩⟩⟩
theorem lw_p80 : lw_okq (⟨"WarmBedsModel", "codes", "()I"⟩, 23) := ⟨⟨by decide +kernel, by decide +kernel⟩, List.mem_of_getElem? (i := 607) (by decide +kernel), List.mem_of_getElem? (i := 869) (by decide +kernel), List.mem_of_getElem? (i := 870) (by decide +kernel)⟩
theorem lw_p81 : lw_okq (⟨"WarmBedsModel", "isFit", "(I)Z"⟩, 23) := ⟨⟨by decide +kernel, by decide +kernel⟩, List.mem_of_getElem? (i := 607) (by decide +kernel), List.mem_of_getElem? (i := 873) (by decide +kernel), List.mem_of_getElem? (i := 874) (by decide +kernel)⟩
theorem lw_p82 : lw_okq (⟨"WarmBedsModel", "guestAt", "(II)I"⟩, 23) := ⟨⟨by decide +kernel, by decide +kernel⟩, List.mem_of_getElem? (i := 607) (by decide +kernel), List.mem_of_getElem? (i := 877) (by decide +kernel), List.mem_of_getElem? (i := 878) (by decide +kernel)⟩
def lw_privs_6 : List (MethodName × Nat) := [(⟨"WarmBedsModel", "codes", "()I"⟩, 23), (⟨"WarmBedsModel", "isFit", "(I)Z"⟩, 23), (⟨"WarmBedsModel", "guestAt", "(II)I"⟩, 23)]
theorem lw_r6 : ∀ q ∈ lw_privs_6, lw_okq q := List.forall_mem_cons.mpr ⟨lw_p80, List.forall_mem_cons.mpr ⟨lw_p81, List.forall_mem_cons.mpr ⟨lw_p82, fun _ h => absurd h List.not_mem_nil⟩⟩⟩
def lw_privs : List (MethodName × Nat) := lw_privs_1 ++ (lw_privs_2 ++ (lw_privs_3 ++ (lw_privs_4 ++ (lw_privs_5 ++ (lw_privs_6)))))
def lw_tbl : List Cond := k2_sels lw_privs ++ tables_1
theorem lw_privs_ok : ∀ q ∈ lw_privs, lw_okq q := by
  show ∀ q ∈ lw_privs_1 ++ (lw_privs_2 ++ (lw_privs_3 ++ (lw_privs_4 ++ (lw_privs_5 ++ (lw_privs_6))))), lw_okq q
  exact List.forall_mem_append.mpr ⟨lw_r1, List.forall_mem_append.mpr ⟨lw_r2, List.forall_mem_append.mpr ⟨lw_r3, List.forall_mem_append.mpr ⟨lw_r4, List.forall_mem_append.mpr ⟨lw_r5, lw_r6⟩⟩⟩⟩⟩

theorem goodIn_sub {big ws : List Cond} (hm : ∀ w ∈ ws, w ∈ big) (h : ws.all goodWord = true) : GoodIn big ws := fun w hw => ⟨hm w hw, good_of_word (List.all_eq_true.mp h w hw)⟩
def RX0 : String := "WarmBeds$Day"
def TX0 : u_T := fun k => match k with
  | 0 => ("WarmBeds$Day", "length", "I", false)
  | _ => ("WarmBeds$Day", "signs", "[I", true)
def tyX0 : Nat → FieldType := fun k => match k with
  | 0 => .int
  | _ => .array .int
abbrev wsX00 : List Cond := u_ws RX0 TX0 2
theorem nmX0 : ∀ a, a < 2 → ∀ b, b < 2 → a ≠ b → (TX0 a).2.1 ≠ (TX0 b).2.1 := by decide +kernel
theorem tyX0_ok : ∀ k, k < 2 → parseFieldDescriptor (TX0 k).2.2.1 = some (tyX0 k) := by decide +kernel
abbrev cX0_init : ByteArray := prog_2_method_1_code
def yX0_init : MethodName := ⟨RX0, "<init>", "()V"⟩
abbrev cX0_isFull : ByteArray := prog_2_method_2_code
def yX0_isFull : MethodName := ⟨RX0, "isFull", "()Z"⟩
abbrev cX0_write : ByteArray := prog_2_method_3_code
def yX0_write : MethodName := ⟨RX0, "write", "(I)V"⟩
abbrev cX0_signAt : ByteArray := prog_2_method_4_code
def yX0_signAt : MethodName := ⟨RX0, "signAt", "(I)I"⟩
abbrev cX0_firstFault : ByteArray := prog_2_method_5_code
def yX0_firstFault : MethodName := ⟨RX0, "firstFault", "()I"⟩
abbrev cX0_isUntold : ByteArray := prog_2_method_6_code
def yX0_isUntold : MethodName := ⟨RX0, "isUntold", "(I)Z"⟩
abbrev cX0_nextUntold : ByteArray := prog_2_method_7_code
def yX0_nextUntold : MethodName := ⟨RX0, "nextUntold", "(I)I"⟩
abbrev cX0_names : ByteArray := prog_2_method_8_code
def yX0_names : MethodName := ⟨RX0, "names", "(I)Z"⟩
abbrev cX0_isComing : ByteArray := prog_2_method_9_code
def yX0_isComing : MethodName := ⟨RX0, "isComing", "(I)Z"⟩
abbrev cX0_isGoing : ByteArray := prog_2_method_10_code
def yX0_isGoing : MethodName := ⟨RX0, "isGoing", "(I)Z"⟩
def RX1 : String := "WarmBeds$Guesses"
def TX1 : u_T := fun k => match k with
  | 0 => ("WarmBeds$Guesses", "ways", "I", false)
  | 1 => ("WarmBeds$Guesses", "untold", "I", false)
  | 2 => ("WarmBeds$Guesses", "trial", "[I", true)
  | 3 => ("WarmBeds$Guesses", "first", "[I", true)
  | _ => ("WarmBeds$Guesses", "suspects", "[I", true)
def tyX1 : Nat → FieldType := fun k => match k with
  | 0 => .int
  | 1 => .int
  | 2 => .array .int
  | 3 => .array .int
  | _ => .array .int
abbrev wsX10 : List Cond := u_ws RX1 TX1 5
theorem nmX1 : ∀ a, a < 5 → ∀ b, b < 5 → a ≠ b → (TX1 a).2.1 ≠ (TX1 b).2.1 := by decide +kernel
theorem tyX1_ok : ∀ k, k < 5 → parseFieldDescriptor (TX1 k).2.2.1 = some (tyX1 k) := by decide +kernel
abbrev cX1_init : ByteArray := prog_3_method_1_code
def yX1_init : MethodName := ⟨RX1, "<init>", "()V"⟩
abbrev cX1_search : ByteArray := prog_3_method_2_code
def yX1_search : MethodName := ⟨RX1, "search", "(LWarmBeds$Inn;LWarmBeds$Day;LWarmBeds$House;)V"⟩
abbrev cX1_fillFrom : ByteArray := prog_3_method_3_code
def yX1_fillFrom : MethodName := ⟨RX1, "fillFrom", "(LWarmBeds$Guesses;LWarmBeds$Inn;LWarmBeds$Day;II)V"⟩
abbrev cX1_keepIfSeen : ByteArray := prog_3_method_4_code
def yX1_keepIfSeen : MethodName := ⟨RX1, "keepIfSeen", "(LWarmBeds$Inn;)V"⟩
abbrev cX1_isUntold : ByteArray := prog_3_method_5_code
def yX1_isUntold : MethodName := ⟨RX1, "isUntold", "(I)Z"⟩
abbrev cX1_firstAt : ByteArray := prog_3_method_6_code
def yX1_firstAt : MethodName := ⟨RX1, "firstAt", "(I)I"⟩
abbrev cX1_suspectsAt : ByteArray := prog_3_method_7_code
def yX1_suspectsAt : MethodName := ⟨RX1, "suspectsAt", "(I)I"⟩
def RX2 : String := "WarmBeds$House"
def TX2 : u_T := fun k => match k with
  | 0 => ("WarmBeds$House", "beds", "I", false)
  | 1 => ("WarmBeds$House", "law", "I", false)
  | 2 => ("WarmBeds$House", "sights", "I", false)
  | 3 => ("WarmBeds$House", "isKept", "Z", false)
  | 4 => ("WarmBeds$House", "worths", "[I", true)
  | 5 => ("WarmBeds$House", "sightGuests", "[I", true)
  | _ => ("WarmBeds$House", "sightBeds", "[I", true)
def tyX2 : Nat → FieldType := fun k => match k with
  | 0 => .int
  | 1 => .int
  | 2 => .int
  | 3 => .boolean
  | 4 => .array .int
  | 5 => .array .int
  | _ => .array .int
abbrev wsX20 : List Cond := u_ws RX2 TX2 7
theorem nmX2 : ∀ a, a < 7 → ∀ b, b < 7 → a ≠ b → (TX2 a).2.1 ≠ (TX2 b).2.1 := by decide +kernel
theorem tyX2_ok : ∀ k, k < 7 → parseFieldDescriptor (TX2 k).2.2.1 = some (tyX2 k) := by decide +kernel
abbrev cX2_init : ByteArray := prog_4_method_1_code
def yX2_init : MethodName := ⟨RX2, "<init>", "()V"⟩
abbrev cX2_furnish : ByteArray := prog_4_method_2_code
def yX2_furnish : MethodName := ⟨RX2, "furnish", "(I)V"⟩
abbrev cX2_worthOf : ByteArray := prog_4_method_3_code
def yX2_worthOf : MethodName := ⟨RX2, "worthOf", "(II)I"⟩
abbrev cX2_setWorth : ByteArray := prog_4_method_4_code
def yX2_setWorth : MethodName := ⟨RX2, "setWorth", "(III)V"⟩
abbrev cX2_addSight : ByteArray := prog_4_method_5_code
def yX2_addSight : MethodName := ⟨RX2, "addSight", "(II)V"⟩
abbrev cX2_allSightsHold : ByteArray := prog_4_method_6_code
def yX2_allSightsHold : MethodName := ⟨RX2, "allSightsHold", "(LWarmBeds$Inn;)Z"⟩
abbrev cX2_copy : ByteArray := prog_4_method_7_code
def yX2_copy : MethodName := ⟨RX2, "copy", "(LWarmBeds$House;)V"⟩
def RX3 : String := "WarmBeds$Inn"
def TX3 : u_T := fun k => match k with
  | 0 => ("WarmBeds$Inn", "house", "LWarmBeds$House;", true)
  | 1 => ("WarmBeds$Inn", "deeper", "LWarmBeds$Inn;", true)
  | 2 => ("WarmBeds$Inn", "law", "I", false)
  | 3 => ("WarmBeds$Inn", "there", "I", false)
  | 4 => ("WarmBeds$Inn", "sleepers", "[I", true)
  | 5 => ("WarmBeds$Inn", "empty", "[I", true)
  | 6 => ("WarmBeds$Inn", "empties", "I", false)
  | 7 => ("WarmBeds$Inn", "yard", "[I", true)
  | 8 => ("WarmBeds$Inn", "waiting", "I", false)
  | 9 => ("WarmBeds$Inn", "nights", "[I", true)
  | 10 => ("WarmBeds$Inn", "used", "[I", true)
  | 11 => ("WarmBeds$Inn", "sheets", "[I", true)
  | 12 => ("WarmBeds$Inn", "lastOnes", "[I", true)
  | 13 => ("WarmBeds$Inn", "guestsWithFleas", "I", false)
  | 14 => ("WarmBeds$Inn", "bedsWithFleas", "I", false)
  | _ => ("WarmBeds$Inn", "isCounting", "Z", false)
def tyX3 : Nat → FieldType := fun k => match k with
  | 0 => .object "WarmBeds$House"
  | 1 => .object "WarmBeds$Inn"
  | 2 => .int
  | 3 => .int
  | 4 => .array .int
  | 5 => .array .int
  | 6 => .int
  | 7 => .array .int
  | 8 => .int
  | 9 => .array .int
  | 10 => .array .int
  | 11 => .array .int
  | 12 => .array .int
  | 13 => .int
  | 14 => .int
  | _ => .boolean
abbrev wsX30 : List Cond := u_ws RX3 TX3 16
theorem nmX3 : ∀ a, a < 16 → ∀ b, b < 16 → a ≠ b → (TX3 a).2.1 ≠ (TX3 b).2.1 := by decide +kernel
theorem tyX3_ok : ∀ k, k < 16 → parseFieldDescriptor (TX3 k).2.2.1 = some (tyX3 k) := by decide +kernel
abbrev cX3_init : ByteArray := prog_5_method_1_code
def yX3_init : MethodName := ⟨RX3, "<init>", "(LWarmBeds$House;LWarmBeds$Inn;)V"⟩
abbrev cX3_open : ByteArray := prog_5_method_2_code
def yX3_open : MethodName := ⟨RX3, "open", "(I)V"⟩
abbrev cX3_standAs : ByteArray := prog_5_method_3_code
def yX3_standAs : MethodName := ⟨RX3, "standAs", "(LWarmBeds$Inn;)V"⟩
abbrev cX3_live : ByteArray := prog_5_method_4_code
def yX3_live : MethodName := ⟨RX3, "live", "(LWarmBeds$Day;II)I"⟩
abbrev cX3_whyNot : ByteArray := prog_5_method_5_code
def yX3_whyNot : MethodName := ⟨RX3, "whyNot", "(I)I"⟩
abbrev cX3_takeIn : ByteArray := prog_5_method_6_code
def yX3_takeIn : MethodName := ⟨RX3, "takeIn", "(I)V"⟩
abbrev cX3_letGo : ByteArray := prog_5_method_7_code
def yX3_letGo : MethodName := ⟨RX3, "letGo", "(I)V"⟩
abbrev cX3_emptyLeastBed : ByteArray := prog_5_method_8_code
def yX3_emptyLeastBed : MethodName := ⟨RX3, "emptyLeastBed", "()V"⟩
abbrev cX3_clear : ByteArray := prog_5_method_9_code
def yX3_clear : MethodName := ⟨RX3, "clear", "(I)V"⟩
abbrev cX3_passNight : ByteArray := prog_5_method_10_code
def yX3_passNight : MethodName := ⟨RX3, "passNight", "()V"⟩
abbrev cX3_shareFleas : ByteArray := prog_5_method_11_code
def yX3_shareFleas : MethodName := ⟨RX3, "shareFleas", "(II)V"⟩
abbrev cX3_infest : ByteArray := prog_5_method_12_code
def yX3_infest : MethodName := ⟨RX3, "infest", "(I)V"⟩
abbrev cX3_choice : ByteArray := prog_5_method_13_code
def yX3_choice : MethodName := ⟨RX3, "choice", "(I)I"⟩
abbrev cX3_leastOfEmpty : ByteArray := prog_5_method_14_code
def yX3_leastOfEmpty : MethodName := ⟨RX3, "leastOfEmpty", "()I"⟩
abbrev cX3_dearestOfEmpty : ByteArray := prog_5_method_15_code
def yX3_dearestOfEmpty : MethodName := ⟨RX3, "dearestOfEmpty", "(I)I"⟩
abbrev cX3_takeFromEmpty : ByteArray := prog_5_method_16_code
def yX3_takeFromEmpty : MethodName := ⟨RX3, "takeFromEmpty", "(I)I"⟩
abbrev cX3_occupy : ByteArray := prog_5_method_17_code
def yX3_occupy : MethodName := ⟨RX3, "occupy", "(II)V"⟩
abbrev cX3_leaveEmpty : ByteArray := prog_5_method_18_code
def yX3_leaveEmpty : MethodName := ⟨RX3, "leaveEmpty", "(I)V"⟩
abbrev cX3_waitInYard : ByteArray := prog_5_method_19_code
def yX3_waitInYard : MethodName := ⟨RX3, "waitInYard", "(I)V"⟩
abbrev cX3_leaveYard : ByteArray := prog_5_method_20_code
def yX3_leaveYard : MethodName := ⟨RX3, "leaveYard", "(I)V"⟩
abbrev cX3_bitOf : ByteArray := prog_5_method_21_code
def yX3_bitOf : MethodName := ⟨RX3, "bitOf", "(I)I"⟩
abbrev cX3_isThere : ByteArray := prog_5_method_22_code
def yX3_isThere : MethodName := ⟨RX3, "isThere", "(I)Z"⟩
abbrev cX3_bedOf : ByteArray := prog_5_method_23_code
def yX3_bedOf : MethodName := ⟨RX3, "bedOf", "(I)I"⟩
abbrev cX3_sleeperOf : ByteArray := prog_5_method_24_code
def yX3_sleeperOf : MethodName := ⟨RX3, "sleeperOf", "(I)I"⟩
abbrev cX3_emptyBed : ByteArray := prog_5_method_25_code
def yX3_emptyBed : MethodName := ⟨RX3, "emptyBed", "(I)I"⟩
abbrev cX3_timesUsed : ByteArray := prog_5_method_26_code
def yX3_timesUsed : MethodName := ⟨RX3, "timesUsed", "(I)I"⟩
abbrev cX3_countOf : ByteArray := prog_5_method_27_code
def yX3_countOf : MethodName := ⟨RX3, "countOf", "(II)I"⟩
abbrev cX3_allSheets : ByteArray := prog_5_method_28_code
def yX3_allSheets : MethodName := ⟨RX3, "allSheets", "()I"⟩
def RX4 : String := "WarmBeds$Party"
def TX4 : u_T := fun k => match k with
  | 0 => ("WarmBeds$Party", "most", "I", false)
  | 1 => ("WarmBeds$Party", "size", "I", false)
  | 2 => ("WarmBeds$Party", "bestOrder", "[I", true)
  | _ => ("WarmBeds$Party", "trial", "[I", true)
def tyX4 : Nat → FieldType := fun k => match k with
  | 0 => .int
  | 1 => .int
  | 2 => .array .int
  | _ => .array .int
abbrev wsX40 : List Cond := u_ws RX4 TX4 4
theorem nmX4 : ∀ a, a < 4 → ∀ b, b < 4 → a ≠ b → (TX4 a).2.1 ≠ (TX4 b).2.1 := by decide +kernel
theorem tyX4_ok : ∀ k, k < 4 → parseFieldDescriptor (TX4 k).2.2.1 = some (tyX4 k) := by decide +kernel
abbrev cX4_init : ByteArray := prog_6_method_1_code
def yX4_init : MethodName := ⟨RX4, "<init>", "()V"⟩
abbrev cX4_order : ByteArray := prog_6_method_2_code
def yX4_order : MethodName := ⟨RX4, "order", "(LWarmBeds$Inn;I)V"⟩
abbrev cX4_letIn : ByteArray := prog_6_method_3_code
def yX4_letIn : MethodName := ⟨RX4, "letIn", "(LWarmBeds$Party;LWarmBeds$Inn;III)V"⟩
abbrev cX4_keepIfBetter : ByteArray := prog_6_method_4_code
def yX4_keepIfBetter : MethodName := ⟨RX4, "keepIfBetter", "(I)V"⟩
abbrev cX4_guestAt : ByteArray := prog_6_method_5_code
def yX4_guestAt : MethodName := ⟨RX4, "guestAt", "(I)I"⟩
def RX5 : String := "WarmBeds"
def TX5 : u_T := fun k => match k with
  | 0 => ("WarmBeds", "house", "LWarmBeds$House;", true)
  | 1 => ("WarmBeds", "imageZero", "LWarmBeds$House;", true)
  | 2 => ("WarmBeds", "imageOne", "LWarmBeds$House;", true)
  | 3 => ("WarmBeds", "day", "LWarmBeds$Day;", true)
  | 4 => ("WarmBeds", "company", "LWarmBeds$Party;", true)
  | 5 => ("WarmBeds", "guesses", "LWarmBeds$Guesses;", true)
  | 6 => ("WarmBeds", "inn", "LWarmBeds$Inn;", true)
  | _ => ("WarmBeds", "bedsByPlace", "[I", true)
def tyX5 : Nat → FieldType := fun k => match k with
  | 0 => .object "WarmBeds$House"
  | 1 => .object "WarmBeds$House"
  | 2 => .object "WarmBeds$House"
  | 3 => .object "WarmBeds$Day"
  | 4 => .object "WarmBeds$Party"
  | 5 => .object "WarmBeds$Guesses"
  | 6 => .object "WarmBeds$Inn"
  | _ => .array .int
abbrev wsX50 : List Cond := u_ws RX5 TX5 8
theorem nmX5 : ∀ a, a < 8 → ∀ b, b < 8 → a ≠ b → (TX5 a).2.1 ≠ (TX5 b).2.1 := by decide +kernel
theorem tyX5_ok : ∀ k, k < 8 → parseFieldDescriptor (TX5 k).2.2.1 = some (tyX5 k) := by decide +kernel
abbrev cX5_init : ByteArray := prog_1_method_1_code
def yX5_init : MethodName := ⟨RX5, "<init>", "()V"⟩
abbrev cX5_beds : ByteArray := prog_1_method_2_code
def yX5_beds : MethodName := ⟨RX5, "beds", "(I)I"⟩
abbrev cX5_worth : ByteArray := prog_1_method_3_code
def yX5_worth : MethodName := ⟨RX5, "worth", "(III)I"⟩
abbrev cX5_rule : ByteArray := prog_1_method_4_code
def yX5_rule : MethodName := ⟨RX5, "rule", "(I)I"⟩
abbrev cX5_say : ByteArray := prog_1_method_5_code
def yX5_say : MethodName := ⟨RX5, "say", "(I)I"⟩
abbrev cX5_wipe : ByteArray := prog_1_method_6_code
def yX5_wipe : MethodName := ⟨RX5, "wipe", "()I"⟩
abbrev cX5_fault : ByteArray := prog_1_method_7_code
def yX5_fault : MethodName := ⟨RX5, "fault", "()I"⟩
abbrev cX5_judge : ByteArray := prog_1_method_8_code
def yX5_judge : MethodName := ⟨RX5, "judge", "(I)I"⟩
abbrev cX5_bed : ByteArray := prog_1_method_9_code
def yX5_bed : MethodName := ⟨RX5, "bed", "(II)I"⟩
abbrev cX5_who : ByteArray := prog_1_method_10_code
def yX5_who : MethodName := ⟨RX5, "who", "(II)I"⟩
abbrev cX5_left : ByteArray := prog_1_method_11_code
def yX5_left : MethodName := ⟨RX5, "left", "(II)I"⟩
abbrev cX5_slept : ByteArray := prog_1_method_12_code
def yX5_slept : MethodName := ⟨RX5, "slept", "(II)I"⟩
abbrev cX5_fewest : ByteArray := prog_1_method_13_code
def yX5_fewest : MethodName := ⟨RX5, "fewest", "(I)I"⟩
abbrev cX5_when : ByteArray := prog_1_method_14_code
def yX5_when : MethodName := ⟨RX5, "when", "(III)I"⟩
abbrev cX5_best : ByteArray := prog_1_method_15_code
def yX5_best : MethodName := ⟨RX5, "best", "(II)I"⟩
abbrev cX5_reach : ByteArray := prog_1_method_16_code
def yX5_reach : MethodName := ⟨RX5, "reach", "(I)I"⟩
abbrev cX5_party : ByteArray := prog_1_method_17_code
def yX5_party : MethodName := ⟨RX5, "party", "(II)I"⟩
abbrev cX5_fleas : ByteArray := prog_1_method_18_code
def yX5_fleas : MethodName := ⟨RX5, "fleas", "(II)I"⟩
abbrev cX5_brought : ByteArray := prog_1_method_19_code
def yX5_brought : MethodName := ⟨RX5, "brought", "(I)I"⟩
abbrev cX5_seen : ByteArray := prog_1_method_20_code
def yX5_seen : MethodName := ⟨RX5, "seen", "(II)I"⟩
abbrev cX5_forget : ByteArray := prog_1_method_21_code
def yX5_forget : MethodName := ⟨RX5, "forget", "()I"⟩
abbrev cX5_filled : ByteArray := prog_1_method_22_code
def yX5_filled : MethodName := ⟨RX5, "filled", "(I)I"⟩
abbrev cX5_could : ByteArray := prog_1_method_23_code
def yX5_could : MethodName := ⟨RX5, "could", "(I)I"⟩
abbrev cX5_chance : ByteArray := prog_1_method_24_code
def yX5_chance : MethodName := ⟨RX5, "chance", "(IIII)J"⟩
abbrev cX5_year : ByteArray := prog_1_method_25_code
def yX5_year : MethodName := ⟨RX5, "year", "(III)I"⟩
abbrev cX5_image : ByteArray := prog_1_method_26_code
def yX5_image : MethodName := ⟨RX5, "image", "(I)I"⟩
abbrev cX5_restore : ByteArray := prog_1_method_27_code
def yX5_restore : MethodName := ⟨RX5, "restore", "(I)I"⟩
abbrev cX5_told : ByteArray := prog_1_method_28_code
def yX5_told : MethodName := ⟨RX5, "told", "(I)I"⟩
abbrev cX5_isGuest : ByteArray := prog_1_method_29_code
def yX5_isGuest : MethodName := ⟨RX5, "isGuest", "(I)Z"⟩
abbrev cX5_isBed : ByteArray := prog_1_method_30_code
def yX5_isBed : MethodName := ⟨RX5, "isBed", "(I)Z"⟩
abbrev cX5_isEither : ByteArray := prog_1_method_31_code
def yX5_isEither : MethodName := ⟨RX5, "isEither", "(I)Z"⟩
abbrev cX5_isCountOfEvents : ByteArray := prog_1_method_32_code
def yX5_isCountOfEvents : MethodName := ⟨RX5, "isCountOfEvents", "(I)Z"⟩
abbrev cX5_liveThrough : ByteArray := prog_1_method_33_code
def yX5_liveThrough : MethodName := ⟨RX5, "liveThrough", "(I)I"⟩
abbrev cX5_sheetsBy : ByteArray := prog_1_method_34_code
def yX5_sheetsBy : MethodName := ⟨RX5, "sheetsBy", "(I)I"⟩
abbrev cX5_refusalOfComing : ByteArray := prog_1_method_35_code
def yX5_refusalOfComing : MethodName := ⟨RX5, "refusalOfComing", "(I)I"⟩
abbrev cX5_tryAllPlaces : ByteArray := prog_1_method_36_code
def yX5_tryAllPlaces : MethodName := ⟨RX5, "tryAllPlaces", "(I)V"⟩
abbrev cX5_bedComingAt : ByteArray := prog_1_method_37_code
def yX5_bedComingAt : MethodName := ⟨RX5, "bedComingAt", "(I)I"⟩
abbrev cX5_worthComingAt : ByteArray := prog_1_method_38_code
def yX5_worthComingAt : MethodName := ⟨RX5, "worthComingAt", "(II)I"⟩
abbrev cX5_spreadFrom : ByteArray := prog_1_method_39_code
def yX5_spreadFrom : MethodName := ⟨RX5, "spreadFrom", "(I)V"⟩
abbrev cX5_weightOf : ByteArray := prog_1_method_40_code
def yX5_weightOf : MethodName := ⟨RX5, "weightOf", "(LWarmBeds$Inn;III)J"⟩
abbrev cX5_partInLowestTerms : ByteArray := prog_1_method_41_code
def yX5_partInLowestTerms : MethodName := ⟨RX5, "partInLowestTerms", "(JII)J"⟩
abbrev cX5_worthTold : ByteArray := prog_1_method_42_code
def yX5_worthTold : MethodName := ⟨RX5, "worthTold", "(I)I"⟩
def RX6 : String := "WarmBedsModel"
def TX6 : u_T := fun k => match k with
  | 0 => ("WarmBedsModel", "beds", "I", false)
  | 1 => ("WarmBedsModel", "law", "I", false)
  | 2 => ("WarmBedsModel", "worths", "[I", true)
  | 3 => ("WarmBedsModel", "sights", "I", false)
  | 4 => ("WarmBedsModel", "sight", "[I", true)
  | 5 => ("WarmBedsModel", "signs", "I", false)
  | 6 => ("WarmBedsModel", "pad", "[I", true)
  | 7 => ("WarmBedsModel", "lies", "[I", true)
  | 8 => ("WarmBedsModel", "empty", "I", false)
  | 9 => ("WarmBedsModel", "list", "[I", true)
  | 10 => ("WarmBedsModel", "waits", "I", false)
  | 11 => ("WarmBedsModel", "yard", "[I", true)
  | 12 => ("WarmBedsModel", "last", "[I", true)
  | 13 => ("WarmBedsModel", "used", "[I", true)
  | 14 => ("WarmBedsModel", "sheets", "[I", true)
  | 15 => ("WarmBedsModel", "nights", "[I", true)
  | 16 => ("WarmBedsModel", "fleasOfGuests", "I", false)
  | 17 => ("WarmBedsModel", "fleasOfBeds", "I", false)
  | 18 => ("WarmBedsModel", "reason", "I", false)
  | 19 => ("WarmBedsModel", "row", "[I", true)
  | 20 => ("WarmBedsModel", "bestRow", "[I", true)
  | 21 => ("WarmBedsModel", "image", "[I", true)
  | _ => ("WarmBedsModel", "isKept", "[Z", true)
def tyX6 : Nat → FieldType := fun k => match k with
  | 0 => .int
  | 1 => .int
  | 2 => .array .int
  | 3 => .int
  | 4 => .array .int
  | 5 => .int
  | 6 => .array .int
  | 7 => .array .int
  | 8 => .int
  | 9 => .array .int
  | 10 => .int
  | 11 => .array .int
  | 12 => .array .int
  | 13 => .array .int
  | 14 => .array .int
  | 15 => .array .int
  | 16 => .int
  | 17 => .int
  | 18 => .int
  | 19 => .array .int
  | 20 => .array .int
  | 21 => .array .int
  | _ => .array .boolean
abbrev wsX60 : List Cond := u_ws RX6 TX6 23
theorem nmX6 : ∀ a, a < 23 → ∀ b, b < 23 → a ≠ b → (TX6 a).2.1 ≠ (TX6 b).2.1 := by decide +kernel
theorem tyX6_ok : ∀ k, k < 23 → parseFieldDescriptor (TX6 k).2.2.1 = some (tyX6 k) := by decide +kernel
abbrev cX6_init : ByteArray := prog_8_method_1_code
def yX6_init : MethodName := ⟨RX6, "<init>", "()V"⟩
abbrev cX6_in : ByteArray := prog_8_method_2_code
def yX6_in : MethodName := ⟨RX6, "in", "(III)Z"⟩
abbrev cX6_has : ByteArray := prog_8_method_3_code
def yX6_has : MethodName := ⟨RX6, "has", "(II)Z"⟩
abbrev cX6_isGuest : ByteArray := prog_8_method_4_code
def yX6_isGuest : MethodName := ⟨RX6, "isGuest", "(I)Z"⟩
abbrev cX6_isBed : ByteArray := prog_8_method_5_code
def yX6_isBed : MethodName := ⟨RX6, "isBed", "(I)Z"⟩
abbrev cX6_beds : ByteArray := prog_8_method_6_code
def yX6_beds : MethodName := ⟨RX6, "beds", "(I)I"⟩
abbrev cX6_worth : ByteArray := prog_8_method_7_code
def yX6_worth : MethodName := ⟨RX6, "worth", "(III)I"⟩
abbrev cX6_rule : ByteArray := prog_8_method_8_code
def yX6_rule : MethodName := ⟨RX6, "rule", "(I)I"⟩
abbrev cX6_say : ByteArray := prog_8_method_9_code
def yX6_say : MethodName := ⟨RX6, "say", "(I)I"⟩
abbrev cX6_wipe : ByteArray := prog_8_method_10_code
def yX6_wipe : MethodName := ⟨RX6, "wipe", "()I"⟩
abbrev cX6_faultOf : ByteArray := prog_8_method_11_code
def yX6_faultOf : MethodName := ⟨RX6, "faultOf", "()I"⟩
abbrev cX6_fault : ByteArray := prog_8_method_12_code
def yX6_fault : MethodName := ⟨RX6, "fault", "()I"⟩
abbrev cX6_opens : ByteArray := prog_8_method_13_code
def yX6_opens : MethodName := ⟨RX6, "opens", "(I)I"⟩
abbrev cX6_begin : ByteArray := prog_8_method_14_code
def yX6_begin : MethodName := ⟨RX6, "begin", "()V"⟩
abbrev cX6_bedOf : ByteArray := prog_8_method_15_code
def yX6_bedOf : MethodName := ⟨RX6, "bedOf", "(I)I"⟩
abbrev cX6_isWaiting : ByteArray := prog_8_method_16_code
def yX6_isWaiting : MethodName := ⟨RX6, "isWaiting", "(I)Z"⟩
abbrev cX6_isThere : ByteArray := prog_8_method_17_code
def yX6_isThere : MethodName := ⟨RX6, "isThere", "(I)Z"⟩
abbrev cX6_take : ByteArray := prog_8_method_18_code
def yX6_take : MethodName := ⟨RX6, "take", "(II)V"⟩
abbrev cX6_worthTo : ByteArray := prog_8_method_19_code
def yX6_worthTo : MethodName := ⟨RX6, "worthTo", "(II)I"⟩
abbrev cX6_chosen : ByteArray := prog_8_method_20_code
def yX6_chosen : MethodName := ⟨RX6, "chosen", "(I)I"⟩
abbrev cX6_comeIn : ByteArray := prog_8_method_21_code
def yX6_comeIn : MethodName := ⟨RX6, "comeIn", "(I)V"⟩
abbrev cX6_outOfYard : ByteArray := prog_8_method_22_code
def yX6_outOfYard : MethodName := ⟨RX6, "outOfYard", "(I)V"⟩
abbrev cX6_goOut : ByteArray := prog_8_method_23_code
def yX6_goOut : MethodName := ⟨RX6, "goOut", "(I)V"⟩
abbrev cX6_pass : ByteArray := prog_8_method_24_code
def yX6_pass : MethodName := ⟨RX6, "pass", "()V"⟩
abbrev cX6_happen : ByteArray := prog_8_method_25_code
def yX6_happen : MethodName := ⟨RX6, "happen", "(I)I"⟩
abbrev cX6_eventOf : ByteArray := prog_8_method_26_code
def yX6_eventOf : MethodName := ⟨RX6, "eventOf", "(I)I"⟩
abbrev cX6_go : ByteArray := prog_8_method_27_code
def yX6_go : MethodName := ⟨RX6, "go", "(IIII)I"⟩
abbrev cX6_judge : ByteArray := prog_8_method_28_code
def yX6_judge : MethodName := ⟨RX6, "judge", "(I)I"⟩
abbrev cX6_barOf : ByteArray := prog_8_method_29_code
def yX6_barOf : MethodName := ⟨RX6, "barOf", "(I)I"⟩
abbrev cX6_bed : ByteArray := prog_8_method_30_code
def yX6_bed : MethodName := ⟨RX6, "bed", "(II)I"⟩
abbrev cX6_who : ByteArray := prog_8_method_31_code
def yX6_who : MethodName := ⟨RX6, "who", "(II)I"⟩
abbrev cX6_left : ByteArray := prog_8_method_32_code
def yX6_left : MethodName := ⟨RX6, "left", "(II)I"⟩
abbrev cX6_slept : ByteArray := prog_8_method_33_code
def yX6_slept : MethodName := ⟨RX6, "slept", "(II)I"⟩
abbrev cX6_fewest : ByteArray := prog_8_method_34_code
def yX6_fewest : MethodName := ⟨RX6, "fewest", "(I)I"⟩
abbrev cX6_isInDay : ByteArray := prog_8_method_35_code
def yX6_isInDay : MethodName := ⟨RX6, "isInDay", "(I)Z"⟩
abbrev cX6_barOfComing : ByteArray := prog_8_method_36_code
def yX6_barOfComing : MethodName := ⟨RX6, "barOfComing", "()I"⟩
abbrev cX6_when : ByteArray := prog_8_method_37_code
def yX6_when : MethodName := ⟨RX6, "when", "(III)I"⟩
abbrev cX6_best : ByteArray := prog_8_method_38_code
def yX6_best : MethodName := ⟨RX6, "best", "(II)I"⟩
abbrev cX6_reach : ByteArray := prog_8_method_39_code
def yX6_reach : MethodName := ⟨RX6, "reach", "(I)I"⟩
abbrev cX6_nextRow : ByteArray := prog_8_method_40_code
def yX6_nextRow : MethodName := ⟨RX6, "nextRow", "(I)Z"⟩
abbrev cX6_change : ByteArray := prog_8_method_41_code
def yX6_change : MethodName := ⟨RX6, "change", "(II)V"⟩
abbrev cX6_party : ByteArray := prog_8_method_42_code
def yX6_party : MethodName := ⟨RX6, "party", "(II)I"⟩
abbrev cX6_layFleas : ByteArray := prog_8_method_43_code
def yX6_layFleas : MethodName := ⟨RX6, "layFleas", "(II)I"⟩
abbrev cX6_fleas : ByteArray := prog_8_method_44_code
def yX6_fleas : MethodName := ⟨RX6, "fleas", "(II)I"⟩
abbrev cX6_brought : ByteArray := prog_8_method_45_code
def yX6_brought : MethodName := ⟨RX6, "brought", "(I)I"⟩
abbrev cX6_seen : ByteArray := prog_8_method_46_code
def yX6_seen : MethodName := ⟨RX6, "seen", "(II)I"⟩
abbrev cX6_forget : ByteArray := prog_8_method_47_code
def yX6_forget : MethodName := ⟨RX6, "forget", "()I"⟩
abbrev cX6_isFit : ByteArray := prog_8_method_48_code
def yX6_isFit : MethodName := ⟨RX6, "isFit", "(I)Z"⟩
abbrev cX6_codes : ByteArray := prog_8_method_49_code
def yX6_codes : MethodName := ⟨RX6, "codes", "()I"⟩
abbrev cX6_guestAt : ByteArray := prog_8_method_50_code
def yX6_guestAt : MethodName := ⟨RX6, "guestAt", "(II)I"⟩
abbrev cX6_filled : ByteArray := prog_8_method_51_code
def yX6_filled : MethodName := ⟨RX6, "filled", "(I)I"⟩
abbrev cX6_could : ByteArray := prog_8_method_52_code
def yX6_could : MethodName := ⟨RX6, "could", "(I)I"⟩
abbrev cX6_power : ByteArray := prog_8_method_53_code
def yX6_power : MethodName := ⟨RX6, "power", "(JI)J"⟩
abbrev cX6_chance : ByteArray := prog_8_method_54_code
def yX6_chance : MethodName := ⟨RX6, "chance", "(IIII)J"⟩
abbrev cX6_year : ByteArray := prog_8_method_55_code
def yX6_year : MethodName := ⟨RX6, "year", "(III)I"⟩
abbrev cX6_image : ByteArray := prog_8_method_56_code
def yX6_image : MethodName := ⟨RX6, "image", "(I)I"⟩
abbrev cX6_restore : ByteArray := prog_8_method_57_code
def yX6_restore : MethodName := ⟨RX6, "restore", "(I)I"⟩
abbrev cX6_told : ByteArray := prog_8_method_58_code
def yX6_told : MethodName := ⟨RX6, "told", "(I)I"⟩
def RJ6 : String := "java/lang/Integer"
def TJ6 : u_T := fun k => match k with
  | _ => ("", "", "", false)
def tyJ6 : Nat → FieldType := fun k => match k with
  | _ => .int
abbrev wsJ60 : List Cond := u_ws RJ6 TJ6 0
theorem nmJ6 : ∀ a, a < 0 → ∀ b, b < 0 → a ≠ b → (TJ6 a).2.1 ≠ (TJ6 b).2.1 := by decide +kernel
theorem tyJ6_ok : ∀ k, k < 0 → parseFieldDescriptor (TJ6 k).2.2.1 = some (tyJ6 k) := by decide +kernel
abbrev cJ6_bitCount_0f7a4 : ByteArray := prog_9_method_49_code
def yJ6_bitCount_0f7a4 : MethodName := ⟨RJ6, "bitCount", "(I)I"⟩
def RJ10 : String := "java/lang/System"
def TJ10 : u_T := fun k => match k with
  | _ => ("", "", "", false)
def tyJ10 : Nat → FieldType := fun k => match k with
  | _ => .int
abbrev wsJ100 : List Cond := u_ws RJ10 TJ10 0
theorem nmJ10 : ∀ a, a < 0 → ∀ b, b < 0 → a ≠ b → (TJ10 a).2.1 ≠ (TJ10 b).2.1 := by decide +kernel
theorem tyJ10_ok : ∀ k, k < 0 → parseFieldDescriptor (TJ10 k).2.2.1 = some (tyJ10 k) := by decide +kernel
def RL : String := "WarmBedsLaw"
abbrev cL_law : ByteArray := code
def yL_law : MethodName := ⟨RL, "law", "([I)Z"⟩
def wsL_law_r1 : List Cond := [Cond.classLink RL 7 RX5, Cond.instantiable RX5 8, Cond.initialized RX5, Cond.classLink RL 10 RX6, Cond.instantiable RX6 23, Cond.initialized RX6, Cond.methodLink RL 9 yX5_init, Cond.instanceMethod yX5_init, Cond.code yX5_init cX5_init 3 none, Cond.methodLink RX5 3 objectInit, Cond.instanceMethod objectInit, Cond.code objectInit ⟨#[0xb1]⟩ 1 none, Cond.classLink RX5 9 RX2, Cond.instantiable RX2 7, Cond.initialized RX2, Cond.fieldLink RX5 12 "WarmBeds" "house" "LWarmBeds$House;", Cond.fieldLink RX5 16 "WarmBeds" "imageZero" "LWarmBeds$House;", Cond.fieldLink RX5 19 "WarmBeds" "imageOne" "LWarmBeds$House;", Cond.classLink RX5 22 RX0, Cond.instantiable RX0 2, Cond.initialized RX0, Cond.fieldLink RX5 25 "WarmBeds" "day" "LWarmBeds$Day;", Cond.classLink RX5 29 RX4, Cond.instantiable RX4 4]
def wsL_law_r2 : List Cond := [Cond.initialized RX4, Cond.fieldLink RX5 32 "WarmBeds" "company" "LWarmBeds$Party;", Cond.classLink RX5 36 RX1, Cond.instantiable RX1 5, Cond.initialized RX1, Cond.fieldLink RX5 39 "WarmBeds" "guesses" "LWarmBeds$Guesses;", Cond.arrayClass .int, Cond.fieldLink RX5 43 "WarmBeds" "bedsByPlace" "[I", Cond.classLink RX5 47 RX3, Cond.instantiable RX3 16, Cond.initialized RX3, Cond.fieldLink RX5 52 "WarmBeds" "inn" "LWarmBeds$Inn;", Cond.instanceMethod yX2_init, Cond.code yX2_init cX2_init 1 none, Cond.methodLink RX2 3 objectInit, Cond.fieldLink RX2 9 "WarmBeds$House" "beds" "I", Cond.fieldLink RX2 15 "WarmBeds$House" "worths" "[I", Cond.fieldLink RX2 19 "WarmBeds$House" "sightGuests" "[I", Cond.fieldLink RX2 22 "WarmBeds$House" "sightBeds" "[I", Cond.instanceMethod yX0_init, Cond.code yX0_init cX0_init 1 none, Cond.methodLink RX0 3 objectInit, Cond.fieldLink RX0 9 "WarmBeds$Day" "signs" "[I", Cond.instanceMethod yX4_init]
def wsL_law_r3 : List Cond := [Cond.code yX4_init cX4_init 1 none, Cond.methodLink RX4 3 objectInit, Cond.fieldLink RX4 9 "WarmBeds$Party" "bestOrder" "[I", Cond.fieldLink RX4 15 "WarmBeds$Party" "trial" "[I", Cond.instanceMethod yX1_init, Cond.code yX1_init cX1_init 1 none, Cond.methodLink RX1 3 objectInit, Cond.fieldLink RX1 9 "WarmBeds$Guesses" "trial" "[I", Cond.fieldLink RX1 15 "WarmBeds$Guesses" "first" "[I", Cond.fieldLink RX1 18 "WarmBeds$Guesses" "suspects" "[I", Cond.instanceMethod yX3_init, Cond.code yX3_init cX3_init 3 none, Cond.methodLink RX3 3 objectInit, Cond.fieldLink RX3 9 "WarmBeds$Inn" "sleepers" "[I", Cond.fieldLink RX3 15 "WarmBeds$Inn" "empty" "[I", Cond.fieldLink RX3 18 "WarmBeds$Inn" "yard" "[I", Cond.fieldLink RX3 21 "WarmBeds$Inn" "nights" "[I", Cond.fieldLink RX3 24 "WarmBeds$Inn" "used" "[I", Cond.fieldLink RX3 27 "WarmBeds$Inn" "sheets" "[I", Cond.fieldLink RX3 30 "WarmBeds$Inn" "lastOnes" "[I", Cond.fieldLink RX3 33 "WarmBeds$Inn" "house" "LWarmBeds$House;", Cond.fieldLink RX3 37 "WarmBeds$Inn" "deeper" "LWarmBeds$Inn;", Cond.methodLink RL 12 yX6_init, Cond.instanceMethod yX6_init]
def wsL_law_r4 : List Cond := [Cond.code yX6_init cX6_init 1 none, Cond.methodLink RX6 1 objectInit, Cond.fieldLink RX6 7 "WarmBedsModel" "beds" "I", Cond.fieldLink RX6 13 "WarmBedsModel" "worths" "[I", Cond.fieldLink RX6 17 "WarmBedsModel" "sight" "[I", Cond.fieldLink RX6 20 "WarmBedsModel" "pad" "[I", Cond.fieldLink RX6 23 "WarmBedsModel" "lies" "[I", Cond.fieldLink RX6 26 "WarmBedsModel" "list" "[I", Cond.fieldLink RX6 29 "WarmBedsModel" "yard" "[I", Cond.fieldLink RX6 32 "WarmBedsModel" "last" "[I", Cond.fieldLink RX6 35 "WarmBedsModel" "used" "[I", Cond.fieldLink RX6 38 "WarmBedsModel" "sheets" "[I", Cond.fieldLink RX6 41 "WarmBedsModel" "nights" "[I", Cond.fieldLink RX6 44 "WarmBedsModel" "row" "[I", Cond.fieldLink RX6 47 "WarmBedsModel" "bestRow" "[I", Cond.fieldLink RX6 50 "WarmBedsModel" "image" "[I", Cond.arrayClass .boolean, Cond.fieldLink RX6 53 "WarmBedsModel" "isKept" "[Z", Cond.fieldLink RX6 57 "WarmBedsModel" "law" "I", Cond.methodLink RL 13 yX5_beds, Cond.instanceMethod yX5_beds, Cond.selects RX5 yX5_beds yX5_beds, Cond.code yX5_beds cX5_beds 3 (some .int), Cond.instanceMethod yX2_furnish]
def wsL_law_r5 : List Cond := [Cond.selects RX2 yX2_furnish yX2_furnish, Cond.code yX2_furnish cX2_furnish 3 none, Cond.fieldLink RX2 25 "WarmBeds$House" "sights" "I", Cond.methodLink RL 17 yX6_beds, Cond.instanceMethod yX6_beds, Cond.selects RX6 yX6_beds yX6_beds, Cond.code yX6_beds cX6_beds 4 (some .int), Cond.fieldLink RX6 64 "WarmBedsModel" "sights" "I", Cond.methodLink RX6 60 yX6_in, Cond.static yX6_in, Cond.code yX6_in cX6_in 3 (some .boolean), Cond.methodLink RL 18 yX5_worth, Cond.instanceMethod yX5_worth, Cond.selects RX5 yX5_worth yX5_worth, Cond.code yX5_worth cX5_worth 5 (some .int), Cond.methodLink RX5 64 yX5_isGuest, Cond.static yX5_isGuest, Cond.code yX5_isGuest cX5_isGuest 1 (some .boolean), Cond.methodLink RX5 68 yX5_isBed, Cond.instanceMethod yX5_isBed, Cond.selects RX5 yX5_isBed yX5_isBed, Cond.code yX5_isBed cX5_isBed 2 (some .boolean), Cond.instanceMethod yX2_worthOf, Cond.selects RX2 yX2_worthOf yX2_worthOf]
def wsL_law_r6 : List Cond := [Cond.code yX2_worthOf cX2_worthOf 3 (some .int), Cond.instanceMethod yX2_setWorth, Cond.selects RX2 yX2_setWorth yX2_setWorth, Cond.code yX2_setWorth cX2_setWorth 4 none, Cond.methodLink RL 22 yX6_worth, Cond.instanceMethod yX6_worth, Cond.selects RX6 yX6_worth yX6_worth, Cond.code yX6_worth cX6_worth 5 (some .int), Cond.methodLink RX6 67 yX6_isGuest, Cond.static yX6_isGuest, Cond.code yX6_isGuest cX6_isGuest 1 (some .boolean), Cond.methodLink RX6 71 yX6_isBed, Cond.instanceMethod yX6_isBed, Cond.selects RX6 yX6_isBed yX6_isBed, Cond.code yX6_isBed cX6_isBed 2 (some .boolean), Cond.methodLink RL 23 yX5_rule, Cond.instanceMethod yX5_rule, Cond.selects RX5 yX5_rule yX5_rule, Cond.code yX5_rule cX5_rule 3 (some .int), Cond.methodLink RL 26 yX6_rule, Cond.instanceMethod yX6_rule, Cond.selects RX6 yX6_rule yX6_rule, Cond.code yX6_rule cX6_rule 3 (some .int), Cond.methodLink RL 27 yX5_say]
def wsL_law_r7 : List Cond := [Cond.instanceMethod yX5_say, Cond.selects RX5 yX5_say yX5_say, Cond.code yX5_say cX5_say 2 (some .int), Cond.instanceMethod yX0_isFull, Cond.selects RX0 yX0_isFull yX0_isFull, Cond.code yX0_isFull cX0_isFull 1 (some .boolean), Cond.fieldLink RX0 15 "WarmBeds$Day" "length" "I", Cond.instanceMethod yX0_write, Cond.selects RX0 yX0_write yX0_write, Cond.code yX0_write cX0_write 2 none, Cond.methodLink RL 30 yX6_say, Cond.instanceMethod yX6_say, Cond.selects RX6 yX6_say yX6_say, Cond.code yX6_say cX6_say 2 (some .int), Cond.fieldLink RX6 74 "WarmBedsModel" "signs" "I", Cond.methodLink RL 31 yX5_wipe, Cond.instanceMethod yX5_wipe, Cond.selects RX5 yX5_wipe yX5_wipe, Cond.code yX5_wipe cX5_wipe 2 (some .int), Cond.methodLink RL 35 yX6_wipe, Cond.instanceMethod yX6_wipe, Cond.selects RX6 yX6_wipe yX6_wipe, Cond.code yX6_wipe cX6_wipe 2 (some .int), Cond.methodLink RL 36 yX5_fault]
def wsL_law_r8 : List Cond := [Cond.instanceMethod yX5_fault, Cond.selects RX5 yX5_fault yX5_fault, Cond.code yX5_fault cX5_fault 1 (some .int), Cond.instanceMethod yX0_firstFault, Cond.selects RX0 yX0_firstFault yX0_firstFault, Cond.code yX0_firstFault cX0_firstFault 4 (some .int), Cond.methodLink RX0 19 yX0_signAt, Cond.instanceMethod yX0_signAt, Cond.selects RX0 yX0_signAt yX0_signAt, Cond.code yX0_signAt cX0_signAt 2 (some .int), Cond.methodLink RX0 23 yX0_isComing, Cond.static yX0_isComing, Cond.code yX0_isComing cX0_isComing 1 (some .boolean), Cond.methodLink RX0 27 yX0_isGoing, Cond.static yX0_isGoing, Cond.code yX0_isGoing cX0_isGoing 1 (some .boolean), Cond.methodLink RL 39 yX6_fault, Cond.instanceMethod yX6_fault, Cond.selects RX6 yX6_fault yX6_fault, Cond.code yX6_fault cX6_fault 1 (some .int), Cond.methodLink RX6 77 yX6_faultOf, Cond.instanceMethod yX6_faultOf, Cond.selects RX6 yX6_faultOf yX6_faultOf, Cond.code yX6_faultOf cX6_faultOf 5 (some .int)]
def wsL_law_r9 : List Cond := [Cond.methodLink RL 40 yX5_judge, Cond.instanceMethod yX5_judge, Cond.selects RX5 yX5_judge yX5_judge, Cond.code yX5_judge cX5_judge 3 (some .int), Cond.methodLink RX5 96 yX5_isEither, Cond.static yX5_isEither, Cond.code yX5_isEither cX5_isEither 1 (some .boolean), Cond.instanceMethod yX0_isUntold, Cond.selects RX0 yX0_isUntold yX0_isUntold, Cond.code yX0_isUntold cX0_isUntold 2 (some .boolean), Cond.methodLink RX0 30 yX0_nextUntold, Cond.instanceMethod yX0_nextUntold, Cond.selects RX0 yX0_nextUntold yX0_nextUntold, Cond.code yX0_nextUntold cX0_nextUntold 3 (some .int), Cond.instanceMethod yX3_open, Cond.selects RX3 yX3_open yX3_open, Cond.code yX3_open cX3_open 3 none, Cond.fieldLink RX3 41 "WarmBeds$Inn" "law" "I", Cond.fieldLink RX3 45 "WarmBeds$Inn" "there" "I", Cond.fieldLink RX3 48 "WarmBeds$Inn" "empties" "I", Cond.fieldLink RX3 51 "WarmBeds$Inn" "waiting" "I", Cond.fieldLink RX3 54 "WarmBeds$Inn" "guestsWithFleas" "I", Cond.fieldLink RX3 57 "WarmBeds$Inn" "bedsWithFleas" "I", Cond.fieldLink RX3 60 "WarmBeds$Inn" "isCounting" "Z"]
def wsL_law_r10 : List Cond := [Cond.methodLink RX3 69 yX3_leaveEmpty, Cond.instanceMethod yX3_leaveEmpty, Cond.selects RX3 yX3_leaveEmpty yX3_leaveEmpty, Cond.code yX3_leaveEmpty cX3_leaveEmpty 2 none, Cond.instanceMethod yX3_live, Cond.selects RX3 yX3_live yX3_live, Cond.code yX3_live cX3_live 6 (some .int), Cond.methodLink RX3 85 yX3_whyNot, Cond.instanceMethod yX3_whyNot, Cond.selects RX3 yX3_whyNot yX3_whyNot, Cond.code yX3_whyNot cX3_whyNot 2 (some .int), Cond.methodLink RX3 104 yX3_isThere, Cond.instanceMethod yX3_isThere, Cond.selects RX3 yX3_isThere yX3_isThere, Cond.code yX3_isThere cX3_isThere 2 (some .boolean), Cond.methodLink RX3 107 yX3_bitOf, Cond.static yX3_bitOf, Cond.code yX3_bitOf cX3_bitOf 1 (some .int), Cond.methodLink RX3 92 yX3_takeIn, Cond.instanceMethod yX3_takeIn, Cond.selects RX3 yX3_takeIn yX3_takeIn, Cond.code yX3_takeIn cX3_takeIn 3 none, Cond.methodLink RX3 110 yX3_choice, Cond.instanceMethod yX3_choice]
def wsL_law_r11 : List Cond := [Cond.selects RX3 yX3_choice yX3_choice, Cond.code yX3_choice cX3_choice 2 (some .int), Cond.methodLink RX3 138 yX3_leastOfEmpty, Cond.instanceMethod yX3_leastOfEmpty, Cond.selects RX3 yX3_leastOfEmpty yX3_leastOfEmpty, Cond.code yX3_leastOfEmpty cX3_leastOfEmpty 3 (some .int), Cond.methodLink RX3 142 yX3_dearestOfEmpty, Cond.instanceMethod yX3_dearestOfEmpty, Cond.selects RX3 yX3_dearestOfEmpty yX3_dearestOfEmpty, Cond.code yX3_dearestOfEmpty cX3_dearestOfEmpty 4 (some .int), Cond.methodLink RX3 113 yX3_waitInYard, Cond.instanceMethod yX3_waitInYard, Cond.selects RX3 yX3_waitInYard yX3_waitInYard, Cond.code yX3_waitInYard cX3_waitInYard 2 none, Cond.methodLink RX3 116 yX3_takeFromEmpty, Cond.instanceMethod yX3_takeFromEmpty, Cond.selects RX3 yX3_takeFromEmpty yX3_takeFromEmpty, Cond.code yX3_takeFromEmpty cX3_takeFromEmpty 4 (some .int), Cond.methodLink RX3 119 yX3_occupy, Cond.instanceMethod yX3_occupy, Cond.selects RX3 yX3_occupy yX3_occupy, Cond.code yX3_occupy cX3_occupy 3 none, Cond.methodLink RX3 98 yX3_letGo, Cond.instanceMethod yX3_letGo]
def wsL_law_r12 : List Cond := [Cond.selects RX3 yX3_letGo yX3_letGo, Cond.code yX3_letGo cX3_letGo 3 none, Cond.methodLink RX3 123 yX3_bedOf, Cond.instanceMethod yX3_bedOf, Cond.selects RX3 yX3_bedOf yX3_bedOf, Cond.code yX3_bedOf cX3_bedOf 3 (some .int), Cond.methodLink RX3 126 yX3_leaveYard, Cond.instanceMethod yX3_leaveYard, Cond.selects RX3 yX3_leaveYard yX3_leaveYard, Cond.code yX3_leaveYard cX3_leaveYard 5 none, Cond.methodLink RX3 129 yX3_clear, Cond.instanceMethod yX3_clear, Cond.selects RX3 yX3_clear yX3_clear, Cond.code yX3_clear cX3_clear 3 none, Cond.methodLink RX3 132 yX3_sleeperOf, Cond.instanceMethod yX3_sleeperOf, Cond.selects RX3 yX3_sleeperOf yX3_sleeperOf, Cond.code yX3_sleeperOf cX3_sleeperOf 2 (some .int), Cond.methodLink RX3 101 yX3_passNight, Cond.instanceMethod yX3_passNight, Cond.selects RX3 yX3_passNight yX3_passNight, Cond.code yX3_passNight cX3_passNight 2 none, Cond.methodLink RX3 135 yX3_shareFleas, Cond.instanceMethod yX3_shareFleas]
def wsL_law_r13 : List Cond := [Cond.selects RX3 yX3_shareFleas yX3_shareFleas, Cond.code yX3_shareFleas cX3_shareFleas 3 none, Cond.methodLink RL 43 yX6_judge, Cond.instanceMethod yX6_judge, Cond.selects RX6 yX6_judge yX6_judge, Cond.code yX6_judge cX6_judge 3 (some .int), Cond.fieldLink RX6 134 "WarmBedsModel" "reason" "I", Cond.methodLink RX6 137 yX6_opens, Cond.instanceMethod yX6_opens, Cond.selects RX6 yX6_opens yX6_opens, Cond.code yX6_opens cX6_opens 4 (some .int), Cond.methodLink RX6 146 yX6_go, Cond.instanceMethod yX6_go, Cond.selects RX6 yX6_go yX6_go, Cond.code yX6_go cX6_go 7 (some .int), Cond.methodLink RX6 131 yX6_begin, Cond.instanceMethod yX6_begin, Cond.selects RX6 yX6_begin yX6_begin, Cond.code yX6_begin cX6_begin 2 none, Cond.fieldLink RX6 81 "WarmBedsModel" "empty" "I", Cond.fieldLink RX6 84 "WarmBedsModel" "waits" "I", Cond.methodLink RX6 140 yX6_happen, Cond.instanceMethod yX6_happen, Cond.selects RX6 yX6_happen yX6_happen]
def wsL_law_r14 : List Cond := [Cond.code yX6_happen cX6_happen 3 (some .int), Cond.methodLink RX6 119 yX6_pass, Cond.instanceMethod yX6_pass, Cond.selects RX6 yX6_pass yX6_pass, Cond.code yX6_pass cX6_pass 3 none, Cond.fieldLink RX6 109 "WarmBedsModel" "fleasOfBeds" "I", Cond.fieldLink RX6 116 "WarmBedsModel" "fleasOfGuests" "I", Cond.methodLink RX6 112 yX6_has, Cond.static yX6_has, Cond.code yX6_has cX6_has 2 (some .boolean), Cond.methodLink RX6 122 yX6_isThere, Cond.instanceMethod yX6_isThere, Cond.selects RX6 yX6_isThere yX6_isThere, Cond.code yX6_isThere cX6_isThere 2 (some .boolean), Cond.methodLink RX6 87 yX6_bedOf, Cond.instanceMethod yX6_bedOf, Cond.selects RX6 yX6_bedOf yX6_bedOf, Cond.code yX6_bedOf cX6_bedOf 4 (some .int), Cond.methodLink RX6 91 yX6_isWaiting, Cond.instanceMethod yX6_isWaiting, Cond.selects RX6 yX6_isWaiting yX6_isWaiting, Cond.code yX6_isWaiting cX6_isWaiting 4 (some .boolean), Cond.methodLink RX6 125 yX6_comeIn, Cond.instanceMethod yX6_comeIn]
def wsL_law_r15 : List Cond := [Cond.selects RX6 yX6_comeIn yX6_comeIn, Cond.code yX6_comeIn cX6_comeIn 5 none, Cond.methodLink RX6 98 yX6_chosen, Cond.instanceMethod yX6_chosen, Cond.selects RX6 yX6_chosen yX6_chosen, Cond.code yX6_chosen cX6_chosen 5 (some .int), Cond.methodLink RX6 94 yX6_worthTo, Cond.instanceMethod yX6_worthTo, Cond.selects RX6 yX6_worthTo yX6_worthTo, Cond.code yX6_worthTo cX6_worthTo 3 (some .int), Cond.methodLink RX6 101 yX6_take, Cond.instanceMethod yX6_take, Cond.selects RX6 yX6_take yX6_take, Cond.code yX6_take cX6_take 3 none, Cond.methodLink RX6 128 yX6_goOut, Cond.instanceMethod yX6_goOut, Cond.selects RX6 yX6_goOut yX6_goOut, Cond.code yX6_goOut cX6_goOut 4 none, Cond.methodLink RX6 105 yX6_outOfYard, Cond.instanceMethod yX6_outOfYard, Cond.selects RX6 yX6_outOfYard yX6_outOfYard, Cond.code yX6_outOfYard cX6_outOfYard 3 none, Cond.methodLink RX6 143 yX6_eventOf, Cond.instanceMethod yX6_eventOf]
def wsL_law_r16 : List Cond := [Cond.selects RX6 yX6_eventOf yX6_eventOf, Cond.code yX6_eventOf cX6_eventOf 2 (some .int), Cond.methodLink RL 44 yX5_bed, Cond.instanceMethod yX5_bed, Cond.selects RX5 yX5_bed yX5_bed, Cond.code yX5_bed cX5_bed 5 (some .int), Cond.methodLink RX5 116 yX5_isCountOfEvents, Cond.instanceMethod yX5_isCountOfEvents, Cond.selects RX5 yX5_isCountOfEvents yX5_isCountOfEvents, Cond.code yX5_isCountOfEvents cX5_isCountOfEvents 2 (some .boolean), Cond.methodLink RX5 119 yX5_liveThrough, Cond.instanceMethod yX5_liveThrough, Cond.selects RX5 yX5_liveThrough yX5_liveThrough, Cond.code yX5_liveThrough cX5_liveThrough 3 (some .int), Cond.methodLink RL 48 yX6_bed, Cond.instanceMethod yX6_bed, Cond.selects RX6 yX6_bed yX6_bed, Cond.code yX6_bed cX6_bed 4 (some .int), Cond.methodLink RX6 150 yX6_barOf, Cond.instanceMethod yX6_barOf, Cond.selects RX6 yX6_barOf yX6_barOf, Cond.code yX6_barOf cX6_barOf 2 (some .int), Cond.methodLink RL 49 yX5_who, Cond.instanceMethod yX5_who]
def wsL_law_r17 : List Cond := [Cond.selects RX5 yX5_who yX5_who, Cond.code yX5_who cX5_who 5 (some .int), Cond.methodLink RL 52 yX6_who, Cond.instanceMethod yX6_who, Cond.selects RX6 yX6_who yX6_who, Cond.code yX6_who cX6_who 4 (some .int), Cond.methodLink RL 53 yX5_left, Cond.instanceMethod yX5_left, Cond.selects RX5 yX5_left yX5_left, Cond.code yX5_left cX5_left 4 (some .int), Cond.instanceMethod yX3_emptyBed, Cond.selects RX3 yX3_emptyBed yX3_emptyBed, Cond.code yX3_emptyBed cX3_emptyBed 2 (some .int), Cond.methodLink RL 56 yX6_left, Cond.instanceMethod yX6_left, Cond.selects RX6 yX6_left yX6_left, Cond.code yX6_left cX6_left 4 (some .int), Cond.methodLink RL 57 yX5_slept, Cond.instanceMethod yX5_slept, Cond.selects RX5 yX5_slept yX5_slept, Cond.code yX5_slept cX5_slept 4 (some .int), Cond.instanceMethod yX3_countOf, Cond.selects RX3 yX3_countOf yX3_countOf, Cond.code yX3_countOf cX3_countOf 3 (some .int)]
def wsL_law_r18 : List Cond := [Cond.methodLink RL 60 yX6_slept, Cond.instanceMethod yX6_slept, Cond.selects RX6 yX6_slept yX6_slept, Cond.code yX6_slept cX6_slept 4 (some .int), Cond.methodLink RL 61 yX5_fewest, Cond.instanceMethod yX5_fewest, Cond.selects RX5 yX5_fewest yX5_fewest, Cond.code yX5_fewest cX5_fewest 7 (some .int), Cond.methodLink RX5 137 yX5_sheetsBy, Cond.instanceMethod yX5_sheetsBy, Cond.selects RX5 yX5_sheetsBy yX5_sheetsBy, Cond.code yX5_sheetsBy cX5_sheetsBy 2 (some .int), Cond.instanceMethod yX3_allSheets, Cond.selects RX3 yX3_allSheets yX3_allSheets, Cond.code yX3_allSheets cX3_allSheets 3 (some .int), Cond.methodLink RL 64 yX6_fewest, Cond.instanceMethod yX6_fewest, Cond.selects RX6 yX6_fewest yX6_fewest, Cond.code yX6_fewest cX6_fewest 10 (some .int), Cond.methodLink RL 65 yX5_when, Cond.instanceMethod yX5_when, Cond.selects RX5 yX5_when yX5_when, Cond.code yX5_when cX5_when 8 (some .int), Cond.instanceMethod yX0_names]
def wsL_law_r19 : List Cond := [Cond.selects RX0 yX0_names yX0_names, Cond.code yX0_names cX0_names 4 (some .boolean), Cond.methodLink RX5 143 yX5_refusalOfComing, Cond.instanceMethod yX5_refusalOfComing, Cond.selects RX5 yX5_refusalOfComing yX5_refusalOfComing, Cond.code yX5_refusalOfComing cX5_refusalOfComing 3 (some .int), Cond.methodLink RX5 146 yX5_tryAllPlaces, Cond.instanceMethod yX5_tryAllPlaces, Cond.selects RX5 yX5_tryAllPlaces yX5_tryAllPlaces, Cond.code yX5_tryAllPlaces cX5_tryAllPlaces 4 none, Cond.instanceMethod yX3_standAs, Cond.selects RX3 yX3_standAs yX3_standAs, Cond.code yX3_standAs cX3_standAs 2 none, Cond.methodLink RX3 73 arraycopyName, Cond.native arraycopyName, Cond.static arraycopyName, Cond.initialized "java/lang/System", Cond.methodLink RX5 149 yX5_bedComingAt, Cond.instanceMethod yX5_bedComingAt, Cond.selects RX5 yX5_bedComingAt yX5_bedComingAt, Cond.code yX5_bedComingAt cX5_bedComingAt 2 (some .int), Cond.methodLink RL 68 yX6_when, Cond.instanceMethod yX6_when, Cond.selects RX6 yX6_when yX6_when]
def wsL_law_r20 : List Cond := [Cond.code yX6_when cX6_when 8 (some .int), Cond.methodLink RX6 153 yX6_isInDay, Cond.instanceMethod yX6_isInDay, Cond.selects RX6 yX6_isInDay yX6_isInDay, Cond.code yX6_isInDay cX6_isInDay 4 (some .boolean), Cond.methodLink RX6 156 yX6_barOfComing, Cond.instanceMethod yX6_barOfComing, Cond.selects RX6 yX6_barOfComing yX6_barOfComing, Cond.code yX6_barOfComing cX6_barOfComing 2 (some .int), Cond.methodLink RL 69 yX5_best, Cond.instanceMethod yX5_best, Cond.selects RX5 yX5_best yX5_best, Cond.code yX5_best cX5_best 8 (some .int), Cond.methodLink RX5 152 yX5_worthComingAt, Cond.instanceMethod yX5_worthComingAt, Cond.selects RX5 yX5_worthComingAt yX5_worthComingAt, Cond.code yX5_worthComingAt cX5_worthComingAt 4 (some .int), Cond.methodLink RL 72 yX6_best, Cond.instanceMethod yX6_best, Cond.selects RX6 yX6_best yX6_best, Cond.code yX6_best cX6_best 10 (some .int), Cond.methodLink RL 73 yX5_reach, Cond.instanceMethod yX5_reach, Cond.selects RX5 yX5_reach yX5_reach]
def wsL_law_r21 : List Cond := [Cond.code yX5_reach cX5_reach 4 (some .int), Cond.methodLink RL 76 yX6_reach, Cond.instanceMethod yX6_reach, Cond.selects RX6 yX6_reach yX6_reach, Cond.code yX6_reach cX6_reach 4 (some .int), Cond.methodLink RL 77 yX5_party, Cond.instanceMethod yX5_party, Cond.selects RX5 yX5_party yX5_party, Cond.code yX5_party cX5_party 4 (some .int), Cond.methodLink RX5 161 yJ6_bitCount_0f7a4, Cond.static yJ6_bitCount_0f7a4, Cond.initialized RJ6, Cond.code yJ6_bitCount_0f7a4 cJ6_bitCount_0f7a4 1 (some .int), Cond.constant RJ6 265 (1431655765), Cond.constant RJ6 266 (858993459), Cond.constant RJ6 267 (252645135), Cond.instanceMethod yX4_order, Cond.selects RX4 yX4_order yX4_order, Cond.code yX4_order cX4_order 3 none, Cond.fieldLink RX4 18 "WarmBeds$Party" "most" "I", Cond.fieldLink RX4 28 "WarmBeds$Party" "size" "I", Cond.methodLink RX4 22 yJ6_bitCount_0f7a4, Cond.methodLink RX4 31 yX4_letIn, Cond.static yX4_letIn]
def wsL_law_r22 : List Cond := [Cond.code yX4_letIn cX4_letIn 8 none, Cond.methodLink RX4 35 yX4_keepIfBetter, Cond.instanceMethod yX4_keepIfBetter, Cond.selects RX4 yX4_keepIfBetter yX4_keepIfBetter, Cond.code yX4_keepIfBetter cX4_keepIfBetter 2 none, Cond.methodLink RX4 65 arraycopyName, Cond.instanceMethod yX4_guestAt, Cond.selects RX4 yX4_guestAt yX4_guestAt, Cond.code yX4_guestAt cX4_guestAt 2 (some .int), Cond.methodLink RL 80 yX6_party, Cond.instanceMethod yX6_party, Cond.selects RX6 yX6_party yX6_party, Cond.code yX6_party cX6_party 12 (some .int), Cond.methodLink RX6 162 yX6_nextRow, Cond.instanceMethod yX6_nextRow, Cond.selects RX6 yX6_nextRow yX6_nextRow, Cond.code yX6_nextRow cX6_nextRow 6 (some .boolean), Cond.methodLink RX6 159 yX6_change, Cond.instanceMethod yX6_change, Cond.selects RX6 yX6_change yX6_change, Cond.code yX6_change cX6_change 4 none, Cond.methodLink RL 81 yX5_fleas, Cond.instanceMethod yX5_fleas, Cond.selects RX5 yX5_fleas yX5_fleas]
def wsL_law_r23 : List Cond := [Cond.code yX5_fleas cX5_fleas 4 (some .int), Cond.methodLink RX5 176 yX5_spreadFrom, Cond.instanceMethod yX5_spreadFrom, Cond.selects RX5 yX5_spreadFrom yX5_spreadFrom, Cond.code yX5_spreadFrom cX5_spreadFrom 2 none, Cond.instanceMethod yX3_infest, Cond.selects RX3 yX3_infest yX3_infest, Cond.code yX3_infest cX3_infest 2 none, Cond.methodLink RL 84 yX6_fleas, Cond.instanceMethod yX6_fleas, Cond.selects RX6 yX6_fleas yX6_fleas, Cond.code yX6_fleas cX6_fleas 5 (some .int), Cond.methodLink RX6 165 yX6_layFleas, Cond.instanceMethod yX6_layFleas, Cond.selects RX6 yX6_layFleas yX6_layFleas, Cond.code yX6_layFleas cX6_layFleas 3 (some .int), Cond.methodLink RL 85 yX5_brought, Cond.instanceMethod yX5_brought, Cond.selects RX5 yX5_brought yX5_brought, Cond.code yX5_brought cX5_brought 5 (some .int), Cond.methodLink RL 88 yX6_brought, Cond.instanceMethod yX6_brought, Cond.selects RX6 yX6_brought yX6_brought, Cond.code yX6_brought cX6_brought 6 (some .int)]
def wsL_law_r24 : List Cond := [Cond.methodLink RL 89 yX5_seen, Cond.instanceMethod yX5_seen, Cond.selects RX5 yX5_seen yX5_seen, Cond.code yX5_seen cX5_seen 3 (some .int), Cond.instanceMethod yX2_addSight, Cond.selects RX2 yX2_addSight yX2_addSight, Cond.code yX2_addSight cX2_addSight 3 none, Cond.methodLink RL 92 yX6_seen, Cond.instanceMethod yX6_seen, Cond.selects RX6 yX6_seen yX6_seen, Cond.code yX6_seen cX6_seen 3 (some .int), Cond.methodLink RL 93 yX5_forget, Cond.instanceMethod yX5_forget, Cond.selects RX5 yX5_forget yX5_forget, Cond.code yX5_forget cX5_forget 2 (some .int), Cond.methodLink RL 96 yX6_forget, Cond.instanceMethod yX6_forget, Cond.selects RX6 yX6_forget yX6_forget, Cond.code yX6_forget cX6_forget 2 (some .int), Cond.methodLink RL 97 yX5_filled, Cond.instanceMethod yX5_filled, Cond.selects RX5 yX5_filled yX5_filled, Cond.code yX5_filled cX5_filled 2 (some .int), Cond.instanceMethod yX1_search]
def wsL_law_r25 : List Cond := [Cond.selects RX1 yX1_search yX1_search, Cond.code yX1_search cX1_search 5 none, Cond.fieldLink RX1 21 "WarmBeds$Guesses" "ways" "I", Cond.fieldLink RX1 25 "WarmBeds$Guesses" "untold" "I", Cond.methodLink RX1 48 yX1_fillFrom, Cond.static yX1_fillFrom, Cond.code yX1_fillFrom cX1_fillFrom 8 none, Cond.methodLink RX1 59 yX1_keepIfSeen, Cond.instanceMethod yX1_keepIfSeen, Cond.selects RX1 yX1_keepIfSeen yX1_keepIfSeen, Cond.code yX1_keepIfSeen cX1_keepIfSeen 3 none, Cond.methodLink RX1 85 arraycopyName, Cond.instanceMethod yX2_allSightsHold, Cond.selects RX2 yX2_allSightsHold yX2_allSightsHold, Cond.code yX2_allSightsHold cX2_allSightsHold 3 (some .boolean), Cond.instanceMethod yX1_firstAt, Cond.selects RX1 yX1_firstAt yX1_firstAt, Cond.code yX1_firstAt cX1_firstAt 2 (some .int), Cond.methodLink RX1 91 yX1_isUntold, Cond.instanceMethod yX1_isUntold, Cond.selects RX1 yX1_isUntold yX1_isUntold, Cond.code yX1_isUntold cX1_isUntold 2 (some .boolean), Cond.methodLink RL 100 yX6_filled, Cond.instanceMethod yX6_filled]
def wsL_law_r26 : List Cond := [Cond.selects RX6 yX6_filled yX6_filled, Cond.code yX6_filled cX6_filled 5 (some .int), Cond.methodLink RX6 168 yX6_codes, Cond.instanceMethod yX6_codes, Cond.selects RX6 yX6_codes yX6_codes, Cond.code yX6_codes cX6_codes 3 (some .int), Cond.methodLink RX6 171 yX6_isFit, Cond.instanceMethod yX6_isFit, Cond.selects RX6 yX6_isFit yX6_isFit, Cond.code yX6_isFit cX6_isFit 4 (some .boolean), Cond.methodLink RX6 174 yX6_guestAt, Cond.instanceMethod yX6_guestAt, Cond.selects RX6 yX6_guestAt yX6_guestAt, Cond.code yX6_guestAt cX6_guestAt 5 (some .int), Cond.methodLink RL 101 yX5_could, Cond.instanceMethod yX5_could, Cond.selects RX5 yX5_could yX5_could, Cond.code yX5_could cX5_could 2 (some .int), Cond.instanceMethod yX1_suspectsAt, Cond.selects RX1 yX1_suspectsAt yX1_suspectsAt, Cond.code yX1_suspectsAt cX1_suspectsAt 2 (some .int), Cond.methodLink RL 104 yX6_could, Cond.instanceMethod yX6_could, Cond.selects RX6 yX6_could yX6_could]
def wsL_law_r27 : List Cond := [Cond.code yX6_could cX6_could 4 (some .int), Cond.methodLink RL 105 yX5_chance, Cond.instanceMethod yX5_chance, Cond.selects RX5 yX5_chance yX5_chance, Cond.code yX5_chance cX5_chance 6 (some .long), Cond.constantLong RX5 205 (-1000000000000000001), Cond.constantLong RX5 207 (-1000000000000000002), Cond.constantLong RX5 209 (-1000000000000000000), Cond.methodLink RX5 211 yX5_weightOf, Cond.static yX5_weightOf, Cond.code yX5_weightOf cX5_weightOf 9 (some .long), Cond.instanceMethod yX3_emptyLeastBed, Cond.selects RX3 yX3_emptyLeastBed yX3_emptyLeastBed, Cond.code yX3_emptyLeastBed cX3_emptyLeastBed 2 none, Cond.methodLink RX5 215 yX5_partInLowestTerms, Cond.static yX5_partInLowestTerms, Cond.code yX5_partInLowestTerms cX5_partInLowestTerms 9 (some .long), Cond.constantLong RX5 256 (10), Cond.constantLong RX5 258 (2), Cond.constantLong RX5 260 (5), Cond.methodLink RL 109 yX6_chance, Cond.instanceMethod yX6_chance, Cond.selects RX6 yX6_chance yX6_chance, Cond.code yX6_chance cX6_chance 16 (some .long)]
def wsL_law_r28 : List Cond := [Cond.constantLong RX6 177 (-1000000000000000001), Cond.constantLong RX6 179 (-1000000000000000002), Cond.constantLong RX6 181 (-1000000000000000000), Cond.constantLong RX6 183 (10), Cond.methodLink RX6 185 yX6_power, Cond.static yX6_power, Cond.code yX6_power cX6_power 6 (some .long), Cond.methodLink RL 110 yX5_year, Cond.instanceMethod yX5_year, Cond.selects RX5 yX5_year yX5_year, Cond.code yX5_year cX5_year 7 (some .int), Cond.constant RX5 219 (65537), Cond.instanceMethod yX3_timesUsed, Cond.selects RX3 yX3_timesUsed yX3_timesUsed, Cond.code yX3_timesUsed cX3_timesUsed 2 (some .int), Cond.methodLink RL 113 yX6_year, Cond.instanceMethod yX6_year, Cond.selects RX6 yX6_year yX6_year, Cond.code yX6_year cX6_year 7 (some .int), Cond.constant RX6 189 (65537), Cond.methodLink RL 114 yX5_image, Cond.instanceMethod yX5_image, Cond.selects RX5 yX5_image yX5_image, Cond.code yX5_image cX5_image 3 (some .int)]
def wsL_law_r29 : List Cond := [Cond.instanceMethod yX2_copy, Cond.selects RX2 yX2_copy yX2_copy, Cond.code yX2_copy cX2_copy 2 none, Cond.fieldLink RX2 38 "WarmBeds$House" "law" "I", Cond.methodLink RX2 41 arraycopyName, Cond.methodLink RL 117 yX6_image, Cond.instanceMethod yX6_image, Cond.selects RX6 yX6_image yX6_image, Cond.code yX6_image cX6_image 4 (some .int), Cond.methodLink RL 118 yX5_restore, Cond.instanceMethod yX5_restore, Cond.selects RX5 yX5_restore yX5_restore, Cond.code yX5_restore cX5_restore 3 (some .int), Cond.methodLink RL 121 yX6_restore, Cond.instanceMethod yX6_restore, Cond.selects RX6 yX6_restore yX6_restore, Cond.code yX6_restore cX6_restore 4 (some .int), Cond.methodLink RL 122 yX5_told, Cond.instanceMethod yX5_told, Cond.selects RX5 yX5_told yX5_told, Cond.code yX5_told cX5_told 2 (some .int), Cond.methodLink RX5 237 yX5_worthTold, Cond.instanceMethod yX5_worthTold, Cond.selects RX5 yX5_worthTold yX5_worthTold]
def wsL_law_r30 : List Cond := [Cond.code yX5_worthTold cX5_worthTold 4 (some .int), Cond.methodLink RL 125 yX6_told, Cond.instanceMethod yX6_told, Cond.selects RX6 yX6_told yX6_told, Cond.code yX6_told cX6_told 2 (some .int)]
def wsL_law : List Cond := (wsL_law_r1 ++ (wsL_law_r2 ++ (wsL_law_r3 ++ (wsL_law_r4 ++ (wsL_law_r5 ++ (wsL_law_r6 ++ (wsL_law_r7 ++ (wsL_law_r8 ++ (wsL_law_r9 ++ (wsL_law_r10 ++ (wsL_law_r11 ++ (wsL_law_r12 ++ (wsL_law_r13 ++ (wsL_law_r14 ++ (wsL_law_r15 ++ (wsL_law_r16 ++ (wsL_law_r17 ++ (wsL_law_r18 ++ (wsL_law_r19 ++ (wsL_law_r20 ++ (wsL_law_r21 ++ (wsL_law_r22 ++ (wsL_law_r23 ++ (wsL_law_r24 ++ (wsL_law_r25 ++ (wsL_law_r26 ++ (wsL_law_r27 ++ (wsL_law_r28 ++ (wsL_law_r29 ++ wsL_law_r30))))))))))))))))))))))))))))) ++ wsX50 ++ wsX60 ++ wsX20 ++ wsX00 ++ wsX40 ++ wsX10 ++ wsX30 ++ ([] : List Cond)
theorem inlX0 : ∀ w ∈ wsX00, w ∈ wsL_law := fun _ h => List.mem_append_left _ (List.mem_append_left _ (List.mem_append_left _ (List.mem_append_left _ (List.mem_append_right _ h))))
theorem inlX1 : ∀ w ∈ wsX10, w ∈ wsL_law := fun _ h => List.mem_append_left _ (List.mem_append_left _ (List.mem_append_right _ h))
theorem inlX2 : ∀ w ∈ wsX20, w ∈ wsL_law := fun _ h => List.mem_append_left _ (List.mem_append_left _ (List.mem_append_left _ (List.mem_append_left _ (List.mem_append_left _ (List.mem_append_right _ h)))))
theorem inlX3 : ∀ w ∈ wsX30, w ∈ wsL_law := fun _ h => List.mem_append_left _ (List.mem_append_right _ h)
theorem inlX4 : ∀ w ∈ wsX40, w ∈ wsL_law := fun _ h => List.mem_append_left _ (List.mem_append_left _ (List.mem_append_left _ (List.mem_append_right _ h)))
theorem inlX5 : ∀ w ∈ wsX50, w ∈ wsL_law := fun _ h => List.mem_append_left _ (List.mem_append_left _ (List.mem_append_left _ (List.mem_append_left _ (List.mem_append_left _ (List.mem_append_left _ (List.mem_append_left _ (List.mem_append_right _ h)))))))
theorem inlX6 : ∀ w ∈ wsX60, w ∈ wsL_law := fun _ h => List.mem_append_left _ (List.mem_append_left _ (List.mem_append_left _ (List.mem_append_left _ (List.mem_append_left _ (List.mem_append_left _ (List.mem_append_right _ h))))))
abbrev vwCl : List vw_C := [(RX0, TX0, 2), (RX1, TX1, 5), (RX2, TX2, 7), (RX3, TX3, 16), (RX4, TX4, 4), (RX5, TX5, 8), (RX6, TX6, 23)]
