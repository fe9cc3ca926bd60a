-- ===== PART A: goes FIRST, ahead of the names: the tables' words, and 'selects' of the private methods out of them =====
/-- a private method of a class that the tables say can be made, by its rows of tables_1 -/
def lw_okq (q : MethodName × Nat) : Prop := (q.1.cls ≠ "java/lang/invoke/MethodHandle" ∧ q.1.cls ≠ "java/lang/invoke/VarHandle") ∧ Cond.instantiable q.1.cls q.2 ∈ tables_1 ∧ Cond.privateMethod q.1 ∈ tables_1 ∧ Cond.instanceMethod q.1 ∈ tables_1
theorem lw_p0 : lw_okq (⟨"GallopingRing$Ring", "hasHorse", "(I)Z"⟩, 8) := ⟨⟨by decide +kernel, by decide +kernel⟩, List.mem_of_getElem? (i := 20) (by decide +kernel), List.mem_of_getElem? (i := 198) (by decide +kernel), List.mem_of_getElem? (i := 199) (by decide +kernel)⟩
theorem lw_p1 : lw_okq (⟨"GallopingRing$Ring", "putHorse", "(II)V"⟩, 8) := ⟨⟨by decide +kernel, by decide +kernel⟩, List.mem_of_getElem? (i := 20) (by decide +kernel), List.mem_of_getElem? (i := 203) (by decide +kernel), List.mem_of_getElem? (i := 204) (by decide +kernel)⟩
theorem lw_p2 : lw_okq (⟨"GallopingRing$Ring", "addLoad", "(II)V"⟩, 8) := ⟨⟨by decide +kernel, by decide +kernel⟩, List.mem_of_getElem? (i := 20) (by decide +kernel), List.mem_of_getElem? (i := 207) (by decide +kernel), List.mem_of_getElem? (i := 208) (by decide +kernel)⟩
theorem lw_p3 : lw_okq (⟨"GallopingRing$Coats", "paintOver", "(II)V"⟩, 2) := ⟨⟨by decide +kernel, by decide +kernel⟩, List.mem_of_getElem? (i := 82) (by decide +kernel), List.mem_of_getElem? (i := 218) (by decide +kernel), List.mem_of_getElem? (i := 219) (by decide +kernel)⟩
theorem lw_p4 : lw_okq (⟨"GallopingRing$Ring", "horsesStanding", "()I"⟩, 8) := ⟨⟨by decide +kernel, by decide +kernel⟩, List.mem_of_getElem? (i := 20) (by decide +kernel), List.mem_of_getElem? (i := 222) (by decide +kernel), List.mem_of_getElem? (i := 223) (by decide +kernel)⟩
theorem lw_p5 : lw_okq (⟨"GallopingRing$Ring", "hasRider", "(I)Z"⟩, 8) := ⟨⟨by decide +kernel, by decide +kernel⟩, List.mem_of_getElem? (i := 20) (by decide +kernel), List.mem_of_getElem? (i := 233) (by decide +kernel), List.mem_of_getElem? (i := 234) (by decide +kernel)⟩
theorem lw_p6 : lw_okq (⟨"GallopingRing$Legs", "areOwn", "(I)Z"⟩, 2) := ⟨⟨by decide +kernel, by decide +kernel⟩, List.mem_of_getElem? (i := 96) (by decide +kernel), List.mem_of_getElem? (i := 237) (by decide +kernel), List.mem_of_getElem? (i := 238) (by decide +kernel)⟩
theorem lw_p7 : lw_okq (⟨"GallopingRing$Coats", "clear", "(I)V"⟩, 2) := ⟨⟨by decide +kernel, by decide +kernel⟩, List.mem_of_getElem? (i := 82) (by decide +kernel), List.mem_of_getElem? (i := 244) (by decide +kernel), List.mem_of_getElem? (i := 245) (by decide +kernel)⟩
theorem lw_p8 : lw_okq (⟨"GallopingRing$Ring", "takeHorse", "(I)I"⟩, 8) := ⟨⟨by decide +kernel, by decide +kernel⟩, List.mem_of_getElem? (i := 20) (by decide +kernel), List.mem_of_getElem? (i := 248) (by decide +kernel), List.mem_of_getElem? (i := 249) (by decide +kernel)⟩
theorem lw_p9 : lw_okq (⟨"GallopingRing$Ring", "mayTurnWith", "(II)Z"⟩, 8) := ⟨⟨by decide +kernel, by decide +kernel⟩, List.mem_of_getElem? (i := 20) (by decide +kernel), List.mem_of_getElem? (i := 259) (by decide +kernel), List.mem_of_getElem? (i := 260) (by decide +kernel)⟩
theorem lw_p10 : lw_okq (⟨"GallopingRing$Ring", "shakeWith", "(II)I"⟩, 8) := ⟨⟨by decide +kernel, by decide +kernel⟩, List.mem_of_getElem? (i := 20) (by decide +kernel), List.mem_of_getElem? (i := 263) (by decide +kernel), List.mem_of_getElem? (i := 264) (by decide +kernel)⟩
theorem lw_p11 : lw_okq (⟨"GallopingRing$Ring", "isLawful", "(II)Z"⟩, 8) := ⟨⟨by decide +kernel, by decide +kernel⟩, List.mem_of_getElem? (i := 20) (by decide +kernel), List.mem_of_getElem? (i := 270) (by decide +kernel), List.mem_of_getElem? (i := 271) (by decide +kernel)⟩
theorem lw_p12 : lw_okq (⟨"GallopingRing$Ring", "putRider", "(II)V"⟩, 8) := ⟨⟨by decide +kernel, by decide +kernel⟩, List.mem_of_getElem? (i := 20) (by decide +kernel), List.mem_of_getElem? (i := 277) (by decide +kernel), List.mem_of_getElem? (i := 278) (by decide +kernel)⟩
theorem lw_p13 : lw_okq (⟨"GallopingRing$Ring", "shakeNow", "()I"⟩, 8) := ⟨⟨by decide +kernel, by decide +kernel⟩, List.mem_of_getElem? (i := 20) (by decide +kernel), List.mem_of_getElem? (i := 281) (by decide +kernel), List.mem_of_getElem? (i := 282) (by decide +kernel)⟩
theorem lw_p14 : lw_okq (⟨"GallopingRing$Ring", "takeRider", "(I)I"⟩, 8) := ⟨⟨by decide +kernel, by decide +kernel⟩, List.mem_of_getElem? (i := 20) (by decide +kernel), List.mem_of_getElem? (i := 289) (by decide +kernel), List.mem_of_getElem? (i := 290) (by decide +kernel)⟩
theorem lw_p15 : lw_okq (⟨"GallopingRing$Ring", "mayTurn", "()Z"⟩, 8) := ⟨⟨by decide +kernel, by decide +kernel⟩, List.mem_of_getElem? (i := 20) (by decide +kernel), List.mem_of_getElem? (i := 305) (by decide +kernel), List.mem_of_getElem? (i := 306) (by decide +kernel)⟩
def lw_privs_1 : List (MethodName × Nat) := [(⟨"GallopingRing$Ring", "hasHorse", "(I)Z"⟩, 8), (⟨"GallopingRing$Ring", "putHorse", "(II)V"⟩, 8), (⟨"GallopingRing$Ring", "addLoad", "(II)V"⟩, 8), (⟨"GallopingRing$Coats", "paintOver", "(II)V"⟩, 2), (⟨"GallopingRing$Ring", "horsesStanding", "()I"⟩, 8), (⟨"GallopingRing$Ring", "hasRider", "(I)Z"⟩, 8), (⟨"GallopingRing$Legs", "areOwn", "(I)Z"⟩, 2), (⟨"GallopingRing$Coats", "clear", "(I)V"⟩, 2), (⟨"GallopingRing$Ring", "takeHorse", "(I)I"⟩, 8), (⟨"GallopingRing$Ring", "mayTurnWith", "(II)Z"⟩, 8), (⟨"GallopingRing$Ring", "shakeWith", "(II)I"⟩, 8), (⟨"GallopingRing$Ring", "isLawful", "(II)Z"⟩, 8), (⟨"GallopingRing$Ring", "putRider", "(II)V"⟩, 8), (⟨"GallopingRing$Ring", "shakeNow", "()I"⟩, 8), (⟨"GallopingRing$Ring", "takeRider", "(I)I"⟩, 8), (⟨"GallopingRing$Ring", "mayTurn", "()Z"⟩, 8)]
theorem lw_r1 : ∀ q ∈ lw_privs_1, lw_okq q := List.forall_mem_cons.mpr ⟨lw_p0, List.forall_mem_cons.mpr ⟨lw_p1, List.forall_mem_cons.mpr ⟨lw_p2, List.forall_mem_cons.mpr ⟨lw_p3, List.forall_mem_cons.mpr ⟨lw_p4, List.forall_mem_cons.mpr ⟨lw_p5, List.forall_mem_cons.mpr ⟨lw_p6, List.forall_mem_cons.mpr ⟨lw_p7, List.forall_mem_cons.mpr ⟨lw_p8, List.forall_mem_cons.mpr ⟨lw_p9, List.forall_mem_cons.mpr ⟨lw_p10, List.forall_mem_cons.mpr ⟨lw_p11, List.forall_mem_cons.mpr ⟨lw_p12, List.forall_mem_cons.mpr ⟨lw_p13, List.forall_mem_cons.mpr ⟨lw_p14, List.forall_mem_cons.mpr ⟨lw_p15, fun _ h => absurd h List.not_mem_nil⟩⟩⟩⟩⟩⟩⟩⟩⟩⟩⟩⟩⟩⟩⟩⟩
theorem lw_p16 : lw_okq (⟨"GallopingRing", "lawOfShaking", "(I)I"⟩, 10) := ⟨⟨by decide +kernel, by decide +kernel⟩, List.mem_of_getElem? (i := 12) (by decide +kernel), List.mem_of_getElem? (i := 314) (by decide +kernel), List.mem_of_getElem? (i := 315) (by decide +kernel)⟩
theorem lw_p17 : lw_okq (⟨"GallopingRing", "lawOfLift", "(I)I"⟩, 10) := ⟨⟨by decide +kernel, by decide +kernel⟩, List.mem_of_getElem? (i := 12) (by decide +kernel), List.mem_of_getElem? (i := 318) (by decide +kernel), List.mem_of_getElem? (i := 319) (by decide +kernel)⟩
theorem lw_p18 : lw_okq (⟨"GallopingRing$Ring", "bestHorse", "(I)I"⟩, 8) := ⟨⟨by decide +kernel, by decide +kernel⟩, List.mem_of_getElem? (i := 20) (by decide +kernel), List.mem_of_getElem? (i := 326) (by decide +kernel), List.mem_of_getElem? (i := 327) (by decide +kernel)⟩
theorem lw_p19 : lw_okq (⟨"GallopingRing$Ring", "isFree", "(I)Z"⟩, 8) := ⟨⟨by decide +kernel, by decide +kernel⟩, List.mem_of_getElem? (i := 20) (by decide +kernel), List.mem_of_getElem? (i := 330) (by decide +kernel), List.mem_of_getElem? (i := 331) (by decide +kernel)⟩
theorem lw_p20 : lw_okq (⟨"GallopingRing$Ring", "freeHorses", "()I"⟩, 8) := ⟨⟨by decide +kernel, by decide +kernel⟩, List.mem_of_getElem? (i := 20) (by decide +kernel), List.mem_of_getElem? (i := 344) (by decide +kernel), List.mem_of_getElem? (i := 345) (by decide +kernel)⟩
theorem lw_p21 : lw_okq (⟨"GallopingRing$Ring", "ridersSitting", "()I"⟩, 8) := ⟨⟨by decide +kernel, by decide +kernel⟩, List.mem_of_getElem? (i := 20) (by decide +kernel), List.mem_of_getElem? (i := 349) (by decide +kernel), List.mem_of_getElem? (i := 350) (by decide +kernel)⟩
theorem lw_p22 : lw_okq (⟨"GallopingRing$Seating", "choose", "(LGallopingRing$Ring;IIII)V"⟩, 5) := ⟨⟨by decide +kernel, by decide +kernel⟩, List.mem_of_getElem? (i := 60) (by decide +kernel), List.mem_of_getElem? (i := 353) (by decide +kernel), List.mem_of_getElem? (i := 354) (by decide +kernel)⟩
theorem lw_p23 : lw_okq (⟨"GallopingRing$Seating", "keepIfLess", "(I)V"⟩, 5) := ⟨⟨by decide +kernel, by decide +kernel⟩, List.mem_of_getElem? (i := 60) (by decide +kernel), List.mem_of_getElem? (i := 361) (by decide +kernel), List.mem_of_getElem? (i := 362) (by decide +kernel)⟩
theorem lw_p24 : lw_okq (⟨"GallopingRing$Seating", "isTaken", "(II)Z"⟩, 5) := ⟨⟨by decide +kernel, by decide +kernel⟩, List.mem_of_getElem? (i := 60) (by decide +kernel), List.mem_of_getElem? (i := 369) (by decide +kernel), List.mem_of_getElem? (i := 370) (by decide +kernel)⟩
theorem lw_p25 : lw_okq (⟨"GallopingRing$Seating", "seatAll", "(LGallopingRing$Ring;)V"⟩, 5) := ⟨⟨by decide +kernel, by decide +kernel⟩, List.mem_of_getElem? (i := 60) (by decide +kernel), List.mem_of_getElem? (i := 375) (by decide +kernel), List.mem_of_getElem? (i := 376) (by decide +kernel)⟩
theorem lw_p26 : lw_okq (⟨"GallopingRing$Coats", "colourAtDepth", "(II)I"⟩, 2) := ⟨⟨by decide +kernel, by decide +kernel⟩, List.mem_of_getElem? (i := 82) (by decide +kernel), List.mem_of_getElem? (i := 392) (by decide +kernel), List.mem_of_getElem? (i := 393) (by decide +kernel)⟩
theorem lw_p27 : lw_okq (⟨"GallopingRing$Coats", "depthOf", "(II)I"⟩, 2) := ⟨⟨by decide +kernel, by decide +kernel⟩, List.mem_of_getElem? (i := 82) (by decide +kernel), List.mem_of_getElem? (i := 401) (by decide +kernel), List.mem_of_getElem? (i := 402) (by decide +kernel)⟩
theorem lw_p28 : lw_okq (⟨"GallopingRing$Coats", "takeOff", "(II)V"⟩, 2) := ⟨⟨by decide +kernel, by decide +kernel⟩, List.mem_of_getElem? (i := 82) (by decide +kernel), List.mem_of_getElem? (i := 406) (by decide +kernel), List.mem_of_getElem? (i := 407) (by decide +kernel)⟩
theorem lw_p29 : lw_okq (⟨"GallopingRing", "isLegOfHorse", "(II)Z"⟩, 10) := ⟨⟨by decide +kernel, by decide +kernel⟩, List.mem_of_getElem? (i := 12) (by decide +kernel), List.mem_of_getElem? (i := 414) (by decide +kernel), List.mem_of_getElem? (i := 415) (by decide +kernel)⟩
theorem lw_p30 : lw_okq (⟨"GallopingRing$Legs", "exchange", "(II)V"⟩, 2) := ⟨⟨by decide +kernel, by decide +kernel⟩, List.mem_of_getElem? (i := 96) (by decide +kernel), List.mem_of_getElem? (i := 422) (by decide +kernel), List.mem_of_getElem? (i := 423) (by decide +kernel)⟩
theorem lw_p31 : lw_okq (⟨"GallopingRing$Legs", "fewestSwaps", "()I"⟩, 2) := ⟨⟨by decide +kernel, by decide +kernel⟩, List.mem_of_getElem? (i := 96) (by decide +kernel), List.mem_of_getElem? (i := 434) (by decide +kernel), List.mem_of_getElem? (i := 435) (by decide +kernel)⟩
def lw_privs_2 : List (MethodName × Nat) := [(⟨"GallopingRing", "lawOfShaking", "(I)I"⟩, 10), (⟨"GallopingRing", "lawOfLift", "(I)I"⟩, 10), (⟨"GallopingRing$Ring", "bestHorse", "(I)I"⟩, 8), (⟨"GallopingRing$Ring", "isFree", "(I)Z"⟩, 8), (⟨"GallopingRing$Ring", "freeHorses", "()I"⟩, 8), (⟨"GallopingRing$Ring", "ridersSitting", "()I"⟩, 8), (⟨"GallopingRing$Seating", "choose", "(LGallopingRing$Ring;IIII)V"⟩, 5), (⟨"GallopingRing$Seating", "keepIfLess", "(I)V"⟩, 5), (⟨"GallopingRing$Seating", "isTaken", "(II)Z"⟩, 5), (⟨"GallopingRing$Seating", "seatAll", "(LGallopingRing$Ring;)V"⟩, 5), (⟨"GallopingRing$Coats", "colourAtDepth", "(II)I"⟩, 2), (⟨"GallopingRing$Coats", "depthOf", "(II)I"⟩, 2), (⟨"GallopingRing$Coats", "takeOff", "(II)V"⟩, 2), (⟨"GallopingRing", "isLegOfHorse", "(II)Z"⟩, 10), (⟨"GallopingRing$Legs", "exchange", "(II)V"⟩, 2), (⟨"GallopingRing$Legs", "fewestSwaps", "()I"⟩, 2)]
theorem lw_r2 : ∀ q ∈ lw_privs_2, lw_okq q := List.forall_mem_cons.mpr ⟨lw_p16, List.forall_mem_cons.mpr ⟨lw_p17, List.forall_mem_cons.mpr ⟨lw_p18, List.forall_mem_cons.mpr ⟨lw_p19, List.forall_mem_cons.mpr ⟨lw_p20, List.forall_mem_cons.mpr ⟨lw_p21, List.forall_mem_cons.mpr ⟨lw_p22, List.forall_mem_cons.mpr ⟨lw_p23, List.forall_mem_cons.mpr ⟨lw_p24, List.forall_mem_cons.mpr ⟨lw_p25, List.forall_mem_cons.mpr ⟨lw_p26, List.forall_mem_cons.mpr ⟨lw_p27, List.forall_mem_cons.mpr ⟨lw_p28, List.forall_mem_cons.mpr ⟨lw_p29, List.forall_mem_cons.mpr ⟨lw_p30, List.forall_mem_cons.mpr ⟨lw_p31, fun _ h => absurd h List.not_mem_nil⟩⟩⟩⟩⟩⟩⟩⟩⟩⟩⟩⟩⟩⟩⟩⟩
theorem lw_p32 : lw_okq (⟨"GallopingRing$Legs", "walkCycle", "(I)I"⟩, 2) := ⟨⟨by decide +kernel, by decide +kernel⟩, List.mem_of_getElem? (i := 96) (by decide +kernel), List.mem_of_getElem? (i := 439) (by decide +kernel), List.mem_of_getElem? (i := 440) (by decide +kernel)⟩
theorem lw_p33 : lw_okq (⟨"GallopingRing$Legs", "whereIs", "(I)I"⟩, 2) := ⟨⟨by decide +kernel, by decide +kernel⟩, List.mem_of_getElem? (i := 96) (by decide +kernel), List.mem_of_getElem? (i := 448) (by decide +kernel), List.mem_of_getElem? (i := 449) (by decide +kernel)⟩
theorem lw_p34 : lw_okq (⟨"GallopingRing$Fairs", "announce", "(III)I"⟩, 8) := ⟨⟨by decide +kernel, by decide +kernel⟩, List.mem_of_getElem? (i := 110) (by decide +kernel), List.mem_of_getElem? (i := 456) (by decide +kernel), List.mem_of_getElem? (i := 457) (by decide +kernel)⟩
theorem lw_p35 : lw_okq (⟨"GallopingRing$Fairs", "isFair", "(I)Z"⟩, 8) := ⟨⟨by decide +kernel, by decide +kernel⟩, List.mem_of_getElem? (i := 110) (by decide +kernel), List.mem_of_getElem? (i := 464) (by decide +kernel), List.mem_of_getElem? (i := 465) (by decide +kernel)⟩
theorem lw_p36 : lw_okq (⟨"GallopingRing$Fairs", "daysBetween", "(II)I"⟩, 8) := ⟨⟨by decide +kernel, by decide +kernel⟩, List.mem_of_getElem? (i := 110) (by decide +kernel), List.mem_of_getElem? (i := 468) (by decide +kernel), List.mem_of_getElem? (i := 469) (by decide +kernel)⟩
theorem lw_p37 : lw_okq (⟨"GallopingRing$Fairs", "layRoad", "(III)V"⟩, 8) := ⟨⟨by decide +kernel, by decide +kernel⟩, List.mem_of_getElem? (i := 110) (by decide +kernel), List.mem_of_getElem? (i := 472) (by decide +kernel), List.mem_of_getElem? (i := 473) (by decide +kernel)⟩
theorem lw_p38 : lw_okq (⟨"GallopingRing$Fairs", "planRounds", "()V"⟩, 8) := ⟨⟨by decide +kernel, by decide +kernel⟩, List.mem_of_getElem? (i := 110) (by decide +kernel), List.mem_of_getElem? (i := 480) (by decide +kernel), List.mem_of_getElem? (i := 481) (by decide +kernel)⟩
theorem lw_p39 : lw_okq (⟨"GallopingRing$Fairs", "planFrom", "(I)V"⟩, 8) := ⟨⟨by decide +kernel, by decide +kernel⟩, List.mem_of_getElem? (i := 110) (by decide +kernel), List.mem_of_getElem? (i := 484) (by decide +kernel), List.mem_of_getElem? (i := 485) (by decide +kernel)⟩
theorem lw_p40 : lw_okq (⟨"GallopingRing$Fairs", "bestBehind", "(I)I"⟩, 8) := ⟨⟨by decide +kernel, by decide +kernel⟩, List.mem_of_getElem? (i := 110) (by decide +kernel), List.mem_of_getElem? (i := 488) (by decide +kernel), List.mem_of_getElem? (i := 489) (by decide +kernel)⟩
theorem lw_p41 : lw_okq (⟨"GallopingRing$Fairs", "mayFollow", "(II)Z"⟩, 8) := ⟨⟨by decide +kernel, by decide +kernel⟩, List.mem_of_getElem? (i := 110) (by decide +kernel), List.mem_of_getElem? (i := 492) (by decide +kernel), List.mem_of_getElem? (i := 493) (by decide +kernel)⟩
theorem lw_p42 : lw_okq (⟨"GallopingRing$Fairs", "isBetter", "(II)Z"⟩, 8) := ⟨⟨by decide +kernel, by decide +kernel⟩, List.mem_of_getElem? (i := 110) (by decide +kernel), List.mem_of_getElem? (i := 498) (by decide +kernel), List.mem_of_getElem? (i := 499) (by decide +kernel)⟩
theorem lw_p43 : lw_okq (⟨"GallopingRing$Fairs", "gainFrom", "(I)I"⟩, 8) := ⟨⟨by decide +kernel, by decide +kernel⟩, List.mem_of_getElem? (i := 110) (by decide +kernel), List.mem_of_getElem? (i := 502) (by decide +kernel), List.mem_of_getElem? (i := 503) (by decide +kernel)⟩
theorem lw_p44 : lw_okq (⟨"GallopingRing$Fairs", "lengthFrom", "(I)I"⟩, 8) := ⟨⟨by decide +kernel, by decide +kernel⟩, List.mem_of_getElem? (i := 110) (by decide +kernel), List.mem_of_getElem? (i := 506) (by decide +kernel), List.mem_of_getElem? (i := 507) (by decide +kernel)⟩
theorem lw_p45 : lw_okq (⟨"GallopingRing$Fairs", "fairOfBestRound", "(I)I"⟩, 8) := ⟨⟨by decide +kernel, by decide +kernel⟩, List.mem_of_getElem? (i := 110) (by decide +kernel), List.mem_of_getElem? (i := 516) (by decide +kernel), List.mem_of_getElem? (i := 517) (by decide +kernel)⟩
theorem lw_p46 : lw_okq (⟨"GallopingRing$Ring", "takeAllRiders", "()V"⟩, 8) := ⟨⟨by decide +kernel, by decide +kernel⟩, List.mem_of_getElem? (i := 20) (by decide +kernel), List.mem_of_getElem? (i := 525) (by decide +kernel), List.mem_of_getElem? (i := 526) (by decide +kernel)⟩
theorem lw_p47 : lw_okq (⟨"GallopingRing$ChildQueue", "join", "(I)V"⟩, 2) := ⟨⟨by decide +kernel, by decide +kernel⟩, List.mem_of_getElem? (i := 142) (by decide +kernel), List.mem_of_getElem? (i := 542) (by decide +kernel), List.mem_of_getElem? (i := 543) (by decide +kernel)⟩
def lw_privs_3 : List (MethodName × Nat) := [(⟨"GallopingRing$Legs", "walkCycle", "(I)I"⟩, 2), (⟨"GallopingRing$Legs", "whereIs", "(I)I"⟩, 2), (⟨"GallopingRing$Fairs", "announce", "(III)I"⟩, 8), (⟨"GallopingRing$Fairs", "isFair", "(I)Z"⟩, 8), (⟨"GallopingRing$Fairs", "daysBetween", "(II)I"⟩, 8), (⟨"GallopingRing$Fairs", "layRoad", "(III)V"⟩, 8), (⟨"GallopingRing$Fairs", "planRounds", "()V"⟩, 8), (⟨"GallopingRing$Fairs", "planFrom", "(I)V"⟩, 8), (⟨"GallopingRing$Fairs", "bestBehind", "(I)I"⟩, 8), (⟨"GallopingRing$Fairs", "mayFollow", "(II)Z"⟩, 8), (⟨"GallopingRing$Fairs", "isBetter", "(II)Z"⟩, 8), (⟨"GallopingRing$Fairs", "gainFrom", "(I)I"⟩, 8), (⟨"GallopingRing$Fairs", "lengthFrom", "(I)I"⟩, 8), (⟨"GallopingRing$Fairs", "fairOfBestRound", "(I)I"⟩, 8), (⟨"GallopingRing$Ring", "takeAllRiders", "()V"⟩, 8), (⟨"GallopingRing$ChildQueue", "join", "(I)V"⟩, 2)]
theorem lw_r3 : ∀ q ∈ lw_privs_3, lw_okq q := List.forall_mem_cons.mpr ⟨lw_p32, List.forall_mem_cons.mpr ⟨lw_p33, List.forall_mem_cons.mpr ⟨lw_p34, List.forall_mem_cons.mpr ⟨lw_p35, List.forall_mem_cons.mpr ⟨lw_p36, List.forall_mem_cons.mpr ⟨lw_p37, List.forall_mem_cons.mpr ⟨lw_p38, List.forall_mem_cons.mpr ⟨lw_p39, List.forall_mem_cons.mpr ⟨lw_p40, List.forall_mem_cons.mpr ⟨lw_p41, List.forall_mem_cons.mpr ⟨lw_p42, List.forall_mem_cons.mpr ⟨lw_p43, List.forall_mem_cons.mpr ⟨lw_p44, List.forall_mem_cons.mpr ⟨lw_p45, List.forall_mem_cons.mpr ⟨lw_p46, List.forall_mem_cons.mpr ⟨lw_p47, fun _ h => absurd h List.not_mem_nil⟩⟩⟩⟩⟩⟩⟩⟩⟩⟩⟩⟩⟩⟩⟩⟩
theorem lw_p48 : lw_okq (⟨"GallopingRing$ChildQueue", "dropFirst", "()V"⟩, 2) := ⟨⟨by decide +kernel, by decide +kernel⟩, List.mem_of_getElem? (i := 142) (by decide +kernel), List.mem_of_getElem? (i := 550) (by decide +kernel), List.mem_of_getElem? (i := 551) (by decide +kernel)⟩
theorem lw_p49 : lw_okq (⟨"GallopingRing", "mixPlace", "(JI)J"⟩, 10) := ⟨⟨by decide +kernel, by decide +kernel⟩, List.mem_of_getElem? (i := 12) (by decide +kernel), List.mem_of_getElem? (i := 569) (by decide +kernel), List.mem_of_getElem? (i := 570) (by decide +kernel)⟩
theorem lw_p50 : lw_okq (⟨"GallopingRing$Coats", "mixCoats", "(JI)J"⟩, 2) := ⟨⟨by decide +kernel, by decide +kernel⟩, List.mem_of_getElem? (i := 82) (by decide +kernel), List.mem_of_getElem? (i := 577) (by decide +kernel), List.mem_of_getElem? (i := 578) (by decide +kernel)⟩
theorem lw_p51 : lw_okq (⟨"GallopingRing$Legs", "mixLegs", "(JI)J"⟩, 2) := ⟨⟨by decide +kernel, by decide +kernel⟩, List.mem_of_getElem? (i := 96) (by decide +kernel), List.mem_of_getElem? (i := 582) (by decide +kernel), List.mem_of_getElem? (i := 583) (by decide +kernel)⟩
theorem lw_p52 : lw_okq (⟨"GallopingRing$Fairs", "mixAll", "(J)J"⟩, 8) := ⟨⟨by decide +kernel, by decide +kernel⟩, List.mem_of_getElem? (i := 110) (by decide +kernel), List.mem_of_getElem? (i := 587) (by decide +kernel), List.mem_of_getElem? (i := 588) (by decide +kernel)⟩
theorem lw_p53 : lw_okq (⟨"GallopingRing$ChildQueue", "mixAll", "(J)J"⟩, 2) := ⟨⟨by decide +kernel, by decide +kernel⟩, List.mem_of_getElem? (i := 142) (by decide +kernel), List.mem_of_getElem? (i := 592) (by decide +kernel), List.mem_of_getElem? (i := 593) (by decide +kernel)⟩
theorem lw_p54 : lw_okq (⟨"GallopingRingModel", "put", "(III)V"⟩, 26) := ⟨⟨by decide +kernel, by decide +kernel⟩, List.mem_of_getElem? (i := 597) (by decide +kernel), List.mem_of_getElem? (i := 603) (by decide +kernel), List.mem_of_getElem? (i := 604) (by decide +kernel)⟩
theorem lw_p55 : lw_okq (⟨"GallopingRingModel", "horses", "()I"⟩, 26) := ⟨⟨by decide +kernel, by decide +kernel⟩, List.mem_of_getElem? (i := 597) (by decide +kernel), List.mem_of_getElem? (i := 700) (by decide +kernel), List.mem_of_getElem? (i := 701) (by decide +kernel)⟩
theorem lw_p56 : lw_okq (⟨"GallopingRingModel", "isHorse", "(I)Z"⟩, 26) := ⟨⟨by decide +kernel, by decide +kernel⟩, List.mem_of_getElem? (i := 597) (by decide +kernel), List.mem_of_getElem? (i := 708) (by decide +kernel), List.mem_of_getElem? (i := 709) (by decide +kernel)⟩
theorem lw_p57 : lw_okq (⟨"GallopingRingModel", "isBlocked", "(II)Z"⟩, 26) := ⟨⟨by decide +kernel, by decide +kernel⟩, List.mem_of_getElem? (i := 597) (by decide +kernel), List.mem_of_getElem? (i := 720) (by decide +kernel), List.mem_of_getElem? (i := 721) (by decide +kernel)⟩
theorem lw_p58 : lw_okq (⟨"GallopingRingModel", "mayTurn", "()Z"⟩, 26) := ⟨⟨by decide +kernel, by decide +kernel⟩, List.mem_of_getElem? (i := 597) (by decide +kernel), List.mem_of_getElem? (i := 724) (by decide +kernel), List.mem_of_getElem? (i := 725) (by decide +kernel)⟩
theorem lw_p59 : lw_okq (⟨"GallopingRingModel", "risingOf", "()I"⟩, 26) := ⟨⟨by decide +kernel, by decide +kernel⟩, List.mem_of_getElem? (i := 597) (by decide +kernel), List.mem_of_getElem? (i := 728) (by decide +kernel), List.mem_of_getElem? (i := 729) (by decide +kernel)⟩
theorem lw_p60 : lw_okq (⟨"GallopingRingModel", "load", "(I)I"⟩, 26) := ⟨⟨by decide +kernel, by decide +kernel⟩, List.mem_of_getElem? (i := 597) (by decide +kernel), List.mem_of_getElem? (i := 732) (by decide +kernel), List.mem_of_getElem? (i := 733) (by decide +kernel)⟩
theorem lw_p61 : lw_okq (⟨"GallopingRingModel", "shakeOf", "()I"⟩, 26) := ⟨⟨by decide +kernel, by decide +kernel⟩, List.mem_of_getElem? (i := 597) (by decide +kernel), List.mem_of_getElem? (i := 736) (by decide +kernel), List.mem_of_getElem? (i := 737) (by decide +kernel)⟩
theorem lw_p62 : lw_okq (⟨"GallopingRingModel", "bestOf", "(I)I"⟩, 26) := ⟨⟨by decide +kernel, by decide +kernel⟩, List.mem_of_getElem? (i := 597) (by decide +kernel), List.mem_of_getElem? (i := 766) (by decide +kernel), List.mem_of_getElem? (i := 767) (by decide +kernel)⟩
theorem lw_p63 : lw_okq (⟨"GallopingRingModel", "isFree", "(I)Z"⟩, 26) := ⟨⟨by decide +kernel, by decide +kernel⟩, List.mem_of_getElem? (i := 597) (by decide +kernel), List.mem_of_getElem? (i := 770) (by decide +kernel), List.mem_of_getElem? (i := 771) (by decide +kernel)⟩
def lw_privs_4 : List (MethodName × Nat) := [(⟨"GallopingRing$ChildQueue", "dropFirst", "()V"⟩, 2), (⟨"GallopingRing", "mixPlace", "(JI)J"⟩, 10), (⟨"GallopingRing$Coats", "mixCoats", "(JI)J"⟩, 2), (⟨"GallopingRing$Legs", "mixLegs", "(JI)J"⟩, 2), (⟨"GallopingRing$Fairs", "mixAll", "(J)J"⟩, 8), (⟨"GallopingRing$ChildQueue", "mixAll", "(J)J"⟩, 2), (⟨"GallopingRingModel", "put", "(III)V"⟩, 26), (⟨"GallopingRingModel", "horses", "()I"⟩, 26), (⟨"GallopingRingModel", "isHorse", "(I)Z"⟩, 26), (⟨"GallopingRingModel", "isBlocked", "(II)Z"⟩, 26), (⟨"GallopingRingModel", "mayTurn", "()Z"⟩, 26), (⟨"GallopingRingModel", "risingOf", "()I"⟩, 26), (⟨"GallopingRingModel", "load", "(I)I"⟩, 26), (⟨"GallopingRingModel", "shakeOf", "()I"⟩, 26), (⟨"GallopingRingModel", "bestOf", "(I)I"⟩, 26), (⟨"GallopingRingModel", "isFree", "(I)Z"⟩, 26)]
theorem lw_r4 : ∀ q ∈ lw_privs_4, lw_okq q := List.forall_mem_cons.mpr ⟨lw_p48, List.forall_mem_cons.mpr ⟨lw_p49, List.forall_mem_cons.mpr ⟨lw_p50, List.forall_mem_cons.mpr ⟨lw_p51, List.forall_mem_cons.mpr ⟨lw_p52, List.forall_mem_cons.mpr ⟨lw_p53, List.forall_mem_cons.mpr ⟨lw_p54, List.forall_mem_cons.mpr ⟨lw_p55, List.forall_mem_cons.mpr ⟨lw_p56, List.forall_mem_cons.mpr ⟨lw_p57, List.forall_mem_cons.mpr ⟨lw_p58, List.forall_mem_cons.mpr ⟨lw_p59, List.forall_mem_cons.mpr ⟨lw_p60, List.forall_mem_cons.mpr ⟨lw_p61, List.forall_mem_cons.mpr ⟨lw_p62, List.forall_mem_cons.mpr ⟨lw_p63, fun _ h => absurd h List.not_mem_nil⟩⟩⟩⟩⟩⟩⟩⟩⟩⟩⟩⟩⟩⟩⟩⟩
theorem lw_p64 : lw_okq (⟨"GallopingRingModel", "seat", "(II)V"⟩, 26) := ⟨⟨by decide +kernel, by decide +kernel⟩, List.mem_of_getElem? (i := 597) (by decide +kernel), List.mem_of_getElem? (i := 779) (by decide +kernel), List.mem_of_getElem? (i := 780) (by decide +kernel)⟩
theorem lw_p65 : lw_okq (⟨"GallopingRingModel", "isLeg", "(II)Z"⟩, 26) := ⟨⟨by decide +kernel, by decide +kernel⟩, List.mem_of_getElem? (i := 597) (by decide +kernel), List.mem_of_getElem? (i := 803) (by decide +kernel), List.mem_of_getElem? (i := 804) (by decide +kernel)⟩
theorem lw_p66 : lw_okq (⟨"GallopingRingModel", "isFair", "(I)Z"⟩, 26) := ⟨⟨by decide +kernel, by decide +kernel⟩, List.mem_of_getElem? (i := 597) (by decide +kernel), List.mem_of_getElem? (i := 829) (by decide +kernel), List.mem_of_getElem? (i := 830) (by decide +kernel)⟩
theorem lw_p67 : lw_okq (⟨"GallopingRingModel", "findRound", "()I"⟩, 26) := ⟨⟨by decide +kernel, by decide +kernel⟩, List.mem_of_getElem? (i := 597) (by decide +kernel), List.mem_of_getElem? (i := 838) (by decide +kernel), List.mem_of_getElem? (i := 839) (by decide +kernel)⟩
theorem lw_p68 : lw_okq (⟨"GallopingRingModel", "lay", "(I)Z"⟩, 26) := ⟨⟨by decide +kernel, by decide +kernel⟩, List.mem_of_getElem? (i := 597) (by decide +kernel), List.mem_of_getElem? (i := 842) (by decide +kernel), List.mem_of_getElem? (i := 843) (by decide +kernel)⟩
theorem lw_p69 : lw_okq (⟨"GallopingRingModel", "isLess", "()Z"⟩, 26) := ⟨⟨by decide +kernel, by decide +kernel⟩, List.mem_of_getElem? (i := 597) (by decide +kernel), List.mem_of_getElem? (i := 846) (by decide +kernel), List.mem_of_getElem? (i := 847) (by decide +kernel)⟩
theorem lw_p70 : lw_okq (⟨"GallopingRingModel", "riders", "()I"⟩, 26) := ⟨⟨by decide +kernel, by decide +kernel⟩, List.mem_of_getElem? (i := 597) (by decide +kernel), List.mem_of_getElem? (i := 858) (by decide +kernel), List.mem_of_getElem? (i := 859) (by decide +kernel)⟩
def lw_privs_5 : List (MethodName × Nat) := [(⟨"GallopingRingModel", "seat", "(II)V"⟩, 26), (⟨"GallopingRingModel", "isLeg", "(II)Z"⟩, 26), (⟨"GallopingRingModel", "isFair", "(I)Z"⟩, 26), (⟨"GallopingRingModel", "findRound", "()I"⟩, 26), (⟨"GallopingRingModel", "lay", "(I)Z"⟩, 26), (⟨"GallopingRingModel", "isLess", "()Z"⟩, 26), (⟨"GallopingRingModel", "riders", "()I"⟩, 26)]
theorem lw_r5 : ∀ q ∈ lw_privs_5, lw_okq q := List.forall_mem_cons.mpr ⟨lw_p64, List.forall_mem_cons.mpr ⟨lw_p65, List.forall_mem_cons.mpr ⟨lw_p66, List.forall_mem_cons.mpr ⟨lw_p67, List.forall_mem_cons.mpr ⟨lw_p68, List.forall_mem_cons.mpr ⟨lw_p69, List.forall_mem_cons.mpr ⟨lw_p70, fun _ h => absurd h List.not_mem_nil⟩⟩⟩⟩⟩⟩⟩
def lw_privs : List (MethodName × Nat) := lw_privs_1 ++ (lw_privs_2 ++ (lw_privs_3 ++ (lw_privs_4 ++ (lw_privs_5))))
def lw_tbl : List Cond := k2_sels lw_privs ++ tables_1
theorem lw_privs_ok : ∀ q ∈ lw_privs, lw_okq q := by
  show ∀ q ∈ lw_privs_1 ++ (lw_privs_2 ++ (lw_privs_3 ++ (lw_privs_4 ++ (lw_privs_5)))), lw_okq q
  exact List.forall_mem_append.mpr ⟨lw_r1, List.forall_mem_append.mpr ⟨lw_r2, List.forall_mem_append.mpr ⟨lw_r3, List.forall_mem_append.mpr ⟨lw_r4, lw_r5⟩⟩⟩⟩
def RX0 : String := "GallopingRing$ChildQueue"
def TX0 : u_T := fun k => match k with
  | 0 => ("GallopingRing$ChildQueue", "weights", "[I", true)
  | _ => ("GallopingRing$ChildQueue", "waiting", "I", false)
def tyX0 : Nat → FieldType := fun k => match k with
  | 0 => .array .int
  | _ => .int
abbrev wsX00 : List Cond := u_ws RX0 TX0 2
theorem nmX0 : ∀ a, a < 2 → ∀ b, b < 2 → a ≠ b → (TX0 a).2.1 ≠ (TX0 b).2.1 := by decide +kernel
theorem tyX0_ok : ∀ k, k < 2 → parseFieldDescriptor (TX0 k).2.2.1 = some (tyX0 k) := by decide +kernel
abbrev cX0_init : ByteArray := prog_2_method_1_code
def yX0_init : MethodName := ⟨RX0, "<init>", "()V"⟩
abbrev cX0_join : ByteArray := prog_2_method_2_code
def yX0_join : MethodName := ⟨RX0, "join", "(I)V"⟩
abbrev cX0_dropFirst : ByteArray := prog_2_method_3_code
def yX0_dropFirst : MethodName := ⟨RX0, "dropFirst", "()V"⟩
abbrev cX0_mixAll : ByteArray := prog_2_method_4_code
def yX0_mixAll : MethodName := ⟨RX0, "mixAll", "(J)J"⟩
def RX1 : String := "GallopingRing$Coats"
def TX1 : u_T := fun k => match k with
  | 0 => ("GallopingRing$Coats", "colours", "[I", true)
  | _ => ("GallopingRing$Coats", "numbers", "[I", true)
def tyX1 : Nat → FieldType := fun k => match k with
  | 0 => .array .int
  | _ => .array .int
abbrev wsX10 : List Cond := u_ws RX1 TX1 2
theorem nmX1 : ∀ a, a < 2 → ∀ b, b < 2 → a ≠ b → (TX1 a).2.1 ≠ (TX1 b).2.1 := by decide +kernel
theorem tyX1_ok : ∀ k, k < 2 → parseFieldDescriptor (TX1 k).2.2.1 = some (tyX1 k) := by decide +kernel
abbrev cX1_init : ByteArray := prog_3_method_1_code
def yX1_init : MethodName := ⟨RX1, "<init>", "()V"⟩
abbrev cX1_paintOver : ByteArray := prog_3_method_2_code
def yX1_paintOver : MethodName := ⟨RX1, "paintOver", "(II)V"⟩
abbrev cX1_clear : ByteArray := prog_3_method_3_code
def yX1_clear : MethodName := ⟨RX1, "clear", "(I)V"⟩
abbrev cX1_takeOff : ByteArray := prog_3_method_4_code
def yX1_takeOff : MethodName := ⟨RX1, "takeOff", "(II)V"⟩
abbrev cX1_colourAtDepth : ByteArray := prog_3_method_5_code
def yX1_colourAtDepth : MethodName := ⟨RX1, "colourAtDepth", "(II)I"⟩
abbrev cX1_depthOf : ByteArray := prog_3_method_6_code
def yX1_depthOf : MethodName := ⟨RX1, "depthOf", "(II)I"⟩
abbrev cX1_mixCoats : ByteArray := prog_3_method_7_code
def yX1_mixCoats : MethodName := ⟨RX1, "mixCoats", "(JI)J"⟩
def RX2 : String := "GallopingRing$Fairs"
def TX2 : u_T := fun k => match k with
  | 0 => ("GallopingRing$Fairs", "begins", "[I", true)
  | 1 => ("GallopingRing$Fairs", "ends", "[I", true)
  | 2 => ("GallopingRing$Fairs", "gains", "[I", true)
  | 3 => ("GallopingRing$Fairs", "days", "[I", true)
  | 4 => ("GallopingRing$Fairs", "number", "I", false)
  | 5 => ("GallopingRing$Fairs", "roundGains", "[I", true)
  | 6 => ("GallopingRing$Fairs", "roundLengths", "[I", true)
  | _ => ("GallopingRing$Fairs", "followers", "[I", true)
def tyX2 : Nat → FieldType := fun k => match k with
  | 0 => .array .int
  | 1 => .array .int
  | 2 => .array .int
  | 3 => .array .int
  | 4 => .int
  | 5 => .array .int
  | 6 => .array .int
  | _ => .array .int
abbrev wsX20 : List Cond := u_ws RX2 TX2 8
theorem nmX2 : ∀ a, a < 8 → ∀ b, b < 8 → a ≠ b → (TX2 a).2.1 ≠ (TX2 b).2.1 := by decide +kernel
theorem tyX2_ok : ∀ k, k < 8 → parseFieldDescriptor (TX2 k).2.2.1 = some (tyX2 k) := by decide +kernel
abbrev cX2_init : ByteArray := prog_4_method_1_code
def yX2_init : MethodName := ⟨RX2, "<init>", "()V"⟩
abbrev cX2_isFair : ByteArray := prog_4_method_2_code
def yX2_isFair : MethodName := ⟨RX2, "isFair", "(I)Z"⟩
abbrev cX2_announce : ByteArray := prog_4_method_3_code
def yX2_announce : MethodName := ⟨RX2, "announce", "(III)I"⟩
abbrev cX2_daysBetween : ByteArray := prog_4_method_4_code
def yX2_daysBetween : MethodName := ⟨RX2, "daysBetween", "(II)I"⟩
abbrev cX2_layRoad : ByteArray := prog_4_method_5_code
def yX2_layRoad : MethodName := ⟨RX2, "layRoad", "(III)V"⟩
abbrev cX2_planRounds : ByteArray := prog_4_method_6_code
def yX2_planRounds : MethodName := ⟨RX2, "planRounds", "()V"⟩
abbrev cX2_planFrom : ByteArray := prog_4_method_7_code
def yX2_planFrom : MethodName := ⟨RX2, "planFrom", "(I)V"⟩
abbrev cX2_bestBehind : ByteArray := prog_4_method_8_code
def yX2_bestBehind : MethodName := ⟨RX2, "bestBehind", "(I)I"⟩
abbrev cX2_mayFollow : ByteArray := prog_4_method_9_code
def yX2_mayFollow : MethodName := ⟨RX2, "mayFollow", "(II)Z"⟩
abbrev cX2_isBetter : ByteArray := prog_4_method_10_code
def yX2_isBetter : MethodName := ⟨RX2, "isBetter", "(II)Z"⟩
abbrev cX2_gainFrom : ByteArray := prog_4_method_11_code
def yX2_gainFrom : MethodName := ⟨RX2, "gainFrom", "(I)I"⟩
abbrev cX2_lengthFrom : ByteArray := prog_4_method_12_code
def yX2_lengthFrom : MethodName := ⟨RX2, "lengthFrom", "(I)I"⟩
abbrev cX2_fairOfBestRound : ByteArray := prog_4_method_13_code
def yX2_fairOfBestRound : MethodName := ⟨RX2, "fairOfBestRound", "(I)I"⟩
abbrev cX2_mixAll : ByteArray := prog_4_method_14_code
def yX2_mixAll : MethodName := ⟨RX2, "mixAll", "(J)J"⟩
def RX3 : String := "GallopingRing$Legs"
def TX3 : u_T := fun k => match k with
  | 0 => ("GallopingRing$Legs", "marks", "[I", true)
  | _ => ("GallopingRing$Legs", "toWalk", "[I", true)
def tyX3 : Nat → FieldType := fun k => match k with
  | 0 => .array .int
  | _ => .array .int
abbrev wsX30 : List Cond := u_ws RX3 TX3 2
theorem nmX3 : ∀ a, a < 2 → ∀ b, b < 2 → a ≠ b → (TX3 a).2.1 ≠ (TX3 b).2.1 := by decide +kernel
theorem tyX3_ok : ∀ k, k < 2 → parseFieldDescriptor (TX3 k).2.2.1 = some (tyX3 k) := by decide +kernel
abbrev cX3_init : ByteArray := prog_5_method_1_code
def yX3_init : MethodName := ⟨RX3, "<init>", "()V"⟩
abbrev cX3_areOwn : ByteArray := prog_5_method_2_code
def yX3_areOwn : MethodName := ⟨RX3, "areOwn", "(I)Z"⟩
abbrev cX3_exchange : ByteArray := prog_5_method_3_code
def yX3_exchange : MethodName := ⟨RX3, "exchange", "(II)V"⟩
abbrev cX3_whereIs : ByteArray := prog_5_method_4_code
def yX3_whereIs : MethodName := ⟨RX3, "whereIs", "(I)I"⟩
abbrev cX3_fewestSwaps : ByteArray := prog_5_method_5_code
def yX3_fewestSwaps : MethodName := ⟨RX3, "fewestSwaps", "()I"⟩
abbrev cX3_walkCycle : ByteArray := prog_5_method_6_code
def yX3_walkCycle : MethodName := ⟨RX3, "walkCycle", "(I)I"⟩
abbrev cX3_mixLegs : ByteArray := prog_5_method_7_code
def yX3_mixLegs : MethodName := ⟨RX3, "mixLegs", "(JI)J"⟩
def RX4 : String := "GallopingRing$Ring"
def TX4 : u_T := fun k => match k with
  | 0 => ("GallopingRing$Ring", "horseWeights", "[I", true)
  | 1 => ("GallopingRing$Ring", "riderWeights", "[I", true)
  | 2 => ("GallopingRing$Ring", "shaking", "I", false)
  | 3 => ("GallopingRing$Ring", "lift", "I", false)
  | 4 => ("GallopingRing$Ring", "across", "I", false)
  | 5 => ("GallopingRing$Ring", "along", "I", false)
  | 6 => ("GallopingRing$Ring", "lifted", "I", false)
  | _ => ("GallopingRing$Ring", "loadInAll", "I", false)
def tyX4 : Nat → FieldType := fun k => match k with
  | 0 => .array .int
  | 1 => .array .int
  | 2 => .int
  | 3 => .int
  | 4 => .int
  | 5 => .int
  | 6 => .int
  | _ => .int
abbrev wsX40 : List Cond := u_ws RX4 TX4 8
theorem nmX4 : ∀ a, a < 8 → ∀ b, b < 8 → a ≠ b → (TX4 a).2.1 ≠ (TX4 b).2.1 := by decide +kernel
theorem tyX4_ok : ∀ k, k < 8 → parseFieldDescriptor (TX4 k).2.2.1 = some (tyX4 k) := by decide +kernel
abbrev cX4_init : ByteArray := prog_6_method_1_code
def yX4_init : MethodName := ⟨RX4, "<init>", "()V"⟩
abbrev cX4_hasHorse : ByteArray := prog_6_method_2_code
def yX4_hasHorse : MethodName := ⟨RX4, "hasHorse", "(I)Z"⟩
abbrev cX4_hasRider : ByteArray := prog_6_method_3_code
def yX4_hasRider : MethodName := ⟨RX4, "hasRider", "(I)Z"⟩
abbrev cX4_isFree : ByteArray := prog_6_method_4_code
def yX4_isFree : MethodName := ⟨RX4, "isFree", "(I)Z"⟩
abbrev cX4_putHorse : ByteArray := prog_6_method_5_code
def yX4_putHorse : MethodName := ⟨RX4, "putHorse", "(II)V"⟩
abbrev cX4_takeHorse : ByteArray := prog_6_method_6_code
def yX4_takeHorse : MethodName := ⟨RX4, "takeHorse", "(I)I"⟩
abbrev cX4_putRider : ByteArray := prog_6_method_7_code
def yX4_putRider : MethodName := ⟨RX4, "putRider", "(II)V"⟩
abbrev cX4_takeRider : ByteArray := prog_6_method_8_code
def yX4_takeRider : MethodName := ⟨RX4, "takeRider", "(I)I"⟩
abbrev cX4_takeAllRiders : ByteArray := prog_6_method_9_code
def yX4_takeAllRiders : MethodName := ⟨RX4, "takeAllRiders", "()V"⟩
abbrev cX4_addLoad : ByteArray := prog_6_method_10_code
def yX4_addLoad : MethodName := ⟨RX4, "addLoad", "(II)V"⟩
abbrev cX4_liftOf : ByteArray := prog_6_method_11_code
def yX4_liftOf : MethodName := ⟨RX4, "liftOf", "(II)I"⟩
abbrev cX4_shakeNow : ByteArray := prog_6_method_12_code
def yX4_shakeNow : MethodName := ⟨RX4, "shakeNow", "()I"⟩
abbrev cX4_shakeWith : ByteArray := prog_6_method_13_code
def yX4_shakeWith : MethodName := ⟨RX4, "shakeWith", "(II)I"⟩
abbrev cX4_mayTurn : ByteArray := prog_6_method_14_code
def yX4_mayTurn : MethodName := ⟨RX4, "mayTurn", "()Z"⟩
abbrev cX4_mayTurnWith : ByteArray := prog_6_method_15_code
def yX4_mayTurnWith : MethodName := ⟨RX4, "mayTurnWith", "(II)Z"⟩
abbrev cX4_isLawful : ByteArray := prog_6_method_16_code
def yX4_isLawful : MethodName := ⟨RX4, "isLawful", "(II)Z"⟩
abbrev cX4_bestHorse : ByteArray := prog_6_method_17_code
def yX4_bestHorse : MethodName := ⟨RX4, "bestHorse", "(I)I"⟩
abbrev cX4_horsesStanding : ByteArray := prog_6_method_18_code
def yX4_horsesStanding : MethodName := ⟨RX4, "horsesStanding", "()I"⟩
abbrev cX4_ridersSitting : ByteArray := prog_6_method_19_code
def yX4_ridersSitting : MethodName := ⟨RX4, "ridersSitting", "()I"⟩
abbrev cX4_freeHorses : ByteArray := prog_6_method_20_code
def yX4_freeHorses : MethodName := ⟨RX4, "freeHorses", "()I"⟩
abbrev cX4_numberAboveZero : ByteArray := prog_6_method_21_code
def yX4_numberAboveZero : MethodName := ⟨RX4, "numberAboveZero", "([I)I"⟩
def RX5 : String := "GallopingRing$Seating"
def TX5 : u_T := fun k => match k with
  | 0 => ("GallopingRing$Seating", "weights", "[I", true)
  | 1 => ("GallopingRing$Seating", "tried", "[I", true)
  | 2 => ("GallopingRing$Seating", "chosen", "[I", true)
  | 3 => ("GallopingRing$Seating", "size", "I", false)
  | _ => ("GallopingRing$Seating", "leastShake", "I", false)
def tyX5 : Nat → FieldType := fun k => match k with
  | 0 => .array .int
  | 1 => .array .int
  | 2 => .array .int
  | 3 => .int
  | _ => .int
abbrev wsX50 : List Cond := u_ws RX5 TX5 5
theorem nmX5 : ∀ a, a < 5 → ∀ b, b < 5 → a ≠ b → (TX5 a).2.1 ≠ (TX5 b).2.1 := by decide +kernel
theorem tyX5_ok : ∀ k, k < 5 → parseFieldDescriptor (TX5 k).2.2.1 = some (tyX5 k) := by decide +kernel
abbrev cX5_init : ByteArray := prog_7_method_1_code
def yX5_init : MethodName := ⟨RX5, "<init>", "()V"⟩
abbrev cX5_choose : ByteArray := prog_7_method_2_code
def yX5_choose : MethodName := ⟨RX5, "choose", "(LGallopingRing$Ring;IIII)V"⟩
abbrev cX5_tryRiders : ByteArray := prog_7_method_3_code
def yX5_tryRiders : MethodName := ⟨RX5, "tryRiders", "(LGallopingRing$Seating;LGallopingRing$Ring;III)V"⟩
abbrev cX5_isTaken : ByteArray := prog_7_method_4_code
def yX5_isTaken : MethodName := ⟨RX5, "isTaken", "(II)Z"⟩
abbrev cX5_keepIfLess : ByteArray := prog_7_method_5_code
def yX5_keepIfLess : MethodName := ⟨RX5, "keepIfLess", "(I)V"⟩
abbrev cX5_seatAll : ByteArray := prog_7_method_6_code
def yX5_seatAll : MethodName := ⟨RX5, "seatAll", "(LGallopingRing$Ring;)V"⟩
def RX6 : String := "GallopingRing"
def TX6 : u_T := fun k => match k with
  | 0 => ("GallopingRing", "ring", "LGallopingRing$Ring;", true)
  | 1 => ("GallopingRing", "seating", "LGallopingRing$Seating;", true)
  | 2 => ("GallopingRing", "coats", "LGallopingRing$Coats;", true)
  | 3 => ("GallopingRing", "legs", "LGallopingRing$Legs;", true)
  | 4 => ("GallopingRing", "fairs", "LGallopingRing$Fairs;", true)
  | 5 => ("GallopingRing", "queue", "LGallopingRing$ChildQueue;", true)
  | 6 => ("GallopingRing", "groupsDone", "I", false)
  | 7 => ("GallopingRing", "hoursAllowed", "I", false)
  | 8 => ("GallopingRing", "tenthsRun", "I", false)
  | _ => ("GallopingRing", "tokensTaken", "I", false)
def tyX6 : Nat → FieldType := fun k => match k with
  | 0 => .object "GallopingRing$Ring"
  | 1 => .object "GallopingRing$Seating"
  | 2 => .object "GallopingRing$Coats"
  | 3 => .object "GallopingRing$Legs"
  | 4 => .object "GallopingRing$Fairs"
  | 5 => .object "GallopingRing$ChildQueue"
  | 6 => .int
  | 7 => .int
  | 8 => .int
  | _ => .int
abbrev wsX60 : List Cond := u_ws RX6 TX6 10
theorem nmX6 : ∀ a, a < 10 → ∀ b, b < 10 → a ≠ b → (TX6 a).2.1 ≠ (TX6 b).2.1 := by decide +kernel
theorem tyX6_ok : ∀ k, k < 10 → parseFieldDescriptor (TX6 k).2.2.1 = some (tyX6 k) := by decide +kernel
abbrev cX6_init : ByteArray := prog_1_method_1_code
def yX6_init : MethodName := ⟨RX6, "<init>", "()V"⟩
abbrev cX6_horse : ByteArray := prog_1_method_2_code
def yX6_horse : MethodName := ⟨RX6, "horse", "(III)I"⟩
abbrev cX6_leave : ByteArray := prog_1_method_3_code
def yX6_leave : MethodName := ⟨RX6, "leave", "(I)I"⟩
abbrev cX6_sit : ByteArray := prog_1_method_4_code
def yX6_sit : MethodName := ⟨RX6, "sit", "(II)I"⟩
abbrev cX6_rise : ByteArray := prog_1_method_5_code
def yX6_rise : MethodName := ⟨RX6, "rise", "(I)I"⟩
abbrev cX6_shake : ByteArray := prog_1_method_6_code
def yX6_shake : MethodName := ⟨RX6, "shake", "()I"⟩
abbrev cX6_rising : ByteArray := prog_1_method_7_code
def yX6_rising : MethodName := ⟨RX6, "rising", "()I"⟩
abbrev cX6_may : ByteArray := prog_1_method_8_code
def yX6_may : MethodName := ⟨RX6, "may", "()I"⟩
abbrev cX6_law : ByteArray := prog_1_method_9_code
def yX6_law : MethodName := ⟨RX6, "law", "(II)I"⟩
abbrev cX6_best : ByteArray := prog_1_method_10_code
def yX6_best : MethodName := ⟨RX6, "best", "(I)I"⟩
abbrev cX6_group : ByteArray := prog_1_method_11_code
def yX6_group : MethodName := ⟨RX6, "group", "(IIII)I"⟩
abbrev cX6_rider : ByteArray := prog_1_method_12_code
def yX6_rider : MethodName := ⟨RX6, "rider", "(I)I"⟩
abbrev cX6_coat : ByteArray := prog_1_method_13_code
def yX6_coat : MethodName := ⟨RX6, "coat", "(II)I"⟩
abbrev cX6_sample : ByteArray := prog_1_method_14_code
def yX6_sample : MethodName := ⟨RX6, "sample", "(II)I"⟩
abbrev cX6_strip : ByteArray := prog_1_method_15_code
def yX6_strip : MethodName := ⟨RX6, "strip", "(II)I"⟩
abbrev cX6_swap : ByteArray := prog_1_method_16_code
def yX6_swap : MethodName := ⟨RX6, "swap", "(IIII)I"⟩
abbrev cX6_mark : ByteArray := prog_1_method_17_code
def yX6_mark : MethodName := ⟨RX6, "mark", "(II)I"⟩
abbrev cX6_swaps : ByteArray := prog_1_method_18_code
def yX6_swaps : MethodName := ⟨RX6, "swaps", "()I"⟩
abbrev cX6_find : ByteArray := prog_1_method_19_code
def yX6_find : MethodName := ⟨RX6, "find", "(II)I"⟩
abbrev cX6_fair : ByteArray := prog_1_method_20_code
def yX6_fair : MethodName := ⟨RX6, "fair", "(III)I"⟩
abbrev cX6_road : ByteArray := prog_1_method_21_code
def yX6_road : MethodName := ⟨RX6, "road", "(III)I"⟩
abbrev cX6_earns : ByteArray := prog_1_method_22_code
def yX6_earns : MethodName := ⟨RX6, "earns", "()I"⟩
abbrev cX6_round : ByteArray := prog_1_method_23_code
def yX6_round : MethodName := ⟨RX6, "round", "(I)I"⟩
abbrev cX6_turn : ByteArray := prog_1_method_24_code
def yX6_turn : MethodName := ⟨RX6, "turn", "()I"⟩
abbrev cX6_look : ByteArray := prog_1_method_25_code
def yX6_look : MethodName := ⟨RX6, "look", "()I"⟩
abbrev cX6_hours : ByteArray := prog_1_method_26_code
def yX6_hours : MethodName := ⟨RX6, "hours", "(I)I"⟩
abbrev cX6_come : ByteArray := prog_1_method_27_code
def yX6_come : MethodName := ⟨RX6, "come", "(I)I"⟩
abbrev cX6_next : ByteArray := prog_1_method_28_code
def yX6_next : MethodName := ⟨RX6, "next", "()I"⟩
abbrev cX6_book : ByteArray := prog_1_method_29_code
def yX6_book : MethodName := ⟨RX6, "book", "(I)I"⟩
abbrev cX6_count : ByteArray := prog_1_method_30_code
def yX6_count : MethodName := ⟨RX6, "count", "(I)I"⟩
abbrev cX6_digest : ByteArray := prog_1_method_31_code
def yX6_digest : MethodName := ⟨RX6, "digest", "()J"⟩
abbrev cX6_lawOfShaking : ByteArray := prog_1_method_32_code
def yX6_lawOfShaking : MethodName := ⟨RX6, "lawOfShaking", "(I)I"⟩
abbrev cX6_lawOfLift : ByteArray := prog_1_method_33_code
def yX6_lawOfLift : MethodName := ⟨RX6, "lawOfLift", "(I)I"⟩
abbrev cX6_isLegOfHorse : ByteArray := prog_1_method_34_code
def yX6_isLegOfHorse : MethodName := ⟨RX6, "isLegOfHorse", "(II)Z"⟩
abbrev cX6_mixPlace : ByteArray := prog_1_method_35_code
def yX6_mixPlace : MethodName := ⟨RX6, "mixPlace", "(JI)J"⟩
abbrev cX6_mix : ByteArray := prog_1_method_36_code
def yX6_mix : MethodName := ⟨RX6, "mix", "(JI)J"⟩
abbrev cX6_isWithin : ByteArray := prog_1_method_37_code
def yX6_isWithin : MethodName := ⟨RX6, "isWithin", "(III)Z"⟩
abbrev cX6_isPlace : ByteArray := prog_1_method_38_code
def yX6_isPlace : MethodName := ⟨RX6, "isPlace", "(I)Z"⟩
abbrev cX6_isLeg : ByteArray := prog_1_method_39_code
def yX6_isLeg : MethodName := ⟨RX6, "isLeg", "(I)Z"⟩
abbrev cX6_legNumber : ByteArray := prog_1_method_40_code
def yX6_legNumber : MethodName := ⟨RX6, "legNumber", "(II)I"⟩
abbrev cX6_isRiderWeight : ByteArray := prog_1_method_41_code
def yX6_isRiderWeight : MethodName := ⟨RX6, "isRiderWeight", "(I)Z"⟩
abbrev cX6_isGroup : ByteArray := prog_1_method_42_code
def yX6_isGroup : MethodName := ⟨RX6, "isGroup", "(IIII)Z"⟩
abbrev cX6_shakeOf : ByteArray := prog_1_method_43_code
def yX6_shakeOf : MethodName := ⟨RX6, "shakeOf", "(II)I"⟩
def RX7 : String := "GallopingRingModel"
def TX7 : u_T := fun k => match k with
  | 0 => ("GallopingRingModel", "px", "[I", true)
  | 1 => ("GallopingRingModel", "py", "[I", true)
  | 2 => ("GallopingRingModel", "horse", "[I", true)
  | 3 => ("GallopingRingModel", "rider", "[I", true)
  | 4 => ("GallopingRingModel", "coats", "[I", true)
  | 5 => ("GallopingRingModel", "coat", "[I", true)
  | 6 => ("GallopingRingModel", "marks", "[I", true)
  | 7 => ("GallopingRingModel", "shaking", "I", false)
  | 8 => ("GallopingRingModel", "lift", "I", false)
  | 9 => ("GallopingRingModel", "groups", "I", false)
  | 10 => ("GallopingRingModel", "seats", "[I", true)
  | 11 => ("GallopingRingModel", "seen", "[Z", true)
  | 12 => ("GallopingRingModel", "fairs", "I", false)
  | 13 => ("GallopingRingModel", "begins", "[I", true)
  | 14 => ("GallopingRingModel", "ends", "[I", true)
  | 15 => ("GallopingRingModel", "earns", "[I", true)
  | 16 => ("GallopingRingModel", "roads", "[I", true)
  | 17 => ("GallopingRingModel", "way", "[I", true)
  | 18 => ("GallopingRingModel", "wayMany", "I", false)
  | 19 => ("GallopingRingModel", "bestWay", "[I", true)
  | 20 => ("GallopingRingModel", "bestMany", "I", false)
  | 21 => ("GallopingRingModel", "hours", "I", false)
  | 22 => ("GallopingRingModel", "tenths", "I", false)
  | 23 => ("GallopingRingModel", "tokens", "I", false)
  | 24 => ("GallopingRingModel", "waits", "I", false)
  | _ => ("GallopingRingModel", "queue", "[I", true)
def tyX7 : Nat → FieldType := fun k => match k with
  | 0 => .array .int
  | 1 => .array .int
  | 2 => .array .int
  | 3 => .array .int
  | 4 => .array .int
  | 5 => .array .int
  | 6 => .array .int
  | 7 => .int
  | 8 => .int
  | 9 => .int
  | 10 => .array .int
  | 11 => .array .boolean
  | 12 => .int
  | 13 => .array .int
  | 14 => .array .int
  | 15 => .array .int
  | 16 => .array .int
  | 17 => .array .int
  | 18 => .int
  | 19 => .array .int
  | 20 => .int
  | 21 => .int
  | 22 => .int
  | 23 => .int
  | 24 => .int
  | _ => .array .int
abbrev wsX70 : List Cond := u_ws RX7 TX7 26
theorem nmX7 : ∀ a, a < 26 → ∀ b, b < 26 → a ≠ b → (TX7 a).2.1 ≠ (TX7 b).2.1 := by decide +kernel
theorem tyX7_ok : ∀ k, k < 26 → parseFieldDescriptor (TX7 k).2.2.1 = some (tyX7 k) := by decide +kernel
abbrev cX7_init : ByteArray := prog_9_method_1_code
def yX7_init : MethodName := ⟨RX7, "<init>", "()V"⟩
abbrev cX7_in : ByteArray := prog_9_method_2_code
def yX7_in : MethodName := ⟨RX7, "in", "(JJJ)Z"⟩
abbrev cX7_put : ByteArray := prog_9_method_3_code
def yX7_put : MethodName := ⟨RX7, "put", "(III)V"⟩
abbrev cX7_isPlace : ByteArray := prog_9_method_4_code
def yX7_isPlace : MethodName := ⟨RX7, "isPlace", "(I)Z"⟩
abbrev cX7_isHorse : ByteArray := prog_9_method_5_code
def yX7_isHorse : MethodName := ⟨RX7, "isHorse", "(I)Z"⟩
abbrev cX7_horses : ByteArray := prog_9_method_6_code
def yX7_horses : MethodName := ⟨RX7, "horses", "()I"⟩
abbrev cX7_horse : ByteArray := prog_9_method_7_code
def yX7_horse : MethodName := ⟨RX7, "horse", "(III)I"⟩
abbrev cX7_leave : ByteArray := prog_9_method_8_code
def yX7_leave : MethodName := ⟨RX7, "leave", "(I)I"⟩
abbrev cX7_load : ByteArray := prog_9_method_9_code
def yX7_load : MethodName := ⟨RX7, "load", "(I)I"⟩
abbrev cX7_shakeOf : ByteArray := prog_9_method_10_code
def yX7_shakeOf : MethodName := ⟨RX7, "shakeOf", "()I"⟩
abbrev cX7_risingOf : ByteArray := prog_9_method_11_code
def yX7_risingOf : MethodName := ⟨RX7, "risingOf", "()I"⟩
abbrev cX7_mayTurn : ByteArray := prog_9_method_12_code
def yX7_mayTurn : MethodName := ⟨RX7, "mayTurn", "()Z"⟩
abbrev cX7_isBlocked : ByteArray := prog_9_method_13_code
def yX7_isBlocked : MethodName := ⟨RX7, "isBlocked", "(II)Z"⟩
abbrev cX7_isRider : ByteArray := prog_9_method_14_code
def yX7_isRider : MethodName := ⟨RX7, "isRider", "(I)Z"⟩
abbrev cX7_sit : ByteArray := prog_9_method_15_code
def yX7_sit : MethodName := ⟨RX7, "sit", "(II)I"⟩
abbrev cX7_rise : ByteArray := prog_9_method_16_code
def yX7_rise : MethodName := ⟨RX7, "rise", "(I)I"⟩
abbrev cX7_shake : ByteArray := prog_9_method_17_code
def yX7_shake : MethodName := ⟨RX7, "shake", "()I"⟩
abbrev cX7_rising : ByteArray := prog_9_method_18_code
def yX7_rising : MethodName := ⟨RX7, "rising", "()I"⟩
abbrev cX7_may : ByteArray := prog_9_method_19_code
def yX7_may : MethodName := ⟨RX7, "may", "()I"⟩
abbrev cX7_law : ByteArray := prog_9_method_20_code
def yX7_law : MethodName := ⟨RX7, "law", "(II)I"⟩
abbrev cX7_isFree : ByteArray := prog_9_method_21_code
def yX7_isFree : MethodName := ⟨RX7, "isFree", "(I)Z"⟩
abbrev cX7_bestOf : ByteArray := prog_9_method_22_code
def yX7_bestOf : MethodName := ⟨RX7, "bestOf", "(I)I"⟩
abbrev cX7_best : ByteArray := prog_9_method_23_code
def yX7_best : MethodName := ⟨RX7, "best", "(I)I"⟩
abbrev cX7_group : ByteArray := prog_9_method_24_code
def yX7_group : MethodName := ⟨RX7, "group", "(IIII)I"⟩
abbrev cX7_seat : ByteArray := prog_9_method_25_code
def yX7_seat : MethodName := ⟨RX7, "seat", "(II)V"⟩
abbrev cX7_rider : ByteArray := prog_9_method_26_code
def yX7_rider : MethodName := ⟨RX7, "rider", "(I)I"⟩
abbrev cX7_coat : ByteArray := prog_9_method_27_code
def yX7_coat : MethodName := ⟨RX7, "coat", "(II)I"⟩
abbrev cX7_sample : ByteArray := prog_9_method_28_code
def yX7_sample : MethodName := ⟨RX7, "sample", "(II)I"⟩
abbrev cX7_strip : ByteArray := prog_9_method_29_code
def yX7_strip : MethodName := ⟨RX7, "strip", "(II)I"⟩
abbrev cX7_isLeg : ByteArray := prog_9_method_30_code
def yX7_isLeg : MethodName := ⟨RX7, "isLeg", "(II)Z"⟩
abbrev cX7_swap : ByteArray := prog_9_method_31_code
def yX7_swap : MethodName := ⟨RX7, "swap", "(IIII)I"⟩
abbrev cX7_mark : ByteArray := prog_9_method_32_code
def yX7_mark : MethodName := ⟨RX7, "mark", "(II)I"⟩
abbrev cX7_swaps : ByteArray := prog_9_method_33_code
def yX7_swaps : MethodName := ⟨RX7, "swaps", "()I"⟩
abbrev cX7_find : ByteArray := prog_9_method_34_code
def yX7_find : MethodName := ⟨RX7, "find", "(II)I"⟩
abbrev cX7_fair : ByteArray := prog_9_method_35_code
def yX7_fair : MethodName := ⟨RX7, "fair", "(III)I"⟩
abbrev cX7_isFair : ByteArray := prog_9_method_36_code
def yX7_isFair : MethodName := ⟨RX7, "isFair", "(I)Z"⟩
abbrev cX7_road : ByteArray := prog_9_method_37_code
def yX7_road : MethodName := ⟨RX7, "road", "(III)I"⟩
abbrev cX7_lay : ByteArray := prog_9_method_38_code
def yX7_lay : MethodName := ⟨RX7, "lay", "(I)Z"⟩
abbrev cX7_isLess : ByteArray := prog_9_method_39_code
def yX7_isLess : MethodName := ⟨RX7, "isLess", "()Z"⟩
abbrev cX7_findRound : ByteArray := prog_9_method_40_code
def yX7_findRound : MethodName := ⟨RX7, "findRound", "()I"⟩
abbrev cX7_earns : ByteArray := prog_9_method_41_code
def yX7_earns : MethodName := ⟨RX7, "earns", "()I"⟩
abbrev cX7_round : ByteArray := prog_9_method_42_code
def yX7_round : MethodName := ⟨RX7, "round", "(I)I"⟩
abbrev cX7_riders : ByteArray := prog_9_method_43_code
def yX7_riders : MethodName := ⟨RX7, "riders", "()I"⟩
abbrev cX7_turn : ByteArray := prog_9_method_44_code
def yX7_turn : MethodName := ⟨RX7, "turn", "()I"⟩
abbrev cX7_look : ByteArray := prog_9_method_45_code
def yX7_look : MethodName := ⟨RX7, "look", "()I"⟩
abbrev cX7_hours : ByteArray := prog_9_method_46_code
def yX7_hours : MethodName := ⟨RX7, "hours", "(I)I"⟩
abbrev cX7_come : ByteArray := prog_9_method_47_code
def yX7_come : MethodName := ⟨RX7, "come", "(I)I"⟩
abbrev cX7_next : ByteArray := prog_9_method_48_code
def yX7_next : MethodName := ⟨RX7, "next", "()I"⟩
abbrev cX7_book : ByteArray := prog_9_method_49_code
def yX7_book : MethodName := ⟨RX7, "book", "(I)I"⟩
abbrev cX7_count : ByteArray := prog_9_method_50_code
def yX7_count : MethodName := ⟨RX7, "count", "(I)I"⟩
abbrev cX7_digest : ByteArray := prog_9_method_51_code
def yX7_digest : MethodName := ⟨RX7, "digest", "()J"⟩
def RL : String := "GallopingRingLaw"
abbrev cL_law : ByteArray := code
def yL_law : MethodName := ⟨RL, "law", "([I)Z"⟩
theorem inX0 : ∀ w ∈ wsX00, w ∈ lw_tbl := by decide +kernel
theorem inX1 : ∀ w ∈ wsX10, w ∈ lw_tbl := by decide +kernel
theorem inX2 : ∀ w ∈ wsX20, w ∈ lw_tbl := by decide +kernel
theorem inX3 : ∀ w ∈ wsX30, w ∈ lw_tbl := by decide +kernel
theorem inX4 : ∀ w ∈ wsX40, w ∈ lw_tbl := by decide +kernel
theorem inX5 : ∀ w ∈ wsX50, w ∈ lw_tbl := by decide +kernel
theorem inX6 : ∀ w ∈ wsX60, w ∈ lw_tbl := by decide +kernel
theorem inX7 : ∀ w ∈ wsX70, w ∈ lw_tbl := by decide +kernel
abbrev vwCl : List vw_C := [(RX0, TX0, 2), (RX1, TX1, 2), (RX2, TX2, 8), (RX3, TX3, 2), (RX4, TX4, 8), (RX5, TX5, 5), (RX6, TX6, 10), (RX7, TX7, 26)]
