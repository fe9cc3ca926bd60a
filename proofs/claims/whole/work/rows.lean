section
-- ===== PART A: goes FIRST, ahead of the names: the tables' words, and 'selects' of the private methods out of them =====
/-- a private method of a class that the tables say can be made, by its rows of tables_1 -/
def lw_okq (q : MethodName × Nat) : Prop := (q.1.cls ≠ "java/lang/invoke/MethodHandle" ∧ q.1.cls ≠ "java/lang/invoke/VarHandle") ∧ Cond.instantiable q.1.cls q.2 ∈ tables_1 ∧ Cond.privateMethod q.1 ∈ tables_1 ∧ Cond.instanceMethod q.1 ∈ tables_1
theorem lw_p0 : lw_okq (⟨"GallopingRing$Ring", "hasHorse", "(I)Z"⟩, 8) := ⟨⟨by decide +kernel, by decide +kernel⟩, List.mem_of_getElem? (i := 20) (by decide +kernel), List.mem_of_getElem? (i := 198) (by decide +kernel), List.mem_of_getElem? (i := 199) (by decide +kernel)⟩
theorem lw_p1 : lw_okq (⟨"GallopingRing$Ring", "putHorse", "(II)V"⟩, 8) := ⟨⟨by decide +kernel, by decide +kernel⟩, List.mem_of_getElem? (i := 20) (by decide +kernel), List.mem_of_getElem? (i := 203) (by decide +kernel), List.mem_of_getElem? (i := 204) (by decide +kernel)⟩
theorem lw_p2 : lw_okq (⟨"GallopingRing$Ring", "addLoad", "(II)V"⟩, 8) := ⟨⟨by decide +kernel, by decide +kernel⟩, List.mem_of_getElem? (i := 20) (by decide +kernel), List.mem_of_getElem? (i := 207) (by decide +kernel), List.mem_of_getElem? (i := 208) (by decide +kernel)⟩
theorem lw_p3 : lw_okq (⟨"GallopingRing$Coats", "paintOver", "(II)V"⟩, 2) := ⟨⟨by decide +kernel, by decide +kernel⟩, List.mem_of_getElem? (i := 82) (by decide +kernel), List.mem_of_getElem? (i := 218) (by decide +kernel), List.mem_of_getElem? (i := 219) (by decide +kernel)⟩
theorem lw_p4 : lw_okq (⟨"GallopingRing$Ring", "horsesStanding", "()I"⟩, 8) := ⟨⟨by decide +kernel, by decide +kernel⟩, List.mem_of_getElem? (i := 20) (by decide +kernel), List.mem_of_getElem? (i := 222) (by decide +kernel), List.mem_of_getElem? (i := 223) (by decide +kernel)⟩
theorem lw_p5 : lw_okq (⟨"GallopingRing$Ring", "hasRider", "(I)Z"⟩, 8) := ⟨⟨by decide +kernel, by decide +kernel⟩, List.mem_of_getElem? (i := 20) (by decide +kernel), List.mem_of_getElem? (i := 233) (by decide +kernel), List.mem_of_getElem? (i := 234) (by decide +kernel)⟩
theorem lw_p6 : lw_okq (⟨"GallopingRing$Legs", "areOwn", "(I)Z"⟩, 2) := ⟨⟨by decide +kernel, by decide +kernel⟩, List.mem_of_getElem? (i := 96) (by decide +kernel), List.mem_of_getElem? (i := 237) (by decide +kernel), List.mem_of_getElem? (i := 238) (by decide +kernel)⟩
theorem lw_p7 : lw_okq (⟨"GallopingRing$Coats", "clear", "(I)V"⟩, 2) := ⟨⟨by decide +kernel, by decide +kernel⟩, List.mem_of_getElem? (i := 82) (by decide +kernel), List.mem_of_getElem? (i := 244) (by decide +kernel), List.mem_of_getElem? (i := 245) (by decide +kernel)⟩
theorem lw_p8 : lw_okq (⟨"GallopingRing$Ring", "takeHorse", "(I)I"⟩, 8) := ⟨⟨by decide +kernel, by decide +kernel⟩, List.mem_of_getElem? (i := 20) (by decide +kernel), List.mem_of_getElem? (i := 248) (by decide +kernel), List.mem_of_getElem? (i := 249) (by decide +kernel)⟩
theorem lw_p9 : lw_okq (⟨"GallopingRing$Ring", "mayTurnWith", "(II)Z"⟩, 8) := ⟨⟨by decide +kernel, by decide +kernel⟩, List.mem_of_getElem? (i := 20) (by decide +kernel), List.mem_of_getElem? (i := 259) (by decide +kernel), List.mem_of_getElem? (i := 260) (by decide +kernel)⟩
theorem lw_p10 : lw_okq (⟨"GallopingRing$Ring", "shakeWith", "(II)I"⟩, 8) := ⟨⟨by decide +kernel, by decide +kernel⟩, List.mem_of_getElem? (i := 20) (by decide +kernel), List.mem_of_getElem? (i := 263) (by decide +kernel), List.mem_of_getElem? (i := 264) (by decide +kernel)⟩
theorem lw_p11 : lw_okq (⟨"GallopingRing$Ring", "isLawful", "(II)Z"⟩, 8) := ⟨⟨by decide +kernel, by decide +kernel⟩, List.mem_of_getElem? (i := 20) (by decide +kernel), List.mem_of_getElem? (i := 270) (by decide +kernel), List.mem_of_getElem? (i := 271) (by decide +kernel)⟩
theorem lw_p12 : lw_okq (⟨"GallopingRing$Ring", "putRider", "(II)V"⟩, 8) := ⟨⟨by decide +kernel, by decide +kernel⟩, List.mem_of_getElem? (i := 20) (by decide +kernel), List.mem_of_getElem? (i := 277) (by decide +kernel), List.mem_of_getElem? (i := 278) (by decide +kernel)⟩
theorem lw_p13 : lw_okq (⟨"GallopingRing$Ring", "shakeNow", "()I"⟩, 8) := ⟨⟨by decide +kernel, by decide +kernel⟩, List.mem_of_getElem? (i := 20) (by decide +kernel), List.mem_of_getElem? (i := 281) (by decide +kernel), List.mem_of_getElem? (i := 282) (by decide +kernel)⟩
theorem lw_p14 : lw_okq (⟨"GallopingRing$Ring", "takeRider", "(I)I"⟩, 8) := ⟨⟨by decide +kernel, by decide +kernel⟩, List.mem_of_getElem? (i := 20) (by decide +kernel), List.mem_of_getElem? (i := 289) (by decide +kernel), List.mem_of_getElem? (i := 290) (by decide +kernel)⟩
theorem lw_p15 : lw_okq (⟨"GallopingRing$Ring", "mayTurn", "()Z"⟩, 8) := ⟨⟨by decide +kernel, by decide +kernel⟩, List.mem_of_getElem? (i := 20) (by decide +kernel), List.mem_of_getElem? (i := 305) (by decide +kernel), List.mem_of_getElem? (i := 306) (by decide +kernel)⟩
def lw_privs_1 : List (MethodName × Nat) := [(⟨"GallopingRing$Ring", "hasHorse", "(I)Z"⟩, 8), (⟨"GallopingRing$Ring", "putHorse", "(II)V"⟩, 8), (⟨"GallopingRing$Ring", "addLoad", "(II)V"⟩, 8), (⟨"GallopingRing$Coats", "paintOver", "(II)V"⟩, 2), (⟨"GallopingRing$Ring", "horsesStanding", "()I"⟩, 8), (⟨"GallopingRing$Ring", "hasRider", "(I)Z"⟩, 8), (⟨"GallopingRing$Legs", "areOwn", "(I)Z"⟩, 2), (⟨"GallopingRing$Coats", "clear", "(I)V"⟩, 2), (⟨"GallopingRing$Ring", "takeHorse", "(I)I"⟩, 8), (⟨"GallopingRing$Ring", "mayTurnWith", "(II)Z"⟩, 8), (⟨"GallopingRing$Ring", "shakeWith", "(II)I"⟩, 8), (⟨"GallopingRing$Ring", "isLawful", "(II)Z"⟩, 8), (⟨"GallopingRing$Ring", "putRider", "(II)V"⟩, 8), (⟨"GallopingRing$Ring", "shakeNow", "()I"⟩, 8), (⟨"GallopingRing$Ring", "takeRider", "(I)I"⟩, 8), (⟨"GallopingRing$Ring", "mayTurn", "()Z"⟩, 8)]
theorem lw_r1 : ∀ q ∈ lw_privs_1, lw_okq q := List.forall_mem_cons.mpr ⟨lw_p0, List.forall_mem_cons.mpr ⟨lw_p1, List.forall_mem_cons.mpr ⟨lw_p2, List.forall_mem_cons.mpr ⟨lw_p3, List.forall_mem_cons.mpr ⟨lw_p4, List.forall_mem_cons.mpr ⟨lw_p5, List.forall_mem_cons.mpr ⟨lw_p6, List.forall_mem_cons.mpr ⟨lw_p7, List.forall_mem_cons.mpr ⟨lw_p8, List.forall_mem_cons.mpr ⟨lw_p9, List.forall_mem_cons.mpr ⟨lw_p10, List.forall_mem_cons.mpr ⟨lw_p11, List.forall_mem_cons.mpr ⟨lw_p12, List.forall_mem_cons.mpr ⟨lw_p13, List.forall_mem_cons.mpr ⟨lw_p14, List.forall_mem_cons.mpr ⟨lw_p15, fun _ h => absurd h List.not_mem_nil⟩⟩⟩⟩⟩⟩⟩⟩⟩⟩⟩⟩⟩⟩⟩⟩
theorem lw_p16 : lw_okq (⟨"GallopingRing", "lawOfShaking", "(I)I"⟩, 10) := ⟨⟨by decide +kernel, by decide +kernel⟩, List.mem_of_getElem? (i := 12) (by decide +kernel), List.mem_of_getElem? (i := 314) (by decide +kernel), List.mem_of_getElem? (i := 315) (by decide +kernel)⟩
theorem lw_p17 : lw_okq (⟨"GallopingRing", "lawOfLift", "(I)I"⟩, 10) := ⟨⟨by decide +kernel, by decide +kernel⟩, List.mem_of_getElem? (i := 12) (by decide +kernel), List.mem_of_getElem? (i := 318) (by decide +kernel), List.mem_of_getElem? (i := 319) (by decide +kernel)⟩
theorem lw_p18 : lw_okq (⟨"GallopingRing$Ring", "bestHorse", "(I)I"⟩, 8) := ⟨⟨by decide +kernel, by decide +kernel⟩, List.mem_of_getElem? (i := 20) (by decide +kernel), List.mem_of_getElem? (i := 326) (by decide +kernel), List.mem_of_getElem? (i := 327) (by decide +kernel)⟩
theorem lw_p19 : lw_okq (⟨"GallopingRing$Ring", "isFree", "(I)Z"⟩, 8) := ⟨⟨by decide +kernel, by decide +kernel⟩, List.mem_of_getElem? (i := 20) (by decide +kernel), List.mem_of_getElem? (i := 330) (by decide +kernel), List.mem_of_getElem? (i := 331) (by decide +kernel)⟩
theorem lw_p20 : lw_okq (⟨"GallopingRing$Ring", "freeHorses", "()I"⟩, 8) := ⟨⟨by decide +kernel, by decide +kernel⟩, List.mem_of_getElem? (i := 20) (by decide +kernel), List.mem_of_getElem? (i := 344) (by decide +kernel), List.mem_of_getElem? (i := 345) (by decide +kernel)⟩
theorem lw_p21 : lw_okq (⟨"GallopingRing$Ring", "ridersSitting", "()I"⟩, 8) := ⟨⟨by decide +kernel, by decide +kernel⟩, List.mem_of_getElem? (i := 20) (by decide +kernel), List.mem_of_getElem? (i := 349) (by decide +kernel), List.mem_of_getElem? (i := 350) (by decide +kernel)⟩
theorem lw_p22 : lw_okq (⟨"GallopingRing$Seating", "choose", "(LGallopingRing$Ring;IIII)V"⟩, 5) := ⟨⟨by decide +kernel, by decide +kernel⟩, List.mem_of_getElem? (i := 60) (by decide +kernel), List.mem_of_getElem? (i := 353) (by decide +kernel), List.mem_of_getElem? (i := 354) (by decide +kernel)⟩
theorem lw_p23 : lw_okq (⟨"GallopingRing$Seating", "keepIfLess", "(I)V"⟩, 5) := ⟨⟨by decide +kernel, by decide +kernel⟩, List.mem_of_getElem? (i := 60) (by decide +kernel), List.mem_of_getElem? (i := 361) (by decide +kernel), List.mem_of_getElem? (i := 362) (by decide +kernel)⟩
theorem lw_p24 : lw_okq (⟨"GallopingRing$Seating", "isTaken", "(II)Z"⟩, 5) := ⟨⟨by decide +kernel, by decide +kernel⟩, List.mem_of_getElem? (i := 60) (by decide +kernel), List.mem_of_getElem? (i := 369) (by decide +kernel), List.mem_of_getElem? (i := 370) (by decide +kernel)⟩
theorem lw_p25 : lw_okq (⟨"GallopingRing$Seating", "seatAll", "(LGallopingRing$Ring;)V"⟩, 5) := ⟨⟨by decide +kernel, by decide +kernel⟩, List.mem_of_getElem? (i := 60) (by decide +kernel), List.mem_of_getElem? (i := 375) (by decide +kernel), List.mem_of_getElem? (i := 376) (by decide +kernel)⟩
theorem lw_p26 : lw_okq (⟨"GallopingRing$Coats", "colourAtDepth", "(II)I"⟩, 2) := ⟨⟨by decide +kernel, by decide +kernel⟩, List.mem_of_getElem? (i := 82) (by decide +kernel), List.mem_of_getElem? (i := 392) (by decide +kernel), List.mem_of_getElem? (i := 393) (by decide +kernel)⟩
theorem lw_p27 : lw_okq (⟨"GallopingRing$Coats", "depthOf", "(II)I"⟩, 2) := ⟨⟨by decide +kernel, by decide +kernel⟩, List.mem_of_getElem? (i := 82) (by decide +kernel), List.mem_of_getElem? (i := 401) (by decide +kernel), List.mem_of_getElem? (i := 402) (by decide +kernel)⟩
theorem lw_p28 : lw_okq (⟨"GallopingRing$Coats", "takeOff", "(II)V"⟩, 2) := ⟨⟨by decide +kernel, by decide +kernel⟩, List.mem_of_getElem? (i := 82) (by decide +kernel), List.mem_of_getElem? (i := 406) (by decide +kernel), List.mem_of_getElem? (i := 407) (by decide +kernel)⟩
theorem lw_p29 : lw_okq (⟨"GallopingRing", "isLegOfHorse", "(II)Z"⟩, 10) := ⟨⟨by decide +kernel, by decide +kernel⟩, List.mem_of_getElem? (i := 12) (by decide +kernel), List.mem_of_getElem? (i := 414) (by decide +kernel), List.mem_of_getElem? (i := 415) (by decide +kernel)⟩
theorem lw_p30 : lw_okq (⟨"GallopingRing$Legs", "exchange", "(II)V"⟩, 2) := ⟨⟨by decide +kernel, by decide +kernel⟩, List.mem_of_getElem? (i := 96) (by decide +kernel), List.mem_of_getElem? (i := 422) (by decide +kernel), List.mem_of_getElem? (i := 423) (by decide +kernel)⟩
theorem lw_p31 : lw_okq (⟨"GallopingRing$Legs", "fewestSwaps", "()I"⟩, 2) := ⟨⟨by decide +kernel, by decide +kernel⟩, List.mem_of_getElem? (i := 96) (by decide +kernel), List.mem_of_getElem? (i := 434) (by decide +kernel), List.mem_of_getElem? (i := 435) (by decide +kernel)⟩
def lw_privs_2 : List (MethodName × Nat) := [(⟨"GallopingRing", "lawOfShaking", "(I)I"⟩, 10), (⟨"GallopingRing", "lawOfLift", "(I)I"⟩, 10), (⟨"GallopingRing$Ring", "bestHorse", "(I)I"⟩, 8), (⟨"GallopingRing$Ring", "isFree", "(I)Z"⟩, 8), (⟨"GallopingRing$Ring", "freeHorses", "()I"⟩, 8), (⟨"GallopingRing$Ring", "ridersSitting", "()I"⟩, 8), (⟨"GallopingRing$Seating", "choose", "(LGallopingRing$Ring;IIII)V"⟩, 5), (⟨"GallopingRing$Seating", "keepIfLess", "(I)V"⟩, 5), (⟨"GallopingRing$Seating", "isTaken", "(II)Z"⟩, 5), (⟨"GallopingRing$Seating", "seatAll", "(LGallopingRing$Ring;)V"⟩, 5), (⟨"GallopingRing$Coats", "colourAtDepth", "(II)I"⟩, 2), (⟨"GallopingRing$Coats", "depthOf", "(II)I"⟩, 2), (⟨"GallopingRing$Coats", "takeOff", "(II)V"⟩, 2), (⟨"GallopingRing", "isLegOfHorse", "(II)Z"⟩, 10), (⟨"GallopingRing$Legs", "exchange", "(II)V"⟩, 2), (⟨"GallopingRing$Legs", "fewestSwaps", "()I"⟩, 2)]
theorem lw_r2 : ∀ q ∈ lw_privs_2, lw_okq q := List.forall_mem_cons.mpr ⟨lw_p16, List.forall_mem_cons.mpr ⟨lw_p17, List.forall_mem_cons.mpr ⟨lw_p18, List.forall_mem_cons.mpr ⟨lw_p19, List.forall_mem_cons.mpr ⟨lw_p20, List.forall_mem_cons.mpr ⟨lw_p21, List.forall_mem_cons.mpr ⟨lw_p22, List.forall_mem_cons.mpr ⟨lw_p23, List.forall_mem_cons.mpr ⟨lw_p24, List.forall_mem_cons.mpr ⟨lw_p25, List.forall_mem_cons.mpr ⟨lw_p26, List.forall_mem_cons.mpr ⟨lw_p27, List.forall_mem_cons.mpr ⟨lw_p28, List.forall_mem_cons.mpr ⟨lw_p29, List.forall_mem_cons.mpr ⟨lw_p30, List.forall_mem_cons.mpr ⟨lw_p31, fun _ h => absurd h List.not_mem_nil⟩⟩⟩⟩⟩⟩⟩⟩⟩⟩⟩⟩⟩⟩⟩⟩
theorem lw_p32 : lw_okq (⟨"GallopingRing$Legs", "walkCycle", "(I)I"⟩, 2) := ⟨⟨by decide +kernel, by decide +kernel⟩, List.mem_of_getElem? (i := 96) (by decide +kernel), List.mem_of_getElem? (i := 439) (by decide +kernel), List.mem_of_getElem? (i := 440) (by decide +kernel)⟩
theorem lw_p33 : lw_okq (⟨"GallopingRing$Legs", "whereIs", "(I)I"⟩, 2) := ⟨⟨by decide +kernel, by decide +kernel⟩, List.mem_of_getElem? (i := 96) (by decide +kernel), List.mem_of_getElem? (i := 448) (by decide +kernel), List.mem_of_getElem? (i := 449) (by decide +kernel)⟩
theorem lw_p34 : lw_okq (⟨"GallopingRing$Fairs", "announce", "(III)I"⟩, 8) := ⟨⟨by decide +kernel, by decide +kernel⟩, List.mem_of_getElem? (i := 110) (by decide +kernel), List.mem_of_getElem? (i := 456) (by decide +kernel), List.mem_of_getElem? (i := 457) (by decide +kernel)⟩
theorem lw_p35 : lw_okq (⟨"GallopingRing$Fairs", "isFair", "(I)Z"⟩, 8) := ⟨⟨by decide +kernel, by decide +kernel⟩, List.mem_of_getElem? (i := 110) (by decide +kernel), List.mem_of_getElem? (i := 464) (by decide +kernel), List.mem_of_getElem? (i := 465) (by decide +kernel)⟩
theorem lw_p36 : lw_okq (⟨"GallopingRing$Fairs", "daysBetween", "(II)I"⟩, 8) := ⟨⟨by decide +kernel, by decide +kernel⟩, List.mem_of_getElem? (i := 110) (by decide +kernel), List.mem_of_getElem? (i := 468) (by decide +kernel), List.mem_of_getElem? (i := 469) (by decide +kernel)⟩
theorem lw_p37 : lw_okq (⟨"GallopingRing$Fairs", "layRoad", "(III)V"⟩, 8) := ⟨⟨by decide +kernel, by decide +kernel⟩, List.mem_of_getElem? (i := 110) (by decide +kernel), List.mem_of_getElem? (i := 472) (by decide +kernel), List.mem_of_getElem? (i := 473) (by decide +kernel)⟩
theorem lw_p38 : lw_okq (⟨"GallopingRing$Fairs", "planRounds", "()V"⟩, 8) := ⟨⟨by decide +kernel, by decide +kernel⟩, List.mem_of_getElem? (i := 110) (by decide +kernel), List.mem_of_getElem? (i := 480) (by decide +kernel), List.mem_of_getElem? (i := 481) (by decide +kernel)⟩
theorem lw_p39 : lw_okq (⟨"GallopingRing$Fairs", "planFrom", "(I)V"⟩, 8) := ⟨⟨by decide +kernel, by decide +kernel⟩, List.mem_of_getElem? (i := 110) (by decide +kernel), List.mem_of_getElem? (i := 484) (by decide +kernel), List.mem_of_getElem? (i := 485) (by decide +kernel)⟩
theorem lw_p40 : lw_okq (⟨"GallopingRing$Fairs", "bestBehind", "(I)I"⟩, 8) := ⟨⟨by decide +kernel, by decide +kernel⟩, List.mem_of_getElem? (i := 110) (by decide +kernel), List.mem_of_getElem? (i := 488) (by decide +kernel), List.mem_of_getElem? (i := 489) (by decide +kernel)⟩
theorem lw_p41 : lw_okq (⟨"GallopingRing$Fairs", "mayFollow", "(II)Z"⟩, 8) := ⟨⟨by decide +kernel, by decide +kernel⟩, List.mem_of_getElem? (i := 110) (by decide +kernel), List.mem_of_getElem? (i := 492) (by decide +kernel), List.mem_of_getElem? (i := 493) (by decide +kernel)⟩
theorem lw_p42 : lw_okq (⟨"GallopingRing$Fairs", "isBetter", "(II)Z"⟩, 8) := ⟨⟨by decide +kernel, by decide +kernel⟩, List.mem_of_getElem? (i := 110) (by decide +kernel), List.mem_of_getElem? (i := 498) (by decide +kernel), List.mem_of_getElem? (i := 499) (by decide +kernel)⟩
theorem lw_p43 : lw_okq (⟨"GallopingRing$Fairs", "gainFrom", "(I)I"⟩, 8) := ⟨⟨by decide +kernel, by decide +kernel⟩, List.mem_of_getElem? (i := 110) (by decide +kernel), List.mem_of_getElem? (i := 502) (by decide +kernel), List.mem_of_getElem? (i := 503) (by decide +kernel)⟩
theorem lw_p44 : lw_okq (⟨"GallopingRing$Fairs", "lengthFrom", "(I)I"⟩, 8) := ⟨⟨by decide +kernel, by decide +kernel⟩, List.mem_of_getElem? (i := 110) (by decide +kernel), List.mem_of_getElem? (i := 506) (by decide +kernel), List.mem_of_getElem? (i := 507) (by decide +kernel)⟩
theorem lw_p45 : lw_okq (⟨"GallopingRing$Fairs", "fairOfBestRound", "(I)I"⟩, 8) := ⟨⟨by decide +kernel, by decide +kernel⟩, List.mem_of_getElem? (i := 110) (by decide +kernel), List.mem_of_getElem? (i := 516) (by decide +kernel), List.mem_of_getElem? (i := 517) (by decide +kernel)⟩
theorem lw_p46 : lw_okq (⟨"GallopingRing$Ring", "takeAllRiders", "()V"⟩, 8) := ⟨⟨by decide +kernel, by decide +kernel⟩, List.mem_of_getElem? (i := 20) (by decide +kernel), List.mem_of_getElem? (i := 525) (by decide +kernel), List.mem_of_getElem? (i := 526) (by decide +kernel)⟩
theorem lw_p47 : lw_okq (⟨"GallopingRing$ChildQueue", "join", "(I)V"⟩, 2) := ⟨⟨by decide +kernel, by decide +kernel⟩, List.mem_of_getElem? (i := 142) (by decide +kernel), List.mem_of_getElem? (i := 542) (by decide +kernel), List.mem_of_getElem? (i := 543) (by decide +kernel)⟩
def lw_privs_3 : List (MethodName × Nat) := [(⟨"GallopingRing$Legs", "walkCycle", "(I)I"⟩, 2), (⟨"GallopingRing$Legs", "whereIs", "(I)I"⟩, 2), (⟨"GallopingRing$Fairs", "announce", "(III)I"⟩, 8), (⟨"GallopingRing$Fairs", "isFair", "(I)Z"⟩, 8), (⟨"GallopingRing$Fairs", "daysBetween", "(II)I"⟩, 8), (⟨"GallopingRing$Fairs", "layRoad", "(III)V"⟩, 8), (⟨"GallopingRing$Fairs", "planRounds", "()V"⟩, 8), (⟨"GallopingRing$Fairs", "planFrom", "(I)V"⟩, 8), (⟨"GallopingRing$Fairs", "bestBehind", "(I)I"⟩, 8), (⟨"GallopingRing$Fairs", "mayFollow", "(II)Z"⟩, 8), (⟨"GallopingRing$Fairs", "isBetter", "(II)Z"⟩, 8), (⟨"GallopingRing$Fairs", "gainFrom", "(I)I"⟩, 8), (⟨"GallopingRing$Fairs", "lengthFrom", "(I)I"⟩, 8), (⟨"GallopingRing$Fairs", "fairOfBestRound", "(I)I"⟩, 8), (⟨"GallopingRing$Ring", "takeAllRiders", "()V"⟩, 8), (⟨"GallopingRing$ChildQueue", "join", "(I)V"⟩, 2)]
theorem lw_r3 : ∀ q ∈ lw_privs_3, lw_okq q := List.forall_mem_cons.mpr ⟨lw_p32, List.forall_mem_cons.mpr ⟨lw_p33, List.forall_mem_cons.mpr ⟨lw_p34, List.forall_mem_cons.mpr ⟨lw_p35, List.forall_mem_cons.mpr ⟨lw_p36, List.forall_mem_cons.mpr ⟨lw_p37, List.forall_mem_cons.mpr ⟨lw_p38, List.forall_mem_cons.mpr ⟨lw_p39, List.forall_mem_cons.mpr ⟨lw_p40, List.forall_mem_cons.mpr ⟨lw_p41, List.forall_mem_cons.mpr ⟨lw_p42, List.forall_mem_cons.mpr ⟨lw_p43, List.forall_mem_cons.mpr ⟨lw_p44, List.forall_mem_cons.mpr ⟨lw_p45, List.forall_mem_cons.mpr ⟨lw_p46, List.forall_mem_cons.mpr ⟨lw_p47, fun _ h => absurd h List.not_mem_nil⟩⟩⟩⟩⟩⟩⟩⟩⟩⟩⟩⟩⟩⟩⟩⟩
theorem lw_p48 : lw_okq (⟨"GallopingRing$ChildQueue", "dropFirst", "()V"⟩, 2) := ⟨⟨by decide +kernel, by decide +kernel⟩, List.mem_of_getElem? (i := 142) (by decide +kernel), List.mem_of_getElem? (i := 550) (by decide +kernel), List.mem_of_getElem? (i := 551) (by decide +kernel)⟩
theorem lw_p49 : lw_okq (⟨"GallopingRing", "mixPlace", "(JI)J"⟩, 10) := ⟨⟨by decide +kernel, by decide +kernel⟩, List.mem_of_getElem? (i := 12) (by decide +kernel), List.mem_of_getElem? (i := 569) (by decide +kernel), List.mem_of_getElem? (i := 570) (by decide +kernel)⟩
theorem lw_p50 : lw_okq (⟨"GallopingRing$Coats", "mixCoats", "(JI)J"⟩, 2) := ⟨⟨by decide +kernel, by decide +kernel⟩, List.mem_of_getElem? (i := 82) (by decide +kernel), List.mem_of_getElem? (i := 577) (by decide +kernel), List.mem_of_getElem? (i := 578) (by decide +kernel)⟩
theorem lw_p51 : lw_okq (⟨"GallopingRing$Legs", "mixLegs", "(JI)J"⟩, 2) := ⟨⟨by decide +kernel, by decide +kernel⟩, List.mem_of_getElem? (i := 96) (by decide +kernel), List.mem_of_getElem? (i := 582) (by decide +kernel), List.mem_of_getElem? (i := 583) (by decide +kernel)⟩
theorem lw_p52 : lw_okq (⟨"GallopingRing$Fairs", "mixAll", "(J)J"⟩, 8) := ⟨⟨by decide +kernel, by decide +kernel⟩, List.mem_of_getElem? (i := 110) (by decide +kernel), List.mem_of_getElem? (i := 587) (by decide +kernel), List.mem_of_getElem? (i := 588) (by decide +kernel)⟩
theorem lw_p53 : lw_okq (⟨"GallopingRing$ChildQueue", "mixAll", "(J)J"⟩, 2) := ⟨⟨by decide +kernel, by decide +kernel⟩, List.mem_of_getElem? (i := 142) (by decide +kernel), List.mem_of_getElem? (i := 592) (by decide +kernel), List.mem_of_getElem? (i := 593) (by decide +kernel)⟩
theorem lw_p54 : lw_okq (⟨"GallopingRingModel", "put", "(III)V"⟩, 26) := ⟨⟨by decide +kernel, by decide +kernel⟩, List.mem_of_getElem? (i := 597) (by decide +kernel), List.mem_of_getElem? (i := 603) (by decide +kernel), List.mem_of_getElem? (i := 604) (by decide +kernel)⟩
theorem lw_p55 : lw_okq (⟨"GallopingRingModel", "horses", "()I"⟩, 26) := ⟨⟨by decide +kernel, by decide +kernel⟩, List.mem_of_getElem? (i := 597) (by decide +kernel), List.mem_of_getElem? (i := 700) (by decide +kernel), List.mem_of_getElem? (i := 701) (by decide +kernel)⟩
theorem lw_p56 : lw_okq (⟨"GallopingRingModel", "isHorse", "(I)Z"⟩, 26) := ⟨⟨by decide +kernel, by decide +kernel⟩, List.mem_of_getElem? (i := 597) (by decide +kernel), List.mem_of_getElem? (i := 708) (by decide +kernel), List.mem_of_getElem? (i := 709) (by decide +kernel)⟩
theorem lw_p57 : lw_okq (⟨"GallopingRingModel", "isBlocked", "(II)Z"⟩, 26) := ⟨⟨by decide +kernel, by decide +kernel⟩, List.mem_of_getElem? (i := 597) (by decide +kernel), List.mem_of_getElem? (i := 720) (by decide +kernel), List.mem_of_getElem? (i := 721) (by decide +kernel)⟩
theorem lw_p58 : lw_okq (⟨"GallopingRingModel", "mayTurn", "()Z"⟩, 26) := ⟨⟨by decide +kernel, by decide +kernel⟩, List.mem_of_getElem? (i := 597) (by decide +kernel), List.mem_of_getElem? (i := 724) (by decide +kernel), List.mem_of_getElem? (i := 725) (by decide +kernel)⟩
theorem lw_p59 : lw_okq (⟨"GallopingRingModel", "risingOf", "()I"⟩, 26) := ⟨⟨by decide +kernel, by decide +kernel⟩, List.mem_of_getElem? (i := 597) (by decide +kernel), List.mem_of_getElem? (i := 728) (by decide +kernel), List.mem_of_getElem? (i := 729) (by decide +kernel)⟩
theorem lw_p60 : lw_okq (⟨"GallopingRingModel", "load", "(I)I"⟩, 26) := ⟨⟨by decide +kernel, by decide +kernel⟩, List.mem_of_getElem? (i := 597) (by decide +kernel), List.mem_of_getElem? (i := 732) (by decide +kernel), List.mem_of_getElem? (i := 733) (by decide +kernel)⟩
theorem lw_p61 : lw_okq (⟨"GallopingRingModel", "shakeOf", "()I"⟩, 26) := ⟨⟨by decide +kernel, by decide +kernel⟩, List.mem_of_getElem? (i := 597) (by decide +kernel), List.mem_of_getElem? (i := 736) (by decide +kernel), List.mem_of_getElem? (i := 737) (by decide +kernel)⟩
theorem lw_p62 : lw_okq (⟨"GallopingRingModel", "bestOf", "(I)I"⟩, 26) := ⟨⟨by decide +kernel, by decide +kernel⟩, List.mem_of_getElem? (i := 597) (by decide +kernel), List.mem_of_getElem? (i := 766) (by decide +kernel), List.mem_of_getElem? (i := 767) (by decide +kernel)⟩
theorem lw_p63 : lw_okq (⟨"GallopingRingModel", "isFree", "(I)Z"⟩, 26) := ⟨⟨by decide +kernel, by decide +kernel⟩, List.mem_of_getElem? (i := 597) (by decide +kernel), List.mem_of_getElem? (i := 770) (by decide +kernel), List.mem_of_getElem? (i := 771) (by decide +kernel)⟩
def lw_privs_4 : List (MethodName × Nat) := [(⟨"GallopingRing$ChildQueue", "dropFirst", "()V"⟩, 2), (⟨"GallopingRing", "mixPlace", "(JI)J"⟩, 10), (⟨"GallopingRing$Coats", "mixCoats", "(JI)J"⟩, 2), (⟨"GallopingRing$Legs", "mixLegs", "(JI)J"⟩, 2), (⟨"GallopingRing$Fairs", "mixAll", "(J)J"⟩, 8), (⟨"GallopingRing$ChildQueue", "mixAll", "(J)J"⟩, 2), (⟨"GallopingRingModel", "put", "(III)V"⟩, 26), (⟨"GallopingRingModel", "horses", "()I"⟩, 26), (⟨"GallopingRingModel", "isHorse", "(I)Z"⟩, 26), (⟨"GallopingRingModel", "isBlocked", "(II)Z"⟩, 26), (⟨"GallopingRingModel", "mayTurn", "()Z"⟩, 26), (⟨"GallopingRingModel", "risingOf", "()I"⟩, 26), (⟨"GallopingRingModel", "load", "(I)I"⟩, 26), (⟨"GallopingRingModel", "shakeOf", "()I"⟩, 26), (⟨"GallopingRingModel", "bestOf", "(I)I"⟩, 26), (⟨"GallopingRingModel", "isFree", "(I)Z"⟩, 26)]
theorem lw_r4 : ∀ q ∈ lw_privs_4, lw_okq q := List.forall_mem_cons.mpr ⟨lw_p48, List.forall_mem_cons.mpr ⟨lw_p49, List.forall_mem_cons.mpr ⟨lw_p50, List.forall_mem_cons.mpr ⟨lw_p51, List.forall_mem_cons.mpr ⟨lw_p52, List.forall_mem_cons.mpr ⟨lw_p53, List.forall_mem_cons.mpr ⟨lw_p54, List.forall_mem_cons.mpr ⟨lw_p55, List.forall_mem_cons.mpr ⟨lw_p56, List.forall_mem_cons.mpr ⟨lw_p57, List.forall_mem_cons.mpr ⟨lw_p58, List.forall_mem_cons.mpr ⟨lw_p59, List.forall_mem_cons.mpr ⟨lw_p60, List.forall_mem_cons.mpr ⟨lw_p61, List.forall_mem_cons.mpr ⟨lw_p62, List.forall_mem_cons.mpr ⟨lw_p63, fun _ h => absurd h List.not_mem_nil⟩⟩⟩⟩⟩⟩⟩⟩⟩⟩⟩⟩⟩⟩⟩⟩
theorem lw_p64 : lw_okq (⟨"GallopingRingModel", "seat", "(II)V"⟩, 26) := ⟨⟨by decide +kernel, by decide +kernel⟩, List.mem_of_getElem? (i := 597) (by decide +kernel), List.mem_of_getElem? (i := 779) (by decide +kernel), List.mem_of_getElem? (i := 780) (by decide +kernel)⟩
theorem lw_p65 : lw_okq (⟨"GallopingRingModel", "isLeg", "(II)Z"⟩, 26) := ⟨⟨by decide +kernel, by decide +kernel⟩, List.mem_of_getElem? (i := 597) (by decide +kernel), List.mem_of_getElem? (i := 803) (by decide +kernel), List.mem_of_getElem? (i := 804) (by decide +kernel)⟩
theorem lw_p66 : lw_okq (⟨"GallopingRingModel", "isFair", "(I)Z"⟩, 26) := ⟨⟨by decide +kernel, by decide +kernel⟩, List.mem_of_getElem? (i := 597) (by decide +kernel), List.mem_of_getElem? (i := 829) (by decide +kernel), List.mem_of_getElem? (i := 830) (by decide +kernel)⟩
theorem lw_p67 : lw_okq (⟨"GallopingRingModel", "findRound", "()I"⟩, 26) := ⟨⟨by decide +kernel, by decide +kernel⟩, List.mem_of_getElem? (i := 597) (by decide +kernel), List.mem_of_getElem? (i := 838) (by decide +kernel), List.mem_of_getElem? (i := 839) (by decide +kernel)⟩
theorem lw_p68 : lw_okq (⟨"GallopingRingModel", "lay", "(I)Z"⟩, 26) := ⟨⟨by decide +kernel, by decide +kernel⟩, List.mem_of_getElem? (i := 597) (by decide +kernel), List.mem_of_getElem? (i := 842) (by decide +kernel), List.mem_of_getElem? (i := 843) (by decide +kernel)⟩
theorem lw_p69 : lw_okq (⟨"GallopingRingModel", "isLess", "()Z"⟩, 26) := ⟨⟨by decide +kernel, by decide +kernel⟩, List.mem_of_getElem? (i := 597) (by decide +kernel), List.mem_of_getElem? (i := 846) (by decide +kernel), List.mem_of_getElem? (i := 847) (by decide +kernel)⟩
theorem lw_p70 : lw_okq (⟨"GallopingRingModel", "riders", "()I"⟩, 26) := ⟨⟨by decide +kernel, by decide +kernel⟩, List.mem_of_getElem? (i := 597) (by decide +kernel), List.mem_of_getElem? (i := 858) (by decide +kernel), List.mem_of_getElem? (i := 859) (by decide +kernel)⟩
def lw_privs_5 : List (MethodName × Nat) := [(⟨"GallopingRingModel", "seat", "(II)V"⟩, 26), (⟨"GallopingRingModel", "isLeg", "(II)Z"⟩, 26), (⟨"GallopingRingModel", "isFair", "(I)Z"⟩, 26), (⟨"GallopingRingModel", "findRound", "()I"⟩, 26), (⟨"GallopingRingModel", "lay", "(I)Z"⟩, 26), (⟨"GallopingRingModel", "isLess", "()Z"⟩, 26), (⟨"GallopingRingModel", "riders", "()I"⟩, 26)]
theorem lw_r5 : ∀ q ∈ lw_privs_5, lw_okq q := List.forall_mem_cons.mpr ⟨lw_p64, List.forall_mem_cons.mpr ⟨lw_p65, List.forall_mem_cons.mpr ⟨lw_p66, List.forall_mem_cons.mpr ⟨lw_p67, List.forall_mem_cons.mpr ⟨lw_p68, List.forall_mem_cons.mpr ⟨lw_p69, List.forall_mem_cons.mpr ⟨lw_p70, fun _ h => absurd h List.not_mem_nil⟩⟩⟩⟩⟩⟩⟩
def lw_privs : List (MethodName × Nat) := lw_privs_1 ++ (lw_privs_2 ++ (lw_privs_3 ++ (lw_privs_4 ++ (lw_privs_5))))
def lw_tbl : List Cond := k2_sels lw_privs ++ tables_1
theorem lw_privs_ok : ∀ q ∈ lw_privs, lw_okq q := by
  show ∀ q ∈ lw_privs_1 ++ (lw_privs_2 ++ (lw_privs_3 ++ (lw_privs_4 ++ (lw_privs_5)))), lw_okq q
  exact List.forall_mem_append.mpr ⟨lw_r1, List.forall_mem_append.mpr ⟨lw_r2, List.forall_mem_append.mpr ⟨lw_r3, List.forall_mem_append.mpr ⟨lw_r4, lw_r5⟩⟩⟩⟩
def RX0 : String := "GallopingRing$ChildQueue"
def TX0 : u_T := fun k => match k with
  | 0 => ("GallopingRing$ChildQueue", "weights", "[I", true)
  | _ => ("GallopingRing$ChildQueue", "waiting", "I", false)
def tyX0 : Nat → FieldType := fun k => match k with
  | 0 => .array .int
  | _ => .int
abbrev wsX00 : List Cond := u_ws RX0 TX0 2
theorem nmX0 : ∀ a, a < 2 → ∀ b, b < 2 → a ≠ b → (TX0 a).2.1 ≠ (TX0 b).2.1 := by decide +kernel
theorem tyX0_ok : ∀ k, k < 2 → parseFieldDescriptor (TX0 k).2.2.1 = some (tyX0 k) := by decide +kernel
abbrev cX0_init : ByteArray := prog_2_method_1_code
def yX0_init : MethodName := ⟨RX0, "<init>", "()V"⟩
abbrev cX0_join : ByteArray := prog_2_method_2_code
def yX0_join : MethodName := ⟨RX0, "join", "(I)V"⟩
abbrev cX0_dropFirst : ByteArray := prog_2_method_3_code
def yX0_dropFirst : MethodName := ⟨RX0, "dropFirst", "()V"⟩
abbrev cX0_mixAll : ByteArray := prog_2_method_4_code
def yX0_mixAll : MethodName := ⟨RX0, "mixAll", "(J)J"⟩
def RX1 : String := "GallopingRing$Coats"
def TX1 : u_T := fun k => match k with
  | 0 => ("GallopingRing$Coats", "colours", "[I", true)
  | _ => ("GallopingRing$Coats", "numbers", "[I", true)
def tyX1 : Nat → FieldType := fun k => match k with
  | 0 => .array .int
  | _ => .array .int
abbrev wsX10 : List Cond := u_ws RX1 TX1 2
theorem nmX1 : ∀ a, a < 2 → ∀ b, b < 2 → a ≠ b → (TX1 a).2.1 ≠ (TX1 b).2.1 := by decide +kernel
theorem tyX1_ok : ∀ k, k < 2 → parseFieldDescriptor (TX1 k).2.2.1 = some (tyX1 k) := by decide +kernel
abbrev cX1_init : ByteArray := prog_3_method_1_code
def yX1_init : MethodName := ⟨RX1, "<init>", "()V"⟩
abbrev cX1_paintOver : ByteArray := prog_3_method_2_code
def yX1_paintOver : MethodName := ⟨RX1, "paintOver", "(II)V"⟩
abbrev cX1_clear : ByteArray := prog_3_method_3_code
def yX1_clear : MethodName := ⟨RX1, "clear", "(I)V"⟩
abbrev cX1_takeOff : ByteArray := prog_3_method_4_code
def yX1_takeOff : MethodName := ⟨RX1, "takeOff", "(II)V"⟩
abbrev cX1_colourAtDepth : ByteArray := prog_3_method_5_code
def yX1_colourAtDepth : MethodName := ⟨RX1, "colourAtDepth", "(II)I"⟩
abbrev cX1_depthOf : ByteArray := prog_3_method_6_code
def yX1_depthOf : MethodName := ⟨RX1, "depthOf", "(II)I"⟩
abbrev cX1_mixCoats : ByteArray := prog_3_method_7_code
def yX1_mixCoats : MethodName := ⟨RX1, "mixCoats", "(JI)J"⟩
def RX2 : String := "GallopingRing$Fairs"
def TX2 : u_T := fun k => match k with
  | 0 => ("GallopingRing$Fairs", "begins", "[I", true)
  | 1 => ("GallopingRing$Fairs", "ends", "[I", true)
  | 2 => ("GallopingRing$Fairs", "gains", "[I", true)
  | 3 => ("GallopingRing$Fairs", "days", "[I", true)
  | 4 => ("GallopingRing$Fairs", "number", "I", false)
  | 5 => ("GallopingRing$Fairs", "roundGains", "[I", true)
  | 6 => ("GallopingRing$Fairs", "roundLengths", "[I", true)
  | _ => ("GallopingRing$Fairs", "followers", "[I", true)
def tyX2 : Nat → FieldType := fun k => match k with
  | 0 => .array .int
  | 1 => .array .int
  | 2 => .array .int
  | 3 => .array .int
  | 4 => .int
  | 5 => .array .int
  | 6 => .array .int
  | _ => .array .int
abbrev wsX20 : List Cond := u_ws RX2 TX2 8
theorem nmX2 : ∀ a, a < 8 → ∀ b, b < 8 → a ≠ b → (TX2 a).2.1 ≠ (TX2 b).2.1 := by decide +kernel
theorem tyX2_ok : ∀ k, k < 8 → parseFieldDescriptor (TX2 k).2.2.1 = some (tyX2 k) := by decide +kernel
abbrev cX2_init : ByteArray := prog_4_method_1_code
def yX2_init : MethodName := ⟨RX2, "<init>", "()V"⟩
abbrev cX2_isFair : ByteArray := prog_4_method_2_code
def yX2_isFair : MethodName := ⟨RX2, "isFair", "(I)Z"⟩
abbrev cX2_announce : ByteArray := prog_4_method_3_code
def yX2_announce : MethodName := ⟨RX2, "announce", "(III)I"⟩
abbrev cX2_daysBetween : ByteArray := prog_4_method_4_code
def yX2_daysBetween : MethodName := ⟨RX2, "daysBetween", "(II)I"⟩
abbrev cX2_layRoad : ByteArray := prog_4_method_5_code
def yX2_layRoad : MethodName := ⟨RX2, "layRoad", "(III)V"⟩
abbrev cX2_planRounds : ByteArray := prog_4_method_6_code
def yX2_planRounds : MethodName := ⟨RX2, "planRounds", "()V"⟩
abbrev cX2_planFrom : ByteArray := prog_4_method_7_code
def yX2_planFrom : MethodName := ⟨RX2, "planFrom", "(I)V"⟩
abbrev cX2_bestBehind : ByteArray := prog_4_method_8_code
def yX2_bestBehind : MethodName := ⟨RX2, "bestBehind", "(I)I"⟩
abbrev cX2_mayFollow : ByteArray := prog_4_method_9_code
def yX2_mayFollow : MethodName := ⟨RX2, "mayFollow", "(II)Z"⟩
abbrev cX2_isBetter : ByteArray := prog_4_method_10_code
def yX2_isBetter : MethodName := ⟨RX2, "isBetter", "(II)Z"⟩
abbrev cX2_gainFrom : ByteArray := prog_4_method_11_code
def yX2_gainFrom : MethodName := ⟨RX2, "gainFrom", "(I)I"⟩
abbrev cX2_lengthFrom : ByteArray := prog_4_method_12_code
def yX2_lengthFrom : MethodName := ⟨RX2, "lengthFrom", "(I)I"⟩
abbrev cX2_fairOfBestRound : ByteArray := prog_4_method_13_code
def yX2_fairOfBestRound : MethodName := ⟨RX2, "fairOfBestRound", "(I)I"⟩
abbrev cX2_mixAll : ByteArray := prog_4_method_14_code
def yX2_mixAll : MethodName := ⟨RX2, "mixAll", "(J)J"⟩
def RX3 : String := "GallopingRing$Legs"
def TX3 : u_T := fun k => match k with
  | 0 => ("GallopingRing$Legs", "marks", "[I", true)
  | _ => ("GallopingRing$Legs", "toWalk", "[I", true)
def tyX3 : Nat → FieldType := fun k => match k with
  | 0 => .array .int
  | _ => .array .int
abbrev wsX30 : List Cond := u_ws RX3 TX3 2
theorem nmX3 : ∀ a, a < 2 → ∀ b, b < 2 → a ≠ b → (TX3 a).2.1 ≠ (TX3 b).2.1 := by decide +kernel
theorem tyX3_ok : ∀ k, k < 2 → parseFieldDescriptor (TX3 k).2.2.1 = some (tyX3 k) := by decide +kernel
abbrev cX3_init : ByteArray := prog_5_method_1_code
def yX3_init : MethodName := ⟨RX3, "<init>", "()V"⟩
abbrev cX3_areOwn : ByteArray := prog_5_method_2_code
def yX3_areOwn : MethodName := ⟨RX3, "areOwn", "(I)Z"⟩
abbrev cX3_exchange : ByteArray := prog_5_method_3_code
def yX3_exchange : MethodName := ⟨RX3, "exchange", "(II)V"⟩
abbrev cX3_whereIs : ByteArray := prog_5_method_4_code
def yX3_whereIs : MethodName := ⟨RX3, "whereIs", "(I)I"⟩
abbrev cX3_fewestSwaps : ByteArray := prog_5_method_5_code
def yX3_fewestSwaps : MethodName := ⟨RX3, "fewestSwaps", "()I"⟩
abbrev cX3_walkCycle : ByteArray := prog_5_method_6_code
def yX3_walkCycle : MethodName := ⟨RX3, "walkCycle", "(I)I"⟩
abbrev cX3_mixLegs : ByteArray := prog_5_method_7_code
def yX3_mixLegs : MethodName := ⟨RX3, "mixLegs", "(JI)J"⟩
def RX4 : String := "GallopingRing$Ring"
def TX4 : u_T := fun k => match k with
  | 0 => ("GallopingRing$Ring", "horseWeights", "[I", true)
  | 1 => ("GallopingRing$Ring", "riderWeights", "[I", true)
  | 2 => ("GallopingRing$Ring", "shaking", "I", false)
  | 3 => ("GallopingRing$Ring", "lift", "I", false)
  | 4 => ("GallopingRing$Ring", "across", "I", false)
  | 5 => ("GallopingRing$Ring", "along", "I", false)
  | 6 => ("GallopingRing$Ring", "lifted", "I", false)
  | _ => ("GallopingRing$Ring", "loadInAll", "I", false)
def tyX4 : Nat → FieldType := fun k => match k with
  | 0 => .array .int
  | 1 => .array .int
  | 2 => .int
  | 3 => .int
  | 4 => .int
  | 5 => .int
  | 6 => .int
  | _ => .int
abbrev wsX40 : List Cond := u_ws RX4 TX4 8
theorem nmX4 : ∀ a, a < 8 → ∀ b, b < 8 → a ≠ b → (TX4 a).2.1 ≠ (TX4 b).2.1 := by decide +kernel
theorem tyX4_ok : ∀ k, k < 8 → parseFieldDescriptor (TX4 k).2.2.1 = some (tyX4 k) := by decide +kernel
abbrev cX4_init : ByteArray := prog_6_method_1_code
def yX4_init : MethodName := ⟨RX4, "<init>", "()V"⟩
abbrev cX4_hasHorse : ByteArray := prog_6_method_2_code
def yX4_hasHorse : MethodName := ⟨RX4, "hasHorse", "(I)Z"⟩
abbrev cX4_hasRider : ByteArray := prog_6_method_3_code
def yX4_hasRider : MethodName := ⟨RX4, "hasRider", "(I)Z"⟩
abbrev cX4_isFree : ByteArray := prog_6_method_4_code
def yX4_isFree : MethodName := ⟨RX4, "isFree", "(I)Z"⟩
abbrev cX4_putHorse : ByteArray := prog_6_method_5_code
def yX4_putHorse : MethodName := ⟨RX4, "putHorse", "(II)V"⟩
abbrev cX4_takeHorse : ByteArray := prog_6_method_6_code
def yX4_takeHorse : MethodName := ⟨RX4, "takeHorse", "(I)I"⟩
abbrev cX4_putRider : ByteArray := prog_6_method_7_code
def yX4_putRider : MethodName := ⟨RX4, "putRider", "(II)V"⟩
abbrev cX4_takeRider : ByteArray := prog_6_method_8_code
def yX4_takeRider : MethodName := ⟨RX4, "takeRider", "(I)I"⟩
abbrev cX4_takeAllRiders : ByteArray := prog_6_method_9_code
def yX4_takeAllRiders : MethodName := ⟨RX4, "takeAllRiders", "()V"⟩
abbrev cX4_addLoad : ByteArray := prog_6_method_10_code
def yX4_addLoad : MethodName := ⟨RX4, "addLoad", "(II)V"⟩
abbrev cX4_liftOf : ByteArray := prog_6_method_11_code
def yX4_liftOf : MethodName := ⟨RX4, "liftOf", "(II)I"⟩
abbrev cX4_shakeNow : ByteArray := prog_6_method_12_code
def yX4_shakeNow : MethodName := ⟨RX4, "shakeNow", "()I"⟩
abbrev cX4_shakeWith : ByteArray := prog_6_method_13_code
def yX4_shakeWith : MethodName := ⟨RX4, "shakeWith", "(II)I"⟩
abbrev cX4_mayTurn : ByteArray := prog_6_method_14_code
def yX4_mayTurn : MethodName := ⟨RX4, "mayTurn", "()Z"⟩
abbrev cX4_mayTurnWith : ByteArray := prog_6_method_15_code
def yX4_mayTurnWith : MethodName := ⟨RX4, "mayTurnWith", "(II)Z"⟩
abbrev cX4_isLawful : ByteArray := prog_6_method_16_code
def yX4_isLawful : MethodName := ⟨RX4, "isLawful", "(II)Z"⟩
abbrev cX4_bestHorse : ByteArray := prog_6_method_17_code
def yX4_bestHorse : MethodName := ⟨RX4, "bestHorse", "(I)I"⟩
abbrev cX4_horsesStanding : ByteArray := prog_6_method_18_code
def yX4_horsesStanding : MethodName := ⟨RX4, "horsesStanding", "()I"⟩
abbrev cX4_ridersSitting : ByteArray := prog_6_method_19_code
def yX4_ridersSitting : MethodName := ⟨RX4, "ridersSitting", "()I"⟩
abbrev cX4_freeHorses : ByteArray := prog_6_method_20_code
def yX4_freeHorses : MethodName := ⟨RX4, "freeHorses", "()I"⟩
abbrev cX4_numberAboveZero : ByteArray := prog_6_method_21_code
def yX4_numberAboveZero : MethodName := ⟨RX4, "numberAboveZero", "([I)I"⟩
def RX5 : String := "GallopingRing$Seating"
def TX5 : u_T := fun k => match k with
  | 0 => ("GallopingRing$Seating", "weights", "[I", true)
  | 1 => ("GallopingRing$Seating", "tried", "[I", true)
  | 2 => ("GallopingRing$Seating", "chosen", "[I", true)
  | 3 => ("GallopingRing$Seating", "size", "I", false)
  | _ => ("GallopingRing$Seating", "leastShake", "I", false)
def tyX5 : Nat → FieldType := fun k => match k with
  | 0 => .array .int
  | 1 => .array .int
  | 2 => .array .int
  | 3 => .int
  | _ => .int
abbrev wsX50 : List Cond := u_ws RX5 TX5 5
theorem nmX5 : ∀ a, a < 5 → ∀ b, b < 5 → a ≠ b → (TX5 a).2.1 ≠ (TX5 b).2.1 := by decide +kernel
theorem tyX5_ok : ∀ k, k < 5 → parseFieldDescriptor (TX5 k).2.2.1 = some (tyX5 k) := by decide +kernel
abbrev cX5_init : ByteArray := prog_7_method_1_code
def yX5_init : MethodName := ⟨RX5, "<init>", "()V"⟩
abbrev cX5_choose : ByteArray := prog_7_method_2_code
def yX5_choose : MethodName := ⟨RX5, "choose", "(LGallopingRing$Ring;IIII)V"⟩
abbrev cX5_tryRiders : ByteArray := prog_7_method_3_code
def yX5_tryRiders : MethodName := ⟨RX5, "tryRiders", "(LGallopingRing$Seating;LGallopingRing$Ring;III)V"⟩
abbrev cX5_isTaken : ByteArray := prog_7_method_4_code
def yX5_isTaken : MethodName := ⟨RX5, "isTaken", "(II)Z"⟩
abbrev cX5_keepIfLess : ByteArray := prog_7_method_5_code
def yX5_keepIfLess : MethodName := ⟨RX5, "keepIfLess", "(I)V"⟩
abbrev cX5_seatAll : ByteArray := prog_7_method_6_code
def yX5_seatAll : MethodName := ⟨RX5, "seatAll", "(LGallopingRing$Ring;)V"⟩
def RX6 : String := "GallopingRing"
def TX6 : u_T := fun k => match k with
  | 0 => ("GallopingRing", "ring", "LGallopingRing$Ring;", true)
  | 1 => ("GallopingRing", "seating", "LGallopingRing$Seating;", true)
  | 2 => ("GallopingRing", "coats", "LGallopingRing$Coats;", true)
  | 3 => ("GallopingRing", "legs", "LGallopingRing$Legs;", true)
  | 4 => ("GallopingRing", "fairs", "LGallopingRing$Fairs;", true)
  | 5 => ("GallopingRing", "queue", "LGallopingRing$ChildQueue;", true)
  | 6 => ("GallopingRing", "groupsDone", "I", false)
  | 7 => ("GallopingRing", "hoursAllowed", "I", false)
  | 8 => ("GallopingRing", "tenthsRun", "I", false)
  | _ => ("GallopingRing", "tokensTaken", "I", false)
def tyX6 : Nat → FieldType := fun k => match k with
  | 0 => .object "GallopingRing$Ring"
  | 1 => .object "GallopingRing$Seating"
  | 2 => .object "GallopingRing$Coats"
  | 3 => .object "GallopingRing$Legs"
  | 4 => .object "GallopingRing$Fairs"
  | 5 => .object "GallopingRing$ChildQueue"
  | 6 => .int
  | 7 => .int
  | 8 => .int
  | _ => .int
abbrev wsX60 : List Cond := u_ws RX6 TX6 10
theorem nmX6 : ∀ a, a < 10 → ∀ b, b < 10 → a ≠ b → (TX6 a).2.1 ≠ (TX6 b).2.1 := by decide +kernel
theorem tyX6_ok : ∀ k, k < 10 → parseFieldDescriptor (TX6 k).2.2.1 = some (tyX6 k) := by decide +kernel
abbrev cX6_init : ByteArray := prog_1_method_1_code
def yX6_init : MethodName := ⟨RX6, "<init>", "()V"⟩
abbrev cX6_horse : ByteArray := prog_1_method_2_code
def yX6_horse : MethodName := ⟨RX6, "horse", "(III)I"⟩
abbrev cX6_leave : ByteArray := prog_1_method_3_code
def yX6_leave : MethodName := ⟨RX6, "leave", "(I)I"⟩
abbrev cX6_sit : ByteArray := prog_1_method_4_code
def yX6_sit : MethodName := ⟨RX6, "sit", "(II)I"⟩
abbrev cX6_rise : ByteArray := prog_1_method_5_code
def yX6_rise : MethodName := ⟨RX6, "rise", "(I)I"⟩
abbrev cX6_shake : ByteArray := prog_1_method_6_code
def yX6_shake : MethodName := ⟨RX6, "shake", "()I"⟩
abbrev cX6_rising : ByteArray := prog_1_method_7_code
def yX6_rising : MethodName := ⟨RX6, "rising", "()I"⟩
abbrev cX6_may : ByteArray := prog_1_method_8_code
def yX6_may : MethodName := ⟨RX6, "may", "()I"⟩
abbrev cX6_law : ByteArray := prog_1_method_9_code
def yX6_law : MethodName := ⟨RX6, "law", "(II)I"⟩
abbrev cX6_best : ByteArray := prog_1_method_10_code
def yX6_best : MethodName := ⟨RX6, "best", "(I)I"⟩
abbrev cX6_group : ByteArray := prog_1_method_11_code
def yX6_group : MethodName := ⟨RX6, "group", "(IIII)I"⟩
abbrev cX6_rider : ByteArray := prog_1_method_12_code
def yX6_rider : MethodName := ⟨RX6, "rider", "(I)I"⟩
abbrev cX6_coat : ByteArray := prog_1_method_13_code
def yX6_coat : MethodName := ⟨RX6, "coat", "(II)I"⟩
abbrev cX6_sample : ByteArray := prog_1_method_14_code
def yX6_sample : MethodName := ⟨RX6, "sample", "(II)I"⟩
abbrev cX6_strip : ByteArray := prog_1_method_15_code
def yX6_strip : MethodName := ⟨RX6, "strip", "(II)I"⟩
abbrev cX6_swap : ByteArray := prog_1_method_16_code
def yX6_swap : MethodName := ⟨RX6, "swap", "(IIII)I"⟩
abbrev cX6_mark : ByteArray := prog_1_method_17_code
def yX6_mark : MethodName := ⟨RX6, "mark", "(II)I"⟩
abbrev cX6_swaps : ByteArray := prog_1_method_18_code
def yX6_swaps : MethodName := ⟨RX6, "swaps", "()I"⟩
abbrev cX6_find : ByteArray := prog_1_method_19_code
def yX6_find : MethodName := ⟨RX6, "find", "(II)I"⟩
abbrev cX6_fair : ByteArray := prog_1_method_20_code
def yX6_fair : MethodName := ⟨RX6, "fair", "(III)I"⟩
abbrev cX6_road : ByteArray := prog_1_method_21_code
def yX6_road : MethodName := ⟨RX6, "road", "(III)I"⟩
abbrev cX6_earns : ByteArray := prog_1_method_22_code
def yX6_earns : MethodName := ⟨RX6, "earns", "()I"⟩
abbrev cX6_round : ByteArray := prog_1_method_23_code
def yX6_round : MethodName := ⟨RX6, "round", "(I)I"⟩
abbrev cX6_turn : ByteArray := prog_1_method_24_code
def yX6_turn : MethodName := ⟨RX6, "turn", "()I"⟩
abbrev cX6_look : ByteArray := prog_1_method_25_code
def yX6_look : MethodName := ⟨RX6, "look", "()I"⟩
abbrev cX6_hours : ByteArray := prog_1_method_26_code
def yX6_hours : MethodName := ⟨RX6, "hours", "(I)I"⟩
abbrev cX6_come : ByteArray := prog_1_method_27_code
def yX6_come : MethodName := ⟨RX6, "come", "(I)I"⟩
abbrev cX6_next : ByteArray := prog_1_method_28_code
def yX6_next : MethodName := ⟨RX6, "next", "()I"⟩
abbrev cX6_book : ByteArray := prog_1_method_29_code
def yX6_book : MethodName := ⟨RX6, "book", "(I)I"⟩
abbrev cX6_count : ByteArray := prog_1_method_30_code
def yX6_count : MethodName := ⟨RX6, "count", "(I)I"⟩
abbrev cX6_digest : ByteArray := prog_1_method_31_code
def yX6_digest : MethodName := ⟨RX6, "digest", "()J"⟩
abbrev cX6_lawOfShaking : ByteArray := prog_1_method_32_code
def yX6_lawOfShaking : MethodName := ⟨RX6, "lawOfShaking", "(I)I"⟩
abbrev cX6_lawOfLift : ByteArray := prog_1_method_33_code
def yX6_lawOfLift : MethodName := ⟨RX6, "lawOfLift", "(I)I"⟩
abbrev cX6_isLegOfHorse : ByteArray := prog_1_method_34_code
def yX6_isLegOfHorse : MethodName := ⟨RX6, "isLegOfHorse", "(II)Z"⟩
abbrev cX6_mixPlace : ByteArray := prog_1_method_35_code
def yX6_mixPlace : MethodName := ⟨RX6, "mixPlace", "(JI)J"⟩
abbrev cX6_mix : ByteArray := prog_1_method_36_code
def yX6_mix : MethodName := ⟨RX6, "mix", "(JI)J"⟩
abbrev cX6_isWithin : ByteArray := prog_1_method_37_code
def yX6_isWithin : MethodName := ⟨RX6, "isWithin", "(III)Z"⟩
abbrev cX6_isPlace : ByteArray := prog_1_method_38_code
def yX6_isPlace : MethodName := ⟨RX6, "isPlace", "(I)Z"⟩
abbrev cX6_isLeg : ByteArray := prog_1_method_39_code
def yX6_isLeg : MethodName := ⟨RX6, "isLeg", "(I)Z"⟩
abbrev cX6_legNumber : ByteArray := prog_1_method_40_code
def yX6_legNumber : MethodName := ⟨RX6, "legNumber", "(II)I"⟩
abbrev cX6_isRiderWeight : ByteArray := prog_1_method_41_code
def yX6_isRiderWeight : MethodName := ⟨RX6, "isRiderWeight", "(I)Z"⟩
abbrev cX6_isGroup : ByteArray := prog_1_method_42_code
def yX6_isGroup : MethodName := ⟨RX6, "isGroup", "(IIII)Z"⟩
abbrev cX6_shakeOf : ByteArray := prog_1_method_43_code
def yX6_shakeOf : MethodName := ⟨RX6, "shakeOf", "(II)I"⟩
def RX7 : String := "GallopingRingModel"
def TX7 : u_T := fun k => match k with
  | 0 => ("GallopingRingModel", "px", "[I", true)
  | 1 => ("GallopingRingModel", "py", "[I", true)
  | 2 => ("GallopingRingModel", "horse", "[I", true)
  | 3 => ("GallopingRingModel", "rider", "[I", true)
  | 4 => ("GallopingRingModel", "coats", "[I", true)
  | 5 => ("GallopingRingModel", "coat", "[I", true)
  | 6 => ("GallopingRingModel", "marks", "[I", true)
  | 7 => ("GallopingRingModel", "shaking", "I", false)
  | 8 => ("GallopingRingModel", "lift", "I", false)
  | 9 => ("GallopingRingModel", "groups", "I", false)
  | 10 => ("GallopingRingModel", "seats", "[I", true)
  | 11 => ("GallopingRingModel", "seen", "[Z", true)
  | 12 => ("GallopingRingModel", "fairs", "I", false)
  | 13 => ("GallopingRingModel", "begins", "[I", true)
  | 14 => ("GallopingRingModel", "ends", "[I", true)
  | 15 => ("GallopingRingModel", "earns", "[I", true)
  | 16 => ("GallopingRingModel", "roads", "[I", true)
  | 17 => ("GallopingRingModel", "way", "[I", true)
  | 18 => ("GallopingRingModel", "wayMany", "I", false)
  | 19 => ("GallopingRingModel", "bestWay", "[I", true)
  | 20 => ("GallopingRingModel", "bestMany", "I", false)
  | 21 => ("GallopingRingModel", "hours", "I", false)
  | 22 => ("GallopingRingModel", "tenths", "I", false)
  | 23 => ("GallopingRingModel", "tokens", "I", false)
  | 24 => ("GallopingRingModel", "waits", "I", false)
  | _ => ("GallopingRingModel", "queue", "[I", true)
def tyX7 : Nat → FieldType := fun k => match k with
  | 0 => .array .int
  | 1 => .array .int
  | 2 => .array .int
  | 3 => .array .int
  | 4 => .array .int
  | 5 => .array .int
  | 6 => .array .int
  | 7 => .int
  | 8 => .int
  | 9 => .int
  | 10 => .array .int
  | 11 => .array .boolean
  | 12 => .int
  | 13 => .array .int
  | 14 => .array .int
  | 15 => .array .int
  | 16 => .array .int
  | 17 => .array .int
  | 18 => .int
  | 19 => .array .int
  | 20 => .int
  | 21 => .int
  | 22 => .int
  | 23 => .int
  | 24 => .int
  | _ => .array .int
abbrev wsX70 : List Cond := u_ws RX7 TX7 26
theorem nmX7 : ∀ a, a < 26 → ∀ b, b < 26 → a ≠ b → (TX7 a).2.1 ≠ (TX7 b).2.1 := by decide +kernel
theorem tyX7_ok : ∀ k, k < 26 → parseFieldDescriptor (TX7 k).2.2.1 = some (tyX7 k) := by decide +kernel
abbrev cX7_init : ByteArray := prog_9_method_1_code
def yX7_init : MethodName := ⟨RX7, "<init>", "()V"⟩
abbrev cX7_in : ByteArray := prog_9_method_2_code
def yX7_in : MethodName := ⟨RX7, "in", "(JJJ)Z"⟩
abbrev cX7_put : ByteArray := prog_9_method_3_code
def yX7_put : MethodName := ⟨RX7, "put", "(III)V"⟩
abbrev cX7_isPlace : ByteArray := prog_9_method_4_code
def yX7_isPlace : MethodName := ⟨RX7, "isPlace", "(I)Z"⟩
abbrev cX7_isHorse : ByteArray := prog_9_method_5_code
def yX7_isHorse : MethodName := ⟨RX7, "isHorse", "(I)Z"⟩
abbrev cX7_horses : ByteArray := prog_9_method_6_code
def yX7_horses : MethodName := ⟨RX7, "horses", "()I"⟩
abbrev cX7_horse : ByteArray := prog_9_method_7_code
def yX7_horse : MethodName := ⟨RX7, "horse", "(III)I"⟩
abbrev cX7_leave : ByteArray := prog_9_method_8_code
def yX7_leave : MethodName := ⟨RX7, "leave", "(I)I"⟩
abbrev cX7_load : ByteArray := prog_9_method_9_code
def yX7_load : MethodName := ⟨RX7, "load", "(I)I"⟩
abbrev cX7_shakeOf : ByteArray := prog_9_method_10_code
def yX7_shakeOf : MethodName := ⟨RX7, "shakeOf", "()I"⟩
abbrev cX7_risingOf : ByteArray := prog_9_method_11_code
def yX7_risingOf : MethodName := ⟨RX7, "risingOf", "()I"⟩
abbrev cX7_mayTurn : ByteArray := prog_9_method_12_code
def yX7_mayTurn : MethodName := ⟨RX7, "mayTurn", "()Z"⟩
abbrev cX7_isBlocked : ByteArray := prog_9_method_13_code
def yX7_isBlocked : MethodName := ⟨RX7, "isBlocked", "(II)Z"⟩
abbrev cX7_isRider : ByteArray := prog_9_method_14_code
def yX7_isRider : MethodName := ⟨RX7, "isRider", "(I)Z"⟩
abbrev cX7_sit : ByteArray := prog_9_method_15_code
def yX7_sit : MethodName := ⟨RX7, "sit", "(II)I"⟩
abbrev cX7_rise : ByteArray := prog_9_method_16_code
def yX7_rise : MethodName := ⟨RX7, "rise", "(I)I"⟩
abbrev cX7_shake : ByteArray := prog_9_method_17_code
def yX7_shake : MethodName := ⟨RX7, "shake", "()I"⟩
abbrev cX7_rising : ByteArray := prog_9_method_18_code
def yX7_rising : MethodName := ⟨RX7, "rising", "()I"⟩
abbrev cX7_may : ByteArray := prog_9_method_19_code
def yX7_may : MethodName := ⟨RX7, "may", "()I"⟩
abbrev cX7_law : ByteArray := prog_9_method_20_code
def yX7_law : MethodName := ⟨RX7, "law", "(II)I"⟩
abbrev cX7_isFree : ByteArray := prog_9_method_21_code
def yX7_isFree : MethodName := ⟨RX7, "isFree", "(I)Z"⟩
abbrev cX7_bestOf : ByteArray := prog_9_method_22_code
def yX7_bestOf : MethodName := ⟨RX7, "bestOf", "(I)I"⟩
abbrev cX7_best : ByteArray := prog_9_method_23_code
def yX7_best : MethodName := ⟨RX7, "best", "(I)I"⟩
abbrev cX7_group : ByteArray := prog_9_method_24_code
def yX7_group : MethodName := ⟨RX7, "group", "(IIII)I"⟩
abbrev cX7_seat : ByteArray := prog_9_method_25_code
def yX7_seat : MethodName := ⟨RX7, "seat", "(II)V"⟩
abbrev cX7_rider : ByteArray := prog_9_method_26_code
def yX7_rider : MethodName := ⟨RX7, "rider", "(I)I"⟩
abbrev cX7_coat : ByteArray := prog_9_method_27_code
def yX7_coat : MethodName := ⟨RX7, "coat", "(II)I"⟩
abbrev cX7_sample : ByteArray := prog_9_method_28_code
def yX7_sample : MethodName := ⟨RX7, "sample", "(II)I"⟩
abbrev cX7_strip : ByteArray := prog_9_method_29_code
def yX7_strip : MethodName := ⟨RX7, "strip", "(II)I"⟩
abbrev cX7_isLeg : ByteArray := prog_9_method_30_code
def yX7_isLeg : MethodName := ⟨RX7, "isLeg", "(II)Z"⟩
abbrev cX7_swap : ByteArray := prog_9_method_31_code
def yX7_swap : MethodName := ⟨RX7, "swap", "(IIII)I"⟩
abbrev cX7_mark : ByteArray := prog_9_method_32_code
def yX7_mark : MethodName := ⟨RX7, "mark", "(II)I"⟩
abbrev cX7_swaps : ByteArray := prog_9_method_33_code
def yX7_swaps : MethodName := ⟨RX7, "swaps", "()I"⟩
abbrev cX7_find : ByteArray := prog_9_method_34_code
def yX7_find : MethodName := ⟨RX7, "find", "(II)I"⟩
abbrev cX7_fair : ByteArray := prog_9_method_35_code
def yX7_fair : MethodName := ⟨RX7, "fair", "(III)I"⟩
abbrev cX7_isFair : ByteArray := prog_9_method_36_code
def yX7_isFair : MethodName := ⟨RX7, "isFair", "(I)Z"⟩
abbrev cX7_road : ByteArray := prog_9_method_37_code
def yX7_road : MethodName := ⟨RX7, "road", "(III)I"⟩
abbrev cX7_lay : ByteArray := prog_9_method_38_code
def yX7_lay : MethodName := ⟨RX7, "lay", "(I)Z"⟩
abbrev cX7_isLess : ByteArray := prog_9_method_39_code
def yX7_isLess : MethodName := ⟨RX7, "isLess", "()Z"⟩
abbrev cX7_findRound : ByteArray := prog_9_method_40_code
def yX7_findRound : MethodName := ⟨RX7, "findRound", "()I"⟩
abbrev cX7_earns : ByteArray := prog_9_method_41_code
def yX7_earns : MethodName := ⟨RX7, "earns", "()I"⟩
abbrev cX7_round : ByteArray := prog_9_method_42_code
def yX7_round : MethodName := ⟨RX7, "round", "(I)I"⟩
abbrev cX7_riders : ByteArray := prog_9_method_43_code
def yX7_riders : MethodName := ⟨RX7, "riders", "()I"⟩
abbrev cX7_turn : ByteArray := prog_9_method_44_code
def yX7_turn : MethodName := ⟨RX7, "turn", "()I"⟩
abbrev cX7_look : ByteArray := prog_9_method_45_code
def yX7_look : MethodName := ⟨RX7, "look", "()I"⟩
abbrev cX7_hours : ByteArray := prog_9_method_46_code
def yX7_hours : MethodName := ⟨RX7, "hours", "(I)I"⟩
abbrev cX7_come : ByteArray := prog_9_method_47_code
def yX7_come : MethodName := ⟨RX7, "come", "(I)I"⟩
abbrev cX7_next : ByteArray := prog_9_method_48_code
def yX7_next : MethodName := ⟨RX7, "next", "()I"⟩
abbrev cX7_book : ByteArray := prog_9_method_49_code
def yX7_book : MethodName := ⟨RX7, "book", "(I)I"⟩
abbrev cX7_count : ByteArray := prog_9_method_50_code
def yX7_count : MethodName := ⟨RX7, "count", "(I)I"⟩
abbrev cX7_digest : ByteArray := prog_9_method_51_code
def yX7_digest : MethodName := ⟨RX7, "digest", "()J"⟩
def RL : String := "GallopingRingLaw"
abbrev cL_law : ByteArray := code
def yL_law : MethodName := ⟨RL, "law", "([I)Z"⟩
theorem inX0 : ∀ w ∈ wsX00, w ∈ lw_tbl := by decide +kernel
theorem inX1 : ∀ w ∈ wsX10, w ∈ lw_tbl := by decide +kernel
theorem inX2 : ∀ w ∈ wsX20, w ∈ lw_tbl := by decide +kernel
theorem inX3 : ∀ w ∈ wsX30, w ∈ lw_tbl := by decide +kernel
theorem inX4 : ∀ w ∈ wsX40, w ∈ lw_tbl := by decide +kernel
theorem inX5 : ∀ w ∈ wsX50, w ∈ lw_tbl := by decide +kernel
theorem inX6 : ∀ w ∈ wsX60, w ∈ lw_tbl := by decide +kernel
theorem inX7 : ∀ w ∈ wsX70, w ∈ lw_tbl := by decide +kernel
abbrev vwCl : List vw_C := [(RX0, TX0, 2), (RX1, TX1, 2), (RX2, TX2, 8), (RX3, TX3, 2), (RX4, TX4, 8), (RX5, TX5, 5), (RX6, TX6, 10), (RX7, TX7, 26)]
end
section
theorem dX0_init_0 : decode cX0_init 0 = .ok (.aload_n 0, 1) := by decide +kernel
theorem dX0_init_1 : decode cX0_init 1 = .ok (.invokespecial 3, 3) := by decide +kernel
theorem dX0_init_4 : decode cX0_init 4 = .ok (.aload_n 0, 1) := by decide +kernel
theorem dX0_init_5 : decode cX0_init 5 = .ok (.bipush 100, 2) := by decide +kernel
theorem dX0_init_7 : decode cX0_init 7 = .ok (.newarray .int, 2) := by decide +kernel
theorem dX0_init_9 : decode cX0_init 9 = .ok (.putfield 9, 3) := by decide +kernel
theorem dX0_init_12 : decode cX0_init 12 = .ok (.aload_n 0, 1) := by decide +kernel
theorem dX0_init_13 : decode cX0_init 13 = .ok (.iconst 0, 1) := by decide +kernel
theorem dX0_init_14 : decode cX0_init 14 = .ok (.putfield 15, 3) := by decide +kernel
theorem dX0_init_17 : decode cX0_init 17 = .ok (.return_, 1) := by decide +kernel
theorem dX0_join_0 : decode cX0_join 0 = .ok (.aload_n 0, 1) := by decide +kernel
theorem dX0_join_1 : decode cX0_join 1 = .ok (.getfield 9, 3) := by decide +kernel
theorem dX0_join_4 : decode cX0_join 4 = .ok (.aload_n 0, 1) := by decide +kernel
theorem dX0_join_5 : decode cX0_join 5 = .ok (.getfield 15, 3) := by decide +kernel
theorem dX0_join_8 : decode cX0_join 8 = .ok (.iload_n 1, 1) := by decide +kernel
theorem dX0_join_9 : decode cX0_join 9 = .ok (.iastore, 1) := by decide +kernel
theorem dX0_join_10 : decode cX0_join 10 = .ok (.aload_n 0, 1) := by decide +kernel
theorem dX0_join_11 : decode cX0_join 11 = .ok (.dup, 1) := by decide +kernel
theorem dX0_join_12 : decode cX0_join 12 = .ok (.getfield 15, 3) := by decide +kernel
theorem dX0_join_15 : decode cX0_join 15 = .ok (.iconst 1, 1) := by decide +kernel
theorem dX0_join_16 : decode cX0_join 16 = .ok (.iadd, 1) := by decide +kernel
theorem dX0_join_17 : decode cX0_join 17 = .ok (.putfield 15, 3) := by decide +kernel
theorem dX0_join_20 : decode cX0_join 20 = .ok (.return_, 1) := by decide +kernel
theorem dX0_dropFirst_0 : decode cX0_dropFirst 0 = .ok (.aload_n 0, 1) := by decide +kernel
theorem dX0_dropFirst_1 : decode cX0_dropFirst 1 = .ok (.dup, 1) := by decide +kernel
theorem dX0_dropFirst_2 : decode cX0_dropFirst 2 = .ok (.getfield 15, 3) := by decide +kernel
theorem dX0_dropFirst_5 : decode cX0_dropFirst 5 = .ok (.iconst 1, 1) := by decide +kernel
theorem dX0_dropFirst_6 : decode cX0_dropFirst 6 = .ok (.isub, 1) := by decide +kernel
theorem dX0_dropFirst_7 : decode cX0_dropFirst 7 = .ok (.putfield 15, 3) := by decide +kernel
theorem dX0_dropFirst_10 : decode cX0_dropFirst 10 = .ok (.aload_n 0, 1) := by decide +kernel
theorem dX0_dropFirst_11 : decode cX0_dropFirst 11 = .ok (.getfield 9, 3) := by decide +kernel
theorem dX0_dropFirst_14 : decode cX0_dropFirst 14 = .ok (.iconst 1, 1) := by decide +kernel
theorem dX0_dropFirst_15 : decode cX0_dropFirst 15 = .ok (.aload_n 0, 1) := by decide +kernel
theorem dX0_dropFirst_16 : decode cX0_dropFirst 16 = .ok (.getfield 9, 3) := by decide +kernel
theorem dX0_dropFirst_19 : decode cX0_dropFirst 19 = .ok (.iconst 0, 1) := by decide +kernel
theorem dX0_dropFirst_20 : decode cX0_dropFirst 20 = .ok (.aload_n 0, 1) := by decide +kernel
theorem dX0_dropFirst_21 : decode cX0_dropFirst 21 = .ok (.getfield 15, 3) := by decide +kernel
theorem dX0_dropFirst_24 : decode cX0_dropFirst 24 = .ok (.invokestatic 19, 3) := by decide +kernel
theorem dX0_dropFirst_27 : decode cX0_dropFirst 27 = .ok (.return_, 1) := by decide +kernel
theorem dX0_mixAll_0 : decode cX0_mixAll 0 = .ok (.lload_n 1, 1) := by decide +kernel
theorem dX0_mixAll_1 : decode cX0_mixAll 1 = .ok (.lstore_n 3, 1) := by decide +kernel
theorem dX0_mixAll_2 : decode cX0_mixAll 2 = .ok (.iconst 0, 1) := by decide +kernel
theorem dX0_mixAll_3 : decode cX0_mixAll 3 = .ok (.istore 5, 2) := by decide +kernel
theorem dX0_mixAll_5 : decode cX0_mixAll 5 = .ok (.iload 5, 2) := by decide +kernel
theorem dX0_mixAll_7 : decode cX0_mixAll 7 = .ok (.aload_n 0, 1) := by decide +kernel
theorem dX0_mixAll_8 : decode cX0_mixAll 8 = .ok (.getfield 15, 3) := by decide +kernel
theorem dX0_mixAll_11 : decode cX0_mixAll 11 = .ok (.if_icmp .ge 21, 3) := by decide +kernel
theorem dX0_mixAll_14 : decode cX0_mixAll 14 = .ok (.lload_n 3, 1) := by decide +kernel
theorem dX0_mixAll_15 : decode cX0_mixAll 15 = .ok (.aload_n 0, 1) := by decide +kernel
theorem dX0_mixAll_16 : decode cX0_mixAll 16 = .ok (.getfield 9, 3) := by decide +kernel
theorem dX0_mixAll_19 : decode cX0_mixAll 19 = .ok (.iload 5, 2) := by decide +kernel
theorem dX0_mixAll_21 : decode cX0_mixAll 21 = .ok (.iaload, 1) := by decide +kernel
theorem dX0_mixAll_22 : decode cX0_mixAll 22 = .ok (.invokestatic 25, 3) := by decide +kernel
theorem dX0_mixAll_25 : decode cX0_mixAll 25 = .ok (.lstore_n 3, 1) := by decide +kernel
theorem dX0_mixAll_26 : decode cX0_mixAll 26 = .ok (.iinc 5 1, 3) := by decide +kernel
theorem dX0_mixAll_29 : decode cX0_mixAll 29 = .ok (.goto (-24), 3) := by decide +kernel
theorem dX0_mixAll_32 : decode cX0_mixAll 32 = .ok (.lload_n 3, 1) := by decide +kernel
theorem dX0_mixAll_33 : decode cX0_mixAll 33 = .ok (.lreturn, 1) := by decide +kernel
theorem dX1_init_0 : decode cX1_init 0 = .ok (.aload_n 0, 1) := by decide +kernel
theorem dX1_init_1 : decode cX1_init 1 = .ok (.invokespecial 3, 3) := by decide +kernel
theorem dX1_init_4 : decode cX1_init 4 = .ok (.aload_n 0, 1) := by decide +kernel
theorem dX1_init_5 : decode cX1_init 5 = .ok (.bipush 96, 2) := by decide +kernel
theorem dX1_init_7 : decode cX1_init 7 = .ok (.newarray .int, 2) := by decide +kernel
theorem dX1_init_9 : decode cX1_init 9 = .ok (.putfield 9, 3) := by decide +kernel
theorem dX1_init_12 : decode cX1_init 12 = .ok (.aload_n 0, 1) := by decide +kernel
theorem dX1_init_13 : decode cX1_init 13 = .ok (.bipush 12, 2) := by decide +kernel
theorem dX1_init_15 : decode cX1_init 15 = .ok (.newarray .int, 2) := by decide +kernel
theorem dX1_init_17 : decode cX1_init 17 = .ok (.putfield 15, 3) := by decide +kernel
theorem dX1_init_20 : decode cX1_init 20 = .ok (.return_, 1) := by decide +kernel
theorem dX1_paintOver_0 : decode cX1_paintOver 0 = .ok (.aload_n 0, 1) := by decide +kernel
theorem dX1_paintOver_1 : decode cX1_paintOver 1 = .ok (.getfield 9, 3) := by decide +kernel
theorem dX1_paintOver_4 : decode cX1_paintOver 4 = .ok (.bipush 8, 2) := by decide +kernel
theorem dX1_paintOver_6 : decode cX1_paintOver 6 = .ok (.iload_n 1, 1) := by decide +kernel
theorem dX1_paintOver_7 : decode cX1_paintOver 7 = .ok (.imul, 1) := by decide +kernel
theorem dX1_paintOver_8 : decode cX1_paintOver 8 = .ok (.aload_n 0, 1) := by decide +kernel
theorem dX1_paintOver_9 : decode cX1_paintOver 9 = .ok (.getfield 15, 3) := by decide +kernel
theorem dX1_paintOver_12 : decode cX1_paintOver 12 = .ok (.iload_n 1, 1) := by decide +kernel
theorem dX1_paintOver_13 : decode cX1_paintOver 13 = .ok (.iaload, 1) := by decide +kernel
theorem dX1_paintOver_14 : decode cX1_paintOver 14 = .ok (.iadd, 1) := by decide +kernel
theorem dX1_paintOver_15 : decode cX1_paintOver 15 = .ok (.iload_n 2, 1) := by decide +kernel
theorem dX1_paintOver_16 : decode cX1_paintOver 16 = .ok (.iastore, 1) := by decide +kernel
theorem dX1_paintOver_17 : decode cX1_paintOver 17 = .ok (.aload_n 0, 1) := by decide +kernel
theorem dX1_paintOver_18 : decode cX1_paintOver 18 = .ok (.getfield 15, 3) := by decide +kernel
theorem dX1_paintOver_21 : decode cX1_paintOver 21 = .ok (.iload_n 1, 1) := by decide +kernel
theorem dX1_paintOver_22 : decode cX1_paintOver 22 = .ok (.dup2, 1) := by decide +kernel
theorem dX1_paintOver_23 : decode cX1_paintOver 23 = .ok (.iaload, 1) := by decide +kernel
theorem dX1_paintOver_24 : decode cX1_paintOver 24 = .ok (.iconst 1, 1) := by decide +kernel
theorem dX1_paintOver_25 : decode cX1_paintOver 25 = .ok (.iadd, 1) := by decide +kernel
theorem dX1_paintOver_26 : decode cX1_paintOver 26 = .ok (.iastore, 1) := by decide +kernel
theorem dX1_paintOver_27 : decode cX1_paintOver 27 = .ok (.return_, 1) := by decide +kernel
theorem dX1_clear_0 : decode cX1_clear 0 = .ok (.aload_n 0, 1) := by decide +kernel
theorem dX1_clear_1 : decode cX1_clear 1 = .ok (.getfield 15, 3) := by decide +kernel
theorem dX1_clear_4 : decode cX1_clear 4 = .ok (.iload_n 1, 1) := by decide +kernel
theorem dX1_clear_5 : decode cX1_clear 5 = .ok (.iconst 0, 1) := by decide +kernel
theorem dX1_clear_6 : decode cX1_clear 6 = .ok (.iastore, 1) := by decide +kernel
theorem dX1_clear_7 : decode cX1_clear 7 = .ok (.return_, 1) := by decide +kernel
theorem dX1_takeOff_0 : decode cX1_takeOff 0 = .ok (.aload_n 0, 1) := by decide +kernel
theorem dX1_takeOff_1 : decode cX1_takeOff 1 = .ok (.getfield 15, 3) := by decide +kernel
theorem dX1_takeOff_4 : decode cX1_takeOff 4 = .ok (.iload_n 1, 1) := by decide +kernel
theorem dX1_takeOff_5 : decode cX1_takeOff 5 = .ok (.dup2, 1) := by decide +kernel
theorem dX1_takeOff_6 : decode cX1_takeOff 6 = .ok (.iaload, 1) := by decide +kernel
theorem dX1_takeOff_7 : decode cX1_takeOff 7 = .ok (.iload_n 2, 1) := by decide +kernel
theorem dX1_takeOff_8 : decode cX1_takeOff 8 = .ok (.isub, 1) := by decide +kernel
theorem dX1_takeOff_9 : decode cX1_takeOff 9 = .ok (.iastore, 1) := by decide +kernel
theorem dX1_takeOff_10 : decode cX1_takeOff 10 = .ok (.return_, 1) := by decide +kernel
theorem dX1_colourAtDepth_0 : decode cX1_colourAtDepth 0 = .ok (.iload_n 2, 1) := by decide +kernel
theorem dX1_colourAtDepth_1 : decode cX1_colourAtDepth 1 = .ok (.iconst 0, 1) := by decide +kernel
theorem dX1_colourAtDepth_2 : decode cX1_colourAtDepth 2 = .ok (.aload_n 0, 1) := by decide +kernel
theorem dX1_colourAtDepth_3 : decode cX1_colourAtDepth 3 = .ok (.getfield 15, 3) := by decide +kernel
theorem dX1_colourAtDepth_6 : decode cX1_colourAtDepth 6 = .ok (.iload_n 1, 1) := by decide +kernel
theorem dX1_colourAtDepth_7 : decode cX1_colourAtDepth 7 = .ok (.iaload, 1) := by decide +kernel
theorem dX1_colourAtDepth_8 : decode cX1_colourAtDepth 8 = .ok (.iconst 1, 1) := by decide +kernel
theorem dX1_colourAtDepth_9 : decode cX1_colourAtDepth 9 = .ok (.isub, 1) := by decide +kernel
theorem dX1_colourAtDepth_10 : decode cX1_colourAtDepth 10 = .ok (.invokestatic 18, 3) := by decide +kernel
theorem dX1_colourAtDepth_13 : decode cX1_colourAtDepth 13 = .ok (.ifCond .ne 5, 3) := by decide +kernel
theorem dX1_colourAtDepth_16 : decode cX1_colourAtDepth 16 = .ok (.iconst (-1), 1) := by decide +kernel
theorem dX1_colourAtDepth_17 : decode cX1_colourAtDepth 17 = .ok (.ireturn, 1) := by decide +kernel
theorem dX1_colourAtDepth_18 : decode cX1_colourAtDepth 18 = .ok (.aload_n 0, 1) := by decide +kernel
theorem dX1_colourAtDepth_19 : decode cX1_colourAtDepth 19 = .ok (.getfield 9, 3) := by decide +kernel
theorem dX1_colourAtDepth_22 : decode cX1_colourAtDepth 22 = .ok (.bipush 8, 2) := by decide +kernel
theorem dX1_colourAtDepth_24 : decode cX1_colourAtDepth 24 = .ok (.iload_n 1, 1) := by decide +kernel
theorem dX1_colourAtDepth_25 : decode cX1_colourAtDepth 25 = .ok (.imul, 1) := by decide +kernel
theorem dX1_colourAtDepth_26 : decode cX1_colourAtDepth 26 = .ok (.aload_n 0, 1) := by decide +kernel
theorem dX1_colourAtDepth_27 : decode cX1_colourAtDepth 27 = .ok (.getfield 15, 3) := by decide +kernel
theorem dX1_colourAtDepth_30 : decode cX1_colourAtDepth 30 = .ok (.iload_n 1, 1) := by decide +kernel
theorem dX1_colourAtDepth_31 : decode cX1_colourAtDepth 31 = .ok (.iaload, 1) := by decide +kernel
theorem dX1_colourAtDepth_32 : decode cX1_colourAtDepth 32 = .ok (.iadd, 1) := by decide +kernel
theorem dX1_colourAtDepth_33 : decode cX1_colourAtDepth 33 = .ok (.iconst 1, 1) := by decide +kernel
theorem dX1_colourAtDepth_34 : decode cX1_colourAtDepth 34 = .ok (.isub, 1) := by decide +kernel
theorem dX1_colourAtDepth_35 : decode cX1_colourAtDepth 35 = .ok (.iload_n 2, 1) := by decide +kernel
theorem dX1_colourAtDepth_36 : decode cX1_colourAtDepth 36 = .ok (.isub, 1) := by decide +kernel
theorem dX1_colourAtDepth_37 : decode cX1_colourAtDepth 37 = .ok (.iaload, 1) := by decide +kernel
theorem dX1_colourAtDepth_38 : decode cX1_colourAtDepth 38 = .ok (.ireturn, 1) := by decide +kernel
theorem dX1_depthOf_0 : decode cX1_depthOf 0 = .ok (.iconst 0, 1) := by decide +kernel
theorem dX1_depthOf_1 : decode cX1_depthOf 1 = .ok (.istore_n 3, 1) := by decide +kernel
theorem dX1_depthOf_2 : decode cX1_depthOf 2 = .ok (.iload_n 3, 1) := by decide +kernel
theorem dX1_depthOf_3 : decode cX1_depthOf 3 = .ok (.aload_n 0, 1) := by decide +kernel
theorem dX1_depthOf_4 : decode cX1_depthOf 4 = .ok (.getfield 15, 3) := by decide +kernel
theorem dX1_depthOf_7 : decode cX1_depthOf 7 = .ok (.iload_n 1, 1) := by decide +kernel
theorem dX1_depthOf_8 : decode cX1_depthOf 8 = .ok (.iaload, 1) := by decide +kernel
theorem dX1_depthOf_9 : decode cX1_depthOf 9 = .ok (.if_icmp .ge 21, 3) := by decide +kernel
theorem dX1_depthOf_12 : decode cX1_depthOf 12 = .ok (.aload_n 0, 1) := by decide +kernel
theorem dX1_depthOf_13 : decode cX1_depthOf 13 = .ok (.iload_n 1, 1) := by decide +kernel
theorem dX1_depthOf_14 : decode cX1_depthOf 14 = .ok (.iload_n 3, 1) := by decide +kernel
theorem dX1_depthOf_15 : decode cX1_depthOf 15 = .ok (.invokevirtual 22, 3) := by decide +kernel
theorem dX1_depthOf_18 : decode cX1_depthOf 18 = .ok (.iload_n 2, 1) := by decide +kernel
theorem dX1_depthOf_19 : decode cX1_depthOf 19 = .ok (.if_icmp .ne 5, 3) := by decide +kernel
theorem dX1_depthOf_22 : decode cX1_depthOf 22 = .ok (.iload_n 3, 1) := by decide +kernel
theorem dX1_depthOf_23 : decode cX1_depthOf 23 = .ok (.ireturn, 1) := by decide +kernel
theorem dX1_depthOf_24 : decode cX1_depthOf 24 = .ok (.iinc 3 1, 3) := by decide +kernel
theorem dX1_depthOf_27 : decode cX1_depthOf 27 = .ok (.goto (-25), 3) := by decide +kernel
theorem dX1_depthOf_30 : decode cX1_depthOf 30 = .ok (.iconst (-1), 1) := by decide +kernel
theorem dX1_depthOf_31 : decode cX1_depthOf 31 = .ok (.ireturn, 1) := by decide +kernel
theorem dX1_mixCoats_0 : decode cX1_mixCoats 0 = .ok (.lload_n 1, 1) := by decide +kernel
theorem dX1_mixCoats_1 : decode cX1_mixCoats 1 = .ok (.aload_n 0, 1) := by decide +kernel
theorem dX1_mixCoats_2 : decode cX1_mixCoats 2 = .ok (.getfield 15, 3) := by decide +kernel
theorem dX1_mixCoats_5 : decode cX1_mixCoats 5 = .ok (.iload_n 3, 1) := by decide +kernel
theorem dX1_mixCoats_6 : decode cX1_mixCoats 6 = .ok (.iaload, 1) := by decide +kernel
theorem dX1_mixCoats_7 : decode cX1_mixCoats 7 = .ok (.invokestatic 26, 3) := by decide +kernel
theorem dX1_mixCoats_10 : decode cX1_mixCoats 10 = .ok (.lstore 4, 2) := by decide +kernel
theorem dX1_mixCoats_12 : decode cX1_mixCoats 12 = .ok (.iconst 0, 1) := by decide +kernel
theorem dX1_mixCoats_13 : decode cX1_mixCoats 13 = .ok (.istore 6, 2) := by decide +kernel
theorem dX1_mixCoats_15 : decode cX1_mixCoats 15 = .ok (.iload 6, 2) := by decide +kernel
theorem dX1_mixCoats_17 : decode cX1_mixCoats 17 = .ok (.aload_n 0, 1) := by decide +kernel
theorem dX1_mixCoats_18 : decode cX1_mixCoats 18 = .ok (.getfield 15, 3) := by decide +kernel
theorem dX1_mixCoats_21 : decode cX1_mixCoats 21 = .ok (.iload_n 3, 1) := by decide +kernel
theorem dX1_mixCoats_22 : decode cX1_mixCoats 22 = .ok (.iaload, 1) := by decide +kernel
theorem dX1_mixCoats_23 : decode cX1_mixCoats 23 = .ok (.if_icmp .ge 28, 3) := by decide +kernel
theorem dX1_mixCoats_26 : decode cX1_mixCoats 26 = .ok (.lload 4, 2) := by decide +kernel
theorem dX1_mixCoats_28 : decode cX1_mixCoats 28 = .ok (.aload_n 0, 1) := by decide +kernel
theorem dX1_mixCoats_29 : decode cX1_mixCoats 29 = .ok (.getfield 9, 3) := by decide +kernel
theorem dX1_mixCoats_32 : decode cX1_mixCoats 32 = .ok (.bipush 8, 2) := by decide +kernel
theorem dX1_mixCoats_34 : decode cX1_mixCoats 34 = .ok (.iload_n 3, 1) := by decide +kernel
theorem dX1_mixCoats_35 : decode cX1_mixCoats 35 = .ok (.imul, 1) := by decide +kernel
theorem dX1_mixCoats_36 : decode cX1_mixCoats 36 = .ok (.iload 6, 2) := by decide +kernel
theorem dX1_mixCoats_38 : decode cX1_mixCoats 38 = .ok (.iadd, 1) := by decide +kernel
theorem dX1_mixCoats_39 : decode cX1_mixCoats 39 = .ok (.iaload, 1) := by decide +kernel
theorem dX1_mixCoats_40 : decode cX1_mixCoats 40 = .ok (.invokestatic 26, 3) := by decide +kernel
theorem dX1_mixCoats_43 : decode cX1_mixCoats 43 = .ok (.lstore 4, 2) := by decide +kernel
theorem dX1_mixCoats_45 : decode cX1_mixCoats 45 = .ok (.iinc 6 1, 3) := by decide +kernel
theorem dX1_mixCoats_48 : decode cX1_mixCoats 48 = .ok (.goto (-33), 3) := by decide +kernel
theorem dX1_mixCoats_51 : decode cX1_mixCoats 51 = .ok (.lload 4, 2) := by decide +kernel
theorem dX1_mixCoats_53 : decode cX1_mixCoats 53 = .ok (.lreturn, 1) := by decide +kernel
theorem dX2_init_0 : decode cX2_init 0 = .ok (.aload_n 0, 1) := by decide +kernel
theorem dX2_init_1 : decode cX2_init 1 = .ok (.invokespecial 3, 3) := by decide +kernel
theorem dX2_init_4 : decode cX2_init 4 = .ok (.aload_n 0, 1) := by decide +kernel
theorem dX2_init_5 : decode cX2_init 5 = .ok (.bipush 8, 2) := by decide +kernel
theorem dX2_init_7 : decode cX2_init 7 = .ok (.newarray .int, 2) := by decide +kernel
theorem dX2_init_9 : decode cX2_init 9 = .ok (.putfield 9, 3) := by decide +kernel
theorem dX2_init_12 : decode cX2_init 12 = .ok (.aload_n 0, 1) := by decide +kernel
theorem dX2_init_13 : decode cX2_init 13 = .ok (.bipush 8, 2) := by decide +kernel
theorem dX2_init_15 : decode cX2_init 15 = .ok (.newarray .int, 2) := by decide +kernel
theorem dX2_init_17 : decode cX2_init 17 = .ok (.putfield 15, 3) := by decide +kernel
theorem dX2_init_20 : decode cX2_init 20 = .ok (.aload_n 0, 1) := by decide +kernel
theorem dX2_init_21 : decode cX2_init 21 = .ok (.bipush 8, 2) := by decide +kernel
theorem dX2_init_23 : decode cX2_init 23 = .ok (.newarray .int, 2) := by decide +kernel
theorem dX2_init_25 : decode cX2_init 25 = .ok (.putfield 18, 3) := by decide +kernel
theorem dX2_init_28 : decode cX2_init 28 = .ok (.aload_n 0, 1) := by decide +kernel
theorem dX2_init_29 : decode cX2_init 29 = .ok (.bipush 64, 2) := by decide +kernel
theorem dX2_init_31 : decode cX2_init 31 = .ok (.newarray .int, 2) := by decide +kernel
theorem dX2_init_33 : decode cX2_init 33 = .ok (.putfield 21, 3) := by decide +kernel
theorem dX2_init_36 : decode cX2_init 36 = .ok (.aload_n 0, 1) := by decide +kernel
theorem dX2_init_37 : decode cX2_init 37 = .ok (.iconst 0, 1) := by decide +kernel
theorem dX2_init_38 : decode cX2_init 38 = .ok (.putfield 24, 3) := by decide +kernel
theorem dX2_init_41 : decode cX2_init 41 = .ok (.aload_n 0, 1) := by decide +kernel
theorem dX2_init_42 : decode cX2_init 42 = .ok (.bipush 8, 2) := by decide +kernel
theorem dX2_init_44 : decode cX2_init 44 = .ok (.newarray .int, 2) := by decide +kernel
theorem dX2_init_46 : decode cX2_init 46 = .ok (.putfield 28, 3) := by decide +kernel
theorem dX2_init_49 : decode cX2_init 49 = .ok (.aload_n 0, 1) := by decide +kernel
theorem dX2_init_50 : decode cX2_init 50 = .ok (.bipush 8, 2) := by decide +kernel
theorem dX2_init_52 : decode cX2_init 52 = .ok (.newarray .int, 2) := by decide +kernel
theorem dX2_init_54 : decode cX2_init 54 = .ok (.putfield 31, 3) := by decide +kernel
theorem dX2_init_57 : decode cX2_init 57 = .ok (.aload_n 0, 1) := by decide +kernel
theorem dX2_init_58 : decode cX2_init 58 = .ok (.bipush 8, 2) := by decide +kernel
theorem dX2_init_60 : decode cX2_init 60 = .ok (.newarray .int, 2) := by decide +kernel
theorem dX2_init_62 : decode cX2_init 62 = .ok (.putfield 34, 3) := by decide +kernel
theorem dX2_init_65 : decode cX2_init 65 = .ok (.return_, 1) := by decide +kernel
theorem dX2_isFair_0 : decode cX2_isFair 0 = .ok (.iload_n 1, 1) := by decide +kernel
theorem dX2_isFair_1 : decode cX2_isFair 1 = .ok (.ifCond .lt 15, 3) := by decide +kernel
theorem dX2_isFair_4 : decode cX2_isFair 4 = .ok (.iload_n 1, 1) := by decide +kernel
theorem dX2_isFair_5 : decode cX2_isFair 5 = .ok (.aload_n 0, 1) := by decide +kernel
theorem dX2_isFair_6 : decode cX2_isFair 6 = .ok (.getfield 24, 3) := by decide +kernel
theorem dX2_isFair_9 : decode cX2_isFair 9 = .ok (.if_icmp .ge 7, 3) := by decide +kernel
theorem dX2_isFair_12 : decode cX2_isFair 12 = .ok (.iconst 1, 1) := by decide +kernel
theorem dX2_isFair_13 : decode cX2_isFair 13 = .ok (.goto 4, 3) := by decide +kernel
theorem dX2_isFair_16 : decode cX2_isFair 16 = .ok (.iconst 0, 1) := by decide +kernel
theorem dX2_isFair_17 : decode cX2_isFair 17 = .ok (.ireturn, 1) := by decide +kernel
theorem dX2_announce_0 : decode cX2_announce 0 = .ok (.aload_n 0, 1) := by decide +kernel
theorem dX2_announce_1 : decode cX2_announce 1 = .ok (.getfield 24, 3) := by decide +kernel
theorem dX2_announce_4 : decode cX2_announce 4 = .ok (.istore 4, 2) := by decide +kernel
theorem dX2_announce_6 : decode cX2_announce 6 = .ok (.aload_n 0, 1) := by decide +kernel
theorem dX2_announce_7 : decode cX2_announce 7 = .ok (.getfield 9, 3) := by decide +kernel
theorem dX2_announce_10 : decode cX2_announce 10 = .ok (.iload 4, 2) := by decide +kernel
theorem dX2_announce_12 : decode cX2_announce 12 = .ok (.iload_n 1, 1) := by decide +kernel
theorem dX2_announce_13 : decode cX2_announce 13 = .ok (.iastore, 1) := by decide +kernel
theorem dX2_announce_14 : decode cX2_announce 14 = .ok (.aload_n 0, 1) := by decide +kernel
theorem dX2_announce_15 : decode cX2_announce 15 = .ok (.getfield 15, 3) := by decide +kernel
theorem dX2_announce_18 : decode cX2_announce 18 = .ok (.iload 4, 2) := by decide +kernel
theorem dX2_announce_20 : decode cX2_announce 20 = .ok (.iload_n 2, 1) := by decide +kernel
theorem dX2_announce_21 : decode cX2_announce 21 = .ok (.iastore, 1) := by decide +kernel
theorem dX2_announce_22 : decode cX2_announce 22 = .ok (.aload_n 0, 1) := by decide +kernel
theorem dX2_announce_23 : decode cX2_announce 23 = .ok (.getfield 18, 3) := by decide +kernel
theorem dX2_announce_26 : decode cX2_announce 26 = .ok (.iload 4, 2) := by decide +kernel
theorem dX2_announce_28 : decode cX2_announce 28 = .ok (.iload_n 3, 1) := by decide +kernel
theorem dX2_announce_29 : decode cX2_announce 29 = .ok (.iastore, 1) := by decide +kernel
theorem dX2_announce_30 : decode cX2_announce 30 = .ok (.aload_n 0, 1) := by decide +kernel
theorem dX2_announce_31 : decode cX2_announce 31 = .ok (.dup, 1) := by decide +kernel
theorem dX2_announce_32 : decode cX2_announce 32 = .ok (.getfield 24, 3) := by decide +kernel
theorem dX2_announce_35 : decode cX2_announce 35 = .ok (.iconst 1, 1) := by decide +kernel
theorem dX2_announce_36 : decode cX2_announce 36 = .ok (.iadd, 1) := by decide +kernel
theorem dX2_announce_37 : decode cX2_announce 37 = .ok (.putfield 24, 3) := by decide +kernel
theorem dX2_announce_40 : decode cX2_announce 40 = .ok (.iload 4, 2) := by decide +kernel
theorem dX2_announce_42 : decode cX2_announce 42 = .ok (.ireturn, 1) := by decide +kernel
theorem dX2_daysBetween_0 : decode cX2_daysBetween 0 = .ok (.aload_n 0, 1) := by decide +kernel
theorem dX2_daysBetween_1 : decode cX2_daysBetween 1 = .ok (.getfield 21, 3) := by decide +kernel
theorem dX2_daysBetween_4 : decode cX2_daysBetween 4 = .ok (.bipush 8, 2) := by decide +kernel
theorem dX2_daysBetween_6 : decode cX2_daysBetween 6 = .ok (.iload_n 1, 1) := by decide +kernel
theorem dX2_daysBetween_7 : decode cX2_daysBetween 7 = .ok (.imul, 1) := by decide +kernel
theorem dX2_daysBetween_8 : decode cX2_daysBetween 8 = .ok (.iload_n 2, 1) := by decide +kernel
theorem dX2_daysBetween_9 : decode cX2_daysBetween 9 = .ok (.iadd, 1) := by decide +kernel
theorem dX2_daysBetween_10 : decode cX2_daysBetween 10 = .ok (.iaload, 1) := by decide +kernel
theorem dX2_daysBetween_11 : decode cX2_daysBetween 11 = .ok (.ireturn, 1) := by decide +kernel
theorem dX2_layRoad_0 : decode cX2_layRoad 0 = .ok (.aload_n 0, 1) := by decide +kernel
theorem dX2_layRoad_1 : decode cX2_layRoad 1 = .ok (.getfield 21, 3) := by decide +kernel
theorem dX2_layRoad_4 : decode cX2_layRoad 4 = .ok (.bipush 8, 2) := by decide +kernel
theorem dX2_layRoad_6 : decode cX2_layRoad 6 = .ok (.iload_n 1, 1) := by decide +kernel
theorem dX2_layRoad_7 : decode cX2_layRoad 7 = .ok (.imul, 1) := by decide +kernel
theorem dX2_layRoad_8 : decode cX2_layRoad 8 = .ok (.iload_n 2, 1) := by decide +kernel
theorem dX2_layRoad_9 : decode cX2_layRoad 9 = .ok (.iadd, 1) := by decide +kernel
theorem dX2_layRoad_10 : decode cX2_layRoad 10 = .ok (.iload_n 3, 1) := by decide +kernel
theorem dX2_layRoad_11 : decode cX2_layRoad 11 = .ok (.iastore, 1) := by decide +kernel
theorem dX2_layRoad_12 : decode cX2_layRoad 12 = .ok (.aload_n 0, 1) := by decide +kernel
theorem dX2_layRoad_13 : decode cX2_layRoad 13 = .ok (.getfield 21, 3) := by decide +kernel
theorem dX2_layRoad_16 : decode cX2_layRoad 16 = .ok (.bipush 8, 2) := by decide +kernel
theorem dX2_layRoad_18 : decode cX2_layRoad 18 = .ok (.iload_n 2, 1) := by decide +kernel
theorem dX2_layRoad_19 : decode cX2_layRoad 19 = .ok (.imul, 1) := by decide +kernel
theorem dX2_layRoad_20 : decode cX2_layRoad 20 = .ok (.iload_n 1, 1) := by decide +kernel
theorem dX2_layRoad_21 : decode cX2_layRoad 21 = .ok (.iadd, 1) := by decide +kernel
theorem dX2_layRoad_22 : decode cX2_layRoad 22 = .ok (.iload_n 3, 1) := by decide +kernel
theorem dX2_layRoad_23 : decode cX2_layRoad 23 = .ok (.iastore, 1) := by decide +kernel
theorem dX2_layRoad_24 : decode cX2_layRoad 24 = .ok (.return_, 1) := by decide +kernel
theorem dX2_planRounds_0 : decode cX2_planRounds 0 = .ok (.iconst 0, 1) := by decide +kernel
theorem dX2_planRounds_1 : decode cX2_planRounds 1 = .ok (.istore_n 1, 1) := by decide +kernel
theorem dX2_planRounds_2 : decode cX2_planRounds 2 = .ok (.iload_n 1, 1) := by decide +kernel
theorem dX2_planRounds_3 : decode cX2_planRounds 3 = .ok (.aload_n 0, 1) := by decide +kernel
theorem dX2_planRounds_4 : decode cX2_planRounds 4 = .ok (.getfield 24, 3) := by decide +kernel
theorem dX2_planRounds_7 : decode cX2_planRounds 7 = .ok (.if_icmp .ge 30, 3) := by decide +kernel
theorem dX2_planRounds_10 : decode cX2_planRounds 10 = .ok (.iconst 0, 1) := by decide +kernel
theorem dX2_planRounds_11 : decode cX2_planRounds 11 = .ok (.istore_n 2, 1) := by decide +kernel
theorem dX2_planRounds_12 : decode cX2_planRounds 12 = .ok (.iload_n 2, 1) := by decide +kernel
theorem dX2_planRounds_13 : decode cX2_planRounds 13 = .ok (.aload_n 0, 1) := by decide +kernel
theorem dX2_planRounds_14 : decode cX2_planRounds 14 = .ok (.getfield 24, 3) := by decide +kernel
theorem dX2_planRounds_17 : decode cX2_planRounds 17 = .ok (.if_icmp .ge 14, 3) := by decide +kernel
theorem dX2_planRounds_20 : decode cX2_planRounds 20 = .ok (.aload_n 0, 1) := by decide +kernel
theorem dX2_planRounds_21 : decode cX2_planRounds 21 = .ok (.iload_n 2, 1) := by decide +kernel
theorem dX2_planRounds_22 : decode cX2_planRounds 22 = .ok (.invokevirtual 37, 3) := by decide +kernel
theorem dX2_planRounds_25 : decode cX2_planRounds 25 = .ok (.iinc 2 1, 3) := by decide +kernel
theorem dX2_planRounds_28 : decode cX2_planRounds 28 = .ok (.goto (-16), 3) := by decide +kernel
theorem dX2_planRounds_31 : decode cX2_planRounds 31 = .ok (.iinc 1 1, 3) := by decide +kernel
theorem dX2_planRounds_34 : decode cX2_planRounds 34 = .ok (.goto (-32), 3) := by decide +kernel
theorem dX2_planRounds_37 : decode cX2_planRounds 37 = .ok (.return_, 1) := by decide +kernel
theorem dX2_planFrom_0 : decode cX2_planFrom 0 = .ok (.aload_n 0, 1) := by decide +kernel
theorem dX2_planFrom_1 : decode cX2_planFrom 1 = .ok (.iload_n 1, 1) := by decide +kernel
theorem dX2_planFrom_2 : decode cX2_planFrom 2 = .ok (.invokevirtual 41, 3) := by decide +kernel
theorem dX2_planFrom_5 : decode cX2_planFrom 5 = .ok (.istore_n 2, 1) := by decide +kernel
theorem dX2_planFrom_6 : decode cX2_planFrom 6 = .ok (.aload_n 0, 1) := by decide +kernel
theorem dX2_planFrom_7 : decode cX2_planFrom 7 = .ok (.getfield 34, 3) := by decide +kernel
theorem dX2_planFrom_10 : decode cX2_planFrom 10 = .ok (.iload_n 1, 1) := by decide +kernel
theorem dX2_planFrom_11 : decode cX2_planFrom 11 = .ok (.iload_n 2, 1) := by decide +kernel
theorem dX2_planFrom_12 : decode cX2_planFrom 12 = .ok (.iastore, 1) := by decide +kernel
theorem dX2_planFrom_13 : decode cX2_planFrom 13 = .ok (.aload_n 0, 1) := by decide +kernel
theorem dX2_planFrom_14 : decode cX2_planFrom 14 = .ok (.getfield 28, 3) := by decide +kernel
theorem dX2_planFrom_17 : decode cX2_planFrom 17 = .ok (.iload_n 1, 1) := by decide +kernel
theorem dX2_planFrom_18 : decode cX2_planFrom 18 = .ok (.aload_n 0, 1) := by decide +kernel
theorem dX2_planFrom_19 : decode cX2_planFrom 19 = .ok (.getfield 18, 3) := by decide +kernel
theorem dX2_planFrom_22 : decode cX2_planFrom 22 = .ok (.iload_n 1, 1) := by decide +kernel
theorem dX2_planFrom_23 : decode cX2_planFrom 23 = .ok (.iaload, 1) := by decide +kernel
theorem dX2_planFrom_24 : decode cX2_planFrom 24 = .ok (.aload_n 0, 1) := by decide +kernel
theorem dX2_planFrom_25 : decode cX2_planFrom 25 = .ok (.iload_n 2, 1) := by decide +kernel
theorem dX2_planFrom_26 : decode cX2_planFrom 26 = .ok (.invokevirtual 45, 3) := by decide +kernel
theorem dX2_planFrom_29 : decode cX2_planFrom 29 = .ok (.iadd, 1) := by decide +kernel
theorem dX2_planFrom_30 : decode cX2_planFrom 30 = .ok (.iastore, 1) := by decide +kernel
theorem dX2_planFrom_31 : decode cX2_planFrom 31 = .ok (.aload_n 0, 1) := by decide +kernel
theorem dX2_planFrom_32 : decode cX2_planFrom 32 = .ok (.getfield 31, 3) := by decide +kernel
theorem dX2_planFrom_35 : decode cX2_planFrom 35 = .ok (.iload_n 1, 1) := by decide +kernel
theorem dX2_planFrom_36 : decode cX2_planFrom 36 = .ok (.iconst 1, 1) := by decide +kernel
theorem dX2_planFrom_37 : decode cX2_planFrom 37 = .ok (.aload_n 0, 1) := by decide +kernel
theorem dX2_planFrom_38 : decode cX2_planFrom 38 = .ok (.iload_n 2, 1) := by decide +kernel
theorem dX2_planFrom_39 : decode cX2_planFrom 39 = .ok (.invokevirtual 48, 3) := by decide +kernel
theorem dX2_planFrom_42 : decode cX2_planFrom 42 = .ok (.iadd, 1) := by decide +kernel
theorem dX2_planFrom_43 : decode cX2_planFrom 43 = .ok (.iastore, 1) := by decide +kernel
theorem dX2_planFrom_44 : decode cX2_planFrom 44 = .ok (.return_, 1) := by decide +kernel
theorem dX2_bestBehind_0 : decode cX2_bestBehind 0 = .ok (.iconst (-1), 1) := by decide +kernel
theorem dX2_bestBehind_1 : decode cX2_bestBehind 1 = .ok (.istore_n 2, 1) := by decide +kernel
theorem dX2_bestBehind_2 : decode cX2_bestBehind 2 = .ok (.iconst 0, 1) := by decide +kernel
theorem dX2_bestBehind_3 : decode cX2_bestBehind 3 = .ok (.istore_n 3, 1) := by decide +kernel
theorem dX2_bestBehind_4 : decode cX2_bestBehind 4 = .ok (.iload_n 3, 1) := by decide +kernel
theorem dX2_bestBehind_5 : decode cX2_bestBehind 5 = .ok (.aload_n 0, 1) := by decide +kernel
theorem dX2_bestBehind_6 : decode cX2_bestBehind 6 = .ok (.getfield 24, 3) := by decide +kernel
theorem dX2_bestBehind_9 : decode cX2_bestBehind 9 = .ok (.if_icmp .ge 29, 3) := by decide +kernel
theorem dX2_bestBehind_12 : decode cX2_bestBehind 12 = .ok (.aload_n 0, 1) := by decide +kernel
theorem dX2_bestBehind_13 : decode cX2_bestBehind 13 = .ok (.iload_n 1, 1) := by decide +kernel
theorem dX2_bestBehind_14 : decode cX2_bestBehind 14 = .ok (.iload_n 3, 1) := by decide +kernel
theorem dX2_bestBehind_15 : decode cX2_bestBehind 15 = .ok (.invokevirtual 51, 3) := by decide +kernel
theorem dX2_bestBehind_18 : decode cX2_bestBehind 18 = .ok (.ifCond .eq 14, 3) := by decide +kernel
theorem dX2_bestBehind_21 : decode cX2_bestBehind 21 = .ok (.aload_n 0, 1) := by decide +kernel
theorem dX2_bestBehind_22 : decode cX2_bestBehind 22 = .ok (.iload_n 3, 1) := by decide +kernel
theorem dX2_bestBehind_23 : decode cX2_bestBehind 23 = .ok (.iload_n 2, 1) := by decide +kernel
theorem dX2_bestBehind_24 : decode cX2_bestBehind 24 = .ok (.invokevirtual 55, 3) := by decide +kernel
theorem dX2_bestBehind_27 : decode cX2_bestBehind 27 = .ok (.ifCond .eq 5, 3) := by decide +kernel
theorem dX2_bestBehind_30 : decode cX2_bestBehind 30 = .ok (.iload_n 3, 1) := by decide +kernel
theorem dX2_bestBehind_31 : decode cX2_bestBehind 31 = .ok (.istore_n 2, 1) := by decide +kernel
theorem dX2_bestBehind_32 : decode cX2_bestBehind 32 = .ok (.iinc 3 1, 3) := by decide +kernel
theorem dX2_bestBehind_35 : decode cX2_bestBehind 35 = .ok (.goto (-31), 3) := by decide +kernel
theorem dX2_bestBehind_38 : decode cX2_bestBehind 38 = .ok (.iload_n 2, 1) := by decide +kernel
theorem dX2_bestBehind_39 : decode cX2_bestBehind 39 = .ok (.ireturn, 1) := by decide +kernel
theorem dX2_mayFollow_0 : decode cX2_mayFollow 0 = .ok (.aload_n 0, 1) := by decide +kernel
theorem dX2_mayFollow_1 : decode cX2_mayFollow 1 = .ok (.iload_n 1, 1) := by decide +kernel
theorem dX2_mayFollow_2 : decode cX2_mayFollow 2 = .ok (.invokevirtual 58, 3) := by decide +kernel
theorem dX2_mayFollow_5 : decode cX2_mayFollow 5 = .ok (.ifCond .eq 25, 3) := by decide +kernel
theorem dX2_mayFollow_8 : decode cX2_mayFollow 8 = .ok (.aload_n 0, 1) := by decide +kernel
theorem dX2_mayFollow_9 : decode cX2_mayFollow 9 = .ok (.getfield 9, 3) := by decide +kernel
theorem dX2_mayFollow_12 : decode cX2_mayFollow 12 = .ok (.iload_n 2, 1) := by decide +kernel
theorem dX2_mayFollow_13 : decode cX2_mayFollow 13 = .ok (.iaload, 1) := by decide +kernel
theorem dX2_mayFollow_14 : decode cX2_mayFollow 14 = .ok (.aload_n 0, 1) := by decide +kernel
theorem dX2_mayFollow_15 : decode cX2_mayFollow 15 = .ok (.getfield 15, 3) := by decide +kernel
theorem dX2_mayFollow_18 : decode cX2_mayFollow 18 = .ok (.iload_n 1, 1) := by decide +kernel
theorem dX2_mayFollow_19 : decode cX2_mayFollow 19 = .ok (.iaload, 1) := by decide +kernel
theorem dX2_mayFollow_20 : decode cX2_mayFollow 20 = .ok (.aload_n 0, 1) := by decide +kernel
theorem dX2_mayFollow_21 : decode cX2_mayFollow 21 = .ok (.iload_n 1, 1) := by decide +kernel
theorem dX2_mayFollow_22 : decode cX2_mayFollow 22 = .ok (.iload_n 2, 1) := by decide +kernel
theorem dX2_mayFollow_23 : decode cX2_mayFollow 23 = .ok (.invokevirtual 62, 3) := by decide +kernel
theorem dX2_mayFollow_26 : decode cX2_mayFollow 26 = .ok (.iadd, 1) := by decide +kernel
theorem dX2_mayFollow_27 : decode cX2_mayFollow 27 = .ok (.if_icmp .le 7, 3) := by decide +kernel
theorem dX2_mayFollow_30 : decode cX2_mayFollow 30 = .ok (.iconst 1, 1) := by decide +kernel
theorem dX2_mayFollow_31 : decode cX2_mayFollow 31 = .ok (.goto 4, 3) := by decide +kernel
theorem dX2_mayFollow_34 : decode cX2_mayFollow 34 = .ok (.iconst 0, 1) := by decide +kernel
theorem dX2_mayFollow_35 : decode cX2_mayFollow 35 = .ok (.ireturn, 1) := by decide +kernel
theorem dX2_isBetter_0 : decode cX2_isBetter 0 = .ok (.aload_n 0, 1) := by decide +kernel
theorem dX2_isBetter_1 : decode cX2_isBetter 1 = .ok (.iload_n 2, 1) := by decide +kernel
theorem dX2_isBetter_2 : decode cX2_isBetter 2 = .ok (.invokevirtual 45, 3) := by decide +kernel
theorem dX2_isBetter_5 : decode cX2_isBetter 5 = .ok (.istore_n 3, 1) := by decide +kernel
theorem dX2_isBetter_6 : decode cX2_isBetter 6 = .ok (.aload_n 0, 1) := by decide +kernel
theorem dX2_isBetter_7 : decode cX2_isBetter 7 = .ok (.getfield 28, 3) := by decide +kernel
theorem dX2_isBetter_10 : decode cX2_isBetter 10 = .ok (.iload_n 1, 1) := by decide +kernel
theorem dX2_isBetter_11 : decode cX2_isBetter 11 = .ok (.iaload, 1) := by decide +kernel
theorem dX2_isBetter_12 : decode cX2_isBetter 12 = .ok (.iload_n 3, 1) := by decide +kernel
theorem dX2_isBetter_13 : decode cX2_isBetter 13 = .ok (.if_icmp .gt 27, 3) := by decide +kernel
theorem dX2_isBetter_16 : decode cX2_isBetter 16 = .ok (.aload_n 0, 1) := by decide +kernel
theorem dX2_isBetter_17 : decode cX2_isBetter 17 = .ok (.getfield 28, 3) := by decide +kernel
theorem dX2_isBetter_20 : decode cX2_isBetter 20 = .ok (.iload_n 1, 1) := by decide +kernel
theorem dX2_isBetter_21 : decode cX2_isBetter 21 = .ok (.iaload, 1) := by decide +kernel
theorem dX2_isBetter_22 : decode cX2_isBetter 22 = .ok (.iload_n 3, 1) := by decide +kernel
theorem dX2_isBetter_23 : decode cX2_isBetter 23 = .ok (.if_icmp .ne 21, 3) := by decide +kernel
theorem dX2_isBetter_26 : decode cX2_isBetter 26 = .ok (.aload_n 0, 1) := by decide +kernel
theorem dX2_isBetter_27 : decode cX2_isBetter 27 = .ok (.getfield 31, 3) := by decide +kernel
theorem dX2_isBetter_30 : decode cX2_isBetter 30 = .ok (.iload_n 1, 1) := by decide +kernel
theorem dX2_isBetter_31 : decode cX2_isBetter 31 = .ok (.iaload, 1) := by decide +kernel
theorem dX2_isBetter_32 : decode cX2_isBetter 32 = .ok (.aload_n 0, 1) := by decide +kernel
theorem dX2_isBetter_33 : decode cX2_isBetter 33 = .ok (.iload_n 2, 1) := by decide +kernel
theorem dX2_isBetter_34 : decode cX2_isBetter 34 = .ok (.invokevirtual 48, 3) := by decide +kernel
theorem dX2_isBetter_37 : decode cX2_isBetter 37 = .ok (.if_icmp .ge 7, 3) := by decide +kernel
theorem dX2_isBetter_40 : decode cX2_isBetter 40 = .ok (.iconst 1, 1) := by decide +kernel
theorem dX2_isBetter_41 : decode cX2_isBetter 41 = .ok (.goto 4, 3) := by decide +kernel
theorem dX2_isBetter_44 : decode cX2_isBetter 44 = .ok (.iconst 0, 1) := by decide +kernel
theorem dX2_isBetter_45 : decode cX2_isBetter 45 = .ok (.ireturn, 1) := by decide +kernel
theorem dX2_gainFrom_0 : decode cX2_gainFrom 0 = .ok (.aload_n 0, 1) := by decide +kernel
theorem dX2_gainFrom_1 : decode cX2_gainFrom 1 = .ok (.iload_n 1, 1) := by decide +kernel
theorem dX2_gainFrom_2 : decode cX2_gainFrom 2 = .ok (.invokevirtual 58, 3) := by decide +kernel
theorem dX2_gainFrom_5 : decode cX2_gainFrom 5 = .ok (.ifCond .eq 12, 3) := by decide +kernel
theorem dX2_gainFrom_8 : decode cX2_gainFrom 8 = .ok (.aload_n 0, 1) := by decide +kernel
theorem dX2_gainFrom_9 : decode cX2_gainFrom 9 = .ok (.getfield 28, 3) := by decide +kernel
theorem dX2_gainFrom_12 : decode cX2_gainFrom 12 = .ok (.iload_n 1, 1) := by decide +kernel
theorem dX2_gainFrom_13 : decode cX2_gainFrom 13 = .ok (.iaload, 1) := by decide +kernel
theorem dX2_gainFrom_14 : decode cX2_gainFrom 14 = .ok (.goto 4, 3) := by decide +kernel
theorem dX2_gainFrom_17 : decode cX2_gainFrom 17 = .ok (.iconst 0, 1) := by decide +kernel
theorem dX2_gainFrom_18 : decode cX2_gainFrom 18 = .ok (.ireturn, 1) := by decide +kernel
theorem dX2_lengthFrom_0 : decode cX2_lengthFrom 0 = .ok (.aload_n 0, 1) := by decide +kernel
theorem dX2_lengthFrom_1 : decode cX2_lengthFrom 1 = .ok (.iload_n 1, 1) := by decide +kernel
theorem dX2_lengthFrom_2 : decode cX2_lengthFrom 2 = .ok (.invokevirtual 58, 3) := by decide +kernel
theorem dX2_lengthFrom_5 : decode cX2_lengthFrom 5 = .ok (.ifCond .eq 12, 3) := by decide +kernel
theorem dX2_lengthFrom_8 : decode cX2_lengthFrom 8 = .ok (.aload_n 0, 1) := by decide +kernel
theorem dX2_lengthFrom_9 : decode cX2_lengthFrom 9 = .ok (.getfield 31, 3) := by decide +kernel
theorem dX2_lengthFrom_12 : decode cX2_lengthFrom 12 = .ok (.iload_n 1, 1) := by decide +kernel
theorem dX2_lengthFrom_13 : decode cX2_lengthFrom 13 = .ok (.iaload, 1) := by decide +kernel
theorem dX2_lengthFrom_14 : decode cX2_lengthFrom 14 = .ok (.goto 4, 3) := by decide +kernel
theorem dX2_lengthFrom_17 : decode cX2_lengthFrom 17 = .ok (.iconst 0, 1) := by decide +kernel
theorem dX2_lengthFrom_18 : decode cX2_lengthFrom 18 = .ok (.ireturn, 1) := by decide +kernel
theorem dX2_fairOfBestRound_0 : decode cX2_fairOfBestRound 0 = .ok (.aload_n 0, 1) := by decide +kernel
theorem dX2_fairOfBestRound_1 : decode cX2_fairOfBestRound 1 = .ok (.iconst (-1), 1) := by decide +kernel
theorem dX2_fairOfBestRound_2 : decode cX2_fairOfBestRound 2 = .ok (.invokevirtual 41, 3) := by decide +kernel
theorem dX2_fairOfBestRound_5 : decode cX2_fairOfBestRound 5 = .ok (.istore_n 2, 1) := by decide +kernel
theorem dX2_fairOfBestRound_6 : decode cX2_fairOfBestRound 6 = .ok (.iconst 0, 1) := by decide +kernel
theorem dX2_fairOfBestRound_7 : decode cX2_fairOfBestRound 7 = .ok (.istore_n 3, 1) := by decide +kernel
theorem dX2_fairOfBestRound_8 : decode cX2_fairOfBestRound 8 = .ok (.iload_n 3, 1) := by decide +kernel
theorem dX2_fairOfBestRound_9 : decode cX2_fairOfBestRound 9 = .ok (.iload_n 1, 1) := by decide +kernel
theorem dX2_fairOfBestRound_10 : decode cX2_fairOfBestRound 10 = .ok (.if_icmp .ge 24, 3) := by decide +kernel
theorem dX2_fairOfBestRound_13 : decode cX2_fairOfBestRound 13 = .ok (.aload_n 0, 1) := by decide +kernel
theorem dX2_fairOfBestRound_14 : decode cX2_fairOfBestRound 14 = .ok (.iload_n 2, 1) := by decide +kernel
theorem dX2_fairOfBestRound_15 : decode cX2_fairOfBestRound 15 = .ok (.invokevirtual 58, 3) := by decide +kernel
theorem dX2_fairOfBestRound_18 : decode cX2_fairOfBestRound 18 = .ok (.ifCond .eq 16, 3) := by decide +kernel
theorem dX2_fairOfBestRound_21 : decode cX2_fairOfBestRound 21 = .ok (.aload_n 0, 1) := by decide +kernel
theorem dX2_fairOfBestRound_22 : decode cX2_fairOfBestRound 22 = .ok (.getfield 34, 3) := by decide +kernel
theorem dX2_fairOfBestRound_25 : decode cX2_fairOfBestRound 25 = .ok (.iload_n 2, 1) := by decide +kernel
theorem dX2_fairOfBestRound_26 : decode cX2_fairOfBestRound 26 = .ok (.iaload, 1) := by decide +kernel
theorem dX2_fairOfBestRound_27 : decode cX2_fairOfBestRound 27 = .ok (.istore_n 2, 1) := by decide +kernel
theorem dX2_fairOfBestRound_28 : decode cX2_fairOfBestRound 28 = .ok (.iinc 3 1, 3) := by decide +kernel
theorem dX2_fairOfBestRound_31 : decode cX2_fairOfBestRound 31 = .ok (.goto (-23), 3) := by decide +kernel
theorem dX2_fairOfBestRound_34 : decode cX2_fairOfBestRound 34 = .ok (.iload_n 2, 1) := by decide +kernel
theorem dX2_fairOfBestRound_35 : decode cX2_fairOfBestRound 35 = .ok (.ireturn, 1) := by decide +kernel
theorem dX2_mixAll_0 : decode cX2_mixAll 0 = .ok (.lload_n 1, 1) := by decide +kernel
theorem dX2_mixAll_1 : decode cX2_mixAll 1 = .ok (.lstore_n 3, 1) := by decide +kernel
theorem dX2_mixAll_2 : decode cX2_mixAll 2 = .ok (.iconst 0, 1) := by decide +kernel
theorem dX2_mixAll_3 : decode cX2_mixAll 3 = .ok (.istore 5, 2) := by decide +kernel
theorem dX2_mixAll_5 : decode cX2_mixAll 5 = .ok (.iload 5, 2) := by decide +kernel
theorem dX2_mixAll_7 : decode cX2_mixAll 7 = .ok (.aload_n 0, 1) := by decide +kernel
theorem dX2_mixAll_8 : decode cX2_mixAll 8 = .ok (.getfield 24, 3) := by decide +kernel
theorem dX2_mixAll_11 : decode cX2_mixAll 11 = .ok (.if_icmp .ge 75, 3) := by decide +kernel
theorem dX2_mixAll_14 : decode cX2_mixAll 14 = .ok (.lload_n 3, 1) := by decide +kernel
theorem dX2_mixAll_15 : decode cX2_mixAll 15 = .ok (.aload_n 0, 1) := by decide +kernel
theorem dX2_mixAll_16 : decode cX2_mixAll 16 = .ok (.getfield 9, 3) := by decide +kernel
theorem dX2_mixAll_19 : decode cX2_mixAll 19 = .ok (.iload 5, 2) := by decide +kernel
theorem dX2_mixAll_21 : decode cX2_mixAll 21 = .ok (.iaload, 1) := by decide +kernel
theorem dX2_mixAll_22 : decode cX2_mixAll 22 = .ok (.invokestatic 66, 3) := by decide +kernel
theorem dX2_mixAll_25 : decode cX2_mixAll 25 = .ok (.aload_n 0, 1) := by decide +kernel
theorem dX2_mixAll_26 : decode cX2_mixAll 26 = .ok (.getfield 15, 3) := by decide +kernel
theorem dX2_mixAll_29 : decode cX2_mixAll 29 = .ok (.iload 5, 2) := by decide +kernel
theorem dX2_mixAll_31 : decode cX2_mixAll 31 = .ok (.iaload, 1) := by decide +kernel
theorem dX2_mixAll_32 : decode cX2_mixAll 32 = .ok (.invokestatic 66, 3) := by decide +kernel
theorem dX2_mixAll_35 : decode cX2_mixAll 35 = .ok (.aload_n 0, 1) := by decide +kernel
theorem dX2_mixAll_36 : decode cX2_mixAll 36 = .ok (.getfield 18, 3) := by decide +kernel
theorem dX2_mixAll_39 : decode cX2_mixAll 39 = .ok (.iload 5, 2) := by decide +kernel
theorem dX2_mixAll_41 : decode cX2_mixAll 41 = .ok (.iaload, 1) := by decide +kernel
theorem dX2_mixAll_42 : decode cX2_mixAll 42 = .ok (.invokestatic 66, 3) := by decide +kernel
theorem dX2_mixAll_45 : decode cX2_mixAll 45 = .ok (.lstore_n 3, 1) := by decide +kernel
theorem dX2_mixAll_46 : decode cX2_mixAll 46 = .ok (.iload 5, 2) := by decide +kernel
theorem dX2_mixAll_48 : decode cX2_mixAll 48 = .ok (.iconst 1, 1) := by decide +kernel
theorem dX2_mixAll_49 : decode cX2_mixAll 49 = .ok (.iadd, 1) := by decide +kernel
theorem dX2_mixAll_50 : decode cX2_mixAll 50 = .ok (.istore 6, 2) := by decide +kernel
theorem dX2_mixAll_52 : decode cX2_mixAll 52 = .ok (.iload 6, 2) := by decide +kernel
theorem dX2_mixAll_54 : decode cX2_mixAll 54 = .ok (.aload_n 0, 1) := by decide +kernel
theorem dX2_mixAll_55 : decode cX2_mixAll 55 = .ok (.getfield 24, 3) := by decide +kernel
theorem dX2_mixAll_58 : decode cX2_mixAll 58 = .ok (.if_icmp .ge 22, 3) := by decide +kernel
theorem dX2_mixAll_61 : decode cX2_mixAll 61 = .ok (.lload_n 3, 1) := by decide +kernel
theorem dX2_mixAll_62 : decode cX2_mixAll 62 = .ok (.aload_n 0, 1) := by decide +kernel
theorem dX2_mixAll_63 : decode cX2_mixAll 63 = .ok (.iload 5, 2) := by decide +kernel
theorem dX2_mixAll_65 : decode cX2_mixAll 65 = .ok (.iload 6, 2) := by decide +kernel
theorem dX2_mixAll_67 : decode cX2_mixAll 67 = .ok (.invokevirtual 62, 3) := by decide +kernel
theorem dX2_mixAll_70 : decode cX2_mixAll 70 = .ok (.invokestatic 66, 3) := by decide +kernel
theorem dX2_mixAll_73 : decode cX2_mixAll 73 = .ok (.lstore_n 3, 1) := by decide +kernel
theorem dX2_mixAll_74 : decode cX2_mixAll 74 = .ok (.iinc 6 1, 3) := by decide +kernel
theorem dX2_mixAll_77 : decode cX2_mixAll 77 = .ok (.goto (-25), 3) := by decide +kernel
theorem dX2_mixAll_80 : decode cX2_mixAll 80 = .ok (.iinc 5 1, 3) := by decide +kernel
theorem dX2_mixAll_83 : decode cX2_mixAll 83 = .ok (.goto (-78), 3) := by decide +kernel
theorem dX2_mixAll_86 : decode cX2_mixAll 86 = .ok (.lload_n 3, 1) := by decide +kernel
theorem dX2_mixAll_87 : decode cX2_mixAll 87 = .ok (.lreturn, 1) := by decide +kernel
theorem dX3_init_0 : decode cX3_init 0 = .ok (.aload_n 0, 1) := by decide +kernel
theorem dX3_init_1 : decode cX3_init 1 = .ok (.invokespecial 3, 3) := by decide +kernel
theorem dX3_init_4 : decode cX3_init 4 = .ok (.aload_n 0, 1) := by decide +kernel
theorem dX3_init_5 : decode cX3_init 5 = .ok (.bipush 48, 2) := by decide +kernel
theorem dX3_init_7 : decode cX3_init 7 = .ok (.newarray .int, 2) := by decide +kernel
theorem dX3_init_9 : decode cX3_init 9 = .ok (.putfield 9, 3) := by decide +kernel
theorem dX3_init_12 : decode cX3_init 12 = .ok (.aload_n 0, 1) := by decide +kernel
theorem dX3_init_13 : decode cX3_init 13 = .ok (.bipush 48, 2) := by decide +kernel
theorem dX3_init_15 : decode cX3_init 15 = .ok (.newarray .int, 2) := by decide +kernel
theorem dX3_init_17 : decode cX3_init 17 = .ok (.putfield 15, 3) := by decide +kernel
theorem dX3_init_20 : decode cX3_init 20 = .ok (.iconst 0, 1) := by decide +kernel
theorem dX3_init_21 : decode cX3_init 21 = .ok (.istore_n 1, 1) := by decide +kernel
theorem dX3_init_22 : decode cX3_init 22 = .ok (.iload_n 1, 1) := by decide +kernel
theorem dX3_init_23 : decode cX3_init 23 = .ok (.bipush 48, 2) := by decide +kernel
theorem dX3_init_25 : decode cX3_init 25 = .ok (.if_icmp .ge 16, 3) := by decide +kernel
theorem dX3_init_28 : decode cX3_init 28 = .ok (.aload_n 0, 1) := by decide +kernel
theorem dX3_init_29 : decode cX3_init 29 = .ok (.getfield 9, 3) := by decide +kernel
theorem dX3_init_32 : decode cX3_init 32 = .ok (.iload_n 1, 1) := by decide +kernel
theorem dX3_init_33 : decode cX3_init 33 = .ok (.iload_n 1, 1) := by decide +kernel
theorem dX3_init_34 : decode cX3_init 34 = .ok (.iastore, 1) := by decide +kernel
theorem dX3_init_35 : decode cX3_init 35 = .ok (.iinc 1 1, 3) := by decide +kernel
theorem dX3_init_38 : decode cX3_init 38 = .ok (.goto (-16), 3) := by decide +kernel
theorem dX3_init_41 : decode cX3_init 41 = .ok (.return_, 1) := by decide +kernel
theorem dX3_areOwn_0 : decode cX3_areOwn 0 = .ok (.iconst 0, 1) := by decide +kernel
theorem dX3_areOwn_1 : decode cX3_areOwn 1 = .ok (.istore_n 2, 1) := by decide +kernel
theorem dX3_areOwn_2 : decode cX3_areOwn 2 = .ok (.iload_n 2, 1) := by decide +kernel
theorem dX3_areOwn_3 : decode cX3_areOwn 3 = .ok (.iconst 4, 1) := by decide +kernel
theorem dX3_areOwn_4 : decode cX3_areOwn 4 = .ok (.if_icmp .ge 29, 3) := by decide +kernel
theorem dX3_areOwn_7 : decode cX3_areOwn 7 = .ok (.aload_n 0, 1) := by decide +kernel
theorem dX3_areOwn_8 : decode cX3_areOwn 8 = .ok (.getfield 9, 3) := by decide +kernel
theorem dX3_areOwn_11 : decode cX3_areOwn 11 = .ok (.iload_n 1, 1) := by decide +kernel
theorem dX3_areOwn_12 : decode cX3_areOwn 12 = .ok (.iload_n 2, 1) := by decide +kernel
theorem dX3_areOwn_13 : decode cX3_areOwn 13 = .ok (.invokestatic 18, 3) := by decide +kernel
theorem dX3_areOwn_16 : decode cX3_areOwn 16 = .ok (.iaload, 1) := by decide +kernel
theorem dX3_areOwn_17 : decode cX3_areOwn 17 = .ok (.iload_n 1, 1) := by decide +kernel
theorem dX3_areOwn_18 : decode cX3_areOwn 18 = .ok (.iload_n 2, 1) := by decide +kernel
theorem dX3_areOwn_19 : decode cX3_areOwn 19 = .ok (.invokestatic 18, 3) := by decide +kernel
theorem dX3_areOwn_22 : decode cX3_areOwn 22 = .ok (.if_icmp .eq 5, 3) := by decide +kernel
theorem dX3_areOwn_25 : decode cX3_areOwn 25 = .ok (.iconst 0, 1) := by decide +kernel
theorem dX3_areOwn_26 : decode cX3_areOwn 26 = .ok (.ireturn, 1) := by decide +kernel
theorem dX3_areOwn_27 : decode cX3_areOwn 27 = .ok (.iinc 2 1, 3) := by decide +kernel
theorem dX3_areOwn_30 : decode cX3_areOwn 30 = .ok (.goto (-28), 3) := by decide +kernel
theorem dX3_areOwn_33 : decode cX3_areOwn 33 = .ok (.iconst 1, 1) := by decide +kernel
theorem dX3_areOwn_34 : decode cX3_areOwn 34 = .ok (.ireturn, 1) := by decide +kernel
theorem dX3_exchange_0 : decode cX3_exchange 0 = .ok (.aload_n 0, 1) := by decide +kernel
theorem dX3_exchange_1 : decode cX3_exchange 1 = .ok (.getfield 9, 3) := by decide +kernel
theorem dX3_exchange_4 : decode cX3_exchange 4 = .ok (.iload_n 1, 1) := by decide +kernel
theorem dX3_exchange_5 : decode cX3_exchange 5 = .ok (.iaload, 1) := by decide +kernel
theorem dX3_exchange_6 : decode cX3_exchange 6 = .ok (.istore_n 3, 1) := by decide +kernel
theorem dX3_exchange_7 : decode cX3_exchange 7 = .ok (.aload_n 0, 1) := by decide +kernel
theorem dX3_exchange_8 : decode cX3_exchange 8 = .ok (.getfield 9, 3) := by decide +kernel
theorem dX3_exchange_11 : decode cX3_exchange 11 = .ok (.iload_n 1, 1) := by decide +kernel
theorem dX3_exchange_12 : decode cX3_exchange 12 = .ok (.aload_n 0, 1) := by decide +kernel
theorem dX3_exchange_13 : decode cX3_exchange 13 = .ok (.getfield 9, 3) := by decide +kernel
theorem dX3_exchange_16 : decode cX3_exchange 16 = .ok (.iload_n 2, 1) := by decide +kernel
theorem dX3_exchange_17 : decode cX3_exchange 17 = .ok (.iaload, 1) := by decide +kernel
theorem dX3_exchange_18 : decode cX3_exchange 18 = .ok (.iastore, 1) := by decide +kernel
theorem dX3_exchange_19 : decode cX3_exchange 19 = .ok (.aload_n 0, 1) := by decide +kernel
theorem dX3_exchange_20 : decode cX3_exchange 20 = .ok (.getfield 9, 3) := by decide +kernel
theorem dX3_exchange_23 : decode cX3_exchange 23 = .ok (.iload_n 2, 1) := by decide +kernel
theorem dX3_exchange_24 : decode cX3_exchange 24 = .ok (.iload_n 3, 1) := by decide +kernel
theorem dX3_exchange_25 : decode cX3_exchange 25 = .ok (.iastore, 1) := by decide +kernel
theorem dX3_exchange_26 : decode cX3_exchange 26 = .ok (.return_, 1) := by decide +kernel
theorem dX3_whereIs_0 : decode cX3_whereIs 0 = .ok (.iconst 0, 1) := by decide +kernel
theorem dX3_whereIs_1 : decode cX3_whereIs 1 = .ok (.istore_n 2, 1) := by decide +kernel
theorem dX3_whereIs_2 : decode cX3_whereIs 2 = .ok (.iload_n 2, 1) := by decide +kernel
theorem dX3_whereIs_3 : decode cX3_whereIs 3 = .ok (.bipush 48, 2) := by decide +kernel
theorem dX3_whereIs_5 : decode cX3_whereIs 5 = .ok (.if_icmp .ge 21, 3) := by decide +kernel
theorem dX3_whereIs_8 : decode cX3_whereIs 8 = .ok (.aload_n 0, 1) := by decide +kernel
theorem dX3_whereIs_9 : decode cX3_whereIs 9 = .ok (.getfield 9, 3) := by decide +kernel
theorem dX3_whereIs_12 : decode cX3_whereIs 12 = .ok (.iload_n 2, 1) := by decide +kernel
theorem dX3_whereIs_13 : decode cX3_whereIs 13 = .ok (.iaload, 1) := by decide +kernel
theorem dX3_whereIs_14 : decode cX3_whereIs 14 = .ok (.iload_n 1, 1) := by decide +kernel
theorem dX3_whereIs_15 : decode cX3_whereIs 15 = .ok (.if_icmp .ne 5, 3) := by decide +kernel
theorem dX3_whereIs_18 : decode cX3_whereIs 18 = .ok (.iload_n 2, 1) := by decide +kernel
theorem dX3_whereIs_19 : decode cX3_whereIs 19 = .ok (.ireturn, 1) := by decide +kernel
theorem dX3_whereIs_20 : decode cX3_whereIs 20 = .ok (.iinc 2 1, 3) := by decide +kernel
theorem dX3_whereIs_23 : decode cX3_whereIs 23 = .ok (.goto (-21), 3) := by decide +kernel
theorem dX3_whereIs_26 : decode cX3_whereIs 26 = .ok (.iconst (-1), 1) := by decide +kernel
theorem dX3_whereIs_27 : decode cX3_whereIs 27 = .ok (.ireturn, 1) := by decide +kernel
theorem dX3_fewestSwaps_0 : decode cX3_fewestSwaps 0 = .ok (.aload_n 0, 1) := by decide +kernel
theorem dX3_fewestSwaps_1 : decode cX3_fewestSwaps 1 = .ok (.getfield 9, 3) := by decide +kernel
theorem dX3_fewestSwaps_4 : decode cX3_fewestSwaps 4 = .ok (.iconst 0, 1) := by decide +kernel
theorem dX3_fewestSwaps_5 : decode cX3_fewestSwaps 5 = .ok (.aload_n 0, 1) := by decide +kernel
theorem dX3_fewestSwaps_6 : decode cX3_fewestSwaps 6 = .ok (.getfield 15, 3) := by decide +kernel
theorem dX3_fewestSwaps_9 : decode cX3_fewestSwaps 9 = .ok (.iconst 0, 1) := by decide +kernel
theorem dX3_fewestSwaps_10 : decode cX3_fewestSwaps 10 = .ok (.bipush 48, 2) := by decide +kernel
theorem dX3_fewestSwaps_12 : decode cX3_fewestSwaps 12 = .ok (.invokestatic 22, 3) := by decide +kernel
theorem dX3_fewestSwaps_15 : decode cX3_fewestSwaps 15 = .ok (.iconst 0, 1) := by decide +kernel
theorem dX3_fewestSwaps_16 : decode cX3_fewestSwaps 16 = .ok (.istore_n 1, 1) := by decide +kernel
theorem dX3_fewestSwaps_17 : decode cX3_fewestSwaps 17 = .ok (.iconst 0, 1) := by decide +kernel
theorem dX3_fewestSwaps_18 : decode cX3_fewestSwaps 18 = .ok (.istore_n 2, 1) := by decide +kernel
theorem dX3_fewestSwaps_19 : decode cX3_fewestSwaps 19 = .ok (.iload_n 2, 1) := by decide +kernel
theorem dX3_fewestSwaps_20 : decode cX3_fewestSwaps 20 = .ok (.bipush 48, 2) := by decide +kernel
theorem dX3_fewestSwaps_22 : decode cX3_fewestSwaps 22 = .ok (.if_icmp .ge 29, 3) := by decide +kernel
theorem dX3_fewestSwaps_25 : decode cX3_fewestSwaps 25 = .ok (.aload_n 0, 1) := by decide +kernel
theorem dX3_fewestSwaps_26 : decode cX3_fewestSwaps 26 = .ok (.getfield 15, 3) := by decide +kernel
theorem dX3_fewestSwaps_29 : decode cX3_fewestSwaps 29 = .ok (.iload_n 2, 1) := by decide +kernel
theorem dX3_fewestSwaps_30 : decode cX3_fewestSwaps 30 = .ok (.iaload, 1) := by decide +kernel
theorem dX3_fewestSwaps_31 : decode cX3_fewestSwaps 31 = .ok (.iconst (-1), 1) := by decide +kernel
theorem dX3_fewestSwaps_32 : decode cX3_fewestSwaps 32 = .ok (.if_icmp .eq 13, 3) := by decide +kernel
theorem dX3_fewestSwaps_35 : decode cX3_fewestSwaps 35 = .ok (.iload_n 1, 1) := by decide +kernel
theorem dX3_fewestSwaps_36 : decode cX3_fewestSwaps 36 = .ok (.aload_n 0, 1) := by decide +kernel
theorem dX3_fewestSwaps_37 : decode cX3_fewestSwaps 37 = .ok (.iload_n 2, 1) := by decide +kernel
theorem dX3_fewestSwaps_38 : decode cX3_fewestSwaps 38 = .ok (.invokevirtual 28, 3) := by decide +kernel
theorem dX3_fewestSwaps_41 : decode cX3_fewestSwaps 41 = .ok (.iconst 1, 1) := by decide +kernel
theorem dX3_fewestSwaps_42 : decode cX3_fewestSwaps 42 = .ok (.isub, 1) := by decide +kernel
theorem dX3_fewestSwaps_43 : decode cX3_fewestSwaps 43 = .ok (.iadd, 1) := by decide +kernel
theorem dX3_fewestSwaps_44 : decode cX3_fewestSwaps 44 = .ok (.istore_n 1, 1) := by decide +kernel
theorem dX3_fewestSwaps_45 : decode cX3_fewestSwaps 45 = .ok (.iinc 2 1, 3) := by decide +kernel
theorem dX3_fewestSwaps_48 : decode cX3_fewestSwaps 48 = .ok (.goto (-29), 3) := by decide +kernel
theorem dX3_fewestSwaps_51 : decode cX3_fewestSwaps 51 = .ok (.iload_n 1, 1) := by decide +kernel
theorem dX3_fewestSwaps_52 : decode cX3_fewestSwaps 52 = .ok (.ireturn, 1) := by decide +kernel
theorem dX3_walkCycle_0 : decode cX3_walkCycle 0 = .ok (.iload_n 1, 1) := by decide +kernel
theorem dX3_walkCycle_1 : decode cX3_walkCycle 1 = .ok (.istore_n 2, 1) := by decide +kernel
theorem dX3_walkCycle_2 : decode cX3_walkCycle 2 = .ok (.iconst 0, 1) := by decide +kernel
theorem dX3_walkCycle_3 : decode cX3_walkCycle 3 = .ok (.istore_n 3, 1) := by decide +kernel
theorem dX3_walkCycle_4 : decode cX3_walkCycle 4 = .ok (.iload_n 3, 1) := by decide +kernel
theorem dX3_walkCycle_5 : decode cX3_walkCycle 5 = .ok (.bipush 48, 2) := by decide +kernel
theorem dX3_walkCycle_7 : decode cX3_walkCycle 7 = .ok (.if_icmp .ge 47, 3) := by decide +kernel
theorem dX3_walkCycle_10 : decode cX3_walkCycle 10 = .ok (.iload_n 2, 1) := by decide +kernel
theorem dX3_walkCycle_11 : decode cX3_walkCycle 11 = .ok (.iconst 0, 1) := by decide +kernel
theorem dX3_walkCycle_12 : decode cX3_walkCycle 12 = .ok (.bipush 47, 2) := by decide +kernel
theorem dX3_walkCycle_14 : decode cX3_walkCycle 14 = .ok (.invokestatic 32, 3) := by decide +kernel
theorem dX3_walkCycle_17 : decode cX3_walkCycle 17 = .ok (.ifCond .eq 37, 3) := by decide +kernel
theorem dX3_walkCycle_20 : decode cX3_walkCycle 20 = .ok (.aload_n 0, 1) := by decide +kernel
theorem dX3_walkCycle_21 : decode cX3_walkCycle 21 = .ok (.getfield 15, 3) := by decide +kernel
theorem dX3_walkCycle_24 : decode cX3_walkCycle 24 = .ok (.iload_n 2, 1) := by decide +kernel
theorem dX3_walkCycle_25 : decode cX3_walkCycle 25 = .ok (.iaload, 1) := by decide +kernel
theorem dX3_walkCycle_26 : decode cX3_walkCycle 26 = .ok (.iconst (-1), 1) := by decide +kernel
theorem dX3_walkCycle_27 : decode cX3_walkCycle 27 = .ok (.if_icmp .eq 27, 3) := by decide +kernel
theorem dX3_walkCycle_30 : decode cX3_walkCycle 30 = .ok (.aload_n 0, 1) := by decide +kernel
theorem dX3_walkCycle_31 : decode cX3_walkCycle 31 = .ok (.getfield 15, 3) := by decide +kernel
theorem dX3_walkCycle_34 : decode cX3_walkCycle 34 = .ok (.iload_n 2, 1) := by decide +kernel
theorem dX3_walkCycle_35 : decode cX3_walkCycle 35 = .ok (.iaload, 1) := by decide +kernel
theorem dX3_walkCycle_36 : decode cX3_walkCycle 36 = .ok (.istore 4, 2) := by decide +kernel
theorem dX3_walkCycle_38 : decode cX3_walkCycle 38 = .ok (.aload_n 0, 1) := by decide +kernel
theorem dX3_walkCycle_39 : decode cX3_walkCycle 39 = .ok (.getfield 15, 3) := by decide +kernel
theorem dX3_walkCycle_42 : decode cX3_walkCycle 42 = .ok (.iload_n 2, 1) := by decide +kernel
theorem dX3_walkCycle_43 : decode cX3_walkCycle 43 = .ok (.iconst (-1), 1) := by decide +kernel
theorem dX3_walkCycle_44 : decode cX3_walkCycle 44 = .ok (.iastore, 1) := by decide +kernel
theorem dX3_walkCycle_45 : decode cX3_walkCycle 45 = .ok (.iload 4, 2) := by decide +kernel
theorem dX3_walkCycle_47 : decode cX3_walkCycle 47 = .ok (.istore_n 2, 1) := by decide +kernel
theorem dX3_walkCycle_48 : decode cX3_walkCycle 48 = .ok (.iinc 3 1, 3) := by decide +kernel
theorem dX3_walkCycle_51 : decode cX3_walkCycle 51 = .ok (.goto (-47), 3) := by decide +kernel
theorem dX3_walkCycle_54 : decode cX3_walkCycle 54 = .ok (.iload_n 3, 1) := by decide +kernel
theorem dX3_walkCycle_55 : decode cX3_walkCycle 55 = .ok (.ireturn, 1) := by decide +kernel
theorem dX3_mixLegs_0 : decode cX3_mixLegs 0 = .ok (.lload_n 1, 1) := by decide +kernel
theorem dX3_mixLegs_1 : decode cX3_mixLegs 1 = .ok (.lstore 4, 2) := by decide +kernel
theorem dX3_mixLegs_3 : decode cX3_mixLegs 3 = .ok (.iconst 0, 1) := by decide +kernel
theorem dX3_mixLegs_4 : decode cX3_mixLegs 4 = .ok (.istore 6, 2) := by decide +kernel
theorem dX3_mixLegs_6 : decode cX3_mixLegs 6 = .ok (.iload 6, 2) := by decide +kernel
theorem dX3_mixLegs_8 : decode cX3_mixLegs 8 = .ok (.iconst 4, 1) := by decide +kernel
theorem dX3_mixLegs_9 : decode cX3_mixLegs 9 = .ok (.if_icmp .ge 27, 3) := by decide +kernel
theorem dX3_mixLegs_12 : decode cX3_mixLegs 12 = .ok (.lload 4, 2) := by decide +kernel
theorem dX3_mixLegs_14 : decode cX3_mixLegs 14 = .ok (.aload_n 0, 1) := by decide +kernel
theorem dX3_mixLegs_15 : decode cX3_mixLegs 15 = .ok (.getfield 9, 3) := by decide +kernel
theorem dX3_mixLegs_18 : decode cX3_mixLegs 18 = .ok (.iload_n 3, 1) := by decide +kernel
theorem dX3_mixLegs_19 : decode cX3_mixLegs 19 = .ok (.iload 6, 2) := by decide +kernel
theorem dX3_mixLegs_21 : decode cX3_mixLegs 21 = .ok (.invokestatic 18, 3) := by decide +kernel
theorem dX3_mixLegs_24 : decode cX3_mixLegs 24 = .ok (.iaload, 1) := by decide +kernel
theorem dX3_mixLegs_25 : decode cX3_mixLegs 25 = .ok (.invokestatic 36, 3) := by decide +kernel
theorem dX3_mixLegs_28 : decode cX3_mixLegs 28 = .ok (.lstore 4, 2) := by decide +kernel
theorem dX3_mixLegs_30 : decode cX3_mixLegs 30 = .ok (.iinc 6 1, 3) := by decide +kernel
theorem dX3_mixLegs_33 : decode cX3_mixLegs 33 = .ok (.goto (-27), 3) := by decide +kernel
theorem dX3_mixLegs_36 : decode cX3_mixLegs 36 = .ok (.lload 4, 2) := by decide +kernel
theorem dX3_mixLegs_38 : decode cX3_mixLegs 38 = .ok (.lreturn, 1) := by decide +kernel
theorem dX4_init_0 : decode cX4_init 0 = .ok (.aload_n 0, 1) := by decide +kernel
theorem dX4_init_1 : decode cX4_init 1 = .ok (.invokespecial 3, 3) := by decide +kernel
theorem dX4_init_4 : decode cX4_init 4 = .ok (.aload_n 0, 1) := by decide +kernel
theorem dX4_init_5 : decode cX4_init 5 = .ok (.bipush 12, 2) := by decide +kernel
theorem dX4_init_7 : decode cX4_init 7 = .ok (.newarray .int, 2) := by decide +kernel
theorem dX4_init_9 : decode cX4_init 9 = .ok (.putfield 9, 3) := by decide +kernel
theorem dX4_init_12 : decode cX4_init 12 = .ok (.aload_n 0, 1) := by decide +kernel
theorem dX4_init_13 : decode cX4_init 13 = .ok (.bipush 12, 2) := by decide +kernel
theorem dX4_init_15 : decode cX4_init 15 = .ok (.newarray .int, 2) := by decide +kernel
theorem dX4_init_17 : decode cX4_init 17 = .ok (.putfield 15, 3) := by decide +kernel
theorem dX4_init_20 : decode cX4_init 20 = .ok (.aload_n 0, 1) := by decide +kernel
theorem dX4_init_21 : decode cX4_init 21 = .ok (.sipush 3000, 3) := by decide +kernel
theorem dX4_init_24 : decode cX4_init 24 = .ok (.putfield 18, 3) := by decide +kernel
theorem dX4_init_27 : decode cX4_init 27 = .ok (.aload_n 0, 1) := by decide +kernel
theorem dX4_init_28 : decode cX4_init 28 = .ok (.sipush 5000, 3) := by decide +kernel
theorem dX4_init_31 : decode cX4_init 31 = .ok (.putfield 22, 3) := by decide +kernel
theorem dX4_init_34 : decode cX4_init 34 = .ok (.aload_n 0, 1) := by decide +kernel
theorem dX4_init_35 : decode cX4_init 35 = .ok (.iconst 0, 1) := by decide +kernel
theorem dX4_init_36 : decode cX4_init 36 = .ok (.putfield 25, 3) := by decide +kernel
theorem dX4_init_39 : decode cX4_init 39 = .ok (.aload_n 0, 1) := by decide +kernel
theorem dX4_init_40 : decode cX4_init 40 = .ok (.iconst 0, 1) := by decide +kernel
theorem dX4_init_41 : decode cX4_init 41 = .ok (.putfield 28, 3) := by decide +kernel
theorem dX4_init_44 : decode cX4_init 44 = .ok (.aload_n 0, 1) := by decide +kernel
theorem dX4_init_45 : decode cX4_init 45 = .ok (.iconst 0, 1) := by decide +kernel
theorem dX4_init_46 : decode cX4_init 46 = .ok (.putfield 31, 3) := by decide +kernel
theorem dX4_init_49 : decode cX4_init 49 = .ok (.aload_n 0, 1) := by decide +kernel
theorem dX4_init_50 : decode cX4_init 50 = .ok (.iconst 0, 1) := by decide +kernel
theorem dX4_init_51 : decode cX4_init 51 = .ok (.putfield 34, 3) := by decide +kernel
theorem dX4_init_54 : decode cX4_init 54 = .ok (.return_, 1) := by decide +kernel
theorem dX4_hasHorse_0 : decode cX4_hasHorse 0 = .ok (.iload_n 1, 1) := by decide +kernel
theorem dX4_hasHorse_1 : decode cX4_hasHorse 1 = .ok (.invokestatic 37, 3) := by decide +kernel
theorem dX4_hasHorse_4 : decode cX4_hasHorse 4 = .ok (.ifCond .eq 16, 3) := by decide +kernel
theorem dX4_hasHorse_7 : decode cX4_hasHorse 7 = .ok (.aload_n 0, 1) := by decide +kernel
theorem dX4_hasHorse_8 : decode cX4_hasHorse 8 = .ok (.getfield 9, 3) := by decide +kernel
theorem dX4_hasHorse_11 : decode cX4_hasHorse 11 = .ok (.iload_n 1, 1) := by decide +kernel
theorem dX4_hasHorse_12 : decode cX4_hasHorse 12 = .ok (.iaload, 1) := by decide +kernel
theorem dX4_hasHorse_13 : decode cX4_hasHorse 13 = .ok (.ifCond .le 7, 3) := by decide +kernel
theorem dX4_hasHorse_16 : decode cX4_hasHorse 16 = .ok (.iconst 1, 1) := by decide +kernel
theorem dX4_hasHorse_17 : decode cX4_hasHorse 17 = .ok (.goto 4, 3) := by decide +kernel
theorem dX4_hasHorse_20 : decode cX4_hasHorse 20 = .ok (.iconst 0, 1) := by decide +kernel
theorem dX4_hasHorse_21 : decode cX4_hasHorse 21 = .ok (.ireturn, 1) := by decide +kernel
theorem dX4_hasRider_0 : decode cX4_hasRider 0 = .ok (.iload_n 1, 1) := by decide +kernel
theorem dX4_hasRider_1 : decode cX4_hasRider 1 = .ok (.invokestatic 37, 3) := by decide +kernel
theorem dX4_hasRider_4 : decode cX4_hasRider 4 = .ok (.ifCond .eq 16, 3) := by decide +kernel
theorem dX4_hasRider_7 : decode cX4_hasRider 7 = .ok (.aload_n 0, 1) := by decide +kernel
theorem dX4_hasRider_8 : decode cX4_hasRider 8 = .ok (.getfield 15, 3) := by decide +kernel
theorem dX4_hasRider_11 : decode cX4_hasRider 11 = .ok (.iload_n 1, 1) := by decide +kernel
theorem dX4_hasRider_12 : decode cX4_hasRider 12 = .ok (.iaload, 1) := by decide +kernel
theorem dX4_hasRider_13 : decode cX4_hasRider 13 = .ok (.ifCond .le 7, 3) := by decide +kernel
theorem dX4_hasRider_16 : decode cX4_hasRider 16 = .ok (.iconst 1, 1) := by decide +kernel
theorem dX4_hasRider_17 : decode cX4_hasRider 17 = .ok (.goto 4, 3) := by decide +kernel
theorem dX4_hasRider_20 : decode cX4_hasRider 20 = .ok (.iconst 0, 1) := by decide +kernel
theorem dX4_hasRider_21 : decode cX4_hasRider 21 = .ok (.ireturn, 1) := by decide +kernel
theorem dX4_isFree_0 : decode cX4_isFree 0 = .ok (.aload_n 0, 1) := by decide +kernel
theorem dX4_isFree_1 : decode cX4_isFree 1 = .ok (.iload_n 1, 1) := by decide +kernel
theorem dX4_isFree_2 : decode cX4_isFree 2 = .ok (.invokevirtual 41, 3) := by decide +kernel
theorem dX4_isFree_5 : decode cX4_isFree 5 = .ok (.ifCond .eq 15, 3) := by decide +kernel
theorem dX4_isFree_8 : decode cX4_isFree 8 = .ok (.aload_n 0, 1) := by decide +kernel
theorem dX4_isFree_9 : decode cX4_isFree 9 = .ok (.iload_n 1, 1) := by decide +kernel
theorem dX4_isFree_10 : decode cX4_isFree 10 = .ok (.invokevirtual 44, 3) := by decide +kernel
theorem dX4_isFree_13 : decode cX4_isFree 13 = .ok (.ifCond .ne 7, 3) := by decide +kernel
theorem dX4_isFree_16 : decode cX4_isFree 16 = .ok (.iconst 1, 1) := by decide +kernel
theorem dX4_isFree_17 : decode cX4_isFree 17 = .ok (.goto 4, 3) := by decide +kernel
theorem dX4_isFree_20 : decode cX4_isFree 20 = .ok (.iconst 0, 1) := by decide +kernel
theorem dX4_isFree_21 : decode cX4_isFree 21 = .ok (.ireturn, 1) := by decide +kernel
theorem dX4_putHorse_0 : decode cX4_putHorse 0 = .ok (.aload_n 0, 1) := by decide +kernel
theorem dX4_putHorse_1 : decode cX4_putHorse 1 = .ok (.getfield 9, 3) := by decide +kernel
theorem dX4_putHorse_4 : decode cX4_putHorse 4 = .ok (.iload_n 1, 1) := by decide +kernel
theorem dX4_putHorse_5 : decode cX4_putHorse 5 = .ok (.iload_n 2, 1) := by decide +kernel
theorem dX4_putHorse_6 : decode cX4_putHorse 6 = .ok (.iastore, 1) := by decide +kernel
theorem dX4_putHorse_7 : decode cX4_putHorse 7 = .ok (.aload_n 0, 1) := by decide +kernel
theorem dX4_putHorse_8 : decode cX4_putHorse 8 = .ok (.iload_n 1, 1) := by decide +kernel
theorem dX4_putHorse_9 : decode cX4_putHorse 9 = .ok (.iload_n 2, 1) := by decide +kernel
theorem dX4_putHorse_10 : decode cX4_putHorse 10 = .ok (.invokevirtual 47, 3) := by decide +kernel
theorem dX4_putHorse_13 : decode cX4_putHorse 13 = .ok (.return_, 1) := by decide +kernel
theorem dX4_takeHorse_0 : decode cX4_takeHorse 0 = .ok (.aload_n 0, 1) := by decide +kernel
theorem dX4_takeHorse_1 : decode cX4_takeHorse 1 = .ok (.getfield 9, 3) := by decide +kernel
theorem dX4_takeHorse_4 : decode cX4_takeHorse 4 = .ok (.iload_n 1, 1) := by decide +kernel
theorem dX4_takeHorse_5 : decode cX4_takeHorse 5 = .ok (.iaload, 1) := by decide +kernel
theorem dX4_takeHorse_6 : decode cX4_takeHorse 6 = .ok (.istore_n 2, 1) := by decide +kernel
theorem dX4_takeHorse_7 : decode cX4_takeHorse 7 = .ok (.aload_n 0, 1) := by decide +kernel
theorem dX4_takeHorse_8 : decode cX4_takeHorse 8 = .ok (.getfield 9, 3) := by decide +kernel
theorem dX4_takeHorse_11 : decode cX4_takeHorse 11 = .ok (.iload_n 1, 1) := by decide +kernel
theorem dX4_takeHorse_12 : decode cX4_takeHorse 12 = .ok (.iconst 0, 1) := by decide +kernel
theorem dX4_takeHorse_13 : decode cX4_takeHorse 13 = .ok (.iastore, 1) := by decide +kernel
theorem dX4_takeHorse_14 : decode cX4_takeHorse 14 = .ok (.aload_n 0, 1) := by decide +kernel
theorem dX4_takeHorse_15 : decode cX4_takeHorse 15 = .ok (.iload_n 1, 1) := by decide +kernel
theorem dX4_takeHorse_16 : decode cX4_takeHorse 16 = .ok (.iload_n 2, 1) := by decide +kernel
theorem dX4_takeHorse_17 : decode cX4_takeHorse 17 = .ok (.ineg, 1) := by decide +kernel
theorem dX4_takeHorse_18 : decode cX4_takeHorse 18 = .ok (.invokevirtual 47, 3) := by decide +kernel
theorem dX4_takeHorse_21 : decode cX4_takeHorse 21 = .ok (.iload_n 2, 1) := by decide +kernel
theorem dX4_takeHorse_22 : decode cX4_takeHorse 22 = .ok (.ireturn, 1) := by decide +kernel
theorem dX4_putRider_0 : decode cX4_putRider 0 = .ok (.aload_n 0, 1) := by decide +kernel
theorem dX4_putRider_1 : decode cX4_putRider 1 = .ok (.getfield 15, 3) := by decide +kernel
theorem dX4_putRider_4 : decode cX4_putRider 4 = .ok (.iload_n 1, 1) := by decide +kernel
theorem dX4_putRider_5 : decode cX4_putRider 5 = .ok (.iload_n 2, 1) := by decide +kernel
theorem dX4_putRider_6 : decode cX4_putRider 6 = .ok (.iastore, 1) := by decide +kernel
theorem dX4_putRider_7 : decode cX4_putRider 7 = .ok (.aload_n 0, 1) := by decide +kernel
theorem dX4_putRider_8 : decode cX4_putRider 8 = .ok (.iload_n 1, 1) := by decide +kernel
theorem dX4_putRider_9 : decode cX4_putRider 9 = .ok (.iload_n 2, 1) := by decide +kernel
theorem dX4_putRider_10 : decode cX4_putRider 10 = .ok (.invokevirtual 47, 3) := by decide +kernel
theorem dX4_putRider_13 : decode cX4_putRider 13 = .ok (.return_, 1) := by decide +kernel
theorem dX4_takeRider_0 : decode cX4_takeRider 0 = .ok (.aload_n 0, 1) := by decide +kernel
theorem dX4_takeRider_1 : decode cX4_takeRider 1 = .ok (.getfield 15, 3) := by decide +kernel
theorem dX4_takeRider_4 : decode cX4_takeRider 4 = .ok (.iload_n 1, 1) := by decide +kernel
theorem dX4_takeRider_5 : decode cX4_takeRider 5 = .ok (.iaload, 1) := by decide +kernel
theorem dX4_takeRider_6 : decode cX4_takeRider 6 = .ok (.istore_n 2, 1) := by decide +kernel
theorem dX4_takeRider_7 : decode cX4_takeRider 7 = .ok (.aload_n 0, 1) := by decide +kernel
theorem dX4_takeRider_8 : decode cX4_takeRider 8 = .ok (.getfield 15, 3) := by decide +kernel
theorem dX4_takeRider_11 : decode cX4_takeRider 11 = .ok (.iload_n 1, 1) := by decide +kernel
theorem dX4_takeRider_12 : decode cX4_takeRider 12 = .ok (.iconst 0, 1) := by decide +kernel
theorem dX4_takeRider_13 : decode cX4_takeRider 13 = .ok (.iastore, 1) := by decide +kernel
theorem dX4_takeRider_14 : decode cX4_takeRider 14 = .ok (.aload_n 0, 1) := by decide +kernel
theorem dX4_takeRider_15 : decode cX4_takeRider 15 = .ok (.iload_n 1, 1) := by decide +kernel
theorem dX4_takeRider_16 : decode cX4_takeRider 16 = .ok (.iload_n 2, 1) := by decide +kernel
theorem dX4_takeRider_17 : decode cX4_takeRider 17 = .ok (.ineg, 1) := by decide +kernel
theorem dX4_takeRider_18 : decode cX4_takeRider 18 = .ok (.invokevirtual 47, 3) := by decide +kernel
theorem dX4_takeRider_21 : decode cX4_takeRider 21 = .ok (.iload_n 2, 1) := by decide +kernel
theorem dX4_takeRider_22 : decode cX4_takeRider 22 = .ok (.ireturn, 1) := by decide +kernel
theorem dX4_takeAllRiders_0 : decode cX4_takeAllRiders 0 = .ok (.iconst 0, 1) := by decide +kernel
theorem dX4_takeAllRiders_1 : decode cX4_takeAllRiders 1 = .ok (.istore_n 1, 1) := by decide +kernel
theorem dX4_takeAllRiders_2 : decode cX4_takeAllRiders 2 = .ok (.iload_n 1, 1) := by decide +kernel
theorem dX4_takeAllRiders_3 : decode cX4_takeAllRiders 3 = .ok (.bipush 12, 2) := by decide +kernel
theorem dX4_takeAllRiders_5 : decode cX4_takeAllRiders 5 = .ok (.if_icmp .ge 15, 3) := by decide +kernel
theorem dX4_takeAllRiders_8 : decode cX4_takeAllRiders 8 = .ok (.aload_n 0, 1) := by decide +kernel
theorem dX4_takeAllRiders_9 : decode cX4_takeAllRiders 9 = .ok (.iload_n 1, 1) := by decide +kernel
theorem dX4_takeAllRiders_10 : decode cX4_takeAllRiders 10 = .ok (.invokevirtual 51, 3) := by decide +kernel
theorem dX4_takeAllRiders_13 : decode cX4_takeAllRiders 13 = .ok (.pop, 1) := by decide +kernel
theorem dX4_takeAllRiders_14 : decode cX4_takeAllRiders 14 = .ok (.iinc 1 1, 3) := by decide +kernel
theorem dX4_takeAllRiders_17 : decode cX4_takeAllRiders 17 = .ok (.goto (-15), 3) := by decide +kernel
theorem dX4_takeAllRiders_20 : decode cX4_takeAllRiders 20 = .ok (.return_, 1) := by decide +kernel
theorem dX4_addLoad_0 : decode cX4_addLoad 0 = .ok (.aload_n 0, 1) := by decide +kernel
theorem dX4_addLoad_1 : decode cX4_addLoad 1 = .ok (.dup, 1) := by decide +kernel
theorem dX4_addLoad_2 : decode cX4_addLoad 2 = .ok (.getfield 25, 3) := by decide +kernel
theorem dX4_addLoad_5 : decode cX4_addLoad 5 = .ok (.iload_n 2, 1) := by decide +kernel
theorem dX4_addLoad_6 : decode cX4_addLoad 6 = .ok (.getstatic 55, 3) := by decide +kernel
theorem dX4_addLoad_9 : decode cX4_addLoad 9 = .ok (.iload_n 1, 1) := by decide +kernel
theorem dX4_addLoad_10 : decode cX4_addLoad 10 = .ok (.iaload, 1) := by decide +kernel
theorem dX4_addLoad_11 : decode cX4_addLoad 11 = .ok (.imul, 1) := by decide +kernel
theorem dX4_addLoad_12 : decode cX4_addLoad 12 = .ok (.iadd, 1) := by decide +kernel
theorem dX4_addLoad_13 : decode cX4_addLoad 13 = .ok (.putfield 25, 3) := by decide +kernel
theorem dX4_addLoad_16 : decode cX4_addLoad 16 = .ok (.aload_n 0, 1) := by decide +kernel
theorem dX4_addLoad_17 : decode cX4_addLoad 17 = .ok (.dup, 1) := by decide +kernel
theorem dX4_addLoad_18 : decode cX4_addLoad 18 = .ok (.getfield 28, 3) := by decide +kernel
theorem dX4_addLoad_21 : decode cX4_addLoad 21 = .ok (.iload_n 2, 1) := by decide +kernel
theorem dX4_addLoad_22 : decode cX4_addLoad 22 = .ok (.getstatic 58, 3) := by decide +kernel
theorem dX4_addLoad_25 : decode cX4_addLoad 25 = .ok (.iload_n 1, 1) := by decide +kernel
theorem dX4_addLoad_26 : decode cX4_addLoad 26 = .ok (.iaload, 1) := by decide +kernel
theorem dX4_addLoad_27 : decode cX4_addLoad 27 = .ok (.imul, 1) := by decide +kernel
theorem dX4_addLoad_28 : decode cX4_addLoad 28 = .ok (.iadd, 1) := by decide +kernel
theorem dX4_addLoad_29 : decode cX4_addLoad 29 = .ok (.putfield 28, 3) := by decide +kernel
theorem dX4_addLoad_32 : decode cX4_addLoad 32 = .ok (.aload_n 0, 1) := by decide +kernel
theorem dX4_addLoad_33 : decode cX4_addLoad 33 = .ok (.dup, 1) := by decide +kernel
theorem dX4_addLoad_34 : decode cX4_addLoad 34 = .ok (.getfield 31, 3) := by decide +kernel
theorem dX4_addLoad_37 : decode cX4_addLoad 37 = .ok (.iload_n 1, 1) := by decide +kernel
theorem dX4_addLoad_38 : decode cX4_addLoad 38 = .ok (.iload_n 2, 1) := by decide +kernel
theorem dX4_addLoad_39 : decode cX4_addLoad 39 = .ok (.invokestatic 61, 3) := by decide +kernel
theorem dX4_addLoad_42 : decode cX4_addLoad 42 = .ok (.iadd, 1) := by decide +kernel
theorem dX4_addLoad_43 : decode cX4_addLoad 43 = .ok (.putfield 31, 3) := by decide +kernel
theorem dX4_addLoad_46 : decode cX4_addLoad 46 = .ok (.aload_n 0, 1) := by decide +kernel
theorem dX4_addLoad_47 : decode cX4_addLoad 47 = .ok (.dup, 1) := by decide +kernel
theorem dX4_addLoad_48 : decode cX4_addLoad 48 = .ok (.getfield 34, 3) := by decide +kernel
theorem dX4_addLoad_51 : decode cX4_addLoad 51 = .ok (.iload_n 2, 1) := by decide +kernel
theorem dX4_addLoad_52 : decode cX4_addLoad 52 = .ok (.iadd, 1) := by decide +kernel
theorem dX4_addLoad_53 : decode cX4_addLoad 53 = .ok (.putfield 34, 3) := by decide +kernel
theorem dX4_addLoad_56 : decode cX4_addLoad 56 = .ok (.return_, 1) := by decide +kernel
theorem dX4_liftOf_0 : decode cX4_liftOf 0 = .ok (.iload_n 0, 1) := by decide +kernel
theorem dX4_liftOf_1 : decode cX4_liftOf 1 = .ok (.iconst 2, 1) := by decide +kernel
theorem dX4_liftOf_2 : decode cX4_liftOf 2 = .ok (.irem, 1) := by decide +kernel
theorem dX4_liftOf_3 : decode cX4_liftOf 3 = .ok (.ifCond .ne 7, 3) := by decide +kernel
theorem dX4_liftOf_6 : decode cX4_liftOf 6 = .ok (.iload_n 1, 1) := by decide +kernel
theorem dX4_liftOf_7 : decode cX4_liftOf 7 = .ok (.goto 5, 3) := by decide +kernel
theorem dX4_liftOf_10 : decode cX4_liftOf 10 = .ok (.iload_n 1, 1) := by decide +kernel
theorem dX4_liftOf_11 : decode cX4_liftOf 11 = .ok (.ineg, 1) := by decide +kernel
theorem dX4_liftOf_12 : decode cX4_liftOf 12 = .ok (.ireturn, 1) := by decide +kernel
theorem dX4_shakeNow_0 : decode cX4_shakeNow 0 = .ok (.aload_n 0, 1) := by decide +kernel
theorem dX4_shakeNow_1 : decode cX4_shakeNow 1 = .ok (.getfield 25, 3) := by decide +kernel
theorem dX4_shakeNow_4 : decode cX4_shakeNow 4 = .ok (.aload_n 0, 1) := by decide +kernel
theorem dX4_shakeNow_5 : decode cX4_shakeNow 5 = .ok (.getfield 28, 3) := by decide +kernel
theorem dX4_shakeNow_8 : decode cX4_shakeNow 8 = .ok (.invokestatic 65, 3) := by decide +kernel
theorem dX4_shakeNow_11 : decode cX4_shakeNow 11 = .ok (.ireturn, 1) := by decide +kernel
theorem dX4_shakeWith_0 : decode cX4_shakeWith 0 = .ok (.aload_n 0, 1) := by decide +kernel
theorem dX4_shakeWith_1 : decode cX4_shakeWith 1 = .ok (.getfield 25, 3) := by decide +kernel
theorem dX4_shakeWith_4 : decode cX4_shakeWith 4 = .ok (.iload_n 2, 1) := by decide +kernel
theorem dX4_shakeWith_5 : decode cX4_shakeWith 5 = .ok (.getstatic 55, 3) := by decide +kernel
theorem dX4_shakeWith_8 : decode cX4_shakeWith 8 = .ok (.iload_n 1, 1) := by decide +kernel
theorem dX4_shakeWith_9 : decode cX4_shakeWith 9 = .ok (.iaload, 1) := by decide +kernel
theorem dX4_shakeWith_10 : decode cX4_shakeWith 10 = .ok (.imul, 1) := by decide +kernel
theorem dX4_shakeWith_11 : decode cX4_shakeWith 11 = .ok (.iadd, 1) := by decide +kernel
theorem dX4_shakeWith_12 : decode cX4_shakeWith 12 = .ok (.aload_n 0, 1) := by decide +kernel
theorem dX4_shakeWith_13 : decode cX4_shakeWith 13 = .ok (.getfield 28, 3) := by decide +kernel
theorem dX4_shakeWith_16 : decode cX4_shakeWith 16 = .ok (.iload_n 2, 1) := by decide +kernel
theorem dX4_shakeWith_17 : decode cX4_shakeWith 17 = .ok (.getstatic 58, 3) := by decide +kernel
theorem dX4_shakeWith_20 : decode cX4_shakeWith 20 = .ok (.iload_n 1, 1) := by decide +kernel
theorem dX4_shakeWith_21 : decode cX4_shakeWith 21 = .ok (.iaload, 1) := by decide +kernel
theorem dX4_shakeWith_22 : decode cX4_shakeWith 22 = .ok (.imul, 1) := by decide +kernel
theorem dX4_shakeWith_23 : decode cX4_shakeWith 23 = .ok (.iadd, 1) := by decide +kernel
theorem dX4_shakeWith_24 : decode cX4_shakeWith 24 = .ok (.invokestatic 65, 3) := by decide +kernel
theorem dX4_shakeWith_27 : decode cX4_shakeWith 27 = .ok (.ireturn, 1) := by decide +kernel
theorem dX4_mayTurn_0 : decode cX4_mayTurn 0 = .ok (.aload_n 0, 1) := by decide +kernel
theorem dX4_mayTurn_1 : decode cX4_mayTurn 1 = .ok (.aload_n 0, 1) := by decide +kernel
theorem dX4_mayTurn_2 : decode cX4_mayTurn 2 = .ok (.invokevirtual 68, 3) := by decide +kernel
theorem dX4_mayTurn_5 : decode cX4_mayTurn 5 = .ok (.aload_n 0, 1) := by decide +kernel
theorem dX4_mayTurn_6 : decode cX4_mayTurn 6 = .ok (.getfield 31, 3) := by decide +kernel
theorem dX4_mayTurn_9 : decode cX4_mayTurn 9 = .ok (.invokevirtual 72, 3) := by decide +kernel
theorem dX4_mayTurn_12 : decode cX4_mayTurn 12 = .ok (.ireturn, 1) := by decide +kernel
theorem dX4_mayTurnWith_0 : decode cX4_mayTurnWith 0 = .ok (.aload_n 0, 1) := by decide +kernel
theorem dX4_mayTurnWith_1 : decode cX4_mayTurnWith 1 = .ok (.aload_n 0, 1) := by decide +kernel
theorem dX4_mayTurnWith_2 : decode cX4_mayTurnWith 2 = .ok (.iload_n 1, 1) := by decide +kernel
theorem dX4_mayTurnWith_3 : decode cX4_mayTurnWith 3 = .ok (.iload_n 2, 1) := by decide +kernel
theorem dX4_mayTurnWith_4 : decode cX4_mayTurnWith 4 = .ok (.invokevirtual 76, 3) := by decide +kernel
theorem dX4_mayTurnWith_7 : decode cX4_mayTurnWith 7 = .ok (.aload_n 0, 1) := by decide +kernel
theorem dX4_mayTurnWith_8 : decode cX4_mayTurnWith 8 = .ok (.getfield 31, 3) := by decide +kernel
theorem dX4_mayTurnWith_11 : decode cX4_mayTurnWith 11 = .ok (.iload_n 1, 1) := by decide +kernel
theorem dX4_mayTurnWith_12 : decode cX4_mayTurnWith 12 = .ok (.iload_n 2, 1) := by decide +kernel
theorem dX4_mayTurnWith_13 : decode cX4_mayTurnWith 13 = .ok (.invokestatic 61, 3) := by decide +kernel
theorem dX4_mayTurnWith_16 : decode cX4_mayTurnWith 16 = .ok (.iadd, 1) := by decide +kernel
theorem dX4_mayTurnWith_17 : decode cX4_mayTurnWith 17 = .ok (.invokevirtual 72, 3) := by decide +kernel
theorem dX4_mayTurnWith_20 : decode cX4_mayTurnWith 20 = .ok (.ireturn, 1) := by decide +kernel
theorem dX4_isLawful_0 : decode cX4_isLawful 0 = .ok (.iload_n 1, 1) := by decide +kernel
theorem dX4_isLawful_1 : decode cX4_isLawful 1 = .ok (.aload_n 0, 1) := by decide +kernel
theorem dX4_isLawful_2 : decode cX4_isLawful 2 = .ok (.getfield 18, 3) := by decide +kernel
theorem dX4_isLawful_5 : decode cX4_isLawful 5 = .ok (.aload_n 0, 1) := by decide +kernel
theorem dX4_isLawful_6 : decode cX4_isLawful 6 = .ok (.getfield 18, 3) := by decide +kernel
theorem dX4_isLawful_9 : decode cX4_isLawful 9 = .ok (.imul, 1) := by decide +kernel
theorem dX4_isLawful_10 : decode cX4_isLawful 10 = .ok (.if_icmp .gt 18, 3) := by decide +kernel
theorem dX4_isLawful_13 : decode cX4_isLawful 13 = .ok (.iload_n 2, 1) := by decide +kernel
theorem dX4_isLawful_14 : decode cX4_isLawful 14 = .ok (.invokestatic 79, 3) := by decide +kernel
theorem dX4_isLawful_17 : decode cX4_isLawful 17 = .ok (.aload_n 0, 1) := by decide +kernel
theorem dX4_isLawful_18 : decode cX4_isLawful 18 = .ok (.getfield 22, 3) := by decide +kernel
theorem dX4_isLawful_21 : decode cX4_isLawful 21 = .ok (.if_icmp .gt 7, 3) := by decide +kernel
theorem dX4_isLawful_24 : decode cX4_isLawful 24 = .ok (.iconst 1, 1) := by decide +kernel
theorem dX4_isLawful_25 : decode cX4_isLawful 25 = .ok (.goto 4, 3) := by decide +kernel
theorem dX4_isLawful_28 : decode cX4_isLawful 28 = .ok (.iconst 0, 1) := by decide +kernel
theorem dX4_isLawful_29 : decode cX4_isLawful 29 = .ok (.ireturn, 1) := by decide +kernel
theorem dX4_bestHorse_0 : decode cX4_bestHorse 0 = .ok (.iconst (-1), 1) := by decide +kernel
theorem dX4_bestHorse_1 : decode cX4_bestHorse 1 = .ok (.istore_n 2, 1) := by decide +kernel
theorem dX4_bestHorse_2 : decode cX4_bestHorse 2 = .ok (.iconst 0, 1) := by decide +kernel
theorem dX4_bestHorse_3 : decode cX4_bestHorse 3 = .ok (.istore_n 3, 1) := by decide +kernel
theorem dX4_bestHorse_4 : decode cX4_bestHorse 4 = .ok (.iconst 0, 1) := by decide +kernel
theorem dX4_bestHorse_5 : decode cX4_bestHorse 5 = .ok (.istore 4, 2) := by decide +kernel
theorem dX4_bestHorse_7 : decode cX4_bestHorse 7 = .ok (.iload 4, 2) := by decide +kernel
theorem dX4_bestHorse_9 : decode cX4_bestHorse 9 = .ok (.bipush 12, 2) := by decide +kernel
theorem dX4_bestHorse_11 : decode cX4_bestHorse 11 = .ok (.if_icmp .ge 54, 3) := by decide +kernel
theorem dX4_bestHorse_14 : decode cX4_bestHorse 14 = .ok (.aload_n 0, 1) := by decide +kernel
theorem dX4_bestHorse_15 : decode cX4_bestHorse 15 = .ok (.iload 4, 2) := by decide +kernel
theorem dX4_bestHorse_17 : decode cX4_bestHorse 17 = .ok (.invokevirtual 84, 3) := by decide +kernel
theorem dX4_bestHorse_20 : decode cX4_bestHorse 20 = .ok (.ifCond .eq 39, 3) := by decide +kernel
theorem dX4_bestHorse_23 : decode cX4_bestHorse 23 = .ok (.aload_n 0, 1) := by decide +kernel
theorem dX4_bestHorse_24 : decode cX4_bestHorse 24 = .ok (.iload 4, 2) := by decide +kernel
theorem dX4_bestHorse_26 : decode cX4_bestHorse 26 = .ok (.iload_n 1, 1) := by decide +kernel
theorem dX4_bestHorse_27 : decode cX4_bestHorse 27 = .ok (.invokevirtual 87, 3) := by decide +kernel
theorem dX4_bestHorse_30 : decode cX4_bestHorse 30 = .ok (.ifCond .eq 29, 3) := by decide +kernel
theorem dX4_bestHorse_33 : decode cX4_bestHorse 33 = .ok (.aload_n 0, 1) := by decide +kernel
theorem dX4_bestHorse_34 : decode cX4_bestHorse 34 = .ok (.iload 4, 2) := by decide +kernel
theorem dX4_bestHorse_36 : decode cX4_bestHorse 36 = .ok (.iload_n 1, 1) := by decide +kernel
theorem dX4_bestHorse_37 : decode cX4_bestHorse 37 = .ok (.invokevirtual 76, 3) := by decide +kernel
theorem dX4_bestHorse_40 : decode cX4_bestHorse 40 = .ok (.istore 5, 2) := by decide +kernel
theorem dX4_bestHorse_42 : decode cX4_bestHorse 42 = .ok (.iload_n 2, 1) := by decide +kernel
theorem dX4_bestHorse_43 : decode cX4_bestHorse 43 = .ok (.iconst (-1), 1) := by decide +kernel
theorem dX4_bestHorse_44 : decode cX4_bestHorse 44 = .ok (.if_icmp .eq 9, 3) := by decide +kernel
theorem dX4_bestHorse_47 : decode cX4_bestHorse 47 = .ok (.iload 5, 2) := by decide +kernel
theorem dX4_bestHorse_49 : decode cX4_bestHorse 49 = .ok (.iload_n 3, 1) := by decide +kernel
theorem dX4_bestHorse_50 : decode cX4_bestHorse 50 = .ok (.if_icmp .ge 9, 3) := by decide +kernel
theorem dX4_bestHorse_53 : decode cX4_bestHorse 53 = .ok (.iload 4, 2) := by decide +kernel
theorem dX4_bestHorse_55 : decode cX4_bestHorse 55 = .ok (.istore_n 2, 1) := by decide +kernel
theorem dX4_bestHorse_56 : decode cX4_bestHorse 56 = .ok (.iload 5, 2) := by decide +kernel
theorem dX4_bestHorse_58 : decode cX4_bestHorse 58 = .ok (.istore_n 3, 1) := by decide +kernel
theorem dX4_bestHorse_59 : decode cX4_bestHorse 59 = .ok (.iinc 4 1, 3) := by decide +kernel
theorem dX4_bestHorse_62 : decode cX4_bestHorse 62 = .ok (.goto (-55), 3) := by decide +kernel
theorem dX4_bestHorse_65 : decode cX4_bestHorse 65 = .ok (.iload_n 2, 1) := by decide +kernel
theorem dX4_bestHorse_66 : decode cX4_bestHorse 66 = .ok (.ireturn, 1) := by decide +kernel
theorem dX4_horsesStanding_0 : decode cX4_horsesStanding 0 = .ok (.aload_n 0, 1) := by decide +kernel
theorem dX4_horsesStanding_1 : decode cX4_horsesStanding 1 = .ok (.getfield 9, 3) := by decide +kernel
theorem dX4_horsesStanding_4 : decode cX4_horsesStanding 4 = .ok (.invokestatic 90, 3) := by decide +kernel
theorem dX4_horsesStanding_7 : decode cX4_horsesStanding 7 = .ok (.ireturn, 1) := by decide +kernel
theorem dX4_ridersSitting_0 : decode cX4_ridersSitting 0 = .ok (.aload_n 0, 1) := by decide +kernel
theorem dX4_ridersSitting_1 : decode cX4_ridersSitting 1 = .ok (.getfield 15, 3) := by decide +kernel
theorem dX4_ridersSitting_4 : decode cX4_ridersSitting 4 = .ok (.invokestatic 90, 3) := by decide +kernel
theorem dX4_ridersSitting_7 : decode cX4_ridersSitting 7 = .ok (.ireturn, 1) := by decide +kernel
theorem dX4_freeHorses_0 : decode cX4_freeHorses 0 = .ok (.aload_n 0, 1) := by decide +kernel
theorem dX4_freeHorses_1 : decode cX4_freeHorses 1 = .ok (.invokevirtual 94, 3) := by decide +kernel
theorem dX4_freeHorses_4 : decode cX4_freeHorses 4 = .ok (.aload_n 0, 1) := by decide +kernel
theorem dX4_freeHorses_5 : decode cX4_freeHorses 5 = .ok (.invokevirtual 97, 3) := by decide +kernel
theorem dX4_freeHorses_8 : decode cX4_freeHorses 8 = .ok (.isub, 1) := by decide +kernel
theorem dX4_freeHorses_9 : decode cX4_freeHorses 9 = .ok (.ireturn, 1) := by decide +kernel
theorem dX4_numberAboveZero_0 : decode cX4_numberAboveZero 0 = .ok (.iconst 0, 1) := by decide +kernel
theorem dX4_numberAboveZero_1 : decode cX4_numberAboveZero 1 = .ok (.istore_n 1, 1) := by decide +kernel
theorem dX4_numberAboveZero_2 : decode cX4_numberAboveZero 2 = .ok (.aload_n 0, 1) := by decide +kernel
theorem dX4_numberAboveZero_3 : decode cX4_numberAboveZero 3 = .ok (.astore_n 2, 1) := by decide +kernel
theorem dX4_numberAboveZero_4 : decode cX4_numberAboveZero 4 = .ok (.aload_n 2, 1) := by decide +kernel
theorem dX4_numberAboveZero_5 : decode cX4_numberAboveZero 5 = .ok (.arraylength, 1) := by decide +kernel
theorem dX4_numberAboveZero_6 : decode cX4_numberAboveZero 6 = .ok (.istore_n 3, 1) := by decide +kernel
theorem dX4_numberAboveZero_7 : decode cX4_numberAboveZero 7 = .ok (.iconst 0, 1) := by decide +kernel
theorem dX4_numberAboveZero_8 : decode cX4_numberAboveZero 8 = .ok (.istore 4, 2) := by decide +kernel
theorem dX4_numberAboveZero_10 : decode cX4_numberAboveZero 10 = .ok (.iload 4, 2) := by decide +kernel
theorem dX4_numberAboveZero_12 : decode cX4_numberAboveZero 12 = .ok (.iload_n 3, 1) := by decide +kernel
theorem dX4_numberAboveZero_13 : decode cX4_numberAboveZero 13 = .ok (.if_icmp .ge 23, 3) := by decide +kernel
theorem dX4_numberAboveZero_16 : decode cX4_numberAboveZero 16 = .ok (.aload_n 2, 1) := by decide +kernel
theorem dX4_numberAboveZero_17 : decode cX4_numberAboveZero 17 = .ok (.iload 4, 2) := by decide +kernel
theorem dX4_numberAboveZero_19 : decode cX4_numberAboveZero 19 = .ok (.iaload, 1) := by decide +kernel
theorem dX4_numberAboveZero_20 : decode cX4_numberAboveZero 20 = .ok (.istore 5, 2) := by decide +kernel
theorem dX4_numberAboveZero_22 : decode cX4_numberAboveZero 22 = .ok (.iload 5, 2) := by decide +kernel
theorem dX4_numberAboveZero_24 : decode cX4_numberAboveZero 24 = .ok (.ifCond .le 6, 3) := by decide +kernel
theorem dX4_numberAboveZero_27 : decode cX4_numberAboveZero 27 = .ok (.iinc 1 1, 3) := by decide +kernel
theorem dX4_numberAboveZero_30 : decode cX4_numberAboveZero 30 = .ok (.iinc 4 1, 3) := by decide +kernel
theorem dX4_numberAboveZero_33 : decode cX4_numberAboveZero 33 = .ok (.goto (-23), 3) := by decide +kernel
theorem dX4_numberAboveZero_36 : decode cX4_numberAboveZero 36 = .ok (.iload_n 1, 1) := by decide +kernel
theorem dX4_numberAboveZero_37 : decode cX4_numberAboveZero 37 = .ok (.ireturn, 1) := by decide +kernel
theorem dX5_init_0 : decode cX5_init 0 = .ok (.aload_n 0, 1) := by decide +kernel
theorem dX5_init_1 : decode cX5_init 1 = .ok (.invokespecial 3, 3) := by decide +kernel
theorem dX5_init_4 : decode cX5_init 4 = .ok (.aload_n 0, 1) := by decide +kernel
theorem dX5_init_5 : decode cX5_init 5 = .ok (.iconst 3, 1) := by decide +kernel
theorem dX5_init_6 : decode cX5_init 6 = .ok (.newarray .int, 2) := by decide +kernel
theorem dX5_init_8 : decode cX5_init 8 = .ok (.putfield 9, 3) := by decide +kernel
theorem dX5_init_11 : decode cX5_init 11 = .ok (.aload_n 0, 1) := by decide +kernel
theorem dX5_init_12 : decode cX5_init 12 = .ok (.iconst 3, 1) := by decide +kernel
theorem dX5_init_13 : decode cX5_init 13 = .ok (.newarray .int, 2) := by decide +kernel
theorem dX5_init_15 : decode cX5_init 15 = .ok (.putfield 15, 3) := by decide +kernel
theorem dX5_init_18 : decode cX5_init 18 = .ok (.aload_n 0, 1) := by decide +kernel
theorem dX5_init_19 : decode cX5_init 19 = .ok (.iconst 3, 1) := by decide +kernel
theorem dX5_init_20 : decode cX5_init 20 = .ok (.newarray .int, 2) := by decide +kernel
theorem dX5_init_22 : decode cX5_init 22 = .ok (.putfield 18, 3) := by decide +kernel
theorem dX5_init_25 : decode cX5_init 25 = .ok (.aload_n 0, 1) := by decide +kernel
theorem dX5_init_26 : decode cX5_init 26 = .ok (.iconst 0, 1) := by decide +kernel
theorem dX5_init_27 : decode cX5_init 27 = .ok (.putfield 21, 3) := by decide +kernel
theorem dX5_init_30 : decode cX5_init 30 = .ok (.aload_n 0, 1) := by decide +kernel
theorem dX5_init_31 : decode cX5_init 31 = .ok (.iconst (-1), 1) := by decide +kernel
theorem dX5_init_32 : decode cX5_init 32 = .ok (.putfield 25, 3) := by decide +kernel
theorem dX5_init_35 : decode cX5_init 35 = .ok (.return_, 1) := by decide +kernel
theorem dX5_choose_0 : decode cX5_choose 0 = .ok (.aload_n 0, 1) := by decide +kernel
theorem dX5_choose_1 : decode cX5_choose 1 = .ok (.getfield 9, 3) := by decide +kernel
theorem dX5_choose_4 : decode cX5_choose 4 = .ok (.iconst 0, 1) := by decide +kernel
theorem dX5_choose_5 : decode cX5_choose 5 = .ok (.iload_n 3, 1) := by decide +kernel
theorem dX5_choose_6 : decode cX5_choose 6 = .ok (.iastore, 1) := by decide +kernel
theorem dX5_choose_7 : decode cX5_choose 7 = .ok (.aload_n 0, 1) := by decide +kernel
theorem dX5_choose_8 : decode cX5_choose 8 = .ok (.getfield 9, 3) := by decide +kernel
theorem dX5_choose_11 : decode cX5_choose 11 = .ok (.iconst 1, 1) := by decide +kernel
theorem dX5_choose_12 : decode cX5_choose 12 = .ok (.iload 4, 2) := by decide +kernel
theorem dX5_choose_14 : decode cX5_choose 14 = .ok (.iastore, 1) := by decide +kernel
theorem dX5_choose_15 : decode cX5_choose 15 = .ok (.aload_n 0, 1) := by decide +kernel
theorem dX5_choose_16 : decode cX5_choose 16 = .ok (.getfield 9, 3) := by decide +kernel
theorem dX5_choose_19 : decode cX5_choose 19 = .ok (.iconst 2, 1) := by decide +kernel
theorem dX5_choose_20 : decode cX5_choose 20 = .ok (.iload 5, 2) := by decide +kernel
theorem dX5_choose_22 : decode cX5_choose 22 = .ok (.iastore, 1) := by decide +kernel
theorem dX5_choose_23 : decode cX5_choose 23 = .ok (.aload_n 0, 1) := by decide +kernel
theorem dX5_choose_24 : decode cX5_choose 24 = .ok (.iload_n 2, 1) := by decide +kernel
theorem dX5_choose_25 : decode cX5_choose 25 = .ok (.putfield 21, 3) := by decide +kernel
theorem dX5_choose_28 : decode cX5_choose 28 = .ok (.aload_n 0, 1) := by decide +kernel
theorem dX5_choose_29 : decode cX5_choose 29 = .ok (.iconst (-1), 1) := by decide +kernel
theorem dX5_choose_30 : decode cX5_choose 30 = .ok (.putfield 25, 3) := by decide +kernel
theorem dX5_choose_33 : decode cX5_choose 33 = .ok (.aload_n 0, 1) := by decide +kernel
theorem dX5_choose_34 : decode cX5_choose 34 = .ok (.aload_n 1, 1) := by decide +kernel
theorem dX5_choose_35 : decode cX5_choose 35 = .ok (.iconst 0, 1) := by decide +kernel
theorem dX5_choose_36 : decode cX5_choose 36 = .ok (.aload_n 1, 1) := by decide +kernel
theorem dX5_choose_37 : decode cX5_choose 37 = .ok (.getfield 28, 3) := by decide +kernel
theorem dX5_choose_40 : decode cX5_choose 40 = .ok (.aload_n 1, 1) := by decide +kernel
theorem dX5_choose_41 : decode cX5_choose 41 = .ok (.getfield 33, 3) := by decide +kernel
theorem dX5_choose_44 : decode cX5_choose 44 = .ok (.invokestatic 36, 3) := by decide +kernel
theorem dX5_choose_47 : decode cX5_choose 47 = .ok (.return_, 1) := by decide +kernel
theorem dX5_tryRiders_0 : decode cX5_tryRiders 0 = .ok (.iload_n 2, 1) := by decide +kernel
theorem dX5_tryRiders_1 : decode cX5_tryRiders 1 = .ok (.aload_n 0, 1) := by decide +kernel
theorem dX5_tryRiders_2 : decode cX5_tryRiders 2 = .ok (.getfield 21, 3) := by decide +kernel
theorem dX5_tryRiders_5 : decode cX5_tryRiders 5 = .ok (.if_icmp .ge 8, 3) := by decide +kernel
theorem dX5_tryRiders_8 : decode cX5_tryRiders 8 = .ok (.iload_n 2, 1) := by decide +kernel
theorem dX5_tryRiders_9 : decode cX5_tryRiders 9 = .ok (.iconst 3, 1) := by decide +kernel
theorem dX5_tryRiders_10 : decode cX5_tryRiders 10 = .ok (.if_icmp .lt 14, 3) := by decide +kernel
theorem dX5_tryRiders_13 : decode cX5_tryRiders 13 = .ok (.aload_n 0, 1) := by decide +kernel
theorem dX5_tryRiders_14 : decode cX5_tryRiders 14 = .ok (.iload_n 3, 1) := by decide +kernel
theorem dX5_tryRiders_15 : decode cX5_tryRiders 15 = .ok (.iload 4, 2) := by decide +kernel
theorem dX5_tryRiders_17 : decode cX5_tryRiders 17 = .ok (.invokestatic 40, 3) := by decide +kernel
theorem dX5_tryRiders_20 : decode cX5_tryRiders 20 = .ok (.invokevirtual 44, 3) := by decide +kernel
theorem dX5_tryRiders_23 : decode cX5_tryRiders 23 = .ok (.return_, 1) := by decide +kernel
theorem dX5_tryRiders_24 : decode cX5_tryRiders 24 = .ok (.aload_n 0, 1) := by decide +kernel
theorem dX5_tryRiders_25 : decode cX5_tryRiders 25 = .ok (.getfield 9, 3) := by decide +kernel
theorem dX5_tryRiders_28 : decode cX5_tryRiders 28 = .ok (.iload_n 2, 1) := by decide +kernel
theorem dX5_tryRiders_29 : decode cX5_tryRiders 29 = .ok (.iaload, 1) := by decide +kernel
theorem dX5_tryRiders_30 : decode cX5_tryRiders 30 = .ok (.istore 5, 2) := by decide +kernel
theorem dX5_tryRiders_32 : decode cX5_tryRiders 32 = .ok (.iconst 0, 1) := by decide +kernel
theorem dX5_tryRiders_33 : decode cX5_tryRiders 33 = .ok (.istore 6, 2) := by decide +kernel
theorem dX5_tryRiders_35 : decode cX5_tryRiders 35 = .ok (.iload 6, 2) := by decide +kernel
theorem dX5_tryRiders_37 : decode cX5_tryRiders 37 = .ok (.bipush 12, 2) := by decide +kernel
theorem dX5_tryRiders_39 : decode cX5_tryRiders 39 = .ok (.if_icmp .ge 67, 3) := by decide +kernel
theorem dX5_tryRiders_42 : decode cX5_tryRiders 42 = .ok (.aload_n 1, 1) := by decide +kernel
theorem dX5_tryRiders_43 : decode cX5_tryRiders 43 = .ok (.iload 6, 2) := by decide +kernel
theorem dX5_tryRiders_45 : decode cX5_tryRiders 45 = .ok (.invokevirtual 48, 3) := by decide +kernel
theorem dX5_tryRiders_48 : decode cX5_tryRiders 48 = .ok (.ifCond .eq 52, 3) := by decide +kernel
theorem dX5_tryRiders_51 : decode cX5_tryRiders 51 = .ok (.aload_n 0, 1) := by decide +kernel
theorem dX5_tryRiders_52 : decode cX5_tryRiders 52 = .ok (.iload 6, 2) := by decide +kernel
theorem dX5_tryRiders_54 : decode cX5_tryRiders 54 = .ok (.iload_n 2, 1) := by decide +kernel
theorem dX5_tryRiders_55 : decode cX5_tryRiders 55 = .ok (.invokevirtual 52, 3) := by decide +kernel
theorem dX5_tryRiders_58 : decode cX5_tryRiders 58 = .ok (.ifCond .ne 42, 3) := by decide +kernel
theorem dX5_tryRiders_61 : decode cX5_tryRiders 61 = .ok (.aload_n 0, 1) := by decide +kernel
theorem dX5_tryRiders_62 : decode cX5_tryRiders 62 = .ok (.getfield 15, 3) := by decide +kernel
theorem dX5_tryRiders_65 : decode cX5_tryRiders 65 = .ok (.iload_n 2, 1) := by decide +kernel
theorem dX5_tryRiders_66 : decode cX5_tryRiders 66 = .ok (.iload 6, 2) := by decide +kernel
theorem dX5_tryRiders_68 : decode cX5_tryRiders 68 = .ok (.iastore, 1) := by decide +kernel
theorem dX5_tryRiders_69 : decode cX5_tryRiders 69 = .ok (.aload_n 0, 1) := by decide +kernel
theorem dX5_tryRiders_70 : decode cX5_tryRiders 70 = .ok (.aload_n 1, 1) := by decide +kernel
theorem dX5_tryRiders_71 : decode cX5_tryRiders 71 = .ok (.iload_n 2, 1) := by decide +kernel
theorem dX5_tryRiders_72 : decode cX5_tryRiders 72 = .ok (.iconst 1, 1) := by decide +kernel
theorem dX5_tryRiders_73 : decode cX5_tryRiders 73 = .ok (.iadd, 1) := by decide +kernel
theorem dX5_tryRiders_74 : decode cX5_tryRiders 74 = .ok (.iload_n 3, 1) := by decide +kernel
theorem dX5_tryRiders_75 : decode cX5_tryRiders 75 = .ok (.iload 5, 2) := by decide +kernel
theorem dX5_tryRiders_77 : decode cX5_tryRiders 77 = .ok (.getstatic 56, 3) := by decide +kernel
theorem dX5_tryRiders_80 : decode cX5_tryRiders 80 = .ok (.iload 6, 2) := by decide +kernel
theorem dX5_tryRiders_82 : decode cX5_tryRiders 82 = .ok (.iaload, 1) := by decide +kernel
theorem dX5_tryRiders_83 : decode cX5_tryRiders 83 = .ok (.imul, 1) := by decide +kernel
theorem dX5_tryRiders_84 : decode cX5_tryRiders 84 = .ok (.iadd, 1) := by decide +kernel
theorem dX5_tryRiders_85 : decode cX5_tryRiders 85 = .ok (.iload 4, 2) := by decide +kernel
theorem dX5_tryRiders_87 : decode cX5_tryRiders 87 = .ok (.iload 5, 2) := by decide +kernel
theorem dX5_tryRiders_89 : decode cX5_tryRiders 89 = .ok (.getstatic 59, 3) := by decide +kernel
theorem dX5_tryRiders_92 : decode cX5_tryRiders 92 = .ok (.iload 6, 2) := by decide +kernel
theorem dX5_tryRiders_94 : decode cX5_tryRiders 94 = .ok (.iaload, 1) := by decide +kernel
theorem dX5_tryRiders_95 : decode cX5_tryRiders 95 = .ok (.imul, 1) := by decide +kernel
theorem dX5_tryRiders_96 : decode cX5_tryRiders 96 = .ok (.iadd, 1) := by decide +kernel
theorem dX5_tryRiders_97 : decode cX5_tryRiders 97 = .ok (.invokestatic 36, 3) := by decide +kernel
theorem dX5_tryRiders_100 : decode cX5_tryRiders 100 = .ok (.iinc 6 1, 3) := by decide +kernel
theorem dX5_tryRiders_103 : decode cX5_tryRiders 103 = .ok (.goto (-68), 3) := by decide +kernel
theorem dX5_tryRiders_106 : decode cX5_tryRiders 106 = .ok (.return_, 1) := by decide +kernel
theorem dX5_isTaken_0 : decode cX5_isTaken 0 = .ok (.iconst 0, 1) := by decide +kernel
theorem dX5_isTaken_1 : decode cX5_isTaken 1 = .ok (.istore_n 3, 1) := by decide +kernel
theorem dX5_isTaken_2 : decode cX5_isTaken 2 = .ok (.iload_n 3, 1) := by decide +kernel
theorem dX5_isTaken_3 : decode cX5_isTaken 3 = .ok (.iload_n 2, 1) := by decide +kernel
theorem dX5_isTaken_4 : decode cX5_isTaken 4 = .ok (.if_icmp .ge 21, 3) := by decide +kernel
theorem dX5_isTaken_7 : decode cX5_isTaken 7 = .ok (.aload_n 0, 1) := by decide +kernel
theorem dX5_isTaken_8 : decode cX5_isTaken 8 = .ok (.getfield 15, 3) := by decide +kernel
theorem dX5_isTaken_11 : decode cX5_isTaken 11 = .ok (.iload_n 3, 1) := by decide +kernel
theorem dX5_isTaken_12 : decode cX5_isTaken 12 = .ok (.iaload, 1) := by decide +kernel
theorem dX5_isTaken_13 : decode cX5_isTaken 13 = .ok (.iload_n 1, 1) := by decide +kernel
theorem dX5_isTaken_14 : decode cX5_isTaken 14 = .ok (.if_icmp .ne 5, 3) := by decide +kernel
theorem dX5_isTaken_17 : decode cX5_isTaken 17 = .ok (.iconst 1, 1) := by decide +kernel
theorem dX5_isTaken_18 : decode cX5_isTaken 18 = .ok (.ireturn, 1) := by decide +kernel
theorem dX5_isTaken_19 : decode cX5_isTaken 19 = .ok (.iinc 3 1, 3) := by decide +kernel
theorem dX5_isTaken_22 : decode cX5_isTaken 22 = .ok (.goto (-20), 3) := by decide +kernel
theorem dX5_isTaken_25 : decode cX5_isTaken 25 = .ok (.iconst 0, 1) := by decide +kernel
theorem dX5_isTaken_26 : decode cX5_isTaken 26 = .ok (.ireturn, 1) := by decide +kernel
theorem dX5_keepIfLess_0 : decode cX5_keepIfLess 0 = .ok (.aload_n 0, 1) := by decide +kernel
theorem dX5_keepIfLess_1 : decode cX5_keepIfLess 1 = .ok (.getfield 25, 3) := by decide +kernel
theorem dX5_keepIfLess_4 : decode cX5_keepIfLess 4 = .ok (.iconst (-1), 1) := by decide +kernel
theorem dX5_keepIfLess_5 : decode cX5_keepIfLess 5 = .ok (.if_icmp .eq 11, 3) := by decide +kernel
theorem dX5_keepIfLess_8 : decode cX5_keepIfLess 8 = .ok (.iload_n 1, 1) := by decide +kernel
theorem dX5_keepIfLess_9 : decode cX5_keepIfLess 9 = .ok (.aload_n 0, 1) := by decide +kernel
theorem dX5_keepIfLess_10 : decode cX5_keepIfLess 10 = .ok (.getfield 25, 3) := by decide +kernel
theorem dX5_keepIfLess_13 : decode cX5_keepIfLess 13 = .ok (.if_icmp .ge 22, 3) := by decide +kernel
theorem dX5_keepIfLess_16 : decode cX5_keepIfLess 16 = .ok (.aload_n 0, 1) := by decide +kernel
theorem dX5_keepIfLess_17 : decode cX5_keepIfLess 17 = .ok (.iload_n 1, 1) := by decide +kernel
theorem dX5_keepIfLess_18 : decode cX5_keepIfLess 18 = .ok (.putfield 25, 3) := by decide +kernel
theorem dX5_keepIfLess_21 : decode cX5_keepIfLess 21 = .ok (.aload_n 0, 1) := by decide +kernel
theorem dX5_keepIfLess_22 : decode cX5_keepIfLess 22 = .ok (.getfield 15, 3) := by decide +kernel
theorem dX5_keepIfLess_25 : decode cX5_keepIfLess 25 = .ok (.iconst 0, 1) := by decide +kernel
theorem dX5_keepIfLess_26 : decode cX5_keepIfLess 26 = .ok (.aload_n 0, 1) := by decide +kernel
theorem dX5_keepIfLess_27 : decode cX5_keepIfLess 27 = .ok (.getfield 18, 3) := by decide +kernel
theorem dX5_keepIfLess_30 : decode cX5_keepIfLess 30 = .ok (.iconst 0, 1) := by decide +kernel
theorem dX5_keepIfLess_31 : decode cX5_keepIfLess 31 = .ok (.iconst 3, 1) := by decide +kernel
theorem dX5_keepIfLess_32 : decode cX5_keepIfLess 32 = .ok (.invokestatic 62, 3) := by decide +kernel
theorem dX5_keepIfLess_35 : decode cX5_keepIfLess 35 = .ok (.return_, 1) := by decide +kernel
theorem dX5_seatAll_0 : decode cX5_seatAll 0 = .ok (.iconst 0, 1) := by decide +kernel
theorem dX5_seatAll_1 : decode cX5_seatAll 1 = .ok (.istore_n 2, 1) := by decide +kernel
theorem dX5_seatAll_2 : decode cX5_seatAll 2 = .ok (.iload_n 2, 1) := by decide +kernel
theorem dX5_seatAll_3 : decode cX5_seatAll 3 = .ok (.aload_n 0, 1) := by decide +kernel
theorem dX5_seatAll_4 : decode cX5_seatAll 4 = .ok (.getfield 21, 3) := by decide +kernel
theorem dX5_seatAll_7 : decode cX5_seatAll 7 = .ok (.if_icmp .ge 25, 3) := by decide +kernel
theorem dX5_seatAll_10 : decode cX5_seatAll 10 = .ok (.aload_n 1, 1) := by decide +kernel
theorem dX5_seatAll_11 : decode cX5_seatAll 11 = .ok (.aload_n 0, 1) := by decide +kernel
theorem dX5_seatAll_12 : decode cX5_seatAll 12 = .ok (.getfield 18, 3) := by decide +kernel
theorem dX5_seatAll_15 : decode cX5_seatAll 15 = .ok (.iload_n 2, 1) := by decide +kernel
theorem dX5_seatAll_16 : decode cX5_seatAll 16 = .ok (.iaload, 1) := by decide +kernel
theorem dX5_seatAll_17 : decode cX5_seatAll 17 = .ok (.aload_n 0, 1) := by decide +kernel
theorem dX5_seatAll_18 : decode cX5_seatAll 18 = .ok (.getfield 9, 3) := by decide +kernel
theorem dX5_seatAll_21 : decode cX5_seatAll 21 = .ok (.iload_n 2, 1) := by decide +kernel
theorem dX5_seatAll_22 : decode cX5_seatAll 22 = .ok (.iaload, 1) := by decide +kernel
theorem dX5_seatAll_23 : decode cX5_seatAll 23 = .ok (.invokevirtual 68, 3) := by decide +kernel
theorem dX5_seatAll_26 : decode cX5_seatAll 26 = .ok (.iinc 2 1, 3) := by decide +kernel
theorem dX5_seatAll_29 : decode cX5_seatAll 29 = .ok (.goto (-27), 3) := by decide +kernel
theorem dX5_seatAll_32 : decode cX5_seatAll 32 = .ok (.return_, 1) := by decide +kernel
theorem dX6_init_0 : decode cX6_init 0 = .ok (.aload_n 0, 1) := by decide +kernel
theorem dX6_init_1 : decode cX6_init 1 = .ok (.invokespecial 3, 3) := by decide +kernel
theorem dX6_init_4 : decode cX6_init 4 = .ok (.aload_n 0, 1) := by decide +kernel
theorem dX6_init_5 : decode cX6_init 5 = .ok (.new 9, 3) := by decide +kernel
theorem dX6_init_8 : decode cX6_init 8 = .ok (.dup, 1) := by decide +kernel
theorem dX6_init_9 : decode cX6_init 9 = .ok (.invokespecial 11, 3) := by decide +kernel
theorem dX6_init_12 : decode cX6_init 12 = .ok (.putfield 12, 3) := by decide +kernel
theorem dX6_init_15 : decode cX6_init 15 = .ok (.aload_n 0, 1) := by decide +kernel
theorem dX6_init_16 : decode cX6_init 16 = .ok (.new 16, 3) := by decide +kernel
theorem dX6_init_19 : decode cX6_init 19 = .ok (.dup, 1) := by decide +kernel
theorem dX6_init_20 : decode cX6_init 20 = .ok (.invokespecial 18, 3) := by decide +kernel
theorem dX6_init_23 : decode cX6_init 23 = .ok (.putfield 19, 3) := by decide +kernel
theorem dX6_init_26 : decode cX6_init 26 = .ok (.aload_n 0, 1) := by decide +kernel
theorem dX6_init_27 : decode cX6_init 27 = .ok (.new 23, 3) := by decide +kernel
theorem dX6_init_30 : decode cX6_init 30 = .ok (.dup, 1) := by decide +kernel
theorem dX6_init_31 : decode cX6_init 31 = .ok (.invokespecial 25, 3) := by decide +kernel
theorem dX6_init_34 : decode cX6_init 34 = .ok (.putfield 26, 3) := by decide +kernel
theorem dX6_init_37 : decode cX6_init 37 = .ok (.aload_n 0, 1) := by decide +kernel
theorem dX6_init_38 : decode cX6_init 38 = .ok (.new 30, 3) := by decide +kernel
theorem dX6_init_41 : decode cX6_init 41 = .ok (.dup, 1) := by decide +kernel
theorem dX6_init_42 : decode cX6_init 42 = .ok (.invokespecial 32, 3) := by decide +kernel
theorem dX6_init_45 : decode cX6_init 45 = .ok (.putfield 33, 3) := by decide +kernel
theorem dX6_init_48 : decode cX6_init 48 = .ok (.aload_n 0, 1) := by decide +kernel
theorem dX6_init_49 : decode cX6_init 49 = .ok (.new 37, 3) := by decide +kernel
theorem dX6_init_52 : decode cX6_init 52 = .ok (.dup, 1) := by decide +kernel
theorem dX6_init_53 : decode cX6_init 53 = .ok (.invokespecial 39, 3) := by decide +kernel
theorem dX6_init_56 : decode cX6_init 56 = .ok (.putfield 40, 3) := by decide +kernel
theorem dX6_init_59 : decode cX6_init 59 = .ok (.aload_n 0, 1) := by decide +kernel
theorem dX6_init_60 : decode cX6_init 60 = .ok (.new 44, 3) := by decide +kernel
theorem dX6_init_63 : decode cX6_init 63 = .ok (.dup, 1) := by decide +kernel
theorem dX6_init_64 : decode cX6_init 64 = .ok (.invokespecial 46, 3) := by decide +kernel
theorem dX6_init_67 : decode cX6_init 67 = .ok (.putfield 47, 3) := by decide +kernel
theorem dX6_init_70 : decode cX6_init 70 = .ok (.aload_n 0, 1) := by decide +kernel
theorem dX6_init_71 : decode cX6_init 71 = .ok (.iconst 0, 1) := by decide +kernel
theorem dX6_init_72 : decode cX6_init 72 = .ok (.putfield 51, 3) := by decide +kernel
theorem dX6_init_75 : decode cX6_init 75 = .ok (.aload_n 0, 1) := by decide +kernel
theorem dX6_init_76 : decode cX6_init 76 = .ok (.bipush 100, 2) := by decide +kernel
theorem dX6_init_78 : decode cX6_init 78 = .ok (.putfield 55, 3) := by decide +kernel
theorem dX6_init_81 : decode cX6_init 81 = .ok (.aload_n 0, 1) := by decide +kernel
theorem dX6_init_82 : decode cX6_init 82 = .ok (.iconst 0, 1) := by decide +kernel
theorem dX6_init_83 : decode cX6_init 83 = .ok (.putfield 58, 3) := by decide +kernel
theorem dX6_init_86 : decode cX6_init 86 = .ok (.aload_n 0, 1) := by decide +kernel
theorem dX6_init_87 : decode cX6_init 87 = .ok (.iconst 0, 1) := by decide +kernel
theorem dX6_init_88 : decode cX6_init 88 = .ok (.putfield 61, 3) := by decide +kernel
theorem dX6_init_91 : decode cX6_init 91 = .ok (.return_, 1) := by decide +kernel
theorem dX6_horse_0 : decode cX6_horse 0 = .ok (.iload_n 1, 1) := by decide +kernel
theorem dX6_horse_1 : decode cX6_horse 1 = .ok (.invokestatic 64, 3) := by decide +kernel
theorem dX6_horse_4 : decode cX6_horse 4 = .ok (.ifCond .ne 6, 3) := by decide +kernel
theorem dX6_horse_7 : decode cX6_horse 7 = .ok (.bipush (-101), 2) := by decide +kernel
theorem dX6_horse_9 : decode cX6_horse 9 = .ok (.ireturn, 1) := by decide +kernel
theorem dX6_horse_10 : decode cX6_horse 10 = .ok (.iload_n 2, 1) := by decide +kernel
theorem dX6_horse_11 : decode cX6_horse 11 = .ok (.iconst 1, 1) := by decide +kernel
theorem dX6_horse_12 : decode cX6_horse 12 = .ok (.sipush 200, 3) := by decide +kernel
theorem dX6_horse_15 : decode cX6_horse 15 = .ok (.invokestatic 68, 3) := by decide +kernel
theorem dX6_horse_18 : decode cX6_horse 18 = .ok (.ifCond .eq 13, 3) := by decide +kernel
theorem dX6_horse_21 : decode cX6_horse 21 = .ok (.iload_n 3, 1) := by decide +kernel
theorem dX6_horse_22 : decode cX6_horse 22 = .ok (.iconst 0, 1) := by decide +kernel
theorem dX6_horse_23 : decode cX6_horse 23 = .ok (.bipush 99, 2) := by decide +kernel
theorem dX6_horse_25 : decode cX6_horse 25 = .ok (.invokestatic 68, 3) := by decide +kernel
theorem dX6_horse_28 : decode cX6_horse 28 = .ok (.ifCond .ne 6, 3) := by decide +kernel
theorem dX6_horse_31 : decode cX6_horse 31 = .ok (.bipush (-102), 2) := by decide +kernel
theorem dX6_horse_33 : decode cX6_horse 33 = .ok (.ireturn, 1) := by decide +kernel
theorem dX6_horse_34 : decode cX6_horse 34 = .ok (.aload_n 0, 1) := by decide +kernel
theorem dX6_horse_35 : decode cX6_horse 35 = .ok (.getfield 12, 3) := by decide +kernel
theorem dX6_horse_38 : decode cX6_horse 38 = .ok (.iload_n 1, 1) := by decide +kernel
theorem dX6_horse_39 : decode cX6_horse 39 = .ok (.invokevirtual 72, 3) := by decide +kernel
theorem dX6_horse_42 : decode cX6_horse 42 = .ok (.ifCond .eq 6, 3) := by decide +kernel
theorem dX6_horse_45 : decode cX6_horse 45 = .ok (.bipush (-103), 2) := by decide +kernel
theorem dX6_horse_47 : decode cX6_horse 47 = .ok (.ireturn, 1) := by decide +kernel
theorem dX6_horse_48 : decode cX6_horse 48 = .ok (.aload_n 0, 1) := by decide +kernel
theorem dX6_horse_49 : decode cX6_horse 49 = .ok (.getfield 12, 3) := by decide +kernel
theorem dX6_horse_52 : decode cX6_horse 52 = .ok (.iload_n 1, 1) := by decide +kernel
theorem dX6_horse_53 : decode cX6_horse 53 = .ok (.iload_n 2, 1) := by decide +kernel
theorem dX6_horse_54 : decode cX6_horse 54 = .ok (.invokevirtual 75, 3) := by decide +kernel
theorem dX6_horse_57 : decode cX6_horse 57 = .ok (.aload_n 0, 1) := by decide +kernel
theorem dX6_horse_58 : decode cX6_horse 58 = .ok (.getfield 26, 3) := by decide +kernel
theorem dX6_horse_61 : decode cX6_horse 61 = .ok (.iload_n 1, 1) := by decide +kernel
theorem dX6_horse_62 : decode cX6_horse 62 = .ok (.iload_n 3, 1) := by decide +kernel
theorem dX6_horse_63 : decode cX6_horse 63 = .ok (.invokevirtual 79, 3) := by decide +kernel
theorem dX6_horse_66 : decode cX6_horse 66 = .ok (.aload_n 0, 1) := by decide +kernel
theorem dX6_horse_67 : decode cX6_horse 67 = .ok (.getfield 12, 3) := by decide +kernel
theorem dX6_horse_70 : decode cX6_horse 70 = .ok (.invokevirtual 82, 3) := by decide +kernel
theorem dX6_horse_73 : decode cX6_horse 73 = .ok (.ireturn, 1) := by decide +kernel
theorem dX6_leave_0 : decode cX6_leave 0 = .ok (.aload_n 0, 1) := by decide +kernel
theorem dX6_leave_1 : decode cX6_leave 1 = .ok (.getfield 12, 3) := by decide +kernel
theorem dX6_leave_4 : decode cX6_leave 4 = .ok (.iload_n 1, 1) := by decide +kernel
theorem dX6_leave_5 : decode cX6_leave 5 = .ok (.invokevirtual 72, 3) := by decide +kernel
theorem dX6_leave_8 : decode cX6_leave 8 = .ok (.ifCond .ne 6, 3) := by decide +kernel
theorem dX6_leave_11 : decode cX6_leave 11 = .ok (.bipush (-101), 2) := by decide +kernel
theorem dX6_leave_13 : decode cX6_leave 13 = .ok (.ireturn, 1) := by decide +kernel
theorem dX6_leave_14 : decode cX6_leave 14 = .ok (.aload_n 0, 1) := by decide +kernel
theorem dX6_leave_15 : decode cX6_leave 15 = .ok (.getfield 12, 3) := by decide +kernel
theorem dX6_leave_18 : decode cX6_leave 18 = .ok (.iload_n 1, 1) := by decide +kernel
theorem dX6_leave_19 : decode cX6_leave 19 = .ok (.invokevirtual 86, 3) := by decide +kernel
theorem dX6_leave_22 : decode cX6_leave 22 = .ok (.ifCond .ne 14, 3) := by decide +kernel
theorem dX6_leave_25 : decode cX6_leave 25 = .ok (.aload_n 0, 1) := by decide +kernel
theorem dX6_leave_26 : decode cX6_leave 26 = .ok (.getfield 33, 3) := by decide +kernel
theorem dX6_leave_29 : decode cX6_leave 29 = .ok (.iload_n 1, 1) := by decide +kernel
theorem dX6_leave_30 : decode cX6_leave 30 = .ok (.invokevirtual 89, 3) := by decide +kernel
theorem dX6_leave_33 : decode cX6_leave 33 = .ok (.ifCond .ne 6, 3) := by decide +kernel
theorem dX6_leave_36 : decode cX6_leave 36 = .ok (.bipush (-103), 2) := by decide +kernel
theorem dX6_leave_38 : decode cX6_leave 38 = .ok (.ireturn, 1) := by decide +kernel
theorem dX6_leave_39 : decode cX6_leave 39 = .ok (.aload_n 0, 1) := by decide +kernel
theorem dX6_leave_40 : decode cX6_leave 40 = .ok (.getfield 26, 3) := by decide +kernel
theorem dX6_leave_43 : decode cX6_leave 43 = .ok (.iload_n 1, 1) := by decide +kernel
theorem dX6_leave_44 : decode cX6_leave 44 = .ok (.invokevirtual 92, 3) := by decide +kernel
theorem dX6_leave_47 : decode cX6_leave 47 = .ok (.aload_n 0, 1) := by decide +kernel
theorem dX6_leave_48 : decode cX6_leave 48 = .ok (.getfield 12, 3) := by decide +kernel
theorem dX6_leave_51 : decode cX6_leave 51 = .ok (.iload_n 1, 1) := by decide +kernel
theorem dX6_leave_52 : decode cX6_leave 52 = .ok (.invokevirtual 96, 3) := by decide +kernel
theorem dX6_leave_55 : decode cX6_leave 55 = .ok (.ireturn, 1) := by decide +kernel
theorem dX6_sit_0 : decode cX6_sit 0 = .ok (.aload_n 0, 1) := by decide +kernel
theorem dX6_sit_1 : decode cX6_sit 1 = .ok (.getfield 12, 3) := by decide +kernel
theorem dX6_sit_4 : decode cX6_sit 4 = .ok (.iload_n 1, 1) := by decide +kernel
theorem dX6_sit_5 : decode cX6_sit 5 = .ok (.invokevirtual 72, 3) := by decide +kernel
theorem dX6_sit_8 : decode cX6_sit 8 = .ok (.ifCond .ne 6, 3) := by decide +kernel
theorem dX6_sit_11 : decode cX6_sit 11 = .ok (.bipush (-101), 2) := by decide +kernel
theorem dX6_sit_13 : decode cX6_sit 13 = .ok (.ireturn, 1) := by decide +kernel
theorem dX6_sit_14 : decode cX6_sit 14 = .ok (.iload_n 2, 1) := by decide +kernel
theorem dX6_sit_15 : decode cX6_sit 15 = .ok (.invokestatic 100, 3) := by decide +kernel
theorem dX6_sit_18 : decode cX6_sit 18 = .ok (.ifCond .ne 6, 3) := by decide +kernel
theorem dX6_sit_21 : decode cX6_sit 21 = .ok (.bipush (-102), 2) := by decide +kernel
theorem dX6_sit_23 : decode cX6_sit 23 = .ok (.ireturn, 1) := by decide +kernel
theorem dX6_sit_24 : decode cX6_sit 24 = .ok (.aload_n 0, 1) := by decide +kernel
theorem dX6_sit_25 : decode cX6_sit 25 = .ok (.getfield 12, 3) := by decide +kernel
theorem dX6_sit_28 : decode cX6_sit 28 = .ok (.iload_n 1, 1) := by decide +kernel
theorem dX6_sit_29 : decode cX6_sit 29 = .ok (.invokevirtual 86, 3) := by decide +kernel
theorem dX6_sit_32 : decode cX6_sit 32 = .ok (.ifCond .ne 15, 3) := by decide +kernel
theorem dX6_sit_35 : decode cX6_sit 35 = .ok (.aload_n 0, 1) := by decide +kernel
theorem dX6_sit_36 : decode cX6_sit 36 = .ok (.getfield 12, 3) := by decide +kernel
theorem dX6_sit_39 : decode cX6_sit 39 = .ok (.iload_n 1, 1) := by decide +kernel
theorem dX6_sit_40 : decode cX6_sit 40 = .ok (.iload_n 2, 1) := by decide +kernel
theorem dX6_sit_41 : decode cX6_sit 41 = .ok (.invokevirtual 103, 3) := by decide +kernel
theorem dX6_sit_44 : decode cX6_sit 44 = .ok (.ifCond .ne 6, 3) := by decide +kernel
theorem dX6_sit_47 : decode cX6_sit 47 = .ok (.bipush (-103), 2) := by decide +kernel
theorem dX6_sit_49 : decode cX6_sit 49 = .ok (.ireturn, 1) := by decide +kernel
theorem dX6_sit_50 : decode cX6_sit 50 = .ok (.aload_n 0, 1) := by decide +kernel
theorem dX6_sit_51 : decode cX6_sit 51 = .ok (.getfield 12, 3) := by decide +kernel
theorem dX6_sit_54 : decode cX6_sit 54 = .ok (.iload_n 1, 1) := by decide +kernel
theorem dX6_sit_55 : decode cX6_sit 55 = .ok (.iload_n 2, 1) := by decide +kernel
theorem dX6_sit_56 : decode cX6_sit 56 = .ok (.invokevirtual 107, 3) := by decide +kernel
theorem dX6_sit_59 : decode cX6_sit 59 = .ok (.aload_n 0, 1) := by decide +kernel
theorem dX6_sit_60 : decode cX6_sit 60 = .ok (.getfield 12, 3) := by decide +kernel
theorem dX6_sit_63 : decode cX6_sit 63 = .ok (.invokevirtual 110, 3) := by decide +kernel
theorem dX6_sit_66 : decode cX6_sit 66 = .ok (.ireturn, 1) := by decide +kernel
theorem dX6_rise_0 : decode cX6_rise 0 = .ok (.aload_n 0, 1) := by decide +kernel
theorem dX6_rise_1 : decode cX6_rise 1 = .ok (.getfield 12, 3) := by decide +kernel
theorem dX6_rise_4 : decode cX6_rise 4 = .ok (.iload_n 1, 1) := by decide +kernel
theorem dX6_rise_5 : decode cX6_rise 5 = .ok (.invokevirtual 72, 3) := by decide +kernel
theorem dX6_rise_8 : decode cX6_rise 8 = .ok (.ifCond .ne 6, 3) := by decide +kernel
theorem dX6_rise_11 : decode cX6_rise 11 = .ok (.bipush (-101), 2) := by decide +kernel
theorem dX6_rise_13 : decode cX6_rise 13 = .ok (.ireturn, 1) := by decide +kernel
theorem dX6_rise_14 : decode cX6_rise 14 = .ok (.aload_n 0, 1) := by decide +kernel
theorem dX6_rise_15 : decode cX6_rise 15 = .ok (.getfield 12, 3) := by decide +kernel
theorem dX6_rise_18 : decode cX6_rise 18 = .ok (.iload_n 1, 1) := by decide +kernel
theorem dX6_rise_19 : decode cX6_rise 19 = .ok (.invokevirtual 86, 3) := by decide +kernel
theorem dX6_rise_22 : decode cX6_rise 22 = .ok (.ifCond .ne 6, 3) := by decide +kernel
theorem dX6_rise_25 : decode cX6_rise 25 = .ok (.bipush (-103), 2) := by decide +kernel
theorem dX6_rise_27 : decode cX6_rise 27 = .ok (.ireturn, 1) := by decide +kernel
theorem dX6_rise_28 : decode cX6_rise 28 = .ok (.aload_n 0, 1) := by decide +kernel
theorem dX6_rise_29 : decode cX6_rise 29 = .ok (.getfield 12, 3) := by decide +kernel
theorem dX6_rise_32 : decode cX6_rise 32 = .ok (.iload_n 1, 1) := by decide +kernel
theorem dX6_rise_33 : decode cX6_rise 33 = .ok (.invokevirtual 113, 3) := by decide +kernel
theorem dX6_rise_36 : decode cX6_rise 36 = .ok (.ireturn, 1) := by decide +kernel
theorem dX6_shake_0 : decode cX6_shake 0 = .ok (.aload_n 0, 1) := by decide +kernel
theorem dX6_shake_1 : decode cX6_shake 1 = .ok (.getfield 12, 3) := by decide +kernel
theorem dX6_shake_4 : decode cX6_shake 4 = .ok (.invokevirtual 110, 3) := by decide +kernel
theorem dX6_shake_7 : decode cX6_shake 7 = .ok (.ireturn, 1) := by decide +kernel
theorem dX6_rising_0 : decode cX6_rising 0 = .ok (.aload_n 0, 1) := by decide +kernel
theorem dX6_rising_1 : decode cX6_rising 1 = .ok (.getfield 12, 3) := by decide +kernel
theorem dX6_rising_4 : decode cX6_rising 4 = .ok (.getfield 116, 3) := by decide +kernel
theorem dX6_rising_7 : decode cX6_rising 7 = .ok (.ireturn, 1) := by decide +kernel
theorem dX6_may_0 : decode cX6_may 0 = .ok (.aload_n 0, 1) := by decide +kernel
theorem dX6_may_1 : decode cX6_may 1 = .ok (.getfield 12, 3) := by decide +kernel
theorem dX6_may_4 : decode cX6_may 4 = .ok (.invokevirtual 119, 3) := by decide +kernel
theorem dX6_may_7 : decode cX6_may 7 = .ok (.ifCond .eq 7, 3) := by decide +kernel
theorem dX6_may_10 : decode cX6_may 10 = .ok (.iconst 1, 1) := by decide +kernel
theorem dX6_may_11 : decode cX6_may 11 = .ok (.goto 4, 3) := by decide +kernel
theorem dX6_may_14 : decode cX6_may 14 = .ok (.iconst 0, 1) := by decide +kernel
theorem dX6_may_15 : decode cX6_may 15 = .ok (.ireturn, 1) := by decide +kernel
theorem dX6_law_0 : decode cX6_law 0 = .ok (.iload_n 1, 1) := by decide +kernel
theorem dX6_law_1 : decode cX6_law 1 = .ok (.ifCond .ne 9, 3) := by decide +kernel
theorem dX6_law_4 : decode cX6_law 4 = .ok (.aload_n 0, 1) := by decide +kernel
theorem dX6_law_5 : decode cX6_law 5 = .ok (.iload_n 2, 1) := by decide +kernel
theorem dX6_law_6 : decode cX6_law 6 = .ok (.invokevirtual 123, 3) := by decide +kernel
theorem dX6_law_9 : decode cX6_law 9 = .ok (.ireturn, 1) := by decide +kernel
theorem dX6_law_10 : decode cX6_law 10 = .ok (.iload_n 1, 1) := by decide +kernel
theorem dX6_law_11 : decode cX6_law 11 = .ok (.iconst 1, 1) := by decide +kernel
theorem dX6_law_12 : decode cX6_law 12 = .ok (.if_icmp .ne 9, 3) := by decide +kernel
theorem dX6_law_15 : decode cX6_law 15 = .ok (.aload_n 0, 1) := by decide +kernel
theorem dX6_law_16 : decode cX6_law 16 = .ok (.iload_n 2, 1) := by decide +kernel
theorem dX6_law_17 : decode cX6_law 17 = .ok (.invokevirtual 126, 3) := by decide +kernel
theorem dX6_law_20 : decode cX6_law 20 = .ok (.ireturn, 1) := by decide +kernel
theorem dX6_law_21 : decode cX6_law 21 = .ok (.bipush (-101), 2) := by decide +kernel
theorem dX6_law_23 : decode cX6_law 23 = .ok (.ireturn, 1) := by decide +kernel
theorem dX6_best_0 : decode cX6_best 0 = .ok (.iload_n 1, 1) := by decide +kernel
theorem dX6_best_1 : decode cX6_best 1 = .ok (.invokestatic 100, 3) := by decide +kernel
theorem dX6_best_4 : decode cX6_best 4 = .ok (.ifCond .eq 14, 3) := by decide +kernel
theorem dX6_best_7 : decode cX6_best 7 = .ok (.aload_n 0, 1) := by decide +kernel
theorem dX6_best_8 : decode cX6_best 8 = .ok (.getfield 12, 3) := by decide +kernel
theorem dX6_best_11 : decode cX6_best 11 = .ok (.iload_n 1, 1) := by decide +kernel
theorem dX6_best_12 : decode cX6_best 12 = .ok (.invokevirtual 129, 3) := by decide +kernel
theorem dX6_best_15 : decode cX6_best 15 = .ok (.goto 5, 3) := by decide +kernel
theorem dX6_best_18 : decode cX6_best 18 = .ok (.bipush (-102), 2) := by decide +kernel
theorem dX6_best_20 : decode cX6_best 20 = .ok (.ireturn, 1) := by decide +kernel
theorem dX6_group_0 : decode cX6_group 0 = .ok (.iload_n 1, 1) := by decide +kernel
theorem dX6_group_1 : decode cX6_group 1 = .ok (.iload_n 2, 1) := by decide +kernel
theorem dX6_group_2 : decode cX6_group 2 = .ok (.iload_n 3, 1) := by decide +kernel
theorem dX6_group_3 : decode cX6_group 3 = .ok (.iload 4, 2) := by decide +kernel
theorem dX6_group_5 : decode cX6_group 5 = .ok (.invokestatic 132, 3) := by decide +kernel
theorem dX6_group_8 : decode cX6_group 8 = .ok (.ifCond .ne 6, 3) := by decide +kernel
theorem dX6_group_11 : decode cX6_group 11 = .ok (.bipush (-102), 2) := by decide +kernel
theorem dX6_group_13 : decode cX6_group 13 = .ok (.ireturn, 1) := by decide +kernel
theorem dX6_group_14 : decode cX6_group 14 = .ok (.aload_n 0, 1) := by decide +kernel
theorem dX6_group_15 : decode cX6_group 15 = .ok (.getfield 51, 3) := by decide +kernel
theorem dX6_group_18 : decode cX6_group 18 = .ok (.bipush 60, 2) := by decide +kernel
theorem dX6_group_20 : decode cX6_group 20 = .ok (.if_icmp .lt 6, 3) := by decide +kernel
theorem dX6_group_23 : decode cX6_group 23 = .ok (.bipush (-103), 2) := by decide +kernel
theorem dX6_group_25 : decode cX6_group 25 = .ok (.ireturn, 1) := by decide +kernel
theorem dX6_group_26 : decode cX6_group 26 = .ok (.aload_n 0, 1) := by decide +kernel
theorem dX6_group_27 : decode cX6_group 27 = .ok (.dup, 1) := by decide +kernel
theorem dX6_group_28 : decode cX6_group 28 = .ok (.getfield 51, 3) := by decide +kernel
theorem dX6_group_31 : decode cX6_group 31 = .ok (.iconst 1, 1) := by decide +kernel
theorem dX6_group_32 : decode cX6_group 32 = .ok (.iadd, 1) := by decide +kernel
theorem dX6_group_33 : decode cX6_group 33 = .ok (.putfield 51, 3) := by decide +kernel
theorem dX6_group_36 : decode cX6_group 36 = .ok (.aload_n 0, 1) := by decide +kernel
theorem dX6_group_37 : decode cX6_group 37 = .ok (.getfield 12, 3) := by decide +kernel
theorem dX6_group_40 : decode cX6_group 40 = .ok (.invokevirtual 136, 3) := by decide +kernel
theorem dX6_group_43 : decode cX6_group 43 = .ok (.iload_n 1, 1) := by decide +kernel
theorem dX6_group_44 : decode cX6_group 44 = .ok (.if_icmp .ge 5, 3) := by decide +kernel
theorem dX6_group_47 : decode cX6_group 47 = .ok (.iconst (-1), 1) := by decide +kernel
theorem dX6_group_48 : decode cX6_group 48 = .ok (.ireturn, 1) := by decide +kernel
theorem dX6_group_49 : decode cX6_group 49 = .ok (.aload_n 0, 1) := by decide +kernel
theorem dX6_group_50 : decode cX6_group 50 = .ok (.getfield 19, 3) := by decide +kernel
theorem dX6_group_53 : decode cX6_group 53 = .ok (.aload_n 0, 1) := by decide +kernel
theorem dX6_group_54 : decode cX6_group 54 = .ok (.getfield 12, 3) := by decide +kernel
theorem dX6_group_57 : decode cX6_group 57 = .ok (.iload_n 1, 1) := by decide +kernel
theorem dX6_group_58 : decode cX6_group 58 = .ok (.iload_n 2, 1) := by decide +kernel
theorem dX6_group_59 : decode cX6_group 59 = .ok (.iload_n 3, 1) := by decide +kernel
theorem dX6_group_60 : decode cX6_group 60 = .ok (.iload 4, 2) := by decide +kernel
theorem dX6_group_62 : decode cX6_group 62 = .ok (.invokevirtual 139, 3) := by decide +kernel
theorem dX6_group_65 : decode cX6_group 65 = .ok (.aload_n 0, 1) := by decide +kernel
theorem dX6_group_66 : decode cX6_group 66 = .ok (.getfield 19, 3) := by decide +kernel
theorem dX6_group_69 : decode cX6_group 69 = .ok (.aload_n 0, 1) := by decide +kernel
theorem dX6_group_70 : decode cX6_group 70 = .ok (.getfield 12, 3) := by decide +kernel
theorem dX6_group_73 : decode cX6_group 73 = .ok (.invokevirtual 143, 3) := by decide +kernel
theorem dX6_group_76 : decode cX6_group 76 = .ok (.aload_n 0, 1) := by decide +kernel
theorem dX6_group_77 : decode cX6_group 77 = .ok (.getfield 12, 3) := by decide +kernel
theorem dX6_group_80 : decode cX6_group 80 = .ok (.invokevirtual 110, 3) := by decide +kernel
theorem dX6_group_83 : decode cX6_group 83 = .ok (.ireturn, 1) := by decide +kernel
theorem dX6_rider_0 : decode cX6_rider 0 = .ok (.iload_n 1, 1) := by decide +kernel
theorem dX6_rider_1 : decode cX6_rider 1 = .ok (.invokestatic 64, 3) := by decide +kernel
theorem dX6_rider_4 : decode cX6_rider 4 = .ok (.ifCond .eq 15, 3) := by decide +kernel
theorem dX6_rider_7 : decode cX6_rider 7 = .ok (.aload_n 0, 1) := by decide +kernel
theorem dX6_rider_8 : decode cX6_rider 8 = .ok (.getfield 12, 3) := by decide +kernel
theorem dX6_rider_11 : decode cX6_rider 11 = .ok (.getfield 147, 3) := by decide +kernel
theorem dX6_rider_14 : decode cX6_rider 14 = .ok (.iload_n 1, 1) := by decide +kernel
theorem dX6_rider_15 : decode cX6_rider 15 = .ok (.iaload, 1) := by decide +kernel
theorem dX6_rider_16 : decode cX6_rider 16 = .ok (.goto 5, 3) := by decide +kernel
theorem dX6_rider_19 : decode cX6_rider 19 = .ok (.bipush (-101), 2) := by decide +kernel
theorem dX6_rider_21 : decode cX6_rider 21 = .ok (.ireturn, 1) := by decide +kernel
theorem dX6_coat_0 : decode cX6_coat 0 = .ok (.aload_n 0, 1) := by decide +kernel
theorem dX6_coat_1 : decode cX6_coat 1 = .ok (.getfield 12, 3) := by decide +kernel
theorem dX6_coat_4 : decode cX6_coat 4 = .ok (.iload_n 1, 1) := by decide +kernel
theorem dX6_coat_5 : decode cX6_coat 5 = .ok (.invokevirtual 72, 3) := by decide +kernel
theorem dX6_coat_8 : decode cX6_coat 8 = .ok (.ifCond .ne 6, 3) := by decide +kernel
theorem dX6_coat_11 : decode cX6_coat 11 = .ok (.bipush (-101), 2) := by decide +kernel
theorem dX6_coat_13 : decode cX6_coat 13 = .ok (.ireturn, 1) := by decide +kernel
theorem dX6_coat_14 : decode cX6_coat 14 = .ok (.iload_n 2, 1) := by decide +kernel
theorem dX6_coat_15 : decode cX6_coat 15 = .ok (.iconst 0, 1) := by decide +kernel
theorem dX6_coat_16 : decode cX6_coat 16 = .ok (.bipush 99, 2) := by decide +kernel
theorem dX6_coat_18 : decode cX6_coat 18 = .ok (.invokestatic 68, 3) := by decide +kernel
theorem dX6_coat_21 : decode cX6_coat 21 = .ok (.ifCond .ne 6, 3) := by decide +kernel
theorem dX6_coat_24 : decode cX6_coat 24 = .ok (.bipush (-102), 2) := by decide +kernel
theorem dX6_coat_26 : decode cX6_coat 26 = .ok (.ireturn, 1) := by decide +kernel
theorem dX6_coat_27 : decode cX6_coat 27 = .ok (.aload_n 0, 1) := by decide +kernel
theorem dX6_coat_28 : decode cX6_coat 28 = .ok (.getfield 26, 3) := by decide +kernel
theorem dX6_coat_31 : decode cX6_coat 31 = .ok (.getfield 151, 3) := by decide +kernel
theorem dX6_coat_34 : decode cX6_coat 34 = .ok (.iload_n 1, 1) := by decide +kernel
theorem dX6_coat_35 : decode cX6_coat 35 = .ok (.iaload, 1) := by decide +kernel
theorem dX6_coat_36 : decode cX6_coat 36 = .ok (.bipush 8, 2) := by decide +kernel
theorem dX6_coat_38 : decode cX6_coat 38 = .ok (.if_icmp .lt 6, 3) := by decide +kernel
theorem dX6_coat_41 : decode cX6_coat 41 = .ok (.bipush (-104), 2) := by decide +kernel
theorem dX6_coat_43 : decode cX6_coat 43 = .ok (.ireturn, 1) := by decide +kernel
theorem dX6_coat_44 : decode cX6_coat 44 = .ok (.aload_n 0, 1) := by decide +kernel
theorem dX6_coat_45 : decode cX6_coat 45 = .ok (.getfield 26, 3) := by decide +kernel
theorem dX6_coat_48 : decode cX6_coat 48 = .ok (.iload_n 1, 1) := by decide +kernel
theorem dX6_coat_49 : decode cX6_coat 49 = .ok (.iload_n 2, 1) := by decide +kernel
theorem dX6_coat_50 : decode cX6_coat 50 = .ok (.invokevirtual 79, 3) := by decide +kernel
theorem dX6_coat_53 : decode cX6_coat 53 = .ok (.aload_n 0, 1) := by decide +kernel
theorem dX6_coat_54 : decode cX6_coat 54 = .ok (.getfield 26, 3) := by decide +kernel
theorem dX6_coat_57 : decode cX6_coat 57 = .ok (.getfield 151, 3) := by decide +kernel
theorem dX6_coat_60 : decode cX6_coat 60 = .ok (.iload_n 1, 1) := by decide +kernel
theorem dX6_coat_61 : decode cX6_coat 61 = .ok (.iaload, 1) := by decide +kernel
theorem dX6_coat_62 : decode cX6_coat 62 = .ok (.ireturn, 1) := by decide +kernel
theorem dX6_sample_0 : decode cX6_sample 0 = .ok (.aload_n 0, 1) := by decide +kernel
theorem dX6_sample_1 : decode cX6_sample 1 = .ok (.getfield 12, 3) := by decide +kernel
theorem dX6_sample_4 : decode cX6_sample 4 = .ok (.iload_n 1, 1) := by decide +kernel
theorem dX6_sample_5 : decode cX6_sample 5 = .ok (.invokevirtual 72, 3) := by decide +kernel
theorem dX6_sample_8 : decode cX6_sample 8 = .ok (.ifCond .eq 15, 3) := by decide +kernel
theorem dX6_sample_11 : decode cX6_sample 11 = .ok (.aload_n 0, 1) := by decide +kernel
theorem dX6_sample_12 : decode cX6_sample 12 = .ok (.getfield 26, 3) := by decide +kernel
theorem dX6_sample_15 : decode cX6_sample 15 = .ok (.iload_n 1, 1) := by decide +kernel
theorem dX6_sample_16 : decode cX6_sample 16 = .ok (.iload_n 2, 1) := by decide +kernel
theorem dX6_sample_17 : decode cX6_sample 17 = .ok (.invokevirtual 154, 3) := by decide +kernel
theorem dX6_sample_20 : decode cX6_sample 20 = .ok (.goto 5, 3) := by decide +kernel
theorem dX6_sample_23 : decode cX6_sample 23 = .ok (.bipush (-101), 2) := by decide +kernel
theorem dX6_sample_25 : decode cX6_sample 25 = .ok (.ireturn, 1) := by decide +kernel
theorem dX6_strip_0 : decode cX6_strip 0 = .ok (.aload_n 0, 1) := by decide +kernel
theorem dX6_strip_1 : decode cX6_strip 1 = .ok (.getfield 12, 3) := by decide +kernel
theorem dX6_strip_4 : decode cX6_strip 4 = .ok (.iload_n 1, 1) := by decide +kernel
theorem dX6_strip_5 : decode cX6_strip 5 = .ok (.invokevirtual 72, 3) := by decide +kernel
theorem dX6_strip_8 : decode cX6_strip 8 = .ok (.ifCond .ne 6, 3) := by decide +kernel
theorem dX6_strip_11 : decode cX6_strip 11 = .ok (.bipush (-101), 2) := by decide +kernel
theorem dX6_strip_13 : decode cX6_strip 13 = .ok (.ireturn, 1) := by decide +kernel
theorem dX6_strip_14 : decode cX6_strip 14 = .ok (.aload_n 0, 1) := by decide +kernel
theorem dX6_strip_15 : decode cX6_strip 15 = .ok (.getfield 26, 3) := by decide +kernel
theorem dX6_strip_18 : decode cX6_strip 18 = .ok (.iload_n 1, 1) := by decide +kernel
theorem dX6_strip_19 : decode cX6_strip 19 = .ok (.iload_n 2, 1) := by decide +kernel
theorem dX6_strip_20 : decode cX6_strip 20 = .ok (.invokevirtual 158, 3) := by decide +kernel
theorem dX6_strip_23 : decode cX6_strip 23 = .ok (.istore_n 3, 1) := by decide +kernel
theorem dX6_strip_24 : decode cX6_strip 24 = .ok (.iload_n 3, 1) := by decide +kernel
theorem dX6_strip_25 : decode cX6_strip 25 = .ok (.iconst (-1), 1) := by decide +kernel
theorem dX6_strip_26 : decode cX6_strip 26 = .ok (.if_icmp .ne 6, 3) := by decide +kernel
theorem dX6_strip_29 : decode cX6_strip 29 = .ok (.bipush (-102), 2) := by decide +kernel
theorem dX6_strip_31 : decode cX6_strip 31 = .ok (.ireturn, 1) := by decide +kernel
theorem dX6_strip_32 : decode cX6_strip 32 = .ok (.aload_n 0, 1) := by decide +kernel
theorem dX6_strip_33 : decode cX6_strip 33 = .ok (.getfield 26, 3) := by decide +kernel
theorem dX6_strip_36 : decode cX6_strip 36 = .ok (.iload_n 1, 1) := by decide +kernel
theorem dX6_strip_37 : decode cX6_strip 37 = .ok (.iload_n 3, 1) := by decide +kernel
theorem dX6_strip_38 : decode cX6_strip 38 = .ok (.invokevirtual 161, 3) := by decide +kernel
theorem dX6_strip_41 : decode cX6_strip 41 = .ok (.iload_n 3, 1) := by decide +kernel
theorem dX6_strip_42 : decode cX6_strip 42 = .ok (.ireturn, 1) := by decide +kernel
theorem dX6_swap_0 : decode cX6_swap 0 = .ok (.aload_n 0, 1) := by decide +kernel
theorem dX6_swap_1 : decode cX6_swap 1 = .ok (.iload_n 1, 1) := by decide +kernel
theorem dX6_swap_2 : decode cX6_swap 2 = .ok (.iload_n 2, 1) := by decide +kernel
theorem dX6_swap_3 : decode cX6_swap 3 = .ok (.invokevirtual 164, 3) := by decide +kernel
theorem dX6_swap_6 : decode cX6_swap 6 = .ok (.ifCond .eq 13, 3) := by decide +kernel
theorem dX6_swap_9 : decode cX6_swap 9 = .ok (.aload_n 0, 1) := by decide +kernel
theorem dX6_swap_10 : decode cX6_swap 10 = .ok (.iload_n 3, 1) := by decide +kernel
theorem dX6_swap_11 : decode cX6_swap 11 = .ok (.iload 4, 2) := by decide +kernel
theorem dX6_swap_13 : decode cX6_swap 13 = .ok (.invokevirtual 164, 3) := by decide +kernel
theorem dX6_swap_16 : decode cX6_swap 16 = .ok (.ifCond .ne 6, 3) := by decide +kernel
theorem dX6_swap_19 : decode cX6_swap 19 = .ok (.bipush (-101), 2) := by decide +kernel
theorem dX6_swap_21 : decode cX6_swap 21 = .ok (.ireturn, 1) := by decide +kernel
theorem dX6_swap_22 : decode cX6_swap 22 = .ok (.iload_n 1, 1) := by decide +kernel
theorem dX6_swap_23 : decode cX6_swap 23 = .ok (.iload_n 3, 1) := by decide +kernel
theorem dX6_swap_24 : decode cX6_swap 24 = .ok (.if_icmp .ne 12, 3) := by decide +kernel
theorem dX6_swap_27 : decode cX6_swap 27 = .ok (.iload_n 2, 1) := by decide +kernel
theorem dX6_swap_28 : decode cX6_swap 28 = .ok (.iload 4, 2) := by decide +kernel
theorem dX6_swap_30 : decode cX6_swap 30 = .ok (.if_icmp .ne 6, 3) := by decide +kernel
theorem dX6_swap_33 : decode cX6_swap 33 = .ok (.bipush (-102), 2) := by decide +kernel
theorem dX6_swap_35 : decode cX6_swap 35 = .ok (.ireturn, 1) := by decide +kernel
theorem dX6_swap_36 : decode cX6_swap 36 = .ok (.aload_n 0, 1) := by decide +kernel
theorem dX6_swap_37 : decode cX6_swap 37 = .ok (.getfield 33, 3) := by decide +kernel
theorem dX6_swap_40 : decode cX6_swap 40 = .ok (.iload_n 1, 1) := by decide +kernel
theorem dX6_swap_41 : decode cX6_swap 41 = .ok (.iload_n 2, 1) := by decide +kernel
theorem dX6_swap_42 : decode cX6_swap 42 = .ok (.invokestatic 167, 3) := by decide +kernel
theorem dX6_swap_45 : decode cX6_swap 45 = .ok (.iload_n 3, 1) := by decide +kernel
theorem dX6_swap_46 : decode cX6_swap 46 = .ok (.iload 4, 2) := by decide +kernel
theorem dX6_swap_48 : decode cX6_swap 48 = .ok (.invokestatic 167, 3) := by decide +kernel
theorem dX6_swap_51 : decode cX6_swap 51 = .ok (.invokevirtual 170, 3) := by decide +kernel
theorem dX6_swap_54 : decode cX6_swap 54 = .ok (.iconst 1, 1) := by decide +kernel
theorem dX6_swap_55 : decode cX6_swap 55 = .ok (.ireturn, 1) := by decide +kernel
theorem dX6_mark_0 : decode cX6_mark 0 = .ok (.aload_n 0, 1) := by decide +kernel
theorem dX6_mark_1 : decode cX6_mark 1 = .ok (.iload_n 1, 1) := by decide +kernel
theorem dX6_mark_2 : decode cX6_mark 2 = .ok (.iload_n 2, 1) := by decide +kernel
theorem dX6_mark_3 : decode cX6_mark 3 = .ok (.invokevirtual 164, 3) := by decide +kernel
theorem dX6_mark_6 : decode cX6_mark 6 = .ok (.ifCond .eq 19, 3) := by decide +kernel
theorem dX6_mark_9 : decode cX6_mark 9 = .ok (.aload_n 0, 1) := by decide +kernel
theorem dX6_mark_10 : decode cX6_mark 10 = .ok (.getfield 33, 3) := by decide +kernel
theorem dX6_mark_13 : decode cX6_mark 13 = .ok (.getfield 173, 3) := by decide +kernel
theorem dX6_mark_16 : decode cX6_mark 16 = .ok (.iload_n 1, 1) := by decide +kernel
theorem dX6_mark_17 : decode cX6_mark 17 = .ok (.iload_n 2, 1) := by decide +kernel
theorem dX6_mark_18 : decode cX6_mark 18 = .ok (.invokestatic 167, 3) := by decide +kernel
theorem dX6_mark_21 : decode cX6_mark 21 = .ok (.iaload, 1) := by decide +kernel
theorem dX6_mark_22 : decode cX6_mark 22 = .ok (.goto 5, 3) := by decide +kernel
theorem dX6_mark_25 : decode cX6_mark 25 = .ok (.bipush (-101), 2) := by decide +kernel
theorem dX6_mark_27 : decode cX6_mark 27 = .ok (.ireturn, 1) := by decide +kernel
theorem dX6_swaps_0 : decode cX6_swaps 0 = .ok (.aload_n 0, 1) := by decide +kernel
theorem dX6_swaps_1 : decode cX6_swaps 1 = .ok (.getfield 33, 3) := by decide +kernel
theorem dX6_swaps_4 : decode cX6_swaps 4 = .ok (.invokevirtual 176, 3) := by decide +kernel
theorem dX6_swaps_7 : decode cX6_swaps 7 = .ok (.ireturn, 1) := by decide +kernel
theorem dX6_find_0 : decode cX6_find 0 = .ok (.iload_n 1, 1) := by decide +kernel
theorem dX6_find_1 : decode cX6_find 1 = .ok (.invokestatic 64, 3) := by decide +kernel
theorem dX6_find_4 : decode cX6_find 4 = .ok (.ifCond .eq 10, 3) := by decide +kernel
theorem dX6_find_7 : decode cX6_find 7 = .ok (.iload_n 2, 1) := by decide +kernel
theorem dX6_find_8 : decode cX6_find 8 = .ok (.invokestatic 179, 3) := by decide +kernel
theorem dX6_find_11 : decode cX6_find 11 = .ok (.ifCond .ne 6, 3) := by decide +kernel
theorem dX6_find_14 : decode cX6_find 14 = .ok (.bipush (-101), 2) := by decide +kernel
theorem dX6_find_16 : decode cX6_find 16 = .ok (.ireturn, 1) := by decide +kernel
theorem dX6_find_17 : decode cX6_find 17 = .ok (.aload_n 0, 1) := by decide +kernel
theorem dX6_find_18 : decode cX6_find 18 = .ok (.getfield 12, 3) := by decide +kernel
theorem dX6_find_21 : decode cX6_find 21 = .ok (.iload_n 1, 1) := by decide +kernel
theorem dX6_find_22 : decode cX6_find 22 = .ok (.invokevirtual 72, 3) := by decide +kernel
theorem dX6_find_25 : decode cX6_find 25 = .ok (.ifCond .eq 18, 3) := by decide +kernel
theorem dX6_find_28 : decode cX6_find 28 = .ok (.aload_n 0, 1) := by decide +kernel
theorem dX6_find_29 : decode cX6_find 29 = .ok (.getfield 33, 3) := by decide +kernel
theorem dX6_find_32 : decode cX6_find 32 = .ok (.iload_n 1, 1) := by decide +kernel
theorem dX6_find_33 : decode cX6_find 33 = .ok (.iload_n 2, 1) := by decide +kernel
theorem dX6_find_34 : decode cX6_find 34 = .ok (.invokestatic 167, 3) := by decide +kernel
theorem dX6_find_37 : decode cX6_find 37 = .ok (.invokevirtual 182, 3) := by decide +kernel
theorem dX6_find_40 : decode cX6_find 40 = .ok (.goto 4, 3) := by decide +kernel
theorem dX6_find_43 : decode cX6_find 43 = .ok (.iconst (-1), 1) := by decide +kernel
theorem dX6_find_44 : decode cX6_find 44 = .ok (.ireturn, 1) := by decide +kernel
theorem dX6_fair_0 : decode cX6_fair 0 = .ok (.iload_n 1, 1) := by decide +kernel
theorem dX6_fair_1 : decode cX6_fair 1 = .ok (.iconst 0, 1) := by decide +kernel
theorem dX6_fair_2 : decode cX6_fair 2 = .ok (.sipush 400, 3) := by decide +kernel
theorem dX6_fair_5 : decode cX6_fair 5 = .ok (.invokestatic 68, 3) := by decide +kernel
theorem dX6_fair_8 : decode cX6_fair 8 = .ok (.ifCond .eq 25, 3) := by decide +kernel
theorem dX6_fair_11 : decode cX6_fair 11 = .ok (.iload_n 2, 1) := by decide +kernel
theorem dX6_fair_12 : decode cX6_fair 12 = .ok (.iload_n 1, 1) := by decide +kernel
theorem dX6_fair_13 : decode cX6_fair 13 = .ok (.sipush 400, 3) := by decide +kernel
theorem dX6_fair_16 : decode cX6_fair 16 = .ok (.invokestatic 68, 3) := by decide +kernel
theorem dX6_fair_19 : decode cX6_fair 19 = .ok (.ifCond .eq 14, 3) := by decide +kernel
theorem dX6_fair_22 : decode cX6_fair 22 = .ok (.iload_n 3, 1) := by decide +kernel
theorem dX6_fair_23 : decode cX6_fair 23 = .ok (.iconst 0, 1) := by decide +kernel
theorem dX6_fair_24 : decode cX6_fair 24 = .ok (.sipush 10000, 3) := by decide +kernel
theorem dX6_fair_27 : decode cX6_fair 27 = .ok (.invokestatic 68, 3) := by decide +kernel
theorem dX6_fair_30 : decode cX6_fair 30 = .ok (.ifCond .ne 6, 3) := by decide +kernel
theorem dX6_fair_33 : decode cX6_fair 33 = .ok (.bipush (-102), 2) := by decide +kernel
theorem dX6_fair_35 : decode cX6_fair 35 = .ok (.ireturn, 1) := by decide +kernel
theorem dX6_fair_36 : decode cX6_fair 36 = .ok (.aload_n 0, 1) := by decide +kernel
theorem dX6_fair_37 : decode cX6_fair 37 = .ok (.getfield 40, 3) := by decide +kernel
theorem dX6_fair_40 : decode cX6_fair 40 = .ok (.getfield 185, 3) := by decide +kernel
theorem dX6_fair_43 : decode cX6_fair 43 = .ok (.bipush 8, 2) := by decide +kernel
theorem dX6_fair_45 : decode cX6_fair 45 = .ok (.if_icmp .lt 6, 3) := by decide +kernel
theorem dX6_fair_48 : decode cX6_fair 48 = .ok (.bipush (-104), 2) := by decide +kernel
theorem dX6_fair_50 : decode cX6_fair 50 = .ok (.ireturn, 1) := by decide +kernel
theorem dX6_fair_51 : decode cX6_fair 51 = .ok (.aload_n 0, 1) := by decide +kernel
theorem dX6_fair_52 : decode cX6_fair 52 = .ok (.getfield 40, 3) := by decide +kernel
theorem dX6_fair_55 : decode cX6_fair 55 = .ok (.iload_n 1, 1) := by decide +kernel
theorem dX6_fair_56 : decode cX6_fair 56 = .ok (.iload_n 2, 1) := by decide +kernel
theorem dX6_fair_57 : decode cX6_fair 57 = .ok (.iload_n 3, 1) := by decide +kernel
theorem dX6_fair_58 : decode cX6_fair 58 = .ok (.invokevirtual 188, 3) := by decide +kernel
theorem dX6_fair_61 : decode cX6_fair 61 = .ok (.ireturn, 1) := by decide +kernel
theorem dX6_road_0 : decode cX6_road 0 = .ok (.aload_n 0, 1) := by decide +kernel
theorem dX6_road_1 : decode cX6_road 1 = .ok (.getfield 40, 3) := by decide +kernel
theorem dX6_road_4 : decode cX6_road 4 = .ok (.iload_n 1, 1) := by decide +kernel
theorem dX6_road_5 : decode cX6_road 5 = .ok (.invokevirtual 192, 3) := by decide +kernel
theorem dX6_road_8 : decode cX6_road 8 = .ok (.ifCond .eq 14, 3) := by decide +kernel
theorem dX6_road_11 : decode cX6_road 11 = .ok (.aload_n 0, 1) := by decide +kernel
theorem dX6_road_12 : decode cX6_road 12 = .ok (.getfield 40, 3) := by decide +kernel
theorem dX6_road_15 : decode cX6_road 15 = .ok (.iload_n 2, 1) := by decide +kernel
theorem dX6_road_16 : decode cX6_road 16 = .ok (.invokevirtual 192, 3) := by decide +kernel
theorem dX6_road_19 : decode cX6_road 19 = .ok (.ifCond .ne 6, 3) := by decide +kernel
theorem dX6_road_22 : decode cX6_road 22 = .ok (.bipush (-101), 2) := by decide +kernel
theorem dX6_road_24 : decode cX6_road 24 = .ok (.ireturn, 1) := by decide +kernel
theorem dX6_road_25 : decode cX6_road 25 = .ok (.iload_n 3, 1) := by decide +kernel
theorem dX6_road_26 : decode cX6_road 26 = .ok (.iconst 0, 1) := by decide +kernel
theorem dX6_road_27 : decode cX6_road 27 = .ok (.bipush 50, 2) := by decide +kernel
theorem dX6_road_29 : decode cX6_road 29 = .ok (.invokestatic 68, 3) := by decide +kernel
theorem dX6_road_32 : decode cX6_road 32 = .ok (.ifCond .eq 8, 3) := by decide +kernel
theorem dX6_road_35 : decode cX6_road 35 = .ok (.iload_n 1, 1) := by decide +kernel
theorem dX6_road_36 : decode cX6_road 36 = .ok (.iload_n 2, 1) := by decide +kernel
theorem dX6_road_37 : decode cX6_road 37 = .ok (.if_icmp .ne 6, 3) := by decide +kernel
theorem dX6_road_40 : decode cX6_road 40 = .ok (.bipush (-102), 2) := by decide +kernel
theorem dX6_road_42 : decode cX6_road 42 = .ok (.ireturn, 1) := by decide +kernel
theorem dX6_road_43 : decode cX6_road 43 = .ok (.aload_n 0, 1) := by decide +kernel
theorem dX6_road_44 : decode cX6_road 44 = .ok (.getfield 40, 3) := by decide +kernel
theorem dX6_road_47 : decode cX6_road 47 = .ok (.iload_n 1, 1) := by decide +kernel
end
section
theorem dX6_road_48 : decode cX6_road 48 = .ok (.iload_n 2, 1) := by decide +kernel
theorem dX6_road_49 : decode cX6_road 49 = .ok (.invokevirtual 195, 3) := by decide +kernel
theorem dX6_road_52 : decode cX6_road 52 = .ok (.istore 4, 2) := by decide +kernel
theorem dX6_road_54 : decode cX6_road 54 = .ok (.aload_n 0, 1) := by decide +kernel
theorem dX6_road_55 : decode cX6_road 55 = .ok (.getfield 40, 3) := by decide +kernel
theorem dX6_road_58 : decode cX6_road 58 = .ok (.iload_n 1, 1) := by decide +kernel
theorem dX6_road_59 : decode cX6_road 59 = .ok (.iload_n 2, 1) := by decide +kernel
theorem dX6_road_60 : decode cX6_road 60 = .ok (.iload_n 3, 1) := by decide +kernel
theorem dX6_road_61 : decode cX6_road 61 = .ok (.invokevirtual 198, 3) := by decide +kernel
theorem dX6_road_64 : decode cX6_road 64 = .ok (.iload 4, 2) := by decide +kernel
theorem dX6_road_66 : decode cX6_road 66 = .ok (.ireturn, 1) := by decide +kernel
theorem dX6_earns_0 : decode cX6_earns 0 = .ok (.aload_n 0, 1) := by decide +kernel
theorem dX6_earns_1 : decode cX6_earns 1 = .ok (.getfield 40, 3) := by decide +kernel
theorem dX6_earns_4 : decode cX6_earns 4 = .ok (.invokevirtual 202, 3) := by decide +kernel
theorem dX6_earns_7 : decode cX6_earns 7 = .ok (.aload_n 0, 1) := by decide +kernel
theorem dX6_earns_8 : decode cX6_earns 8 = .ok (.getfield 40, 3) := by decide +kernel
theorem dX6_earns_11 : decode cX6_earns 11 = .ok (.aload_n 0, 1) := by decide +kernel
theorem dX6_earns_12 : decode cX6_earns 12 = .ok (.getfield 40, 3) := by decide +kernel
theorem dX6_earns_15 : decode cX6_earns 15 = .ok (.iconst (-1), 1) := by decide +kernel
theorem dX6_earns_16 : decode cX6_earns 16 = .ok (.invokevirtual 205, 3) := by decide +kernel
theorem dX6_earns_19 : decode cX6_earns 19 = .ok (.invokevirtual 208, 3) := by decide +kernel
theorem dX6_earns_22 : decode cX6_earns 22 = .ok (.ireturn, 1) := by decide +kernel
theorem dX6_round_0 : decode cX6_round 0 = .ok (.aload_n 0, 1) := by decide +kernel
theorem dX6_round_1 : decode cX6_round 1 = .ok (.getfield 40, 3) := by decide +kernel
theorem dX6_round_4 : decode cX6_round 4 = .ok (.iload_n 1, 1) := by decide +kernel
theorem dX6_round_5 : decode cX6_round 5 = .ok (.invokevirtual 192, 3) := by decide +kernel
theorem dX6_round_8 : decode cX6_round 8 = .ok (.ifCond .ne 5, 3) := by decide +kernel
theorem dX6_round_11 : decode cX6_round 11 = .ok (.iconst (-1), 1) := by decide +kernel
theorem dX6_round_12 : decode cX6_round 12 = .ok (.ireturn, 1) := by decide +kernel
theorem dX6_round_13 : decode cX6_round 13 = .ok (.aload_n 0, 1) := by decide +kernel
theorem dX6_round_14 : decode cX6_round 14 = .ok (.getfield 40, 3) := by decide +kernel
theorem dX6_round_17 : decode cX6_round 17 = .ok (.invokevirtual 202, 3) := by decide +kernel
theorem dX6_round_20 : decode cX6_round 20 = .ok (.aload_n 0, 1) := by decide +kernel
theorem dX6_round_21 : decode cX6_round 21 = .ok (.getfield 40, 3) := by decide +kernel
theorem dX6_round_24 : decode cX6_round 24 = .ok (.iload_n 1, 1) := by decide +kernel
theorem dX6_round_25 : decode cX6_round 25 = .ok (.invokevirtual 211, 3) := by decide +kernel
theorem dX6_round_28 : decode cX6_round 28 = .ok (.ireturn, 1) := by decide +kernel
theorem dX6_turn_0 : decode cX6_turn 0 = .ok (.aload_n 0, 1) := by decide +kernel
theorem dX6_turn_1 : decode cX6_turn 1 = .ok (.getfield 12, 3) := by decide +kernel
theorem dX6_turn_4 : decode cX6_turn 4 = .ok (.invokevirtual 119, 3) := by decide +kernel
theorem dX6_turn_7 : decode cX6_turn 7 = .ok (.ifCond .eq 17, 3) := by decide +kernel
theorem dX6_turn_10 : decode cX6_turn 10 = .ok (.aload_n 0, 1) := by decide +kernel
theorem dX6_turn_11 : decode cX6_turn 11 = .ok (.getfield 58, 3) := by decide +kernel
theorem dX6_turn_14 : decode cX6_turn 14 = .ok (.aload_n 0, 1) := by decide +kernel
theorem dX6_turn_15 : decode cX6_turn 15 = .ok (.getfield 55, 3) := by decide +kernel
theorem dX6_turn_18 : decode cX6_turn 18 = .ok (.bipush 10, 2) := by decide +kernel
theorem dX6_turn_20 : decode cX6_turn 20 = .ok (.imul, 1) := by decide +kernel
theorem dX6_turn_21 : decode cX6_turn 21 = .ok (.if_icmp .lt 6, 3) := by decide +kernel
theorem dX6_turn_24 : decode cX6_turn 24 = .ok (.bipush (-103), 2) := by decide +kernel
theorem dX6_turn_26 : decode cX6_turn 26 = .ok (.ireturn, 1) := by decide +kernel
theorem dX6_turn_27 : decode cX6_turn 27 = .ok (.aload_n 0, 1) := by decide +kernel
theorem dX6_turn_28 : decode cX6_turn 28 = .ok (.getfield 12, 3) := by decide +kernel
theorem dX6_turn_31 : decode cX6_turn 31 = .ok (.invokevirtual 214, 3) := by decide +kernel
theorem dX6_turn_34 : decode cX6_turn 34 = .ok (.istore_n 1, 1) := by decide +kernel
theorem dX6_turn_35 : decode cX6_turn 35 = .ok (.aload_n 0, 1) := by decide +kernel
theorem dX6_turn_36 : decode cX6_turn 36 = .ok (.getfield 12, 3) := by decide +kernel
theorem dX6_turn_39 : decode cX6_turn 39 = .ok (.invokevirtual 217, 3) := by decide +kernel
theorem dX6_turn_42 : decode cX6_turn 42 = .ok (.aload_n 0, 1) := by decide +kernel
theorem dX6_turn_43 : decode cX6_turn 43 = .ok (.dup, 1) := by decide +kernel
theorem dX6_turn_44 : decode cX6_turn 44 = .ok (.getfield 58, 3) := by decide +kernel
theorem dX6_turn_47 : decode cX6_turn 47 = .ok (.iconst 1, 1) := by decide +kernel
theorem dX6_turn_48 : decode cX6_turn 48 = .ok (.iadd, 1) := by decide +kernel
theorem dX6_turn_49 : decode cX6_turn 49 = .ok (.putfield 58, 3) := by decide +kernel
theorem dX6_turn_52 : decode cX6_turn 52 = .ok (.aload_n 0, 1) := by decide +kernel
theorem dX6_turn_53 : decode cX6_turn 53 = .ok (.dup, 1) := by decide +kernel
theorem dX6_turn_54 : decode cX6_turn 54 = .ok (.getfield 61, 3) := by decide +kernel
theorem dX6_turn_57 : decode cX6_turn 57 = .ok (.iload_n 1, 1) := by decide +kernel
theorem dX6_turn_58 : decode cX6_turn 58 = .ok (.iadd, 1) := by decide +kernel
theorem dX6_turn_59 : decode cX6_turn 59 = .ok (.putfield 61, 3) := by decide +kernel
theorem dX6_turn_62 : decode cX6_turn 62 = .ok (.iload_n 1, 1) := by decide +kernel
theorem dX6_turn_63 : decode cX6_turn 63 = .ok (.ireturn, 1) := by decide +kernel
theorem dX6_look_0 : decode cX6_look 0 = .ok (.aload_n 0, 1) := by decide +kernel
theorem dX6_look_1 : decode cX6_look 1 = .ok (.getfield 58, 3) := by decide +kernel
theorem dX6_look_4 : decode cX6_look 4 = .ok (.istore_n 1, 1) := by decide +kernel
theorem dX6_look_5 : decode cX6_look 5 = .ok (.aload_n 0, 1) := by decide +kernel
theorem dX6_look_6 : decode cX6_look 6 = .ok (.iconst 0, 1) := by decide +kernel
theorem dX6_look_7 : decode cX6_look 7 = .ok (.putfield 58, 3) := by decide +kernel
theorem dX6_look_10 : decode cX6_look 10 = .ok (.iload_n 1, 1) := by decide +kernel
theorem dX6_look_11 : decode cX6_look 11 = .ok (.ireturn, 1) := by decide +kernel
theorem dX6_hours_0 : decode cX6_hours 0 = .ok (.iload_n 1, 1) := by decide +kernel
theorem dX6_hours_1 : decode cX6_hours 1 = .ok (.iconst 1, 1) := by decide +kernel
theorem dX6_hours_2 : decode cX6_hours 2 = .ok (.sipush 1000, 3) := by decide +kernel
theorem dX6_hours_5 : decode cX6_hours 5 = .ok (.invokestatic 68, 3) := by decide +kernel
theorem dX6_hours_8 : decode cX6_hours 8 = .ok (.ifCond .ne 6, 3) := by decide +kernel
theorem dX6_hours_11 : decode cX6_hours 11 = .ok (.bipush (-102), 2) := by decide +kernel
theorem dX6_hours_13 : decode cX6_hours 13 = .ok (.ireturn, 1) := by decide +kernel
theorem dX6_hours_14 : decode cX6_hours 14 = .ok (.aload_n 0, 1) := by decide +kernel
theorem dX6_hours_15 : decode cX6_hours 15 = .ok (.getfield 55, 3) := by decide +kernel
theorem dX6_hours_18 : decode cX6_hours 18 = .ok (.istore_n 2, 1) := by decide +kernel
theorem dX6_hours_19 : decode cX6_hours 19 = .ok (.aload_n 0, 1) := by decide +kernel
theorem dX6_hours_20 : decode cX6_hours 20 = .ok (.iload_n 1, 1) := by decide +kernel
theorem dX6_hours_21 : decode cX6_hours 21 = .ok (.putfield 55, 3) := by decide +kernel
theorem dX6_hours_24 : decode cX6_hours 24 = .ok (.iload_n 2, 1) := by decide +kernel
theorem dX6_hours_25 : decode cX6_hours 25 = .ok (.ireturn, 1) := by decide +kernel
theorem dX6_come_0 : decode cX6_come 0 = .ok (.iload_n 1, 1) := by decide +kernel
theorem dX6_come_1 : decode cX6_come 1 = .ok (.invokestatic 100, 3) := by decide +kernel
theorem dX6_come_4 : decode cX6_come 4 = .ok (.ifCond .ne 6, 3) := by decide +kernel
theorem dX6_come_7 : decode cX6_come 7 = .ok (.bipush (-102), 2) := by decide +kernel
theorem dX6_come_9 : decode cX6_come 9 = .ok (.ireturn, 1) := by decide +kernel
theorem dX6_come_10 : decode cX6_come 10 = .ok (.aload_n 0, 1) := by decide +kernel
theorem dX6_come_11 : decode cX6_come 11 = .ok (.getfield 47, 3) := by decide +kernel
theorem dX6_come_14 : decode cX6_come 14 = .ok (.getfield 220, 3) := by decide +kernel
theorem dX6_come_17 : decode cX6_come 17 = .ok (.bipush 100, 2) := by decide +kernel
theorem dX6_come_19 : decode cX6_come 19 = .ok (.if_icmp .lt 6, 3) := by decide +kernel
theorem dX6_come_22 : decode cX6_come 22 = .ok (.bipush (-104), 2) := by decide +kernel
theorem dX6_come_24 : decode cX6_come 24 = .ok (.ireturn, 1) := by decide +kernel
theorem dX6_come_25 : decode cX6_come 25 = .ok (.aload_n 0, 1) := by decide +kernel
theorem dX6_come_26 : decode cX6_come 26 = .ok (.getfield 47, 3) := by decide +kernel
theorem dX6_come_29 : decode cX6_come 29 = .ok (.iload_n 1, 1) := by decide +kernel
theorem dX6_come_30 : decode cX6_come 30 = .ok (.invokevirtual 223, 3) := by decide +kernel
theorem dX6_come_33 : decode cX6_come 33 = .ok (.aload_n 0, 1) := by decide +kernel
theorem dX6_come_34 : decode cX6_come 34 = .ok (.getfield 47, 3) := by decide +kernel
theorem dX6_come_37 : decode cX6_come 37 = .ok (.getfield 220, 3) := by decide +kernel
theorem dX6_come_40 : decode cX6_come 40 = .ok (.ireturn, 1) := by decide +kernel
theorem dX6_next_0 : decode cX6_next 0 = .ok (.aload_n 0, 1) := by decide +kernel
theorem dX6_next_1 : decode cX6_next 1 = .ok (.getfield 47, 3) := by decide +kernel
theorem dX6_next_4 : decode cX6_next 4 = .ok (.getfield 220, 3) := by decide +kernel
theorem dX6_next_7 : decode cX6_next 7 = .ok (.ifCond .ne 5, 3) := by decide +kernel
theorem dX6_next_10 : decode cX6_next 10 = .ok (.iconst (-1), 1) := by decide +kernel
theorem dX6_next_11 : decode cX6_next 11 = .ok (.ireturn, 1) := by decide +kernel
theorem dX6_next_12 : decode cX6_next 12 = .ok (.aload_n 0, 1) := by decide +kernel
theorem dX6_next_13 : decode cX6_next 13 = .ok (.getfield 12, 3) := by decide +kernel
theorem dX6_next_16 : decode cX6_next 16 = .ok (.aload_n 0, 1) := by decide +kernel
theorem dX6_next_17 : decode cX6_next 17 = .ok (.getfield 47, 3) := by decide +kernel
theorem dX6_next_20 : decode cX6_next 20 = .ok (.getfield 226, 3) := by decide +kernel
theorem dX6_next_23 : decode cX6_next 23 = .ok (.iconst 0, 1) := by decide +kernel
theorem dX6_next_24 : decode cX6_next 24 = .ok (.iaload, 1) := by decide +kernel
theorem dX6_next_25 : decode cX6_next 25 = .ok (.invokevirtual 129, 3) := by decide +kernel
theorem dX6_next_28 : decode cX6_next 28 = .ok (.istore_n 1, 1) := by decide +kernel
theorem dX6_next_29 : decode cX6_next 29 = .ok (.iload_n 1, 1) := by decide +kernel
theorem dX6_next_30 : decode cX6_next 30 = .ok (.iconst (-1), 1) := by decide +kernel
theorem dX6_next_31 : decode cX6_next 31 = .ok (.if_icmp .eq 27, 3) := by decide +kernel
theorem dX6_next_34 : decode cX6_next 34 = .ok (.aload_n 0, 1) := by decide +kernel
theorem dX6_next_35 : decode cX6_next 35 = .ok (.getfield 12, 3) := by decide +kernel
theorem dX6_next_38 : decode cX6_next 38 = .ok (.iload_n 1, 1) := by decide +kernel
theorem dX6_next_39 : decode cX6_next 39 = .ok (.aload_n 0, 1) := by decide +kernel
theorem dX6_next_40 : decode cX6_next 40 = .ok (.getfield 47, 3) := by decide +kernel
theorem dX6_next_43 : decode cX6_next 43 = .ok (.getfield 226, 3) := by decide +kernel
theorem dX6_next_46 : decode cX6_next 46 = .ok (.iconst 0, 1) := by decide +kernel
theorem dX6_next_47 : decode cX6_next 47 = .ok (.iaload, 1) := by decide +kernel
theorem dX6_next_48 : decode cX6_next 48 = .ok (.invokevirtual 107, 3) := by decide +kernel
theorem dX6_next_51 : decode cX6_next 51 = .ok (.aload_n 0, 1) := by decide +kernel
theorem dX6_next_52 : decode cX6_next 52 = .ok (.getfield 47, 3) := by decide +kernel
theorem dX6_next_55 : decode cX6_next 55 = .ok (.invokevirtual 229, 3) := by decide +kernel
theorem dX6_next_58 : decode cX6_next 58 = .ok (.iload_n 1, 1) := by decide +kernel
theorem dX6_next_59 : decode cX6_next 59 = .ok (.ireturn, 1) := by decide +kernel
theorem dX6_book_0 : decode cX6_book 0 = .ok (.iload_n 1, 1) := by decide +kernel
theorem dX6_book_1 : decode cX6_book 1 = .ok (.iconst 0, 1) := by decide +kernel
theorem dX6_book_2 : decode cX6_book 2 = .ok (.ldc 232, 2) := by decide +kernel
theorem dX6_book_4 : decode cX6_book 4 = .ok (.invokestatic 68, 3) := by decide +kernel
theorem dX6_book_7 : decode cX6_book 7 = .ok (.ifCond .ne 6, 3) := by decide +kernel
theorem dX6_book_10 : decode cX6_book 10 = .ok (.bipush (-102), 2) := by decide +kernel
theorem dX6_book_12 : decode cX6_book 12 = .ok (.ireturn, 1) := by decide +kernel
theorem dX6_book_13 : decode cX6_book 13 = .ok (.aload_n 0, 1) := by decide +kernel
theorem dX6_book_14 : decode cX6_book 14 = .ok (.getfield 61, 3) := by decide +kernel
theorem dX6_book_17 : decode cX6_book 17 = .ok (.istore_n 2, 1) := by decide +kernel
theorem dX6_book_18 : decode cX6_book 18 = .ok (.aload_n 0, 1) := by decide +kernel
theorem dX6_book_19 : decode cX6_book 19 = .ok (.iconst 0, 1) := by decide +kernel
theorem dX6_book_20 : decode cX6_book 20 = .ok (.putfield 61, 3) := by decide +kernel
theorem dX6_book_23 : decode cX6_book 23 = .ok (.iload_n 2, 1) := by decide +kernel
theorem dX6_book_24 : decode cX6_book 24 = .ok (.iload_n 1, 1) := by decide +kernel
theorem dX6_book_25 : decode cX6_book 25 = .ok (.isub, 1) := by decide +kernel
theorem dX6_book_26 : decode cX6_book 26 = .ok (.ireturn, 1) := by decide +kernel
theorem dX6_count_0 : decode cX6_count 0 = .ok (.iload_n 1, 1) := by decide +kernel
theorem dX6_count_1 : decode cX6_count 1 = .ok (.tableswitch 102 0 7 #[47, 55, 63, 71, 79, 84, 89, 97], 47) := by decide +kernel
theorem dX6_count_48 : decode cX6_count 48 = .ok (.aload_n 0, 1) := by decide +kernel
theorem dX6_count_49 : decode cX6_count 49 = .ok (.getfield 12, 3) := by decide +kernel
theorem dX6_count_52 : decode cX6_count 52 = .ok (.invokevirtual 82, 3) := by decide +kernel
theorem dX6_count_55 : decode cX6_count 55 = .ok (.ireturn, 1) := by decide +kernel
theorem dX6_count_56 : decode cX6_count 56 = .ok (.aload_n 0, 1) := by decide +kernel
theorem dX6_count_57 : decode cX6_count 57 = .ok (.getfield 12, 3) := by decide +kernel
theorem dX6_count_60 : decode cX6_count 60 = .ok (.invokevirtual 214, 3) := by decide +kernel
theorem dX6_count_63 : decode cX6_count 63 = .ok (.ireturn, 1) := by decide +kernel
theorem dX6_count_64 : decode cX6_count 64 = .ok (.aload_n 0, 1) := by decide +kernel
theorem dX6_count_65 : decode cX6_count 65 = .ok (.getfield 47, 3) := by decide +kernel
theorem dX6_count_68 : decode cX6_count 68 = .ok (.getfield 220, 3) := by decide +kernel
theorem dX6_count_71 : decode cX6_count 71 = .ok (.ireturn, 1) := by decide +kernel
theorem dX6_count_72 : decode cX6_count 72 = .ok (.aload_n 0, 1) := by decide +kernel
theorem dX6_count_73 : decode cX6_count 73 = .ok (.getfield 40, 3) := by decide +kernel
theorem dX6_count_76 : decode cX6_count 76 = .ok (.getfield 185, 3) := by decide +kernel
theorem dX6_count_79 : decode cX6_count 79 = .ok (.ireturn, 1) := by decide +kernel
theorem dX6_count_80 : decode cX6_count 80 = .ok (.aload_n 0, 1) := by decide +kernel
theorem dX6_count_81 : decode cX6_count 81 = .ok (.getfield 58, 3) := by decide +kernel
theorem dX6_count_84 : decode cX6_count 84 = .ok (.ireturn, 1) := by decide +kernel
theorem dX6_count_85 : decode cX6_count 85 = .ok (.aload_n 0, 1) := by decide +kernel
theorem dX6_count_86 : decode cX6_count 86 = .ok (.getfield 61, 3) := by decide +kernel
theorem dX6_count_89 : decode cX6_count 89 = .ok (.ireturn, 1) := by decide +kernel
theorem dX6_count_90 : decode cX6_count 90 = .ok (.aload_n 0, 1) := by decide +kernel
theorem dX6_count_91 : decode cX6_count 91 = .ok (.getfield 12, 3) := by decide +kernel
theorem dX6_count_94 : decode cX6_count 94 = .ok (.getfield 233, 3) := by decide +kernel
theorem dX6_count_97 : decode cX6_count 97 = .ok (.ireturn, 1) := by decide +kernel
theorem dX6_count_98 : decode cX6_count 98 = .ok (.aload_n 0, 1) := by decide +kernel
theorem dX6_count_99 : decode cX6_count 99 = .ok (.getfield 51, 3) := by decide +kernel
theorem dX6_count_102 : decode cX6_count 102 = .ok (.ireturn, 1) := by decide +kernel
theorem dX6_count_103 : decode cX6_count 103 = .ok (.bipush (-102), 2) := by decide +kernel
theorem dX6_count_105 : decode cX6_count 105 = .ok (.ireturn, 1) := by decide +kernel
theorem dX6_digest_0 : decode cX6_digest 0 = .ok (.ldc2_w 236, 3) := by decide +kernel
theorem dX6_digest_3 : decode cX6_digest 3 = .ok (.lstore_n 1, 1) := by decide +kernel
theorem dX6_digest_4 : decode cX6_digest 4 = .ok (.iconst 0, 1) := by decide +kernel
theorem dX6_digest_5 : decode cX6_digest 5 = .ok (.istore_n 3, 1) := by decide +kernel
theorem dX6_digest_6 : decode cX6_digest 6 = .ok (.iload_n 3, 1) := by decide +kernel
theorem dX6_digest_7 : decode cX6_digest 7 = .ok (.bipush 12, 2) := by decide +kernel
theorem dX6_digest_9 : decode cX6_digest 9 = .ok (.if_icmp .ge 16, 3) := by decide +kernel
theorem dX6_digest_12 : decode cX6_digest 12 = .ok (.aload_n 0, 1) := by decide +kernel
theorem dX6_digest_13 : decode cX6_digest 13 = .ok (.lload_n 1, 1) := by decide +kernel
theorem dX6_digest_14 : decode cX6_digest 14 = .ok (.iload_n 3, 1) := by decide +kernel
theorem dX6_digest_15 : decode cX6_digest 15 = .ok (.invokevirtual 238, 3) := by decide +kernel
theorem dX6_digest_18 : decode cX6_digest 18 = .ok (.lstore_n 1, 1) := by decide +kernel
theorem dX6_digest_19 : decode cX6_digest 19 = .ok (.iinc 3 1, 3) := by decide +kernel
theorem dX6_digest_22 : decode cX6_digest 22 = .ok (.goto (-16), 3) := by decide +kernel
theorem dX6_digest_25 : decode cX6_digest 25 = .ok (.lload_n 1, 1) := by decide +kernel
theorem dX6_digest_26 : decode cX6_digest 26 = .ok (.aload_n 0, 1) := by decide +kernel
theorem dX6_digest_27 : decode cX6_digest 27 = .ok (.getfield 12, 3) := by decide +kernel
theorem dX6_digest_30 : decode cX6_digest 30 = .ok (.getfield 242, 3) := by decide +kernel
theorem dX6_digest_33 : decode cX6_digest 33 = .ok (.invokestatic 245, 3) := by decide +kernel
theorem dX6_digest_36 : decode cX6_digest 36 = .ok (.lstore_n 1, 1) := by decide +kernel
theorem dX6_digest_37 : decode cX6_digest 37 = .ok (.lload_n 1, 1) := by decide +kernel
theorem dX6_digest_38 : decode cX6_digest 38 = .ok (.aload_n 0, 1) := by decide +kernel
theorem dX6_digest_39 : decode cX6_digest 39 = .ok (.getfield 12, 3) := by decide +kernel
theorem dX6_digest_42 : decode cX6_digest 42 = .ok (.getfield 248, 3) := by decide +kernel
theorem dX6_digest_45 : decode cX6_digest 45 = .ok (.invokestatic 245, 3) := by decide +kernel
theorem dX6_digest_48 : decode cX6_digest 48 = .ok (.lstore_n 1, 1) := by decide +kernel
theorem dX6_digest_49 : decode cX6_digest 49 = .ok (.aload_n 0, 1) := by decide +kernel
theorem dX6_digest_50 : decode cX6_digest 50 = .ok (.getfield 40, 3) := by decide +kernel
theorem dX6_digest_53 : decode cX6_digest 53 = .ok (.lload_n 1, 1) := by decide +kernel
theorem dX6_digest_54 : decode cX6_digest 54 = .ok (.invokevirtual 251, 3) := by decide +kernel
theorem dX6_digest_57 : decode cX6_digest 57 = .ok (.lstore_n 1, 1) := by decide +kernel
theorem dX6_digest_58 : decode cX6_digest 58 = .ok (.lload_n 1, 1) := by decide +kernel
theorem dX6_digest_59 : decode cX6_digest 59 = .ok (.aload_n 0, 1) := by decide +kernel
theorem dX6_digest_60 : decode cX6_digest 60 = .ok (.getfield 55, 3) := by decide +kernel
theorem dX6_digest_63 : decode cX6_digest 63 = .ok (.invokestatic 245, 3) := by decide +kernel
theorem dX6_digest_66 : decode cX6_digest 66 = .ok (.lstore_n 1, 1) := by decide +kernel
theorem dX6_digest_67 : decode cX6_digest 67 = .ok (.lload_n 1, 1) := by decide +kernel
theorem dX6_digest_68 : decode cX6_digest 68 = .ok (.aload_n 0, 1) := by decide +kernel
theorem dX6_digest_69 : decode cX6_digest 69 = .ok (.getfield 58, 3) := by decide +kernel
theorem dX6_digest_72 : decode cX6_digest 72 = .ok (.invokestatic 245, 3) := by decide +kernel
theorem dX6_digest_75 : decode cX6_digest 75 = .ok (.lstore_n 1, 1) := by decide +kernel
theorem dX6_digest_76 : decode cX6_digest 76 = .ok (.lload_n 1, 1) := by decide +kernel
theorem dX6_digest_77 : decode cX6_digest 77 = .ok (.aload_n 0, 1) := by decide +kernel
theorem dX6_digest_78 : decode cX6_digest 78 = .ok (.getfield 61, 3) := by decide +kernel
theorem dX6_digest_81 : decode cX6_digest 81 = .ok (.invokestatic 245, 3) := by decide +kernel
theorem dX6_digest_84 : decode cX6_digest 84 = .ok (.lstore_n 1, 1) := by decide +kernel
theorem dX6_digest_85 : decode cX6_digest 85 = .ok (.lload_n 1, 1) := by decide +kernel
theorem dX6_digest_86 : decode cX6_digest 86 = .ok (.aload_n 0, 1) := by decide +kernel
theorem dX6_digest_87 : decode cX6_digest 87 = .ok (.getfield 51, 3) := by decide +kernel
theorem dX6_digest_90 : decode cX6_digest 90 = .ok (.invokestatic 245, 3) := by decide +kernel
theorem dX6_digest_93 : decode cX6_digest 93 = .ok (.lstore_n 1, 1) := by decide +kernel
theorem dX6_digest_94 : decode cX6_digest 94 = .ok (.aload_n 0, 1) := by decide +kernel
theorem dX6_digest_95 : decode cX6_digest 95 = .ok (.getfield 47, 3) := by decide +kernel
theorem dX6_digest_98 : decode cX6_digest 98 = .ok (.lload_n 1, 1) := by decide +kernel
theorem dX6_digest_99 : decode cX6_digest 99 = .ok (.invokevirtual 255, 3) := by decide +kernel
theorem dX6_digest_102 : decode cX6_digest 102 = .ok (.lreturn, 1) := by decide +kernel
theorem dX6_lawOfShaking_0 : decode cX6_lawOfShaking 0 = .ok (.iload_n 1, 1) := by decide +kernel
theorem dX6_lawOfShaking_1 : decode cX6_lawOfShaking 1 = .ok (.iconst 0, 1) := by decide +kernel
theorem dX6_lawOfShaking_2 : decode cX6_lawOfShaking 2 = .ok (.sipush 30000, 3) := by decide +kernel
theorem dX6_lawOfShaking_5 : decode cX6_lawOfShaking 5 = .ok (.invokestatic 68, 3) := by decide +kernel
theorem dX6_lawOfShaking_8 : decode cX6_lawOfShaking 8 = .ok (.ifCond .ne 6, 3) := by decide +kernel
theorem dX6_lawOfShaking_11 : decode cX6_lawOfShaking 11 = .ok (.bipush (-102), 2) := by decide +kernel
theorem dX6_lawOfShaking_13 : decode cX6_lawOfShaking 13 = .ok (.ireturn, 1) := by decide +kernel
theorem dX6_lawOfShaking_14 : decode cX6_lawOfShaking 14 = .ok (.aload_n 0, 1) := by decide +kernel
theorem dX6_lawOfShaking_15 : decode cX6_lawOfShaking 15 = .ok (.getfield 12, 3) := by decide +kernel
theorem dX6_lawOfShaking_18 : decode cX6_lawOfShaking 18 = .ok (.getfield 242, 3) := by decide +kernel
theorem dX6_lawOfShaking_21 : decode cX6_lawOfShaking 21 = .ok (.istore_n 2, 1) := by decide +kernel
theorem dX6_lawOfShaking_22 : decode cX6_lawOfShaking 22 = .ok (.aload_n 0, 1) := by decide +kernel
theorem dX6_lawOfShaking_23 : decode cX6_lawOfShaking 23 = .ok (.getfield 12, 3) := by decide +kernel
theorem dX6_lawOfShaking_26 : decode cX6_lawOfShaking 26 = .ok (.iload_n 1, 1) := by decide +kernel
theorem dX6_lawOfShaking_27 : decode cX6_lawOfShaking 27 = .ok (.putfield 242, 3) := by decide +kernel
theorem dX6_lawOfShaking_30 : decode cX6_lawOfShaking 30 = .ok (.iload_n 2, 1) := by decide +kernel
theorem dX6_lawOfShaking_31 : decode cX6_lawOfShaking 31 = .ok (.ireturn, 1) := by decide +kernel
theorem dX6_lawOfLift_0 : decode cX6_lawOfLift 0 = .ok (.iload_n 1, 1) := by decide +kernel
theorem dX6_lawOfLift_1 : decode cX6_lawOfLift 1 = .ok (.iconst 0, 1) := by decide +kernel
theorem dX6_lawOfLift_2 : decode cX6_lawOfLift 2 = .ok (.sipush 5000, 3) := by decide +kernel
theorem dX6_lawOfLift_5 : decode cX6_lawOfLift 5 = .ok (.invokestatic 68, 3) := by decide +kernel
theorem dX6_lawOfLift_8 : decode cX6_lawOfLift 8 = .ok (.ifCond .ne 6, 3) := by decide +kernel
theorem dX6_lawOfLift_11 : decode cX6_lawOfLift 11 = .ok (.bipush (-102), 2) := by decide +kernel
theorem dX6_lawOfLift_13 : decode cX6_lawOfLift 13 = .ok (.ireturn, 1) := by decide +kernel
theorem dX6_lawOfLift_14 : decode cX6_lawOfLift 14 = .ok (.aload_n 0, 1) := by decide +kernel
theorem dX6_lawOfLift_15 : decode cX6_lawOfLift 15 = .ok (.getfield 12, 3) := by decide +kernel
theorem dX6_lawOfLift_18 : decode cX6_lawOfLift 18 = .ok (.getfield 248, 3) := by decide +kernel
theorem dX6_lawOfLift_21 : decode cX6_lawOfLift 21 = .ok (.istore_n 2, 1) := by decide +kernel
theorem dX6_lawOfLift_22 : decode cX6_lawOfLift 22 = .ok (.aload_n 0, 1) := by decide +kernel
theorem dX6_lawOfLift_23 : decode cX6_lawOfLift 23 = .ok (.getfield 12, 3) := by decide +kernel
theorem dX6_lawOfLift_26 : decode cX6_lawOfLift 26 = .ok (.iload_n 1, 1) := by decide +kernel
theorem dX6_lawOfLift_27 : decode cX6_lawOfLift 27 = .ok (.putfield 248, 3) := by decide +kernel
theorem dX6_lawOfLift_30 : decode cX6_lawOfLift 30 = .ok (.iload_n 2, 1) := by decide +kernel
theorem dX6_lawOfLift_31 : decode cX6_lawOfLift 31 = .ok (.ireturn, 1) := by decide +kernel
theorem dX6_isLegOfHorse_0 : decode cX6_isLegOfHorse 0 = .ok (.aload_n 0, 1) := by decide +kernel
theorem dX6_isLegOfHorse_1 : decode cX6_isLegOfHorse 1 = .ok (.getfield 12, 3) := by decide +kernel
theorem dX6_isLegOfHorse_4 : decode cX6_isLegOfHorse 4 = .ok (.iload_n 1, 1) := by decide +kernel
theorem dX6_isLegOfHorse_5 : decode cX6_isLegOfHorse 5 = .ok (.invokevirtual 72, 3) := by decide +kernel
theorem dX6_isLegOfHorse_8 : decode cX6_isLegOfHorse 8 = .ok (.ifCond .eq 14, 3) := by decide +kernel
theorem dX6_isLegOfHorse_11 : decode cX6_isLegOfHorse 11 = .ok (.iload_n 2, 1) := by decide +kernel
theorem dX6_isLegOfHorse_12 : decode cX6_isLegOfHorse 12 = .ok (.invokestatic 179, 3) := by decide +kernel
theorem dX6_isLegOfHorse_15 : decode cX6_isLegOfHorse 15 = .ok (.ifCond .eq 7, 3) := by decide +kernel
theorem dX6_isLegOfHorse_18 : decode cX6_isLegOfHorse 18 = .ok (.iconst 1, 1) := by decide +kernel
theorem dX6_isLegOfHorse_19 : decode cX6_isLegOfHorse 19 = .ok (.goto 4, 3) := by decide +kernel
theorem dX6_isLegOfHorse_22 : decode cX6_isLegOfHorse 22 = .ok (.iconst 0, 1) := by decide +kernel
theorem dX6_isLegOfHorse_23 : decode cX6_isLegOfHorse 23 = .ok (.ireturn, 1) := by decide +kernel
theorem dX6_mixPlace_0 : decode cX6_mixPlace 0 = .ok (.aload_n 0, 1) := by decide +kernel
theorem dX6_mixPlace_1 : decode cX6_mixPlace 1 = .ok (.getfield 12, 3) := by decide +kernel
theorem dX6_mixPlace_4 : decode cX6_mixPlace 4 = .ok (.iload_n 3, 1) := by decide +kernel
theorem dX6_mixPlace_5 : decode cX6_mixPlace 5 = .ok (.invokevirtual 72, 3) := by decide +kernel
theorem dX6_mixPlace_8 : decode cX6_mixPlace 8 = .ok (.ifCond .ne 9, 3) := by decide +kernel
theorem dX6_mixPlace_11 : decode cX6_mixPlace 11 = .ok (.lload_n 1, 1) := by decide +kernel
theorem dX6_mixPlace_12 : decode cX6_mixPlace 12 = .ok (.iconst 0, 1) := by decide +kernel
theorem dX6_mixPlace_13 : decode cX6_mixPlace 13 = .ok (.invokestatic 245, 3) := by decide +kernel
theorem dX6_mixPlace_16 : decode cX6_mixPlace 16 = .ok (.lreturn, 1) := by decide +kernel
theorem dX6_mixPlace_17 : decode cX6_mixPlace 17 = .ok (.lload_n 1, 1) := by decide +kernel
theorem dX6_mixPlace_18 : decode cX6_mixPlace 18 = .ok (.aload_n 0, 1) := by decide +kernel
theorem dX6_mixPlace_19 : decode cX6_mixPlace 19 = .ok (.getfield 12, 3) := by decide +kernel
theorem dX6_mixPlace_22 : decode cX6_mixPlace 22 = .ok (.getfield 256, 3) := by decide +kernel
theorem dX6_mixPlace_25 : decode cX6_mixPlace 25 = .ok (.iload_n 3, 1) := by decide +kernel
theorem dX6_mixPlace_26 : decode cX6_mixPlace 26 = .ok (.iaload, 1) := by decide +kernel
theorem dX6_mixPlace_27 : decode cX6_mixPlace 27 = .ok (.invokestatic 245, 3) := by decide +kernel
theorem dX6_mixPlace_30 : decode cX6_mixPlace 30 = .ok (.aload_n 0, 1) := by decide +kernel
theorem dX6_mixPlace_31 : decode cX6_mixPlace 31 = .ok (.getfield 12, 3) := by decide +kernel
theorem dX6_mixPlace_34 : decode cX6_mixPlace 34 = .ok (.getfield 147, 3) := by decide +kernel
theorem dX6_mixPlace_37 : decode cX6_mixPlace 37 = .ok (.iload_n 3, 1) := by decide +kernel
theorem dX6_mixPlace_38 : decode cX6_mixPlace 38 = .ok (.iaload, 1) := by decide +kernel
theorem dX6_mixPlace_39 : decode cX6_mixPlace 39 = .ok (.invokestatic 245, 3) := by decide +kernel
theorem dX6_mixPlace_42 : decode cX6_mixPlace 42 = .ok (.lstore 4, 2) := by decide +kernel
theorem dX6_mixPlace_44 : decode cX6_mixPlace 44 = .ok (.aload_n 0, 1) := by decide +kernel
theorem dX6_mixPlace_45 : decode cX6_mixPlace 45 = .ok (.getfield 33, 3) := by decide +kernel
theorem dX6_mixPlace_48 : decode cX6_mixPlace 48 = .ok (.aload_n 0, 1) := by decide +kernel
theorem dX6_mixPlace_49 : decode cX6_mixPlace 49 = .ok (.getfield 26, 3) := by decide +kernel
theorem dX6_mixPlace_52 : decode cX6_mixPlace 52 = .ok (.lload 4, 2) := by decide +kernel
theorem dX6_mixPlace_54 : decode cX6_mixPlace 54 = .ok (.iload_n 3, 1) := by decide +kernel
theorem dX6_mixPlace_55 : decode cX6_mixPlace 55 = .ok (.invokevirtual 259, 3) := by decide +kernel
theorem dX6_mixPlace_58 : decode cX6_mixPlace 58 = .ok (.iload_n 3, 1) := by decide +kernel
theorem dX6_mixPlace_59 : decode cX6_mixPlace 59 = .ok (.invokevirtual 262, 3) := by decide +kernel
theorem dX6_mixPlace_62 : decode cX6_mixPlace 62 = .ok (.lreturn, 1) := by decide +kernel
theorem dX6_mix_0 : decode cX6_mix 0 = .ok (.ldc2_w 265, 3) := by decide +kernel
theorem dX6_mix_3 : decode cX6_mix 3 = .ok (.lload_n 0, 1) := by decide +kernel
theorem dX6_mix_4 : decode cX6_mix 4 = .ok (.lmul, 1) := by decide +kernel
theorem dX6_mix_5 : decode cX6_mix 5 = .ok (.iload_n 2, 1) := by decide +kernel
theorem dX6_mix_6 : decode cX6_mix 6 = .ok (.i2l, 1) := by decide +kernel
theorem dX6_mix_7 : decode cX6_mix 7 = .ok (.ladd, 1) := by decide +kernel
theorem dX6_mix_8 : decode cX6_mix 8 = .ok (.lreturn, 1) := by decide +kernel
theorem dX6_isWithin_0 : decode cX6_isWithin 0 = .ok (.iload_n 0, 1) := by decide +kernel
theorem dX6_isWithin_1 : decode cX6_isWithin 1 = .ok (.iload_n 1, 1) := by decide +kernel
theorem dX6_isWithin_2 : decode cX6_isWithin 2 = .ok (.if_icmp .lt 12, 3) := by decide +kernel
theorem dX6_isWithin_5 : decode cX6_isWithin 5 = .ok (.iload_n 0, 1) := by decide +kernel
theorem dX6_isWithin_6 : decode cX6_isWithin 6 = .ok (.iload_n 2, 1) := by decide +kernel
theorem dX6_isWithin_7 : decode cX6_isWithin 7 = .ok (.if_icmp .gt 7, 3) := by decide +kernel
theorem dX6_isWithin_10 : decode cX6_isWithin 10 = .ok (.iconst 1, 1) := by decide +kernel
theorem dX6_isWithin_11 : decode cX6_isWithin 11 = .ok (.goto 4, 3) := by decide +kernel
theorem dX6_isWithin_14 : decode cX6_isWithin 14 = .ok (.iconst 0, 1) := by decide +kernel
theorem dX6_isWithin_15 : decode cX6_isWithin 15 = .ok (.ireturn, 1) := by decide +kernel
theorem dX6_isPlace_0 : decode cX6_isPlace 0 = .ok (.iload_n 0, 1) := by decide +kernel
theorem dX6_isPlace_1 : decode cX6_isPlace 1 = .ok (.ifCond .lt 13, 3) := by decide +kernel
theorem dX6_isPlace_4 : decode cX6_isPlace 4 = .ok (.iload_n 0, 1) := by decide +kernel
theorem dX6_isPlace_5 : decode cX6_isPlace 5 = .ok (.bipush 12, 2) := by decide +kernel
theorem dX6_isPlace_7 : decode cX6_isPlace 7 = .ok (.if_icmp .ge 7, 3) := by decide +kernel
theorem dX6_isPlace_10 : decode cX6_isPlace 10 = .ok (.iconst 1, 1) := by decide +kernel
theorem dX6_isPlace_11 : decode cX6_isPlace 11 = .ok (.goto 4, 3) := by decide +kernel
theorem dX6_isPlace_14 : decode cX6_isPlace 14 = .ok (.iconst 0, 1) := by decide +kernel
theorem dX6_isPlace_15 : decode cX6_isPlace 15 = .ok (.ireturn, 1) := by decide +kernel
theorem dX6_isLeg_0 : decode cX6_isLeg 0 = .ok (.iload_n 0, 1) := by decide +kernel
theorem dX6_isLeg_1 : decode cX6_isLeg 1 = .ok (.ifCond .lt 12, 3) := by decide +kernel
theorem dX6_isLeg_4 : decode cX6_isLeg 4 = .ok (.iload_n 0, 1) := by decide +kernel
theorem dX6_isLeg_5 : decode cX6_isLeg 5 = .ok (.iconst 4, 1) := by decide +kernel
theorem dX6_isLeg_6 : decode cX6_isLeg 6 = .ok (.if_icmp .ge 7, 3) := by decide +kernel
theorem dX6_isLeg_9 : decode cX6_isLeg 9 = .ok (.iconst 1, 1) := by decide +kernel
theorem dX6_isLeg_10 : decode cX6_isLeg 10 = .ok (.goto 4, 3) := by decide +kernel
theorem dX6_isLeg_13 : decode cX6_isLeg 13 = .ok (.iconst 0, 1) := by decide +kernel
theorem dX6_isLeg_14 : decode cX6_isLeg 14 = .ok (.ireturn, 1) := by decide +kernel
theorem dX6_legNumber_0 : decode cX6_legNumber 0 = .ok (.iconst 4, 1) := by decide +kernel
theorem dX6_legNumber_1 : decode cX6_legNumber 1 = .ok (.iload_n 0, 1) := by decide +kernel
theorem dX6_legNumber_2 : decode cX6_legNumber 2 = .ok (.imul, 1) := by decide +kernel
theorem dX6_legNumber_3 : decode cX6_legNumber 3 = .ok (.iload_n 1, 1) := by decide +kernel
theorem dX6_legNumber_4 : decode cX6_legNumber 4 = .ok (.iadd, 1) := by decide +kernel
theorem dX6_legNumber_5 : decode cX6_legNumber 5 = .ok (.ireturn, 1) := by decide +kernel
theorem dX6_isRiderWeight_0 : decode cX6_isRiderWeight 0 = .ok (.iload_n 0, 1) := by decide +kernel
theorem dX6_isRiderWeight_1 : decode cX6_isRiderWeight 1 = .ok (.iconst 1, 1) := by decide +kernel
theorem dX6_isRiderWeight_2 : decode cX6_isRiderWeight 2 = .ok (.sipush 150, 3) := by decide +kernel
theorem dX6_isRiderWeight_5 : decode cX6_isRiderWeight 5 = .ok (.invokestatic 68, 3) := by decide +kernel
theorem dX6_isRiderWeight_8 : decode cX6_isRiderWeight 8 = .ok (.ireturn, 1) := by decide +kernel
theorem dX6_isGroup_0 : decode cX6_isGroup 0 = .ok (.iload_n 0, 1) := by decide +kernel
theorem dX6_isGroup_1 : decode cX6_isGroup 1 = .ok (.iconst 1, 1) := by decide +kernel
theorem dX6_isGroup_2 : decode cX6_isGroup 2 = .ok (.iconst 3, 1) := by decide +kernel
theorem dX6_isGroup_3 : decode cX6_isGroup 3 = .ok (.invokestatic 68, 3) := by decide +kernel
theorem dX6_isGroup_6 : decode cX6_isGroup 6 = .ok (.ifCond .eq 38, 3) := by decide +kernel
theorem dX6_isGroup_9 : decode cX6_isGroup 9 = .ok (.iload_n 1, 1) := by decide +kernel
theorem dX6_isGroup_10 : decode cX6_isGroup 10 = .ok (.invokestatic 100, 3) := by decide +kernel
theorem dX6_isGroup_13 : decode cX6_isGroup 13 = .ok (.ifCond .eq 31, 3) := by decide +kernel
theorem dX6_isGroup_16 : decode cX6_isGroup 16 = .ok (.iload_n 0, 1) := by decide +kernel
theorem dX6_isGroup_17 : decode cX6_isGroup 17 = .ok (.iconst 2, 1) := by decide +kernel
theorem dX6_isGroup_18 : decode cX6_isGroup 18 = .ok (.if_icmp .lt 10, 3) := by decide +kernel
theorem dX6_isGroup_21 : decode cX6_isGroup 21 = .ok (.iload_n 2, 1) := by decide +kernel
theorem dX6_isGroup_22 : decode cX6_isGroup 22 = .ok (.invokestatic 100, 3) := by decide +kernel
theorem dX6_isGroup_25 : decode cX6_isGroup 25 = .ok (.ifCond .eq 19, 3) := by decide +kernel
theorem dX6_isGroup_28 : decode cX6_isGroup 28 = .ok (.iload_n 0, 1) := by decide +kernel
theorem dX6_isGroup_29 : decode cX6_isGroup 29 = .ok (.iconst 3, 1) := by decide +kernel
theorem dX6_isGroup_30 : decode cX6_isGroup 30 = .ok (.if_icmp .lt 10, 3) := by decide +kernel
theorem dX6_isGroup_33 : decode cX6_isGroup 33 = .ok (.iload_n 3, 1) := by decide +kernel
theorem dX6_isGroup_34 : decode cX6_isGroup 34 = .ok (.invokestatic 100, 3) := by decide +kernel
theorem dX6_isGroup_37 : decode cX6_isGroup 37 = .ok (.ifCond .eq 7, 3) := by decide +kernel
theorem dX6_isGroup_40 : decode cX6_isGroup 40 = .ok (.iconst 1, 1) := by decide +kernel
theorem dX6_isGroup_41 : decode cX6_isGroup 41 = .ok (.goto 4, 3) := by decide +kernel
theorem dX6_isGroup_44 : decode cX6_isGroup 44 = .ok (.iconst 0, 1) := by decide +kernel
theorem dX6_isGroup_45 : decode cX6_isGroup 45 = .ok (.ireturn, 1) := by decide +kernel
theorem dX6_shakeOf_0 : decode cX6_shakeOf 0 = .ok (.iload_n 0, 1) := by decide +kernel
theorem dX6_shakeOf_1 : decode cX6_shakeOf 1 = .ok (.iload_n 0, 1) := by decide +kernel
theorem dX6_shakeOf_2 : decode cX6_shakeOf 2 = .ok (.imul, 1) := by decide +kernel
theorem dX6_shakeOf_3 : decode cX6_shakeOf 3 = .ok (.iload_n 1, 1) := by decide +kernel
theorem dX6_shakeOf_4 : decode cX6_shakeOf 4 = .ok (.iload_n 1, 1) := by decide +kernel
theorem dX6_shakeOf_5 : decode cX6_shakeOf 5 = .ok (.imul, 1) := by decide +kernel
theorem dX6_shakeOf_6 : decode cX6_shakeOf 6 = .ok (.iadd, 1) := by decide +kernel
theorem dX6_shakeOf_7 : decode cX6_shakeOf 7 = .ok (.ireturn, 1) := by decide +kernel
theorem dX7_init_0 : decode cX7_init 0 = .ok (.aload_n 0, 1) := by decide +kernel
theorem dX7_init_1 : decode cX7_init 1 = .ok (.invokespecial 1, 3) := by decide +kernel
theorem dX7_init_4 : decode cX7_init 4 = .ok (.aload_n 0, 1) := by decide +kernel
theorem dX7_init_5 : decode cX7_init 5 = .ok (.bipush 12, 2) := by decide +kernel
theorem dX7_init_7 : decode cX7_init 7 = .ok (.newarray .int, 2) := by decide +kernel
theorem dX7_init_9 : decode cX7_init 9 = .ok (.putfield 7, 3) := by decide +kernel
theorem dX7_init_12 : decode cX7_init 12 = .ok (.aload_n 0, 1) := by decide +kernel
theorem dX7_init_13 : decode cX7_init 13 = .ok (.bipush 12, 2) := by decide +kernel
theorem dX7_init_15 : decode cX7_init 15 = .ok (.newarray .int, 2) := by decide +kernel
theorem dX7_init_17 : decode cX7_init 17 = .ok (.putfield 13, 3) := by decide +kernel
theorem dX7_init_20 : decode cX7_init 20 = .ok (.aload_n 0, 1) := by decide +kernel
theorem dX7_init_21 : decode cX7_init 21 = .ok (.bipush 12, 2) := by decide +kernel
theorem dX7_init_23 : decode cX7_init 23 = .ok (.newarray .int, 2) := by decide +kernel
theorem dX7_init_25 : decode cX7_init 25 = .ok (.putfield 16, 3) := by decide +kernel
theorem dX7_init_28 : decode cX7_init 28 = .ok (.aload_n 0, 1) := by decide +kernel
theorem dX7_init_29 : decode cX7_init 29 = .ok (.bipush 12, 2) := by decide +kernel
theorem dX7_init_31 : decode cX7_init 31 = .ok (.newarray .int, 2) := by decide +kernel
theorem dX7_init_33 : decode cX7_init 33 = .ok (.putfield 19, 3) := by decide +kernel
theorem dX7_init_36 : decode cX7_init 36 = .ok (.aload_n 0, 1) := by decide +kernel
theorem dX7_init_37 : decode cX7_init 37 = .ok (.bipush 12, 2) := by decide +kernel
theorem dX7_init_39 : decode cX7_init 39 = .ok (.newarray .int, 2) := by decide +kernel
theorem dX7_init_41 : decode cX7_init 41 = .ok (.putfield 22, 3) := by decide +kernel
theorem dX7_init_44 : decode cX7_init 44 = .ok (.aload_n 0, 1) := by decide +kernel
theorem dX7_init_45 : decode cX7_init 45 = .ok (.bipush 96, 2) := by decide +kernel
theorem dX7_init_47 : decode cX7_init 47 = .ok (.newarray .int, 2) := by decide +kernel
theorem dX7_init_49 : decode cX7_init 49 = .ok (.putfield 25, 3) := by decide +kernel
theorem dX7_init_52 : decode cX7_init 52 = .ok (.aload_n 0, 1) := by decide +kernel
theorem dX7_init_53 : decode cX7_init 53 = .ok (.bipush 48, 2) := by decide +kernel
theorem dX7_init_55 : decode cX7_init 55 = .ok (.newarray .int, 2) := by decide +kernel
theorem dX7_init_57 : decode cX7_init 57 = .ok (.putfield 28, 3) := by decide +kernel
theorem dX7_init_60 : decode cX7_init 60 = .ok (.aload_n 0, 1) := by decide +kernel
theorem dX7_init_61 : decode cX7_init 61 = .ok (.iconst 3, 1) := by decide +kernel
theorem dX7_init_62 : decode cX7_init 62 = .ok (.newarray .int, 2) := by decide +kernel
theorem dX7_init_64 : decode cX7_init 64 = .ok (.putfield 31, 3) := by decide +kernel
theorem dX7_init_67 : decode cX7_init 67 = .ok (.aload_n 0, 1) := by decide +kernel
theorem dX7_init_68 : decode cX7_init 68 = .ok (.bipush 48, 2) := by decide +kernel
theorem dX7_init_70 : decode cX7_init 70 = .ok (.newarray .boolean, 2) := by decide +kernel
theorem dX7_init_72 : decode cX7_init 72 = .ok (.putfield 34, 3) := by decide +kernel
theorem dX7_init_75 : decode cX7_init 75 = .ok (.aload_n 0, 1) := by decide +kernel
theorem dX7_init_76 : decode cX7_init 76 = .ok (.bipush 8, 2) := by decide +kernel
theorem dX7_init_78 : decode cX7_init 78 = .ok (.newarray .int, 2) := by decide +kernel
theorem dX7_init_80 : decode cX7_init 80 = .ok (.putfield 38, 3) := by decide +kernel
theorem dX7_init_83 : decode cX7_init 83 = .ok (.aload_n 0, 1) := by decide +kernel
theorem dX7_init_84 : decode cX7_init 84 = .ok (.bipush 8, 2) := by decide +kernel
theorem dX7_init_86 : decode cX7_init 86 = .ok (.newarray .int, 2) := by decide +kernel
theorem dX7_init_88 : decode cX7_init 88 = .ok (.putfield 41, 3) := by decide +kernel
theorem dX7_init_91 : decode cX7_init 91 = .ok (.aload_n 0, 1) := by decide +kernel
theorem dX7_init_92 : decode cX7_init 92 = .ok (.bipush 8, 2) := by decide +kernel
theorem dX7_init_94 : decode cX7_init 94 = .ok (.newarray .int, 2) := by decide +kernel
theorem dX7_init_96 : decode cX7_init 96 = .ok (.putfield 44, 3) := by decide +kernel
theorem dX7_init_99 : decode cX7_init 99 = .ok (.aload_n 0, 1) := by decide +kernel
theorem dX7_init_100 : decode cX7_init 100 = .ok (.bipush 64, 2) := by decide +kernel
theorem dX7_init_102 : decode cX7_init 102 = .ok (.newarray .int, 2) := by decide +kernel
theorem dX7_init_104 : decode cX7_init 104 = .ok (.putfield 47, 3) := by decide +kernel
theorem dX7_init_107 : decode cX7_init 107 = .ok (.aload_n 0, 1) := by decide +kernel
theorem dX7_init_108 : decode cX7_init 108 = .ok (.bipush 8, 2) := by decide +kernel
theorem dX7_init_110 : decode cX7_init 110 = .ok (.newarray .int, 2) := by decide +kernel
theorem dX7_init_112 : decode cX7_init 112 = .ok (.putfield 50, 3) := by decide +kernel
theorem dX7_init_115 : decode cX7_init 115 = .ok (.aload_n 0, 1) := by decide +kernel
theorem dX7_init_116 : decode cX7_init 116 = .ok (.bipush 8, 2) := by decide +kernel
theorem dX7_init_118 : decode cX7_init 118 = .ok (.newarray .int, 2) := by decide +kernel
theorem dX7_init_120 : decode cX7_init 120 = .ok (.putfield 53, 3) := by decide +kernel
theorem dX7_init_123 : decode cX7_init 123 = .ok (.aload_n 0, 1) := by decide +kernel
theorem dX7_init_124 : decode cX7_init 124 = .ok (.bipush 100, 2) := by decide +kernel
theorem dX7_init_126 : decode cX7_init 126 = .ok (.newarray .int, 2) := by decide +kernel
theorem dX7_init_128 : decode cX7_init 128 = .ok (.putfield 56, 3) := by decide +kernel
theorem dX7_init_131 : decode cX7_init 131 = .ok (.aload_n 0, 1) := by decide +kernel
theorem dX7_init_132 : decode cX7_init 132 = .ok (.sipush 3000, 3) := by decide +kernel
theorem dX7_init_135 : decode cX7_init 135 = .ok (.putfield 59, 3) := by decide +kernel
theorem dX7_init_138 : decode cX7_init 138 = .ok (.aload_n 0, 1) := by decide +kernel
theorem dX7_init_139 : decode cX7_init 139 = .ok (.sipush 5000, 3) := by decide +kernel
theorem dX7_init_142 : decode cX7_init 142 = .ok (.putfield 63, 3) := by decide +kernel
theorem dX7_init_145 : decode cX7_init 145 = .ok (.aload_n 0, 1) := by decide +kernel
theorem dX7_init_146 : decode cX7_init 146 = .ok (.bipush 100, 2) := by decide +kernel
theorem dX7_init_148 : decode cX7_init 148 = .ok (.putfield 66, 3) := by decide +kernel
theorem dX7_init_151 : decode cX7_init 151 = .ok (.aload_n 0, 1) := by decide +kernel
theorem dX7_init_152 : decode cX7_init 152 = .ok (.iconst 0, 1) := by decide +kernel
theorem dX7_init_153 : decode cX7_init 153 = .ok (.bipush 10, 2) := by decide +kernel
theorem dX7_init_155 : decode cX7_init 155 = .ok (.iconst 0, 1) := by decide +kernel
theorem dX7_init_156 : decode cX7_init 156 = .ok (.invokevirtual 69, 3) := by decide +kernel
theorem dX7_init_159 : decode cX7_init 159 = .ok (.aload_n 0, 1) := by decide +kernel
theorem dX7_init_160 : decode cX7_init 160 = .ok (.iconst 1, 1) := by decide +kernel
theorem dX7_init_161 : decode cX7_init 161 = .ok (.bipush 9, 2) := by decide +kernel
theorem dX7_init_163 : decode cX7_init 163 = .ok (.iconst 5, 1) := by decide +kernel
theorem dX7_init_164 : decode cX7_init 164 = .ok (.invokevirtual 69, 3) := by decide +kernel
theorem dX7_init_167 : decode cX7_init 167 = .ok (.aload_n 0, 1) := by decide +kernel
theorem dX7_init_168 : decode cX7_init 168 = .ok (.iconst 2, 1) := by decide +kernel
theorem dX7_init_169 : decode cX7_init 169 = .ok (.iconst 5, 1) := by decide +kernel
theorem dX7_init_170 : decode cX7_init 170 = .ok (.bipush 9, 2) := by decide +kernel
theorem dX7_init_172 : decode cX7_init 172 = .ok (.invokevirtual 69, 3) := by decide +kernel
theorem dX7_init_175 : decode cX7_init 175 = .ok (.return_, 1) := by decide +kernel
theorem dX7_in_0 : decode cX7_in 0 = .ok (.lload_n 0, 1) := by decide +kernel
theorem dX7_in_1 : decode cX7_in 1 = .ok (.lload_n 2, 1) := by decide +kernel
theorem dX7_in_2 : decode cX7_in 2 = .ok (.lcmp, 1) := by decide +kernel
theorem dX7_in_3 : decode cX7_in 3 = .ok (.ifCond .lt 14, 3) := by decide +kernel
theorem dX7_in_6 : decode cX7_in 6 = .ok (.lload_n 0, 1) := by decide +kernel
theorem dX7_in_7 : decode cX7_in 7 = .ok (.lload 4, 2) := by decide +kernel
theorem dX7_in_9 : decode cX7_in 9 = .ok (.lcmp, 1) := by decide +kernel
theorem dX7_in_10 : decode cX7_in 10 = .ok (.ifCond .gt 7, 3) := by decide +kernel
theorem dX7_in_13 : decode cX7_in 13 = .ok (.iconst 1, 1) := by decide +kernel
theorem dX7_in_14 : decode cX7_in 14 = .ok (.goto 4, 3) := by decide +kernel
theorem dX7_in_17 : decode cX7_in 17 = .ok (.iconst 0, 1) := by decide +kernel
theorem dX7_in_18 : decode cX7_in 18 = .ok (.ireturn, 1) := by decide +kernel
theorem dX7_put_0 : decode cX7_put 0 = .ok (.iload_n 2, 1) := by decide +kernel
theorem dX7_put_1 : decode cX7_put 1 = .ok (.istore 4, 2) := by decide +kernel
theorem dX7_put_3 : decode cX7_put 3 = .ok (.iload_n 3, 1) := by decide +kernel
theorem dX7_put_4 : decode cX7_put 4 = .ok (.istore 5, 2) := by decide +kernel
theorem dX7_put_6 : decode cX7_put 6 = .ok (.iload_n 1, 1) := by decide +kernel
theorem dX7_put_7 : decode cX7_put 7 = .ok (.istore 6, 2) := by decide +kernel
theorem dX7_put_9 : decode cX7_put 9 = .ok (.iload 6, 2) := by decide +kernel
theorem dX7_put_11 : decode cX7_put 11 = .ok (.bipush 12, 2) := by decide +kernel
theorem dX7_put_13 : decode cX7_put 13 = .ok (.if_icmp .ge 40, 3) := by decide +kernel
theorem dX7_put_16 : decode cX7_put 16 = .ok (.aload_n 0, 1) := by decide +kernel
theorem dX7_put_17 : decode cX7_put 17 = .ok (.getfield 7, 3) := by decide +kernel
theorem dX7_put_20 : decode cX7_put 20 = .ok (.iload 6, 2) := by decide +kernel
theorem dX7_put_22 : decode cX7_put 22 = .ok (.iload 4, 2) := by decide +kernel
theorem dX7_put_24 : decode cX7_put 24 = .ok (.iastore, 1) := by decide +kernel
theorem dX7_put_25 : decode cX7_put 25 = .ok (.aload_n 0, 1) := by decide +kernel
theorem dX7_put_26 : decode cX7_put 26 = .ok (.getfield 13, 3) := by decide +kernel
theorem dX7_put_29 : decode cX7_put 29 = .ok (.iload 6, 2) := by decide +kernel
theorem dX7_put_31 : decode cX7_put 31 = .ok (.iload 5, 2) := by decide +kernel
theorem dX7_put_33 : decode cX7_put 33 = .ok (.iastore, 1) := by decide +kernel
theorem dX7_put_34 : decode cX7_put 34 = .ok (.iload 4, 2) := by decide +kernel
theorem dX7_put_36 : decode cX7_put 36 = .ok (.istore 7, 2) := by decide +kernel
theorem dX7_put_38 : decode cX7_put 38 = .ok (.iload 5, 2) := by decide +kernel
theorem dX7_put_40 : decode cX7_put 40 = .ok (.ineg, 1) := by decide +kernel
theorem dX7_put_41 : decode cX7_put 41 = .ok (.istore 4, 2) := by decide +kernel
theorem dX7_put_43 : decode cX7_put 43 = .ok (.iload 7, 2) := by decide +kernel
theorem dX7_put_45 : decode cX7_put 45 = .ok (.istore 5, 2) := by decide +kernel
theorem dX7_put_47 : decode cX7_put 47 = .ok (.iinc 6 3, 3) := by decide +kernel
theorem dX7_put_50 : decode cX7_put 50 = .ok (.goto (-41), 3) := by decide +kernel
theorem dX7_put_53 : decode cX7_put 53 = .ok (.return_, 1) := by decide +kernel
theorem dX7_isPlace_0 : decode cX7_isPlace 0 = .ok (.iload_n 0, 1) := by decide +kernel
theorem dX7_isPlace_1 : decode cX7_isPlace 1 = .ok (.i2l, 1) := by decide +kernel
theorem dX7_isPlace_2 : decode cX7_isPlace 2 = .ok (.lconst 0, 1) := by decide +kernel
theorem dX7_isPlace_3 : decode cX7_isPlace 3 = .ok (.ldc2_w 73, 3) := by decide +kernel
theorem dX7_isPlace_6 : decode cX7_isPlace 6 = .ok (.invokestatic 75, 3) := by decide +kernel
theorem dX7_isPlace_9 : decode cX7_isPlace 9 = .ok (.ireturn, 1) := by decide +kernel
theorem dX7_isHorse_0 : decode cX7_isHorse 0 = .ok (.iload_n 1, 1) := by decide +kernel
theorem dX7_isHorse_1 : decode cX7_isHorse 1 = .ok (.invokestatic 79, 3) := by decide +kernel
theorem dX7_isHorse_4 : decode cX7_isHorse 4 = .ok (.ifCond .eq 16, 3) := by decide +kernel
theorem dX7_isHorse_7 : decode cX7_isHorse 7 = .ok (.aload_n 0, 1) := by decide +kernel
theorem dX7_isHorse_8 : decode cX7_isHorse 8 = .ok (.getfield 16, 3) := by decide +kernel
theorem dX7_isHorse_11 : decode cX7_isHorse 11 = .ok (.iload_n 1, 1) := by decide +kernel
theorem dX7_isHorse_12 : decode cX7_isHorse 12 = .ok (.iaload, 1) := by decide +kernel
theorem dX7_isHorse_13 : decode cX7_isHorse 13 = .ok (.ifCond .le 7, 3) := by decide +kernel
theorem dX7_isHorse_16 : decode cX7_isHorse 16 = .ok (.iconst 1, 1) := by decide +kernel
theorem dX7_isHorse_17 : decode cX7_isHorse 17 = .ok (.goto 4, 3) := by decide +kernel
theorem dX7_isHorse_20 : decode cX7_isHorse 20 = .ok (.iconst 0, 1) := by decide +kernel
theorem dX7_isHorse_21 : decode cX7_isHorse 21 = .ok (.ireturn, 1) := by decide +kernel
theorem dX7_horses_0 : decode cX7_horses 0 = .ok (.iconst 0, 1) := by decide +kernel
theorem dX7_horses_1 : decode cX7_horses 1 = .ok (.istore_n 1, 1) := by decide +kernel
theorem dX7_horses_2 : decode cX7_horses 2 = .ok (.iconst 0, 1) := by decide +kernel
theorem dX7_horses_3 : decode cX7_horses 3 = .ok (.istore_n 2, 1) := by decide +kernel
theorem dX7_horses_4 : decode cX7_horses 4 = .ok (.iload_n 2, 1) := by decide +kernel
theorem dX7_horses_5 : decode cX7_horses 5 = .ok (.bipush 12, 2) := by decide +kernel
theorem dX7_horses_7 : decode cX7_horses 7 = .ok (.if_icmp .ge 26, 3) := by decide +kernel
theorem dX7_horses_10 : decode cX7_horses 10 = .ok (.iload_n 1, 1) := by decide +kernel
theorem dX7_horses_11 : decode cX7_horses 11 = .ok (.aload_n 0, 1) := by decide +kernel
theorem dX7_horses_12 : decode cX7_horses 12 = .ok (.getfield 16, 3) := by decide +kernel
theorem dX7_horses_15 : decode cX7_horses 15 = .ok (.iload_n 2, 1) := by decide +kernel
theorem dX7_horses_16 : decode cX7_horses 16 = .ok (.iaload, 1) := by decide +kernel
theorem dX7_horses_17 : decode cX7_horses 17 = .ok (.ifCond .le 7, 3) := by decide +kernel
theorem dX7_horses_20 : decode cX7_horses 20 = .ok (.iconst 1, 1) := by decide +kernel
theorem dX7_horses_21 : decode cX7_horses 21 = .ok (.goto 4, 3) := by decide +kernel
theorem dX7_horses_24 : decode cX7_horses 24 = .ok (.iconst 0, 1) := by decide +kernel
theorem dX7_horses_25 : decode cX7_horses 25 = .ok (.iadd, 1) := by decide +kernel
theorem dX7_horses_26 : decode cX7_horses 26 = .ok (.istore_n 1, 1) := by decide +kernel
theorem dX7_horses_27 : decode cX7_horses 27 = .ok (.iinc 2 1, 3) := by decide +kernel
theorem dX7_horses_30 : decode cX7_horses 30 = .ok (.goto (-26), 3) := by decide +kernel
theorem dX7_horses_33 : decode cX7_horses 33 = .ok (.iload_n 1, 1) := by decide +kernel
theorem dX7_horses_34 : decode cX7_horses 34 = .ok (.ireturn, 1) := by decide +kernel
theorem dX7_horse_0 : decode cX7_horse 0 = .ok (.iload_n 1, 1) := by decide +kernel
theorem dX7_horse_1 : decode cX7_horse 1 = .ok (.invokestatic 79, 3) := by decide +kernel
theorem dX7_horse_4 : decode cX7_horse 4 = .ok (.ifCond .ne 6, 3) := by decide +kernel
theorem dX7_horse_7 : decode cX7_horse 7 = .ok (.bipush (-101), 2) := by decide +kernel
theorem dX7_horse_9 : decode cX7_horse 9 = .ok (.ireturn, 1) := by decide +kernel
theorem dX7_horse_10 : decode cX7_horse 10 = .ok (.iload_n 2, 1) := by decide +kernel
theorem dX7_horse_11 : decode cX7_horse 11 = .ok (.i2l, 1) := by decide +kernel
theorem dX7_horse_12 : decode cX7_horse 12 = .ok (.lconst 1, 1) := by decide +kernel
theorem dX7_horse_13 : decode cX7_horse 13 = .ok (.ldc2_w 83, 3) := by decide +kernel
theorem dX7_horse_16 : decode cX7_horse 16 = .ok (.invokestatic 75, 3) := by decide +kernel
theorem dX7_horse_19 : decode cX7_horse 19 = .ok (.ifCond .eq 15, 3) := by decide +kernel
theorem dX7_horse_22 : decode cX7_horse 22 = .ok (.iload_n 3, 1) := by decide +kernel
theorem dX7_horse_23 : decode cX7_horse 23 = .ok (.i2l, 1) := by decide +kernel
theorem dX7_horse_24 : decode cX7_horse 24 = .ok (.lconst 0, 1) := by decide +kernel
theorem dX7_horse_25 : decode cX7_horse 25 = .ok (.ldc2_w 85, 3) := by decide +kernel
theorem dX7_horse_28 : decode cX7_horse 28 = .ok (.invokestatic 75, 3) := by decide +kernel
theorem dX7_horse_31 : decode cX7_horse 31 = .ok (.ifCond .ne 6, 3) := by decide +kernel
theorem dX7_horse_34 : decode cX7_horse 34 = .ok (.bipush (-102), 2) := by decide +kernel
theorem dX7_horse_36 : decode cX7_horse 36 = .ok (.ireturn, 1) := by decide +kernel
theorem dX7_horse_37 : decode cX7_horse 37 = .ok (.aload_n 0, 1) := by decide +kernel
theorem dX7_horse_38 : decode cX7_horse 38 = .ok (.getfield 16, 3) := by decide +kernel
theorem dX7_horse_41 : decode cX7_horse 41 = .ok (.iload_n 1, 1) := by decide +kernel
theorem dX7_horse_42 : decode cX7_horse 42 = .ok (.iaload, 1) := by decide +kernel
theorem dX7_horse_43 : decode cX7_horse 43 = .ok (.ifCond .le 6, 3) := by decide +kernel
theorem dX7_horse_46 : decode cX7_horse 46 = .ok (.bipush (-103), 2) := by decide +kernel
theorem dX7_horse_48 : decode cX7_horse 48 = .ok (.ireturn, 1) := by decide +kernel
theorem dX7_horse_49 : decode cX7_horse 49 = .ok (.aload_n 0, 1) := by decide +kernel
theorem dX7_horse_50 : decode cX7_horse 50 = .ok (.getfield 16, 3) := by decide +kernel
theorem dX7_horse_53 : decode cX7_horse 53 = .ok (.iload_n 1, 1) := by decide +kernel
theorem dX7_horse_54 : decode cX7_horse 54 = .ok (.iload_n 2, 1) := by decide +kernel
theorem dX7_horse_55 : decode cX7_horse 55 = .ok (.iastore, 1) := by decide +kernel
theorem dX7_horse_56 : decode cX7_horse 56 = .ok (.aload_n 0, 1) := by decide +kernel
theorem dX7_horse_57 : decode cX7_horse 57 = .ok (.getfield 19, 3) := by decide +kernel
theorem dX7_horse_60 : decode cX7_horse 60 = .ok (.iload_n 1, 1) := by decide +kernel
theorem dX7_horse_61 : decode cX7_horse 61 = .ok (.iconst 0, 1) := by decide +kernel
theorem dX7_horse_62 : decode cX7_horse 62 = .ok (.iastore, 1) := by decide +kernel
theorem dX7_horse_63 : decode cX7_horse 63 = .ok (.aload_n 0, 1) := by decide +kernel
theorem dX7_horse_64 : decode cX7_horse 64 = .ok (.getfield 22, 3) := by decide +kernel
theorem dX7_horse_67 : decode cX7_horse 67 = .ok (.iload_n 1, 1) := by decide +kernel
theorem dX7_horse_68 : decode cX7_horse 68 = .ok (.iconst 1, 1) := by decide +kernel
theorem dX7_horse_69 : decode cX7_horse 69 = .ok (.iastore, 1) := by decide +kernel
theorem dX7_horse_70 : decode cX7_horse 70 = .ok (.aload_n 0, 1) := by decide +kernel
theorem dX7_horse_71 : decode cX7_horse 71 = .ok (.getfield 25, 3) := by decide +kernel
theorem dX7_horse_74 : decode cX7_horse 74 = .ok (.bipush 8, 2) := by decide +kernel
theorem dX7_horse_76 : decode cX7_horse 76 = .ok (.iload_n 1, 1) := by decide +kernel
theorem dX7_horse_77 : decode cX7_horse 77 = .ok (.imul, 1) := by decide +kernel
theorem dX7_horse_78 : decode cX7_horse 78 = .ok (.iload_n 3, 1) := by decide +kernel
theorem dX7_horse_79 : decode cX7_horse 79 = .ok (.iastore, 1) := by decide +kernel
theorem dX7_horse_80 : decode cX7_horse 80 = .ok (.iconst 0, 1) := by decide +kernel
theorem dX7_horse_81 : decode cX7_horse 81 = .ok (.istore 4, 2) := by decide +kernel
theorem dX7_horse_83 : decode cX7_horse 83 = .ok (.iload 4, 2) := by decide +kernel
theorem dX7_horse_85 : decode cX7_horse 85 = .ok (.iconst 4, 1) := by decide +kernel
theorem dX7_horse_86 : decode cX7_horse 86 = .ok (.if_icmp .ge 26, 3) := by decide +kernel
theorem dX7_horse_89 : decode cX7_horse 89 = .ok (.aload_n 0, 1) := by decide +kernel
theorem dX7_horse_90 : decode cX7_horse 90 = .ok (.getfield 28, 3) := by decide +kernel
theorem dX7_horse_93 : decode cX7_horse 93 = .ok (.iconst 4, 1) := by decide +kernel
theorem dX7_horse_94 : decode cX7_horse 94 = .ok (.iload_n 1, 1) := by decide +kernel
theorem dX7_horse_95 : decode cX7_horse 95 = .ok (.imul, 1) := by decide +kernel
theorem dX7_horse_96 : decode cX7_horse 96 = .ok (.iload 4, 2) := by decide +kernel
theorem dX7_horse_98 : decode cX7_horse 98 = .ok (.iadd, 1) := by decide +kernel
theorem dX7_horse_99 : decode cX7_horse 99 = .ok (.iconst 4, 1) := by decide +kernel
theorem dX7_horse_100 : decode cX7_horse 100 = .ok (.iload_n 1, 1) := by decide +kernel
theorem dX7_horse_101 : decode cX7_horse 101 = .ok (.imul, 1) := by decide +kernel
theorem dX7_horse_102 : decode cX7_horse 102 = .ok (.iload 4, 2) := by decide +kernel
theorem dX7_horse_104 : decode cX7_horse 104 = .ok (.iadd, 1) := by decide +kernel
theorem dX7_horse_105 : decode cX7_horse 105 = .ok (.iastore, 1) := by decide +kernel
theorem dX7_horse_106 : decode cX7_horse 106 = .ok (.iinc 4 1, 3) := by decide +kernel
theorem dX7_horse_109 : decode cX7_horse 109 = .ok (.goto (-26), 3) := by decide +kernel
theorem dX7_horse_112 : decode cX7_horse 112 = .ok (.aload_n 0, 1) := by decide +kernel
theorem dX7_horse_113 : decode cX7_horse 113 = .ok (.invokevirtual 87, 3) := by decide +kernel
theorem dX7_horse_116 : decode cX7_horse 116 = .ok (.ireturn, 1) := by decide +kernel
theorem dX7_leave_0 : decode cX7_leave 0 = .ok (.aload_n 0, 1) := by decide +kernel
theorem dX7_leave_1 : decode cX7_leave 1 = .ok (.iload_n 1, 1) := by decide +kernel
theorem dX7_leave_2 : decode cX7_leave 2 = .ok (.invokevirtual 91, 3) := by decide +kernel
theorem dX7_leave_5 : decode cX7_leave 5 = .ok (.ifCond .ne 6, 3) := by decide +kernel
theorem dX7_leave_8 : decode cX7_leave 8 = .ok (.bipush (-101), 2) := by decide +kernel
theorem dX7_leave_10 : decode cX7_leave 10 = .ok (.ireturn, 1) := by decide +kernel
theorem dX7_leave_11 : decode cX7_leave 11 = .ok (.aload_n 0, 1) := by decide +kernel
theorem dX7_leave_12 : decode cX7_leave 12 = .ok (.getfield 19, 3) := by decide +kernel
theorem dX7_leave_15 : decode cX7_leave 15 = .ok (.iload_n 1, 1) := by decide +kernel
theorem dX7_leave_16 : decode cX7_leave 16 = .ok (.iaload, 1) := by decide +kernel
theorem dX7_leave_17 : decode cX7_leave 17 = .ok (.ifCond .ne 7, 3) := by decide +kernel
theorem dX7_leave_20 : decode cX7_leave 20 = .ok (.iconst 1, 1) := by decide +kernel
theorem dX7_leave_21 : decode cX7_leave 21 = .ok (.goto 4, 3) := by decide +kernel
theorem dX7_leave_24 : decode cX7_leave 24 = .ok (.iconst 0, 1) := by decide +kernel
theorem dX7_leave_25 : decode cX7_leave 25 = .ok (.istore_n 2, 1) := by decide +kernel
theorem dX7_leave_26 : decode cX7_leave 26 = .ok (.iconst 0, 1) := by decide +kernel
theorem dX7_leave_27 : decode cX7_leave 27 = .ok (.istore_n 3, 1) := by decide +kernel
theorem dX7_leave_28 : decode cX7_leave 28 = .ok (.iload_n 3, 1) := by decide +kernel
theorem dX7_leave_29 : decode cX7_leave 29 = .ok (.iconst 4, 1) := by decide +kernel
theorem dX7_leave_30 : decode cX7_leave 30 = .ok (.if_icmp .ge 37, 3) := by decide +kernel
theorem dX7_leave_33 : decode cX7_leave 33 = .ok (.iload_n 2, 1) := by decide +kernel
theorem dX7_leave_34 : decode cX7_leave 34 = .ok (.ifCond .eq 25, 3) := by decide +kernel
theorem dX7_leave_37 : decode cX7_leave 37 = .ok (.aload_n 0, 1) := by decide +kernel
theorem dX7_leave_38 : decode cX7_leave 38 = .ok (.getfield 28, 3) := by decide +kernel
theorem dX7_leave_41 : decode cX7_leave 41 = .ok (.iconst 4, 1) := by decide +kernel
theorem dX7_leave_42 : decode cX7_leave 42 = .ok (.iload_n 1, 1) := by decide +kernel
theorem dX7_leave_43 : decode cX7_leave 43 = .ok (.imul, 1) := by decide +kernel
theorem dX7_leave_44 : decode cX7_leave 44 = .ok (.iload_n 3, 1) := by decide +kernel
theorem dX7_leave_45 : decode cX7_leave 45 = .ok (.iadd, 1) := by decide +kernel
theorem dX7_leave_46 : decode cX7_leave 46 = .ok (.iaload, 1) := by decide +kernel
theorem dX7_leave_47 : decode cX7_leave 47 = .ok (.iconst 4, 1) := by decide +kernel
theorem dX7_leave_48 : decode cX7_leave 48 = .ok (.iload_n 1, 1) := by decide +kernel
theorem dX7_leave_49 : decode cX7_leave 49 = .ok (.imul, 1) := by decide +kernel
theorem dX7_leave_50 : decode cX7_leave 50 = .ok (.iload_n 3, 1) := by decide +kernel
theorem dX7_leave_51 : decode cX7_leave 51 = .ok (.iadd, 1) := by decide +kernel
theorem dX7_leave_52 : decode cX7_leave 52 = .ok (.if_icmp .ne 7, 3) := by decide +kernel
theorem dX7_leave_55 : decode cX7_leave 55 = .ok (.iconst 1, 1) := by decide +kernel
theorem dX7_leave_56 : decode cX7_leave 56 = .ok (.goto 4, 3) := by decide +kernel
theorem dX7_leave_59 : decode cX7_leave 59 = .ok (.iconst 0, 1) := by decide +kernel
theorem dX7_leave_60 : decode cX7_leave 60 = .ok (.istore_n 2, 1) := by decide +kernel
theorem dX7_leave_61 : decode cX7_leave 61 = .ok (.iinc 3 1, 3) := by decide +kernel
theorem dX7_leave_64 : decode cX7_leave 64 = .ok (.goto (-36), 3) := by decide +kernel
theorem dX7_leave_67 : decode cX7_leave 67 = .ok (.iload_n 2, 1) := by decide +kernel
theorem dX7_leave_68 : decode cX7_leave 68 = .ok (.ifCond .ne 6, 3) := by decide +kernel
theorem dX7_leave_71 : decode cX7_leave 71 = .ok (.bipush (-103), 2) := by decide +kernel
theorem dX7_leave_73 : decode cX7_leave 73 = .ok (.ireturn, 1) := by decide +kernel
theorem dX7_leave_74 : decode cX7_leave 74 = .ok (.aload_n 0, 1) := by decide +kernel
theorem dX7_leave_75 : decode cX7_leave 75 = .ok (.getfield 16, 3) := by decide +kernel
theorem dX7_leave_78 : decode cX7_leave 78 = .ok (.iload_n 1, 1) := by decide +kernel
theorem dX7_leave_79 : decode cX7_leave 79 = .ok (.iaload, 1) := by decide +kernel
theorem dX7_leave_80 : decode cX7_leave 80 = .ok (.istore_n 3, 1) := by decide +kernel
theorem dX7_leave_81 : decode cX7_leave 81 = .ok (.aload_n 0, 1) := by decide +kernel
theorem dX7_leave_82 : decode cX7_leave 82 = .ok (.getfield 16, 3) := by decide +kernel
theorem dX7_leave_85 : decode cX7_leave 85 = .ok (.iload_n 1, 1) := by decide +kernel
theorem dX7_leave_86 : decode cX7_leave 86 = .ok (.iconst 0, 1) := by decide +kernel
theorem dX7_leave_87 : decode cX7_leave 87 = .ok (.iastore, 1) := by decide +kernel
theorem dX7_leave_88 : decode cX7_leave 88 = .ok (.iload_n 3, 1) := by decide +kernel
theorem dX7_leave_89 : decode cX7_leave 89 = .ok (.ireturn, 1) := by decide +kernel
theorem dX7_load_0 : decode cX7_load 0 = .ok (.aload_n 0, 1) := by decide +kernel
theorem dX7_load_1 : decode cX7_load 1 = .ok (.getfield 16, 3) := by decide +kernel
theorem dX7_load_4 : decode cX7_load 4 = .ok (.iload_n 1, 1) := by decide +kernel
theorem dX7_load_5 : decode cX7_load 5 = .ok (.iaload, 1) := by decide +kernel
theorem dX7_load_6 : decode cX7_load 6 = .ok (.ifCond .le 19, 3) := by decide +kernel
theorem dX7_load_9 : decode cX7_load 9 = .ok (.aload_n 0, 1) := by decide +kernel
theorem dX7_load_10 : decode cX7_load 10 = .ok (.getfield 16, 3) := by decide +kernel
theorem dX7_load_13 : decode cX7_load 13 = .ok (.iload_n 1, 1) := by decide +kernel
theorem dX7_load_14 : decode cX7_load 14 = .ok (.iaload, 1) := by decide +kernel
theorem dX7_load_15 : decode cX7_load 15 = .ok (.aload_n 0, 1) := by decide +kernel
theorem dX7_load_16 : decode cX7_load 16 = .ok (.getfield 19, 3) := by decide +kernel
theorem dX7_load_19 : decode cX7_load 19 = .ok (.iload_n 1, 1) := by decide +kernel
theorem dX7_load_20 : decode cX7_load 20 = .ok (.iaload, 1) := by decide +kernel
theorem dX7_load_21 : decode cX7_load 21 = .ok (.iadd, 1) := by decide +kernel
theorem dX7_load_22 : decode cX7_load 22 = .ok (.goto 4, 3) := by decide +kernel
theorem dX7_load_25 : decode cX7_load 25 = .ok (.iconst 0, 1) := by decide +kernel
theorem dX7_load_26 : decode cX7_load 26 = .ok (.ireturn, 1) := by decide +kernel
theorem dX7_shakeOf_0 : decode cX7_shakeOf 0 = .ok (.iconst 0, 1) := by decide +kernel
theorem dX7_shakeOf_1 : decode cX7_shakeOf 1 = .ok (.istore_n 1, 1) := by decide +kernel
theorem dX7_shakeOf_2 : decode cX7_shakeOf 2 = .ok (.iconst 0, 1) := by decide +kernel
theorem dX7_shakeOf_3 : decode cX7_shakeOf 3 = .ok (.istore_n 2, 1) := by decide +kernel
theorem dX7_shakeOf_4 : decode cX7_shakeOf 4 = .ok (.iconst 0, 1) := by decide +kernel
theorem dX7_shakeOf_5 : decode cX7_shakeOf 5 = .ok (.istore_n 3, 1) := by decide +kernel
theorem dX7_shakeOf_6 : decode cX7_shakeOf 6 = .ok (.iload_n 3, 1) := by decide +kernel
theorem dX7_shakeOf_7 : decode cX7_shakeOf 7 = .ok (.bipush 12, 2) := by decide +kernel
theorem dX7_shakeOf_9 : decode cX7_shakeOf 9 = .ok (.if_icmp .ge 39, 3) := by decide +kernel
theorem dX7_shakeOf_12 : decode cX7_shakeOf 12 = .ok (.iload_n 1, 1) := by decide +kernel
theorem dX7_shakeOf_13 : decode cX7_shakeOf 13 = .ok (.aload_n 0, 1) := by decide +kernel
theorem dX7_shakeOf_14 : decode cX7_shakeOf 14 = .ok (.iload_n 3, 1) := by decide +kernel
theorem dX7_shakeOf_15 : decode cX7_shakeOf 15 = .ok (.invokevirtual 94, 3) := by decide +kernel
theorem dX7_shakeOf_18 : decode cX7_shakeOf 18 = .ok (.aload_n 0, 1) := by decide +kernel
theorem dX7_shakeOf_19 : decode cX7_shakeOf 19 = .ok (.getfield 7, 3) := by decide +kernel
theorem dX7_shakeOf_22 : decode cX7_shakeOf 22 = .ok (.iload_n 3, 1) := by decide +kernel
theorem dX7_shakeOf_23 : decode cX7_shakeOf 23 = .ok (.iaload, 1) := by decide +kernel
theorem dX7_shakeOf_24 : decode cX7_shakeOf 24 = .ok (.imul, 1) := by decide +kernel
theorem dX7_shakeOf_25 : decode cX7_shakeOf 25 = .ok (.iadd, 1) := by decide +kernel
theorem dX7_shakeOf_26 : decode cX7_shakeOf 26 = .ok (.istore_n 1, 1) := by decide +kernel
theorem dX7_shakeOf_27 : decode cX7_shakeOf 27 = .ok (.iload_n 2, 1) := by decide +kernel
theorem dX7_shakeOf_28 : decode cX7_shakeOf 28 = .ok (.aload_n 0, 1) := by decide +kernel
theorem dX7_shakeOf_29 : decode cX7_shakeOf 29 = .ok (.iload_n 3, 1) := by decide +kernel
theorem dX7_shakeOf_30 : decode cX7_shakeOf 30 = .ok (.invokevirtual 94, 3) := by decide +kernel
theorem dX7_shakeOf_33 : decode cX7_shakeOf 33 = .ok (.aload_n 0, 1) := by decide +kernel
theorem dX7_shakeOf_34 : decode cX7_shakeOf 34 = .ok (.getfield 13, 3) := by decide +kernel
theorem dX7_shakeOf_37 : decode cX7_shakeOf 37 = .ok (.iload_n 3, 1) := by decide +kernel
theorem dX7_shakeOf_38 : decode cX7_shakeOf 38 = .ok (.iaload, 1) := by decide +kernel
theorem dX7_shakeOf_39 : decode cX7_shakeOf 39 = .ok (.imul, 1) := by decide +kernel
theorem dX7_shakeOf_40 : decode cX7_shakeOf 40 = .ok (.iadd, 1) := by decide +kernel
theorem dX7_shakeOf_41 : decode cX7_shakeOf 41 = .ok (.istore_n 2, 1) := by decide +kernel
theorem dX7_shakeOf_42 : decode cX7_shakeOf 42 = .ok (.iinc 3 1, 3) := by decide +kernel
theorem dX7_shakeOf_45 : decode cX7_shakeOf 45 = .ok (.goto (-39), 3) := by decide +kernel
theorem dX7_shakeOf_48 : decode cX7_shakeOf 48 = .ok (.iload_n 1, 1) := by decide +kernel
theorem dX7_shakeOf_49 : decode cX7_shakeOf 49 = .ok (.iload_n 1, 1) := by decide +kernel
theorem dX7_shakeOf_50 : decode cX7_shakeOf 50 = .ok (.imul, 1) := by decide +kernel
theorem dX7_shakeOf_51 : decode cX7_shakeOf 51 = .ok (.iload_n 2, 1) := by decide +kernel
theorem dX7_shakeOf_52 : decode cX7_shakeOf 52 = .ok (.iload_n 2, 1) := by decide +kernel
theorem dX7_shakeOf_53 : decode cX7_shakeOf 53 = .ok (.imul, 1) := by decide +kernel
theorem dX7_shakeOf_54 : decode cX7_shakeOf 54 = .ok (.iadd, 1) := by decide +kernel
theorem dX7_shakeOf_55 : decode cX7_shakeOf 55 = .ok (.ireturn, 1) := by decide +kernel
theorem dX7_risingOf_0 : decode cX7_risingOf 0 = .ok (.iconst 0, 1) := by decide +kernel
theorem dX7_risingOf_1 : decode cX7_risingOf 1 = .ok (.istore_n 1, 1) := by decide +kernel
theorem dX7_risingOf_2 : decode cX7_risingOf 2 = .ok (.iconst 0, 1) := by decide +kernel
theorem dX7_risingOf_3 : decode cX7_risingOf 3 = .ok (.istore_n 2, 1) := by decide +kernel
theorem dX7_risingOf_4 : decode cX7_risingOf 4 = .ok (.iload_n 2, 1) := by decide +kernel
theorem dX7_risingOf_5 : decode cX7_risingOf 5 = .ok (.bipush 12, 2) := by decide +kernel
theorem dX7_risingOf_7 : decode cX7_risingOf 7 = .ok (.if_icmp .ge 32, 3) := by decide +kernel
theorem dX7_risingOf_10 : decode cX7_risingOf 10 = .ok (.iload_n 1, 1) := by decide +kernel
theorem dX7_risingOf_11 : decode cX7_risingOf 11 = .ok (.iload_n 2, 1) := by decide +kernel
theorem dX7_risingOf_12 : decode cX7_risingOf 12 = .ok (.iconst 2, 1) := by decide +kernel
theorem dX7_risingOf_13 : decode cX7_risingOf 13 = .ok (.irem, 1) := by decide +kernel
theorem dX7_risingOf_14 : decode cX7_risingOf 14 = .ok (.ifCond .ne 11, 3) := by decide +kernel
theorem dX7_risingOf_17 : decode cX7_risingOf 17 = .ok (.aload_n 0, 1) := by decide +kernel
theorem dX7_risingOf_18 : decode cX7_risingOf 18 = .ok (.iload_n 2, 1) := by decide +kernel
theorem dX7_risingOf_19 : decode cX7_risingOf 19 = .ok (.invokevirtual 94, 3) := by decide +kernel
theorem dX7_risingOf_22 : decode cX7_risingOf 22 = .ok (.goto 9, 3) := by decide +kernel
theorem dX7_risingOf_25 : decode cX7_risingOf 25 = .ok (.aload_n 0, 1) := by decide +kernel
theorem dX7_risingOf_26 : decode cX7_risingOf 26 = .ok (.iload_n 2, 1) := by decide +kernel
theorem dX7_risingOf_27 : decode cX7_risingOf 27 = .ok (.invokevirtual 94, 3) := by decide +kernel
theorem dX7_risingOf_30 : decode cX7_risingOf 30 = .ok (.ineg, 1) := by decide +kernel
theorem dX7_risingOf_31 : decode cX7_risingOf 31 = .ok (.iadd, 1) := by decide +kernel
theorem dX7_risingOf_32 : decode cX7_risingOf 32 = .ok (.istore_n 1, 1) := by decide +kernel
theorem dX7_risingOf_33 : decode cX7_risingOf 33 = .ok (.iinc 2 1, 3) := by decide +kernel
theorem dX7_risingOf_36 : decode cX7_risingOf 36 = .ok (.goto (-32), 3) := by decide +kernel
theorem dX7_risingOf_39 : decode cX7_risingOf 39 = .ok (.iload_n 1, 1) := by decide +kernel
theorem dX7_risingOf_40 : decode cX7_risingOf 40 = .ok (.ireturn, 1) := by decide +kernel
theorem dX7_mayTurn_0 : decode cX7_mayTurn 0 = .ok (.aload_n 0, 1) := by decide +kernel
theorem dX7_mayTurn_1 : decode cX7_mayTurn 1 = .ok (.invokevirtual 98, 3) := by decide +kernel
theorem dX7_mayTurn_4 : decode cX7_mayTurn 4 = .ok (.istore_n 1, 1) := by decide +kernel
theorem dX7_mayTurn_5 : decode cX7_mayTurn 5 = .ok (.aload_n 0, 1) := by decide +kernel
theorem dX7_mayTurn_6 : decode cX7_mayTurn 6 = .ok (.invokevirtual 101, 3) := by decide +kernel
theorem dX7_mayTurn_9 : decode cX7_mayTurn 9 = .ok (.aload_n 0, 1) := by decide +kernel
theorem dX7_mayTurn_10 : decode cX7_mayTurn 10 = .ok (.getfield 59, 3) := by decide +kernel
theorem dX7_mayTurn_13 : decode cX7_mayTurn 13 = .ok (.aload_n 0, 1) := by decide +kernel
theorem dX7_mayTurn_14 : decode cX7_mayTurn 14 = .ok (.getfield 59, 3) := by decide +kernel
theorem dX7_mayTurn_17 : decode cX7_mayTurn 17 = .ok (.imul, 1) := by decide +kernel
theorem dX7_mayTurn_18 : decode cX7_mayTurn 18 = .ok (.if_icmp .gt 24, 3) := by decide +kernel
theorem dX7_mayTurn_21 : decode cX7_mayTurn 21 = .ok (.iload_n 1, 1) := by decide +kernel
theorem dX7_mayTurn_22 : decode cX7_mayTurn 22 = .ok (.aload_n 0, 1) := by decide +kernel
theorem dX7_mayTurn_23 : decode cX7_mayTurn 23 = .ok (.getfield 63, 3) := by decide +kernel
theorem dX7_mayTurn_26 : decode cX7_mayTurn 26 = .ok (.if_icmp .gt 16, 3) := by decide +kernel
theorem dX7_mayTurn_29 : decode cX7_mayTurn 29 = .ok (.iload_n 1, 1) := by decide +kernel
theorem dX7_mayTurn_30 : decode cX7_mayTurn 30 = .ok (.ineg, 1) := by decide +kernel
theorem dX7_mayTurn_31 : decode cX7_mayTurn 31 = .ok (.aload_n 0, 1) := by decide +kernel
theorem dX7_mayTurn_32 : decode cX7_mayTurn 32 = .ok (.getfield 63, 3) := by decide +kernel
theorem dX7_mayTurn_35 : decode cX7_mayTurn 35 = .ok (.if_icmp .gt 7, 3) := by decide +kernel
theorem dX7_mayTurn_38 : decode cX7_mayTurn 38 = .ok (.iconst 1, 1) := by decide +kernel
theorem dX7_mayTurn_39 : decode cX7_mayTurn 39 = .ok (.goto 4, 3) := by decide +kernel
theorem dX7_mayTurn_42 : decode cX7_mayTurn 42 = .ok (.iconst 0, 1) := by decide +kernel
theorem dX7_mayTurn_43 : decode cX7_mayTurn 43 = .ok (.ireturn, 1) := by decide +kernel
theorem dX7_isBlocked_0 : decode cX7_isBlocked 0 = .ok (.aload_n 0, 1) := by decide +kernel
theorem dX7_isBlocked_1 : decode cX7_isBlocked 1 = .ok (.getfield 19, 3) := by decide +kernel
theorem dX7_isBlocked_4 : decode cX7_isBlocked 4 = .ok (.iload_n 1, 1) := by decide +kernel
theorem dX7_isBlocked_5 : decode cX7_isBlocked 5 = .ok (.iload_n 2, 1) := by decide +kernel
theorem dX7_isBlocked_6 : decode cX7_isBlocked 6 = .ok (.iastore, 1) := by decide +kernel
theorem dX7_isBlocked_7 : decode cX7_isBlocked 7 = .ok (.aload_n 0, 1) := by decide +kernel
theorem dX7_isBlocked_8 : decode cX7_isBlocked 8 = .ok (.invokevirtual 104, 3) := by decide +kernel
theorem dX7_isBlocked_11 : decode cX7_isBlocked 11 = .ok (.istore_n 3, 1) := by decide +kernel
theorem dX7_isBlocked_12 : decode cX7_isBlocked 12 = .ok (.aload_n 0, 1) := by decide +kernel
theorem dX7_isBlocked_13 : decode cX7_isBlocked 13 = .ok (.getfield 19, 3) := by decide +kernel
theorem dX7_isBlocked_16 : decode cX7_isBlocked 16 = .ok (.iload_n 1, 1) := by decide +kernel
theorem dX7_isBlocked_17 : decode cX7_isBlocked 17 = .ok (.iconst 0, 1) := by decide +kernel
theorem dX7_isBlocked_18 : decode cX7_isBlocked 18 = .ok (.iastore, 1) := by decide +kernel
theorem dX7_isBlocked_19 : decode cX7_isBlocked 19 = .ok (.iload_n 3, 1) := by decide +kernel
theorem dX7_isBlocked_20 : decode cX7_isBlocked 20 = .ok (.ifCond .ne 7, 3) := by decide +kernel
theorem dX7_isBlocked_23 : decode cX7_isBlocked 23 = .ok (.iconst 1, 1) := by decide +kernel
theorem dX7_isBlocked_24 : decode cX7_isBlocked 24 = .ok (.goto 4, 3) := by decide +kernel
theorem dX7_isBlocked_27 : decode cX7_isBlocked 27 = .ok (.iconst 0, 1) := by decide +kernel
theorem dX7_isBlocked_28 : decode cX7_isBlocked 28 = .ok (.ireturn, 1) := by decide +kernel
theorem dX7_isRider_0 : decode cX7_isRider 0 = .ok (.iload_n 0, 1) := by decide +kernel
theorem dX7_isRider_1 : decode cX7_isRider 1 = .ok (.i2l, 1) := by decide +kernel
theorem dX7_isRider_2 : decode cX7_isRider 2 = .ok (.lconst 1, 1) := by decide +kernel
theorem dX7_isRider_3 : decode cX7_isRider 3 = .ok (.ldc2_w 108, 3) := by decide +kernel
theorem dX7_isRider_6 : decode cX7_isRider 6 = .ok (.invokestatic 75, 3) := by decide +kernel
theorem dX7_isRider_9 : decode cX7_isRider 9 = .ok (.ireturn, 1) := by decide +kernel
theorem dX7_sit_0 : decode cX7_sit 0 = .ok (.aload_n 0, 1) := by decide +kernel
theorem dX7_sit_1 : decode cX7_sit 1 = .ok (.iload_n 1, 1) := by decide +kernel
theorem dX7_sit_2 : decode cX7_sit 2 = .ok (.invokevirtual 91, 3) := by decide +kernel
theorem dX7_sit_5 : decode cX7_sit 5 = .ok (.ifCond .ne 6, 3) := by decide +kernel
theorem dX7_sit_8 : decode cX7_sit 8 = .ok (.bipush (-101), 2) := by decide +kernel
theorem dX7_sit_10 : decode cX7_sit 10 = .ok (.ireturn, 1) := by decide +kernel
theorem dX7_sit_11 : decode cX7_sit 11 = .ok (.iload_n 2, 1) := by decide +kernel
theorem dX7_sit_12 : decode cX7_sit 12 = .ok (.invokestatic 110, 3) := by decide +kernel
theorem dX7_sit_15 : decode cX7_sit 15 = .ok (.ifCond .ne 6, 3) := by decide +kernel
theorem dX7_sit_18 : decode cX7_sit 18 = .ok (.bipush (-102), 2) := by decide +kernel
theorem dX7_sit_20 : decode cX7_sit 20 = .ok (.ireturn, 1) := by decide +kernel
theorem dX7_sit_21 : decode cX7_sit 21 = .ok (.aload_n 0, 1) := by decide +kernel
theorem dX7_sit_22 : decode cX7_sit 22 = .ok (.getfield 19, 3) := by decide +kernel
theorem dX7_sit_25 : decode cX7_sit 25 = .ok (.iload_n 1, 1) := by decide +kernel
theorem dX7_sit_26 : decode cX7_sit 26 = .ok (.iaload, 1) := by decide +kernel
theorem dX7_sit_27 : decode cX7_sit 27 = .ok (.ifCond .gt 12, 3) := by decide +kernel
theorem dX7_sit_30 : decode cX7_sit 30 = .ok (.aload_n 0, 1) := by decide +kernel
theorem dX7_sit_31 : decode cX7_sit 31 = .ok (.iload_n 1, 1) := by decide +kernel
theorem dX7_sit_32 : decode cX7_sit 32 = .ok (.iload_n 2, 1) := by decide +kernel
theorem dX7_sit_33 : decode cX7_sit 33 = .ok (.invokevirtual 113, 3) := by decide +kernel
theorem dX7_sit_36 : decode cX7_sit 36 = .ok (.ifCond .eq 6, 3) := by decide +kernel
theorem dX7_sit_39 : decode cX7_sit 39 = .ok (.bipush (-103), 2) := by decide +kernel
theorem dX7_sit_41 : decode cX7_sit 41 = .ok (.ireturn, 1) := by decide +kernel
theorem dX7_sit_42 : decode cX7_sit 42 = .ok (.aload_n 0, 1) := by decide +kernel
theorem dX7_sit_43 : decode cX7_sit 43 = .ok (.getfield 19, 3) := by decide +kernel
theorem dX7_sit_46 : decode cX7_sit 46 = .ok (.iload_n 1, 1) := by decide +kernel
theorem dX7_sit_47 : decode cX7_sit 47 = .ok (.iload_n 2, 1) := by decide +kernel
theorem dX7_sit_48 : decode cX7_sit 48 = .ok (.iastore, 1) := by decide +kernel
theorem dX7_sit_49 : decode cX7_sit 49 = .ok (.aload_n 0, 1) := by decide +kernel
theorem dX7_sit_50 : decode cX7_sit 50 = .ok (.invokevirtual 101, 3) := by decide +kernel
theorem dX7_sit_53 : decode cX7_sit 53 = .ok (.ireturn, 1) := by decide +kernel
theorem dX7_rise_0 : decode cX7_rise 0 = .ok (.aload_n 0, 1) := by decide +kernel
theorem dX7_rise_1 : decode cX7_rise 1 = .ok (.iload_n 1, 1) := by decide +kernel
theorem dX7_rise_2 : decode cX7_rise 2 = .ok (.invokevirtual 91, 3) := by decide +kernel
theorem dX7_rise_5 : decode cX7_rise 5 = .ok (.ifCond .ne 6, 3) := by decide +kernel
theorem dX7_rise_8 : decode cX7_rise 8 = .ok (.bipush (-101), 2) := by decide +kernel
theorem dX7_rise_10 : decode cX7_rise 10 = .ok (.ireturn, 1) := by decide +kernel
theorem dX7_rise_11 : decode cX7_rise 11 = .ok (.aload_n 0, 1) := by decide +kernel
theorem dX7_rise_12 : decode cX7_rise 12 = .ok (.getfield 19, 3) := by decide +kernel
theorem dX7_rise_15 : decode cX7_rise 15 = .ok (.iload_n 1, 1) := by decide +kernel
theorem dX7_rise_16 : decode cX7_rise 16 = .ok (.iaload, 1) := by decide +kernel
theorem dX7_rise_17 : decode cX7_rise 17 = .ok (.ifCond .ne 6, 3) := by decide +kernel
theorem dX7_rise_20 : decode cX7_rise 20 = .ok (.bipush (-103), 2) := by decide +kernel
theorem dX7_rise_22 : decode cX7_rise 22 = .ok (.ireturn, 1) := by decide +kernel
theorem dX7_rise_23 : decode cX7_rise 23 = .ok (.aload_n 0, 1) := by decide +kernel
theorem dX7_rise_24 : decode cX7_rise 24 = .ok (.getfield 19, 3) := by decide +kernel
theorem dX7_rise_27 : decode cX7_rise 27 = .ok (.iload_n 1, 1) := by decide +kernel
theorem dX7_rise_28 : decode cX7_rise 28 = .ok (.iaload, 1) := by decide +kernel
theorem dX7_rise_29 : decode cX7_rise 29 = .ok (.istore_n 2, 1) := by decide +kernel
theorem dX7_rise_30 : decode cX7_rise 30 = .ok (.aload_n 0, 1) := by decide +kernel
theorem dX7_rise_31 : decode cX7_rise 31 = .ok (.getfield 19, 3) := by decide +kernel
theorem dX7_rise_34 : decode cX7_rise 34 = .ok (.iload_n 1, 1) := by decide +kernel
theorem dX7_rise_35 : decode cX7_rise 35 = .ok (.iconst 0, 1) := by decide +kernel
theorem dX7_rise_36 : decode cX7_rise 36 = .ok (.iastore, 1) := by decide +kernel
theorem dX7_rise_37 : decode cX7_rise 37 = .ok (.iload_n 2, 1) := by decide +kernel
theorem dX7_rise_38 : decode cX7_rise 38 = .ok (.ireturn, 1) := by decide +kernel
theorem dX7_shake_0 : decode cX7_shake 0 = .ok (.aload_n 0, 1) := by decide +kernel
theorem dX7_shake_1 : decode cX7_shake 1 = .ok (.invokevirtual 101, 3) := by decide +kernel
theorem dX7_shake_4 : decode cX7_shake 4 = .ok (.ireturn, 1) := by decide +kernel
theorem dX7_rising_0 : decode cX7_rising 0 = .ok (.aload_n 0, 1) := by decide +kernel
theorem dX7_rising_1 : decode cX7_rising 1 = .ok (.invokevirtual 98, 3) := by decide +kernel
theorem dX7_rising_4 : decode cX7_rising 4 = .ok (.ireturn, 1) := by decide +kernel
theorem dX7_may_0 : decode cX7_may 0 = .ok (.aload_n 0, 1) := by decide +kernel
theorem dX7_may_1 : decode cX7_may 1 = .ok (.invokevirtual 104, 3) := by decide +kernel
theorem dX7_may_4 : decode cX7_may 4 = .ok (.ifCond .eq 7, 3) := by decide +kernel
theorem dX7_may_7 : decode cX7_may 7 = .ok (.iconst 1, 1) := by decide +kernel
theorem dX7_may_8 : decode cX7_may 8 = .ok (.goto 4, 3) := by decide +kernel
theorem dX7_may_11 : decode cX7_may 11 = .ok (.iconst 0, 1) := by decide +kernel
theorem dX7_may_12 : decode cX7_may 12 = .ok (.ireturn, 1) := by decide +kernel
theorem dX7_law_0 : decode cX7_law 0 = .ok (.iload_n 1, 1) := by decide +kernel
theorem dX7_law_1 : decode cX7_law 1 = .ok (.i2l, 1) := by decide +kernel
theorem dX7_law_2 : decode cX7_law 2 = .ok (.lconst 0, 1) := by decide +kernel
theorem dX7_law_3 : decode cX7_law 3 = .ok (.lconst 1, 1) := by decide +kernel
theorem dX7_law_4 : decode cX7_law 4 = .ok (.invokestatic 75, 3) := by decide +kernel
theorem dX7_law_7 : decode cX7_law 7 = .ok (.ifCond .ne 6, 3) := by decide +kernel
theorem dX7_law_10 : decode cX7_law 10 = .ok (.bipush (-101), 2) := by decide +kernel
theorem dX7_law_12 : decode cX7_law 12 = .ok (.ireturn, 1) := by decide +kernel
theorem dX7_law_13 : decode cX7_law 13 = .ok (.iload_n 2, 1) := by decide +kernel
theorem dX7_law_14 : decode cX7_law 14 = .ok (.i2l, 1) := by decide +kernel
theorem dX7_law_15 : decode cX7_law 15 = .ok (.lconst 0, 1) := by decide +kernel
theorem dX7_law_16 : decode cX7_law 16 = .ok (.iload_n 1, 1) := by decide +kernel
theorem dX7_law_17 : decode cX7_law 17 = .ok (.ifCond .ne 9, 3) := by decide +kernel
theorem dX7_law_20 : decode cX7_law 20 = .ok (.ldc2_w 117, 3) := by decide +kernel
theorem dX7_law_23 : decode cX7_law 23 = .ok (.goto 6, 3) := by decide +kernel
theorem dX7_law_26 : decode cX7_law 26 = .ok (.ldc2_w 119, 3) := by decide +kernel
theorem dX7_law_29 : decode cX7_law 29 = .ok (.invokestatic 75, 3) := by decide +kernel
theorem dX7_law_32 : decode cX7_law 32 = .ok (.ifCond .ne 6, 3) := by decide +kernel
theorem dX7_law_35 : decode cX7_law 35 = .ok (.bipush (-102), 2) := by decide +kernel
theorem dX7_law_37 : decode cX7_law 37 = .ok (.ireturn, 1) := by decide +kernel
theorem dX7_law_38 : decode cX7_law 38 = .ok (.iload_n 1, 1) := by decide +kernel
theorem dX7_law_39 : decode cX7_law 39 = .ok (.ifCond .ne 10, 3) := by decide +kernel
theorem dX7_law_42 : decode cX7_law 42 = .ok (.aload_n 0, 1) := by decide +kernel
theorem dX7_law_43 : decode cX7_law 43 = .ok (.getfield 59, 3) := by decide +kernel
theorem dX7_law_46 : decode cX7_law 46 = .ok (.goto 7, 3) := by decide +kernel
theorem dX7_law_49 : decode cX7_law 49 = .ok (.aload_n 0, 1) := by decide +kernel
theorem dX7_law_50 : decode cX7_law 50 = .ok (.getfield 63, 3) := by decide +kernel
theorem dX7_law_53 : decode cX7_law 53 = .ok (.istore_n 3, 1) := by decide +kernel
theorem dX7_law_54 : decode cX7_law 54 = .ok (.iload_n 1, 1) := by decide +kernel
theorem dX7_law_55 : decode cX7_law 55 = .ok (.ifCond .ne 11, 3) := by decide +kernel
theorem dX7_law_58 : decode cX7_law 58 = .ok (.aload_n 0, 1) := by decide +kernel
theorem dX7_law_59 : decode cX7_law 59 = .ok (.iload_n 2, 1) := by decide +kernel
theorem dX7_law_60 : decode cX7_law 60 = .ok (.putfield 59, 3) := by decide +kernel
theorem dX7_law_63 : decode cX7_law 63 = .ok (.goto 8, 3) := by decide +kernel
theorem dX7_law_66 : decode cX7_law 66 = .ok (.aload_n 0, 1) := by decide +kernel
theorem dX7_law_67 : decode cX7_law 67 = .ok (.iload_n 2, 1) := by decide +kernel
theorem dX7_law_68 : decode cX7_law 68 = .ok (.putfield 63, 3) := by decide +kernel
theorem dX7_law_71 : decode cX7_law 71 = .ok (.iload_n 3, 1) := by decide +kernel
theorem dX7_law_72 : decode cX7_law 72 = .ok (.ireturn, 1) := by decide +kernel
theorem dX7_isFree_0 : decode cX7_isFree 0 = .ok (.aload_n 0, 1) := by decide +kernel
theorem dX7_isFree_1 : decode cX7_isFree 1 = .ok (.getfield 16, 3) := by decide +kernel
theorem dX7_isFree_4 : decode cX7_isFree 4 = .ok (.iload_n 1, 1) := by decide +kernel
theorem dX7_isFree_5 : decode cX7_isFree 5 = .ok (.iaload, 1) := by decide +kernel
theorem dX7_isFree_6 : decode cX7_isFree 6 = .ok (.ifCond .le 16, 3) := by decide +kernel
theorem dX7_isFree_9 : decode cX7_isFree 9 = .ok (.aload_n 0, 1) := by decide +kernel
theorem dX7_isFree_10 : decode cX7_isFree 10 = .ok (.getfield 19, 3) := by decide +kernel
theorem dX7_isFree_13 : decode cX7_isFree 13 = .ok (.iload_n 1, 1) := by decide +kernel
theorem dX7_isFree_14 : decode cX7_isFree 14 = .ok (.iaload, 1) := by decide +kernel
theorem dX7_isFree_15 : decode cX7_isFree 15 = .ok (.ifCond .ne 7, 3) := by decide +kernel
theorem dX7_isFree_18 : decode cX7_isFree 18 = .ok (.iconst 1, 1) := by decide +kernel
theorem dX7_isFree_19 : decode cX7_isFree 19 = .ok (.goto 4, 3) := by decide +kernel
theorem dX7_isFree_22 : decode cX7_isFree 22 = .ok (.iconst 0, 1) := by decide +kernel
theorem dX7_isFree_23 : decode cX7_isFree 23 = .ok (.ireturn, 1) := by decide +kernel
theorem dX7_bestOf_0 : decode cX7_bestOf 0 = .ok (.iconst (-1), 1) := by decide +kernel
theorem dX7_bestOf_1 : decode cX7_bestOf 1 = .ok (.istore_n 2, 1) := by decide +kernel
theorem dX7_bestOf_2 : decode cX7_bestOf 2 = .ok (.iconst 0, 1) := by decide +kernel
theorem dX7_bestOf_3 : decode cX7_bestOf 3 = .ok (.istore_n 3, 1) := by decide +kernel
theorem dX7_bestOf_4 : decode cX7_bestOf 4 = .ok (.iconst 0, 1) := by decide +kernel
theorem dX7_bestOf_5 : decode cX7_bestOf 5 = .ok (.istore 4, 2) := by decide +kernel
theorem dX7_bestOf_7 : decode cX7_bestOf 7 = .ok (.iload 4, 2) := by decide +kernel
theorem dX7_bestOf_9 : decode cX7_bestOf 9 = .ok (.bipush 12, 2) := by decide +kernel
theorem dX7_bestOf_11 : decode cX7_bestOf 11 = .ok (.if_icmp .ge 67, 3) := by decide +kernel
theorem dX7_bestOf_14 : decode cX7_bestOf 14 = .ok (.aload_n 0, 1) := by decide +kernel
theorem dX7_bestOf_15 : decode cX7_bestOf 15 = .ok (.iload 4, 2) := by decide +kernel
theorem dX7_bestOf_17 : decode cX7_bestOf 17 = .ok (.invokevirtual 121, 3) := by decide +kernel
theorem dX7_bestOf_20 : decode cX7_bestOf 20 = .ok (.ifCond .eq 52, 3) := by decide +kernel
theorem dX7_bestOf_23 : decode cX7_bestOf 23 = .ok (.aload_n 0, 1) := by decide +kernel
theorem dX7_bestOf_24 : decode cX7_bestOf 24 = .ok (.iload 4, 2) := by decide +kernel
theorem dX7_bestOf_26 : decode cX7_bestOf 26 = .ok (.iload_n 1, 1) := by decide +kernel
theorem dX7_bestOf_27 : decode cX7_bestOf 27 = .ok (.invokevirtual 113, 3) := by decide +kernel
theorem dX7_bestOf_30 : decode cX7_bestOf 30 = .ok (.ifCond .ne 42, 3) := by decide +kernel
theorem dX7_bestOf_33 : decode cX7_bestOf 33 = .ok (.aload_n 0, 1) := by decide +kernel
theorem dX7_bestOf_34 : decode cX7_bestOf 34 = .ok (.getfield 19, 3) := by decide +kernel
theorem dX7_bestOf_37 : decode cX7_bestOf 37 = .ok (.iload 4, 2) := by decide +kernel
theorem dX7_bestOf_39 : decode cX7_bestOf 39 = .ok (.iload_n 1, 1) := by decide +kernel
theorem dX7_bestOf_40 : decode cX7_bestOf 40 = .ok (.iastore, 1) := by decide +kernel
theorem dX7_bestOf_41 : decode cX7_bestOf 41 = .ok (.aload_n 0, 1) := by decide +kernel
theorem dX7_bestOf_42 : decode cX7_bestOf 42 = .ok (.invokevirtual 101, 3) := by decide +kernel
theorem dX7_bestOf_45 : decode cX7_bestOf 45 = .ok (.istore 5, 2) := by decide +kernel
theorem dX7_bestOf_47 : decode cX7_bestOf 47 = .ok (.aload_n 0, 1) := by decide +kernel
theorem dX7_bestOf_48 : decode cX7_bestOf 48 = .ok (.getfield 19, 3) := by decide +kernel
theorem dX7_bestOf_51 : decode cX7_bestOf 51 = .ok (.iload 4, 2) := by decide +kernel
theorem dX7_bestOf_53 : decode cX7_bestOf 53 = .ok (.iconst 0, 1) := by decide +kernel
theorem dX7_bestOf_54 : decode cX7_bestOf 54 = .ok (.iastore, 1) := by decide +kernel
theorem dX7_bestOf_55 : decode cX7_bestOf 55 = .ok (.iload_n 2, 1) := by decide +kernel
theorem dX7_bestOf_56 : decode cX7_bestOf 56 = .ok (.iconst (-1), 1) := by decide +kernel
theorem dX7_bestOf_57 : decode cX7_bestOf 57 = .ok (.if_icmp .eq 9, 3) := by decide +kernel
theorem dX7_bestOf_60 : decode cX7_bestOf 60 = .ok (.iload 5, 2) := by decide +kernel
theorem dX7_bestOf_62 : decode cX7_bestOf 62 = .ok (.iload_n 3, 1) := by decide +kernel
theorem dX7_bestOf_63 : decode cX7_bestOf 63 = .ok (.if_icmp .ge 9, 3) := by decide +kernel
theorem dX7_bestOf_66 : decode cX7_bestOf 66 = .ok (.iload 4, 2) := by decide +kernel
theorem dX7_bestOf_68 : decode cX7_bestOf 68 = .ok (.istore_n 2, 1) := by decide +kernel
theorem dX7_bestOf_69 : decode cX7_bestOf 69 = .ok (.iload 5, 2) := by decide +kernel
theorem dX7_bestOf_71 : decode cX7_bestOf 71 = .ok (.istore_n 3, 1) := by decide +kernel
theorem dX7_bestOf_72 : decode cX7_bestOf 72 = .ok (.iinc 4 1, 3) := by decide +kernel
theorem dX7_bestOf_75 : decode cX7_bestOf 75 = .ok (.goto (-68), 3) := by decide +kernel
theorem dX7_bestOf_78 : decode cX7_bestOf 78 = .ok (.iload_n 2, 1) := by decide +kernel
theorem dX7_bestOf_79 : decode cX7_bestOf 79 = .ok (.ireturn, 1) := by decide +kernel
theorem dX7_best_0 : decode cX7_best 0 = .ok (.iload_n 1, 1) := by decide +kernel
theorem dX7_best_1 : decode cX7_best 1 = .ok (.invokestatic 110, 3) := by decide +kernel
theorem dX7_best_4 : decode cX7_best 4 = .ok (.ifCond .eq 11, 3) := by decide +kernel
theorem dX7_best_7 : decode cX7_best 7 = .ok (.aload_n 0, 1) := by decide +kernel
theorem dX7_best_8 : decode cX7_best 8 = .ok (.iload_n 1, 1) := by decide +kernel
theorem dX7_best_9 : decode cX7_best 9 = .ok (.invokevirtual 124, 3) := by decide +kernel
theorem dX7_best_12 : decode cX7_best 12 = .ok (.goto 5, 3) := by decide +kernel
theorem dX7_best_15 : decode cX7_best 15 = .ok (.bipush (-102), 2) := by decide +kernel
theorem dX7_best_17 : decode cX7_best 17 = .ok (.ireturn, 1) := by decide +kernel
theorem dX7_group_0 : decode cX7_group 0 = .ok (.iload_n 1, 1) := by decide +kernel
theorem dX7_group_1 : decode cX7_group 1 = .ok (.i2l, 1) := by decide +kernel
theorem dX7_group_2 : decode cX7_group 2 = .ok (.lconst 1, 1) := by decide +kernel
theorem dX7_group_3 : decode cX7_group 3 = .ok (.ldc2_w 127, 3) := by decide +kernel
theorem dX7_group_6 : decode cX7_group 6 = .ok (.invokestatic 75, 3) := by decide +kernel
theorem dX7_group_9 : decode cX7_group 9 = .ok (.ifCond .eq 35, 3) := by decide +kernel
theorem dX7_group_12 : decode cX7_group 12 = .ok (.iload_n 2, 1) := by decide +kernel
theorem dX7_group_13 : decode cX7_group 13 = .ok (.invokestatic 110, 3) := by decide +kernel
theorem dX7_group_16 : decode cX7_group 16 = .ok (.ifCond .eq 28, 3) := by decide +kernel
theorem dX7_group_19 : decode cX7_group 19 = .ok (.iload_n 1, 1) := by decide +kernel
theorem dX7_group_20 : decode cX7_group 20 = .ok (.iconst 1, 1) := by decide +kernel
theorem dX7_group_21 : decode cX7_group 21 = .ok (.if_icmp .le 10, 3) := by decide +kernel
theorem dX7_group_24 : decode cX7_group 24 = .ok (.iload_n 3, 1) := by decide +kernel
theorem dX7_group_25 : decode cX7_group 25 = .ok (.invokestatic 110, 3) := by decide +kernel
theorem dX7_group_28 : decode cX7_group 28 = .ok (.ifCond .eq 16, 3) := by decide +kernel
theorem dX7_group_31 : decode cX7_group 31 = .ok (.iload_n 1, 1) := by decide +kernel
theorem dX7_group_32 : decode cX7_group 32 = .ok (.iconst 2, 1) := by decide +kernel
theorem dX7_group_33 : decode cX7_group 33 = .ok (.if_icmp .le 14, 3) := by decide +kernel
theorem dX7_group_36 : decode cX7_group 36 = .ok (.iload 4, 2) := by decide +kernel
theorem dX7_group_38 : decode cX7_group 38 = .ok (.invokestatic 110, 3) := by decide +kernel
theorem dX7_group_41 : decode cX7_group 41 = .ok (.ifCond .ne 6, 3) := by decide +kernel
theorem dX7_group_44 : decode cX7_group 44 = .ok (.bipush (-102), 2) := by decide +kernel
theorem dX7_group_46 : decode cX7_group 46 = .ok (.ireturn, 1) := by decide +kernel
theorem dX7_group_47 : decode cX7_group 47 = .ok (.aload_n 0, 1) := by decide +kernel
theorem dX7_group_48 : decode cX7_group 48 = .ok (.getfield 129, 3) := by decide +kernel
theorem dX7_group_51 : decode cX7_group 51 = .ok (.bipush 60, 2) := by decide +kernel
theorem dX7_group_53 : decode cX7_group 53 = .ok (.if_icmp .ne 6, 3) := by decide +kernel
theorem dX7_group_56 : decode cX7_group 56 = .ok (.bipush (-103), 2) := by decide +kernel
theorem dX7_group_58 : decode cX7_group 58 = .ok (.ireturn, 1) := by decide +kernel
theorem dX7_group_59 : decode cX7_group 59 = .ok (.aload_n 0, 1) := by decide +kernel
theorem dX7_group_60 : decode cX7_group 60 = .ok (.dup, 1) := by decide +kernel
theorem dX7_group_61 : decode cX7_group 61 = .ok (.getfield 129, 3) := by decide +kernel
theorem dX7_group_64 : decode cX7_group 64 = .ok (.iconst 1, 1) := by decide +kernel
theorem dX7_group_65 : decode cX7_group 65 = .ok (.iadd, 1) := by decide +kernel
theorem dX7_group_66 : decode cX7_group 66 = .ok (.putfield 129, 3) := by decide +kernel
theorem dX7_group_69 : decode cX7_group 69 = .ok (.iconst (-1), 1) := by decide +kernel
theorem dX7_group_70 : decode cX7_group 70 = .ok (.istore 5, 2) := by decide +kernel
theorem dX7_group_72 : decode cX7_group 72 = .ok (.iload_n 1, 1) := by decide +kernel
theorem dX7_group_73 : decode cX7_group 73 = .ok (.iconst 1, 1) := by decide +kernel
theorem dX7_group_74 : decode cX7_group 74 = .ok (.if_icmp .ne 8, 3) := by decide +kernel
theorem dX7_group_77 : decode cX7_group 77 = .ok (.bipush 12, 2) := by decide +kernel
theorem dX7_group_79 : decode cX7_group 79 = .ok (.goto 17, 3) := by decide +kernel
theorem dX7_group_82 : decode cX7_group 82 = .ok (.iload_n 1, 1) := by decide +kernel
theorem dX7_group_83 : decode cX7_group 83 = .ok (.iconst 2, 1) := by decide +kernel
theorem dX7_group_84 : decode cX7_group 84 = .ok (.if_icmp .ne 9, 3) := by decide +kernel
theorem dX7_group_87 : decode cX7_group 87 = .ok (.sipush 144, 3) := by decide +kernel
theorem dX7_group_90 : decode cX7_group 90 = .ok (.goto 6, 3) := by decide +kernel
theorem dX7_group_93 : decode cX7_group 93 = .ok (.sipush 1728, 3) := by decide +kernel
theorem dX7_group_96 : decode cX7_group 96 = .ok (.istore 6, 2) := by decide +kernel
theorem dX7_group_98 : decode cX7_group 98 = .ok (.iconst 0, 1) := by decide +kernel
theorem dX7_group_99 : decode cX7_group 99 = .ok (.istore 7, 2) := by decide +kernel
theorem dX7_group_101 : decode cX7_group 101 = .ok (.iload 7, 2) := by decide +kernel
theorem dX7_group_103 : decode cX7_group 103 = .ok (.iload 6, 2) := by decide +kernel
theorem dX7_group_105 : decode cX7_group 105 = .ok (.if_icmp .ge 248, 3) := by decide +kernel
theorem dX7_group_108 : decode cX7_group 108 = .ok (.iload_n 1, 1) := by decide +kernel
theorem dX7_group_109 : decode cX7_group 109 = .ok (.iconst 1, 1) := by decide +kernel
theorem dX7_group_110 : decode cX7_group 110 = .ok (.if_icmp .ne 8, 3) := by decide +kernel
theorem dX7_group_113 : decode cX7_group 113 = .ok (.iload 7, 2) := by decide +kernel
theorem dX7_group_115 : decode cX7_group 115 = .ok (.goto 22, 3) := by decide +kernel
theorem dX7_group_118 : decode cX7_group 118 = .ok (.iload_n 1, 1) := by decide +kernel
theorem dX7_group_119 : decode cX7_group 119 = .ok (.iconst 2, 1) := by decide +kernel
theorem dX7_group_120 : decode cX7_group 120 = .ok (.if_icmp .ne 11, 3) := by decide +kernel
theorem dX7_group_123 : decode cX7_group 123 = .ok (.iload 7, 2) := by decide +kernel
theorem dX7_group_125 : decode cX7_group 125 = .ok (.bipush 12, 2) := by decide +kernel
theorem dX7_group_127 : decode cX7_group 127 = .ok (.idiv, 1) := by decide +kernel
theorem dX7_group_128 : decode cX7_group 128 = .ok (.goto 9, 3) := by decide +kernel
theorem dX7_group_131 : decode cX7_group 131 = .ok (.iload 7, 2) := by decide +kernel
theorem dX7_group_133 : decode cX7_group 133 = .ok (.sipush 144, 3) := by decide +kernel
theorem dX7_group_136 : decode cX7_group 136 = .ok (.idiv, 1) := by decide +kernel
theorem dX7_group_137 : decode cX7_group 137 = .ok (.istore 8, 2) := by decide +kernel
theorem dX7_group_139 : decode cX7_group 139 = .ok (.iload_n 1, 1) := by decide +kernel
theorem dX7_group_140 : decode cX7_group 140 = .ok (.iconst 1, 1) := by decide +kernel
theorem dX7_group_141 : decode cX7_group 141 = .ok (.if_icmp .ne 7, 3) := by decide +kernel
theorem dX7_group_144 : decode cX7_group 144 = .ok (.iconst (-1), 1) := by decide +kernel
theorem dX7_group_145 : decode cX7_group 145 = .ok (.goto 24, 3) := by decide +kernel
theorem dX7_group_148 : decode cX7_group 148 = .ok (.iload_n 1, 1) := by decide +kernel
theorem dX7_group_149 : decode cX7_group 149 = .ok (.iconst 2, 1) := by decide +kernel
theorem dX7_group_150 : decode cX7_group 150 = .ok (.if_icmp .ne 11, 3) := by decide +kernel
theorem dX7_group_153 : decode cX7_group 153 = .ok (.iload 7, 2) := by decide +kernel
theorem dX7_group_155 : decode cX7_group 155 = .ok (.bipush 12, 2) := by decide +kernel
theorem dX7_group_157 : decode cX7_group 157 = .ok (.irem, 1) := by decide +kernel
theorem dX7_group_158 : decode cX7_group 158 = .ok (.goto 11, 3) := by decide +kernel
theorem dX7_group_161 : decode cX7_group 161 = .ok (.iload 7, 2) := by decide +kernel
theorem dX7_group_163 : decode cX7_group 163 = .ok (.bipush 12, 2) := by decide +kernel
theorem dX7_group_165 : decode cX7_group 165 = .ok (.idiv, 1) := by decide +kernel
theorem dX7_group_166 : decode cX7_group 166 = .ok (.bipush 12, 2) := by decide +kernel
theorem dX7_group_168 : decode cX7_group 168 = .ok (.irem, 1) := by decide +kernel
theorem dX7_group_169 : decode cX7_group 169 = .ok (.istore 9, 2) := by decide +kernel
theorem dX7_group_171 : decode cX7_group 171 = .ok (.iload_n 1, 1) := by decide +kernel
theorem dX7_group_172 : decode cX7_group 172 = .ok (.iconst 3, 1) := by decide +kernel
theorem dX7_group_173 : decode cX7_group 173 = .ok (.if_icmp .ge 7, 3) := by decide +kernel
theorem dX7_group_176 : decode cX7_group 176 = .ok (.iconst (-1), 1) := by decide +kernel
theorem dX7_group_177 : decode cX7_group 177 = .ok (.goto 8, 3) := by decide +kernel
theorem dX7_group_180 : decode cX7_group 180 = .ok (.iload 7, 2) := by decide +kernel
theorem dX7_group_182 : decode cX7_group 182 = .ok (.bipush 12, 2) := by decide +kernel
theorem dX7_group_184 : decode cX7_group 184 = .ok (.irem, 1) := by decide +kernel
theorem dX7_group_185 : decode cX7_group 185 = .ok (.istore 10, 2) := by decide +kernel
theorem dX7_group_187 : decode cX7_group 187 = .ok (.aload_n 0, 1) := by decide +kernel
theorem dX7_group_188 : decode cX7_group 188 = .ok (.iload 8, 2) := by decide +kernel
theorem dX7_group_190 : decode cX7_group 190 = .ok (.invokevirtual 121, 3) := by decide +kernel
theorem dX7_group_193 : decode cX7_group 193 = .ok (.ifCond .eq 56, 3) := by decide +kernel
theorem dX7_group_196 : decode cX7_group 196 = .ok (.iload_n 1, 1) := by decide +kernel
theorem dX7_group_197 : decode cX7_group 197 = .ok (.iconst 2, 1) := by decide +kernel
theorem dX7_group_198 : decode cX7_group 198 = .ok (.if_icmp .lt 19, 3) := by decide +kernel
theorem dX7_group_201 : decode cX7_group 201 = .ok (.aload_n 0, 1) := by decide +kernel
theorem dX7_group_202 : decode cX7_group 202 = .ok (.iload 9, 2) := by decide +kernel
theorem dX7_group_204 : decode cX7_group 204 = .ok (.invokevirtual 121, 3) := by decide +kernel
theorem dX7_group_207 : decode cX7_group 207 = .ok (.ifCond .eq 42, 3) := by decide +kernel
theorem dX7_group_210 : decode cX7_group 210 = .ok (.iload 9, 2) := by decide +kernel
theorem dX7_group_212 : decode cX7_group 212 = .ok (.iload 8, 2) := by decide +kernel
theorem dX7_group_214 : decode cX7_group 214 = .ok (.if_icmp .eq 35, 3) := by decide +kernel
theorem dX7_group_217 : decode cX7_group 217 = .ok (.iload_n 1, 1) := by decide +kernel
theorem dX7_group_218 : decode cX7_group 218 = .ok (.iconst 3, 1) := by decide +kernel
theorem dX7_group_219 : decode cX7_group 219 = .ok (.if_icmp .lt 26, 3) := by decide +kernel
theorem dX7_group_222 : decode cX7_group 222 = .ok (.aload_n 0, 1) := by decide +kernel
theorem dX7_group_223 : decode cX7_group 223 = .ok (.iload 10, 2) := by decide +kernel
theorem dX7_group_225 : decode cX7_group 225 = .ok (.invokevirtual 121, 3) := by decide +kernel
theorem dX7_group_228 : decode cX7_group 228 = .ok (.ifCond .eq 21, 3) := by decide +kernel
theorem dX7_group_231 : decode cX7_group 231 = .ok (.iload 10, 2) := by decide +kernel
theorem dX7_group_233 : decode cX7_group 233 = .ok (.iload 8, 2) := by decide +kernel
theorem dX7_group_235 : decode cX7_group 235 = .ok (.if_icmp .eq 14, 3) := by decide +kernel
theorem dX7_group_238 : decode cX7_group 238 = .ok (.iload 10, 2) := by decide +kernel
theorem dX7_group_240 : decode cX7_group 240 = .ok (.iload 9, 2) := by decide +kernel
theorem dX7_group_242 : decode cX7_group 242 = .ok (.if_icmp .eq 7, 3) := by decide +kernel
theorem dX7_group_245 : decode cX7_group 245 = .ok (.iconst 1, 1) := by decide +kernel
theorem dX7_group_246 : decode cX7_group 246 = .ok (.goto 4, 3) := by decide +kernel
theorem dX7_group_249 : decode cX7_group 249 = .ok (.iconst 0, 1) := by decide +kernel
theorem dX7_group_250 : decode cX7_group 250 = .ok (.istore 11, 2) := by decide +kernel
theorem dX7_group_252 : decode cX7_group 252 = .ok (.iload 11, 2) := by decide +kernel
theorem dX7_group_254 : decode cX7_group 254 = .ok (.ifCond .eq 93, 3) := by decide +kernel
theorem dX7_group_257 : decode cX7_group 257 = .ok (.aload_n 0, 1) := by decide +kernel
theorem dX7_group_258 : decode cX7_group 258 = .ok (.iload 8, 2) := by decide +kernel
theorem dX7_group_260 : decode cX7_group 260 = .ok (.iload_n 2, 1) := by decide +kernel
theorem dX7_group_261 : decode cX7_group 261 = .ok (.invokevirtual 132, 3) := by decide +kernel
theorem dX7_group_264 : decode cX7_group 264 = .ok (.aload_n 0, 1) := by decide +kernel
theorem dX7_group_265 : decode cX7_group 265 = .ok (.iload 9, 2) := by decide +kernel
theorem dX7_group_267 : decode cX7_group 267 = .ok (.iload_n 3, 1) := by decide +kernel
theorem dX7_group_268 : decode cX7_group 268 = .ok (.invokevirtual 132, 3) := by decide +kernel
theorem dX7_group_271 : decode cX7_group 271 = .ok (.aload_n 0, 1) := by decide +kernel
theorem dX7_group_272 : decode cX7_group 272 = .ok (.iload 10, 2) := by decide +kernel
theorem dX7_group_274 : decode cX7_group 274 = .ok (.iload 4, 2) := by decide +kernel
theorem dX7_group_276 : decode cX7_group 276 = .ok (.invokevirtual 132, 3) := by decide +kernel
theorem dX7_group_279 : decode cX7_group 279 = .ok (.aload_n 0, 1) := by decide +kernel
theorem dX7_group_280 : decode cX7_group 280 = .ok (.invokevirtual 101, 3) := by decide +kernel
theorem dX7_group_283 : decode cX7_group 283 = .ok (.istore 12, 2) := by decide +kernel
theorem dX7_group_285 : decode cX7_group 285 = .ok (.iload 5, 2) := by decide +kernel
theorem dX7_group_287 : decode cX7_group 287 = .ok (.iconst (-1), 1) := by decide +kernel
theorem dX7_group_288 : decode cX7_group 288 = .ok (.if_icmp .eq 10, 3) := by decide +kernel
theorem dX7_group_291 : decode cX7_group 291 = .ok (.iload 12, 2) := by decide +kernel
theorem dX7_group_293 : decode cX7_group 293 = .ok (.iload 5, 2) := by decide +kernel
theorem dX7_group_295 : decode cX7_group 295 = .ok (.if_icmp .ge 31, 3) := by decide +kernel
theorem dX7_group_298 : decode cX7_group 298 = .ok (.iload 12, 2) := by decide +kernel
theorem dX7_group_300 : decode cX7_group 300 = .ok (.istore 5, 2) := by decide +kernel
theorem dX7_group_302 : decode cX7_group 302 = .ok (.aload_n 0, 1) := by decide +kernel
theorem dX7_group_303 : decode cX7_group 303 = .ok (.getfield 31, 3) := by decide +kernel
theorem dX7_group_306 : decode cX7_group 306 = .ok (.iconst 0, 1) := by decide +kernel
theorem dX7_group_307 : decode cX7_group 307 = .ok (.iload 8, 2) := by decide +kernel
theorem dX7_group_309 : decode cX7_group 309 = .ok (.iastore, 1) := by decide +kernel
theorem dX7_group_310 : decode cX7_group 310 = .ok (.aload_n 0, 1) := by decide +kernel
theorem dX7_group_311 : decode cX7_group 311 = .ok (.getfield 31, 3) := by decide +kernel
theorem dX7_group_314 : decode cX7_group 314 = .ok (.iconst 1, 1) := by decide +kernel
theorem dX7_group_315 : decode cX7_group 315 = .ok (.iload 9, 2) := by decide +kernel
theorem dX7_group_317 : decode cX7_group 317 = .ok (.iastore, 1) := by decide +kernel
theorem dX7_group_318 : decode cX7_group 318 = .ok (.aload_n 0, 1) := by decide +kernel
theorem dX7_group_319 : decode cX7_group 319 = .ok (.getfield 31, 3) := by decide +kernel
theorem dX7_group_322 : decode cX7_group 322 = .ok (.iconst 2, 1) := by decide +kernel
theorem dX7_group_323 : decode cX7_group 323 = .ok (.iload 10, 2) := by decide +kernel
theorem dX7_group_325 : decode cX7_group 325 = .ok (.iastore, 1) := by decide +kernel
theorem dX7_group_326 : decode cX7_group 326 = .ok (.aload_n 0, 1) := by decide +kernel
theorem dX7_group_327 : decode cX7_group 327 = .ok (.iload 8, 2) := by decide +kernel
theorem dX7_group_329 : decode cX7_group 329 = .ok (.iconst 0, 1) := by decide +kernel
theorem dX7_group_330 : decode cX7_group 330 = .ok (.invokevirtual 132, 3) := by decide +kernel
theorem dX7_group_333 : decode cX7_group 333 = .ok (.aload_n 0, 1) := by decide +kernel
theorem dX7_group_334 : decode cX7_group 334 = .ok (.iload 9, 2) := by decide +kernel
theorem dX7_group_336 : decode cX7_group 336 = .ok (.iconst 0, 1) := by decide +kernel
theorem dX7_group_337 : decode cX7_group 337 = .ok (.invokevirtual 132, 3) := by decide +kernel
theorem dX7_group_340 : decode cX7_group 340 = .ok (.aload_n 0, 1) := by decide +kernel
theorem dX7_group_341 : decode cX7_group 341 = .ok (.iload 10, 2) := by decide +kernel
theorem dX7_group_343 : decode cX7_group 343 = .ok (.iconst 0, 1) := by decide +kernel
theorem dX7_group_344 : decode cX7_group 344 = .ok (.invokevirtual 132, 3) := by decide +kernel
theorem dX7_group_347 : decode cX7_group 347 = .ok (.iinc 7 1, 3) := by decide +kernel
theorem dX7_group_350 : decode cX7_group 350 = .ok (.goto (-249), 3) := by decide +kernel
theorem dX7_group_353 : decode cX7_group 353 = .ok (.iload 5, 2) := by decide +kernel
theorem dX7_group_355 : decode cX7_group 355 = .ok (.iconst (-1), 1) := by decide +kernel
theorem dX7_group_356 : decode cX7_group 356 = .ok (.if_icmp .eq 37, 3) := by decide +kernel
theorem dX7_group_359 : decode cX7_group 359 = .ok (.aload_n 0, 1) := by decide +kernel
theorem dX7_group_360 : decode cX7_group 360 = .ok (.aload_n 0, 1) := by decide +kernel
theorem dX7_group_361 : decode cX7_group 361 = .ok (.getfield 31, 3) := by decide +kernel
theorem dX7_group_364 : decode cX7_group 364 = .ok (.iconst 0, 1) := by decide +kernel
theorem dX7_group_365 : decode cX7_group 365 = .ok (.iaload, 1) := by decide +kernel
theorem dX7_group_366 : decode cX7_group 366 = .ok (.iload_n 2, 1) := by decide +kernel
theorem dX7_group_367 : decode cX7_group 367 = .ok (.invokevirtual 132, 3) := by decide +kernel
theorem dX7_group_370 : decode cX7_group 370 = .ok (.aload_n 0, 1) := by decide +kernel
theorem dX7_group_371 : decode cX7_group 371 = .ok (.aload_n 0, 1) := by decide +kernel
theorem dX7_group_372 : decode cX7_group 372 = .ok (.getfield 31, 3) := by decide +kernel
theorem dX7_group_375 : decode cX7_group 375 = .ok (.iconst 1, 1) := by decide +kernel
theorem dX7_group_376 : decode cX7_group 376 = .ok (.iaload, 1) := by decide +kernel
theorem dX7_group_377 : decode cX7_group 377 = .ok (.iload_n 3, 1) := by decide +kernel
theorem dX7_group_378 : decode cX7_group 378 = .ok (.invokevirtual 132, 3) := by decide +kernel
theorem dX7_group_381 : decode cX7_group 381 = .ok (.aload_n 0, 1) := by decide +kernel
theorem dX7_group_382 : decode cX7_group 382 = .ok (.aload_n 0, 1) := by decide +kernel
theorem dX7_group_383 : decode cX7_group 383 = .ok (.getfield 31, 3) := by decide +kernel
theorem dX7_group_386 : decode cX7_group 386 = .ok (.iconst 2, 1) := by decide +kernel
theorem dX7_group_387 : decode cX7_group 387 = .ok (.iaload, 1) := by decide +kernel
theorem dX7_group_388 : decode cX7_group 388 = .ok (.iload 4, 2) := by decide +kernel
theorem dX7_group_390 : decode cX7_group 390 = .ok (.invokevirtual 132, 3) := by decide +kernel
theorem dX7_group_393 : decode cX7_group 393 = .ok (.iload 5, 2) := by decide +kernel
theorem dX7_group_395 : decode cX7_group 395 = .ok (.ireturn, 1) := by decide +kernel
theorem dX7_seat_0 : decode cX7_seat 0 = .ok (.iload_n 1, 1) := by decide +kernel
theorem dX7_seat_1 : decode cX7_seat 1 = .ok (.iconst (-1), 1) := by decide +kernel
theorem dX7_seat_2 : decode cX7_seat 2 = .ok (.if_icmp .eq 10, 3) := by decide +kernel
theorem dX7_seat_5 : decode cX7_seat 5 = .ok (.aload_n 0, 1) := by decide +kernel
theorem dX7_seat_6 : decode cX7_seat 6 = .ok (.getfield 19, 3) := by decide +kernel
theorem dX7_seat_9 : decode cX7_seat 9 = .ok (.iload_n 1, 1) := by decide +kernel
theorem dX7_seat_10 : decode cX7_seat 10 = .ok (.iload_n 2, 1) := by decide +kernel
theorem dX7_seat_11 : decode cX7_seat 11 = .ok (.iastore, 1) := by decide +kernel
theorem dX7_seat_12 : decode cX7_seat 12 = .ok (.return_, 1) := by decide +kernel
theorem dX7_rider_0 : decode cX7_rider 0 = .ok (.iload_n 1, 1) := by decide +kernel
theorem dX7_rider_1 : decode cX7_rider 1 = .ok (.invokestatic 79, 3) := by decide +kernel
theorem dX7_rider_4 : decode cX7_rider 4 = .ok (.ifCond .ne 8, 3) := by decide +kernel
theorem dX7_rider_7 : decode cX7_rider 7 = .ok (.bipush (-101), 2) := by decide +kernel
theorem dX7_rider_9 : decode cX7_rider 9 = .ok (.goto 22, 3) := by decide +kernel
theorem dX7_rider_12 : decode cX7_rider 12 = .ok (.aload_n 0, 1) := by decide +kernel
theorem dX7_rider_13 : decode cX7_rider 13 = .ok (.getfield 16, 3) := by decide +kernel
theorem dX7_rider_16 : decode cX7_rider 16 = .ok (.iload_n 1, 1) := by decide +kernel
theorem dX7_rider_17 : decode cX7_rider 17 = .ok (.iaload, 1) := by decide +kernel
theorem dX7_rider_18 : decode cX7_rider 18 = .ok (.ifCond .le 12, 3) := by decide +kernel
theorem dX7_rider_21 : decode cX7_rider 21 = .ok (.aload_n 0, 1) := by decide +kernel
theorem dX7_rider_22 : decode cX7_rider 22 = .ok (.getfield 19, 3) := by decide +kernel
theorem dX7_rider_25 : decode cX7_rider 25 = .ok (.iload_n 1, 1) := by decide +kernel
theorem dX7_rider_26 : decode cX7_rider 26 = .ok (.iaload, 1) := by decide +kernel
theorem dX7_rider_27 : decode cX7_rider 27 = .ok (.goto 4, 3) := by decide +kernel
theorem dX7_rider_30 : decode cX7_rider 30 = .ok (.iconst 0, 1) := by decide +kernel
theorem dX7_rider_31 : decode cX7_rider 31 = .ok (.ireturn, 1) := by decide +kernel
theorem dX7_coat_0 : decode cX7_coat 0 = .ok (.aload_n 0, 1) := by decide +kernel
theorem dX7_coat_1 : decode cX7_coat 1 = .ok (.iload_n 1, 1) := by decide +kernel
theorem dX7_coat_2 : decode cX7_coat 2 = .ok (.invokevirtual 91, 3) := by decide +kernel
theorem dX7_coat_5 : decode cX7_coat 5 = .ok (.ifCond .ne 6, 3) := by decide +kernel
theorem dX7_coat_8 : decode cX7_coat 8 = .ok (.bipush (-101), 2) := by decide +kernel
theorem dX7_coat_10 : decode cX7_coat 10 = .ok (.ireturn, 1) := by decide +kernel
theorem dX7_coat_11 : decode cX7_coat 11 = .ok (.iload_n 2, 1) := by decide +kernel
theorem dX7_coat_12 : decode cX7_coat 12 = .ok (.i2l, 1) := by decide +kernel
theorem dX7_coat_13 : decode cX7_coat 13 = .ok (.lconst 0, 1) := by decide +kernel
theorem dX7_coat_14 : decode cX7_coat 14 = .ok (.ldc2_w 85, 3) := by decide +kernel
theorem dX7_coat_17 : decode cX7_coat 17 = .ok (.invokestatic 75, 3) := by decide +kernel
theorem dX7_coat_20 : decode cX7_coat 20 = .ok (.ifCond .ne 6, 3) := by decide +kernel
theorem dX7_coat_23 : decode cX7_coat 23 = .ok (.bipush (-102), 2) := by decide +kernel
theorem dX7_coat_25 : decode cX7_coat 25 = .ok (.ireturn, 1) := by decide +kernel
theorem dX7_coat_26 : decode cX7_coat 26 = .ok (.aload_n 0, 1) := by decide +kernel
theorem dX7_coat_27 : decode cX7_coat 27 = .ok (.getfield 22, 3) := by decide +kernel
theorem dX7_coat_30 : decode cX7_coat 30 = .ok (.iload_n 1, 1) := by decide +kernel
theorem dX7_coat_31 : decode cX7_coat 31 = .ok (.iaload, 1) := by decide +kernel
theorem dX7_coat_32 : decode cX7_coat 32 = .ok (.bipush 8, 2) := by decide +kernel
theorem dX7_coat_34 : decode cX7_coat 34 = .ok (.if_icmp .ne 6, 3) := by decide +kernel
theorem dX7_coat_37 : decode cX7_coat 37 = .ok (.bipush (-104), 2) := by decide +kernel
theorem dX7_coat_39 : decode cX7_coat 39 = .ok (.ireturn, 1) := by decide +kernel
theorem dX7_coat_40 : decode cX7_coat 40 = .ok (.aload_n 0, 1) := by decide +kernel
theorem dX7_coat_41 : decode cX7_coat 41 = .ok (.getfield 25, 3) := by decide +kernel
theorem dX7_coat_44 : decode cX7_coat 44 = .ok (.bipush 8, 2) := by decide +kernel
theorem dX7_coat_46 : decode cX7_coat 46 = .ok (.iload_n 1, 1) := by decide +kernel
theorem dX7_coat_47 : decode cX7_coat 47 = .ok (.imul, 1) := by decide +kernel
theorem dX7_coat_48 : decode cX7_coat 48 = .ok (.aload_n 0, 1) := by decide +kernel
theorem dX7_coat_49 : decode cX7_coat 49 = .ok (.getfield 22, 3) := by decide +kernel
theorem dX7_coat_52 : decode cX7_coat 52 = .ok (.iload_n 1, 1) := by decide +kernel
theorem dX7_coat_53 : decode cX7_coat 53 = .ok (.iaload, 1) := by decide +kernel
theorem dX7_coat_54 : decode cX7_coat 54 = .ok (.iadd, 1) := by decide +kernel
theorem dX7_coat_55 : decode cX7_coat 55 = .ok (.iload_n 2, 1) := by decide +kernel
theorem dX7_coat_56 : decode cX7_coat 56 = .ok (.iastore, 1) := by decide +kernel
theorem dX7_coat_57 : decode cX7_coat 57 = .ok (.aload_n 0, 1) := by decide +kernel
theorem dX7_coat_58 : decode cX7_coat 58 = .ok (.getfield 22, 3) := by decide +kernel
theorem dX7_coat_61 : decode cX7_coat 61 = .ok (.iload_n 1, 1) := by decide +kernel
theorem dX7_coat_62 : decode cX7_coat 62 = .ok (.dup2, 1) := by decide +kernel
theorem dX7_coat_63 : decode cX7_coat 63 = .ok (.iaload, 1) := by decide +kernel
theorem dX7_coat_64 : decode cX7_coat 64 = .ok (.iconst 1, 1) := by decide +kernel
theorem dX7_coat_65 : decode cX7_coat 65 = .ok (.iadd, 1) := by decide +kernel
theorem dX7_coat_66 : decode cX7_coat 66 = .ok (.iastore, 1) := by decide +kernel
theorem dX7_coat_67 : decode cX7_coat 67 = .ok (.aload_n 0, 1) := by decide +kernel
theorem dX7_coat_68 : decode cX7_coat 68 = .ok (.getfield 22, 3) := by decide +kernel
theorem dX7_coat_71 : decode cX7_coat 71 = .ok (.iload_n 1, 1) := by decide +kernel
theorem dX7_coat_72 : decode cX7_coat 72 = .ok (.iaload, 1) := by decide +kernel
theorem dX7_coat_73 : decode cX7_coat 73 = .ok (.ireturn, 1) := by decide +kernel
theorem dX7_sample_0 : decode cX7_sample 0 = .ok (.aload_n 0, 1) := by decide +kernel
theorem dX7_sample_1 : decode cX7_sample 1 = .ok (.iload_n 1, 1) := by decide +kernel
theorem dX7_sample_2 : decode cX7_sample 2 = .ok (.invokevirtual 91, 3) := by decide +kernel
theorem dX7_sample_5 : decode cX7_sample 5 = .ok (.ifCond .ne 6, 3) := by decide +kernel
theorem dX7_sample_8 : decode cX7_sample 8 = .ok (.bipush (-101), 2) := by decide +kernel
theorem dX7_sample_10 : decode cX7_sample 10 = .ok (.ireturn, 1) := by decide +kernel
theorem dX7_sample_11 : decode cX7_sample 11 = .ok (.iload_n 2, 1) := by decide +kernel
theorem dX7_sample_12 : decode cX7_sample 12 = .ok (.i2l, 1) := by decide +kernel
theorem dX7_sample_13 : decode cX7_sample 13 = .ok (.lconst 0, 1) := by decide +kernel
theorem dX7_sample_14 : decode cX7_sample 14 = .ok (.aload_n 0, 1) := by decide +kernel
theorem dX7_sample_15 : decode cX7_sample 15 = .ok (.getfield 22, 3) := by decide +kernel
theorem dX7_sample_18 : decode cX7_sample 18 = .ok (.iload_n 1, 1) := by decide +kernel
theorem dX7_sample_19 : decode cX7_sample 19 = .ok (.iaload, 1) := by decide +kernel
theorem dX7_sample_20 : decode cX7_sample 20 = .ok (.iconst 1, 1) := by decide +kernel
theorem dX7_sample_21 : decode cX7_sample 21 = .ok (.isub, 1) := by decide +kernel
theorem dX7_sample_22 : decode cX7_sample 22 = .ok (.i2l, 1) := by decide +kernel
theorem dX7_sample_23 : decode cX7_sample 23 = .ok (.invokestatic 75, 3) := by decide +kernel
theorem dX7_sample_26 : decode cX7_sample 26 = .ok (.ifCond .eq 26, 3) := by decide +kernel
theorem dX7_sample_29 : decode cX7_sample 29 = .ok (.aload_n 0, 1) := by decide +kernel
theorem dX7_sample_30 : decode cX7_sample 30 = .ok (.getfield 25, 3) := by decide +kernel
theorem dX7_sample_33 : decode cX7_sample 33 = .ok (.bipush 8, 2) := by decide +kernel
theorem dX7_sample_35 : decode cX7_sample 35 = .ok (.iload_n 1, 1) := by decide +kernel
theorem dX7_sample_36 : decode cX7_sample 36 = .ok (.imul, 1) := by decide +kernel
theorem dX7_sample_37 : decode cX7_sample 37 = .ok (.aload_n 0, 1) := by decide +kernel
theorem dX7_sample_38 : decode cX7_sample 38 = .ok (.getfield 22, 3) := by decide +kernel
theorem dX7_sample_41 : decode cX7_sample 41 = .ok (.iload_n 1, 1) := by decide +kernel
theorem dX7_sample_42 : decode cX7_sample 42 = .ok (.iaload, 1) := by decide +kernel
theorem dX7_sample_43 : decode cX7_sample 43 = .ok (.iadd, 1) := by decide +kernel
theorem dX7_sample_44 : decode cX7_sample 44 = .ok (.iconst 1, 1) := by decide +kernel
theorem dX7_sample_45 : decode cX7_sample 45 = .ok (.isub, 1) := by decide +kernel
theorem dX7_sample_46 : decode cX7_sample 46 = .ok (.iload_n 2, 1) := by decide +kernel
theorem dX7_sample_47 : decode cX7_sample 47 = .ok (.isub, 1) := by decide +kernel
theorem dX7_sample_48 : decode cX7_sample 48 = .ok (.iaload, 1) := by decide +kernel
theorem dX7_sample_49 : decode cX7_sample 49 = .ok (.goto 4, 3) := by decide +kernel
theorem dX7_sample_52 : decode cX7_sample 52 = .ok (.iconst (-1), 1) := by decide +kernel
theorem dX7_sample_53 : decode cX7_sample 53 = .ok (.ireturn, 1) := by decide +kernel
theorem dX7_strip_0 : decode cX7_strip 0 = .ok (.aload_n 0, 1) := by decide +kernel
theorem dX7_strip_1 : decode cX7_strip 1 = .ok (.iload_n 1, 1) := by decide +kernel
theorem dX7_strip_2 : decode cX7_strip 2 = .ok (.invokevirtual 91, 3) := by decide +kernel
theorem dX7_strip_5 : decode cX7_strip 5 = .ok (.ifCond .ne 6, 3) := by decide +kernel
theorem dX7_strip_8 : decode cX7_strip 8 = .ok (.bipush (-101), 2) := by decide +kernel
theorem dX7_strip_10 : decode cX7_strip 10 = .ok (.ireturn, 1) := by decide +kernel
theorem dX7_strip_11 : decode cX7_strip 11 = .ok (.aload_n 0, 1) := by decide +kernel
theorem dX7_strip_12 : decode cX7_strip 12 = .ok (.getfield 22, 3) := by decide +kernel
theorem dX7_strip_15 : decode cX7_strip 15 = .ok (.iload_n 1, 1) := by decide +kernel
theorem dX7_strip_16 : decode cX7_strip 16 = .ok (.iaload, 1) := by decide +kernel
theorem dX7_strip_17 : decode cX7_strip 17 = .ok (.iconst 1, 1) := by decide +kernel
theorem dX7_strip_18 : decode cX7_strip 18 = .ok (.isub, 1) := by decide +kernel
theorem dX7_strip_19 : decode cX7_strip 19 = .ok (.istore_n 3, 1) := by decide +kernel
theorem dX7_strip_20 : decode cX7_strip 20 = .ok (.iload_n 3, 1) := by decide +kernel
theorem dX7_strip_21 : decode cX7_strip 21 = .ok (.ifCond .lt 24, 3) := by decide +kernel
theorem dX7_strip_24 : decode cX7_strip 24 = .ok (.aload_n 0, 1) := by decide +kernel
theorem dX7_strip_25 : decode cX7_strip 25 = .ok (.getfield 25, 3) := by decide +kernel
theorem dX7_strip_28 : decode cX7_strip 28 = .ok (.bipush 8, 2) := by decide +kernel
theorem dX7_strip_30 : decode cX7_strip 30 = .ok (.iload_n 1, 1) := by decide +kernel
theorem dX7_strip_31 : decode cX7_strip 31 = .ok (.imul, 1) := by decide +kernel
theorem dX7_strip_32 : decode cX7_strip 32 = .ok (.iload_n 3, 1) := by decide +kernel
theorem dX7_strip_33 : decode cX7_strip 33 = .ok (.iadd, 1) := by decide +kernel
theorem dX7_strip_34 : decode cX7_strip 34 = .ok (.iaload, 1) := by decide +kernel
theorem dX7_strip_35 : decode cX7_strip 35 = .ok (.iload_n 2, 1) := by decide +kernel
theorem dX7_strip_36 : decode cX7_strip 36 = .ok (.if_icmp .eq 9, 3) := by decide +kernel
theorem dX7_strip_39 : decode cX7_strip 39 = .ok (.iinc 3 (-1), 3) := by decide +kernel
theorem dX7_strip_42 : decode cX7_strip 42 = .ok (.goto (-22), 3) := by decide +kernel
theorem dX7_strip_45 : decode cX7_strip 45 = .ok (.iload_n 3, 1) := by decide +kernel
theorem dX7_strip_46 : decode cX7_strip 46 = .ok (.ifCond .ge 6, 3) := by decide +kernel
theorem dX7_strip_49 : decode cX7_strip 49 = .ok (.bipush (-102), 2) := by decide +kernel
theorem dX7_strip_51 : decode cX7_strip 51 = .ok (.ireturn, 1) := by decide +kernel
theorem dX7_strip_52 : decode cX7_strip 52 = .ok (.aload_n 0, 1) := by decide +kernel
theorem dX7_strip_53 : decode cX7_strip 53 = .ok (.getfield 22, 3) := by decide +kernel
theorem dX7_strip_56 : decode cX7_strip 56 = .ok (.iload_n 1, 1) := by decide +kernel
theorem dX7_strip_57 : decode cX7_strip 57 = .ok (.iaload, 1) := by decide +kernel
theorem dX7_strip_58 : decode cX7_strip 58 = .ok (.iconst 1, 1) := by decide +kernel
theorem dX7_strip_59 : decode cX7_strip 59 = .ok (.isub, 1) := by decide +kernel
theorem dX7_strip_60 : decode cX7_strip 60 = .ok (.iload_n 3, 1) := by decide +kernel
theorem dX7_strip_61 : decode cX7_strip 61 = .ok (.isub, 1) := by decide +kernel
theorem dX7_strip_62 : decode cX7_strip 62 = .ok (.istore 4, 2) := by decide +kernel
theorem dX7_strip_64 : decode cX7_strip 64 = .ok (.aload_n 0, 1) := by decide +kernel
theorem dX7_strip_65 : decode cX7_strip 65 = .ok (.getfield 22, 3) := by decide +kernel
theorem dX7_strip_68 : decode cX7_strip 68 = .ok (.iload_n 1, 1) := by decide +kernel
theorem dX7_strip_69 : decode cX7_strip 69 = .ok (.iload_n 3, 1) := by decide +kernel
theorem dX7_strip_70 : decode cX7_strip 70 = .ok (.iconst 1, 1) := by decide +kernel
theorem dX7_strip_71 : decode cX7_strip 71 = .ok (.iadd, 1) := by decide +kernel
theorem dX7_strip_72 : decode cX7_strip 72 = .ok (.iastore, 1) := by decide +kernel
theorem dX7_strip_73 : decode cX7_strip 73 = .ok (.iload 4, 2) := by decide +kernel
theorem dX7_strip_75 : decode cX7_strip 75 = .ok (.ireturn, 1) := by decide +kernel
theorem dX7_isLeg_0 : decode cX7_isLeg 0 = .ok (.aload_n 0, 1) := by decide +kernel
theorem dX7_isLeg_1 : decode cX7_isLeg 1 = .ok (.iload_n 1, 1) := by decide +kernel
theorem dX7_isLeg_2 : decode cX7_isLeg 2 = .ok (.invokevirtual 91, 3) := by decide +kernel
theorem dX7_isLeg_5 : decode cX7_isLeg 5 = .ok (.ifCond .eq 19, 3) := by decide +kernel
theorem dX7_isLeg_8 : decode cX7_isLeg 8 = .ok (.iload_n 2, 1) := by decide +kernel
theorem dX7_isLeg_9 : decode cX7_isLeg 9 = .ok (.i2l, 1) := by decide +kernel
theorem dX7_isLeg_10 : decode cX7_isLeg 10 = .ok (.lconst 0, 1) := by decide +kernel
theorem dX7_isLeg_11 : decode cX7_isLeg 11 = .ok (.ldc2_w 127, 3) := by decide +kernel
theorem dX7_isLeg_14 : decode cX7_isLeg 14 = .ok (.invokestatic 75, 3) := by decide +kernel
theorem dX7_isLeg_17 : decode cX7_isLeg 17 = .ok (.ifCond .eq 7, 3) := by decide +kernel
theorem dX7_isLeg_20 : decode cX7_isLeg 20 = .ok (.iconst 1, 1) := by decide +kernel
theorem dX7_isLeg_21 : decode cX7_isLeg 21 = .ok (.goto 4, 3) := by decide +kernel
theorem dX7_isLeg_24 : decode cX7_isLeg 24 = .ok (.iconst 0, 1) := by decide +kernel
theorem dX7_isLeg_25 : decode cX7_isLeg 25 = .ok (.ireturn, 1) := by decide +kernel
theorem dX7_swap_0 : decode cX7_swap 0 = .ok (.aload_n 0, 1) := by decide +kernel
theorem dX7_swap_1 : decode cX7_swap 1 = .ok (.iload_n 1, 1) := by decide +kernel
theorem dX7_swap_2 : decode cX7_swap 2 = .ok (.iload_n 2, 1) := by decide +kernel
theorem dX7_swap_3 : decode cX7_swap 3 = .ok (.invokevirtual 136, 3) := by decide +kernel
theorem dX7_swap_6 : decode cX7_swap 6 = .ok (.ifCond .eq 13, 3) := by decide +kernel
theorem dX7_swap_9 : decode cX7_swap 9 = .ok (.aload_n 0, 1) := by decide +kernel
theorem dX7_swap_10 : decode cX7_swap 10 = .ok (.iload_n 3, 1) := by decide +kernel
theorem dX7_swap_11 : decode cX7_swap 11 = .ok (.iload 4, 2) := by decide +kernel
theorem dX7_swap_13 : decode cX7_swap 13 = .ok (.invokevirtual 136, 3) := by decide +kernel
theorem dX7_swap_16 : decode cX7_swap 16 = .ok (.ifCond .ne 6, 3) := by decide +kernel
theorem dX7_swap_19 : decode cX7_swap 19 = .ok (.bipush (-101), 2) := by decide +kernel
theorem dX7_swap_21 : decode cX7_swap 21 = .ok (.ireturn, 1) := by decide +kernel
theorem dX7_swap_22 : decode cX7_swap 22 = .ok (.iload_n 1, 1) := by decide +kernel
theorem dX7_swap_23 : decode cX7_swap 23 = .ok (.iload_n 3, 1) := by decide +kernel
theorem dX7_swap_24 : decode cX7_swap 24 = .ok (.if_icmp .ne 12, 3) := by decide +kernel
theorem dX7_swap_27 : decode cX7_swap 27 = .ok (.iload_n 2, 1) := by decide +kernel
theorem dX7_swap_28 : decode cX7_swap 28 = .ok (.iload 4, 2) := by decide +kernel
theorem dX7_swap_30 : decode cX7_swap 30 = .ok (.if_icmp .ne 6, 3) := by decide +kernel
theorem dX7_swap_33 : decode cX7_swap 33 = .ok (.bipush (-102), 2) := by decide +kernel
theorem dX7_swap_35 : decode cX7_swap 35 = .ok (.ireturn, 1) := by decide +kernel
theorem dX7_swap_36 : decode cX7_swap 36 = .ok (.aload_n 0, 1) := by decide +kernel
theorem dX7_swap_37 : decode cX7_swap 37 = .ok (.getfield 28, 3) := by decide +kernel
theorem dX7_swap_40 : decode cX7_swap 40 = .ok (.iconst 4, 1) := by decide +kernel
theorem dX7_swap_41 : decode cX7_swap 41 = .ok (.iload_n 1, 1) := by decide +kernel
theorem dX7_swap_42 : decode cX7_swap 42 = .ok (.imul, 1) := by decide +kernel
theorem dX7_swap_43 : decode cX7_swap 43 = .ok (.iload_n 2, 1) := by decide +kernel
theorem dX7_swap_44 : decode cX7_swap 44 = .ok (.iadd, 1) := by decide +kernel
theorem dX7_swap_45 : decode cX7_swap 45 = .ok (.iaload, 1) := by decide +kernel
theorem dX7_swap_46 : decode cX7_swap 46 = .ok (.istore 5, 2) := by decide +kernel
theorem dX7_swap_48 : decode cX7_swap 48 = .ok (.aload_n 0, 1) := by decide +kernel
theorem dX7_swap_49 : decode cX7_swap 49 = .ok (.getfield 28, 3) := by decide +kernel
theorem dX7_swap_52 : decode cX7_swap 52 = .ok (.iconst 4, 1) := by decide +kernel
theorem dX7_swap_53 : decode cX7_swap 53 = .ok (.iload_n 1, 1) := by decide +kernel
theorem dX7_swap_54 : decode cX7_swap 54 = .ok (.imul, 1) := by decide +kernel
theorem dX7_swap_55 : decode cX7_swap 55 = .ok (.iload_n 2, 1) := by decide +kernel
theorem dX7_swap_56 : decode cX7_swap 56 = .ok (.iadd, 1) := by decide +kernel
theorem dX7_swap_57 : decode cX7_swap 57 = .ok (.aload_n 0, 1) := by decide +kernel
theorem dX7_swap_58 : decode cX7_swap 58 = .ok (.getfield 28, 3) := by decide +kernel
theorem dX7_swap_61 : decode cX7_swap 61 = .ok (.iconst 4, 1) := by decide +kernel
theorem dX7_swap_62 : decode cX7_swap 62 = .ok (.iload_n 3, 1) := by decide +kernel
theorem dX7_swap_63 : decode cX7_swap 63 = .ok (.imul, 1) := by decide +kernel
theorem dX7_swap_64 : decode cX7_swap 64 = .ok (.iload 4, 2) := by decide +kernel
theorem dX7_swap_66 : decode cX7_swap 66 = .ok (.iadd, 1) := by decide +kernel
theorem dX7_swap_67 : decode cX7_swap 67 = .ok (.iaload, 1) := by decide +kernel
theorem dX7_swap_68 : decode cX7_swap 68 = .ok (.iastore, 1) := by decide +kernel
theorem dX7_swap_69 : decode cX7_swap 69 = .ok (.aload_n 0, 1) := by decide +kernel
theorem dX7_swap_70 : decode cX7_swap 70 = .ok (.getfield 28, 3) := by decide +kernel
theorem dX7_swap_73 : decode cX7_swap 73 = .ok (.iconst 4, 1) := by decide +kernel
theorem dX7_swap_74 : decode cX7_swap 74 = .ok (.iload_n 3, 1) := by decide +kernel
theorem dX7_swap_75 : decode cX7_swap 75 = .ok (.imul, 1) := by decide +kernel
theorem dX7_swap_76 : decode cX7_swap 76 = .ok (.iload 4, 2) := by decide +kernel
theorem dX7_swap_78 : decode cX7_swap 78 = .ok (.iadd, 1) := by decide +kernel
theorem dX7_swap_79 : decode cX7_swap 79 = .ok (.iload 5, 2) := by decide +kernel
theorem dX7_swap_81 : decode cX7_swap 81 = .ok (.iastore, 1) := by decide +kernel
theorem dX7_swap_82 : decode cX7_swap 82 = .ok (.iconst 1, 1) := by decide +kernel
theorem dX7_swap_83 : decode cX7_swap 83 = .ok (.ireturn, 1) := by decide +kernel
theorem dX7_mark_0 : decode cX7_mark 0 = .ok (.aload_n 0, 1) := by decide +kernel
theorem dX7_mark_1 : decode cX7_mark 1 = .ok (.iload_n 1, 1) := by decide +kernel
theorem dX7_mark_2 : decode cX7_mark 2 = .ok (.iload_n 2, 1) := by decide +kernel
theorem dX7_mark_3 : decode cX7_mark 3 = .ok (.invokevirtual 136, 3) := by decide +kernel
theorem dX7_mark_6 : decode cX7_mark 6 = .ok (.ifCond .eq 16, 3) := by decide +kernel
theorem dX7_mark_9 : decode cX7_mark 9 = .ok (.aload_n 0, 1) := by decide +kernel
theorem dX7_mark_10 : decode cX7_mark 10 = .ok (.getfield 28, 3) := by decide +kernel
theorem dX7_mark_13 : decode cX7_mark 13 = .ok (.iconst 4, 1) := by decide +kernel
theorem dX7_mark_14 : decode cX7_mark 14 = .ok (.iload_n 1, 1) := by decide +kernel
theorem dX7_mark_15 : decode cX7_mark 15 = .ok (.imul, 1) := by decide +kernel
theorem dX7_mark_16 : decode cX7_mark 16 = .ok (.iload_n 2, 1) := by decide +kernel
theorem dX7_mark_17 : decode cX7_mark 17 = .ok (.iadd, 1) := by decide +kernel
theorem dX7_mark_18 : decode cX7_mark 18 = .ok (.iaload, 1) := by decide +kernel
theorem dX7_mark_19 : decode cX7_mark 19 = .ok (.goto 5, 3) := by decide +kernel
theorem dX7_mark_22 : decode cX7_mark 22 = .ok (.bipush (-101), 2) := by decide +kernel
theorem dX7_mark_24 : decode cX7_mark 24 = .ok (.ireturn, 1) := by decide +kernel
theorem dX7_swaps_0 : decode cX7_swaps 0 = .ok (.iconst 0, 1) := by decide +kernel
theorem dX7_swaps_1 : decode cX7_swaps 1 = .ok (.istore_n 1, 1) := by decide +kernel
theorem dX7_swaps_2 : decode cX7_swaps 2 = .ok (.iload_n 1, 1) := by decide +kernel
theorem dX7_swaps_3 : decode cX7_swaps 3 = .ok (.bipush 48, 2) := by decide +kernel
theorem dX7_swaps_5 : decode cX7_swaps 5 = .ok (.if_icmp .ge 16, 3) := by decide +kernel
theorem dX7_swaps_8 : decode cX7_swaps 8 = .ok (.aload_n 0, 1) := by decide +kernel
theorem dX7_swaps_9 : decode cX7_swaps 9 = .ok (.getfield 34, 3) := by decide +kernel
theorem dX7_swaps_12 : decode cX7_swaps 12 = .ok (.iload_n 1, 1) := by decide +kernel
theorem dX7_swaps_13 : decode cX7_swaps 13 = .ok (.iconst 0, 1) := by decide +kernel
theorem dX7_swaps_14 : decode cX7_swaps 14 = .ok (.bastore, 1) := by decide +kernel
theorem dX7_swaps_15 : decode cX7_swaps 15 = .ok (.iinc 1 1, 3) := by decide +kernel
theorem dX7_swaps_18 : decode cX7_swaps 18 = .ok (.goto (-16), 3) := by decide +kernel
theorem dX7_swaps_21 : decode cX7_swaps 21 = .ok (.iconst 0, 1) := by decide +kernel
theorem dX7_swaps_22 : decode cX7_swaps 22 = .ok (.istore_n 1, 1) := by decide +kernel
theorem dX7_swaps_23 : decode cX7_swaps 23 = .ok (.iconst 0, 1) := by decide +kernel
theorem dX7_swaps_24 : decode cX7_swaps 24 = .ok (.istore_n 2, 1) := by decide +kernel
theorem dX7_swaps_25 : decode cX7_swaps 25 = .ok (.iload_n 2, 1) := by decide +kernel
theorem dX7_swaps_26 : decode cX7_swaps 26 = .ok (.bipush 48, 2) := by decide +kernel
theorem dX7_swaps_28 : decode cX7_swaps 28 = .ok (.if_icmp .ge 63, 3) := by decide +kernel
theorem dX7_swaps_31 : decode cX7_swaps 31 = .ok (.aload_n 0, 1) := by decide +kernel
theorem dX7_swaps_32 : decode cX7_swaps 32 = .ok (.getfield 16, 3) := by decide +kernel
theorem dX7_swaps_35 : decode cX7_swaps 35 = .ok (.iload_n 2, 1) := by decide +kernel
theorem dX7_swaps_36 : decode cX7_swaps 36 = .ok (.iconst 4, 1) := by decide +kernel
theorem dX7_swaps_37 : decode cX7_swaps 37 = .ok (.idiv, 1) := by decide +kernel
theorem dX7_swaps_38 : decode cX7_swaps 38 = .ok (.iaload, 1) := by decide +kernel
theorem dX7_swaps_39 : decode cX7_swaps 39 = .ok (.ifCond .le 46, 3) := by decide +kernel
theorem dX7_swaps_42 : decode cX7_swaps 42 = .ok (.aload_n 0, 1) := by decide +kernel
theorem dX7_swaps_43 : decode cX7_swaps 43 = .ok (.getfield 34, 3) := by decide +kernel
theorem dX7_swaps_46 : decode cX7_swaps 46 = .ok (.iload_n 2, 1) := by decide +kernel
theorem dX7_swaps_47 : decode cX7_swaps 47 = .ok (.baload, 1) := by decide +kernel
theorem dX7_swaps_48 : decode cX7_swaps 48 = .ok (.ifCond .ne 37, 3) := by decide +kernel
theorem dX7_swaps_51 : decode cX7_swaps 51 = .ok (.iload_n 2, 1) := by decide +kernel
theorem dX7_swaps_52 : decode cX7_swaps 52 = .ok (.istore_n 3, 1) := by decide +kernel
theorem dX7_swaps_53 : decode cX7_swaps 53 = .ok (.iinc 1 (-1), 3) := by decide +kernel
theorem dX7_swaps_56 : decode cX7_swaps 56 = .ok (.aload_n 0, 1) := by decide +kernel
theorem dX7_swaps_57 : decode cX7_swaps 57 = .ok (.getfield 34, 3) := by decide +kernel
theorem dX7_swaps_60 : decode cX7_swaps 60 = .ok (.iload_n 3, 1) := by decide +kernel
theorem dX7_swaps_61 : decode cX7_swaps 61 = .ok (.baload, 1) := by decide +kernel
theorem dX7_swaps_62 : decode cX7_swaps 62 = .ok (.ifCond .ne 23, 3) := by decide +kernel
theorem dX7_swaps_65 : decode cX7_swaps 65 = .ok (.aload_n 0, 1) := by decide +kernel
theorem dX7_swaps_66 : decode cX7_swaps 66 = .ok (.getfield 34, 3) := by decide +kernel
theorem dX7_swaps_69 : decode cX7_swaps 69 = .ok (.iload_n 3, 1) := by decide +kernel
theorem dX7_swaps_70 : decode cX7_swaps 70 = .ok (.iconst 1, 1) := by decide +kernel
theorem dX7_swaps_71 : decode cX7_swaps 71 = .ok (.bastore, 1) := by decide +kernel
theorem dX7_swaps_72 : decode cX7_swaps 72 = .ok (.aload_n 0, 1) := by decide +kernel
theorem dX7_swaps_73 : decode cX7_swaps 73 = .ok (.getfield 28, 3) := by decide +kernel
theorem dX7_swaps_76 : decode cX7_swaps 76 = .ok (.iload_n 3, 1) := by decide +kernel
theorem dX7_swaps_77 : decode cX7_swaps 77 = .ok (.iaload, 1) := by decide +kernel
theorem dX7_swaps_78 : decode cX7_swaps 78 = .ok (.istore_n 3, 1) := by decide +kernel
theorem dX7_swaps_79 : decode cX7_swaps 79 = .ok (.iinc 1 1, 3) := by decide +kernel
theorem dX7_swaps_82 : decode cX7_swaps 82 = .ok (.goto (-26), 3) := by decide +kernel
theorem dX7_swaps_85 : decode cX7_swaps 85 = .ok (.iinc 2 1, 3) := by decide +kernel
theorem dX7_swaps_88 : decode cX7_swaps 88 = .ok (.goto (-63), 3) := by decide +kernel
theorem dX7_swaps_91 : decode cX7_swaps 91 = .ok (.iload_n 1, 1) := by decide +kernel
theorem dX7_swaps_92 : decode cX7_swaps 92 = .ok (.ireturn, 1) := by decide +kernel
theorem dX7_find_0 : decode cX7_find 0 = .ok (.iload_n 1, 1) := by decide +kernel
theorem dX7_find_1 : decode cX7_find 1 = .ok (.invokestatic 79, 3) := by decide +kernel
theorem dX7_find_4 : decode cX7_find 4 = .ok (.ifCond .eq 15, 3) := by decide +kernel
theorem dX7_find_7 : decode cX7_find 7 = .ok (.iload_n 2, 1) := by decide +kernel
theorem dX7_find_8 : decode cX7_find 8 = .ok (.i2l, 1) := by decide +kernel
theorem dX7_find_9 : decode cX7_find 9 = .ok (.lconst 0, 1) := by decide +kernel
theorem dX7_find_10 : decode cX7_find 10 = .ok (.ldc2_w 127, 3) := by decide +kernel
theorem dX7_find_13 : decode cX7_find 13 = .ok (.invokestatic 75, 3) := by decide +kernel
theorem dX7_find_16 : decode cX7_find 16 = .ok (.ifCond .ne 6, 3) := by decide +kernel
theorem dX7_find_19 : decode cX7_find 19 = .ok (.bipush (-101), 2) := by decide +kernel
theorem dX7_find_21 : decode cX7_find 21 = .ok (.ireturn, 1) := by decide +kernel
theorem dX7_find_22 : decode cX7_find 22 = .ok (.iconst 0, 1) := by decide +kernel
theorem dX7_find_23 : decode cX7_find 23 = .ok (.istore_n 3, 1) := by decide +kernel
theorem dX7_find_24 : decode cX7_find 24 = .ok (.iload_n 3, 1) := by decide +kernel
theorem dX7_find_25 : decode cX7_find 25 = .ok (.bipush 48, 2) := by decide +kernel
theorem dX7_find_27 : decode cX7_find 27 = .ok (.if_icmp .ge 36, 3) := by decide +kernel
theorem dX7_find_30 : decode cX7_find 30 = .ok (.aload_n 0, 1) := by decide +kernel
theorem dX7_find_31 : decode cX7_find 31 = .ok (.getfield 16, 3) := by decide +kernel
theorem dX7_find_34 : decode cX7_find 34 = .ok (.iload_n 3, 1) := by decide +kernel
theorem dX7_find_35 : decode cX7_find 35 = .ok (.iconst 4, 1) := by decide +kernel
theorem dX7_find_36 : decode cX7_find 36 = .ok (.idiv, 1) := by decide +kernel
theorem dX7_find_37 : decode cX7_find 37 = .ok (.iaload, 1) := by decide +kernel
theorem dX7_find_38 : decode cX7_find 38 = .ok (.ifCond .le 19, 3) := by decide +kernel
theorem dX7_find_41 : decode cX7_find 41 = .ok (.aload_n 0, 1) := by decide +kernel
theorem dX7_find_42 : decode cX7_find 42 = .ok (.getfield 28, 3) := by decide +kernel
theorem dX7_find_45 : decode cX7_find 45 = .ok (.iload_n 3, 1) := by decide +kernel
theorem dX7_find_46 : decode cX7_find 46 = .ok (.iaload, 1) := by decide +kernel
theorem dX7_find_47 : decode cX7_find 47 = .ok (.iconst 4, 1) := by decide +kernel
theorem dX7_find_48 : decode cX7_find 48 = .ok (.iload_n 1, 1) := by decide +kernel
theorem dX7_find_49 : decode cX7_find 49 = .ok (.imul, 1) := by decide +kernel
theorem dX7_find_50 : decode cX7_find 50 = .ok (.iload_n 2, 1) := by decide +kernel
theorem dX7_find_51 : decode cX7_find 51 = .ok (.iadd, 1) := by decide +kernel
theorem dX7_find_52 : decode cX7_find 52 = .ok (.if_icmp .ne 5, 3) := by decide +kernel
theorem dX7_find_55 : decode cX7_find 55 = .ok (.iload_n 3, 1) := by decide +kernel
theorem dX7_find_56 : decode cX7_find 56 = .ok (.ireturn, 1) := by decide +kernel
theorem dX7_find_57 : decode cX7_find 57 = .ok (.iinc 3 1, 3) := by decide +kernel
theorem dX7_find_60 : decode cX7_find 60 = .ok (.goto (-36), 3) := by decide +kernel
theorem dX7_find_63 : decode cX7_find 63 = .ok (.iconst (-1), 1) := by decide +kernel
theorem dX7_find_64 : decode cX7_find 64 = .ok (.ireturn, 1) := by decide +kernel
theorem dX7_fair_0 : decode cX7_fair 0 = .ok (.iload_n 1, 1) := by decide +kernel
theorem dX7_fair_1 : decode cX7_fair 1 = .ok (.i2l, 1) := by decide +kernel
theorem dX7_fair_2 : decode cX7_fair 2 = .ok (.lconst 0, 1) := by decide +kernel
theorem dX7_fair_3 : decode cX7_fair 3 = .ok (.ldc2_w 139, 3) := by decide +kernel
theorem dX7_fair_6 : decode cX7_fair 6 = .ok (.invokestatic 75, 3) := by decide +kernel
theorem dX7_fair_9 : decode cX7_fair 9 = .ok (.ifCond .eq 28, 3) := by decide +kernel
theorem dX7_fair_12 : decode cX7_fair 12 = .ok (.iload_n 2, 1) := by decide +kernel
theorem dX7_fair_13 : decode cX7_fair 13 = .ok (.i2l, 1) := by decide +kernel
theorem dX7_fair_14 : decode cX7_fair 14 = .ok (.iload_n 1, 1) := by decide +kernel
theorem dX7_fair_15 : decode cX7_fair 15 = .ok (.i2l, 1) := by decide +kernel
theorem dX7_fair_16 : decode cX7_fair 16 = .ok (.ldc2_w 139, 3) := by decide +kernel
theorem dX7_fair_19 : decode cX7_fair 19 = .ok (.invokestatic 75, 3) := by decide +kernel
theorem dX7_fair_22 : decode cX7_fair 22 = .ok (.ifCond .eq 15, 3) := by decide +kernel
theorem dX7_fair_25 : decode cX7_fair 25 = .ok (.iload_n 3, 1) := by decide +kernel
theorem dX7_fair_26 : decode cX7_fair 26 = .ok (.i2l, 1) := by decide +kernel
theorem dX7_fair_27 : decode cX7_fair 27 = .ok (.lconst 0, 1) := by decide +kernel
theorem dX7_fair_28 : decode cX7_fair 28 = .ok (.ldc2_w 141, 3) := by decide +kernel
theorem dX7_fair_31 : decode cX7_fair 31 = .ok (.invokestatic 75, 3) := by decide +kernel
theorem dX7_fair_34 : decode cX7_fair 34 = .ok (.ifCond .ne 6, 3) := by decide +kernel
theorem dX7_fair_37 : decode cX7_fair 37 = .ok (.bipush (-102), 2) := by decide +kernel
theorem dX7_fair_39 : decode cX7_fair 39 = .ok (.ireturn, 1) := by decide +kernel
theorem dX7_fair_40 : decode cX7_fair 40 = .ok (.aload_n 0, 1) := by decide +kernel
theorem dX7_fair_41 : decode cX7_fair 41 = .ok (.getfield 143, 3) := by decide +kernel
theorem dX7_fair_44 : decode cX7_fair 44 = .ok (.bipush 8, 2) := by decide +kernel
theorem dX7_fair_46 : decode cX7_fair 46 = .ok (.if_icmp .ne 6, 3) := by decide +kernel
theorem dX7_fair_49 : decode cX7_fair 49 = .ok (.bipush (-104), 2) := by decide +kernel
theorem dX7_fair_51 : decode cX7_fair 51 = .ok (.ireturn, 1) := by decide +kernel
theorem dX7_fair_52 : decode cX7_fair 52 = .ok (.aload_n 0, 1) := by decide +kernel
theorem dX7_fair_53 : decode cX7_fair 53 = .ok (.getfield 38, 3) := by decide +kernel
theorem dX7_fair_56 : decode cX7_fair 56 = .ok (.aload_n 0, 1) := by decide +kernel
theorem dX7_fair_57 : decode cX7_fair 57 = .ok (.getfield 143, 3) := by decide +kernel
theorem dX7_fair_60 : decode cX7_fair 60 = .ok (.iload_n 1, 1) := by decide +kernel
theorem dX7_fair_61 : decode cX7_fair 61 = .ok (.iastore, 1) := by decide +kernel
theorem dX7_fair_62 : decode cX7_fair 62 = .ok (.aload_n 0, 1) := by decide +kernel
theorem dX7_fair_63 : decode cX7_fair 63 = .ok (.getfield 41, 3) := by decide +kernel
end
section
theorem dX7_fair_66 : decode cX7_fair 66 = .ok (.aload_n 0, 1) := by decide +kernel
theorem dX7_fair_67 : decode cX7_fair 67 = .ok (.getfield 143, 3) := by decide +kernel
theorem dX7_fair_70 : decode cX7_fair 70 = .ok (.iload_n 2, 1) := by decide +kernel
theorem dX7_fair_71 : decode cX7_fair 71 = .ok (.iastore, 1) := by decide +kernel
theorem dX7_fair_72 : decode cX7_fair 72 = .ok (.aload_n 0, 1) := by decide +kernel
theorem dX7_fair_73 : decode cX7_fair 73 = .ok (.getfield 44, 3) := by decide +kernel
theorem dX7_fair_76 : decode cX7_fair 76 = .ok (.aload_n 0, 1) := by decide +kernel
theorem dX7_fair_77 : decode cX7_fair 77 = .ok (.getfield 143, 3) := by decide +kernel
theorem dX7_fair_80 : decode cX7_fair 80 = .ok (.iload_n 3, 1) := by decide +kernel
theorem dX7_fair_81 : decode cX7_fair 81 = .ok (.iastore, 1) := by decide +kernel
theorem dX7_fair_82 : decode cX7_fair 82 = .ok (.aload_n 0, 1) := by decide +kernel
theorem dX7_fair_83 : decode cX7_fair 83 = .ok (.dup, 1) := by decide +kernel
theorem dX7_fair_84 : decode cX7_fair 84 = .ok (.getfield 143, 3) := by decide +kernel
theorem dX7_fair_87 : decode cX7_fair 87 = .ok (.iconst 1, 1) := by decide +kernel
theorem dX7_fair_88 : decode cX7_fair 88 = .ok (.iadd, 1) := by decide +kernel
theorem dX7_fair_89 : decode cX7_fair 89 = .ok (.putfield 143, 3) := by decide +kernel
theorem dX7_fair_92 : decode cX7_fair 92 = .ok (.aload_n 0, 1) := by decide +kernel
theorem dX7_fair_93 : decode cX7_fair 93 = .ok (.getfield 143, 3) := by decide +kernel
theorem dX7_fair_96 : decode cX7_fair 96 = .ok (.iconst 1, 1) := by decide +kernel
theorem dX7_fair_97 : decode cX7_fair 97 = .ok (.isub, 1) := by decide +kernel
theorem dX7_fair_98 : decode cX7_fair 98 = .ok (.ireturn, 1) := by decide +kernel
theorem dX7_isFair_0 : decode cX7_isFair 0 = .ok (.iload_n 1, 1) := by decide +kernel
theorem dX7_isFair_1 : decode cX7_isFair 1 = .ok (.i2l, 1) := by decide +kernel
theorem dX7_isFair_2 : decode cX7_isFair 2 = .ok (.lconst 0, 1) := by decide +kernel
theorem dX7_isFair_3 : decode cX7_isFair 3 = .ok (.aload_n 0, 1) := by decide +kernel
theorem dX7_isFair_4 : decode cX7_isFair 4 = .ok (.getfield 143, 3) := by decide +kernel
theorem dX7_isFair_7 : decode cX7_isFair 7 = .ok (.iconst 1, 1) := by decide +kernel
theorem dX7_isFair_8 : decode cX7_isFair 8 = .ok (.isub, 1) := by decide +kernel
theorem dX7_isFair_9 : decode cX7_isFair 9 = .ok (.i2l, 1) := by decide +kernel
theorem dX7_isFair_10 : decode cX7_isFair 10 = .ok (.invokestatic 75, 3) := by decide +kernel
theorem dX7_isFair_13 : decode cX7_isFair 13 = .ok (.ireturn, 1) := by decide +kernel
theorem dX7_road_0 : decode cX7_road 0 = .ok (.aload_n 0, 1) := by decide +kernel
theorem dX7_road_1 : decode cX7_road 1 = .ok (.iload_n 1, 1) := by decide +kernel
theorem dX7_road_2 : decode cX7_road 2 = .ok (.invokevirtual 146, 3) := by decide +kernel
theorem dX7_road_5 : decode cX7_road 5 = .ok (.ifCond .eq 11, 3) := by decide +kernel
theorem dX7_road_8 : decode cX7_road 8 = .ok (.aload_n 0, 1) := by decide +kernel
theorem dX7_road_9 : decode cX7_road 9 = .ok (.iload_n 2, 1) := by decide +kernel
theorem dX7_road_10 : decode cX7_road 10 = .ok (.invokevirtual 146, 3) := by decide +kernel
theorem dX7_road_13 : decode cX7_road 13 = .ok (.ifCond .ne 6, 3) := by decide +kernel
theorem dX7_road_16 : decode cX7_road 16 = .ok (.bipush (-101), 2) := by decide +kernel
theorem dX7_road_18 : decode cX7_road 18 = .ok (.ireturn, 1) := by decide +kernel
theorem dX7_road_19 : decode cX7_road 19 = .ok (.iload_n 3, 1) := by decide +kernel
theorem dX7_road_20 : decode cX7_road 20 = .ok (.i2l, 1) := by decide +kernel
theorem dX7_road_21 : decode cX7_road 21 = .ok (.lconst 0, 1) := by decide +kernel
theorem dX7_road_22 : decode cX7_road 22 = .ok (.ldc2_w 149, 3) := by decide +kernel
theorem dX7_road_25 : decode cX7_road 25 = .ok (.invokestatic 75, 3) := by decide +kernel
theorem dX7_road_28 : decode cX7_road 28 = .ok (.ifCond .eq 8, 3) := by decide +kernel
theorem dX7_road_31 : decode cX7_road 31 = .ok (.iload_n 1, 1) := by decide +kernel
theorem dX7_road_32 : decode cX7_road 32 = .ok (.iload_n 2, 1) := by decide +kernel
theorem dX7_road_33 : decode cX7_road 33 = .ok (.if_icmp .ne 6, 3) := by decide +kernel
theorem dX7_road_36 : decode cX7_road 36 = .ok (.bipush (-102), 2) := by decide +kernel
theorem dX7_road_38 : decode cX7_road 38 = .ok (.ireturn, 1) := by decide +kernel
theorem dX7_road_39 : decode cX7_road 39 = .ok (.aload_n 0, 1) := by decide +kernel
theorem dX7_road_40 : decode cX7_road 40 = .ok (.getfield 47, 3) := by decide +kernel
theorem dX7_road_43 : decode cX7_road 43 = .ok (.bipush 8, 2) := by decide +kernel
theorem dX7_road_45 : decode cX7_road 45 = .ok (.iload_n 1, 1) := by decide +kernel
theorem dX7_road_46 : decode cX7_road 46 = .ok (.imul, 1) := by decide +kernel
theorem dX7_road_47 : decode cX7_road 47 = .ok (.iload_n 2, 1) := by decide +kernel
theorem dX7_road_48 : decode cX7_road 48 = .ok (.iadd, 1) := by decide +kernel
theorem dX7_road_49 : decode cX7_road 49 = .ok (.iaload, 1) := by decide +kernel
theorem dX7_road_50 : decode cX7_road 50 = .ok (.istore 4, 2) := by decide +kernel
theorem dX7_road_52 : decode cX7_road 52 = .ok (.aload_n 0, 1) := by decide +kernel
theorem dX7_road_53 : decode cX7_road 53 = .ok (.getfield 47, 3) := by decide +kernel
theorem dX7_road_56 : decode cX7_road 56 = .ok (.bipush 8, 2) := by decide +kernel
theorem dX7_road_58 : decode cX7_road 58 = .ok (.iload_n 1, 1) := by decide +kernel
theorem dX7_road_59 : decode cX7_road 59 = .ok (.imul, 1) := by decide +kernel
theorem dX7_road_60 : decode cX7_road 60 = .ok (.iload_n 2, 1) := by decide +kernel
theorem dX7_road_61 : decode cX7_road 61 = .ok (.iadd, 1) := by decide +kernel
theorem dX7_road_62 : decode cX7_road 62 = .ok (.iload_n 3, 1) := by decide +kernel
theorem dX7_road_63 : decode cX7_road 63 = .ok (.iastore, 1) := by decide +kernel
theorem dX7_road_64 : decode cX7_road 64 = .ok (.aload_n 0, 1) := by decide +kernel
theorem dX7_road_65 : decode cX7_road 65 = .ok (.getfield 47, 3) := by decide +kernel
theorem dX7_road_68 : decode cX7_road 68 = .ok (.bipush 8, 2) := by decide +kernel
theorem dX7_road_70 : decode cX7_road 70 = .ok (.iload_n 2, 1) := by decide +kernel
theorem dX7_road_71 : decode cX7_road 71 = .ok (.imul, 1) := by decide +kernel
theorem dX7_road_72 : decode cX7_road 72 = .ok (.iload_n 1, 1) := by decide +kernel
theorem dX7_road_73 : decode cX7_road 73 = .ok (.iadd, 1) := by decide +kernel
theorem dX7_road_74 : decode cX7_road 74 = .ok (.iload_n 3, 1) := by decide +kernel
theorem dX7_road_75 : decode cX7_road 75 = .ok (.iastore, 1) := by decide +kernel
theorem dX7_road_76 : decode cX7_road 76 = .ok (.iload 4, 2) := by decide +kernel
theorem dX7_road_78 : decode cX7_road 78 = .ok (.ireturn, 1) := by decide +kernel
theorem dX7_lay_0 : decode cX7_lay 0 = .ok (.aload_n 0, 1) := by decide +kernel
theorem dX7_lay_1 : decode cX7_lay 1 = .ok (.iconst 0, 1) := by decide +kernel
theorem dX7_lay_2 : decode cX7_lay 2 = .ok (.putfield 151, 3) := by decide +kernel
theorem dX7_lay_5 : decode cX7_lay 5 = .ok (.iconst 0, 1) := by decide +kernel
theorem dX7_lay_6 : decode cX7_lay 6 = .ok (.istore_n 2, 1) := by decide +kernel
theorem dX7_lay_7 : decode cX7_lay 7 = .ok (.iload_n 2, 1) := by decide +kernel
theorem dX7_lay_8 : decode cX7_lay 8 = .ok (.aload_n 0, 1) := by decide +kernel
theorem dX7_lay_9 : decode cX7_lay 9 = .ok (.getfield 143, 3) := by decide +kernel
theorem dX7_lay_12 : decode cX7_lay 12 = .ok (.if_icmp .ge 86, 3) := by decide +kernel
theorem dX7_lay_15 : decode cX7_lay 15 = .ok (.iload_n 1, 1) := by decide +kernel
theorem dX7_lay_16 : decode cX7_lay 16 = .ok (.iload_n 2, 1) := by decide +kernel
theorem dX7_lay_17 : decode cX7_lay 17 = .ok (.ishr, 1) := by decide +kernel
theorem dX7_lay_18 : decode cX7_lay 18 = .ok (.iconst 1, 1) := by decide +kernel
theorem dX7_lay_19 : decode cX7_lay 19 = .ok (.iand, 1) := by decide +kernel
theorem dX7_lay_20 : decode cX7_lay 20 = .ok (.iconst 1, 1) := by decide +kernel
theorem dX7_lay_21 : decode cX7_lay 21 = .ok (.if_icmp .ne 71, 3) := by decide +kernel
theorem dX7_lay_24 : decode cX7_lay 24 = .ok (.aload_n 0, 1) := by decide +kernel
theorem dX7_lay_25 : decode cX7_lay 25 = .ok (.getfield 151, 3) := by decide +kernel
theorem dX7_lay_28 : decode cX7_lay 28 = .ok (.istore_n 3, 1) := by decide +kernel
theorem dX7_lay_29 : decode cX7_lay 29 = .ok (.iload_n 3, 1) := by decide +kernel
theorem dX7_lay_30 : decode cX7_lay 30 = .ok (.ifCond .le 45, 3) := by decide +kernel
theorem dX7_lay_33 : decode cX7_lay 33 = .ok (.aload_n 0, 1) := by decide +kernel
theorem dX7_lay_34 : decode cX7_lay 34 = .ok (.getfield 38, 3) := by decide +kernel
theorem dX7_lay_37 : decode cX7_lay 37 = .ok (.aload_n 0, 1) := by decide +kernel
theorem dX7_lay_38 : decode cX7_lay 38 = .ok (.getfield 50, 3) := by decide +kernel
theorem dX7_lay_41 : decode cX7_lay 41 = .ok (.iload_n 3, 1) := by decide +kernel
theorem dX7_lay_42 : decode cX7_lay 42 = .ok (.iconst 1, 1) := by decide +kernel
theorem dX7_lay_43 : decode cX7_lay 43 = .ok (.isub, 1) := by decide +kernel
theorem dX7_lay_44 : decode cX7_lay 44 = .ok (.iaload, 1) := by decide +kernel
theorem dX7_lay_45 : decode cX7_lay 45 = .ok (.iaload, 1) := by decide +kernel
theorem dX7_lay_46 : decode cX7_lay 46 = .ok (.aload_n 0, 1) := by decide +kernel
theorem dX7_lay_47 : decode cX7_lay 47 = .ok (.getfield 38, 3) := by decide +kernel
theorem dX7_lay_50 : decode cX7_lay 50 = .ok (.iload_n 2, 1) := by decide +kernel
theorem dX7_lay_51 : decode cX7_lay 51 = .ok (.iaload, 1) := by decide +kernel
theorem dX7_lay_52 : decode cX7_lay 52 = .ok (.if_icmp .le 23, 3) := by decide +kernel
theorem dX7_lay_55 : decode cX7_lay 55 = .ok (.aload_n 0, 1) := by decide +kernel
theorem dX7_lay_56 : decode cX7_lay 56 = .ok (.getfield 50, 3) := by decide +kernel
theorem dX7_lay_59 : decode cX7_lay 59 = .ok (.iload_n 3, 1) := by decide +kernel
theorem dX7_lay_60 : decode cX7_lay 60 = .ok (.aload_n 0, 1) := by decide +kernel
theorem dX7_lay_61 : decode cX7_lay 61 = .ok (.getfield 50, 3) := by decide +kernel
theorem dX7_lay_64 : decode cX7_lay 64 = .ok (.iload_n 3, 1) := by decide +kernel
theorem dX7_lay_65 : decode cX7_lay 65 = .ok (.iconst 1, 1) := by decide +kernel
theorem dX7_lay_66 : decode cX7_lay 66 = .ok (.isub, 1) := by decide +kernel
theorem dX7_lay_67 : decode cX7_lay 67 = .ok (.iaload, 1) := by decide +kernel
theorem dX7_lay_68 : decode cX7_lay 68 = .ok (.iastore, 1) := by decide +kernel
theorem dX7_lay_69 : decode cX7_lay 69 = .ok (.iinc 3 (-1), 3) := by decide +kernel
theorem dX7_lay_72 : decode cX7_lay 72 = .ok (.goto (-43), 3) := by decide +kernel
theorem dX7_lay_75 : decode cX7_lay 75 = .ok (.aload_n 0, 1) := by decide +kernel
theorem dX7_lay_76 : decode cX7_lay 76 = .ok (.getfield 50, 3) := by decide +kernel
theorem dX7_lay_79 : decode cX7_lay 79 = .ok (.iload_n 3, 1) := by decide +kernel
theorem dX7_lay_80 : decode cX7_lay 80 = .ok (.iload_n 2, 1) := by decide +kernel
theorem dX7_lay_81 : decode cX7_lay 81 = .ok (.iastore, 1) := by decide +kernel
theorem dX7_lay_82 : decode cX7_lay 82 = .ok (.aload_n 0, 1) := by decide +kernel
theorem dX7_lay_83 : decode cX7_lay 83 = .ok (.dup, 1) := by decide +kernel
theorem dX7_lay_84 : decode cX7_lay 84 = .ok (.getfield 151, 3) := by decide +kernel
theorem dX7_lay_87 : decode cX7_lay 87 = .ok (.iconst 1, 1) := by decide +kernel
theorem dX7_lay_88 : decode cX7_lay 88 = .ok (.iadd, 1) := by decide +kernel
theorem dX7_lay_89 : decode cX7_lay 89 = .ok (.putfield 151, 3) := by decide +kernel
theorem dX7_lay_92 : decode cX7_lay 92 = .ok (.iinc 2 1, 3) := by decide +kernel
theorem dX7_lay_95 : decode cX7_lay 95 = .ok (.goto (-88), 3) := by decide +kernel
theorem dX7_lay_98 : decode cX7_lay 98 = .ok (.iconst 1, 1) := by decide +kernel
theorem dX7_lay_99 : decode cX7_lay 99 = .ok (.istore_n 2, 1) := by decide +kernel
theorem dX7_lay_100 : decode cX7_lay 100 = .ok (.iconst 1, 1) := by decide +kernel
theorem dX7_lay_101 : decode cX7_lay 101 = .ok (.istore_n 3, 1) := by decide +kernel
theorem dX7_lay_102 : decode cX7_lay 102 = .ok (.iload_n 3, 1) := by decide +kernel
theorem dX7_lay_103 : decode cX7_lay 103 = .ok (.aload_n 0, 1) := by decide +kernel
theorem dX7_lay_104 : decode cX7_lay 104 = .ok (.getfield 151, 3) := by decide +kernel
theorem dX7_lay_107 : decode cX7_lay 107 = .ok (.if_icmp .ge 70, 3) := by decide +kernel
theorem dX7_lay_110 : decode cX7_lay 110 = .ok (.iload_n 2, 1) := by decide +kernel
theorem dX7_lay_111 : decode cX7_lay 111 = .ok (.ifCond .eq 58, 3) := by decide +kernel
theorem dX7_lay_114 : decode cX7_lay 114 = .ok (.aload_n 0, 1) := by decide +kernel
theorem dX7_lay_115 : decode cX7_lay 115 = .ok (.getfield 38, 3) := by decide +kernel
theorem dX7_lay_118 : decode cX7_lay 118 = .ok (.aload_n 0, 1) := by decide +kernel
theorem dX7_lay_119 : decode cX7_lay 119 = .ok (.getfield 50, 3) := by decide +kernel
theorem dX7_lay_122 : decode cX7_lay 122 = .ok (.iload_n 3, 1) := by decide +kernel
theorem dX7_lay_123 : decode cX7_lay 123 = .ok (.iaload, 1) := by decide +kernel
theorem dX7_lay_124 : decode cX7_lay 124 = .ok (.iaload, 1) := by decide +kernel
theorem dX7_lay_125 : decode cX7_lay 125 = .ok (.aload_n 0, 1) := by decide +kernel
theorem dX7_lay_126 : decode cX7_lay 126 = .ok (.getfield 41, 3) := by decide +kernel
theorem dX7_lay_129 : decode cX7_lay 129 = .ok (.aload_n 0, 1) := by decide +kernel
theorem dX7_lay_130 : decode cX7_lay 130 = .ok (.getfield 50, 3) := by decide +kernel
theorem dX7_lay_133 : decode cX7_lay 133 = .ok (.iload_n 3, 1) := by decide +kernel
theorem dX7_lay_134 : decode cX7_lay 134 = .ok (.iconst 1, 1) := by decide +kernel
theorem dX7_lay_135 : decode cX7_lay 135 = .ok (.isub, 1) := by decide +kernel
theorem dX7_lay_136 : decode cX7_lay 136 = .ok (.iaload, 1) := by decide +kernel
theorem dX7_lay_137 : decode cX7_lay 137 = .ok (.iaload, 1) := by decide +kernel
theorem dX7_lay_138 : decode cX7_lay 138 = .ok (.aload_n 0, 1) := by decide +kernel
theorem dX7_lay_139 : decode cX7_lay 139 = .ok (.getfield 47, 3) := by decide +kernel
theorem dX7_lay_142 : decode cX7_lay 142 = .ok (.bipush 8, 2) := by decide +kernel
theorem dX7_lay_144 : decode cX7_lay 144 = .ok (.aload_n 0, 1) := by decide +kernel
theorem dX7_lay_145 : decode cX7_lay 145 = .ok (.getfield 50, 3) := by decide +kernel
theorem dX7_lay_148 : decode cX7_lay 148 = .ok (.iload_n 3, 1) := by decide +kernel
theorem dX7_lay_149 : decode cX7_lay 149 = .ok (.iconst 1, 1) := by decide +kernel
theorem dX7_lay_150 : decode cX7_lay 150 = .ok (.isub, 1) := by decide +kernel
theorem dX7_lay_151 : decode cX7_lay 151 = .ok (.iaload, 1) := by decide +kernel
theorem dX7_lay_152 : decode cX7_lay 152 = .ok (.imul, 1) := by decide +kernel
theorem dX7_lay_153 : decode cX7_lay 153 = .ok (.aload_n 0, 1) := by decide +kernel
theorem dX7_lay_154 : decode cX7_lay 154 = .ok (.getfield 50, 3) := by decide +kernel
theorem dX7_lay_157 : decode cX7_lay 157 = .ok (.iload_n 3, 1) := by decide +kernel
theorem dX7_lay_158 : decode cX7_lay 158 = .ok (.iaload, 1) := by decide +kernel
theorem dX7_lay_159 : decode cX7_lay 159 = .ok (.iadd, 1) := by decide +kernel
theorem dX7_lay_160 : decode cX7_lay 160 = .ok (.iaload, 1) := by decide +kernel
theorem dX7_lay_161 : decode cX7_lay 161 = .ok (.iadd, 1) := by decide +kernel
theorem dX7_lay_162 : decode cX7_lay 162 = .ok (.if_icmp .le 7, 3) := by decide +kernel
theorem dX7_lay_165 : decode cX7_lay 165 = .ok (.iconst 1, 1) := by decide +kernel
theorem dX7_lay_166 : decode cX7_lay 166 = .ok (.goto 4, 3) := by decide +kernel
theorem dX7_lay_169 : decode cX7_lay 169 = .ok (.iconst 0, 1) := by decide +kernel
theorem dX7_lay_170 : decode cX7_lay 170 = .ok (.istore_n 2, 1) := by decide +kernel
theorem dX7_lay_171 : decode cX7_lay 171 = .ok (.iinc 3 1, 3) := by decide +kernel
theorem dX7_lay_174 : decode cX7_lay 174 = .ok (.goto (-72), 3) := by decide +kernel
theorem dX7_lay_177 : decode cX7_lay 177 = .ok (.iload_n 2, 1) := by decide +kernel
theorem dX7_lay_178 : decode cX7_lay 178 = .ok (.ireturn, 1) := by decide +kernel
theorem dX7_isLess_0 : decode cX7_isLess 0 = .ok (.iconst 0, 1) := by decide +kernel
theorem dX7_isLess_1 : decode cX7_isLess 1 = .ok (.istore_n 1, 1) := by decide +kernel
theorem dX7_isLess_2 : decode cX7_isLess 2 = .ok (.iload_n 1, 1) := by decide +kernel
theorem dX7_isLess_3 : decode cX7_isLess 3 = .ok (.aload_n 0, 1) := by decide +kernel
theorem dX7_isLess_4 : decode cX7_isLess 4 = .ok (.getfield 151, 3) := by decide +kernel
theorem dX7_isLess_7 : decode cX7_isLess 7 = .ok (.if_icmp .ge 45, 3) := by decide +kernel
theorem dX7_isLess_10 : decode cX7_isLess 10 = .ok (.aload_n 0, 1) := by decide +kernel
theorem dX7_isLess_11 : decode cX7_isLess 11 = .ok (.getfield 50, 3) := by decide +kernel
theorem dX7_isLess_14 : decode cX7_isLess 14 = .ok (.iload_n 1, 1) := by decide +kernel
theorem dX7_isLess_15 : decode cX7_isLess 15 = .ok (.iaload, 1) := by decide +kernel
theorem dX7_isLess_16 : decode cX7_isLess 16 = .ok (.aload_n 0, 1) := by decide +kernel
theorem dX7_isLess_17 : decode cX7_isLess 17 = .ok (.getfield 53, 3) := by decide +kernel
theorem dX7_isLess_20 : decode cX7_isLess 20 = .ok (.iload_n 1, 1) := by decide +kernel
theorem dX7_isLess_21 : decode cX7_isLess 21 = .ok (.iaload, 1) := by decide +kernel
theorem dX7_isLess_22 : decode cX7_isLess 22 = .ok (.if_icmp .eq 24, 3) := by decide +kernel
theorem dX7_isLess_25 : decode cX7_isLess 25 = .ok (.aload_n 0, 1) := by decide +kernel
theorem dX7_isLess_26 : decode cX7_isLess 26 = .ok (.getfield 50, 3) := by decide +kernel
theorem dX7_isLess_29 : decode cX7_isLess 29 = .ok (.iload_n 1, 1) := by decide +kernel
theorem dX7_isLess_30 : decode cX7_isLess 30 = .ok (.iaload, 1) := by decide +kernel
theorem dX7_isLess_31 : decode cX7_isLess 31 = .ok (.aload_n 0, 1) := by decide +kernel
theorem dX7_isLess_32 : decode cX7_isLess 32 = .ok (.getfield 53, 3) := by decide +kernel
theorem dX7_isLess_35 : decode cX7_isLess 35 = .ok (.iload_n 1, 1) := by decide +kernel
theorem dX7_isLess_36 : decode cX7_isLess 36 = .ok (.iaload, 1) := by decide +kernel
theorem dX7_isLess_37 : decode cX7_isLess 37 = .ok (.if_icmp .ge 7, 3) := by decide +kernel
theorem dX7_isLess_40 : decode cX7_isLess 40 = .ok (.iconst 1, 1) := by decide +kernel
theorem dX7_isLess_41 : decode cX7_isLess 41 = .ok (.goto 4, 3) := by decide +kernel
theorem dX7_isLess_44 : decode cX7_isLess 44 = .ok (.iconst 0, 1) := by decide +kernel
theorem dX7_isLess_45 : decode cX7_isLess 45 = .ok (.ireturn, 1) := by decide +kernel
theorem dX7_isLess_46 : decode cX7_isLess 46 = .ok (.iinc 1 1, 3) := by decide +kernel
theorem dX7_isLess_49 : decode cX7_isLess 49 = .ok (.goto (-47), 3) := by decide +kernel
theorem dX7_isLess_52 : decode cX7_isLess 52 = .ok (.iconst 0, 1) := by decide +kernel
theorem dX7_isLess_53 : decode cX7_isLess 53 = .ok (.ireturn, 1) := by decide +kernel
theorem dX7_findRound_0 : decode cX7_findRound 0 = .ok (.iconst 0, 1) := by decide +kernel
theorem dX7_findRound_1 : decode cX7_findRound 1 = .ok (.istore_n 1, 1) := by decide +kernel
theorem dX7_findRound_2 : decode cX7_findRound 2 = .ok (.aload_n 0, 1) := by decide +kernel
theorem dX7_findRound_3 : decode cX7_findRound 3 = .ok (.iconst 0, 1) := by decide +kernel
theorem dX7_findRound_4 : decode cX7_findRound 4 = .ok (.putfield 154, 3) := by decide +kernel
theorem dX7_findRound_7 : decode cX7_findRound 7 = .ok (.iconst 1, 1) := by decide +kernel
theorem dX7_findRound_8 : decode cX7_findRound 8 = .ok (.istore_n 2, 1) := by decide +kernel
theorem dX7_findRound_9 : decode cX7_findRound 9 = .ok (.iload_n 2, 1) := by decide +kernel
theorem dX7_findRound_10 : decode cX7_findRound 10 = .ok (.iconst 1, 1) := by decide +kernel
theorem dX7_findRound_11 : decode cX7_findRound 11 = .ok (.aload_n 0, 1) := by decide +kernel
theorem dX7_findRound_12 : decode cX7_findRound 12 = .ok (.getfield 143, 3) := by decide +kernel
theorem dX7_findRound_15 : decode cX7_findRound 15 = .ok (.ishl, 1) := by decide +kernel
theorem dX7_findRound_16 : decode cX7_findRound 16 = .ok (.if_icmp .ge 133, 3) := by decide +kernel
theorem dX7_findRound_19 : decode cX7_findRound 19 = .ok (.aload_n 0, 1) := by decide +kernel
theorem dX7_findRound_20 : decode cX7_findRound 20 = .ok (.iload_n 2, 1) := by decide +kernel
theorem dX7_findRound_21 : decode cX7_findRound 21 = .ok (.invokevirtual 157, 3) := by decide +kernel
theorem dX7_findRound_24 : decode cX7_findRound 24 = .ok (.ifCond .eq 119, 3) := by decide +kernel
theorem dX7_findRound_27 : decode cX7_findRound 27 = .ok (.iconst 0, 1) := by decide +kernel
theorem dX7_findRound_28 : decode cX7_findRound 28 = .ok (.istore_n 3, 1) := by decide +kernel
theorem dX7_findRound_29 : decode cX7_findRound 29 = .ok (.iconst 0, 1) := by decide +kernel
theorem dX7_findRound_30 : decode cX7_findRound 30 = .ok (.istore 4, 2) := by decide +kernel
theorem dX7_findRound_32 : decode cX7_findRound 32 = .ok (.iload 4, 2) := by decide +kernel
theorem dX7_findRound_34 : decode cX7_findRound 34 = .ok (.aload_n 0, 1) := by decide +kernel
theorem dX7_findRound_35 : decode cX7_findRound 35 = .ok (.getfield 151, 3) := by decide +kernel
theorem dX7_findRound_38 : decode cX7_findRound 38 = .ok (.if_icmp .ge 24, 3) := by decide +kernel
theorem dX7_findRound_41 : decode cX7_findRound 41 = .ok (.iload_n 3, 1) := by decide +kernel
theorem dX7_findRound_42 : decode cX7_findRound 42 = .ok (.aload_n 0, 1) := by decide +kernel
theorem dX7_findRound_43 : decode cX7_findRound 43 = .ok (.getfield 44, 3) := by decide +kernel
theorem dX7_findRound_46 : decode cX7_findRound 46 = .ok (.aload_n 0, 1) := by decide +kernel
theorem dX7_findRound_47 : decode cX7_findRound 47 = .ok (.getfield 50, 3) := by decide +kernel
theorem dX7_findRound_50 : decode cX7_findRound 50 = .ok (.iload 4, 2) := by decide +kernel
theorem dX7_findRound_52 : decode cX7_findRound 52 = .ok (.iaload, 1) := by decide +kernel
theorem dX7_findRound_53 : decode cX7_findRound 53 = .ok (.iaload, 1) := by decide +kernel
theorem dX7_findRound_54 : decode cX7_findRound 54 = .ok (.iadd, 1) := by decide +kernel
theorem dX7_findRound_55 : decode cX7_findRound 55 = .ok (.istore_n 3, 1) := by decide +kernel
theorem dX7_findRound_56 : decode cX7_findRound 56 = .ok (.iinc 4 1, 3) := by decide +kernel
theorem dX7_findRound_59 : decode cX7_findRound 59 = .ok (.goto (-27), 3) := by decide +kernel
theorem dX7_findRound_62 : decode cX7_findRound 62 = .ok (.iload_n 3, 1) := by decide +kernel
theorem dX7_findRound_63 : decode cX7_findRound 63 = .ok (.iload_n 1, 1) := by decide +kernel
theorem dX7_findRound_64 : decode cX7_findRound 64 = .ok (.if_icmp .gt 37, 3) := by decide +kernel
theorem dX7_findRound_67 : decode cX7_findRound 67 = .ok (.iload_n 3, 1) := by decide +kernel
theorem dX7_findRound_68 : decode cX7_findRound 68 = .ok (.iload_n 1, 1) := by decide +kernel
theorem dX7_findRound_69 : decode cX7_findRound 69 = .ok (.if_icmp .ne 74, 3) := by decide +kernel
theorem dX7_findRound_72 : decode cX7_findRound 72 = .ok (.aload_n 0, 1) := by decide +kernel
theorem dX7_findRound_73 : decode cX7_findRound 73 = .ok (.getfield 151, 3) := by decide +kernel
theorem dX7_findRound_76 : decode cX7_findRound 76 = .ok (.aload_n 0, 1) := by decide +kernel
theorem dX7_findRound_77 : decode cX7_findRound 77 = .ok (.getfield 154, 3) := by decide +kernel
theorem dX7_findRound_80 : decode cX7_findRound 80 = .ok (.if_icmp .lt 21, 3) := by decide +kernel
theorem dX7_findRound_83 : decode cX7_findRound 83 = .ok (.aload_n 0, 1) := by decide +kernel
theorem dX7_findRound_84 : decode cX7_findRound 84 = .ok (.getfield 151, 3) := by decide +kernel
theorem dX7_findRound_87 : decode cX7_findRound 87 = .ok (.aload_n 0, 1) := by decide +kernel
theorem dX7_findRound_88 : decode cX7_findRound 88 = .ok (.getfield 154, 3) := by decide +kernel
theorem dX7_findRound_91 : decode cX7_findRound 91 = .ok (.if_icmp .ne 52, 3) := by decide +kernel
theorem dX7_findRound_94 : decode cX7_findRound 94 = .ok (.aload_n 0, 1) := by decide +kernel
theorem dX7_findRound_95 : decode cX7_findRound 95 = .ok (.invokevirtual 160, 3) := by decide +kernel
theorem dX7_findRound_98 : decode cX7_findRound 98 = .ok (.ifCond .eq 45, 3) := by decide +kernel
theorem dX7_findRound_101 : decode cX7_findRound 101 = .ok (.iload_n 3, 1) := by decide +kernel
theorem dX7_findRound_102 : decode cX7_findRound 102 = .ok (.istore_n 1, 1) := by decide +kernel
theorem dX7_findRound_103 : decode cX7_findRound 103 = .ok (.aload_n 0, 1) := by decide +kernel
theorem dX7_findRound_104 : decode cX7_findRound 104 = .ok (.aload_n 0, 1) := by decide +kernel
theorem dX7_findRound_105 : decode cX7_findRound 105 = .ok (.getfield 151, 3) := by decide +kernel
theorem dX7_findRound_108 : decode cX7_findRound 108 = .ok (.putfield 154, 3) := by decide +kernel
theorem dX7_findRound_111 : decode cX7_findRound 111 = .ok (.iconst 0, 1) := by decide +kernel
theorem dX7_findRound_112 : decode cX7_findRound 112 = .ok (.istore 4, 2) := by decide +kernel
theorem dX7_findRound_114 : decode cX7_findRound 114 = .ok (.iload 4, 2) := by decide +kernel
theorem dX7_findRound_116 : decode cX7_findRound 116 = .ok (.aload_n 0, 1) := by decide +kernel
theorem dX7_findRound_117 : decode cX7_findRound 117 = .ok (.getfield 151, 3) := by decide +kernel
theorem dX7_findRound_120 : decode cX7_findRound 120 = .ok (.if_icmp .ge 23, 3) := by decide +kernel
theorem dX7_findRound_123 : decode cX7_findRound 123 = .ok (.aload_n 0, 1) := by decide +kernel
theorem dX7_findRound_124 : decode cX7_findRound 124 = .ok (.getfield 53, 3) := by decide +kernel
theorem dX7_findRound_127 : decode cX7_findRound 127 = .ok (.iload 4, 2) := by decide +kernel
theorem dX7_findRound_129 : decode cX7_findRound 129 = .ok (.aload_n 0, 1) := by decide +kernel
theorem dX7_findRound_130 : decode cX7_findRound 130 = .ok (.getfield 50, 3) := by decide +kernel
theorem dX7_findRound_133 : decode cX7_findRound 133 = .ok (.iload 4, 2) := by decide +kernel
theorem dX7_findRound_135 : decode cX7_findRound 135 = .ok (.iaload, 1) := by decide +kernel
theorem dX7_findRound_136 : decode cX7_findRound 136 = .ok (.iastore, 1) := by decide +kernel
theorem dX7_findRound_137 : decode cX7_findRound 137 = .ok (.iinc 4 1, 3) := by decide +kernel
theorem dX7_findRound_140 : decode cX7_findRound 140 = .ok (.goto (-26), 3) := by decide +kernel
theorem dX7_findRound_143 : decode cX7_findRound 143 = .ok (.iinc 2 1, 3) := by decide +kernel
theorem dX7_findRound_146 : decode cX7_findRound 146 = .ok (.goto (-137), 3) := by decide +kernel
theorem dX7_findRound_149 : decode cX7_findRound 149 = .ok (.iload_n 1, 1) := by decide +kernel
theorem dX7_findRound_150 : decode cX7_findRound 150 = .ok (.ireturn, 1) := by decide +kernel
theorem dX7_earns_0 : decode cX7_earns 0 = .ok (.aload_n 0, 1) := by decide +kernel
theorem dX7_earns_1 : decode cX7_earns 1 = .ok (.invokevirtual 163, 3) := by decide +kernel
theorem dX7_earns_4 : decode cX7_earns 4 = .ok (.ireturn, 1) := by decide +kernel
theorem dX7_round_0 : decode cX7_round 0 = .ok (.aload_n 0, 1) := by decide +kernel
theorem dX7_round_1 : decode cX7_round 1 = .ok (.invokevirtual 163, 3) := by decide +kernel
theorem dX7_round_4 : decode cX7_round 4 = .ok (.istore_n 2, 1) := by decide +kernel
theorem dX7_round_5 : decode cX7_round 5 = .ok (.iload_n 2, 1) := by decide +kernel
theorem dX7_round_6 : decode cX7_round 6 = .ok (.ifCond .lt 28, 3) := by decide +kernel
theorem dX7_round_9 : decode cX7_round 9 = .ok (.iload_n 1, 1) := by decide +kernel
theorem dX7_round_10 : decode cX7_round 10 = .ok (.i2l, 1) := by decide +kernel
theorem dX7_round_11 : decode cX7_round 11 = .ok (.lconst 0, 1) := by decide +kernel
theorem dX7_round_12 : decode cX7_round 12 = .ok (.aload_n 0, 1) := by decide +kernel
theorem dX7_round_13 : decode cX7_round 13 = .ok (.getfield 154, 3) := by decide +kernel
theorem dX7_round_16 : decode cX7_round 16 = .ok (.iconst 1, 1) := by decide +kernel
theorem dX7_round_17 : decode cX7_round 17 = .ok (.isub, 1) := by decide +kernel
theorem dX7_round_18 : decode cX7_round 18 = .ok (.i2l, 1) := by decide +kernel
theorem dX7_round_19 : decode cX7_round 19 = .ok (.invokestatic 75, 3) := by decide +kernel
theorem dX7_round_22 : decode cX7_round 22 = .ok (.ifCond .eq 12, 3) := by decide +kernel
theorem dX7_round_25 : decode cX7_round 25 = .ok (.aload_n 0, 1) := by decide +kernel
theorem dX7_round_26 : decode cX7_round 26 = .ok (.getfield 53, 3) := by decide +kernel
theorem dX7_round_29 : decode cX7_round 29 = .ok (.iload_n 1, 1) := by decide +kernel
theorem dX7_round_30 : decode cX7_round 30 = .ok (.iaload, 1) := by decide +kernel
theorem dX7_round_31 : decode cX7_round 31 = .ok (.goto 4, 3) := by decide +kernel
theorem dX7_round_34 : decode cX7_round 34 = .ok (.iconst (-1), 1) := by decide +kernel
theorem dX7_round_35 : decode cX7_round 35 = .ok (.ireturn, 1) := by decide +kernel
theorem dX7_riders_0 : decode cX7_riders 0 = .ok (.iconst 0, 1) := by decide +kernel
theorem dX7_riders_1 : decode cX7_riders 1 = .ok (.istore_n 1, 1) := by decide +kernel
theorem dX7_riders_2 : decode cX7_riders 2 = .ok (.iconst 0, 1) := by decide +kernel
theorem dX7_riders_3 : decode cX7_riders 3 = .ok (.istore_n 2, 1) := by decide +kernel
theorem dX7_riders_4 : decode cX7_riders 4 = .ok (.iload_n 2, 1) := by decide +kernel
theorem dX7_riders_5 : decode cX7_riders 5 = .ok (.bipush 12, 2) := by decide +kernel
theorem dX7_riders_7 : decode cX7_riders 7 = .ok (.if_icmp .ge 35, 3) := by decide +kernel
theorem dX7_riders_10 : decode cX7_riders 10 = .ok (.iload_n 1, 1) := by decide +kernel
theorem dX7_riders_11 : decode cX7_riders 11 = .ok (.aload_n 0, 1) := by decide +kernel
theorem dX7_riders_12 : decode cX7_riders 12 = .ok (.getfield 16, 3) := by decide +kernel
theorem dX7_riders_15 : decode cX7_riders 15 = .ok (.iload_n 2, 1) := by decide +kernel
theorem dX7_riders_16 : decode cX7_riders 16 = .ok (.iaload, 1) := by decide +kernel
theorem dX7_riders_17 : decode cX7_riders 17 = .ok (.ifCond .le 16, 3) := by decide +kernel
theorem dX7_riders_20 : decode cX7_riders 20 = .ok (.aload_n 0, 1) := by decide +kernel
theorem dX7_riders_21 : decode cX7_riders 21 = .ok (.getfield 19, 3) := by decide +kernel
theorem dX7_riders_24 : decode cX7_riders 24 = .ok (.iload_n 2, 1) := by decide +kernel
theorem dX7_riders_25 : decode cX7_riders 25 = .ok (.iaload, 1) := by decide +kernel
theorem dX7_riders_26 : decode cX7_riders 26 = .ok (.ifCond .le 7, 3) := by decide +kernel
theorem dX7_riders_29 : decode cX7_riders 29 = .ok (.iconst 1, 1) := by decide +kernel
theorem dX7_riders_30 : decode cX7_riders 30 = .ok (.goto 4, 3) := by decide +kernel
theorem dX7_riders_33 : decode cX7_riders 33 = .ok (.iconst 0, 1) := by decide +kernel
theorem dX7_riders_34 : decode cX7_riders 34 = .ok (.iadd, 1) := by decide +kernel
theorem dX7_riders_35 : decode cX7_riders 35 = .ok (.istore_n 1, 1) := by decide +kernel
theorem dX7_riders_36 : decode cX7_riders 36 = .ok (.iinc 2 1, 3) := by decide +kernel
theorem dX7_riders_39 : decode cX7_riders 39 = .ok (.goto (-35), 3) := by decide +kernel
theorem dX7_riders_42 : decode cX7_riders 42 = .ok (.iload_n 1, 1) := by decide +kernel
theorem dX7_riders_43 : decode cX7_riders 43 = .ok (.ireturn, 1) := by decide +kernel
theorem dX7_turn_0 : decode cX7_turn 0 = .ok (.aload_n 0, 1) := by decide +kernel
theorem dX7_turn_1 : decode cX7_turn 1 = .ok (.invokevirtual 104, 3) := by decide +kernel
theorem dX7_turn_4 : decode cX7_turn 4 = .ok (.ifCond .eq 19, 3) := by decide +kernel
theorem dX7_turn_7 : decode cX7_turn 7 = .ok (.aload_n 0, 1) := by decide +kernel
theorem dX7_turn_8 : decode cX7_turn 8 = .ok (.getfield 166, 3) := by decide +kernel
theorem dX7_turn_11 : decode cX7_turn 11 = .ok (.iconst 1, 1) := by decide +kernel
theorem dX7_turn_12 : decode cX7_turn 12 = .ok (.iadd, 1) := by decide +kernel
theorem dX7_turn_13 : decode cX7_turn 13 = .ok (.bipush 10, 2) := by decide +kernel
theorem dX7_turn_15 : decode cX7_turn 15 = .ok (.aload_n 0, 1) := by decide +kernel
theorem dX7_turn_16 : decode cX7_turn 16 = .ok (.getfield 66, 3) := by decide +kernel
theorem dX7_turn_19 : decode cX7_turn 19 = .ok (.imul, 1) := by decide +kernel
theorem dX7_turn_20 : decode cX7_turn 20 = .ok (.if_icmp .le 6, 3) := by decide +kernel
theorem dX7_turn_23 : decode cX7_turn 23 = .ok (.bipush (-103), 2) := by decide +kernel
theorem dX7_turn_25 : decode cX7_turn 25 = .ok (.ireturn, 1) := by decide +kernel
theorem dX7_turn_26 : decode cX7_turn 26 = .ok (.aload_n 0, 1) := by decide +kernel
theorem dX7_turn_27 : decode cX7_turn 27 = .ok (.invokevirtual 169, 3) := by decide +kernel
theorem dX7_turn_30 : decode cX7_turn 30 = .ok (.istore_n 1, 1) := by decide +kernel
theorem dX7_turn_31 : decode cX7_turn 31 = .ok (.iconst 0, 1) := by decide +kernel
theorem dX7_turn_32 : decode cX7_turn 32 = .ok (.istore_n 2, 1) := by decide +kernel
theorem dX7_turn_33 : decode cX7_turn 33 = .ok (.iload_n 2, 1) := by decide +kernel
theorem dX7_turn_34 : decode cX7_turn 34 = .ok (.bipush 12, 2) := by decide +kernel
theorem dX7_turn_36 : decode cX7_turn 36 = .ok (.if_icmp .ge 16, 3) := by decide +kernel
theorem dX7_turn_39 : decode cX7_turn 39 = .ok (.aload_n 0, 1) := by decide +kernel
theorem dX7_turn_40 : decode cX7_turn 40 = .ok (.getfield 19, 3) := by decide +kernel
theorem dX7_turn_43 : decode cX7_turn 43 = .ok (.iload_n 2, 1) := by decide +kernel
theorem dX7_turn_44 : decode cX7_turn 44 = .ok (.iconst 0, 1) := by decide +kernel
theorem dX7_turn_45 : decode cX7_turn 45 = .ok (.iastore, 1) := by decide +kernel
theorem dX7_turn_46 : decode cX7_turn 46 = .ok (.iinc 2 1, 3) := by decide +kernel
theorem dX7_turn_49 : decode cX7_turn 49 = .ok (.goto (-16), 3) := by decide +kernel
theorem dX7_turn_52 : decode cX7_turn 52 = .ok (.aload_n 0, 1) := by decide +kernel
theorem dX7_turn_53 : decode cX7_turn 53 = .ok (.dup, 1) := by decide +kernel
theorem dX7_turn_54 : decode cX7_turn 54 = .ok (.getfield 166, 3) := by decide +kernel
theorem dX7_turn_57 : decode cX7_turn 57 = .ok (.iconst 1, 1) := by decide +kernel
theorem dX7_turn_58 : decode cX7_turn 58 = .ok (.iadd, 1) := by decide +kernel
theorem dX7_turn_59 : decode cX7_turn 59 = .ok (.putfield 166, 3) := by decide +kernel
theorem dX7_turn_62 : decode cX7_turn 62 = .ok (.aload_n 0, 1) := by decide +kernel
theorem dX7_turn_63 : decode cX7_turn 63 = .ok (.dup, 1) := by decide +kernel
theorem dX7_turn_64 : decode cX7_turn 64 = .ok (.getfield 172, 3) := by decide +kernel
theorem dX7_turn_67 : decode cX7_turn 67 = .ok (.iload_n 1, 1) := by decide +kernel
theorem dX7_turn_68 : decode cX7_turn 68 = .ok (.iadd, 1) := by decide +kernel
theorem dX7_turn_69 : decode cX7_turn 69 = .ok (.putfield 172, 3) := by decide +kernel
theorem dX7_turn_72 : decode cX7_turn 72 = .ok (.iload_n 1, 1) := by decide +kernel
theorem dX7_turn_73 : decode cX7_turn 73 = .ok (.ireturn, 1) := by decide +kernel
theorem dX7_look_0 : decode cX7_look 0 = .ok (.aload_n 0, 1) := by decide +kernel
theorem dX7_look_1 : decode cX7_look 1 = .ok (.getfield 166, 3) := by decide +kernel
theorem dX7_look_4 : decode cX7_look 4 = .ok (.istore_n 1, 1) := by decide +kernel
theorem dX7_look_5 : decode cX7_look 5 = .ok (.aload_n 0, 1) := by decide +kernel
theorem dX7_look_6 : decode cX7_look 6 = .ok (.iconst 0, 1) := by decide +kernel
theorem dX7_look_7 : decode cX7_look 7 = .ok (.putfield 166, 3) := by decide +kernel
theorem dX7_look_10 : decode cX7_look 10 = .ok (.iload_n 1, 1) := by decide +kernel
theorem dX7_look_11 : decode cX7_look 11 = .ok (.ireturn, 1) := by decide +kernel
theorem dX7_hours_0 : decode cX7_hours 0 = .ok (.iload_n 1, 1) := by decide +kernel
theorem dX7_hours_1 : decode cX7_hours 1 = .ok (.i2l, 1) := by decide +kernel
theorem dX7_hours_2 : decode cX7_hours 2 = .ok (.lconst 1, 1) := by decide +kernel
theorem dX7_hours_3 : decode cX7_hours 3 = .ok (.ldc2_w 175, 3) := by decide +kernel
theorem dX7_hours_6 : decode cX7_hours 6 = .ok (.invokestatic 75, 3) := by decide +kernel
theorem dX7_hours_9 : decode cX7_hours 9 = .ok (.ifCond .ne 6, 3) := by decide +kernel
theorem dX7_hours_12 : decode cX7_hours 12 = .ok (.bipush (-102), 2) := by decide +kernel
theorem dX7_hours_14 : decode cX7_hours 14 = .ok (.ireturn, 1) := by decide +kernel
theorem dX7_hours_15 : decode cX7_hours 15 = .ok (.aload_n 0, 1) := by decide +kernel
theorem dX7_hours_16 : decode cX7_hours 16 = .ok (.getfield 66, 3) := by decide +kernel
theorem dX7_hours_19 : decode cX7_hours 19 = .ok (.istore_n 2, 1) := by decide +kernel
theorem dX7_hours_20 : decode cX7_hours 20 = .ok (.aload_n 0, 1) := by decide +kernel
theorem dX7_hours_21 : decode cX7_hours 21 = .ok (.iload_n 1, 1) := by decide +kernel
theorem dX7_hours_22 : decode cX7_hours 22 = .ok (.putfield 66, 3) := by decide +kernel
theorem dX7_hours_25 : decode cX7_hours 25 = .ok (.iload_n 2, 1) := by decide +kernel
theorem dX7_hours_26 : decode cX7_hours 26 = .ok (.ireturn, 1) := by decide +kernel
theorem dX7_come_0 : decode cX7_come 0 = .ok (.iload_n 1, 1) := by decide +kernel
theorem dX7_come_1 : decode cX7_come 1 = .ok (.invokestatic 110, 3) := by decide +kernel
theorem dX7_come_4 : decode cX7_come 4 = .ok (.ifCond .ne 6, 3) := by decide +kernel
theorem dX7_come_7 : decode cX7_come 7 = .ok (.bipush (-102), 2) := by decide +kernel
theorem dX7_come_9 : decode cX7_come 9 = .ok (.ireturn, 1) := by decide +kernel
theorem dX7_come_10 : decode cX7_come 10 = .ok (.aload_n 0, 1) := by decide +kernel
theorem dX7_come_11 : decode cX7_come 11 = .ok (.getfield 177, 3) := by decide +kernel
theorem dX7_come_14 : decode cX7_come 14 = .ok (.bipush 100, 2) := by decide +kernel
theorem dX7_come_16 : decode cX7_come 16 = .ok (.if_icmp .ne 6, 3) := by decide +kernel
theorem dX7_come_19 : decode cX7_come 19 = .ok (.bipush (-104), 2) := by decide +kernel
theorem dX7_come_21 : decode cX7_come 21 = .ok (.ireturn, 1) := by decide +kernel
theorem dX7_come_22 : decode cX7_come 22 = .ok (.aload_n 0, 1) := by decide +kernel
theorem dX7_come_23 : decode cX7_come 23 = .ok (.getfield 56, 3) := by decide +kernel
theorem dX7_come_26 : decode cX7_come 26 = .ok (.aload_n 0, 1) := by decide +kernel
theorem dX7_come_27 : decode cX7_come 27 = .ok (.getfield 177, 3) := by decide +kernel
theorem dX7_come_30 : decode cX7_come 30 = .ok (.iload_n 1, 1) := by decide +kernel
theorem dX7_come_31 : decode cX7_come 31 = .ok (.iastore, 1) := by decide +kernel
theorem dX7_come_32 : decode cX7_come 32 = .ok (.aload_n 0, 1) := by decide +kernel
theorem dX7_come_33 : decode cX7_come 33 = .ok (.dup, 1) := by decide +kernel
theorem dX7_come_34 : decode cX7_come 34 = .ok (.getfield 177, 3) := by decide +kernel
theorem dX7_come_37 : decode cX7_come 37 = .ok (.iconst 1, 1) := by decide +kernel
theorem dX7_come_38 : decode cX7_come 38 = .ok (.iadd, 1) := by decide +kernel
theorem dX7_come_39 : decode cX7_come 39 = .ok (.putfield 177, 3) := by decide +kernel
theorem dX7_come_42 : decode cX7_come 42 = .ok (.aload_n 0, 1) := by decide +kernel
theorem dX7_come_43 : decode cX7_come 43 = .ok (.getfield 177, 3) := by decide +kernel
theorem dX7_come_46 : decode cX7_come 46 = .ok (.ireturn, 1) := by decide +kernel
theorem dX7_next_0 : decode cX7_next 0 = .ok (.aload_n 0, 1) := by decide +kernel
theorem dX7_next_1 : decode cX7_next 1 = .ok (.getfield 177, 3) := by decide +kernel
theorem dX7_next_4 : decode cX7_next 4 = .ok (.ifCond .ne 7, 3) := by decide +kernel
theorem dX7_next_7 : decode cX7_next 7 = .ok (.iconst (-1), 1) := by decide +kernel
theorem dX7_next_8 : decode cX7_next 8 = .ok (.goto 13, 3) := by decide +kernel
theorem dX7_next_11 : decode cX7_next 11 = .ok (.aload_n 0, 1) := by decide +kernel
theorem dX7_next_12 : decode cX7_next 12 = .ok (.aload_n 0, 1) := by decide +kernel
theorem dX7_next_13 : decode cX7_next 13 = .ok (.getfield 56, 3) := by decide +kernel
theorem dX7_next_16 : decode cX7_next 16 = .ok (.iconst 0, 1) := by decide +kernel
theorem dX7_next_17 : decode cX7_next 17 = .ok (.iaload, 1) := by decide +kernel
theorem dX7_next_18 : decode cX7_next 18 = .ok (.invokevirtual 124, 3) := by decide +kernel
theorem dX7_next_21 : decode cX7_next 21 = .ok (.istore_n 1, 1) := by decide +kernel
theorem dX7_next_22 : decode cX7_next 22 = .ok (.iload_n 1, 1) := by decide +kernel
theorem dX7_next_23 : decode cX7_next 23 = .ok (.iconst (-1), 1) := by decide +kernel
theorem dX7_next_24 : decode cX7_next 24 = .ok (.if_icmp .eq 55, 3) := by decide +kernel
theorem dX7_next_27 : decode cX7_next 27 = .ok (.aload_n 0, 1) := by decide +kernel
theorem dX7_next_28 : decode cX7_next 28 = .ok (.getfield 19, 3) := by decide +kernel
theorem dX7_next_31 : decode cX7_next 31 = .ok (.iload_n 1, 1) := by decide +kernel
theorem dX7_next_32 : decode cX7_next 32 = .ok (.aload_n 0, 1) := by decide +kernel
theorem dX7_next_33 : decode cX7_next 33 = .ok (.getfield 56, 3) := by decide +kernel
theorem dX7_next_36 : decode cX7_next 36 = .ok (.iconst 0, 1) := by decide +kernel
theorem dX7_next_37 : decode cX7_next 37 = .ok (.iaload, 1) := by decide +kernel
theorem dX7_next_38 : decode cX7_next 38 = .ok (.iastore, 1) := by decide +kernel
theorem dX7_next_39 : decode cX7_next 39 = .ok (.aload_n 0, 1) := by decide +kernel
theorem dX7_next_40 : decode cX7_next 40 = .ok (.dup, 1) := by decide +kernel
theorem dX7_next_41 : decode cX7_next 41 = .ok (.getfield 177, 3) := by decide +kernel
theorem dX7_next_44 : decode cX7_next 44 = .ok (.iconst 1, 1) := by decide +kernel
theorem dX7_next_45 : decode cX7_next 45 = .ok (.isub, 1) := by decide +kernel
theorem dX7_next_46 : decode cX7_next 46 = .ok (.putfield 177, 3) := by decide +kernel
theorem dX7_next_49 : decode cX7_next 49 = .ok (.iconst 0, 1) := by decide +kernel
theorem dX7_next_50 : decode cX7_next 50 = .ok (.istore_n 2, 1) := by decide +kernel
theorem dX7_next_51 : decode cX7_next 51 = .ok (.iload_n 2, 1) := by decide +kernel
theorem dX7_next_52 : decode cX7_next 52 = .ok (.aload_n 0, 1) := by decide +kernel
theorem dX7_next_53 : decode cX7_next 53 = .ok (.getfield 177, 3) := by decide +kernel
theorem dX7_next_56 : decode cX7_next 56 = .ok (.if_icmp .ge 23, 3) := by decide +kernel
theorem dX7_next_59 : decode cX7_next 59 = .ok (.aload_n 0, 1) := by decide +kernel
theorem dX7_next_60 : decode cX7_next 60 = .ok (.getfield 56, 3) := by decide +kernel
theorem dX7_next_63 : decode cX7_next 63 = .ok (.iload_n 2, 1) := by decide +kernel
theorem dX7_next_64 : decode cX7_next 64 = .ok (.aload_n 0, 1) := by decide +kernel
theorem dX7_next_65 : decode cX7_next 65 = .ok (.getfield 56, 3) := by decide +kernel
theorem dX7_next_68 : decode cX7_next 68 = .ok (.iload_n 2, 1) := by decide +kernel
theorem dX7_next_69 : decode cX7_next 69 = .ok (.iconst 1, 1) := by decide +kernel
theorem dX7_next_70 : decode cX7_next 70 = .ok (.iadd, 1) := by decide +kernel
theorem dX7_next_71 : decode cX7_next 71 = .ok (.iaload, 1) := by decide +kernel
theorem dX7_next_72 : decode cX7_next 72 = .ok (.iastore, 1) := by decide +kernel
theorem dX7_next_73 : decode cX7_next 73 = .ok (.iinc 2 1, 3) := by decide +kernel
theorem dX7_next_76 : decode cX7_next 76 = .ok (.goto (-25), 3) := by decide +kernel
theorem dX7_next_79 : decode cX7_next 79 = .ok (.iload_n 1, 1) := by decide +kernel
theorem dX7_next_80 : decode cX7_next 80 = .ok (.ireturn, 1) := by decide +kernel
theorem dX7_book_0 : decode cX7_book 0 = .ok (.iload_n 1, 1) := by decide +kernel
theorem dX7_book_1 : decode cX7_book 1 = .ok (.i2l, 1) := by decide +kernel
theorem dX7_book_2 : decode cX7_book 2 = .ok (.lconst 0, 1) := by decide +kernel
theorem dX7_book_3 : decode cX7_book 3 = .ok (.ldc2_w 180, 3) := by decide +kernel
theorem dX7_book_6 : decode cX7_book 6 = .ok (.invokestatic 75, 3) := by decide +kernel
theorem dX7_book_9 : decode cX7_book 9 = .ok (.ifCond .ne 6, 3) := by decide +kernel
theorem dX7_book_12 : decode cX7_book 12 = .ok (.bipush (-102), 2) := by decide +kernel
theorem dX7_book_14 : decode cX7_book 14 = .ok (.ireturn, 1) := by decide +kernel
theorem dX7_book_15 : decode cX7_book 15 = .ok (.aload_n 0, 1) := by decide +kernel
theorem dX7_book_16 : decode cX7_book 16 = .ok (.getfield 172, 3) := by decide +kernel
theorem dX7_book_19 : decode cX7_book 19 = .ok (.istore_n 2, 1) := by decide +kernel
theorem dX7_book_20 : decode cX7_book 20 = .ok (.aload_n 0, 1) := by decide +kernel
theorem dX7_book_21 : decode cX7_book 21 = .ok (.iconst 0, 1) := by decide +kernel
theorem dX7_book_22 : decode cX7_book 22 = .ok (.putfield 172, 3) := by decide +kernel
theorem dX7_book_25 : decode cX7_book 25 = .ok (.iload_n 2, 1) := by decide +kernel
theorem dX7_book_26 : decode cX7_book 26 = .ok (.iload_n 1, 1) := by decide +kernel
theorem dX7_book_27 : decode cX7_book 27 = .ok (.isub, 1) := by decide +kernel
theorem dX7_book_28 : decode cX7_book 28 = .ok (.ireturn, 1) := by decide +kernel
theorem dX7_count_0 : decode cX7_count 0 = .ok (.iload_n 1, 1) := by decide +kernel
theorem dX7_count_1 : decode cX7_count 1 = .ok (.tableswitch 108 0 7 #[47, 52, 57, 62, 67, 72, 77, 103], 47) := by decide +kernel
theorem dX7_count_48 : decode cX7_count 48 = .ok (.aload_n 0, 1) := by decide +kernel
theorem dX7_count_49 : decode cX7_count 49 = .ok (.invokevirtual 87, 3) := by decide +kernel
theorem dX7_count_52 : decode cX7_count 52 = .ok (.ireturn, 1) := by decide +kernel
theorem dX7_count_53 : decode cX7_count 53 = .ok (.aload_n 0, 1) := by decide +kernel
theorem dX7_count_54 : decode cX7_count 54 = .ok (.invokevirtual 169, 3) := by decide +kernel
theorem dX7_count_57 : decode cX7_count 57 = .ok (.ireturn, 1) := by decide +kernel
theorem dX7_count_58 : decode cX7_count 58 = .ok (.aload_n 0, 1) := by decide +kernel
theorem dX7_count_59 : decode cX7_count 59 = .ok (.getfield 177, 3) := by decide +kernel
theorem dX7_count_62 : decode cX7_count 62 = .ok (.ireturn, 1) := by decide +kernel
theorem dX7_count_63 : decode cX7_count 63 = .ok (.aload_n 0, 1) := by decide +kernel
theorem dX7_count_64 : decode cX7_count 64 = .ok (.getfield 143, 3) := by decide +kernel
theorem dX7_count_67 : decode cX7_count 67 = .ok (.ireturn, 1) := by decide +kernel
theorem dX7_count_68 : decode cX7_count 68 = .ok (.aload_n 0, 1) := by decide +kernel
theorem dX7_count_69 : decode cX7_count 69 = .ok (.getfield 166, 3) := by decide +kernel
theorem dX7_count_72 : decode cX7_count 72 = .ok (.ireturn, 1) := by decide +kernel
theorem dX7_count_73 : decode cX7_count 73 = .ok (.aload_n 0, 1) := by decide +kernel
theorem dX7_count_74 : decode cX7_count 74 = .ok (.getfield 172, 3) := by decide +kernel
theorem dX7_count_77 : decode cX7_count 77 = .ok (.ireturn, 1) := by decide +kernel
theorem dX7_count_78 : decode cX7_count 78 = .ok (.iconst 0, 1) := by decide +kernel
theorem dX7_count_79 : decode cX7_count 79 = .ok (.istore_n 2, 1) := by decide +kernel
theorem dX7_count_80 : decode cX7_count 80 = .ok (.iconst 0, 1) := by decide +kernel
theorem dX7_count_81 : decode cX7_count 81 = .ok (.istore_n 3, 1) := by decide +kernel
theorem dX7_count_82 : decode cX7_count 82 = .ok (.iload_n 3, 1) := by decide +kernel
theorem dX7_count_83 : decode cX7_count 83 = .ok (.bipush 12, 2) := by decide +kernel
theorem dX7_count_85 : decode cX7_count 85 = .ok (.if_icmp .ge 17, 3) := by decide +kernel
theorem dX7_count_88 : decode cX7_count 88 = .ok (.iload_n 2, 1) := by decide +kernel
theorem dX7_count_89 : decode cX7_count 89 = .ok (.aload_n 0, 1) := by decide +kernel
theorem dX7_count_90 : decode cX7_count 90 = .ok (.iload_n 3, 1) := by decide +kernel
theorem dX7_count_91 : decode cX7_count 91 = .ok (.invokevirtual 94, 3) := by decide +kernel
theorem dX7_count_94 : decode cX7_count 94 = .ok (.iadd, 1) := by decide +kernel
theorem dX7_count_95 : decode cX7_count 95 = .ok (.istore_n 2, 1) := by decide +kernel
theorem dX7_count_96 : decode cX7_count 96 = .ok (.iinc 3 1, 3) := by decide +kernel
theorem dX7_count_99 : decode cX7_count 99 = .ok (.goto (-17), 3) := by decide +kernel
theorem dX7_count_102 : decode cX7_count 102 = .ok (.iload_n 2, 1) := by decide +kernel
theorem dX7_count_103 : decode cX7_count 103 = .ok (.ireturn, 1) := by decide +kernel
theorem dX7_count_104 : decode cX7_count 104 = .ok (.aload_n 0, 1) := by decide +kernel
theorem dX7_count_105 : decode cX7_count 105 = .ok (.getfield 129, 3) := by decide +kernel
theorem dX7_count_108 : decode cX7_count 108 = .ok (.ireturn, 1) := by decide +kernel
theorem dX7_count_109 : decode cX7_count 109 = .ok (.bipush (-102), 2) := by decide +kernel
theorem dX7_count_111 : decode cX7_count 111 = .ok (.ireturn, 1) := by decide +kernel
theorem dX7_digest_0 : decode cX7_digest 0 = .ok (.ldc2_w 182, 3) := by decide +kernel
theorem dX7_digest_3 : decode cX7_digest 3 = .ok (.lstore_n 1, 1) := by decide +kernel
theorem dX7_digest_4 : decode cX7_digest 4 = .ok (.iconst 0, 1) := by decide +kernel
theorem dX7_digest_5 : decode cX7_digest 5 = .ok (.istore_n 3, 1) := by decide +kernel
theorem dX7_digest_6 : decode cX7_digest 6 = .ok (.iload_n 3, 1) := by decide +kernel
theorem dX7_digest_7 : decode cX7_digest 7 = .ok (.bipush 12, 2) := by decide +kernel
theorem dX7_digest_9 : decode cX7_digest 9 = .ok (.if_icmp .ge 134, 3) := by decide +kernel
theorem dX7_digest_12 : decode cX7_digest 12 = .ok (.ldc2_w 184, 3) := by decide +kernel
theorem dX7_digest_15 : decode cX7_digest 15 = .ok (.lload_n 1, 1) := by decide +kernel
theorem dX7_digest_16 : decode cX7_digest 16 = .ok (.lmul, 1) := by decide +kernel
theorem dX7_digest_17 : decode cX7_digest 17 = .ok (.aload_n 0, 1) := by decide +kernel
theorem dX7_digest_18 : decode cX7_digest 18 = .ok (.getfield 16, 3) := by decide +kernel
theorem dX7_digest_21 : decode cX7_digest 21 = .ok (.iload_n 3, 1) := by decide +kernel
theorem dX7_digest_22 : decode cX7_digest 22 = .ok (.iaload, 1) := by decide +kernel
theorem dX7_digest_23 : decode cX7_digest 23 = .ok (.i2l, 1) := by decide +kernel
theorem dX7_digest_24 : decode cX7_digest 24 = .ok (.ladd, 1) := by decide +kernel
theorem dX7_digest_25 : decode cX7_digest 25 = .ok (.lstore_n 1, 1) := by decide +kernel
theorem dX7_digest_26 : decode cX7_digest 26 = .ok (.aload_n 0, 1) := by decide +kernel
theorem dX7_digest_27 : decode cX7_digest 27 = .ok (.getfield 16, 3) := by decide +kernel
theorem dX7_digest_30 : decode cX7_digest 30 = .ok (.iload_n 3, 1) := by decide +kernel
theorem dX7_digest_31 : decode cX7_digest 31 = .ok (.iaload, 1) := by decide +kernel
theorem dX7_digest_32 : decode cX7_digest 32 = .ok (.ifCond .le 105, 3) := by decide +kernel
theorem dX7_digest_35 : decode cX7_digest 35 = .ok (.ldc2_w 184, 3) := by decide +kernel
theorem dX7_digest_38 : decode cX7_digest 38 = .ok (.lload_n 1, 1) := by decide +kernel
theorem dX7_digest_39 : decode cX7_digest 39 = .ok (.lmul, 1) := by decide +kernel
theorem dX7_digest_40 : decode cX7_digest 40 = .ok (.aload_n 0, 1) := by decide +kernel
theorem dX7_digest_41 : decode cX7_digest 41 = .ok (.getfield 19, 3) := by decide +kernel
theorem dX7_digest_44 : decode cX7_digest 44 = .ok (.iload_n 3, 1) := by decide +kernel
theorem dX7_digest_45 : decode cX7_digest 45 = .ok (.iaload, 1) := by decide +kernel
theorem dX7_digest_46 : decode cX7_digest 46 = .ok (.i2l, 1) := by decide +kernel
theorem dX7_digest_47 : decode cX7_digest 47 = .ok (.ladd, 1) := by decide +kernel
theorem dX7_digest_48 : decode cX7_digest 48 = .ok (.lstore_n 1, 1) := by decide +kernel
theorem dX7_digest_49 : decode cX7_digest 49 = .ok (.ldc2_w 184, 3) := by decide +kernel
theorem dX7_digest_52 : decode cX7_digest 52 = .ok (.lload_n 1, 1) := by decide +kernel
theorem dX7_digest_53 : decode cX7_digest 53 = .ok (.lmul, 1) := by decide +kernel
theorem dX7_digest_54 : decode cX7_digest 54 = .ok (.aload_n 0, 1) := by decide +kernel
theorem dX7_digest_55 : decode cX7_digest 55 = .ok (.getfield 22, 3) := by decide +kernel
theorem dX7_digest_58 : decode cX7_digest 58 = .ok (.iload_n 3, 1) := by decide +kernel
theorem dX7_digest_59 : decode cX7_digest 59 = .ok (.iaload, 1) := by decide +kernel
theorem dX7_digest_60 : decode cX7_digest 60 = .ok (.i2l, 1) := by decide +kernel
theorem dX7_digest_61 : decode cX7_digest 61 = .ok (.ladd, 1) := by decide +kernel
theorem dX7_digest_62 : decode cX7_digest 62 = .ok (.lstore_n 1, 1) := by decide +kernel
theorem dX7_digest_63 : decode cX7_digest 63 = .ok (.iconst 0, 1) := by decide +kernel
theorem dX7_digest_64 : decode cX7_digest 64 = .ok (.istore 4, 2) := by decide +kernel
theorem dX7_digest_66 : decode cX7_digest 66 = .ok (.iload 4, 2) := by decide +kernel
theorem dX7_digest_68 : decode cX7_digest 68 = .ok (.aload_n 0, 1) := by decide +kernel
theorem dX7_digest_69 : decode cX7_digest 69 = .ok (.getfield 22, 3) := by decide +kernel
theorem dX7_digest_72 : decode cX7_digest 72 = .ok (.iload_n 3, 1) := by decide +kernel
theorem dX7_digest_73 : decode cX7_digest 73 = .ok (.iaload, 1) := by decide +kernel
theorem dX7_digest_74 : decode cX7_digest 74 = .ok (.if_icmp .ge 29, 3) := by decide +kernel
theorem dX7_digest_77 : decode cX7_digest 77 = .ok (.ldc2_w 184, 3) := by decide +kernel
theorem dX7_digest_80 : decode cX7_digest 80 = .ok (.lload_n 1, 1) := by decide +kernel
theorem dX7_digest_81 : decode cX7_digest 81 = .ok (.lmul, 1) := by decide +kernel
theorem dX7_digest_82 : decode cX7_digest 82 = .ok (.aload_n 0, 1) := by decide +kernel
theorem dX7_digest_83 : decode cX7_digest 83 = .ok (.getfield 25, 3) := by decide +kernel
theorem dX7_digest_86 : decode cX7_digest 86 = .ok (.bipush 8, 2) := by decide +kernel
theorem dX7_digest_88 : decode cX7_digest 88 = .ok (.iload_n 3, 1) := by decide +kernel
theorem dX7_digest_89 : decode cX7_digest 89 = .ok (.imul, 1) := by decide +kernel
theorem dX7_digest_90 : decode cX7_digest 90 = .ok (.iload 4, 2) := by decide +kernel
theorem dX7_digest_92 : decode cX7_digest 92 = .ok (.iadd, 1) := by decide +kernel
theorem dX7_digest_93 : decode cX7_digest 93 = .ok (.iaload, 1) := by decide +kernel
theorem dX7_digest_94 : decode cX7_digest 94 = .ok (.i2l, 1) := by decide +kernel
theorem dX7_digest_95 : decode cX7_digest 95 = .ok (.ladd, 1) := by decide +kernel
theorem dX7_digest_96 : decode cX7_digest 96 = .ok (.lstore_n 1, 1) := by decide +kernel
theorem dX7_digest_97 : decode cX7_digest 97 = .ok (.iinc 4 1, 3) := by decide +kernel
theorem dX7_digest_100 : decode cX7_digest 100 = .ok (.goto (-34), 3) := by decide +kernel
theorem dX7_digest_103 : decode cX7_digest 103 = .ok (.iconst 0, 1) := by decide +kernel
theorem dX7_digest_104 : decode cX7_digest 104 = .ok (.istore 4, 2) := by decide +kernel
theorem dX7_digest_106 : decode cX7_digest 106 = .ok (.iload 4, 2) := by decide +kernel
theorem dX7_digest_108 : decode cX7_digest 108 = .ok (.iconst 4, 1) := by decide +kernel
theorem dX7_digest_109 : decode cX7_digest 109 = .ok (.if_icmp .ge 28, 3) := by decide +kernel
theorem dX7_digest_112 : decode cX7_digest 112 = .ok (.ldc2_w 184, 3) := by decide +kernel
theorem dX7_digest_115 : decode cX7_digest 115 = .ok (.lload_n 1, 1) := by decide +kernel
theorem dX7_digest_116 : decode cX7_digest 116 = .ok (.lmul, 1) := by decide +kernel
theorem dX7_digest_117 : decode cX7_digest 117 = .ok (.aload_n 0, 1) := by decide +kernel
theorem dX7_digest_118 : decode cX7_digest 118 = .ok (.getfield 28, 3) := by decide +kernel
theorem dX7_digest_121 : decode cX7_digest 121 = .ok (.iconst 4, 1) := by decide +kernel
theorem dX7_digest_122 : decode cX7_digest 122 = .ok (.iload_n 3, 1) := by decide +kernel
theorem dX7_digest_123 : decode cX7_digest 123 = .ok (.imul, 1) := by decide +kernel
theorem dX7_digest_124 : decode cX7_digest 124 = .ok (.iload 4, 2) := by decide +kernel
theorem dX7_digest_126 : decode cX7_digest 126 = .ok (.iadd, 1) := by decide +kernel
theorem dX7_digest_127 : decode cX7_digest 127 = .ok (.iaload, 1) := by decide +kernel
theorem dX7_digest_128 : decode cX7_digest 128 = .ok (.i2l, 1) := by decide +kernel
theorem dX7_digest_129 : decode cX7_digest 129 = .ok (.ladd, 1) := by decide +kernel
theorem dX7_digest_130 : decode cX7_digest 130 = .ok (.lstore_n 1, 1) := by decide +kernel
theorem dX7_digest_131 : decode cX7_digest 131 = .ok (.iinc 4 1, 3) := by decide +kernel
theorem dX7_digest_134 : decode cX7_digest 134 = .ok (.goto (-28), 3) := by decide +kernel
theorem dX7_digest_137 : decode cX7_digest 137 = .ok (.iinc 3 1, 3) := by decide +kernel
theorem dX7_digest_140 : decode cX7_digest 140 = .ok (.goto (-134), 3) := by decide +kernel
theorem dX7_digest_143 : decode cX7_digest 143 = .ok (.ldc2_w 184, 3) := by decide +kernel
theorem dX7_digest_146 : decode cX7_digest 146 = .ok (.lload_n 1, 1) := by decide +kernel
theorem dX7_digest_147 : decode cX7_digest 147 = .ok (.lmul, 1) := by decide +kernel
theorem dX7_digest_148 : decode cX7_digest 148 = .ok (.aload_n 0, 1) := by decide +kernel
theorem dX7_digest_149 : decode cX7_digest 149 = .ok (.getfield 59, 3) := by decide +kernel
theorem dX7_digest_152 : decode cX7_digest 152 = .ok (.i2l, 1) := by decide +kernel
theorem dX7_digest_153 : decode cX7_digest 153 = .ok (.ladd, 1) := by decide +kernel
theorem dX7_digest_154 : decode cX7_digest 154 = .ok (.lstore_n 1, 1) := by decide +kernel
theorem dX7_digest_155 : decode cX7_digest 155 = .ok (.ldc2_w 184, 3) := by decide +kernel
theorem dX7_digest_158 : decode cX7_digest 158 = .ok (.lload_n 1, 1) := by decide +kernel
theorem dX7_digest_159 : decode cX7_digest 159 = .ok (.lmul, 1) := by decide +kernel
theorem dX7_digest_160 : decode cX7_digest 160 = .ok (.aload_n 0, 1) := by decide +kernel
theorem dX7_digest_161 : decode cX7_digest 161 = .ok (.getfield 63, 3) := by decide +kernel
theorem dX7_digest_164 : decode cX7_digest 164 = .ok (.i2l, 1) := by decide +kernel
theorem dX7_digest_165 : decode cX7_digest 165 = .ok (.ladd, 1) := by decide +kernel
theorem dX7_digest_166 : decode cX7_digest 166 = .ok (.lstore_n 1, 1) := by decide +kernel
theorem dX7_digest_167 : decode cX7_digest 167 = .ok (.iconst 0, 1) := by decide +kernel
theorem dX7_digest_168 : decode cX7_digest 168 = .ok (.istore_n 3, 1) := by decide +kernel
theorem dX7_digest_169 : decode cX7_digest 169 = .ok (.iload_n 3, 1) := by decide +kernel
theorem dX7_digest_170 : decode cX7_digest 170 = .ok (.aload_n 0, 1) := by decide +kernel
theorem dX7_digest_171 : decode cX7_digest 171 = .ok (.getfield 143, 3) := by decide +kernel
theorem dX7_digest_174 : decode cX7_digest 174 = .ok (.if_icmp .ge 91, 3) := by decide +kernel
theorem dX7_digest_177 : decode cX7_digest 177 = .ok (.ldc2_w 184, 3) := by decide +kernel
theorem dX7_digest_180 : decode cX7_digest 180 = .ok (.lload_n 1, 1) := by decide +kernel
theorem dX7_digest_181 : decode cX7_digest 181 = .ok (.lmul, 1) := by decide +kernel
theorem dX7_digest_182 : decode cX7_digest 182 = .ok (.aload_n 0, 1) := by decide +kernel
theorem dX7_digest_183 : decode cX7_digest 183 = .ok (.getfield 38, 3) := by decide +kernel
theorem dX7_digest_186 : decode cX7_digest 186 = .ok (.iload_n 3, 1) := by decide +kernel
theorem dX7_digest_187 : decode cX7_digest 187 = .ok (.iaload, 1) := by decide +kernel
theorem dX7_digest_188 : decode cX7_digest 188 = .ok (.i2l, 1) := by decide +kernel
theorem dX7_digest_189 : decode cX7_digest 189 = .ok (.ladd, 1) := by decide +kernel
theorem dX7_digest_190 : decode cX7_digest 190 = .ok (.lstore_n 1, 1) := by decide +kernel
theorem dX7_digest_191 : decode cX7_digest 191 = .ok (.ldc2_w 184, 3) := by decide +kernel
theorem dX7_digest_194 : decode cX7_digest 194 = .ok (.lload_n 1, 1) := by decide +kernel
theorem dX7_digest_195 : decode cX7_digest 195 = .ok (.lmul, 1) := by decide +kernel
theorem dX7_digest_196 : decode cX7_digest 196 = .ok (.aload_n 0, 1) := by decide +kernel
theorem dX7_digest_197 : decode cX7_digest 197 = .ok (.getfield 41, 3) := by decide +kernel
theorem dX7_digest_200 : decode cX7_digest 200 = .ok (.iload_n 3, 1) := by decide +kernel
theorem dX7_digest_201 : decode cX7_digest 201 = .ok (.iaload, 1) := by decide +kernel
theorem dX7_digest_202 : decode cX7_digest 202 = .ok (.i2l, 1) := by decide +kernel
theorem dX7_digest_203 : decode cX7_digest 203 = .ok (.ladd, 1) := by decide +kernel
theorem dX7_digest_204 : decode cX7_digest 204 = .ok (.lstore_n 1, 1) := by decide +kernel
theorem dX7_digest_205 : decode cX7_digest 205 = .ok (.ldc2_w 184, 3) := by decide +kernel
theorem dX7_digest_208 : decode cX7_digest 208 = .ok (.lload_n 1, 1) := by decide +kernel
theorem dX7_digest_209 : decode cX7_digest 209 = .ok (.lmul, 1) := by decide +kernel
theorem dX7_digest_210 : decode cX7_digest 210 = .ok (.aload_n 0, 1) := by decide +kernel
theorem dX7_digest_211 : decode cX7_digest 211 = .ok (.getfield 44, 3) := by decide +kernel
theorem dX7_digest_214 : decode cX7_digest 214 = .ok (.iload_n 3, 1) := by decide +kernel
theorem dX7_digest_215 : decode cX7_digest 215 = .ok (.iaload, 1) := by decide +kernel
theorem dX7_digest_216 : decode cX7_digest 216 = .ok (.i2l, 1) := by decide +kernel
theorem dX7_digest_217 : decode cX7_digest 217 = .ok (.ladd, 1) := by decide +kernel
theorem dX7_digest_218 : decode cX7_digest 218 = .ok (.lstore_n 1, 1) := by decide +kernel
theorem dX7_digest_219 : decode cX7_digest 219 = .ok (.iload_n 3, 1) := by decide +kernel
theorem dX7_digest_220 : decode cX7_digest 220 = .ok (.iconst 1, 1) := by decide +kernel
theorem dX7_digest_221 : decode cX7_digest 221 = .ok (.iadd, 1) := by decide +kernel
theorem dX7_digest_222 : decode cX7_digest 222 = .ok (.istore 4, 2) := by decide +kernel
theorem dX7_digest_224 : decode cX7_digest 224 = .ok (.iload 4, 2) := by decide +kernel
theorem dX7_digest_226 : decode cX7_digest 226 = .ok (.aload_n 0, 1) := by decide +kernel
theorem dX7_digest_227 : decode cX7_digest 227 = .ok (.getfield 143, 3) := by decide +kernel
theorem dX7_digest_230 : decode cX7_digest 230 = .ok (.if_icmp .ge 29, 3) := by decide +kernel
theorem dX7_digest_233 : decode cX7_digest 233 = .ok (.ldc2_w 184, 3) := by decide +kernel
theorem dX7_digest_236 : decode cX7_digest 236 = .ok (.lload_n 1, 1) := by decide +kernel
theorem dX7_digest_237 : decode cX7_digest 237 = .ok (.lmul, 1) := by decide +kernel
theorem dX7_digest_238 : decode cX7_digest 238 = .ok (.aload_n 0, 1) := by decide +kernel
theorem dX7_digest_239 : decode cX7_digest 239 = .ok (.getfield 47, 3) := by decide +kernel
theorem dX7_digest_242 : decode cX7_digest 242 = .ok (.bipush 8, 2) := by decide +kernel
theorem dX7_digest_244 : decode cX7_digest 244 = .ok (.iload_n 3, 1) := by decide +kernel
theorem dX7_digest_245 : decode cX7_digest 245 = .ok (.imul, 1) := by decide +kernel
theorem dX7_digest_246 : decode cX7_digest 246 = .ok (.iload 4, 2) := by decide +kernel
theorem dX7_digest_248 : decode cX7_digest 248 = .ok (.iadd, 1) := by decide +kernel
theorem dX7_digest_249 : decode cX7_digest 249 = .ok (.iaload, 1) := by decide +kernel
theorem dX7_digest_250 : decode cX7_digest 250 = .ok (.i2l, 1) := by decide +kernel
theorem dX7_digest_251 : decode cX7_digest 251 = .ok (.ladd, 1) := by decide +kernel
theorem dX7_digest_252 : decode cX7_digest 252 = .ok (.lstore_n 1, 1) := by decide +kernel
theorem dX7_digest_253 : decode cX7_digest 253 = .ok (.iinc 4 1, 3) := by decide +kernel
theorem dX7_digest_256 : decode cX7_digest 256 = .ok (.goto (-32), 3) := by decide +kernel
theorem dX7_digest_259 : decode cX7_digest 259 = .ok (.iinc 3 1, 3) := by decide +kernel
theorem dX7_digest_262 : decode cX7_digest 262 = .ok (.goto (-93), 3) := by decide +kernel
theorem dX7_digest_265 : decode cX7_digest 265 = .ok (.ldc2_w 184, 3) := by decide +kernel
theorem dX7_digest_268 : decode cX7_digest 268 = .ok (.lload_n 1, 1) := by decide +kernel
theorem dX7_digest_269 : decode cX7_digest 269 = .ok (.lmul, 1) := by decide +kernel
theorem dX7_digest_270 : decode cX7_digest 270 = .ok (.aload_n 0, 1) := by decide +kernel
theorem dX7_digest_271 : decode cX7_digest 271 = .ok (.getfield 66, 3) := by decide +kernel
theorem dX7_digest_274 : decode cX7_digest 274 = .ok (.i2l, 1) := by decide +kernel
theorem dX7_digest_275 : decode cX7_digest 275 = .ok (.ladd, 1) := by decide +kernel
theorem dX7_digest_276 : decode cX7_digest 276 = .ok (.lstore_n 1, 1) := by decide +kernel
theorem dX7_digest_277 : decode cX7_digest 277 = .ok (.ldc2_w 184, 3) := by decide +kernel
theorem dX7_digest_280 : decode cX7_digest 280 = .ok (.lload_n 1, 1) := by decide +kernel
theorem dX7_digest_281 : decode cX7_digest 281 = .ok (.lmul, 1) := by decide +kernel
theorem dX7_digest_282 : decode cX7_digest 282 = .ok (.aload_n 0, 1) := by decide +kernel
theorem dX7_digest_283 : decode cX7_digest 283 = .ok (.getfield 166, 3) := by decide +kernel
theorem dX7_digest_286 : decode cX7_digest 286 = .ok (.i2l, 1) := by decide +kernel
theorem dX7_digest_287 : decode cX7_digest 287 = .ok (.ladd, 1) := by decide +kernel
theorem dX7_digest_288 : decode cX7_digest 288 = .ok (.lstore_n 1, 1) := by decide +kernel
theorem dX7_digest_289 : decode cX7_digest 289 = .ok (.ldc2_w 184, 3) := by decide +kernel
theorem dX7_digest_292 : decode cX7_digest 292 = .ok (.lload_n 1, 1) := by decide +kernel
theorem dX7_digest_293 : decode cX7_digest 293 = .ok (.lmul, 1) := by decide +kernel
theorem dX7_digest_294 : decode cX7_digest 294 = .ok (.aload_n 0, 1) := by decide +kernel
theorem dX7_digest_295 : decode cX7_digest 295 = .ok (.getfield 172, 3) := by decide +kernel
theorem dX7_digest_298 : decode cX7_digest 298 = .ok (.i2l, 1) := by decide +kernel
theorem dX7_digest_299 : decode cX7_digest 299 = .ok (.ladd, 1) := by decide +kernel
theorem dX7_digest_300 : decode cX7_digest 300 = .ok (.lstore_n 1, 1) := by decide +kernel
theorem dX7_digest_301 : decode cX7_digest 301 = .ok (.ldc2_w 184, 3) := by decide +kernel
theorem dX7_digest_304 : decode cX7_digest 304 = .ok (.lload_n 1, 1) := by decide +kernel
theorem dX7_digest_305 : decode cX7_digest 305 = .ok (.lmul, 1) := by decide +kernel
theorem dX7_digest_306 : decode cX7_digest 306 = .ok (.aload_n 0, 1) := by decide +kernel
theorem dX7_digest_307 : decode cX7_digest 307 = .ok (.getfield 129, 3) := by decide +kernel
theorem dX7_digest_310 : decode cX7_digest 310 = .ok (.i2l, 1) := by decide +kernel
theorem dX7_digest_311 : decode cX7_digest 311 = .ok (.ladd, 1) := by decide +kernel
theorem dX7_digest_312 : decode cX7_digest 312 = .ok (.lstore_n 1, 1) := by decide +kernel
theorem dX7_digest_313 : decode cX7_digest 313 = .ok (.iconst 0, 1) := by decide +kernel
theorem dX7_digest_314 : decode cX7_digest 314 = .ok (.istore_n 3, 1) := by decide +kernel
theorem dX7_digest_315 : decode cX7_digest 315 = .ok (.iload_n 3, 1) := by decide +kernel
theorem dX7_digest_316 : decode cX7_digest 316 = .ok (.aload_n 0, 1) := by decide +kernel
theorem dX7_digest_317 : decode cX7_digest 317 = .ok (.getfield 177, 3) := by decide +kernel
theorem dX7_digest_320 : decode cX7_digest 320 = .ok (.if_icmp .ge 23, 3) := by decide +kernel
theorem dX7_digest_323 : decode cX7_digest 323 = .ok (.ldc2_w 184, 3) := by decide +kernel
theorem dX7_digest_326 : decode cX7_digest 326 = .ok (.lload_n 1, 1) := by decide +kernel
theorem dX7_digest_327 : decode cX7_digest 327 = .ok (.lmul, 1) := by decide +kernel
theorem dX7_digest_328 : decode cX7_digest 328 = .ok (.aload_n 0, 1) := by decide +kernel
theorem dX7_digest_329 : decode cX7_digest 329 = .ok (.getfield 56, 3) := by decide +kernel
theorem dX7_digest_332 : decode cX7_digest 332 = .ok (.iload_n 3, 1) := by decide +kernel
theorem dX7_digest_333 : decode cX7_digest 333 = .ok (.iaload, 1) := by decide +kernel
theorem dX7_digest_334 : decode cX7_digest 334 = .ok (.i2l, 1) := by decide +kernel
theorem dX7_digest_335 : decode cX7_digest 335 = .ok (.ladd, 1) := by decide +kernel
theorem dX7_digest_336 : decode cX7_digest 336 = .ok (.lstore_n 1, 1) := by decide +kernel
theorem dX7_digest_337 : decode cX7_digest 337 = .ok (.iinc 3 1, 3) := by decide +kernel
theorem dX7_digest_340 : decode cX7_digest 340 = .ok (.goto (-25), 3) := by decide +kernel
theorem dX7_digest_343 : decode cX7_digest 343 = .ok (.lload_n 1, 1) := by decide +kernel
theorem dX7_digest_344 : decode cX7_digest 344 = .ok (.lreturn, 1) := by decide +kernel
theorem dL_law_0 : decode cL_law 0 = .ok (.new 7, 3) := by decide +kernel
theorem dL_law_3 : decode cL_law 3 = .ok (.dup, 1) := by decide +kernel
theorem dL_law_4 : decode cL_law 4 = .ok (.invokespecial 9, 3) := by decide +kernel
theorem dL_law_7 : decode cL_law 7 = .ok (.astore_n 1, 1) := by decide +kernel
theorem dL_law_8 : decode cL_law 8 = .ok (.new 10, 3) := by decide +kernel
theorem dL_law_11 : decode cL_law 11 = .ok (.dup, 1) := by decide +kernel
theorem dL_law_12 : decode cL_law 12 = .ok (.invokespecial 12, 3) := by decide +kernel
theorem dL_law_15 : decode cL_law 15 = .ok (.astore_n 2, 1) := by decide +kernel
theorem dL_law_16 : decode cL_law 16 = .ok (.iconst 0, 1) := by decide +kernel
theorem dL_law_17 : decode cL_law 17 = .ok (.istore_n 3, 1) := by decide +kernel
theorem dL_law_18 : decode cL_law 18 = .ok (.iload_n 3, 1) := by decide +kernel
theorem dL_law_19 : decode cL_law 19 = .ok (.aload_n 0, 1) := by decide +kernel
theorem dL_law_20 : decode cL_law 20 = .ok (.arraylength, 1) := by decide +kernel
theorem dL_law_21 : decode cL_law 21 = .ok (.iconst 5, 1) := by decide +kernel
theorem dL_law_22 : decode cL_law 22 = .ok (.isub, 1) := by decide +kernel
theorem dL_law_23 : decode cL_law 23 = .ok (.if_icmp .gt 942, 3) := by decide +kernel
theorem dL_law_26 : decode cL_law 26 = .ok (.aload_n 0, 1) := by decide +kernel
theorem dL_law_27 : decode cL_law 27 = .ok (.iload_n 3, 1) := by decide +kernel
theorem dL_law_28 : decode cL_law 28 = .ok (.iaload, 1) := by decide +kernel
theorem dL_law_29 : decode cL_law 29 = .ok (.bipush 31, 2) := by decide +kernel
theorem dL_law_31 : decode cL_law 31 = .ok (.iand, 1) := by decide +kernel
theorem dL_law_32 : decode cL_law 32 = .ok (.tableswitch 927 0 29 #[136, 179, 202, 235, 258, 271, 284, 297, 330, 353, 406, 429, 462, 495, 528, 581, 614, 627, 660, 703, 746, 759, 782, 795, 808, 831, 854, 867, 890, 913], 136) := by decide +kernel
theorem dL_law_168 : decode cL_law 168 = .ok (.aload_n 1, 1) := by decide +kernel
theorem dL_law_169 : decode cL_law 169 = .ok (.aload_n 0, 1) := by decide +kernel
theorem dL_law_170 : decode cL_law 170 = .ok (.iload_n 3, 1) := by decide +kernel
theorem dL_law_171 : decode cL_law 171 = .ok (.iconst 1, 1) := by decide +kernel
theorem dL_law_172 : decode cL_law 172 = .ok (.iadd, 1) := by decide +kernel
theorem dL_law_173 : decode cL_law 173 = .ok (.iaload, 1) := by decide +kernel
theorem dL_law_174 : decode cL_law 174 = .ok (.aload_n 0, 1) := by decide +kernel
theorem dL_law_175 : decode cL_law 175 = .ok (.iload_n 3, 1) := by decide +kernel
theorem dL_law_176 : decode cL_law 176 = .ok (.iconst 2, 1) := by decide +kernel
theorem dL_law_177 : decode cL_law 177 = .ok (.iadd, 1) := by decide +kernel
theorem dL_law_178 : decode cL_law 178 = .ok (.iaload, 1) := by decide +kernel
theorem dL_law_179 : decode cL_law 179 = .ok (.aload_n 0, 1) := by decide +kernel
theorem dL_law_180 : decode cL_law 180 = .ok (.iload_n 3, 1) := by decide +kernel
theorem dL_law_181 : decode cL_law 181 = .ok (.iconst 3, 1) := by decide +kernel
theorem dL_law_182 : decode cL_law 182 = .ok (.iadd, 1) := by decide +kernel
theorem dL_law_183 : decode cL_law 183 = .ok (.iaload, 1) := by decide +kernel
theorem dL_law_184 : decode cL_law 184 = .ok (.invokevirtual 13, 3) := by decide +kernel
theorem dL_law_187 : decode cL_law 187 = .ok (.aload_n 2, 1) := by decide +kernel
theorem dL_law_188 : decode cL_law 188 = .ok (.aload_n 0, 1) := by decide +kernel
theorem dL_law_189 : decode cL_law 189 = .ok (.iload_n 3, 1) := by decide +kernel
theorem dL_law_190 : decode cL_law 190 = .ok (.iconst 1, 1) := by decide +kernel
theorem dL_law_191 : decode cL_law 191 = .ok (.iadd, 1) := by decide +kernel
theorem dL_law_192 : decode cL_law 192 = .ok (.iaload, 1) := by decide +kernel
theorem dL_law_193 : decode cL_law 193 = .ok (.aload_n 0, 1) := by decide +kernel
theorem dL_law_194 : decode cL_law 194 = .ok (.iload_n 3, 1) := by decide +kernel
theorem dL_law_195 : decode cL_law 195 = .ok (.iconst 2, 1) := by decide +kernel
theorem dL_law_196 : decode cL_law 196 = .ok (.iadd, 1) := by decide +kernel
theorem dL_law_197 : decode cL_law 197 = .ok (.iaload, 1) := by decide +kernel
theorem dL_law_198 : decode cL_law 198 = .ok (.aload_n 0, 1) := by decide +kernel
theorem dL_law_199 : decode cL_law 199 = .ok (.iload_n 3, 1) := by decide +kernel
theorem dL_law_200 : decode cL_law 200 = .ok (.iconst 3, 1) := by decide +kernel
theorem dL_law_201 : decode cL_law 201 = .ok (.iadd, 1) := by decide +kernel
theorem dL_law_202 : decode cL_law 202 = .ok (.iaload, 1) := by decide +kernel
theorem dL_law_203 : decode cL_law 203 = .ok (.invokevirtual 17, 3) := by decide +kernel
theorem dL_law_206 : decode cL_law 206 = .ok (.if_icmp .eq 753, 3) := by decide +kernel
theorem dL_law_209 : decode cL_law 209 = .ok (.iconst 0, 1) := by decide +kernel
theorem dL_law_210 : decode cL_law 210 = .ok (.ireturn, 1) := by decide +kernel
theorem dL_law_211 : decode cL_law 211 = .ok (.aload_n 1, 1) := by decide +kernel
theorem dL_law_212 : decode cL_law 212 = .ok (.aload_n 0, 1) := by decide +kernel
theorem dL_law_213 : decode cL_law 213 = .ok (.iload_n 3, 1) := by decide +kernel
theorem dL_law_214 : decode cL_law 214 = .ok (.iconst 1, 1) := by decide +kernel
theorem dL_law_215 : decode cL_law 215 = .ok (.iadd, 1) := by decide +kernel
theorem dL_law_216 : decode cL_law 216 = .ok (.iaload, 1) := by decide +kernel
theorem dL_law_217 : decode cL_law 217 = .ok (.invokevirtual 18, 3) := by decide +kernel
theorem dL_law_220 : decode cL_law 220 = .ok (.aload_n 2, 1) := by decide +kernel
theorem dL_law_221 : decode cL_law 221 = .ok (.aload_n 0, 1) := by decide +kernel
theorem dL_law_222 : decode cL_law 222 = .ok (.iload_n 3, 1) := by decide +kernel
theorem dL_law_223 : decode cL_law 223 = .ok (.iconst 1, 1) := by decide +kernel
theorem dL_law_224 : decode cL_law 224 = .ok (.iadd, 1) := by decide +kernel
theorem dL_law_225 : decode cL_law 225 = .ok (.iaload, 1) := by decide +kernel
theorem dL_law_226 : decode cL_law 226 = .ok (.invokevirtual 22, 3) := by decide +kernel
theorem dL_law_229 : decode cL_law 229 = .ok (.if_icmp .eq 730, 3) := by decide +kernel
theorem dL_law_232 : decode cL_law 232 = .ok (.iconst 0, 1) := by decide +kernel
theorem dL_law_233 : decode cL_law 233 = .ok (.ireturn, 1) := by decide +kernel
theorem dL_law_234 : decode cL_law 234 = .ok (.aload_n 1, 1) := by decide +kernel
theorem dL_law_235 : decode cL_law 235 = .ok (.aload_n 0, 1) := by decide +kernel
theorem dL_law_236 : decode cL_law 236 = .ok (.iload_n 3, 1) := by decide +kernel
theorem dL_law_237 : decode cL_law 237 = .ok (.iconst 1, 1) := by decide +kernel
theorem dL_law_238 : decode cL_law 238 = .ok (.iadd, 1) := by decide +kernel
theorem dL_law_239 : decode cL_law 239 = .ok (.iaload, 1) := by decide +kernel
theorem dL_law_240 : decode cL_law 240 = .ok (.aload_n 0, 1) := by decide +kernel
theorem dL_law_241 : decode cL_law 241 = .ok (.iload_n 3, 1) := by decide +kernel
theorem dL_law_242 : decode cL_law 242 = .ok (.iconst 2, 1) := by decide +kernel
theorem dL_law_243 : decode cL_law 243 = .ok (.iadd, 1) := by decide +kernel
theorem dL_law_244 : decode cL_law 244 = .ok (.iaload, 1) := by decide +kernel
theorem dL_law_245 : decode cL_law 245 = .ok (.invokevirtual 23, 3) := by decide +kernel
theorem dL_law_248 : decode cL_law 248 = .ok (.aload_n 2, 1) := by decide +kernel
theorem dL_law_249 : decode cL_law 249 = .ok (.aload_n 0, 1) := by decide +kernel
theorem dL_law_250 : decode cL_law 250 = .ok (.iload_n 3, 1) := by decide +kernel
theorem dL_law_251 : decode cL_law 251 = .ok (.iconst 1, 1) := by decide +kernel
theorem dL_law_252 : decode cL_law 252 = .ok (.iadd, 1) := by decide +kernel
theorem dL_law_253 : decode cL_law 253 = .ok (.iaload, 1) := by decide +kernel
theorem dL_law_254 : decode cL_law 254 = .ok (.aload_n 0, 1) := by decide +kernel
theorem dL_law_255 : decode cL_law 255 = .ok (.iload_n 3, 1) := by decide +kernel
theorem dL_law_256 : decode cL_law 256 = .ok (.iconst 2, 1) := by decide +kernel
theorem dL_law_257 : decode cL_law 257 = .ok (.iadd, 1) := by decide +kernel
theorem dL_law_258 : decode cL_law 258 = .ok (.iaload, 1) := by decide +kernel
theorem dL_law_259 : decode cL_law 259 = .ok (.invokevirtual 27, 3) := by decide +kernel
theorem dL_law_262 : decode cL_law 262 = .ok (.if_icmp .eq 697, 3) := by decide +kernel
theorem dL_law_265 : decode cL_law 265 = .ok (.iconst 0, 1) := by decide +kernel
theorem dL_law_266 : decode cL_law 266 = .ok (.ireturn, 1) := by decide +kernel
theorem dL_law_267 : decode cL_law 267 = .ok (.aload_n 1, 1) := by decide +kernel
theorem dL_law_268 : decode cL_law 268 = .ok (.aload_n 0, 1) := by decide +kernel
theorem dL_law_269 : decode cL_law 269 = .ok (.iload_n 3, 1) := by decide +kernel
theorem dL_law_270 : decode cL_law 270 = .ok (.iconst 1, 1) := by decide +kernel
theorem dL_law_271 : decode cL_law 271 = .ok (.iadd, 1) := by decide +kernel
theorem dL_law_272 : decode cL_law 272 = .ok (.iaload, 1) := by decide +kernel
theorem dL_law_273 : decode cL_law 273 = .ok (.invokevirtual 28, 3) := by decide +kernel
theorem dL_law_276 : decode cL_law 276 = .ok (.aload_n 2, 1) := by decide +kernel
theorem dL_law_277 : decode cL_law 277 = .ok (.aload_n 0, 1) := by decide +kernel
theorem dL_law_278 : decode cL_law 278 = .ok (.iload_n 3, 1) := by decide +kernel
theorem dL_law_279 : decode cL_law 279 = .ok (.iconst 1, 1) := by decide +kernel
theorem dL_law_280 : decode cL_law 280 = .ok (.iadd, 1) := by decide +kernel
theorem dL_law_281 : decode cL_law 281 = .ok (.iaload, 1) := by decide +kernel
theorem dL_law_282 : decode cL_law 282 = .ok (.invokevirtual 31, 3) := by decide +kernel
theorem dL_law_285 : decode cL_law 285 = .ok (.if_icmp .eq 674, 3) := by decide +kernel
theorem dL_law_288 : decode cL_law 288 = .ok (.iconst 0, 1) := by decide +kernel
theorem dL_law_289 : decode cL_law 289 = .ok (.ireturn, 1) := by decide +kernel
theorem dL_law_290 : decode cL_law 290 = .ok (.aload_n 1, 1) := by decide +kernel
theorem dL_law_291 : decode cL_law 291 = .ok (.invokevirtual 32, 3) := by decide +kernel
theorem dL_law_294 : decode cL_law 294 = .ok (.aload_n 2, 1) := by decide +kernel
theorem dL_law_295 : decode cL_law 295 = .ok (.invokevirtual 36, 3) := by decide +kernel
theorem dL_law_298 : decode cL_law 298 = .ok (.if_icmp .eq 661, 3) := by decide +kernel
theorem dL_law_301 : decode cL_law 301 = .ok (.iconst 0, 1) := by decide +kernel
theorem dL_law_302 : decode cL_law 302 = .ok (.ireturn, 1) := by decide +kernel
theorem dL_law_303 : decode cL_law 303 = .ok (.aload_n 1, 1) := by decide +kernel
theorem dL_law_304 : decode cL_law 304 = .ok (.invokevirtual 37, 3) := by decide +kernel
theorem dL_law_307 : decode cL_law 307 = .ok (.aload_n 2, 1) := by decide +kernel
theorem dL_law_308 : decode cL_law 308 = .ok (.invokevirtual 40, 3) := by decide +kernel
theorem dL_law_311 : decode cL_law 311 = .ok (.if_icmp .eq 648, 3) := by decide +kernel
theorem dL_law_314 : decode cL_law 314 = .ok (.iconst 0, 1) := by decide +kernel
theorem dL_law_315 : decode cL_law 315 = .ok (.ireturn, 1) := by decide +kernel
theorem dL_law_316 : decode cL_law 316 = .ok (.aload_n 1, 1) := by decide +kernel
theorem dL_law_317 : decode cL_law 317 = .ok (.invokevirtual 41, 3) := by decide +kernel
theorem dL_law_320 : decode cL_law 320 = .ok (.aload_n 2, 1) := by decide +kernel
theorem dL_law_321 : decode cL_law 321 = .ok (.invokevirtual 44, 3) := by decide +kernel
theorem dL_law_324 : decode cL_law 324 = .ok (.if_icmp .eq 635, 3) := by decide +kernel
theorem dL_law_327 : decode cL_law 327 = .ok (.iconst 0, 1) := by decide +kernel
theorem dL_law_328 : decode cL_law 328 = .ok (.ireturn, 1) := by decide +kernel
theorem dL_law_329 : decode cL_law 329 = .ok (.aload_n 1, 1) := by decide +kernel
theorem dL_law_330 : decode cL_law 330 = .ok (.aload_n 0, 1) := by decide +kernel
theorem dL_law_331 : decode cL_law 331 = .ok (.iload_n 3, 1) := by decide +kernel
theorem dL_law_332 : decode cL_law 332 = .ok (.iconst 1, 1) := by decide +kernel
theorem dL_law_333 : decode cL_law 333 = .ok (.iadd, 1) := by decide +kernel
theorem dL_law_334 : decode cL_law 334 = .ok (.iaload, 1) := by decide +kernel
theorem dL_law_335 : decode cL_law 335 = .ok (.aload_n 0, 1) := by decide +kernel
theorem dL_law_336 : decode cL_law 336 = .ok (.iload_n 3, 1) := by decide +kernel
theorem dL_law_337 : decode cL_law 337 = .ok (.iconst 2, 1) := by decide +kernel
theorem dL_law_338 : decode cL_law 338 = .ok (.iadd, 1) := by decide +kernel
theorem dL_law_339 : decode cL_law 339 = .ok (.iaload, 1) := by decide +kernel
theorem dL_law_340 : decode cL_law 340 = .ok (.invokevirtual 45, 3) := by decide +kernel
theorem dL_law_343 : decode cL_law 343 = .ok (.aload_n 2, 1) := by decide +kernel
theorem dL_law_344 : decode cL_law 344 = .ok (.aload_n 0, 1) := by decide +kernel
theorem dL_law_345 : decode cL_law 345 = .ok (.iload_n 3, 1) := by decide +kernel
theorem dL_law_346 : decode cL_law 346 = .ok (.iconst 1, 1) := by decide +kernel
theorem dL_law_347 : decode cL_law 347 = .ok (.iadd, 1) := by decide +kernel
theorem dL_law_348 : decode cL_law 348 = .ok (.iaload, 1) := by decide +kernel
theorem dL_law_349 : decode cL_law 349 = .ok (.aload_n 0, 1) := by decide +kernel
theorem dL_law_350 : decode cL_law 350 = .ok (.iload_n 3, 1) := by decide +kernel
theorem dL_law_351 : decode cL_law 351 = .ok (.iconst 2, 1) := by decide +kernel
theorem dL_law_352 : decode cL_law 352 = .ok (.iadd, 1) := by decide +kernel
theorem dL_law_353 : decode cL_law 353 = .ok (.iaload, 1) := by decide +kernel
theorem dL_law_354 : decode cL_law 354 = .ok (.invokevirtual 48, 3) := by decide +kernel
theorem dL_law_357 : decode cL_law 357 = .ok (.if_icmp .eq 602, 3) := by decide +kernel
theorem dL_law_360 : decode cL_law 360 = .ok (.iconst 0, 1) := by decide +kernel
theorem dL_law_361 : decode cL_law 361 = .ok (.ireturn, 1) := by decide +kernel
theorem dL_law_362 : decode cL_law 362 = .ok (.aload_n 1, 1) := by decide +kernel
theorem dL_law_363 : decode cL_law 363 = .ok (.aload_n 0, 1) := by decide +kernel
theorem dL_law_364 : decode cL_law 364 = .ok (.iload_n 3, 1) := by decide +kernel
theorem dL_law_365 : decode cL_law 365 = .ok (.iconst 1, 1) := by decide +kernel
theorem dL_law_366 : decode cL_law 366 = .ok (.iadd, 1) := by decide +kernel
theorem dL_law_367 : decode cL_law 367 = .ok (.iaload, 1) := by decide +kernel
theorem dL_law_368 : decode cL_law 368 = .ok (.invokevirtual 49, 3) := by decide +kernel
theorem dL_law_371 : decode cL_law 371 = .ok (.aload_n 2, 1) := by decide +kernel
theorem dL_law_372 : decode cL_law 372 = .ok (.aload_n 0, 1) := by decide +kernel
theorem dL_law_373 : decode cL_law 373 = .ok (.iload_n 3, 1) := by decide +kernel
theorem dL_law_374 : decode cL_law 374 = .ok (.iconst 1, 1) := by decide +kernel
theorem dL_law_375 : decode cL_law 375 = .ok (.iadd, 1) := by decide +kernel
theorem dL_law_376 : decode cL_law 376 = .ok (.iaload, 1) := by decide +kernel
theorem dL_law_377 : decode cL_law 377 = .ok (.invokevirtual 52, 3) := by decide +kernel
theorem dL_law_380 : decode cL_law 380 = .ok (.if_icmp .eq 579, 3) := by decide +kernel
theorem dL_law_383 : decode cL_law 383 = .ok (.iconst 0, 1) := by decide +kernel
theorem dL_law_384 : decode cL_law 384 = .ok (.ireturn, 1) := by decide +kernel
theorem dL_law_385 : decode cL_law 385 = .ok (.aload_n 1, 1) := by decide +kernel
theorem dL_law_386 : decode cL_law 386 = .ok (.aload_n 0, 1) := by decide +kernel
theorem dL_law_387 : decode cL_law 387 = .ok (.iload_n 3, 1) := by decide +kernel
theorem dL_law_388 : decode cL_law 388 = .ok (.iconst 1, 1) := by decide +kernel
theorem dL_law_389 : decode cL_law 389 = .ok (.iadd, 1) := by decide +kernel
theorem dL_law_390 : decode cL_law 390 = .ok (.iaload, 1) := by decide +kernel
theorem dL_law_391 : decode cL_law 391 = .ok (.aload_n 0, 1) := by decide +kernel
theorem dL_law_392 : decode cL_law 392 = .ok (.iload_n 3, 1) := by decide +kernel
theorem dL_law_393 : decode cL_law 393 = .ok (.iconst 2, 1) := by decide +kernel
theorem dL_law_394 : decode cL_law 394 = .ok (.iadd, 1) := by decide +kernel
theorem dL_law_395 : decode cL_law 395 = .ok (.iaload, 1) := by decide +kernel
theorem dL_law_396 : decode cL_law 396 = .ok (.aload_n 0, 1) := by decide +kernel
theorem dL_law_397 : decode cL_law 397 = .ok (.iload_n 3, 1) := by decide +kernel
theorem dL_law_398 : decode cL_law 398 = .ok (.iconst 3, 1) := by decide +kernel
theorem dL_law_399 : decode cL_law 399 = .ok (.iadd, 1) := by decide +kernel
theorem dL_law_400 : decode cL_law 400 = .ok (.iaload, 1) := by decide +kernel
theorem dL_law_401 : decode cL_law 401 = .ok (.aload_n 0, 1) := by decide +kernel
theorem dL_law_402 : decode cL_law 402 = .ok (.iload_n 3, 1) := by decide +kernel
theorem dL_law_403 : decode cL_law 403 = .ok (.iconst 4, 1) := by decide +kernel
theorem dL_law_404 : decode cL_law 404 = .ok (.iadd, 1) := by decide +kernel
theorem dL_law_405 : decode cL_law 405 = .ok (.iaload, 1) := by decide +kernel
theorem dL_law_406 : decode cL_law 406 = .ok (.invokevirtual 53, 3) := by decide +kernel
theorem dL_law_409 : decode cL_law 409 = .ok (.aload_n 2, 1) := by decide +kernel
theorem dL_law_410 : decode cL_law 410 = .ok (.aload_n 0, 1) := by decide +kernel
theorem dL_law_411 : decode cL_law 411 = .ok (.iload_n 3, 1) := by decide +kernel
theorem dL_law_412 : decode cL_law 412 = .ok (.iconst 1, 1) := by decide +kernel
theorem dL_law_413 : decode cL_law 413 = .ok (.iadd, 1) := by decide +kernel
theorem dL_law_414 : decode cL_law 414 = .ok (.iaload, 1) := by decide +kernel
theorem dL_law_415 : decode cL_law 415 = .ok (.aload_n 0, 1) := by decide +kernel
theorem dL_law_416 : decode cL_law 416 = .ok (.iload_n 3, 1) := by decide +kernel
theorem dL_law_417 : decode cL_law 417 = .ok (.iconst 2, 1) := by decide +kernel
theorem dL_law_418 : decode cL_law 418 = .ok (.iadd, 1) := by decide +kernel
theorem dL_law_419 : decode cL_law 419 = .ok (.iaload, 1) := by decide +kernel
theorem dL_law_420 : decode cL_law 420 = .ok (.aload_n 0, 1) := by decide +kernel
theorem dL_law_421 : decode cL_law 421 = .ok (.iload_n 3, 1) := by decide +kernel
theorem dL_law_422 : decode cL_law 422 = .ok (.iconst 3, 1) := by decide +kernel
theorem dL_law_423 : decode cL_law 423 = .ok (.iadd, 1) := by decide +kernel
theorem dL_law_424 : decode cL_law 424 = .ok (.iaload, 1) := by decide +kernel
theorem dL_law_425 : decode cL_law 425 = .ok (.aload_n 0, 1) := by decide +kernel
theorem dL_law_426 : decode cL_law 426 = .ok (.iload_n 3, 1) := by decide +kernel
theorem dL_law_427 : decode cL_law 427 = .ok (.iconst 4, 1) := by decide +kernel
theorem dL_law_428 : decode cL_law 428 = .ok (.iadd, 1) := by decide +kernel
theorem dL_law_429 : decode cL_law 429 = .ok (.iaload, 1) := by decide +kernel
theorem dL_law_430 : decode cL_law 430 = .ok (.invokevirtual 57, 3) := by decide +kernel
theorem dL_law_433 : decode cL_law 433 = .ok (.if_icmp .eq 526, 3) := by decide +kernel
theorem dL_law_436 : decode cL_law 436 = .ok (.iconst 0, 1) := by decide +kernel
theorem dL_law_437 : decode cL_law 437 = .ok (.ireturn, 1) := by decide +kernel
theorem dL_law_438 : decode cL_law 438 = .ok (.aload_n 1, 1) := by decide +kernel
theorem dL_law_439 : decode cL_law 439 = .ok (.aload_n 0, 1) := by decide +kernel
theorem dL_law_440 : decode cL_law 440 = .ok (.iload_n 3, 1) := by decide +kernel
theorem dL_law_441 : decode cL_law 441 = .ok (.iconst 1, 1) := by decide +kernel
theorem dL_law_442 : decode cL_law 442 = .ok (.iadd, 1) := by decide +kernel
theorem dL_law_443 : decode cL_law 443 = .ok (.iaload, 1) := by decide +kernel
theorem dL_law_444 : decode cL_law 444 = .ok (.invokevirtual 58, 3) := by decide +kernel
theorem dL_law_447 : decode cL_law 447 = .ok (.aload_n 2, 1) := by decide +kernel
theorem dL_law_448 : decode cL_law 448 = .ok (.aload_n 0, 1) := by decide +kernel
theorem dL_law_449 : decode cL_law 449 = .ok (.iload_n 3, 1) := by decide +kernel
theorem dL_law_450 : decode cL_law 450 = .ok (.iconst 1, 1) := by decide +kernel
theorem dL_law_451 : decode cL_law 451 = .ok (.iadd, 1) := by decide +kernel
theorem dL_law_452 : decode cL_law 452 = .ok (.iaload, 1) := by decide +kernel
theorem dL_law_453 : decode cL_law 453 = .ok (.invokevirtual 61, 3) := by decide +kernel
theorem dL_law_456 : decode cL_law 456 = .ok (.if_icmp .eq 503, 3) := by decide +kernel
theorem dL_law_459 : decode cL_law 459 = .ok (.iconst 0, 1) := by decide +kernel
theorem dL_law_460 : decode cL_law 460 = .ok (.ireturn, 1) := by decide +kernel
theorem dL_law_461 : decode cL_law 461 = .ok (.aload_n 1, 1) := by decide +kernel
theorem dL_law_462 : decode cL_law 462 = .ok (.aload_n 0, 1) := by decide +kernel
theorem dL_law_463 : decode cL_law 463 = .ok (.iload_n 3, 1) := by decide +kernel
theorem dL_law_464 : decode cL_law 464 = .ok (.iconst 1, 1) := by decide +kernel
theorem dL_law_465 : decode cL_law 465 = .ok (.iadd, 1) := by decide +kernel
theorem dL_law_466 : decode cL_law 466 = .ok (.iaload, 1) := by decide +kernel
theorem dL_law_467 : decode cL_law 467 = .ok (.aload_n 0, 1) := by decide +kernel
theorem dL_law_468 : decode cL_law 468 = .ok (.iload_n 3, 1) := by decide +kernel
theorem dL_law_469 : decode cL_law 469 = .ok (.iconst 2, 1) := by decide +kernel
theorem dL_law_470 : decode cL_law 470 = .ok (.iadd, 1) := by decide +kernel
theorem dL_law_471 : decode cL_law 471 = .ok (.iaload, 1) := by decide +kernel
theorem dL_law_472 : decode cL_law 472 = .ok (.invokevirtual 62, 3) := by decide +kernel
theorem dL_law_475 : decode cL_law 475 = .ok (.aload_n 2, 1) := by decide +kernel
theorem dL_law_476 : decode cL_law 476 = .ok (.aload_n 0, 1) := by decide +kernel
theorem dL_law_477 : decode cL_law 477 = .ok (.iload_n 3, 1) := by decide +kernel
theorem dL_law_478 : decode cL_law 478 = .ok (.iconst 1, 1) := by decide +kernel
theorem dL_law_479 : decode cL_law 479 = .ok (.iadd, 1) := by decide +kernel
theorem dL_law_480 : decode cL_law 480 = .ok (.iaload, 1) := by decide +kernel
theorem dL_law_481 : decode cL_law 481 = .ok (.aload_n 0, 1) := by decide +kernel
theorem dL_law_482 : decode cL_law 482 = .ok (.iload_n 3, 1) := by decide +kernel
theorem dL_law_483 : decode cL_law 483 = .ok (.iconst 2, 1) := by decide +kernel
theorem dL_law_484 : decode cL_law 484 = .ok (.iadd, 1) := by decide +kernel
theorem dL_law_485 : decode cL_law 485 = .ok (.iaload, 1) := by decide +kernel
theorem dL_law_486 : decode cL_law 486 = .ok (.invokevirtual 65, 3) := by decide +kernel
theorem dL_law_489 : decode cL_law 489 = .ok (.if_icmp .eq 470, 3) := by decide +kernel
theorem dL_law_492 : decode cL_law 492 = .ok (.iconst 0, 1) := by decide +kernel
theorem dL_law_493 : decode cL_law 493 = .ok (.ireturn, 1) := by decide +kernel
theorem dL_law_494 : decode cL_law 494 = .ok (.aload_n 1, 1) := by decide +kernel
theorem dL_law_495 : decode cL_law 495 = .ok (.aload_n 0, 1) := by decide +kernel
theorem dL_law_496 : decode cL_law 496 = .ok (.iload_n 3, 1) := by decide +kernel
theorem dL_law_497 : decode cL_law 497 = .ok (.iconst 1, 1) := by decide +kernel
theorem dL_law_498 : decode cL_law 498 = .ok (.iadd, 1) := by decide +kernel
theorem dL_law_499 : decode cL_law 499 = .ok (.iaload, 1) := by decide +kernel
theorem dL_law_500 : decode cL_law 500 = .ok (.aload_n 0, 1) := by decide +kernel
theorem dL_law_501 : decode cL_law 501 = .ok (.iload_n 3, 1) := by decide +kernel
theorem dL_law_502 : decode cL_law 502 = .ok (.iconst 2, 1) := by decide +kernel
theorem dL_law_503 : decode cL_law 503 = .ok (.iadd, 1) := by decide +kernel
theorem dL_law_504 : decode cL_law 504 = .ok (.iaload, 1) := by decide +kernel
theorem dL_law_505 : decode cL_law 505 = .ok (.invokevirtual 66, 3) := by decide +kernel
theorem dL_law_508 : decode cL_law 508 = .ok (.aload_n 2, 1) := by decide +kernel
theorem dL_law_509 : decode cL_law 509 = .ok (.aload_n 0, 1) := by decide +kernel
theorem dL_law_510 : decode cL_law 510 = .ok (.iload_n 3, 1) := by decide +kernel
theorem dL_law_511 : decode cL_law 511 = .ok (.iconst 1, 1) := by decide +kernel
theorem dL_law_512 : decode cL_law 512 = .ok (.iadd, 1) := by decide +kernel
theorem dL_law_513 : decode cL_law 513 = .ok (.iaload, 1) := by decide +kernel
theorem dL_law_514 : decode cL_law 514 = .ok (.aload_n 0, 1) := by decide +kernel
theorem dL_law_515 : decode cL_law 515 = .ok (.iload_n 3, 1) := by decide +kernel
theorem dL_law_516 : decode cL_law 516 = .ok (.iconst 2, 1) := by decide +kernel
theorem dL_law_517 : decode cL_law 517 = .ok (.iadd, 1) := by decide +kernel
theorem dL_law_518 : decode cL_law 518 = .ok (.iaload, 1) := by decide +kernel
theorem dL_law_519 : decode cL_law 519 = .ok (.invokevirtual 69, 3) := by decide +kernel
theorem dL_law_522 : decode cL_law 522 = .ok (.if_icmp .eq 437, 3) := by decide +kernel
theorem dL_law_525 : decode cL_law 525 = .ok (.iconst 0, 1) := by decide +kernel
theorem dL_law_526 : decode cL_law 526 = .ok (.ireturn, 1) := by decide +kernel
theorem dL_law_527 : decode cL_law 527 = .ok (.aload_n 1, 1) := by decide +kernel
theorem dL_law_528 : decode cL_law 528 = .ok (.aload_n 0, 1) := by decide +kernel
theorem dL_law_529 : decode cL_law 529 = .ok (.iload_n 3, 1) := by decide +kernel
theorem dL_law_530 : decode cL_law 530 = .ok (.iconst 1, 1) := by decide +kernel
theorem dL_law_531 : decode cL_law 531 = .ok (.iadd, 1) := by decide +kernel
theorem dL_law_532 : decode cL_law 532 = .ok (.iaload, 1) := by decide +kernel
theorem dL_law_533 : decode cL_law 533 = .ok (.aload_n 0, 1) := by decide +kernel
theorem dL_law_534 : decode cL_law 534 = .ok (.iload_n 3, 1) := by decide +kernel
theorem dL_law_535 : decode cL_law 535 = .ok (.iconst 2, 1) := by decide +kernel
theorem dL_law_536 : decode cL_law 536 = .ok (.iadd, 1) := by decide +kernel
theorem dL_law_537 : decode cL_law 537 = .ok (.iaload, 1) := by decide +kernel
theorem dL_law_538 : decode cL_law 538 = .ok (.invokevirtual 70, 3) := by decide +kernel
theorem dL_law_541 : decode cL_law 541 = .ok (.aload_n 2, 1) := by decide +kernel
theorem dL_law_542 : decode cL_law 542 = .ok (.aload_n 0, 1) := by decide +kernel
theorem dL_law_543 : decode cL_law 543 = .ok (.iload_n 3, 1) := by decide +kernel
theorem dL_law_544 : decode cL_law 544 = .ok (.iconst 1, 1) := by decide +kernel
theorem dL_law_545 : decode cL_law 545 = .ok (.iadd, 1) := by decide +kernel
theorem dL_law_546 : decode cL_law 546 = .ok (.iaload, 1) := by decide +kernel
theorem dL_law_547 : decode cL_law 547 = .ok (.aload_n 0, 1) := by decide +kernel
theorem dL_law_548 : decode cL_law 548 = .ok (.iload_n 3, 1) := by decide +kernel
theorem dL_law_549 : decode cL_law 549 = .ok (.iconst 2, 1) := by decide +kernel
theorem dL_law_550 : decode cL_law 550 = .ok (.iadd, 1) := by decide +kernel
theorem dL_law_551 : decode cL_law 551 = .ok (.iaload, 1) := by decide +kernel
theorem dL_law_552 : decode cL_law 552 = .ok (.invokevirtual 73, 3) := by decide +kernel
theorem dL_law_555 : decode cL_law 555 = .ok (.if_icmp .eq 404, 3) := by decide +kernel
theorem dL_law_558 : decode cL_law 558 = .ok (.iconst 0, 1) := by decide +kernel
theorem dL_law_559 : decode cL_law 559 = .ok (.ireturn, 1) := by decide +kernel
theorem dL_law_560 : decode cL_law 560 = .ok (.aload_n 1, 1) := by decide +kernel
theorem dL_law_561 : decode cL_law 561 = .ok (.aload_n 0, 1) := by decide +kernel
theorem dL_law_562 : decode cL_law 562 = .ok (.iload_n 3, 1) := by decide +kernel
theorem dL_law_563 : decode cL_law 563 = .ok (.iconst 1, 1) := by decide +kernel
theorem dL_law_564 : decode cL_law 564 = .ok (.iadd, 1) := by decide +kernel
theorem dL_law_565 : decode cL_law 565 = .ok (.iaload, 1) := by decide +kernel
theorem dL_law_566 : decode cL_law 566 = .ok (.aload_n 0, 1) := by decide +kernel
theorem dL_law_567 : decode cL_law 567 = .ok (.iload_n 3, 1) := by decide +kernel
theorem dL_law_568 : decode cL_law 568 = .ok (.iconst 2, 1) := by decide +kernel
theorem dL_law_569 : decode cL_law 569 = .ok (.iadd, 1) := by decide +kernel
theorem dL_law_570 : decode cL_law 570 = .ok (.iaload, 1) := by decide +kernel
theorem dL_law_571 : decode cL_law 571 = .ok (.aload_n 0, 1) := by decide +kernel
theorem dL_law_572 : decode cL_law 572 = .ok (.iload_n 3, 1) := by decide +kernel
theorem dL_law_573 : decode cL_law 573 = .ok (.iconst 3, 1) := by decide +kernel
theorem dL_law_574 : decode cL_law 574 = .ok (.iadd, 1) := by decide +kernel
theorem dL_law_575 : decode cL_law 575 = .ok (.iaload, 1) := by decide +kernel
theorem dL_law_576 : decode cL_law 576 = .ok (.aload_n 0, 1) := by decide +kernel
theorem dL_law_577 : decode cL_law 577 = .ok (.iload_n 3, 1) := by decide +kernel
theorem dL_law_578 : decode cL_law 578 = .ok (.iconst 4, 1) := by decide +kernel
theorem dL_law_579 : decode cL_law 579 = .ok (.iadd, 1) := by decide +kernel
theorem dL_law_580 : decode cL_law 580 = .ok (.iaload, 1) := by decide +kernel
theorem dL_law_581 : decode cL_law 581 = .ok (.invokevirtual 74, 3) := by decide +kernel
theorem dL_law_584 : decode cL_law 584 = .ok (.aload_n 2, 1) := by decide +kernel
theorem dL_law_585 : decode cL_law 585 = .ok (.aload_n 0, 1) := by decide +kernel
theorem dL_law_586 : decode cL_law 586 = .ok (.iload_n 3, 1) := by decide +kernel
theorem dL_law_587 : decode cL_law 587 = .ok (.iconst 1, 1) := by decide +kernel
theorem dL_law_588 : decode cL_law 588 = .ok (.iadd, 1) := by decide +kernel
theorem dL_law_589 : decode cL_law 589 = .ok (.iaload, 1) := by decide +kernel
theorem dL_law_590 : decode cL_law 590 = .ok (.aload_n 0, 1) := by decide +kernel
theorem dL_law_591 : decode cL_law 591 = .ok (.iload_n 3, 1) := by decide +kernel
theorem dL_law_592 : decode cL_law 592 = .ok (.iconst 2, 1) := by decide +kernel
theorem dL_law_593 : decode cL_law 593 = .ok (.iadd, 1) := by decide +kernel
theorem dL_law_594 : decode cL_law 594 = .ok (.iaload, 1) := by decide +kernel
theorem dL_law_595 : decode cL_law 595 = .ok (.aload_n 0, 1) := by decide +kernel
theorem dL_law_596 : decode cL_law 596 = .ok (.iload_n 3, 1) := by decide +kernel
theorem dL_law_597 : decode cL_law 597 = .ok (.iconst 3, 1) := by decide +kernel
theorem dL_law_598 : decode cL_law 598 = .ok (.iadd, 1) := by decide +kernel
theorem dL_law_599 : decode cL_law 599 = .ok (.iaload, 1) := by decide +kernel
theorem dL_law_600 : decode cL_law 600 = .ok (.aload_n 0, 1) := by decide +kernel
theorem dL_law_601 : decode cL_law 601 = .ok (.iload_n 3, 1) := by decide +kernel
theorem dL_law_602 : decode cL_law 602 = .ok (.iconst 4, 1) := by decide +kernel
theorem dL_law_603 : decode cL_law 603 = .ok (.iadd, 1) := by decide +kernel
theorem dL_law_604 : decode cL_law 604 = .ok (.iaload, 1) := by decide +kernel
theorem dL_law_605 : decode cL_law 605 = .ok (.invokevirtual 77, 3) := by decide +kernel
theorem dL_law_608 : decode cL_law 608 = .ok (.if_icmp .eq 351, 3) := by decide +kernel
theorem dL_law_611 : decode cL_law 611 = .ok (.iconst 0, 1) := by decide +kernel
theorem dL_law_612 : decode cL_law 612 = .ok (.ireturn, 1) := by decide +kernel
theorem dL_law_613 : decode cL_law 613 = .ok (.aload_n 1, 1) := by decide +kernel
theorem dL_law_614 : decode cL_law 614 = .ok (.aload_n 0, 1) := by decide +kernel
theorem dL_law_615 : decode cL_law 615 = .ok (.iload_n 3, 1) := by decide +kernel
theorem dL_law_616 : decode cL_law 616 = .ok (.iconst 1, 1) := by decide +kernel
theorem dL_law_617 : decode cL_law 617 = .ok (.iadd, 1) := by decide +kernel
theorem dL_law_618 : decode cL_law 618 = .ok (.iaload, 1) := by decide +kernel
theorem dL_law_619 : decode cL_law 619 = .ok (.aload_n 0, 1) := by decide +kernel
theorem dL_law_620 : decode cL_law 620 = .ok (.iload_n 3, 1) := by decide +kernel
theorem dL_law_621 : decode cL_law 621 = .ok (.iconst 2, 1) := by decide +kernel
theorem dL_law_622 : decode cL_law 622 = .ok (.iadd, 1) := by decide +kernel
theorem dL_law_623 : decode cL_law 623 = .ok (.iaload, 1) := by decide +kernel
theorem dL_law_624 : decode cL_law 624 = .ok (.invokevirtual 78, 3) := by decide +kernel
theorem dL_law_627 : decode cL_law 627 = .ok (.aload_n 2, 1) := by decide +kernel
theorem dL_law_628 : decode cL_law 628 = .ok (.aload_n 0, 1) := by decide +kernel
theorem dL_law_629 : decode cL_law 629 = .ok (.iload_n 3, 1) := by decide +kernel
theorem dL_law_630 : decode cL_law 630 = .ok (.iconst 1, 1) := by decide +kernel
theorem dL_law_631 : decode cL_law 631 = .ok (.iadd, 1) := by decide +kernel
theorem dL_law_632 : decode cL_law 632 = .ok (.iaload, 1) := by decide +kernel
theorem dL_law_633 : decode cL_law 633 = .ok (.aload_n 0, 1) := by decide +kernel
theorem dL_law_634 : decode cL_law 634 = .ok (.iload_n 3, 1) := by decide +kernel
theorem dL_law_635 : decode cL_law 635 = .ok (.iconst 2, 1) := by decide +kernel
theorem dL_law_636 : decode cL_law 636 = .ok (.iadd, 1) := by decide +kernel
theorem dL_law_637 : decode cL_law 637 = .ok (.iaload, 1) := by decide +kernel
theorem dL_law_638 : decode cL_law 638 = .ok (.invokevirtual 81, 3) := by decide +kernel
theorem dL_law_641 : decode cL_law 641 = .ok (.if_icmp .eq 318, 3) := by decide +kernel
theorem dL_law_644 : decode cL_law 644 = .ok (.iconst 0, 1) := by decide +kernel
theorem dL_law_645 : decode cL_law 645 = .ok (.ireturn, 1) := by decide +kernel
theorem dL_law_646 : decode cL_law 646 = .ok (.aload_n 1, 1) := by decide +kernel
theorem dL_law_647 : decode cL_law 647 = .ok (.invokevirtual 82, 3) := by decide +kernel
theorem dL_law_650 : decode cL_law 650 = .ok (.aload_n 2, 1) := by decide +kernel
theorem dL_law_651 : decode cL_law 651 = .ok (.invokevirtual 85, 3) := by decide +kernel
theorem dL_law_654 : decode cL_law 654 = .ok (.if_icmp .eq 305, 3) := by decide +kernel
theorem dL_law_657 : decode cL_law 657 = .ok (.iconst 0, 1) := by decide +kernel
theorem dL_law_658 : decode cL_law 658 = .ok (.ireturn, 1) := by decide +kernel
theorem dL_law_659 : decode cL_law 659 = .ok (.aload_n 1, 1) := by decide +kernel
theorem dL_law_660 : decode cL_law 660 = .ok (.aload_n 0, 1) := by decide +kernel
theorem dL_law_661 : decode cL_law 661 = .ok (.iload_n 3, 1) := by decide +kernel
theorem dL_law_662 : decode cL_law 662 = .ok (.iconst 1, 1) := by decide +kernel
theorem dL_law_663 : decode cL_law 663 = .ok (.iadd, 1) := by decide +kernel
theorem dL_law_664 : decode cL_law 664 = .ok (.iaload, 1) := by decide +kernel
theorem dL_law_665 : decode cL_law 665 = .ok (.aload_n 0, 1) := by decide +kernel
theorem dL_law_666 : decode cL_law 666 = .ok (.iload_n 3, 1) := by decide +kernel
theorem dL_law_667 : decode cL_law 667 = .ok (.iconst 2, 1) := by decide +kernel
theorem dL_law_668 : decode cL_law 668 = .ok (.iadd, 1) := by decide +kernel
theorem dL_law_669 : decode cL_law 669 = .ok (.iaload, 1) := by decide +kernel
theorem dL_law_670 : decode cL_law 670 = .ok (.invokevirtual 86, 3) := by decide +kernel
theorem dL_law_673 : decode cL_law 673 = .ok (.aload_n 2, 1) := by decide +kernel
theorem dL_law_674 : decode cL_law 674 = .ok (.aload_n 0, 1) := by decide +kernel
theorem dL_law_675 : decode cL_law 675 = .ok (.iload_n 3, 1) := by decide +kernel
theorem dL_law_676 : decode cL_law 676 = .ok (.iconst 1, 1) := by decide +kernel
theorem dL_law_677 : decode cL_law 677 = .ok (.iadd, 1) := by decide +kernel
theorem dL_law_678 : decode cL_law 678 = .ok (.iaload, 1) := by decide +kernel
theorem dL_law_679 : decode cL_law 679 = .ok (.aload_n 0, 1) := by decide +kernel
theorem dL_law_680 : decode cL_law 680 = .ok (.iload_n 3, 1) := by decide +kernel
theorem dL_law_681 : decode cL_law 681 = .ok (.iconst 2, 1) := by decide +kernel
theorem dL_law_682 : decode cL_law 682 = .ok (.iadd, 1) := by decide +kernel
theorem dL_law_683 : decode cL_law 683 = .ok (.iaload, 1) := by decide +kernel
theorem dL_law_684 : decode cL_law 684 = .ok (.invokevirtual 89, 3) := by decide +kernel
theorem dL_law_687 : decode cL_law 687 = .ok (.if_icmp .eq 272, 3) := by decide +kernel
theorem dL_law_690 : decode cL_law 690 = .ok (.iconst 0, 1) := by decide +kernel
theorem dL_law_691 : decode cL_law 691 = .ok (.ireturn, 1) := by decide +kernel
theorem dL_law_692 : decode cL_law 692 = .ok (.aload_n 1, 1) := by decide +kernel
theorem dL_law_693 : decode cL_law 693 = .ok (.aload_n 0, 1) := by decide +kernel
theorem dL_law_694 : decode cL_law 694 = .ok (.iload_n 3, 1) := by decide +kernel
theorem dL_law_695 : decode cL_law 695 = .ok (.iconst 1, 1) := by decide +kernel
theorem dL_law_696 : decode cL_law 696 = .ok (.iadd, 1) := by decide +kernel
theorem dL_law_697 : decode cL_law 697 = .ok (.iaload, 1) := by decide +kernel
theorem dL_law_698 : decode cL_law 698 = .ok (.aload_n 0, 1) := by decide +kernel
theorem dL_law_699 : decode cL_law 699 = .ok (.iload_n 3, 1) := by decide +kernel
theorem dL_law_700 : decode cL_law 700 = .ok (.iconst 2, 1) := by decide +kernel
theorem dL_law_701 : decode cL_law 701 = .ok (.iadd, 1) := by decide +kernel
theorem dL_law_702 : decode cL_law 702 = .ok (.iaload, 1) := by decide +kernel
theorem dL_law_703 : decode cL_law 703 = .ok (.aload_n 0, 1) := by decide +kernel
theorem dL_law_704 : decode cL_law 704 = .ok (.iload_n 3, 1) := by decide +kernel
theorem dL_law_705 : decode cL_law 705 = .ok (.iconst 3, 1) := by decide +kernel
theorem dL_law_706 : decode cL_law 706 = .ok (.iadd, 1) := by decide +kernel
theorem dL_law_707 : decode cL_law 707 = .ok (.iaload, 1) := by decide +kernel
theorem dL_law_708 : decode cL_law 708 = .ok (.invokevirtual 90, 3) := by decide +kernel
theorem dL_law_711 : decode cL_law 711 = .ok (.aload_n 2, 1) := by decide +kernel
theorem dL_law_712 : decode cL_law 712 = .ok (.aload_n 0, 1) := by decide +kernel
theorem dL_law_713 : decode cL_law 713 = .ok (.iload_n 3, 1) := by decide +kernel
theorem dL_law_714 : decode cL_law 714 = .ok (.iconst 1, 1) := by decide +kernel
theorem dL_law_715 : decode cL_law 715 = .ok (.iadd, 1) := by decide +kernel
theorem dL_law_716 : decode cL_law 716 = .ok (.iaload, 1) := by decide +kernel
theorem dL_law_717 : decode cL_law 717 = .ok (.aload_n 0, 1) := by decide +kernel
theorem dL_law_718 : decode cL_law 718 = .ok (.iload_n 3, 1) := by decide +kernel
theorem dL_law_719 : decode cL_law 719 = .ok (.iconst 2, 1) := by decide +kernel
theorem dL_law_720 : decode cL_law 720 = .ok (.iadd, 1) := by decide +kernel
theorem dL_law_721 : decode cL_law 721 = .ok (.iaload, 1) := by decide +kernel
theorem dL_law_722 : decode cL_law 722 = .ok (.aload_n 0, 1) := by decide +kernel
theorem dL_law_723 : decode cL_law 723 = .ok (.iload_n 3, 1) := by decide +kernel
theorem dL_law_724 : decode cL_law 724 = .ok (.iconst 3, 1) := by decide +kernel
theorem dL_law_725 : decode cL_law 725 = .ok (.iadd, 1) := by decide +kernel
theorem dL_law_726 : decode cL_law 726 = .ok (.iaload, 1) := by decide +kernel
theorem dL_law_727 : decode cL_law 727 = .ok (.invokevirtual 93, 3) := by decide +kernel
theorem dL_law_730 : decode cL_law 730 = .ok (.if_icmp .eq 229, 3) := by decide +kernel
theorem dL_law_733 : decode cL_law 733 = .ok (.iconst 0, 1) := by decide +kernel
theorem dL_law_734 : decode cL_law 734 = .ok (.ireturn, 1) := by decide +kernel
theorem dL_law_735 : decode cL_law 735 = .ok (.aload_n 1, 1) := by decide +kernel
theorem dL_law_736 : decode cL_law 736 = .ok (.aload_n 0, 1) := by decide +kernel
theorem dL_law_737 : decode cL_law 737 = .ok (.iload_n 3, 1) := by decide +kernel
theorem dL_law_738 : decode cL_law 738 = .ok (.iconst 1, 1) := by decide +kernel
theorem dL_law_739 : decode cL_law 739 = .ok (.iadd, 1) := by decide +kernel
theorem dL_law_740 : decode cL_law 740 = .ok (.iaload, 1) := by decide +kernel
theorem dL_law_741 : decode cL_law 741 = .ok (.aload_n 0, 1) := by decide +kernel
theorem dL_law_742 : decode cL_law 742 = .ok (.iload_n 3, 1) := by decide +kernel
theorem dL_law_743 : decode cL_law 743 = .ok (.iconst 2, 1) := by decide +kernel
theorem dL_law_744 : decode cL_law 744 = .ok (.iadd, 1) := by decide +kernel
theorem dL_law_745 : decode cL_law 745 = .ok (.iaload, 1) := by decide +kernel
theorem dL_law_746 : decode cL_law 746 = .ok (.aload_n 0, 1) := by decide +kernel
theorem dL_law_747 : decode cL_law 747 = .ok (.iload_n 3, 1) := by decide +kernel
theorem dL_law_748 : decode cL_law 748 = .ok (.iconst 3, 1) := by decide +kernel
theorem dL_law_749 : decode cL_law 749 = .ok (.iadd, 1) := by decide +kernel
theorem dL_law_750 : decode cL_law 750 = .ok (.iaload, 1) := by decide +kernel
theorem dL_law_751 : decode cL_law 751 = .ok (.invokevirtual 94, 3) := by decide +kernel
theorem dL_law_754 : decode cL_law 754 = .ok (.aload_n 2, 1) := by decide +kernel
theorem dL_law_755 : decode cL_law 755 = .ok (.aload_n 0, 1) := by decide +kernel
theorem dL_law_756 : decode cL_law 756 = .ok (.iload_n 3, 1) := by decide +kernel
theorem dL_law_757 : decode cL_law 757 = .ok (.iconst 1, 1) := by decide +kernel
theorem dL_law_758 : decode cL_law 758 = .ok (.iadd, 1) := by decide +kernel
theorem dL_law_759 : decode cL_law 759 = .ok (.iaload, 1) := by decide +kernel
theorem dL_law_760 : decode cL_law 760 = .ok (.aload_n 0, 1) := by decide +kernel
theorem dL_law_761 : decode cL_law 761 = .ok (.iload_n 3, 1) := by decide +kernel
theorem dL_law_762 : decode cL_law 762 = .ok (.iconst 2, 1) := by decide +kernel
theorem dL_law_763 : decode cL_law 763 = .ok (.iadd, 1) := by decide +kernel
theorem dL_law_764 : decode cL_law 764 = .ok (.iaload, 1) := by decide +kernel
theorem dL_law_765 : decode cL_law 765 = .ok (.aload_n 0, 1) := by decide +kernel
theorem dL_law_766 : decode cL_law 766 = .ok (.iload_n 3, 1) := by decide +kernel
theorem dL_law_767 : decode cL_law 767 = .ok (.iconst 3, 1) := by decide +kernel
theorem dL_law_768 : decode cL_law 768 = .ok (.iadd, 1) := by decide +kernel
theorem dL_law_769 : decode cL_law 769 = .ok (.iaload, 1) := by decide +kernel
theorem dL_law_770 : decode cL_law 770 = .ok (.invokevirtual 97, 3) := by decide +kernel
theorem dL_law_773 : decode cL_law 773 = .ok (.if_icmp .eq 186, 3) := by decide +kernel
theorem dL_law_776 : decode cL_law 776 = .ok (.iconst 0, 1) := by decide +kernel
theorem dL_law_777 : decode cL_law 777 = .ok (.ireturn, 1) := by decide +kernel
theorem dL_law_778 : decode cL_law 778 = .ok (.aload_n 1, 1) := by decide +kernel
theorem dL_law_779 : decode cL_law 779 = .ok (.invokevirtual 98, 3) := by decide +kernel
theorem dL_law_782 : decode cL_law 782 = .ok (.aload_n 2, 1) := by decide +kernel
theorem dL_law_783 : decode cL_law 783 = .ok (.invokevirtual 101, 3) := by decide +kernel
theorem dL_law_786 : decode cL_law 786 = .ok (.if_icmp .eq 173, 3) := by decide +kernel
theorem dL_law_789 : decode cL_law 789 = .ok (.iconst 0, 1) := by decide +kernel
theorem dL_law_790 : decode cL_law 790 = .ok (.ireturn, 1) := by decide +kernel
theorem dL_law_791 : decode cL_law 791 = .ok (.aload_n 1, 1) := by decide +kernel
theorem dL_law_792 : decode cL_law 792 = .ok (.aload_n 0, 1) := by decide +kernel
theorem dL_law_793 : decode cL_law 793 = .ok (.iload_n 3, 1) := by decide +kernel
theorem dL_law_794 : decode cL_law 794 = .ok (.iconst 1, 1) := by decide +kernel
theorem dL_law_795 : decode cL_law 795 = .ok (.iadd, 1) := by decide +kernel
theorem dL_law_796 : decode cL_law 796 = .ok (.iaload, 1) := by decide +kernel
theorem dL_law_797 : decode cL_law 797 = .ok (.invokevirtual 102, 3) := by decide +kernel
theorem dL_law_800 : decode cL_law 800 = .ok (.aload_n 2, 1) := by decide +kernel
theorem dL_law_801 : decode cL_law 801 = .ok (.aload_n 0, 1) := by decide +kernel
theorem dL_law_802 : decode cL_law 802 = .ok (.iload_n 3, 1) := by decide +kernel
theorem dL_law_803 : decode cL_law 803 = .ok (.iconst 1, 1) := by decide +kernel
theorem dL_law_804 : decode cL_law 804 = .ok (.iadd, 1) := by decide +kernel
theorem dL_law_805 : decode cL_law 805 = .ok (.iaload, 1) := by decide +kernel
theorem dL_law_806 : decode cL_law 806 = .ok (.invokevirtual 105, 3) := by decide +kernel
theorem dL_law_809 : decode cL_law 809 = .ok (.if_icmp .eq 150, 3) := by decide +kernel
theorem dL_law_812 : decode cL_law 812 = .ok (.iconst 0, 1) := by decide +kernel
theorem dL_law_813 : decode cL_law 813 = .ok (.ireturn, 1) := by decide +kernel
theorem dL_law_814 : decode cL_law 814 = .ok (.aload_n 1, 1) := by decide +kernel
theorem dL_law_815 : decode cL_law 815 = .ok (.invokevirtual 106, 3) := by decide +kernel
theorem dL_law_818 : decode cL_law 818 = .ok (.aload_n 2, 1) := by decide +kernel
theorem dL_law_819 : decode cL_law 819 = .ok (.invokevirtual 109, 3) := by decide +kernel
theorem dL_law_822 : decode cL_law 822 = .ok (.if_icmp .eq 137, 3) := by decide +kernel
theorem dL_law_825 : decode cL_law 825 = .ok (.iconst 0, 1) := by decide +kernel
theorem dL_law_826 : decode cL_law 826 = .ok (.ireturn, 1) := by decide +kernel
theorem dL_law_827 : decode cL_law 827 = .ok (.aload_n 1, 1) := by decide +kernel
theorem dL_law_828 : decode cL_law 828 = .ok (.invokevirtual 110, 3) := by decide +kernel
theorem dL_law_831 : decode cL_law 831 = .ok (.aload_n 2, 1) := by decide +kernel
theorem dL_law_832 : decode cL_law 832 = .ok (.invokevirtual 113, 3) := by decide +kernel
theorem dL_law_835 : decode cL_law 835 = .ok (.if_icmp .eq 124, 3) := by decide +kernel
theorem dL_law_838 : decode cL_law 838 = .ok (.iconst 0, 1) := by decide +kernel
theorem dL_law_839 : decode cL_law 839 = .ok (.ireturn, 1) := by decide +kernel
theorem dL_law_840 : decode cL_law 840 = .ok (.aload_n 1, 1) := by decide +kernel
theorem dL_law_841 : decode cL_law 841 = .ok (.aload_n 0, 1) := by decide +kernel
theorem dL_law_842 : decode cL_law 842 = .ok (.iload_n 3, 1) := by decide +kernel
theorem dL_law_843 : decode cL_law 843 = .ok (.iconst 1, 1) := by decide +kernel
theorem dL_law_844 : decode cL_law 844 = .ok (.iadd, 1) := by decide +kernel
theorem dL_law_845 : decode cL_law 845 = .ok (.iaload, 1) := by decide +kernel
theorem dL_law_846 : decode cL_law 846 = .ok (.invokevirtual 114, 3) := by decide +kernel
theorem dL_law_849 : decode cL_law 849 = .ok (.aload_n 2, 1) := by decide +kernel
theorem dL_law_850 : decode cL_law 850 = .ok (.aload_n 0, 1) := by decide +kernel
theorem dL_law_851 : decode cL_law 851 = .ok (.iload_n 3, 1) := by decide +kernel
theorem dL_law_852 : decode cL_law 852 = .ok (.iconst 1, 1) := by decide +kernel
theorem dL_law_853 : decode cL_law 853 = .ok (.iadd, 1) := by decide +kernel
theorem dL_law_854 : decode cL_law 854 = .ok (.iaload, 1) := by decide +kernel
theorem dL_law_855 : decode cL_law 855 = .ok (.invokevirtual 117, 3) := by decide +kernel
theorem dL_law_858 : decode cL_law 858 = .ok (.if_icmp .eq 101, 3) := by decide +kernel
theorem dL_law_861 : decode cL_law 861 = .ok (.iconst 0, 1) := by decide +kernel
theorem dL_law_862 : decode cL_law 862 = .ok (.ireturn, 1) := by decide +kernel
theorem dL_law_863 : decode cL_law 863 = .ok (.aload_n 1, 1) := by decide +kernel
theorem dL_law_864 : decode cL_law 864 = .ok (.aload_n 0, 1) := by decide +kernel
theorem dL_law_865 : decode cL_law 865 = .ok (.iload_n 3, 1) := by decide +kernel
theorem dL_law_866 : decode cL_law 866 = .ok (.iconst 1, 1) := by decide +kernel
theorem dL_law_867 : decode cL_law 867 = .ok (.iadd, 1) := by decide +kernel
theorem dL_law_868 : decode cL_law 868 = .ok (.iaload, 1) := by decide +kernel
theorem dL_law_869 : decode cL_law 869 = .ok (.invokevirtual 118, 3) := by decide +kernel
theorem dL_law_872 : decode cL_law 872 = .ok (.aload_n 2, 1) := by decide +kernel
theorem dL_law_873 : decode cL_law 873 = .ok (.aload_n 0, 1) := by decide +kernel
theorem dL_law_874 : decode cL_law 874 = .ok (.iload_n 3, 1) := by decide +kernel
theorem dL_law_875 : decode cL_law 875 = .ok (.iconst 1, 1) := by decide +kernel
theorem dL_law_876 : decode cL_law 876 = .ok (.iadd, 1) := by decide +kernel
theorem dL_law_877 : decode cL_law 877 = .ok (.iaload, 1) := by decide +kernel
theorem dL_law_878 : decode cL_law 878 = .ok (.invokevirtual 121, 3) := by decide +kernel
theorem dL_law_881 : decode cL_law 881 = .ok (.if_icmp .eq 78, 3) := by decide +kernel
theorem dL_law_884 : decode cL_law 884 = .ok (.iconst 0, 1) := by decide +kernel
theorem dL_law_885 : decode cL_law 885 = .ok (.ireturn, 1) := by decide +kernel
theorem dL_law_886 : decode cL_law 886 = .ok (.aload_n 1, 1) := by decide +kernel
theorem dL_law_887 : decode cL_law 887 = .ok (.invokevirtual 122, 3) := by decide +kernel
theorem dL_law_890 : decode cL_law 890 = .ok (.aload_n 2, 1) := by decide +kernel
theorem dL_law_891 : decode cL_law 891 = .ok (.invokevirtual 125, 3) := by decide +kernel
theorem dL_law_894 : decode cL_law 894 = .ok (.if_icmp .eq 65, 3) := by decide +kernel
theorem dL_law_897 : decode cL_law 897 = .ok (.iconst 0, 1) := by decide +kernel
theorem dL_law_898 : decode cL_law 898 = .ok (.ireturn, 1) := by decide +kernel
theorem dL_law_899 : decode cL_law 899 = .ok (.aload_n 1, 1) := by decide +kernel
theorem dL_law_900 : decode cL_law 900 = .ok (.aload_n 0, 1) := by decide +kernel
theorem dL_law_901 : decode cL_law 901 = .ok (.iload_n 3, 1) := by decide +kernel
theorem dL_law_902 : decode cL_law 902 = .ok (.iconst 1, 1) := by decide +kernel
theorem dL_law_903 : decode cL_law 903 = .ok (.iadd, 1) := by decide +kernel
theorem dL_law_904 : decode cL_law 904 = .ok (.iaload, 1) := by decide +kernel
theorem dL_law_905 : decode cL_law 905 = .ok (.invokevirtual 126, 3) := by decide +kernel
theorem dL_law_908 : decode cL_law 908 = .ok (.aload_n 2, 1) := by decide +kernel
theorem dL_law_909 : decode cL_law 909 = .ok (.aload_n 0, 1) := by decide +kernel
theorem dL_law_910 : decode cL_law 910 = .ok (.iload_n 3, 1) := by decide +kernel
theorem dL_law_911 : decode cL_law 911 = .ok (.iconst 1, 1) := by decide +kernel
theorem dL_law_912 : decode cL_law 912 = .ok (.iadd, 1) := by decide +kernel
theorem dL_law_913 : decode cL_law 913 = .ok (.iaload, 1) := by decide +kernel
theorem dL_law_914 : decode cL_law 914 = .ok (.invokevirtual 129, 3) := by decide +kernel
theorem dL_law_917 : decode cL_law 917 = .ok (.if_icmp .eq 42, 3) := by decide +kernel
theorem dL_law_920 : decode cL_law 920 = .ok (.iconst 0, 1) := by decide +kernel
theorem dL_law_921 : decode cL_law 921 = .ok (.ireturn, 1) := by decide +kernel
theorem dL_law_922 : decode cL_law 922 = .ok (.aload_n 1, 1) := by decide +kernel
theorem dL_law_923 : decode cL_law 923 = .ok (.aload_n 0, 1) := by decide +kernel
theorem dL_law_924 : decode cL_law 924 = .ok (.iload_n 3, 1) := by decide +kernel
theorem dL_law_925 : decode cL_law 925 = .ok (.iconst 1, 1) := by decide +kernel
theorem dL_law_926 : decode cL_law 926 = .ok (.iadd, 1) := by decide +kernel
theorem dL_law_927 : decode cL_law 927 = .ok (.iaload, 1) := by decide +kernel
theorem dL_law_928 : decode cL_law 928 = .ok (.invokevirtual 130, 3) := by decide +kernel
theorem dL_law_931 : decode cL_law 931 = .ok (.aload_n 2, 1) := by decide +kernel
theorem dL_law_932 : decode cL_law 932 = .ok (.aload_n 0, 1) := by decide +kernel
theorem dL_law_933 : decode cL_law 933 = .ok (.iload_n 3, 1) := by decide +kernel
theorem dL_law_934 : decode cL_law 934 = .ok (.iconst 1, 1) := by decide +kernel
theorem dL_law_935 : decode cL_law 935 = .ok (.iadd, 1) := by decide +kernel
theorem dL_law_936 : decode cL_law 936 = .ok (.iaload, 1) := by decide +kernel
theorem dL_law_937 : decode cL_law 937 = .ok (.invokevirtual 133, 3) := by decide +kernel
theorem dL_law_940 : decode cL_law 940 = .ok (.if_icmp .eq 19, 3) := by decide +kernel
theorem dL_law_943 : decode cL_law 943 = .ok (.iconst 0, 1) := by decide +kernel
theorem dL_law_944 : decode cL_law 944 = .ok (.ireturn, 1) := by decide +kernel
theorem dL_law_945 : decode cL_law 945 = .ok (.aload_n 1, 1) := by decide +kernel
theorem dL_law_946 : decode cL_law 946 = .ok (.invokevirtual 134, 3) := by decide +kernel
theorem dL_law_949 : decode cL_law 949 = .ok (.aload_n 2, 1) := by decide +kernel
theorem dL_law_950 : decode cL_law 950 = .ok (.invokevirtual 138, 3) := by decide +kernel
theorem dL_law_953 : decode cL_law 953 = .ok (.lcmp, 1) := by decide +kernel
theorem dL_law_954 : decode cL_law 954 = .ok (.ifCond .eq 5, 3) := by decide +kernel
theorem dL_law_957 : decode cL_law 957 = .ok (.iconst 0, 1) := by decide +kernel
theorem dL_law_958 : decode cL_law 958 = .ok (.ireturn, 1) := by decide +kernel
theorem dL_law_959 : decode cL_law 959 = .ok (.iinc 3 5, 3) := by decide +kernel
theorem dL_law_962 : decode cL_law 962 = .ok (.goto (-944), 3) := by decide +kernel
theorem dL_law_965 : decode cL_law 965 = .ok (.iconst 1, 1) := by decide +kernel
theorem dL_law_966 : decode cL_law 966 = .ok (.ireturn, 1) := by decide +kernel
end
section
/-! A SIMPLER MACHINE: memory is a number of cells, each a row of ints; the shape (which cell is what, which field points where) never changes behind the constructors -/
abbrev jm_Mem : Type := Nat → Nat → Int32
def jm_arr (μ : jm_Mem) (a : Nat) (f : Nat → Int32) : jm_Mem := fun b => if b = a then f else μ b
def jm_set (μ : jm_Mem) (a i : Nat) (v : Int32) : jm_Mem := jm_arr μ a (upd (μ a) i v)
abbrev jm_Kd : Type := (Bool × Nat) ⊕ (Nat × List (Option Nat))
abbrev jm_MI : Type := MethodName × ByteArray × Nat × Option FieldType
abbrev jm_Ex : Type := List (Nat × Option String × Nat × (Nat → Int32))
def jm_sh : Nat → jm_Kd := fun k => match k with
  | 0 => .inr (6, [some 1, some 4, some 8, some 11, some 14, some 22, none, none, none, none])
  | 1 => .inr (4, [some 2, some 3, none, none, none, none, none, none])
  | 2 => .inl (false, 12)
  | 3 => .inl (false, 12)
  | 4 => .inr (5, [some 5, some 6, some 7, none, none])
  | 5 => .inl (false, 3)
  | 6 => .inl (false, 3)
  | 7 => .inl (false, 3)
  | 8 => .inr (1, [some 9, some 10])
  | 9 => .inl (false, 96)
  | 10 => .inl (false, 12)
  | 11 => .inr (3, [some 12, some 13])
  | 12 => .inl (false, 48)
  | 13 => .inl (false, 48)
  | 14 => .inr (2, [some 15, some 16, some 17, some 18, none, some 19, some 20, some 21])
  | 15 => .inl (false, 8)
  | 16 => .inl (false, 8)
  | 17 => .inl (false, 8)
  | 18 => .inl (false, 64)
  | 19 => .inl (false, 8)
  | 20 => .inl (false, 8)
  | 21 => .inl (false, 8)
  | 22 => .inr (0, [some 23, none])
  | 23 => .inl (false, 100)
  | 24 => .inr (7, [some 25, some 26, some 27, some 28, some 29, some 30, some 31, none, none, none, some 32, some 33, none, some 34, some 35, some 36, some 37, some 38, none, some 39, none, none, none, none, none, some 40])
  | 25 => .inl (false, 12)
  | 26 => .inl (false, 12)
  | 27 => .inl (false, 12)
  | 28 => .inl (false, 12)
  | 29 => .inl (false, 12)
  | 30 => .inl (false, 96)
  | 31 => .inl (false, 48)
  | 32 => .inl (false, 3)
  | 33 => .inl (true, 48)
  | 34 => .inl (false, 8)
  | 35 => .inl (false, 8)
  | 36 => .inl (false, 8)
  | 37 => .inl (false, 64)
  | 38 => .inl (false, 8)
  | 39 => .inl (false, 8)
  | 40 => .inl (false, 100)
  | _ => .inl (false, 0)
def jm_cv (ad : Nat → Nat) (v : Value) : Value := match v with
  | .ref a => .ref (ad a)
  | v => v
def jm_fl (ad : Nat → Nat) (f : Nat → Int32) : Nat → List (Option Nat) → List Value
  | _, [] => []
  | k, some j :: t => .ref (ad j) :: jm_fl ad f (k + 1) t
  | k, none :: t => .int (f k) :: jm_fl ad f (k + 1) t
def jm_ce (ad : Nat → Nat) (cI cZ : ClassId) (μ : jm_Mem) (i : Nat) : va_E := match jm_sh i with
  | .inl (b, n) => .inl (bif b then cZ else cI, n, .inl (μ i))
  | .inr (ci, fl) => .inr (ci, jm_fl ad (μ i) 0 fl)
def jm_ws (I : List Nat) (ad : Nat → Nat) (cI cZ : ClassId) (μ : jm_Mem) : va_W := I.map fun i => (ad i, jm_ce ad cI cZ μ i)
def jm_isN : Cond → Bool
  | .fieldLinkNest .. => true
  | .methodLinkNest .. => true
  | _ => false
def jm_gw : List Cond := lw_tbl.filter goodWord
def jm_nw : List Cond := lw_tbl.filter jm_isN
def jm_wd (M : jm_MI) : List Cond := .code M.1 M.2.1 M.2.2.1 M.2.2.2 :: jm_gw
def jm_St (X : jm_Ex) (ad : Nat → Nat) (A : Nat → Prop) (U : State) (H : Heap) : Prop := ∀ q ∈ X, va_T .int (ad q.1) q.2.2.1 (fun j => .int (q.2.2.2 j)) A U H ∧ ∀ nm, q.2.1 = some nm → va_Z RX6 nm "[I" (.ref (ad q.1)) A U H
def jm_Cx (X : jm_Ex) (d : Nat) (M : jm_MI) (D : va_G) (ad : Nat → Nat) (cI cZ : ClassId) (A : Nat → Prop) (p : Program) (R : Room) (s : State) (m : MethodId) (args : Array Value) (meth : Method) (c : Code) (cells slots : Nat) : Prop :=
  (p.tables.exec = Jvm.exec ∧ c.code = M.2.1 ∧ c.maxLocals = M.2.2.1 ∧ s.vm.findClass M.1.cls = some m.cls ∧ meth.locks = false ∧ meth.sig.returnType = M.2.2.2) ∧
  (∀ w ∈ jm_gw, w.before args s = true) ∧ (∀ w ∈ jm_nw, va_Nw w s) ∧ va_K D vwCl [(cI, .int), (cZ, .boolean)] s ∧
  (∀ q, s.heap.size ≤ q → A q) ∧ jm_St X ad A s s.heap ∧ (d + 1 ≤ R.frames ∧ 64 * (d + 1) ≤ R.locals ∧ cells ≤ R.cells ∧ slots ≤ R.slots)
def jm_Wo (I : List Nat) (D : va_G) (ad : Nat → Nat) (cI cZ : ClassId) (A : Nat → Prop) (s : State) (μ : jm_Mem) (H : Heap) (locs : List Loc) : Prop :=
  va_P D vwCl (jm_ws I ad cI cZ μ) H ∧ va_D A (jm_ws I ad cI cZ μ) ∧ va_S A s.heap H locs
def jm_Lo (ad : Nat → Nat) (nL : Nat) (L : List (Option Value)) (ls : Array Slot) : Prop := lv_has ls nL [] ∧ L.length = nL ∧ ∀ (i : Nat) (v : Value), L[i]? = some (some v) → ls[i]? = some (.val (jm_cv ad v))
def jm_Re (M : jm_MI) (pc : Nat) (v : Option Value) : Prop :=
  (v = none ∧ M.2.2.2 = none ∧ decode M.2.1 pc = .ok (.return_, 1)) ∨ (∃ (x : Int32) (ty : FieldType), v = some (.int x) ∧ M.2.2.2 = some ty ∧ narrow ty (.int x) = .int x ∧ decode M.2.1 pc = .ok (.ireturn, 1)) ∨ (∃ x : Int64, v = some (.long x) ∧ M.2.2.2 = some .long ∧ decode M.2.1 pc = .ok (.lreturn, 1))
/-- the judgement: from here the method M, with these locals and stack, over any heap that holds μ, comes to an end that Q allows -/
def jm_J (I : List Nat) (X : jm_Ex) (d : Nat) (M : jm_MI) (pc : Nat) (L : List (Option Value)) (S : List Value) (μ : jm_Mem) (Q : Option Value → jm_Mem → Prop) : Prop :=
  ∀ (D : va_G) (ad : Nat → Nat) (cI cZ : ClassId) (A : Nat → Prop) (p : Program) (l : Launch) (e : Env) (R : Room) (s : State) (m : MethodId) (args : Array Value) (below : List Frame) (meth : Method) (c : Code) (cells slots : Nat) (Qw : State → Prop) (H : Heap) (locs : List Loc) (ls : Array Slot),
    jm_Cx X d M D ad cI cZ A p R s m args meth c cells slots → jm_Wo I D ad cI cZ A s μ H locs → jm_Lo ad M.2.2.1 L ls →
    (∀ (v : Option Value) (μ' : jm_Mem) (H' : Heap) (locs' : List Loc) (ls' : Array Slot) (pc' : Nat), Q v μ' → jm_Wo I D ad cI cZ A s μ' H' locs' → jm_Re M pc' v → W p l e R s m args below meth c H' locs' cells slots Qw (F0 m pc' ls' (v.toList.map (jm_cv ad)))) →
    W p l e R s m args below meth c H locs cells slots Qw (F0 m pc ls (S.map (jm_cv ad)))
-- locals
def jm_as (ad : Nat → Nat) : Nat → List (Option Value) → List (Nat × Value)
  | _, [] => []
  | k, some v :: t => (k, jm_cv ad v) :: jm_as ad (k + 1) t
  | k, none :: t => jm_as ad (k + 1) t
theorem jm_as_mem {ad : Nat → Nat} : ∀ (L : List (Option Value)) (k : Nat) (q : Nat × Value), q ∈ jm_as ad k L → ∃ i v, L[i]? = some (some v) ∧ q = (k + i, jm_cv ad v)
  | [], k, q, h => by cases h
  | some v :: t, k, q, h => by
    rcases List.mem_cons.mp h with h | h
    · exact ⟨0, v, rfl, h⟩
    · obtain ⟨i, w, h1, h2⟩ := jm_as_mem t (k + 1) q h
      exact ⟨i + 1, w, h1, by rw [h2]; congr 1; omega⟩
  | none :: t, k, q, h => by
    obtain ⟨i, w, h1, h2⟩ := jm_as_mem t (k + 1) q h
    exact ⟨i + 1, w, h1, by rw [h2]; congr 1; omega⟩
theorem jm_as_in {ad : Nat → Nat} : ∀ (L : List (Option Value)) (k i : Nat) (v : Value), L[i]? = some (some v) → (k + i, jm_cv ad v) ∈ jm_as ad k L
  | [], k, i, v, h => by simp at h
  | some w :: t, k, 0, v, h => by
    simp at h
    subst h
    exact List.mem_cons_self
  | some w :: t, k, i + 1, v, h => by
    have := jm_as_in (ad := ad) t (k + 1) i v (by simpa using h)
    rw [show k + (i + 1) = k + 1 + i by omega]
    exact List.mem_cons_of_mem _ this
  | none :: t, k, 0, v, h => by simp at h
  | none :: t, k, i + 1, v, h => by
    have := jm_as_in (ad := ad) t (k + 1) i v (by simpa using h)
    rw [show k + (i + 1) = k + 1 + i by omega]
    exact this
theorem jm_Lo.has {ad : Nat → Nat} {nL : Nat} {L : List (Option Value)} {ls : Array Slot} (h : jm_Lo ad nL L ls) : lv_has ls nL (jm_as ad 0 L) := by
  refine ⟨h.1.1, h.1.2.1, fun q hq => ?_⟩
  obtain ⟨i, v, h1, rfl⟩ := jm_as_mem L 0 q hq
  rw [Nat.zero_add]
  exact h.2.2 i v h1
theorem jm_cat (ad : Nat → Nat) (v : Value) : (jm_cv ad v).category = v.category := by cases v <;> rfl
def jm_ok (L : List (Option Value)) (i : Nat) : Bool := match i with
  | 0 => true
  | k + 1 => match L[k]? with
    | some (some w) => w.category != 2
    | _ => true
theorem jm_ok_ne {L : List (Option Value)} {i j : Nat} {w : Value} (h : jm_ok L i = true) (hj : L[j]? = some (some w)) (hij : j + 1 = i) : w.category ≠ 2 := by
  subst hij
  simp only [jm_ok, hj] at h
  simpa using h
theorem jm_Lo.st1 {ad : Nat → Nat} {nL i : Nat} {L : List (Option Value)} {ls ls' : Array Slot} {v : Value} (h : jm_Lo ad nL L ls) (hok : jm_ok L i = true) (hi : i < nL)
    (h' : lv_has ls' nL ((i, jm_cv ad v) :: (jm_as ad 0 L).filter (fun q => !(q.1 == i) && !(q.1 + 1 == i && q.2.category == 2)))) : jm_Lo ad nL (L.set i (some v)) ls' := by
  refine ⟨⟨h'.1, h'.2.1, fun _ h => by cases h⟩, by rw [List.length_set]; exact h.2.1, fun j w hj => ?_⟩
  rw [List.getElem?_set] at hj
  by_cases hij : i = j
  · subst hij
    rw [if_pos rfl, if_pos (by rw [h.2.1]; exact hi)] at hj
    cases hj
    exact h'.2.2 _ List.mem_cons_self
  · rw [if_neg hij] at hj
    have := jm_as_in (ad := ad) L 0 j w hj
    rw [Nat.zero_add] at this
    refine h'.2.2 (j, jm_cv ad w) (List.mem_cons_of_mem _ (List.mem_filter.mpr ⟨this, ?_⟩))
    simp only [jm_cat]
    by_cases h3 : j + 1 = i
    · have := jm_ok_ne hok hj h3
      simp [Ne.symm hij, this]
    · simp [Ne.symm hij, h3]
theorem jm_Lo.st2 {ad : Nat → Nat} {nL i : Nat} {L : List (Option Value)} {ls ls' : Array Slot} {v : Value} (h : jm_Lo ad nL L ls) (hok : jm_ok L i = true) (hi : i + 1 < nL)
    (h' : lv_has ls' nL ((i, jm_cv ad v) :: (jm_as ad 0 L).filter (fun q => !(q.1 == i) && (!(q.1 == i + 1) && !(q.1 + 1 == i && q.2.category == 2))))) : jm_Lo ad nL ((L.set i (some v)).set (i + 1) none) ls' := by
  refine ⟨⟨h'.1, h'.2.1, fun _ h => by cases h⟩, by rw [List.length_set, List.length_set]; exact h.2.1, fun j w hj => ?_⟩
  rw [List.getElem?_set] at hj
  by_cases hj1 : i + 1 = j
  · rw [if_pos hj1, if_pos (by rw [List.length_set, h.2.1]; omega)] at hj
    simp at hj
  rw [if_neg hj1, List.getElem?_set] at hj
  by_cases hij : i = j
  · subst hij
    rw [if_pos rfl, if_pos (by rw [h.2.1]; omega)] at hj
    cases hj
    exact h'.2.2 _ List.mem_cons_self
  · rw [if_neg hij] at hj
    have := jm_as_in (ad := ad) L 0 j w hj
    rw [Nat.zero_add] at this
    refine h'.2.2 (j, jm_cv ad w) (List.mem_cons_of_mem _ (List.mem_filter.mpr ⟨this, ?_⟩))
    simp only [jm_cat]
    by_cases h3 : j + 1 = i
    · have := jm_ok_ne hok hj h3
      simp [Ne.symm hij, Ne.symm hj1, this]
    · simp [Ne.symm hij, Ne.symm hj1, h3]
-- the world
theorem jm_ws_at {I : List Nat} {ad : Nat → Nat} {cI cZ : ClassId} {μ : jm_Mem} {a : Nat} (h : I.contains a = true) : ∃ q0 : Nat, I[q0]? = some a ∧ (jm_ws I ad cI cZ μ)[q0]? = some (ad a, jm_ce ad cI cZ μ a) := by
  obtain ⟨q0, hq⟩ := List.getElem?_of_mem (by simpa using h : a ∈ I)
  exact ⟨q0, hq, by simp [jm_ws, hq]⟩
theorem jm_ws_set {A : Nat → Prop} {I : List Nat} {ad : Nat → Nat} {cI cZ : ClassId} {μ μ' : jm_Mem} {a q0 : Nat} (hD : va_D A (jm_ws I ad cI cZ μ)) (h : I[q0]? = some a) (hm : ∀ b, b ≠ a → μ' b = μ b) : (jm_ws I ad cI cZ μ).set q0 (ad a, jm_ce ad cI cZ μ' a) = jm_ws I ad cI cZ μ' := by
  refine List.ext_getElem? fun k => ?_
  have hl : q0 < I.length := (List.getElem?_eq_some_iff.mp h).1
  rw [List.getElem?_set]
  by_cases hk : q0 = k
  · subst hk
    rw [if_pos rfl, if_pos (by simp [jm_ws]; exact hl)]
    simp [jm_ws, h]
  · rw [if_neg hk]
    cases hi : I[k]? with
    | none => simp [jm_ws, hi]
    | some b =>
      have hb : b ≠ a := by
        intro e
        subst e
        exact hk (hD.1 q0 k (ad b, jm_ce ad cI cZ μ b) (ad b, jm_ce ad cI cZ μ b) (by simp [jm_ws, h]) (by simp [jm_ws, hi]) rfl)
      simp [jm_ws, hi, jm_ce, hm b hb]
theorem jm_set_ne {μ : jm_Mem} {a i : Nat} {v : Int32} : ∀ b, b ≠ a → jm_set μ a i v b = μ b := fun b h => if_neg h
theorem jm_arr_ne {μ : jm_Mem} {a : Nat} {f : Nat → Int32} : ∀ b, b ≠ a → jm_arr μ a f b = μ b := fun b h => if_neg h
theorem jm_set_eq {μ : jm_Mem} {a i : Nat} {v : Int32} : jm_set μ a i v a = upd (μ a) i v := if_pos rfl
theorem jm_arr_eq {μ : jm_Mem} {a : Nat} {f : Nat → Int32} : jm_arr μ a f a = f := if_pos rfl
theorem jm_ce_arr {ad : Nat → Nat} {cI cZ : ClassId} {μ : jm_Mem} {a n : Nat} {b : Bool} (h : jm_sh a = .inl (b, n)) : jm_ce ad cI cZ μ a = .inl (bif b then cZ else cI, n, .inl (μ a)) := by
  simp only [jm_ce, h]
theorem jm_ce_obj {ad : Nat → Nat} {cI cZ : ClassId} {μ : jm_Mem} {a ci : Nat} {fl : List (Option Nat)} (h : jm_sh a = .inr (ci, fl)) : jm_ce ad cI cZ μ a = .inr (ci, jm_fl ad (μ a) 0 fl) := by
  simp only [jm_ce, h]
def jm_ov (ad : Nat → Nat) (x : Int32) (o : Option Nat) : Value := match o with
  | some j => .ref (ad j)
  | none => .int x
theorem jm_fl_get {ad : Nat → Nat} {f : Nat → Int32} : ∀ (fl : List (Option Nat)) (k0 k : Nat) (o : Option Nat), fl[k]? = some o → (jm_fl ad f k0 fl)[k]? = some (jm_ov ad (f (k0 + k)) o)
  | [], k0, k, o, h => by simp at h
  | some j :: t, k0, 0, o, h => by
    simp at h
    subst h
    rfl
  | none :: t, k0, 0, o, h => by
    simp at h
    subst h
    rfl
  | some j :: t, k0, k + 1, o, h => by
    have := jm_fl_get (ad := ad) (f := f) t (k0 + 1) k o (by simpa using h)
    rw [show k0 + 1 + k = k0 + (k + 1) by omega] at this
    simpa [jm_fl] using this
  | none :: t, k0, k + 1, o, h => by
    have := jm_fl_get (ad := ad) (f := f) t (k0 + 1) k o (by simpa using h)
    rw [show k0 + 1 + k = k0 + (k + 1) by omega] at this
    simpa [jm_fl] using this
theorem jm_fl_ne {ad : Nat → Nat} {f : Nat → Int32} {i : Nat} {v : Int32} : ∀ (fl : List (Option Nat)) (k0 : Nat), i < k0 → jm_fl ad (upd f i v) k0 fl = jm_fl ad f k0 fl
  | [], k0, h => rfl
  | some j :: t, k0, h => by
    show _ :: jm_fl ad (upd f i v) (k0 + 1) t = _ :: jm_fl ad f (k0 + 1) t
    rw [jm_fl_ne t (k0 + 1) (by omega)]
  | none :: t, k0, h => by
    show Value.int (upd f i v k0) :: jm_fl ad (upd f i v) (k0 + 1) t = Value.int (f k0) :: jm_fl ad f (k0 + 1) t
    rw [jm_fl_ne t (k0 + 1) (by omega)]
    have : upd f i v k0 = f k0 := by
      unfold upd
      rw [if_neg (by omega)]
    rw [this]
theorem jm_fl_set {ad : Nat → Nat} {f : Nat → Int32} {v : Int32} : ∀ (fl : List (Option Nat)) (k0 k : Nat), fl[k]? = some none → (jm_fl ad f k0 fl).set k (.int v) = jm_fl ad (upd f (k0 + k) v) k0 fl
  | [], k0, k, h => by simp at h
  | some j :: t, k0, 0, h => by simp at h
  | none :: t, k0, 0, h => by
    show Value.int v :: jm_fl ad f (k0 + 1) t = Value.int (upd f (k0 + 0) v k0) :: jm_fl ad (upd f (k0 + 0) v) (k0 + 1) t
    rw [jm_fl_ne t (k0 + 1) (by omega)]
    simp [upd]
  | some j :: t, k0, k + 1, h => by
    have := jm_fl_set (ad := ad) (f := f) (v := v) t (k0 + 1) k (by simpa using h)
    rw [show k0 + 1 + k = k0 + (k + 1) by omega] at this
    show _ :: (jm_fl ad f (k0 + 1) t).set k (.int v) = _ :: jm_fl ad (upd f (k0 + (k + 1)) v) (k0 + 1) t
    rw [this]
  | none :: t, k0, k + 1, h => by
    have := jm_fl_set (ad := ad) (f := f) (v := v) t (k0 + 1) k (by simpa using h)
    rw [show k0 + 1 + k = k0 + (k + 1) by omega] at this
    show Value.int (f k0) :: (jm_fl ad f (k0 + 1) t).set k (.int v) = Value.int (upd f (k0 + (k + 1)) v k0) :: jm_fl ad (upd f (k0 + (k + 1)) v) (k0 + 1) t
    rw [this]
    have : upd f (k0 + (k + 1)) v k0 = f k0 := by
      unfold upd
      rw [if_neg (by omega)]
    rw [this]
theorem jm_fl_len {ad : Nat → Nat} {f : Nat → Int32} : ∀ (fl : List (Option Nat)) (k0 : Nat), (jm_fl ad f k0 fl).length = fl.length
  | [], k0 => rfl
  | some j :: t, k0 => by simp [jm_fl, jm_fl_len t]
  | none :: t, k0 => by simp [jm_fl, jm_fl_len t]
end
section
section JmRules
variable {I : List Nat} {X : jm_Ex} {d : Nat} {M : jm_MI} {pc n : Nat} {L : List (Option Value)} {S : List Value} {μ : jm_Mem} {Q : Option Value → jm_Mem → Prop}
theorem jm_iadd {x y : Int32} (hd : decode M.2.1 pc = .ok (.iadd, 1)) (hn : pc + 1 = n) (k : jm_J I X d M n L (.int (x + y) :: S) μ Q) : jm_J I X d M pc L (.int y :: .int x :: S) μ Q := by
  subst hn
  exact fun D ad cI cZ A p l e R s m args below meth c cells slots Qw H locs ls C Wd Ld K => lv_iadd C.1.1 C.1.2.1 hd (k D ad cI cZ A p l e R s m args below meth c cells slots Qw H locs ls C Wd Ld K)
theorem jm_isub {x y : Int32} (hd : decode M.2.1 pc = .ok (.isub, 1)) (hn : pc + 1 = n) (k : jm_J I X d M n L (.int (x - y) :: S) μ Q) : jm_J I X d M pc L (.int y :: .int x :: S) μ Q := by
  subst hn
  exact fun D ad cI cZ A p l e R s m args below meth c cells slots Qw H locs ls C Wd Ld K => lv_isub C.1.1 C.1.2.1 hd (k D ad cI cZ A p l e R s m args below meth c cells slots Qw H locs ls C Wd Ld K)
theorem jm_imul {x y : Int32} (hd : decode M.2.1 pc = .ok (.imul, 1)) (hn : pc + 1 = n) (k : jm_J I X d M n L (.int (x * y) :: S) μ Q) : jm_J I X d M pc L (.int y :: .int x :: S) μ Q := by
  subst hn
  exact fun D ad cI cZ A p l e R s m args below meth c cells slots Qw H locs ls C Wd Ld K => lv_imul C.1.1 C.1.2.1 hd (k D ad cI cZ A p l e R s m args below meth c cells slots Qw H locs ls C Wd Ld K)
theorem jm_iand {x y : Int32} (hd : decode M.2.1 pc = .ok (.iand, 1)) (hn : pc + 1 = n) (k : jm_J I X d M n L (.int (x &&& y) :: S) μ Q) : jm_J I X d M pc L (.int y :: .int x :: S) μ Q := by
  subst hn
  exact fun D ad cI cZ A p l e R s m args below meth c cells slots Qw H locs ls C Wd Ld K => lv_iand C.1.1 C.1.2.1 hd (k D ad cI cZ A p l e R s m args below meth c cells slots Qw H locs ls C Wd Ld K)
theorem jm_ishl {x y : Int32} (hd : decode M.2.1 pc = .ok (.ishl, 1)) (hn : pc + 1 = n) (k : jm_J I X d M n L (.int (x <<< (y &&& 31)) :: S) μ Q) : jm_J I X d M pc L (.int y :: .int x :: S) μ Q := by
  subst hn
  exact fun D ad cI cZ A p l e R s m args below meth c cells slots Qw H locs ls C Wd Ld K => lv_ishl C.1.1 C.1.2.1 hd (k D ad cI cZ A p l e R s m args below meth c cells slots Qw H locs ls C Wd Ld K)
theorem jm_ishr {x y : Int32} (hd : decode M.2.1 pc = .ok (.ishr, 1)) (hn : pc + 1 = n) (k : jm_J I X d M n L (.int (x >>> (y &&& 31)) :: S) μ Q) : jm_J I X d M pc L (.int y :: .int x :: S) μ Q := by
  subst hn
  exact fun D ad cI cZ A p l e R s m args below meth c cells slots Qw H locs ls C Wd Ld K => lv_ishr C.1.1 C.1.2.1 hd (k D ad cI cZ A p l e R s m args below meth c cells slots Qw H locs ls C Wd Ld K)
theorem jm_idiv {x y : Int32} (hd : decode M.2.1 pc = .ok (.idiv, 1)) (hn : pc + 1 = n) (hne : ¬ y = 0) (k : jm_J I X d M n L (.int (x / y) :: S) μ Q) : jm_J I X d M pc L (.int y :: .int x :: S) μ Q := by
  subst hn
  exact fun D ad cI cZ A p l e R s m args below meth c cells slots Qw H locs ls C Wd Ld K => lv_idiv C.1.1 C.1.2.1 hd hne (k D ad cI cZ A p l e R s m args below meth c cells slots Qw H locs ls C Wd Ld K)
theorem jm_irem {x y : Int32} (hd : decode M.2.1 pc = .ok (.irem, 1)) (hn : pc + 1 = n) (hne : ¬ y = 0) (k : jm_J I X d M n L (.int (x - x / y * y) :: S) μ Q) : jm_J I X d M pc L (.int y :: .int x :: S) μ Q := by
  subst hn
  exact fun D ad cI cZ A p l e R s m args below meth c cells slots Qw H locs ls C Wd Ld K => lv_irem C.1.1 C.1.2.1 hd hne (k D ad cI cZ A p l e R s m args below meth c cells slots Qw H locs ls C Wd Ld K)
theorem jm_ineg {x : Int32} (hd : decode M.2.1 pc = .ok (.ineg, 1)) (hn : pc + 1 = n) (k : jm_J I X d M n L (.int (0 - x) :: S) μ Q) : jm_J I X d M pc L (.int x :: S) μ Q := by
  subst hn
  exact fun D ad cI cZ A p l e R s m args below meth c cells slots Qw H locs ls C Wd Ld K => lv_ineg C.1.1 C.1.2.1 hd (k D ad cI cZ A p l e R s m args below meth c cells slots Qw H locs ls C Wd Ld K)
theorem jm_ladd {x y : Int64} (hd : decode M.2.1 pc = .ok (.ladd, 1)) (hn : pc + 1 = n) (k : jm_J I X d M n L (.long (x + y) :: S) μ Q) : jm_J I X d M pc L (.long y :: .long x :: S) μ Q := by
  subst hn
  exact fun D ad cI cZ A p l e R s m args below meth c cells slots Qw H locs ls C Wd Ld K => lv_ladd C.1.1 C.1.2.1 hd (k D ad cI cZ A p l e R s m args below meth c cells slots Qw H locs ls C Wd Ld K)
theorem jm_lmul {x y : Int64} (hd : decode M.2.1 pc = .ok (.lmul, 1)) (hn : pc + 1 = n) (k : jm_J I X d M n L (.long (x * y) :: S) μ Q) : jm_J I X d M pc L (.long y :: .long x :: S) μ Q := by
  subst hn
  exact fun D ad cI cZ A p l e R s m args below meth c cells slots Qw H locs ls C Wd Ld K => lv_lmul C.1.1 C.1.2.1 hd (k D ad cI cZ A p l e R s m args below meth c cells slots Qw H locs ls C Wd Ld K)
theorem jm_lcmp {x y : Int64} (hd : decode M.2.1 pc = .ok (.lcmp, 1)) (hn : pc + 1 = n) (k : jm_J I X d M n L (.int (lg_cmp x y) :: S) μ Q) : jm_J I X d M pc L (.long y :: .long x :: S) μ Q := by
  subst hn
  exact fun D ad cI cZ A p l e R s m args below meth c cells slots Qw H locs ls C Wd Ld K => W.lcmp C.1.1 C.1.2.1 hd (k D ad cI cZ A p l e R s m args below meth c cells slots Qw H locs ls C Wd Ld K)
theorem jm_i2l {x : Int32} (hd : decode M.2.1 pc = .ok (.i2l, 1)) (hn : pc + 1 = n) (k : jm_J I X d M n L (.long x.toInt64 :: S) μ Q) : jm_J I X d M pc L (.int x :: S) μ Q := by
  subst hn
  exact fun D ad cI cZ A p l e R s m args below meth c cells slots Qw H locs ls C Wd Ld K => lv_i2l C.1.1 C.1.2.1 hd rfl (k D ad cI cZ A p l e R s m args below meth c cells slots Qw H locs ls C Wd Ld K)
theorem jm_iconst {z : Int} (v : Int32) (hd : decode M.2.1 pc = .ok (.iconst z, 1)) (hn : pc + 1 = n) (hv : Int32.ofInt z = v) (k : jm_J I X d M n L (.int v :: S) μ Q) : jm_J I X d M pc L (S) μ Q := by
  subst hn
  exact fun D ad cI cZ A p l e R s m args below meth c cells slots Qw H locs ls C Wd Ld K => lv_iconst C.1.1 C.1.2.1 hd hv (k D ad cI cZ A p l e R s m args below meth c cells slots Qw H locs ls C Wd Ld K)
theorem jm_bipush {z : Int} (v : Int32) (hd : decode M.2.1 pc = .ok (.bipush z, 2)) (hn : pc + 2 = n) (hv : (Int8.ofInt z).toInt32 = v) (k : jm_J I X d M n L (.int v :: S) μ Q) : jm_J I X d M pc L (S) μ Q := by
  subst hn
  exact fun D ad cI cZ A p l e R s m args below meth c cells slots Qw H locs ls C Wd Ld K => lv_bipush C.1.1 C.1.2.1 hd hv (k D ad cI cZ A p l e R s m args below meth c cells slots Qw H locs ls C Wd Ld K)
theorem jm_sipush {z : Int} (v : Int32) (hd : decode M.2.1 pc = .ok (.sipush z, 3)) (hn : pc + 3 = n) (hv : (Int16.ofInt z).toInt32 = v) (k : jm_J I X d M n L (.int v :: S) μ Q) : jm_J I X d M pc L (S) μ Q := by
  subst hn
  exact fun D ad cI cZ A p l e R s m args below meth c cells slots Qw H locs ls C Wd Ld K => lv_sipush C.1.1 C.1.2.1 hd hv (k D ad cI cZ A p l e R s m args below meth c cells slots Qw H locs ls C Wd Ld K)
theorem jm_lconst {z : Fin 2} (v : Int64) (hd : decode M.2.1 pc = .ok (.lconst z, 1)) (hn : pc + 1 = n) (hv : Int64.ofNat (z : Nat) = v) (k : jm_J I X d M n L (.long v :: S) μ Q) : jm_J I X d M pc L (S) μ Q := by
  subst hn
  exact fun D ad cI cZ A p l e R s m args below meth c cells slots Qw H locs ls C Wd Ld K => lv_lconst C.1.1 C.1.2.1 hd hv (k D ad cI cZ A p l e R s m args below meth c cells slots Qw H locs ls C Wd Ld K)
theorem jm_ldc {ix : Nat} (v : Int32) (hd : decode M.2.1 pc = .ok (.ldc ix, 2)) (hn : pc + 2 = n) (hv : Cond.constant M.1.cls ix v ∈ jm_gw) (k : jm_J I X d M n L (.int v :: S) μ Q) : jm_J I X d M pc L (S) μ Q := by
  subst hn
  exact fun D ad cI cZ A p l e R s m args below meth c cells slots Qw H locs ls C Wd Ld K => lv_ldc C.1.1 C.1.2.1 C.1.2.2.2.1 (C.2.1 _ hv) hd (k D ad cI cZ A p l e R s m args below meth c cells slots Qw H locs ls C Wd Ld K)
theorem jm_ldc2 {ix : Nat} (v : Int64) (hd : decode M.2.1 pc = .ok (.ldc2_w ix, 3)) (hn : pc + 3 = n) (hv : Cond.constantLong M.1.cls ix v ∈ jm_gw) (k : jm_J I X d M n L (.long v :: S) μ Q) : jm_J I X d M pc L (S) μ Q := by
  subst hn
  exact fun D ad cI cZ A p l e R s m args below meth c cells slots Qw H locs ls C Wd Ld K => lv_ldc2 C.1.1 C.1.2.1 C.1.2.2.2.1 (C.2.1 _ hv) hd (k D ad cI cZ A p l e R s m args below meth c cells slots Qw H locs ls C Wd Ld K)
theorem jm_iload_n {k4 : Fin 4} {i : Nat} {x : Int32} (hd : decode M.2.1 pc = .ok (.iload_n k4, 1)) (hn : pc + 1 = n) (hi : (k4 : Nat) = i) (hl : L[i]? = some (some (.int x))) (k : jm_J I X d M n L (.int x :: S) μ Q) : jm_J I X d M pc L (S) μ Q := by
  subst hn
  exact fun D ad cI cZ A p l e R s m args below meth c cells slots Qw H locs ls C Wd Ld K => lv_iload_n C.1.1 C.1.2.1 hd hi (Ld.2.2 i _ hl) (k D ad cI cZ A p l e R s m args below meth c cells slots Qw H locs ls C Wd Ld K)
theorem jm_iload {i : Nat} {x : Int32} (hd : decode M.2.1 pc = .ok (.iload i, 2)) (hn : pc + 2 = n) (hl : L[i]? = some (some (.int x))) (k : jm_J I X d M n L (.int x :: S) μ Q) : jm_J I X d M pc L (S) μ Q := by
  subst hn
  exact fun D ad cI cZ A p l e R s m args below meth c cells slots Qw H locs ls C Wd Ld K => lv_iload C.1.1 C.1.2.1 hd (Ld.2.2 i _ hl) (k D ad cI cZ A p l e R s m args below meth c cells slots Qw H locs ls C Wd Ld K)
theorem jm_lload_n {k4 : Fin 4} {i : Nat} {x : Int64} (hd : decode M.2.1 pc = .ok (.lload_n k4, 1)) (hn : pc + 1 = n) (hi : (k4 : Nat) = i) (hl : L[i]? = some (some (.long x))) (k : jm_J I X d M n L (.long x :: S) μ Q) : jm_J I X d M pc L (S) μ Q := by
  subst hn
  exact fun D ad cI cZ A p l e R s m args below meth c cells slots Qw H locs ls C Wd Ld K => lv_lload_n C.1.1 C.1.2.1 hd hi (Ld.2.2 i _ hl) (k D ad cI cZ A p l e R s m args below meth c cells slots Qw H locs ls C Wd Ld K)
theorem jm_lload {i : Nat} {x : Int64} (hd : decode M.2.1 pc = .ok (.lload i, 2)) (hn : pc + 2 = n) (hl : L[i]? = some (some (.long x))) (k : jm_J I X d M n L (.long x :: S) μ Q) : jm_J I X d M pc L (S) μ Q := by
  subst hn
  exact fun D ad cI cZ A p l e R s m args below meth c cells slots Qw H locs ls C Wd Ld K => lv_lload C.1.1 C.1.2.1 hd (Ld.2.2 i _ hl) (k D ad cI cZ A p l e R s m args below meth c cells slots Qw H locs ls C Wd Ld K)
theorem jm_aload_n {k4 : Fin 4} {i : Nat} {x : Nat} (hd : decode M.2.1 pc = .ok (.aload_n k4, 1)) (hn : pc + 1 = n) (hi : (k4 : Nat) = i) (hl : L[i]? = some (some (.ref x))) (k : jm_J I X d M n L (.ref x :: S) μ Q) : jm_J I X d M pc L (S) μ Q := by
  subst hn
  exact fun D ad cI cZ A p l e R s m args below meth c cells slots Qw H locs ls C Wd Ld K => lv_aload_n C.1.1 C.1.2.1 hd hi (Ld.2.2 i _ hl) (k D ad cI cZ A p l e R s m args below meth c cells slots Qw H locs ls C Wd Ld K)
theorem jm_aload {i : Nat} {x : Nat} (hd : decode M.2.1 pc = .ok (.aload i, 2)) (hn : pc + 2 = n) (hl : L[i]? = some (some (.ref x))) (k : jm_J I X d M n L (.ref x :: S) μ Q) : jm_J I X d M pc L (S) μ Q := by
  subst hn
  exact fun D ad cI cZ A p l e R s m args below meth c cells slots Qw H locs ls C Wd Ld K => lv_aload C.1.1 C.1.2.1 hd (Ld.2.2 i _ hl) (k D ad cI cZ A p l e R s m args below meth c cells slots Qw H locs ls C Wd Ld K)
theorem jm_istore_n {k4 : Fin 4} {i : Nat} {x : Int32} (hd : decode M.2.1 pc = .ok (.istore_n k4, 1)) (hn : pc + 1 = n) (hi : (k4 : Nat) = i) (hb : Nat.blt i M.2.2.1 = true) (ho : jm_ok L i = true) (k : jm_J I X d M n (L.set i (some (.int x))) S μ Q) : jm_J I X d M pc L (.int x :: S) μ Q := by
  subst hn
  exact fun D ad cI cZ A p l e R s m args below meth c cells slots Qw H locs ls C Wd Ld K => lv_istore_n C.1.1 C.1.2.1 hd hi Ld.has (by simpa using hb) rfl (fun ls2 h2 => k D ad cI cZ A p l e R s m args below meth c cells slots Qw H locs ls2 C Wd (Ld.st1 (v := .int x) ho (by simpa using hb) h2) K)
theorem jm_istore {i : Nat} {x : Int32} (hd : decode M.2.1 pc = .ok (.istore i, 2)) (hn : pc + 2 = n) (hb : Nat.blt i M.2.2.1 = true) (ho : jm_ok L i = true) (k : jm_J I X d M n (L.set i (some (.int x))) S μ Q) : jm_J I X d M pc L (.int x :: S) μ Q := by
  subst hn
  exact fun D ad cI cZ A p l e R s m args below meth c cells slots Qw H locs ls C Wd Ld K => lv_istore C.1.1 C.1.2.1 hd Ld.has (by simpa using hb) rfl (fun ls2 h2 => k D ad cI cZ A p l e R s m args below meth c cells slots Qw H locs ls2 C Wd (Ld.st1 (v := .int x) ho (by simpa using hb) h2) K)
theorem jm_astore_n {k4 : Fin 4} {i : Nat} {x : Nat} (hd : decode M.2.1 pc = .ok (.astore_n k4, 1)) (hn : pc + 1 = n) (hi : (k4 : Nat) = i) (hb : Nat.blt i M.2.2.1 = true) (ho : jm_ok L i = true) (k : jm_J I X d M n (L.set i (some (.ref x))) S μ Q) : jm_J I X d M pc L (.ref x :: S) μ Q := by
  subst hn
  exact fun D ad cI cZ A p l e R s m args below meth c cells slots Qw H locs ls C Wd Ld K => lv_astore_n C.1.1 C.1.2.1 hd hi Ld.has (by simpa using hb) rfl (fun ls2 h2 => k D ad cI cZ A p l e R s m args below meth c cells slots Qw H locs ls2 C Wd (Ld.st1 (v := .ref x) ho (by simpa using hb) h2) K)
theorem jm_astore {i : Nat} {x : Nat} (hd : decode M.2.1 pc = .ok (.astore i, 2)) (hn : pc + 2 = n) (hb : Nat.blt i M.2.2.1 = true) (ho : jm_ok L i = true) (k : jm_J I X d M n (L.set i (some (.ref x))) S μ Q) : jm_J I X d M pc L (.ref x :: S) μ Q := by
  subst hn
  exact fun D ad cI cZ A p l e R s m args below meth c cells slots Qw H locs ls C Wd Ld K => lv_astore C.1.1 C.1.2.1 hd Ld.has (by simpa using hb) rfl (fun ls2 h2 => k D ad cI cZ A p l e R s m args below meth c cells slots Qw H locs ls2 C Wd (Ld.st1 (v := .ref x) ho (by simpa using hb) h2) K)
theorem jm_lstore_n {k4 : Fin 4} {i : Nat} {x : Int64} (hd : decode M.2.1 pc = .ok (.lstore_n k4, 1)) (hn : pc + 1 = n) (hi : (k4 : Nat) = i) (hb : Nat.blt (i + 1) M.2.2.1 = true) (ho : jm_ok L i = true) (k : jm_J I X d M n ((L.set i (some (.long x))).set (i + 1) none) S μ Q) : jm_J I X d M pc L (.long x :: S) μ Q := by
  subst hn
  exact fun D ad cI cZ A p l e R s m args below meth c cells slots Qw H locs ls C Wd Ld K => lv_lstore_n C.1.1 C.1.2.1 hd hi Ld.has (by simpa using hb) rfl (fun ls2 h2 => k D ad cI cZ A p l e R s m args below meth c cells slots Qw H locs ls2 C Wd (Ld.st2 (v := .long x) ho (by simpa using hb) h2) K)
theorem jm_lstore {i : Nat} {x : Int64} (hd : decode M.2.1 pc = .ok (.lstore i, 2)) (hn : pc + 2 = n) (hb : Nat.blt (i + 1) M.2.2.1 = true) (ho : jm_ok L i = true) (k : jm_J I X d M n ((L.set i (some (.long x))).set (i + 1) none) S μ Q) : jm_J I X d M pc L (.long x :: S) μ Q := by
  subst hn
  exact fun D ad cI cZ A p l e R s m args below meth c cells slots Qw H locs ls C Wd Ld K => lv_lstore C.1.1 C.1.2.1 hd Ld.has (by simpa using hb) rfl (fun ls2 h2 => k D ad cI cZ A p l e R s m args below meth c cells slots Qw H locs ls2 C Wd (Ld.st2 (v := .long x) ho (by simpa using hb) h2) K)
theorem jm_iinc {i : Nat} {z : Int} {x : Int32} (v : Int32) (hd : decode M.2.1 pc = .ok (.iinc i z, 3)) (hn : pc + 3 = n) (hl : L[i]? = some (some (.int x))) (hv : Int32.ofInt z = v) (hb : Nat.blt i M.2.2.1 = true) (ho : jm_ok L i = true) (k : jm_J I X d M n (L.set i (some (.int (x + v)))) S μ Q) : jm_J I X d M pc L S μ Q := by
  subst hn
  subst hv
  refine fun D ad cI cZ A p l e R s m args below meth c cells slots Qw H locs ls C Wd Ld K => ?_
  obtain ⟨q, hq⟩ := List.getElem?_of_mem (jm_as_in (ad := ad) L 0 i _ hl)
  rw [Nat.zero_add] at hq
  exact lv_iinc C.1.1 C.1.2.1 hd Ld.has hq rfl (by simpa using hb) rfl (fun ls2 h2 => k D ad cI cZ A p l e R s m args below meth c cells slots Qw H locs ls2 C Wd (Ld.st1 (v := .int (x + Int32.ofInt z)) ho (by simpa using hb) h2) K)
theorem jm_dup {v : Value} (hd : decode M.2.1 pc = .ok (.dup, 1)) (hn : pc + 1 = n) (hc : v.category = 1) (k : jm_J I X d M n L (v :: v :: S) μ Q) : jm_J I X d M pc L (v :: S) μ Q := by
  subst hn
  exact fun D ad cI cZ A p l e R s m args below meth c cells slots Qw H locs ls C Wd Ld K => lv_dup C.1.1 C.1.2.1 hd ((jm_cat ad v).trans hc) (k D ad cI cZ A p l e R s m args below meth c cells slots Qw H locs ls C Wd Ld K)
theorem jm_pop {v : Value} (hd : decode M.2.1 pc = .ok (.pop, 1)) (hn : pc + 1 = n) (hc : v.category = 1) (k : jm_J I X d M n L S μ Q) : jm_J I X d M pc L (v :: S) μ Q := by
  subst hn
  exact fun D ad cI cZ A p l e R s m args below meth c cells slots Qw H locs ls C Wd Ld K => lv_pop C.1.1 C.1.2.1 hd ((jm_cat ad v).trans hc) (k D ad cI cZ A p l e R s m args below meth c cells slots Qw H locs ls C Wd Ld K)
theorem jm_dup2 {v w : Value} (hd : decode M.2.1 pc = .ok (.dup2, 1)) (hn : pc + 1 = n) (hc : v.category = 1) (hc2 : w.category = 1) (k : jm_J I X d M n L (v :: w :: v :: w :: S) μ Q) : jm_J I X d M pc L (v :: w :: S) μ Q := by
  subst hn
  exact fun D ad cI cZ A p l e R s m args below meth c cells slots Qw H locs ls C Wd Ld K => lv_dup2_11 C.1.1 C.1.2.1 hd ((jm_cat ad v).trans hc) ((jm_cat ad w).trans hc2) (k D ad cI cZ A p l e R s m args below meth c cells slots Qw H locs ls C Wd Ld K)
theorem jm_icmp_eq {x y : Int32} {off : Int} {tgt : Nat} (hd : decode M.2.1 pc = .ok (.if_icmp .eq off, 3)) (ht : (pc : Int) + off = (tgt : Int)) (hn : pc + 3 = n) (kt : x = y → jm_J I X d M tgt L S μ Q) (kf : ¬ x = y → jm_J I X d M n L S μ Q) : jm_J I X d M pc L (.int y :: .int x :: S) μ Q := by
  subst hn
  exact fun D ad cI cZ A p l e R s m args below meth c cells slots Qw H locs ls C Wd Ld K => lv_icmp_eq C.1.1 C.1.2.1 hd ht (fun h => kt h D ad cI cZ A p l e R s m args below meth c cells slots Qw H locs ls C Wd Ld K) (fun h => kf h D ad cI cZ A p l e R s m args below meth c cells slots Qw H locs ls C Wd Ld K)
theorem jm_if_eq {x : Int32} {off : Int} {tgt : Nat} (hd : decode M.2.1 pc = .ok (.ifCond .eq off, 3)) (ht : (pc : Int) + off = (tgt : Int)) (hn : pc + 3 = n) (kt : x = 0 → jm_J I X d M tgt L S μ Q) (kf : ¬ x = 0 → jm_J I X d M n L S μ Q) : jm_J I X d M pc L (.int x :: S) μ Q := by
  subst hn
  exact fun D ad cI cZ A p l e R s m args below meth c cells slots Qw H locs ls C Wd Ld K => lv_if_eq C.1.1 C.1.2.1 hd ht (fun h => kt h D ad cI cZ A p l e R s m args below meth c cells slots Qw H locs ls C Wd Ld K) (fun h => kf h D ad cI cZ A p l e R s m args below meth c cells slots Qw H locs ls C Wd Ld K)
theorem jm_icmp_ne {x y : Int32} {off : Int} {tgt : Nat} (hd : decode M.2.1 pc = .ok (.if_icmp .ne off, 3)) (ht : (pc : Int) + off = (tgt : Int)) (hn : pc + 3 = n) (kt : ¬ x = y → jm_J I X d M tgt L S μ Q) (kf : x = y → jm_J I X d M n L S μ Q) : jm_J I X d M pc L (.int y :: .int x :: S) μ Q := by
  subst hn
  exact fun D ad cI cZ A p l e R s m args below meth c cells slots Qw H locs ls C Wd Ld K => lv_icmp_ne C.1.1 C.1.2.1 hd ht (fun h => kt h D ad cI cZ A p l e R s m args below meth c cells slots Qw H locs ls C Wd Ld K) (fun h => kf h D ad cI cZ A p l e R s m args below meth c cells slots Qw H locs ls C Wd Ld K)
theorem jm_if_ne {x : Int32} {off : Int} {tgt : Nat} (hd : decode M.2.1 pc = .ok (.ifCond .ne off, 3)) (ht : (pc : Int) + off = (tgt : Int)) (hn : pc + 3 = n) (kt : ¬ x = 0 → jm_J I X d M tgt L S μ Q) (kf : x = 0 → jm_J I X d M n L S μ Q) : jm_J I X d M pc L (.int x :: S) μ Q := by
  subst hn
  exact fun D ad cI cZ A p l e R s m args below meth c cells slots Qw H locs ls C Wd Ld K => lv_if_ne C.1.1 C.1.2.1 hd ht (fun h => kt h D ad cI cZ A p l e R s m args below meth c cells slots Qw H locs ls C Wd Ld K) (fun h => kf h D ad cI cZ A p l e R s m args below meth c cells slots Qw H locs ls C Wd Ld K)
theorem jm_icmp_lt {x y : Int32} {off : Int} {tgt : Nat} (hd : decode M.2.1 pc = .ok (.if_icmp .lt off, 3)) (ht : (pc : Int) + off = (tgt : Int)) (hn : pc + 3 = n) (kt : x < y → jm_J I X d M tgt L S μ Q) (kf : ¬ x < y → jm_J I X d M n L S μ Q) : jm_J I X d M pc L (.int y :: .int x :: S) μ Q := by
  subst hn
  exact fun D ad cI cZ A p l e R s m args below meth c cells slots Qw H locs ls C Wd Ld K => lv_icmp_lt C.1.1 C.1.2.1 hd ht (fun h => kt h D ad cI cZ A p l e R s m args below meth c cells slots Qw H locs ls C Wd Ld K) (fun h => kf h D ad cI cZ A p l e R s m args below meth c cells slots Qw H locs ls C Wd Ld K)
theorem jm_if_lt {x : Int32} {off : Int} {tgt : Nat} (hd : decode M.2.1 pc = .ok (.ifCond .lt off, 3)) (ht : (pc : Int) + off = (tgt : Int)) (hn : pc + 3 = n) (kt : x < 0 → jm_J I X d M tgt L S μ Q) (kf : ¬ x < 0 → jm_J I X d M n L S μ Q) : jm_J I X d M pc L (.int x :: S) μ Q := by
  subst hn
  exact fun D ad cI cZ A p l e R s m args below meth c cells slots Qw H locs ls C Wd Ld K => lv_if_lt C.1.1 C.1.2.1 hd ht (fun h => kt h D ad cI cZ A p l e R s m args below meth c cells slots Qw H locs ls C Wd Ld K) (fun h => kf h D ad cI cZ A p l e R s m args below meth c cells slots Qw H locs ls C Wd Ld K)
theorem jm_icmp_ge {x y : Int32} {off : Int} {tgt : Nat} (hd : decode M.2.1 pc = .ok (.if_icmp .ge off, 3)) (ht : (pc : Int) + off = (tgt : Int)) (hn : pc + 3 = n) (kt : y ≤ x → jm_J I X d M tgt L S μ Q) (kf : ¬ y ≤ x → jm_J I X d M n L S μ Q) : jm_J I X d M pc L (.int y :: .int x :: S) μ Q := by
  subst hn
  exact fun D ad cI cZ A p l e R s m args below meth c cells slots Qw H locs ls C Wd Ld K => lv_icmp_ge C.1.1 C.1.2.1 hd ht (fun h => kt h D ad cI cZ A p l e R s m args below meth c cells slots Qw H locs ls C Wd Ld K) (fun h => kf h D ad cI cZ A p l e R s m args below meth c cells slots Qw H locs ls C Wd Ld K)
theorem jm_if_ge {x : Int32} {off : Int} {tgt : Nat} (hd : decode M.2.1 pc = .ok (.ifCond .ge off, 3)) (ht : (pc : Int) + off = (tgt : Int)) (hn : pc + 3 = n) (kt : 0 ≤ x → jm_J I X d M tgt L S μ Q) (kf : ¬ 0 ≤ x → jm_J I X d M n L S μ Q) : jm_J I X d M pc L (.int x :: S) μ Q := by
  subst hn
  exact fun D ad cI cZ A p l e R s m args below meth c cells slots Qw H locs ls C Wd Ld K => lv_if_ge C.1.1 C.1.2.1 hd ht (fun h => kt h D ad cI cZ A p l e R s m args below meth c cells slots Qw H locs ls C Wd Ld K) (fun h => kf h D ad cI cZ A p l e R s m args below meth c cells slots Qw H locs ls C Wd Ld K)
theorem jm_icmp_gt {x y : Int32} {off : Int} {tgt : Nat} (hd : decode M.2.1 pc = .ok (.if_icmp .gt off, 3)) (ht : (pc : Int) + off = (tgt : Int)) (hn : pc + 3 = n) (kt : y < x → jm_J I X d M tgt L S μ Q) (kf : ¬ y < x → jm_J I X d M n L S μ Q) : jm_J I X d M pc L (.int y :: .int x :: S) μ Q := by
  subst hn
  exact fun D ad cI cZ A p l e R s m args below meth c cells slots Qw H locs ls C Wd Ld K => lv_icmp_gt C.1.1 C.1.2.1 hd ht (fun h => kt h D ad cI cZ A p l e R s m args below meth c cells slots Qw H locs ls C Wd Ld K) (fun h => kf h D ad cI cZ A p l e R s m args below meth c cells slots Qw H locs ls C Wd Ld K)
theorem jm_if_gt {x : Int32} {off : Int} {tgt : Nat} (hd : decode M.2.1 pc = .ok (.ifCond .gt off, 3)) (ht : (pc : Int) + off = (tgt : Int)) (hn : pc + 3 = n) (kt : 0 < x → jm_J I X d M tgt L S μ Q) (kf : ¬ 0 < x → jm_J I X d M n L S μ Q) : jm_J I X d M pc L (.int x :: S) μ Q := by
  subst hn
  exact fun D ad cI cZ A p l e R s m args below meth c cells slots Qw H locs ls C Wd Ld K => lv_if_gt C.1.1 C.1.2.1 hd ht (fun h => kt h D ad cI cZ A p l e R s m args below meth c cells slots Qw H locs ls C Wd Ld K) (fun h => kf h D ad cI cZ A p l e R s m args below meth c cells slots Qw H locs ls C Wd Ld K)
theorem jm_icmp_le {x y : Int32} {off : Int} {tgt : Nat} (hd : decode M.2.1 pc = .ok (.if_icmp .le off, 3)) (ht : (pc : Int) + off = (tgt : Int)) (hn : pc + 3 = n) (kt : x ≤ y → jm_J I X d M tgt L S μ Q) (kf : ¬ x ≤ y → jm_J I X d M n L S μ Q) : jm_J I X d M pc L (.int y :: .int x :: S) μ Q := by
  subst hn
  exact fun D ad cI cZ A p l e R s m args below meth c cells slots Qw H locs ls C Wd Ld K => lv_icmp_le C.1.1 C.1.2.1 hd ht (fun h => kt h D ad cI cZ A p l e R s m args below meth c cells slots Qw H locs ls C Wd Ld K) (fun h => kf h D ad cI cZ A p l e R s m args below meth c cells slots Qw H locs ls C Wd Ld K)
theorem jm_if_le {x : Int32} {off : Int} {tgt : Nat} (hd : decode M.2.1 pc = .ok (.ifCond .le off, 3)) (ht : (pc : Int) + off = (tgt : Int)) (hn : pc + 3 = n) (kt : x ≤ 0 → jm_J I X d M tgt L S μ Q) (kf : ¬ x ≤ 0 → jm_J I X d M n L S μ Q) : jm_J I X d M pc L (.int x :: S) μ Q := by
  subst hn
  exact fun D ad cI cZ A p l e R s m args below meth c cells slots Qw H locs ls C Wd Ld K => lv_if_le C.1.1 C.1.2.1 hd ht (fun h => kt h D ad cI cZ A p l e R s m args below meth c cells slots Qw H locs ls C Wd Ld K) (fun h => kf h D ad cI cZ A p l e R s m args below meth c cells slots Qw H locs ls C Wd Ld K)
theorem jm_goto {off : Int} (hd : decode M.2.1 pc = .ok (.goto off, 3)) (ht : (pc : Int) + off = (n : Int)) (k : jm_J I X d M n L S μ Q) : jm_J I X d M pc L S μ Q := 
  fun D ad cI cZ A p l e R s m args below meth c cells slots Qw H locs ls C Wd Ld K => lv_goto C.1.1 C.1.2.1 hd ht (k D ad cI cZ A p l e R s m args below meth c cells slots Qw H locs ls C Wd Ld K)
theorem jm_tabIn {dflt lo hi off : Int} {offs : Array Int} {len : Nat} {x : Int32} (hd : decode M.2.1 pc = .ok (.tableswitch dflt lo hi offs, len)) (h1 : ¬ x.toInt < lo) (h2 : ¬ hi < x.toInt) (ho : offs[(x.toInt - lo).toNat]? = some off) (ht : (pc : Int) + off = (n : Int)) (k : jm_J I X d M n L S μ Q) : jm_J I X d M pc L (.int x :: S) μ Q :=
  fun D ad cI cZ A p l e R s m args below meth c cells slots Qw H locs ls C Wd Ld K => lv_tableIn C.1.1 C.1.2.1 hd h1 h2 ho ht (k D ad cI cZ A p l e R s m args below meth c cells slots Qw H locs ls C Wd Ld K)
theorem jm_tabOut {dflt lo hi : Int} {offs : Array Int} {len : Nat} {x : Int32} (hd : decode M.2.1 pc = .ok (.tableswitch dflt lo hi offs, len)) (h : x.toInt < lo ∨ hi < x.toInt) (ht : (pc : Int) + dflt = (n : Int)) (k : jm_J I X d M n L S μ Q) : jm_J I X d M pc L (.int x :: S) μ Q :=
  fun D ad cI cZ A p l e R s m args below meth c cells slots Qw H locs ls C Wd Ld K => lv_tableOut C.1.1 C.1.2.1 hd h ht (k D ad cI cZ A p l e R s m args below meth c cells slots Qw H locs ls C Wd Ld K)
theorem jm_iret {x : Int32} {ty : FieldType} (hd : decode M.2.1 pc = .ok (.ireturn, 1)) (hr : M.2.2.2 = some ty) (hw : narrow ty (.int x) = .int x) (h : Q (some (.int x)) μ) : jm_J I X d M pc L [.int x] μ Q :=
  fun D ad cI cZ A p l e R s m args below meth c cells slots Qw H locs ls C Wd Ld K => K (some (.int x)) μ H locs ls pc h Wd (Or.inr (Or.inl ⟨x, ty, rfl, hr, hw, hd⟩))
theorem jm_lret {x : Int64} (hd : decode M.2.1 pc = .ok (.lreturn, 1)) (hr : M.2.2.2 = some .long) (h : Q (some (.long x)) μ) : jm_J I X d M pc L [.long x] μ Q :=
  fun D ad cI cZ A p l e R s m args below meth c cells slots Qw H locs ls C Wd Ld K => K (some (.long x)) μ H locs ls pc h Wd (Or.inr (Or.inr ⟨x, rfl, hr, hd⟩))
theorem jm_vret (hd : decode M.2.1 pc = .ok (.return_, 1)) (hr : M.2.2.2 = none) (h : Q none μ) : jm_J I X d M pc L [] μ Q :=
  fun D ad cI cZ A p l e R s m args below meth c cells slots Qw H locs ls C Wd Ld K => K none μ H locs ls pc h Wd (Or.inl ⟨rfl, hr, hd⟩)
theorem jm_iald {a n0 j : Nat} {i : Int32} (hd : decode M.2.1 pc = .ok (.iaload, 1)) (hn : pc + 1 = n) (hI : I.contains a = true) (hs : jm_sh a = .inl (false, n0)) (hl : n0 < 2 ^ 31) (hi : i = nI j) (hj : j < n0) (k : jm_J I X d M n L (.int (μ a j) :: S) μ Q) : jm_J I X d M pc L (.int i :: .ref a :: S) μ Q := by
  subst hn
  subst hi
  refine fun D ad cI cZ A p l e R s m args below meth c cells slots Qw H locs ls C Wd Ld K => ?_
  obtain ⟨q0, h1, h2⟩ := jm_ws_at (ad := ad) (cI := cI) (cZ := cZ) (μ := μ) hI
  rw [jm_ce_arr hs] at h2
  refine va_iald C.1.1 C.1.2.1 C.2.2.2.1 Wd.1 q0 0 h2 rfl (vp_in_nI hj hl) hd ?_
  rw [nI_clamp (Nat.lt_trans hj hl)]
  exact k D ad cI cZ A p l e R s m args below meth c cells slots Qw H locs ls C Wd Ld K
theorem jm_zald {a n0 j : Nat} {i : Int32} (hd : decode M.2.1 pc = .ok (.baload, 1)) (hn : pc + 1 = n) (hI : I.contains a = true) (hs : jm_sh a = .inl (true, n0)) (hl : n0 < 2 ^ 31) (hi : i = nI j) (hj : j < n0) (k : jm_J I X d M n L (.int (μ a j) :: S) μ Q) : jm_J I X d M pc L (.int i :: .ref a :: S) μ Q := by
  subst hn
  subst hi
  refine fun D ad cI cZ A p l e R s m args below meth c cells slots Qw H locs ls C Wd Ld K => ?_
  obtain ⟨q0, h1, h2⟩ := jm_ws_at (ad := ad) (cI := cI) (cZ := cZ) (μ := μ) hI
  rw [jm_ce_arr hs] at h2
  refine va_zald C.1.1 C.1.2.1 C.2.2.2.1 Wd.1 q0 1 h2 rfl (vp_in_nI hj hl) hd ?_
  rw [nI_clamp (Nat.lt_trans hj hl)]
  exact k D ad cI cZ A p l e R s m args below meth c cells slots Qw H locs ls C Wd Ld K
theorem jm_iast {a n0 j : Nat} {i x : Int32} (hd : decode M.2.1 pc = .ok (.iastore, 1)) (hn : pc + 1 = n) (hI : I.contains a = true) (hs : jm_sh a = .inl (false, n0)) (hl : n0 < 2 ^ 31) (hi : i = nI j) (hj : j < n0) (k : jm_J I X d M n L S (jm_set μ a j x) Q) : jm_J I X d M pc L (.int x :: .int i :: .ref a :: S) μ Q := by
  subst hn
  subst hi
  refine fun D ad cI cZ A p l e' R s m args below meth c cells slots Qw H locs ls C Wd Ld K => ?_
  obtain ⟨q0, h1, h2⟩ := jm_ws_at (ad := ad) (cI := cI) (cZ := cZ) (μ := μ) hI
  rw [jm_ce_arr hs] at h2
  refine va_iast C.1.1 C.1.2.1 C.2.2.2.1 Wd.1 Wd.2.1 Wd.2.2 q0 0 h2 rfl (vp_in_nI hj hl) hd (fun H1 locs1 p1 p2 p3 => ?_)
  have e : (jm_ws I ad cI cZ μ).set q0 (ad a, .inl (cI, n0, .inl (upd (μ a) (nI j).toNatClampNeg x))) = jm_ws I ad cI cZ (jm_set μ a j x) := by
    rw [← jm_ws_set Wd.2.1 h1 (μ' := jm_set μ a j x) jm_set_ne, jm_ce_arr hs, nI_clamp (Nat.lt_trans hj hl), jm_set_eq]
    rfl
  rw [show ((bif false then cZ else cI) = cI) from rfl, e] at p1 p2
  exact k D ad cI cZ A p l e' R s m args below meth c cells slots Qw H1 locs1 ls C ⟨p1, p2, p3⟩ Ld K
theorem jm_zast {a n0 j : Nat} {i x : Int32} (hd : decode M.2.1 pc = .ok (.bastore, 1)) (hn : pc + 1 = n) (hI : I.contains a = true) (hs : jm_sh a = .inl (true, n0)) (hl : n0 < 2 ^ 31) (hi : i = nI j) (hj : j < n0) (hx : vp_nar .boolean x = x) (k : jm_J I X d M n L S (jm_set μ a j x) Q) : jm_J I X d M pc L (.int x :: .int i :: .ref a :: S) μ Q := by
  subst hn
  subst hi
  refine fun D ad cI cZ A p l e' R s m args below meth c cells slots Qw H locs ls C Wd Ld K => ?_
  obtain ⟨q0, h1, h2⟩ := jm_ws_at (ad := ad) (cI := cI) (cZ := cZ) (μ := μ) hI
  rw [jm_ce_arr hs] at h2
  refine va_zast C.1.1 C.1.2.1 C.2.2.2.1 Wd.1 Wd.2.1 Wd.2.2 q0 1 h2 rfl (vp_in_nI hj hl) hd (fun H1 locs1 p1 p2 p3 => ?_)
  have e : (jm_ws I ad cI cZ μ).set q0 (ad a, .inl (cZ, n0, .inl (upd (μ a) (nI j).toNatClampNeg (vp_nar .boolean x)))) = jm_ws I ad cI cZ (jm_set μ a j x) := by
    rw [← jm_ws_set Wd.2.1 h1 (μ' := jm_set μ a j x) jm_set_ne, jm_ce_arr hs, nI_clamp (Nat.lt_trans hj hl), jm_set_eq, hx]
    rfl
  rw [show ((bif true then cZ else cI) = cZ) from rfl, e] at p1 p2
  exact k D ad cI cZ A p l e' R s m args below meth c cells slots Qw H1 locs1 ls C ⟨p1, p2, p3⟩ Ld K
theorem jm_alen {a n0 : Nat} {b : Bool} (hd : decode M.2.1 pc = .ok (.arraylength, 1)) (hn : pc + 1 = n) (hI : I.contains a = true) (hs : jm_sh a = .inl (b, n0)) (k : jm_J I X d M n L (.int (nI n0) :: S) μ Q) : jm_J I X d M pc L (.ref a :: S) μ Q := by
  subst hn
  refine fun D ad cI cZ A p l e R s m args below meth c cells slots Qw H locs ls C Wd Ld K => ?_
  obtain ⟨q0, h1, h2⟩ := jm_ws_at (ad := ad) (cI := cI) (cZ := cZ) (μ := μ) hI
  rw [jm_ce_arr hs] at h2
  cases b with
  | false => exact va_alen C.1.1 C.1.2.1 C.2.2.2.1 Wd.1 q0 0 h2 rfl rfl hd (k D ad cI cZ A p l e R s m args below meth c cells slots Qw H locs ls C Wd Ld K)
  | true => exact va_alen C.1.1 C.1.2.1 C.2.2.2.1 Wd.1 q0 1 h2 rfl rfl hd (k D ad cI cZ A p l e R s m args below meth c cells slots Qw H locs ls C Wd Ld K)
theorem jm_xld {a n0 j : Nat} {nm : Option String} {f : Nat → Int32} {i : Int32} (hd : decode M.2.1 pc = .ok (.iaload, 1)) (hn : pc + 1 = n) (hX : (a, nm, n0, f) ∈ X) (hl : n0 < 2 ^ 31) (hi : i = nI j) (hj : j < n0) (k : jm_J I X d M n L (.int (f j) :: S) μ Q) : jm_J I X d M pc L (.int i :: .ref a :: S) μ Q := by
  subst hn
  subst hi
  refine fun D ad cI cZ A p l e R s m args below meth c cells slots Qw H locs ls C Wd Ld K => ?_
  exact va_ti C.1.1 C.1.2.1 (C.2.2.2.2.2.1 _ hX).1 Wd.2.2 (vp_in_nI hj hl) (by rw [nI_clamp (Nat.lt_trans hj hl)]; rfl) hd (k D ad cI cZ A p l e R s m args below meth c cells slots Qw H locs ls C Wd Ld K)
theorem jm_xlen {a n0 : Nat} {nm : Option String} {f : Nat → Int32} (hd : decode M.2.1 pc = .ok (.arraylength, 1)) (hn : pc + 1 = n) (hX : (a, nm, n0, f) ∈ X) (k : jm_J I X d M n L (.int (nI n0) :: S) μ Q) : jm_J I X d M pc L (.ref a :: S) μ Q := by
  subst hn
  exact fun D ad cI cZ A p l e R s m args below meth c cells slots Qw H locs ls C Wd Ld K => va_tlen C.1.1 C.1.2.1 (C.2.2.2.2.2.1 _ hX).1 Wd.2.2 rfl hd (k D ad cI cZ A p l e R s m args below meth c cells slots Qw H locs ls C Wd Ld K)
theorem jm_gets {a n0 ix : Nat} {nm host : String} {f : Nat → Int32} (hd : decode M.2.1 pc = .ok (.getstatic ix, 3)) (hn : pc + 3 = n) (hX : (a, some nm, n0, f) ∈ X) (hl : Cond.fieldLinkNest M.1.cls ix RX6 nm "[I" host ∈ jm_nw) (k : jm_J I X d M n L (.ref a :: S) μ Q) : jm_J I X d M pc L S μ Q := by
  subst hn
  exact fun D ad cI cZ A p l e R s m args below meth c cells slots Qw H locs ls C Wd Ld K => va_getsN C.1.1 C.1.2.1 ((C.2.2.2.2.2.1 _ hX).2 nm rfl) Wd.2.2 C.1.2.2.2.1 (va_Nw.use rfl (C.2.2.1 _ hl)) (fun _ h => h) hd (k D ad cI cZ A p l e R s m args below meth c cells slots Qw H locs ls C Wd Ld K)
/-- a field's evidence: in class own's pool, ix names slot k of class number ci -/
def jm_FE (own : String) (ix ci k : Nat) : Prop := ∃ (C : String) (T : u_T) (N : Nat), vwCl[ci]? = some (C, T, N) ∧ k < N ∧ (∀ w ∈ u_ws C T N, w ∈ jm_gw) ∧ (T k).1 = C ∧ (Cond.fieldLink own ix C (T k).2.1 (T k).2.2.1 ∈ jm_gw ∨ ∃ host, Cond.fieldLinkNest own ix C (T k).2.1 (T k).2.2.1 host ∈ jm_nw)
def jm_PE (own : String) (ix ci k : Nat) : Prop := ∃ (C : String) (T : u_T) (N : Nat) (ty0 : Nat → FieldType), vwCl[ci]? = some (C, T, N) ∧ k < N ∧ (∀ w ∈ u_ws C T N, w ∈ jm_gw) ∧ (T k).1 = C ∧ (Cond.fieldLink own ix C (T k).2.1 (T k).2.2.1 ∈ jm_gw ∨ ∃ host, Cond.fieldLinkNest own ix C (T k).2.1 (T k).2.2.1 host ∈ jm_nw) ∧ (∀ k, k < N → parseFieldDescriptor (T k).2.2.1 = some (ty0 k)) ∧ (∀ a, a < N → ∀ b, b < N → a ≠ b → (T a).2.1 ≠ (T b).2.1) ∧ (T k).2.2.2 = false ∧ parseFieldDescriptor (T k).2.2.1 = some .int
theorem jm_getf {a ix ci kf : Nat} {fl : List (Option Nat)} {o : Option Nat} {v : Value} (hd : decode M.2.1 pc = .ok (.getfield ix, 3)) (hn : pc + 3 = n) (hf : jm_FE M.1.cls ix ci kf) (hI : I.contains a = true) (hs : jm_sh a = .inr (ci, fl)) (ho : fl[kf]? = some o) (hv : ∀ ad : Nat → Nat, jm_ov ad (μ a kf) o = jm_cv ad v) (k : jm_J I X d M n L (v :: S) μ Q) : jm_J I X d M pc L (.ref a :: S) μ Q := by
  subst hn
  refine fun D ad cI cZ A p l e R s m args below meth c cells slots Qw H locs ls C Wd Ld K => ?_
  obtain ⟨q0, h1, h2⟩ := jm_ws_at (ad := ad) (cI := cI) (cZ := cZ) (μ := μ) hI
  rw [jm_ce_obj hs] at h2
  obtain ⟨C0, T, N, hc, hk, hin, hT, hl⟩ := hf
  have hg := jm_fl_get (ad := ad) (f := μ a) fl 0 kf o ho
  rw [Nat.zero_add, hv ad] at hg
  rcases hl with hl | ⟨host, hl⟩
  · exact va_get C.1.1 C.1.2.1 (Ts := jm_gw) C.2.1 hin C.1.2.2.2.1 C.2.2.2.1 Wd.1 q0 h2 hc kf hk (C.2.1 _ hl) (fun x hx => by rw [hT] at hx; exact hx) hg hd (k D ad cI cZ A p l e R s m args below meth c cells slots Qw H locs ls C Wd Ld K)
  · exact va_getN C.1.1 C.1.2.1 (Ts := jm_gw) C.2.1 hin C.1.2.2.2.1 C.2.2.2.1 Wd.1 q0 h2 hc kf hk (va_Nw.use rfl (C.2.2.1 _ hl)) (fun x hx => by rw [hT] at hx; exact hx) hg hd (k D ad cI cZ A p l e R s m args below meth c cells slots Qw H locs ls C Wd Ld K)
theorem jm_getr {a ix ci kf j : Nat} {fl : List (Option Nat)} (hd : decode M.2.1 pc = .ok (.getfield ix, 3)) (hn : pc + 3 = n) (hf : jm_FE M.1.cls ix ci kf) (hI : I.contains a = true) (hs : jm_sh a = .inr (ci, fl)) (ho : fl[kf]? = some (some j)) (k : jm_J I X d M n L (.ref j :: S) μ Q) : jm_J I X d M pc L (.ref a :: S) μ Q := jm_getf hd hn hf hI hs ho (fun _ => rfl) k
theorem jm_geti {a ix ci kf : Nat} {fl : List (Option Nat)} (hd : decode M.2.1 pc = .ok (.getfield ix, 3)) (hn : pc + 3 = n) (hf : jm_FE M.1.cls ix ci kf) (hI : I.contains a = true) (hs : jm_sh a = .inr (ci, fl)) (ho : fl[kf]? = some none) (k : jm_J I X d M n L (.int (μ a kf) :: S) μ Q) : jm_J I X d M pc L (.ref a :: S) μ Q := jm_getf hd hn hf hI hs ho (fun _ => rfl) k
theorem jm_puti {a ix ci kf : Nat} {fl : List (Option Nat)} {x : Int32} (hd : decode M.2.1 pc = .ok (.putfield ix, 3)) (hn : pc + 3 = n) (hf : jm_PE M.1.cls ix ci kf) (hI : I.contains a = true) (hs : jm_sh a = .inr (ci, fl)) (ho : fl[kf]? = some none) (k : jm_J I X d M n L S (jm_set μ a kf x) Q) : jm_J I X d M pc L (.int x :: .ref a :: S) μ Q := by
  subst hn
  refine fun D ad cI cZ A p l e' R s m args below meth c cells slots Qw H locs ls C Wd Ld K => ?_
  obtain ⟨q0, h1, h2⟩ := jm_ws_at (ad := ad) (cI := cI) (cZ := cZ) (μ := μ) hI
  rw [jm_ce_obj hs] at h2
  obtain ⟨C0, T, N, ty0, hc, hk, hin, hT, hl, hty, hnm, hfin, hpd⟩ := hf
  have hlen : kf < (jm_fl ad (μ a) 0 fl).length := by rw [jm_fl_len]; exact (List.getElem?_eq_some_iff.mp ho).1
  have e : (jm_ws I ad cI cZ μ).set q0 (ad a, .inr (ci, (jm_fl ad (μ a) 0 fl).set kf (.int x))) = jm_ws I ad cI cZ (jm_set μ a kf x) := by
    rw [← jm_ws_set Wd.2.1 h1 (μ' := jm_set μ a kf x) jm_set_ne, jm_ce_obj hs, jm_set_eq, jm_fl_set fl 0 kf ho, Nat.zero_add]
  have kk : ∀ (H1 : Heap) (locs1 : List Loc), va_P D vwCl ((jm_ws I ad cI cZ μ).set q0 (ad a, .inr (ci, (jm_fl ad (μ a) 0 fl).set kf (.int x)))) H1 → va_D A ((jm_ws I ad cI cZ μ).set q0 (ad a, .inr (ci, (jm_fl ad (μ a) 0 fl).set kf (.int x)))) → va_S A s.heap H1 locs1 → W p l e' R s m args below meth c H1 locs1 cells slots Qw (F0 m (pc + 3) ls (S.map (jm_cv ad))) := by
    intro H1 locs1 p1 p2 p3
    rw [e] at p1 p2
    exact k D ad cI cZ A p l e' R s m args below meth c cells slots Qw H1 locs1 ls C ⟨p1, p2, p3⟩ Ld K
  rcases hl with hl | ⟨host, hl⟩
  · exact va_put C.1.1 C.1.2.1 (Ts := jm_gw) C.2.1 hin ty0 hty hnm C.1.2.2.2.1 C.2.2.2.1 Wd.1 Wd.2.1 Wd.2.2 q0 h2 hc kf hk (C.2.1 _ hl) (fun x hx => by rw [hT] at hx; exact hx) hfin hpd rfl rfl hlen hd kk
  · exact va_putN C.1.1 C.1.2.1 (Ts := jm_gw) C.2.1 hin ty0 hty hnm C.1.2.2.2.1 C.2.2.2.1 Wd.1 Wd.2.1 Wd.2.2 q0 h2 hc kf hk (va_Nw.use rfl (C.2.2.1 _ hl)) (fun x hx => by rw [hT] at hx; exact hx) hfin hpd rfl rfl hlen hd kk
end JmRules
end
section
/-! calls in the simpler machine -/
def jm_en (nL : Nat) (As : List Value) : List (Option Value) := (fun l => l ++ List.replicate (nL - l.length) none) (As.flatMap fun v => bif v.category == 2 then [some v, none] else [some v])
theorem jm_en_mem {ad : Nat → Nat} : ∀ (As : List Value) (k i : Nat) (v : Value), (As.flatMap fun v => bif v.category == 2 then [some v, none] else [some v])[i]? = some (some v) → (k + i, jm_cv ad v) ∈ lv_args k (As.map (jm_cv ad))
  | [], k, i, v, h => by simp at h
  | w :: t, k, i, v, h => by
    rw [List.flatMap_cons] at h
    have hc := jm_cat ad w
    by_cases h2 : w.category = 2
    · rw [h2] at hc
      simp only [h2, beq_self_eq_true, cond_true] at h
      match i, h with
      | 0, h =>
        simp at h
        subst h
        simp [lv_args]
      | 1, h => simp at h
      | i + 2, h =>
        have := jm_en_mem (ad := ad) t (k + 2) i v (by simpa using h)
        rw [show k + 2 + i = k + (i + 2) by omega] at this
        simp only [List.map_cons, lv_args, hc]
        exact List.mem_cons_of_mem _ (by simpa using this)
    · have h2' : (w.category == 2) = false := by simpa using h2
      simp only [h2', cond_false] at h
      match i, h with
      | 0, h =>
        simp at h
        subst h
        simp [lv_args]
      | i + 1, h =>
        have := jm_en_mem (ad := ad) t (k + 1) i v (by simpa using h)
        rw [show k + 1 + i = k + (i + 1) by omega] at this
        simp only [List.map_cons, lv_args, hc]
        exact List.mem_cons_of_mem _ (by simpa [h2] using this)
def jm_aw (As : List Value) : Nat := (As.flatMap fun v => bif v.category == 2 then [some v, none] else [some v]).length
theorem jm_aw_sl {ad : Nat → Nat} : ∀ As : List Value, (lg_sl (As.map (jm_cv ad))).length = jm_aw As
  | [] => rfl
  | w :: t => by
    have ih := jm_aw_sl (ad := ad) t
    have hc := jm_cat ad w
    simp only [lg_sl, jm_aw, List.map_cons, List.flatMap_cons, List.length_append, hc] at ih ⊢
    rw [ih]
    by_cases h2 : w.category = 2
    · simp [h2]
    · have h2' : (w.category == 2) = false := by simpa using h2
      simp [h2, h2']
def jm_Pr (I : List Nat) (X : jm_Ex) (D : va_G) (ad : Nat → Nat) (cI cZ : ClassId) (sz : Nat) (μ : jm_Mem) (U : State) : Prop :=
  U.heap.size = sz ∧ va_P D vwCl (jm_ws I ad cI cZ μ) U.heap ∧ va_K D vwCl [(cI, .int), (cZ, .boolean)] U ∧ va_D (fun _ => True) (jm_ws I ad cI cZ μ) ∧ (∀ w ∈ jm_nw, va_Nw w U) ∧ jm_St X ad (va_A (jm_ws I ad cI cZ μ) sz) U U.heap
def jm_Po (I : List Nat) (Q : Option Value → jm_Mem → Prop) (D : va_G) (ad : Nat → Nat) (cI cZ : ClassId) (A : Nat → Prop) : Array Value → State → Outcome → State → Prop := fun _ st oc t =>
  (∃ (v : Option Value) (μ' : jm_Mem), oc = .returned (v.map (jm_cv ad)) ∧ Q v μ' ∧ va_P D vwCl (jm_ws I ad cI cZ μ') t.heap ∧ va_D A (jm_ws I ad cI cZ μ')) ∧ va_F A st t
def jm_rm (d : Nat) : Room := { frames := d + 1, cells := 0, slots := 0, locals := 64 * (d + 1) }
set_option maxHeartbeats 4000000 in
theorem jm_met {I : List Nat} {X : jm_Ex} {d : Nat} {M : jm_MI} {As : List Value} {μ : jm_Mem} {Q : Option Value → jm_Mem → Prop} (hJ : jm_J I X d M 0 (jm_en M.2.2.1 As) [] μ Q) (hpl : plainName M.1.cls = true) (hlen : jm_aw As ≤ M.2.2.1) (l : Launch) (D : va_G) (ad : Nat → Nat) (cI cZ : ClassId) (sz : Nat) :
    Met l M.1 (jm_wd M) (jm_rm d) (va_Pc (As.map (jm_cv ad)) (jm_Pr I X D ad cI cZ sz μ)) (jm_Po I Q D ad cI cZ (va_A (jm_ws I ad cI cZ μ) sz)) 0 0 (va_A (jm_ws I ad cI cZ μ) sz) := by
  refine Met.ofW (cc := M.2.1) (maxL := M.2.2.1) (ret := M.2.2.2) hpl rfl ?_
  intro p e s m args below meth c s₁ B hml hv
  obtain ⟨rfl, hsz, hP, hK, hD0, hN, hSt⟩ := hv
  have hts := atoms_spec (ws := jm_wd M) B.pre
  have hown : s.vm.findClass M.1.cls = some m.cls := findClass_of_methodNamed B.named
  subst hsz
  have hD := hD0.self (sz := s.heap.size)
  have hA : ∀ q : Nat, s.heap.size ≤ q → va_A (jm_ws I ad cI cZ μ) s.heap.size q := fun q h => Or.inr h
  have hS : va_S (va_A (jm_ws I ad cI cZ μ) s.heap.size) s.heap s.heap [] := va_S.rf
  have hl := lv_entry (As.map (jm_cv ad)) (n := M.2.2.1) (by rw [jm_aw_sl]; exact hlen)
  rw [lg_entry_eq]
  generalize (lg_sl (As.map (jm_cv ad)) ++ List.replicate (M.2.2.1 - (lg_sl (As.map (jm_cv ad))).length) Slot.unset).toArray = ls at hl ⊢
  refine hJ D ad cI cZ (va_A (jm_ws I ad cI cZ μ) s.heap.size) p l e (headSpec (jm_wd M) (jm_rm d)).room s m _ below meth c 0 0 _ s.heap [] ls ?_ ⟨hP, hD, hS⟩ ?_ ?_
  · exact ⟨⟨B.exec, B.bytes, hml, hown, B.notSynchronized, B.returns⟩, fun w hw => hts w (List.mem_cons_of_mem _ hw), hN, hK, hA, hSt, Nat.le_refl _, Nat.le_refl _, Nat.le_refl _, Nat.le_refl _⟩
  · refine ⟨⟨hl.1, hl.2.1, fun _ h => by cases h⟩, ?_, fun i v hi => ?_⟩
    · simp only [jm_en, List.length_append, List.length_replicate]
      simp only [jm_aw] at hlen
      omega
    · simp only [jm_en] at hi
      rw [List.getElem?_append] at hi
      split at hi
      · have := jm_en_mem (ad := ad) As 0 i v hi
        rw [Nat.zero_add] at this
        exact hl.2.2 _ this
      · rw [List.getElem?_replicate] at hi
        split at hi <;> simp at hi
  · intro v μ' H' locs' ls' pc' hQ hW hR
    rcases hR with ⟨rfl, hr, hd⟩ | ⟨x, ty, rfl, hr, hn, hd⟩ | ⟨x, rfl, hr, hd⟩
    · exact W.vret B.exec B.bytes (B.returns.trans hr) (fun t ht hw => ⟨⟨none, μ', rfl, hQ, by rw [ht]; exact hW.1, hW.2.1⟩, hW.2.2.F ht⟩) hW.2.2.2.2 hd
    · exact W.zret B.exec B.bytes (B.returns.trans hr) hn (fun t ht hw => ⟨⟨some (.int x), μ', rfl, hQ, by rw [ht]; exact hW.1, hW.2.1⟩, hW.2.2.F ht⟩) hW.2.2.2.2 hd
    · exact W.lret B.exec B.bytes (B.returns.trans hr) (fun t ht hw => ⟨⟨some (.long x), μ', rfl, hQ, by rw [ht]; exact hW.1, hW.2.1⟩, hW.2.2.F ht⟩) hW.2.2.2.2 hd
theorem jm_nw_tab {w : Cond} (h : w ∈ jm_nw) : w.onTables = true := by
  have := (List.mem_filter.mp h).2
  cases w <;> simp [jm_isN] at this <;> rfl
theorem jm_nw_warm {w : Cond} {s U : State} (h : w ∈ jm_nw) (hW : s.WarmedH U.vm) (hz : va_Nw w s) : va_Nw w U := by
  have := (List.mem_filter.mp h).2
  cases w <;> simp [jm_isN] at this
  · first | exact va_Nw.warmF hW hz | exact va_Nw.warmM hW hz
  · first | exact va_Nw.warmF hW hz | exact va_Nw.warmM hW hz
theorem jm_blind {I : List Nat} {X : jm_Ex} {D : va_G} {ad : Nat → Nat} {cI cZ : ClassId} {sz : Nat} {μ : jm_Mem} {av : List Value} : FrameBlind (va_Pc av (jm_Pr I X D ad cI cZ sz μ)) := by
  intro a U g mk q
  obtain ⟨q0, q1, qP, qK, qD, qN, qS⟩ := q
  exact ⟨q0, q1, qP, va_K.moved (u := U) (U := U.calling g mk a) (Vm.Alike.refl U.vm) qK, qD, fun w hw => va_Nw.same (u := U) (U := U.calling g mk a) (jm_nw_tab hw) rfl (qN w hw), fun q hq => ⟨va_T.moved (u := U) (U := U.calling g mk a) (Vm.Alike.refl U.vm) (qS q hq).1, fun nm h => va_Z.moved (u := U) (U := U.calling g mk a) (Vm.Alike.refl U.vm) ((qS q hq).2 nm h)⟩⟩
theorem jm_free {I : List Nat} {D : va_G} {ad : Nat → Nat} {cI cZ : ClassId} {A : Nat → Prop} {s : State} {μ : jm_Mem} {H : Heap} {locs : List Loc} (W : jm_Wo I D ad cI cZ A s μ H locs) (hA : ∀ q, s.heap.size ≤ q → A q) : ∀ q, va_A (jm_ws I ad cI cZ μ) H.size q → A q := by
  intro q h
  rcases h with ⟨k, e, h⟩ | h
  · exact W.2.1.2 k _ h
  · exact hA q (Nat.le_trans W.2.2.1 h)
theorem jm_pre {I : List Nat} {X : jm_Ex} {d : Nat} {M : jm_MI} {D : va_G} {ad : Nat → Nat} {cI cZ : ClassId} {A : Nat → Prop} {p : Program} {R : Room} {s : State} {m : MethodId} {args : Array Value} {meth : Method} {c : Code} {cells slots : Nat} {μ : jm_Mem} {H : Heap} {locs : List Loc}
    (C : jm_Cx X d M D ad cI cZ A p R s m args meth c cells slots) (W : jm_Wo I D ad cI cZ A s μ H locs) {av : List Value} : ∀ U : State, U.heap = H → s.WarmedH U.vm → va_Pc av (jm_Pr I X D ad cI cZ H.size μ) av.toArray U := by
  intro U hU hW
  have hF := jm_free W C.2.2.2.2.1
  have hq : ∀ a : Nat, a < s.heap.size → ¬ A a → H[a]? = s.heap[a]? := fun a h1 h2 => W.2.2.2.1 a h1 h2
  refine ⟨rfl, by rw [hU], by rw [hU]; exact W.1, va_K.moved hW.alike C.2.2.2.1, W.2.1.weaken (fun _ _ _ _ => trivial), fun w hw => jm_nw_warm hw hW (C.2.2.1 w hw), fun q hq2 => ⟨?_, fun nm h => ?_⟩⟩
  · rw [hU]
    exact va_T.moved hW.alike (((C.2.2.2.2.2.1 q hq2).1.kept hq).narrow hF)
  · rw [hU]
    exact va_Z.moved hW.alike ((((C.2.2.2.2.2.1 q hq2).2 nm h).kept hq).narrow hF)
section JmCall
variable {p : Program} {l : Launch} {e : Env} {R : Room} {s : State} {m : MethodId} {args : Array Value} {below : List Frame} {meth : Method} {c : Code} {H : Heap} {locs : List Loc} {cells slots : Nat} {Qw : State → Prop}
variable {pc : Nat} {ls : Array Slot} {rest st0 : List Value} {a : Array Value} {A0 A1 : Nat → Prop} {H0 : Heap} {free : Addr → Prop}
theorem jm_call {I : List Nat} {Q : Option Value → jm_Mem → Prop} {D : va_G} {ad : Nat → Nat} {cI cZ : ClassId} (hr : va_Run p l e R s m args below meth c H locs cells slots 0 0 (F0 m pc ls st0) rest (jm_Po I Q D ad cI cZ A1 a) free) (hS : va_S A0 H0 H locs) (hA : ∀ q, q < H.size → A1 q → A0 q) (hf : ∀ q, free q → A0 q)
    (kk : ∀ (v : Option Value) (μ' : jm_Mem) (H1 : Heap) (locs1 : List Loc), Q v μ' → va_P D vwCl (jm_ws I ad cI cZ μ') H1 → va_D A1 (jm_ws I ad cI cZ μ') → va_S A0 H0 H1 locs1 → W p l e R s m args below meth c H1 locs1 cells slots Qw (F0 m (pc + 3) ls ((v.map (jm_cv ad)).toList ++ rest))) : W p l e R s m args below meth c H locs cells slots Qw (F0 m pc ls st0) := by
  intro T hT X
  obtain ⟨v, st₀, t, T', L, h0, X', hL, e1, e2, ⟨⟨v', μ', hv, hp, hb, hb2⟩, hz, hk⟩, st⟩ := hr T hT X
  cases hv
  rw [h0] at hz hk
  obtain ⟨t2, a1, b1⟩ := kk v' μ' T'.heap (locs ++ L) hp (by rw [e1]; exact hb) hb2
    ⟨Nat.le_trans hS.1 (by rw [e1]; exact hz), fun q h1 h2 => by rw [e1, hk q (Nat.lt_of_lt_of_le h1 hS.1) (fun z => h2 (hA q (Nat.lt_of_lt_of_le h1 hS.1) z))]; exact hS.2.1 q h1 h2, fun q hq => by
      rcases List.mem_append.mp hq with h | h
      · exact hS.2.2 q h
      · exact hf _ (hL q h)⟩ T' rfl X'
  exact ⟨t2, st t2 a1, b1⟩
end JmCall
def jm_push (v : Option Value) (S : List Value) : List Value := match v with
  | none => S
  | some v => v :: S
theorem jm_push_map (ad : Nat → Nat) (v : Option Value) (S : List Value) : (v.map (jm_cv ad)).toList ++ S.map (jm_cv ad) = (jm_push v S).map (jm_cv ad) := by cases v <;> rfl
/-- a call's evidence -/
def jm_CB (own : String) (ix : Nat) (M : jm_MI) (n : Nat) : Prop := plainName M.1.cls = true ∧ Cond.code M.1 M.2.1 M.2.2.1 M.2.2.2 ∈ jm_gw ∧ Cond.initialized M.1.cls ∈ jm_gw ∧ (M.1.cls ≠ "java/lang/invoke/MethodHandle" ∧ M.1.cls ≠ "java/lang/invoke/VarHandle" ∧ (parseMethodDescriptor M.1.desc).map (fun d => d.parameters.length) = some n) ∧ M.2.2.1 ≤ 40 ∧ (Cond.methodLink own ix M.1 ∈ jm_gw ∨ ∃ host, Cond.methodLinkNest own ix M.1 host ∈ jm_nw)
theorem jm_goodIn {M : jm_MI} (h : Cond.code M.1 M.2.1 M.2.2.1 M.2.2.2 ∈ jm_gw) : GoodIn jm_gw (jm_wd M) := by
  intro w hw
  rcases List.mem_cons.mp hw with e | e
  · subst e
    exact ⟨h, good_of_word (List.mem_filter.mp h).2⟩
  · exact ⟨e, good_of_word (List.mem_filter.mp e).2⟩
theorem jm_sum (ad : Nat → Nat) : ∀ S : List Value, ((S.map (jm_cv ad)).map fun v => v.category).sum = (S.map fun v => v.category).sum
  | [] => rfl
  | v :: t => by simp only [List.map_cons, List.sum_cons, jm_cat, jm_sum ad t]
section JmCalls
variable {I : List Nat} {X : jm_Ex} {d d' : Nat} {M M' : jm_MI} {pc n ix k : Nat} {L : List (Option Value)} {S S0 : List Value} {μ : jm_Mem} {Q : Option Value → jm_Mem → Prop}
set_option maxHeartbeats 4000000 in
theorem jm_callS (As : List Value) (hst : S0 = As.reverse ++ S) (hd : decode M.2.1 pc = .ok (.invokestatic ix, 3)) (hn : pc + 3 = n) (he : jm_CB M.1.cls ix M' k) (hs : Cond.static M'.1 ∈ jm_gw) (hk : As.length = k) (hsum : (S.map fun v => v.category).sum ≤ 8) (hlen : jm_aw As ≤ M'.2.2.1) (hdd : d' + 1 ≤ d)
    (kJ : jm_J I X d' M' 0 (jm_en M'.2.2.1 As) [] μ (fun v μ' => jm_J I X d M n L (jm_push v S) μ' Q)) : jm_J I X d M pc L S0 μ Q := by
  subst hn
  subst hst
  intro D ad cI cZ A p l e R s m args below meth c cells slots Qw H locs ls C Wd Ld K
  obtain ⟨hpl, hc, hini, hy, hL40, hl⟩ := he
  have hG := jm_goodIn hc
  have hfr : (jm_rm d').frames + 1 ≤ R.frames ∧ 8 + (M'.2.2.1 + 11) + (jm_rm d').locals ≤ R.locals := by
    obtain ⟨h1, h2, -⟩ := C.2.2.2.2.2.2
    simp only [jm_rm]
    omega
  have hMet := jm_met kJ hpl hlen l D ad cI cZ H.size
  have hS' : 2 * (F0 m pc ls ((As.reverse ++ S).map (jm_cv ad))).monitorRoom + ((S.map (jm_cv ad)).map fun v => v.category).sum ≤ 8 := lv_room (by rw [jm_sum]; exact hsum)
  have hrun : va_Run p l e R s m args below meth c H locs cells slots 0 0 (F0 m pc ls ((As.reverse ++ S).map (jm_cv ad))) (S.map (jm_cv ad)) (jm_Po I (fun v μ' => jm_J I X d M (pc + 3) L (jm_push v S) μ' Q) D ad cI cZ (va_A (jm_ws I ad cI cZ μ) H.size) (As.map (jm_cv ad)).toArray) (va_A (jm_ws I ad cI cZ μ) H.size) := by
    rcases hl with hl | ⟨host, hl⟩
    · exact va_runS (As := As.map (jm_cv ad)) (Ts := jm_gw) (n := k) ⟨C.1.1, C.1.2.1, C.1.2.2.1, C.1.2.2.2.1, C.2.1⟩ hMet ⟨callB_of k C.2.1 hG rfl rfl rfl (C.2.1 _ hini) (C.2.1 _ hl) hy hfr, C.2.1 _ hs⟩ ⟨jm_blind, jm_pre C Wd⟩ rfl (by simp [hk]) Ld.1.1 (by simp) hS' hd C.2.2.2.2.2.2.2.2
    · exact va_runSN (As := As.map (jm_cv ad)) (Ts := jm_gw) (n := k) ⟨C.1.1, C.1.2.1, C.1.2.2.1, C.1.2.2.2.1, C.2.1⟩ hMet ⟨va_cnB k C.2.1 hG rfl rfl rfl (C.2.2.1 _ hl) (C.2.1 _ hini) hy hfr, C.2.1 _ hs, trivial⟩ ⟨jm_blind, jm_pre C Wd⟩ rfl (by simp [hk]) Ld.1.1 (by simp) hS' hd C.2.2.2.2.2.2.2.2
  refine jm_call hrun Wd.2.2 (fun q _ h => jm_free Wd C.2.2.2.2.1 q h) (jm_free Wd C.2.2.2.2.1) (fun v μ' H1 locs1 hQ hP1 hD1 hS1 => ?_)
  rw [jm_push_map]
  exact hQ D ad cI cZ A p l e R s m args below meth c cells slots Qw H1 locs1 ls C ⟨hP1, hD1.weaken (fun _ q _ h => jm_free Wd C.2.2.2.2.1 q.1 h), hS1⟩ Ld K
set_option maxHeartbeats 4000000 in
theorem jm_callV {b ci : Nat} {fl : List (Option Nat)} (As : List Value) (hst : S0 = As.reverse ++ .ref b :: S) (hd : decode M.2.1 pc = .ok (.invokevirtual ix, 3)) (hn : pc + 3 = n) (he : jm_CB M.1.cls ix M' k) (hin : Cond.instanceMethod M'.1 ∈ jm_gw) (hse : Cond.selects M'.1.cls M'.1 M'.1 ∈ jm_gw) (hI : I.contains b = true) (hsh : jm_sh b = .inr (ci, fl)) (hcl : (vwCl[ci]?).map (fun q => q.1) = some M'.1.cls) (hk : As.length = k) (hsum : (S.map fun v => v.category).sum ≤ 8) (hlen : jm_aw (.ref b :: As) ≤ M'.2.2.1) (hdd : d' + 1 ≤ d)
    (kJ : jm_J I X d' M' 0 (jm_en M'.2.2.1 (.ref b :: As)) [] μ (fun v μ' => jm_J I X d M n L (jm_push v S) μ' Q)) : jm_J I X d M pc L S0 μ Q := by
  subst hn
  subst hst
  intro D ad cI cZ A p l e R s m args below meth c cells slots Qw H locs ls C Wd Ld K
  obtain ⟨hpl, hc, hini, hy, hL40, hl⟩ := he
  have hG := jm_goodIn hc
  have hfr : (jm_rm d').frames + 1 ≤ R.frames ∧ 8 + (M'.2.2.1 + 11) + (jm_rm d').locals ≤ R.locals := by
    obtain ⟨h1, h2, -⟩ := C.2.2.2.2.2.2
    simp only [jm_rm]
    omega
  have hMet := jm_met kJ hpl hlen l D ad cI cZ H.size
  have hS' : 2 * (F0 m pc ls ((As.reverse ++ .ref b :: S).map (jm_cv ad))).monitorRoom + ((S.map (jm_cv ad)).map fun v => v.category).sum ≤ 8 := lv_room (by rw [jm_sum]; exact hsum)
  obtain ⟨q0, h1, h2⟩ := jm_ws_at (ad := ad) (cI := cI) (cZ := cZ) (μ := μ) hI
  rw [jm_ce_obj hsh] at h2
  obtain ⟨qc, hqc, hqn⟩ := Option.map_eq_some_iff.mp hcl
  have hrecv := va_recv C.2.2.2.1 Wd.1 hqc h2
  rw [hqn] at hrecv
  have hrun : va_Run p l e R s m args below meth c H locs cells slots 0 0 (F0 m pc ls ((As.reverse ++ .ref b :: S).map (jm_cv ad))) (S.map (jm_cv ad)) (jm_Po I (fun v μ' => jm_J I X d M (pc + 3) L (jm_push v S) μ' Q) D ad cI cZ (va_A (jm_ws I ad cI cZ μ) H.size) (Value.ref (ad b) :: As.map (jm_cv ad)).toArray) (va_A (jm_ws I ad cI cZ μ) H.size) := by
    rcases hl with hl | ⟨host, hl⟩
    · exact va_runV (C := M'.1.cls) (As := As.map (jm_cv ad)) (Ts := jm_gw) (n := k) ⟨C.1.1, C.1.2.1, C.1.2.2.1, C.1.2.2.2.1, C.2.1⟩ hMet ⟨callB_of k C.2.1 hG rfl rfl rfl (C.2.1 _ hini) (C.2.1 _ hl) hy hfr, C.2.1 _ hin, C.2.1 _ hse⟩ ⟨jm_blind, hrecv, jm_pre C Wd⟩ rfl (by simp [hk]) Ld.1.1 (by simp [jm_cv]) hS' hd C.2.2.2.2.2.2.2.2
    · exact va_runVN (C := M'.1.cls) (As := As.map (jm_cv ad)) (Ts := jm_gw) (n := k) ⟨C.1.1, C.1.2.1, C.1.2.2.1, C.1.2.2.2.1, C.2.1⟩ hMet ⟨va_cnB k C.2.1 hG rfl rfl rfl (C.2.2.1 _ hl) (C.2.1 _ hini) hy hfr, C.2.1 _ hin, C.2.1 _ hse⟩ ⟨jm_blind, hrecv, jm_pre C Wd⟩ rfl (by simp [hk]) Ld.1.1 (by simp [jm_cv]) hS' hd C.2.2.2.2.2.2.2.2
  refine jm_call hrun Wd.2.2 (fun q _ h => jm_free Wd C.2.2.2.2.1 q h) (jm_free Wd C.2.2.2.2.1) (fun v μ' H1 locs1 hQ hP1 hD1 hS1 => ?_)
  rw [jm_push_map]
  exact hQ D ad cI cZ A p l e R s m args below meth c cells slots Qw H1 locs1 ls C ⟨hP1, hD1.weaken (fun _ q _ h => jm_free Wd C.2.2.2.2.1 q.1 h), hS1⟩ Ld K
end JmCalls
end
section
theorem jm_g {w : Cond} {i : Nat} (h : lw_tbl[i]? = some w) (hg : goodWord w = true) : w ∈ jm_gw := List.mem_filter.mpr ⟨List.mem_of_getElem? h, hg⟩
theorem jm_n {w : Cond} {i : Nat} (h : lw_tbl[i]? = some w) (hg : jm_isN w = true) : w ∈ jm_nw := List.mem_filter.mpr ⟨List.mem_of_getElem? h, hg⟩
abbrev mL_law : jm_MI := (yL_law, cL_law, 4, some .boolean)
abbrev mX0_dropFirst : jm_MI := (yX0_dropFirst, cX0_dropFirst, 1, none)
abbrev mX0_init : jm_MI := (yX0_init, cX0_init, 1, none)
abbrev mX0_join : jm_MI := (yX0_join, cX0_join, 2, none)
abbrev mX0_mixAll : jm_MI := (yX0_mixAll, cX0_mixAll, 6, some .long)
abbrev mX1_clear : jm_MI := (yX1_clear, cX1_clear, 2, none)
abbrev mX1_colourAtDepth : jm_MI := (yX1_colourAtDepth, cX1_colourAtDepth, 3, some .int)
abbrev mX1_depthOf : jm_MI := (yX1_depthOf, cX1_depthOf, 4, some .int)
abbrev mX1_init : jm_MI := (yX1_init, cX1_init, 1, none)
abbrev mX1_mixCoats : jm_MI := (yX1_mixCoats, cX1_mixCoats, 7, some .long)
abbrev mX1_paintOver : jm_MI := (yX1_paintOver, cX1_paintOver, 3, none)
abbrev mX1_takeOff : jm_MI := (yX1_takeOff, cX1_takeOff, 3, none)
abbrev mX2_announce : jm_MI := (yX2_announce, cX2_announce, 5, some .int)
abbrev mX2_bestBehind : jm_MI := (yX2_bestBehind, cX2_bestBehind, 4, some .int)
abbrev mX2_daysBetween : jm_MI := (yX2_daysBetween, cX2_daysBetween, 3, some .int)
abbrev mX2_fairOfBestRound : jm_MI := (yX2_fairOfBestRound, cX2_fairOfBestRound, 4, some .int)
abbrev mX2_gainFrom : jm_MI := (yX2_gainFrom, cX2_gainFrom, 2, some .int)
abbrev mX2_init : jm_MI := (yX2_init, cX2_init, 1, none)
abbrev mX2_isBetter : jm_MI := (yX2_isBetter, cX2_isBetter, 4, some .boolean)
abbrev mX2_isFair : jm_MI := (yX2_isFair, cX2_isFair, 2, some .boolean)
abbrev mX2_layRoad : jm_MI := (yX2_layRoad, cX2_layRoad, 4, none)
abbrev mX2_lengthFrom : jm_MI := (yX2_lengthFrom, cX2_lengthFrom, 2, some .int)
abbrev mX2_mayFollow : jm_MI := (yX2_mayFollow, cX2_mayFollow, 3, some .boolean)
abbrev mX2_mixAll : jm_MI := (yX2_mixAll, cX2_mixAll, 7, some .long)
abbrev mX2_planFrom : jm_MI := (yX2_planFrom, cX2_planFrom, 3, none)
abbrev mX2_planRounds : jm_MI := (yX2_planRounds, cX2_planRounds, 3, none)
abbrev mX3_areOwn : jm_MI := (yX3_areOwn, cX3_areOwn, 3, some .boolean)
abbrev mX3_exchange : jm_MI := (yX3_exchange, cX3_exchange, 4, none)
abbrev mX3_fewestSwaps : jm_MI := (yX3_fewestSwaps, cX3_fewestSwaps, 3, some .int)
abbrev mX3_init : jm_MI := (yX3_init, cX3_init, 2, none)
abbrev mX3_mixLegs : jm_MI := (yX3_mixLegs, cX3_mixLegs, 7, some .long)
abbrev mX3_walkCycle : jm_MI := (yX3_walkCycle, cX3_walkCycle, 5, some .int)
abbrev mX3_whereIs : jm_MI := (yX3_whereIs, cX3_whereIs, 3, some .int)
abbrev mX4_addLoad : jm_MI := (yX4_addLoad, cX4_addLoad, 3, none)
abbrev mX4_bestHorse : jm_MI := (yX4_bestHorse, cX4_bestHorse, 6, some .int)
abbrev mX4_freeHorses : jm_MI := (yX4_freeHorses, cX4_freeHorses, 1, some .int)
abbrev mX4_hasHorse : jm_MI := (yX4_hasHorse, cX4_hasHorse, 2, some .boolean)
abbrev mX4_hasRider : jm_MI := (yX4_hasRider, cX4_hasRider, 2, some .boolean)
abbrev mX4_horsesStanding : jm_MI := (yX4_horsesStanding, cX4_horsesStanding, 1, some .int)
abbrev mX4_init : jm_MI := (yX4_init, cX4_init, 1, none)
abbrev mX4_isFree : jm_MI := (yX4_isFree, cX4_isFree, 2, some .boolean)
abbrev mX4_isLawful : jm_MI := (yX4_isLawful, cX4_isLawful, 3, some .boolean)
abbrev mX4_liftOf : jm_MI := (yX4_liftOf, cX4_liftOf, 2, some .int)
abbrev mX4_mayTurn : jm_MI := (yX4_mayTurn, cX4_mayTurn, 1, some .boolean)
abbrev mX4_mayTurnWith : jm_MI := (yX4_mayTurnWith, cX4_mayTurnWith, 3, some .boolean)
abbrev mX4_numberAboveZero : jm_MI := (yX4_numberAboveZero, cX4_numberAboveZero, 6, some .int)
abbrev mX4_putHorse : jm_MI := (yX4_putHorse, cX4_putHorse, 3, none)
abbrev mX4_putRider : jm_MI := (yX4_putRider, cX4_putRider, 3, none)
abbrev mX4_ridersSitting : jm_MI := (yX4_ridersSitting, cX4_ridersSitting, 1, some .int)
abbrev mX4_shakeNow : jm_MI := (yX4_shakeNow, cX4_shakeNow, 1, some .int)
abbrev mX4_shakeWith : jm_MI := (yX4_shakeWith, cX4_shakeWith, 3, some .int)
abbrev mX4_takeAllRiders : jm_MI := (yX4_takeAllRiders, cX4_takeAllRiders, 2, none)
abbrev mX4_takeHorse : jm_MI := (yX4_takeHorse, cX4_takeHorse, 3, some .int)
abbrev mX4_takeRider : jm_MI := (yX4_takeRider, cX4_takeRider, 3, some .int)
abbrev mX5_choose : jm_MI := (yX5_choose, cX5_choose, 6, none)
abbrev mX5_init : jm_MI := (yX5_init, cX5_init, 1, none)
abbrev mX5_isTaken : jm_MI := (yX5_isTaken, cX5_isTaken, 4, some .boolean)
abbrev mX5_keepIfLess : jm_MI := (yX5_keepIfLess, cX5_keepIfLess, 2, none)
abbrev mX5_seatAll : jm_MI := (yX5_seatAll, cX5_seatAll, 3, none)
abbrev mX5_tryRiders : jm_MI := (yX5_tryRiders, cX5_tryRiders, 7, none)
abbrev mX6_best : jm_MI := (yX6_best, cX6_best, 2, some .int)
abbrev mX6_book : jm_MI := (yX6_book, cX6_book, 3, some .int)
abbrev mX6_coat : jm_MI := (yX6_coat, cX6_coat, 3, some .int)
abbrev mX6_come : jm_MI := (yX6_come, cX6_come, 2, some .int)
abbrev mX6_count : jm_MI := (yX6_count, cX6_count, 2, some .int)
abbrev mX6_digest : jm_MI := (yX6_digest, cX6_digest, 4, some .long)
abbrev mX6_earns : jm_MI := (yX6_earns, cX6_earns, 1, some .int)
abbrev mX6_fair : jm_MI := (yX6_fair, cX6_fair, 4, some .int)
abbrev mX6_find : jm_MI := (yX6_find, cX6_find, 3, some .int)
abbrev mX6_group : jm_MI := (yX6_group, cX6_group, 5, some .int)
abbrev mX6_horse : jm_MI := (yX6_horse, cX6_horse, 4, some .int)
abbrev mX6_hours : jm_MI := (yX6_hours, cX6_hours, 3, some .int)
abbrev mX6_init : jm_MI := (yX6_init, cX6_init, 1, none)
abbrev mX6_isGroup : jm_MI := (yX6_isGroup, cX6_isGroup, 4, some .boolean)
abbrev mX6_isLeg : jm_MI := (yX6_isLeg, cX6_isLeg, 1, some .boolean)
abbrev mX6_isLegOfHorse : jm_MI := (yX6_isLegOfHorse, cX6_isLegOfHorse, 3, some .boolean)
abbrev mX6_isPlace : jm_MI := (yX6_isPlace, cX6_isPlace, 1, some .boolean)
abbrev mX6_isRiderWeight : jm_MI := (yX6_isRiderWeight, cX6_isRiderWeight, 1, some .boolean)
abbrev mX6_isWithin : jm_MI := (yX6_isWithin, cX6_isWithin, 3, some .boolean)
abbrev mX6_law : jm_MI := (yX6_law, cX6_law, 3, some .int)
abbrev mX6_lawOfLift : jm_MI := (yX6_lawOfLift, cX6_lawOfLift, 3, some .int)
abbrev mX6_lawOfShaking : jm_MI := (yX6_lawOfShaking, cX6_lawOfShaking, 3, some .int)
abbrev mX6_leave : jm_MI := (yX6_leave, cX6_leave, 2, some .int)
abbrev mX6_legNumber : jm_MI := (yX6_legNumber, cX6_legNumber, 2, some .int)
abbrev mX6_look : jm_MI := (yX6_look, cX6_look, 2, some .int)
abbrev mX6_mark : jm_MI := (yX6_mark, cX6_mark, 3, some .int)
abbrev mX6_may : jm_MI := (yX6_may, cX6_may, 1, some .int)
abbrev mX6_mix : jm_MI := (yX6_mix, cX6_mix, 3, some .long)
abbrev mX6_mixPlace : jm_MI := (yX6_mixPlace, cX6_mixPlace, 6, some .long)
abbrev mX6_next : jm_MI := (yX6_next, cX6_next, 2, some .int)
abbrev mX6_rider : jm_MI := (yX6_rider, cX6_rider, 2, some .int)
abbrev mX6_rise : jm_MI := (yX6_rise, cX6_rise, 2, some .int)
abbrev mX6_rising : jm_MI := (yX6_rising, cX6_rising, 1, some .int)
abbrev mX6_road : jm_MI := (yX6_road, cX6_road, 5, some .int)
abbrev mX6_round : jm_MI := (yX6_round, cX6_round, 2, some .int)
abbrev mX6_sample : jm_MI := (yX6_sample, cX6_sample, 3, some .int)
abbrev mX6_shake : jm_MI := (yX6_shake, cX6_shake, 1, some .int)
abbrev mX6_shakeOf : jm_MI := (yX6_shakeOf, cX6_shakeOf, 2, some .int)
abbrev mX6_sit : jm_MI := (yX6_sit, cX6_sit, 3, some .int)
abbrev mX6_strip : jm_MI := (yX6_strip, cX6_strip, 4, some .int)
abbrev mX6_swap : jm_MI := (yX6_swap, cX6_swap, 5, some .int)
abbrev mX6_swaps : jm_MI := (yX6_swaps, cX6_swaps, 1, some .int)
abbrev mX6_turn : jm_MI := (yX6_turn, cX6_turn, 2, some .int)
abbrev mX7_best : jm_MI := (yX7_best, cX7_best, 2, some .int)
abbrev mX7_bestOf : jm_MI := (yX7_bestOf, cX7_bestOf, 6, some .int)
abbrev mX7_book : jm_MI := (yX7_book, cX7_book, 3, some .int)
abbrev mX7_coat : jm_MI := (yX7_coat, cX7_coat, 3, some .int)
abbrev mX7_come : jm_MI := (yX7_come, cX7_come, 2, some .int)
abbrev mX7_count : jm_MI := (yX7_count, cX7_count, 4, some .int)
abbrev mX7_digest : jm_MI := (yX7_digest, cX7_digest, 5, some .long)
abbrev mX7_earns : jm_MI := (yX7_earns, cX7_earns, 1, some .int)
abbrev mX7_fair : jm_MI := (yX7_fair, cX7_fair, 4, some .int)
abbrev mX7_find : jm_MI := (yX7_find, cX7_find, 4, some .int)
abbrev mX7_findRound : jm_MI := (yX7_findRound, cX7_findRound, 5, some .int)
abbrev mX7_group : jm_MI := (yX7_group, cX7_group, 13, some .int)
abbrev mX7_horse : jm_MI := (yX7_horse, cX7_horse, 5, some .int)
abbrev mX7_horses : jm_MI := (yX7_horses, cX7_horses, 3, some .int)
abbrev mX7_hours : jm_MI := (yX7_hours, cX7_hours, 3, some .int)
abbrev mX7_in : jm_MI := (yX7_in, cX7_in, 6, some .boolean)
abbrev mX7_init : jm_MI := (yX7_init, cX7_init, 1, none)
abbrev mX7_isBlocked : jm_MI := (yX7_isBlocked, cX7_isBlocked, 4, some .boolean)
abbrev mX7_isFair : jm_MI := (yX7_isFair, cX7_isFair, 2, some .boolean)
abbrev mX7_isFree : jm_MI := (yX7_isFree, cX7_isFree, 2, some .boolean)
abbrev mX7_isHorse : jm_MI := (yX7_isHorse, cX7_isHorse, 2, some .boolean)
abbrev mX7_isLeg : jm_MI := (yX7_isLeg, cX7_isLeg, 3, some .boolean)
abbrev mX7_isLess : jm_MI := (yX7_isLess, cX7_isLess, 2, some .boolean)
abbrev mX7_isPlace : jm_MI := (yX7_isPlace, cX7_isPlace, 1, some .boolean)
abbrev mX7_isRider : jm_MI := (yX7_isRider, cX7_isRider, 1, some .boolean)
abbrev mX7_law : jm_MI := (yX7_law, cX7_law, 4, some .int)
abbrev mX7_lay : jm_MI := (yX7_lay, cX7_lay, 4, some .boolean)
abbrev mX7_leave : jm_MI := (yX7_leave, cX7_leave, 4, some .int)
abbrev mX7_load : jm_MI := (yX7_load, cX7_load, 2, some .int)
abbrev mX7_look : jm_MI := (yX7_look, cX7_look, 2, some .int)
abbrev mX7_mark : jm_MI := (yX7_mark, cX7_mark, 3, some .int)
abbrev mX7_may : jm_MI := (yX7_may, cX7_may, 1, some .int)
abbrev mX7_mayTurn : jm_MI := (yX7_mayTurn, cX7_mayTurn, 2, some .boolean)
abbrev mX7_next : jm_MI := (yX7_next, cX7_next, 3, some .int)
abbrev mX7_put : jm_MI := (yX7_put, cX7_put, 8, none)
abbrev mX7_rider : jm_MI := (yX7_rider, cX7_rider, 2, some .int)
abbrev mX7_riders : jm_MI := (yX7_riders, cX7_riders, 3, some .int)
abbrev mX7_rise : jm_MI := (yX7_rise, cX7_rise, 3, some .int)
abbrev mX7_rising : jm_MI := (yX7_rising, cX7_rising, 1, some .int)
abbrev mX7_risingOf : jm_MI := (yX7_risingOf, cX7_risingOf, 3, some .int)
abbrev mX7_road : jm_MI := (yX7_road, cX7_road, 5, some .int)
abbrev mX7_round : jm_MI := (yX7_round, cX7_round, 3, some .int)
abbrev mX7_sample : jm_MI := (yX7_sample, cX7_sample, 3, some .int)
abbrev mX7_seat : jm_MI := (yX7_seat, cX7_seat, 3, none)
abbrev mX7_shake : jm_MI := (yX7_shake, cX7_shake, 1, some .int)
abbrev mX7_shakeOf : jm_MI := (yX7_shakeOf, cX7_shakeOf, 4, some .int)
abbrev mX7_sit : jm_MI := (yX7_sit, cX7_sit, 3, some .int)
abbrev mX7_strip : jm_MI := (yX7_strip, cX7_strip, 5, some .int)
abbrev mX7_swap : jm_MI := (yX7_swap, cX7_swap, 6, some .int)
abbrev mX7_swaps : jm_MI := (yX7_swaps, cX7_swaps, 4, some .int)
abbrev mX7_turn : jm_MI := (yX7_turn, cX7_turn, 3, some .int)
theorem ingX0 : ∀ w ∈ wsX00, w ∈ jm_gw := fun w h => List.mem_filter.mpr ⟨inX0 w h, List.all_eq_true.mp (by decide +kernel : wsX00.all goodWord = true) w h⟩
theorem ingX1 : ∀ w ∈ wsX10, w ∈ jm_gw := fun w h => List.mem_filter.mpr ⟨inX1 w h, List.all_eq_true.mp (by decide +kernel : wsX10.all goodWord = true) w h⟩
theorem ingX2 : ∀ w ∈ wsX20, w ∈ jm_gw := fun w h => List.mem_filter.mpr ⟨inX2 w h, List.all_eq_true.mp (by decide +kernel : wsX20.all goodWord = true) w h⟩
theorem ingX3 : ∀ w ∈ wsX30, w ∈ jm_gw := fun w h => List.mem_filter.mpr ⟨inX3 w h, List.all_eq_true.mp (by decide +kernel : wsX30.all goodWord = true) w h⟩
theorem ingX4 : ∀ w ∈ wsX40, w ∈ jm_gw := fun w h => List.mem_filter.mpr ⟨inX4 w h, List.all_eq_true.mp (by decide +kernel : wsX40.all goodWord = true) w h⟩
theorem ingX5 : ∀ w ∈ wsX50, w ∈ jm_gw := fun w h => List.mem_filter.mpr ⟨inX5 w h, List.all_eq_true.mp (by decide +kernel : wsX50.all goodWord = true) w h⟩
theorem ingX6 : ∀ w ∈ wsX60, w ∈ jm_gw := fun w h => List.mem_filter.mpr ⟨inX6 w h, List.all_eq_true.mp (by decide +kernel : wsX60.all goodWord = true) w h⟩
theorem ingX7 : ∀ w ∈ wsX70, w ∈ jm_gw := fun w h => List.mem_filter.mpr ⟨inX7 w h, List.all_eq_true.mp (by decide +kernel : wsX70.all goodWord = true) w h⟩
theorem fe_X0_9 : jm_FE RX0 9 0 0 := ⟨RX0, TX0, 2, rfl, by decide, ingX0, rfl, Or.inl (jm_g (i := 218) (by decide +kernel) rfl)⟩
theorem fe_X0_15 : jm_FE RX0 15 0 1 := ⟨RX0, TX0, 2, rfl, by decide, ingX0, rfl, Or.inl (jm_g (i := 220) (by decide +kernel) rfl)⟩
theorem fe_X1_9 : jm_FE RX1 9 1 0 := ⟨RX1, TX1, 2, rfl, by decide, ingX1, rfl, Or.inl (jm_g (i := 158) (by decide +kernel) rfl)⟩
theorem fe_X1_15 : jm_FE RX1 15 1 1 := ⟨RX1, TX1, 2, rfl, by decide, ingX1, rfl, Or.inl (jm_g (i := 159) (by decide +kernel) rfl)⟩
theorem fe_X2_9 : jm_FE RX2 9 2 0 := ⟨RX2, TX2, 8, rfl, by decide, ingX2, rfl, Or.inl (jm_g (i := 186) (by decide +kernel) rfl)⟩
theorem fe_X2_15 : jm_FE RX2 15 2 1 := ⟨RX2, TX2, 8, rfl, by decide, ingX2, rfl, Or.inl (jm_g (i := 187) (by decide +kernel) rfl)⟩
theorem fe_X2_18 : jm_FE RX2 18 2 2 := ⟨RX2, TX2, 8, rfl, by decide, ingX2, rfl, Or.inl (jm_g (i := 188) (by decide +kernel) rfl)⟩
theorem fe_X2_21 : jm_FE RX2 21 2 3 := ⟨RX2, TX2, 8, rfl, by decide, ingX2, rfl, Or.inl (jm_g (i := 189) (by decide +kernel) rfl)⟩
theorem fe_X2_24 : jm_FE RX2 24 2 4 := ⟨RX2, TX2, 8, rfl, by decide, ingX2, rfl, Or.inl (jm_g (i := 190) (by decide +kernel) rfl)⟩
theorem fe_X2_28 : jm_FE RX2 28 2 5 := ⟨RX2, TX2, 8, rfl, by decide, ingX2, rfl, Or.inl (jm_g (i := 192) (by decide +kernel) rfl)⟩
theorem fe_X2_31 : jm_FE RX2 31 2 6 := ⟨RX2, TX2, 8, rfl, by decide, ingX2, rfl, Or.inl (jm_g (i := 193) (by decide +kernel) rfl)⟩
theorem fe_X2_34 : jm_FE RX2 34 2 7 := ⟨RX2, TX2, 8, rfl, by decide, ingX2, rfl, Or.inl (jm_g (i := 194) (by decide +kernel) rfl)⟩
theorem fe_X3_9 : jm_FE RX3 9 3 0 := ⟨RX3, TX3, 2, rfl, by decide, ingX3, rfl, Or.inl (jm_g (i := 172) (by decide +kernel) rfl)⟩
theorem fe_X3_15 : jm_FE RX3 15 3 1 := ⟨RX3, TX3, 2, rfl, by decide, ingX3, rfl, Or.inl (jm_g (i := 174) (by decide +kernel) rfl)⟩
theorem fe_X4_9 : jm_FE RX4 9 4 0 := ⟨RX4, TX4, 8, rfl, by decide, ingX4, rfl, Or.inl (jm_g (i := 96) (by decide +kernel) rfl)⟩
theorem fe_X4_15 : jm_FE RX4 15 4 1 := ⟨RX4, TX4, 8, rfl, by decide, ingX4, rfl, Or.inl (jm_g (i := 98) (by decide +kernel) rfl)⟩
theorem fe_X4_18 : jm_FE RX4 18 4 2 := ⟨RX4, TX4, 8, rfl, by decide, ingX4, rfl, Or.inl (jm_g (i := 100) (by decide +kernel) rfl)⟩
theorem fe_X4_22 : jm_FE RX4 22 4 3 := ⟨RX4, TX4, 8, rfl, by decide, ingX4, rfl, Or.inl (jm_g (i := 102) (by decide +kernel) rfl)⟩
theorem fe_X4_25 : jm_FE RX4 25 4 4 := ⟨RX4, TX4, 8, rfl, by decide, ingX4, rfl, Or.inl (jm_g (i := 104) (by decide +kernel) rfl)⟩
theorem fe_X4_28 : jm_FE RX4 28 4 5 := ⟨RX4, TX4, 8, rfl, by decide, ingX4, rfl, Or.inl (jm_g (i := 106) (by decide +kernel) rfl)⟩
theorem fe_X4_31 : jm_FE RX4 31 4 6 := ⟨RX4, TX4, 8, rfl, by decide, ingX4, rfl, Or.inl (jm_g (i := 108) (by decide +kernel) rfl)⟩
theorem fe_X4_34 : jm_FE RX4 34 4 7 := ⟨RX4, TX4, 8, rfl, by decide, ingX4, rfl, Or.inl (jm_g (i := 110) (by decide +kernel) rfl)⟩
theorem fe_X5_9 : jm_FE RX5 9 5 0 := ⟨RX5, TX5, 5, rfl, by decide, ingX5, rfl, Or.inl (jm_g (i := 136) (by decide +kernel) rfl)⟩
theorem fe_X5_15 : jm_FE RX5 15 5 1 := ⟨RX5, TX5, 5, rfl, by decide, ingX5, rfl, Or.inl (jm_g (i := 137) (by decide +kernel) rfl)⟩
theorem fe_X5_18 : jm_FE RX5 18 5 2 := ⟨RX5, TX5, 5, rfl, by decide, ingX5, rfl, Or.inl (jm_g (i := 138) (by decide +kernel) rfl)⟩
theorem fe_X5_21 : jm_FE RX5 21 5 3 := ⟨RX5, TX5, 5, rfl, by decide, ingX5, rfl, Or.inl (jm_g (i := 139) (by decide +kernel) rfl)⟩
theorem fe_X5_25 : jm_FE RX5 25 5 4 := ⟨RX5, TX5, 5, rfl, by decide, ingX5, rfl, Or.inl (jm_g (i := 140) (by decide +kernel) rfl)⟩
theorem fe_X5_28 : jm_FE RX5 28 4 4 := ⟨RX4, TX4, 8, rfl, by decide, ingX4, rfl, Or.inr ⟨"GallopingRing", jm_n (i := 105) (by decide +kernel) rfl⟩⟩
theorem fe_X5_33 : jm_FE RX5 33 4 5 := ⟨RX4, TX4, 8, rfl, by decide, ingX4, rfl, Or.inr ⟨"GallopingRing", jm_n (i := 107) (by decide +kernel) rfl⟩⟩
theorem fe_X6_12 : jm_FE RX6 12 6 0 := ⟨RX6, TX6, 10, rfl, by decide, ingX6, rfl, Or.inl (jm_g (i := 227) (by decide +kernel) rfl)⟩
theorem fe_X6_19 : jm_FE RX6 19 6 1 := ⟨RX6, TX6, 10, rfl, by decide, ingX6, rfl, Or.inl (jm_g (i := 228) (by decide +kernel) rfl)⟩
theorem fe_X6_26 : jm_FE RX6 26 6 2 := ⟨RX6, TX6, 10, rfl, by decide, ingX6, rfl, Or.inl (jm_g (i := 229) (by decide +kernel) rfl)⟩
theorem fe_X6_33 : jm_FE RX6 33 6 3 := ⟨RX6, TX6, 10, rfl, by decide, ingX6, rfl, Or.inl (jm_g (i := 230) (by decide +kernel) rfl)⟩
theorem fe_X6_40 : jm_FE RX6 40 6 4 := ⟨RX6, TX6, 10, rfl, by decide, ingX6, rfl, Or.inl (jm_g (i := 231) (by decide +kernel) rfl)⟩
theorem fe_X6_47 : jm_FE RX6 47 6 5 := ⟨RX6, TX6, 10, rfl, by decide, ingX6, rfl, Or.inl (jm_g (i := 232) (by decide +kernel) rfl)⟩
theorem fe_X6_51 : jm_FE RX6 51 6 6 := ⟨RX6, TX6, 10, rfl, by decide, ingX6, rfl, Or.inl (jm_g (i := 233) (by decide +kernel) rfl)⟩
theorem fe_X6_55 : jm_FE RX6 55 6 7 := ⟨RX6, TX6, 10, rfl, by decide, ingX6, rfl, Or.inl (jm_g (i := 234) (by decide +kernel) rfl)⟩
theorem fe_X6_58 : jm_FE RX6 58 6 8 := ⟨RX6, TX6, 10, rfl, by decide, ingX6, rfl, Or.inl (jm_g (i := 235) (by decide +kernel) rfl)⟩
theorem fe_X6_61 : jm_FE RX6 61 6 9 := ⟨RX6, TX6, 10, rfl, by decide, ingX6, rfl, Or.inl (jm_g (i := 236) (by decide +kernel) rfl)⟩
theorem fe_X6_116 : jm_FE RX6 116 4 6 := ⟨RX4, TX4, 8, rfl, by decide, ingX4, rfl, Or.inr ⟨"GallopingRing", jm_n (i := 109) (by decide +kernel) rfl⟩⟩
theorem fe_X6_147 : jm_FE RX6 147 4 1 := ⟨RX4, TX4, 8, rfl, by decide, ingX4, rfl, Or.inr ⟨"GallopingRing", jm_n (i := 99) (by decide +kernel) rfl⟩⟩
theorem fe_X6_151 : jm_FE RX6 151 1 1 := ⟨RX1, TX1, 2, rfl, by decide, ingX1, rfl, Or.inr ⟨"GallopingRing", jm_n (i := 160) (by decide +kernel) rfl⟩⟩
theorem fe_X6_173 : jm_FE RX6 173 3 0 := ⟨RX3, TX3, 2, rfl, by decide, ingX3, rfl, Or.inr ⟨"GallopingRing", jm_n (i := 173) (by decide +kernel) rfl⟩⟩
theorem fe_X6_185 : jm_FE RX6 185 2 4 := ⟨RX2, TX2, 8, rfl, by decide, ingX2, rfl, Or.inr ⟨"GallopingRing", jm_n (i := 191) (by decide +kernel) rfl⟩⟩
theorem fe_X6_220 : jm_FE RX6 220 0 1 := ⟨RX0, TX0, 2, rfl, by decide, ingX0, rfl, Or.inr ⟨"GallopingRing", jm_n (i := 221) (by decide +kernel) rfl⟩⟩
theorem fe_X6_226 : jm_FE RX6 226 0 0 := ⟨RX0, TX0, 2, rfl, by decide, ingX0, rfl, Or.inr ⟨"GallopingRing", jm_n (i := 219) (by decide +kernel) rfl⟩⟩
theorem fe_X6_233 : jm_FE RX6 233 4 7 := ⟨RX4, TX4, 8, rfl, by decide, ingX4, rfl, Or.inr ⟨"GallopingRing", jm_n (i := 111) (by decide +kernel) rfl⟩⟩
theorem fe_X6_242 : jm_FE RX6 242 4 2 := ⟨RX4, TX4, 8, rfl, by decide, ingX4, rfl, Or.inr ⟨"GallopingRing", jm_n (i := 101) (by decide +kernel) rfl⟩⟩
theorem fe_X6_248 : jm_FE RX6 248 4 3 := ⟨RX4, TX4, 8, rfl, by decide, ingX4, rfl, Or.inr ⟨"GallopingRing", jm_n (i := 103) (by decide +kernel) rfl⟩⟩
theorem fe_X6_256 : jm_FE RX6 256 4 0 := ⟨RX4, TX4, 8, rfl, by decide, ingX4, rfl, Or.inr ⟨"GallopingRing", jm_n (i := 97) (by decide +kernel) rfl⟩⟩
theorem fe_X7_7 : jm_FE RX7 7 7 0 := ⟨RX7, TX7, 26, rfl, by decide, ingX7, rfl, Or.inl (jm_g (i := 677) (by decide +kernel) rfl)⟩
theorem fe_X7_13 : jm_FE RX7 13 7 1 := ⟨RX7, TX7, 26, rfl, by decide, ingX7, rfl, Or.inl (jm_g (i := 678) (by decide +kernel) rfl)⟩
theorem fe_X7_16 : jm_FE RX7 16 7 2 := ⟨RX7, TX7, 26, rfl, by decide, ingX7, rfl, Or.inl (jm_g (i := 679) (by decide +kernel) rfl)⟩
theorem fe_X7_19 : jm_FE RX7 19 7 3 := ⟨RX7, TX7, 26, rfl, by decide, ingX7, rfl, Or.inl (jm_g (i := 680) (by decide +kernel) rfl)⟩
theorem fe_X7_22 : jm_FE RX7 22 7 4 := ⟨RX7, TX7, 26, rfl, by decide, ingX7, rfl, Or.inl (jm_g (i := 681) (by decide +kernel) rfl)⟩
theorem fe_X7_25 : jm_FE RX7 25 7 5 := ⟨RX7, TX7, 26, rfl, by decide, ingX7, rfl, Or.inl (jm_g (i := 682) (by decide +kernel) rfl)⟩
theorem fe_X7_28 : jm_FE RX7 28 7 6 := ⟨RX7, TX7, 26, rfl, by decide, ingX7, rfl, Or.inl (jm_g (i := 683) (by decide +kernel) rfl)⟩
theorem fe_X7_31 : jm_FE RX7 31 7 10 := ⟨RX7, TX7, 26, rfl, by decide, ingX7, rfl, Or.inl (jm_g (i := 687) (by decide +kernel) rfl)⟩
theorem fe_X7_34 : jm_FE RX7 34 7 11 := ⟨RX7, TX7, 26, rfl, by decide, ingX7, rfl, Or.inl (jm_g (i := 688) (by decide +kernel) rfl)⟩
theorem fe_X7_38 : jm_FE RX7 38 7 13 := ⟨RX7, TX7, 26, rfl, by decide, ingX7, rfl, Or.inl (jm_g (i := 690) (by decide +kernel) rfl)⟩
theorem fe_X7_41 : jm_FE RX7 41 7 14 := ⟨RX7, TX7, 26, rfl, by decide, ingX7, rfl, Or.inl (jm_g (i := 691) (by decide +kernel) rfl)⟩
theorem fe_X7_44 : jm_FE RX7 44 7 15 := ⟨RX7, TX7, 26, rfl, by decide, ingX7, rfl, Or.inl (jm_g (i := 692) (by decide +kernel) rfl)⟩
theorem fe_X7_47 : jm_FE RX7 47 7 16 := ⟨RX7, TX7, 26, rfl, by decide, ingX7, rfl, Or.inl (jm_g (i := 693) (by decide +kernel) rfl)⟩
theorem fe_X7_50 : jm_FE RX7 50 7 17 := ⟨RX7, TX7, 26, rfl, by decide, ingX7, rfl, Or.inl (jm_g (i := 694) (by decide +kernel) rfl)⟩
theorem fe_X7_53 : jm_FE RX7 53 7 19 := ⟨RX7, TX7, 26, rfl, by decide, ingX7, rfl, Or.inl (jm_g (i := 696) (by decide +kernel) rfl)⟩
theorem fe_X7_56 : jm_FE RX7 56 7 25 := ⟨RX7, TX7, 26, rfl, by decide, ingX7, rfl, Or.inl (jm_g (i := 702) (by decide +kernel) rfl)⟩
theorem fe_X7_59 : jm_FE RX7 59 7 7 := ⟨RX7, TX7, 26, rfl, by decide, ingX7, rfl, Or.inl (jm_g (i := 684) (by decide +kernel) rfl)⟩
theorem fe_X7_63 : jm_FE RX7 63 7 8 := ⟨RX7, TX7, 26, rfl, by decide, ingX7, rfl, Or.inl (jm_g (i := 685) (by decide +kernel) rfl)⟩
theorem fe_X7_66 : jm_FE RX7 66 7 21 := ⟨RX7, TX7, 26, rfl, by decide, ingX7, rfl, Or.inl (jm_g (i := 698) (by decide +kernel) rfl)⟩
theorem fe_X7_129 : jm_FE RX7 129 7 9 := ⟨RX7, TX7, 26, rfl, by decide, ingX7, rfl, Or.inl (jm_g (i := 686) (by decide +kernel) rfl)⟩
theorem fe_X7_143 : jm_FE RX7 143 7 12 := ⟨RX7, TX7, 26, rfl, by decide, ingX7, rfl, Or.inl (jm_g (i := 689) (by decide +kernel) rfl)⟩
theorem fe_X7_151 : jm_FE RX7 151 7 18 := ⟨RX7, TX7, 26, rfl, by decide, ingX7, rfl, Or.inl (jm_g (i := 695) (by decide +kernel) rfl)⟩
theorem fe_X7_154 : jm_FE RX7 154 7 20 := ⟨RX7, TX7, 26, rfl, by decide, ingX7, rfl, Or.inl (jm_g (i := 697) (by decide +kernel) rfl)⟩
theorem fe_X7_166 : jm_FE RX7 166 7 22 := ⟨RX7, TX7, 26, rfl, by decide, ingX7, rfl, Or.inl (jm_g (i := 699) (by decide +kernel) rfl)⟩
theorem fe_X7_172 : jm_FE RX7 172 7 23 := ⟨RX7, TX7, 26, rfl, by decide, ingX7, rfl, Or.inl (jm_g (i := 700) (by decide +kernel) rfl)⟩
theorem fe_X7_177 : jm_FE RX7 177 7 24 := ⟨RX7, TX7, 26, rfl, by decide, ingX7, rfl, Or.inl (jm_g (i := 701) (by decide +kernel) rfl)⟩
theorem pe_X0_15 : jm_PE RX0 15 0 1 := ⟨RX0, TX0, 2, tyX0, rfl, by decide, ingX0, rfl, Or.inl (jm_g (i := 220) (by decide +kernel) rfl), tyX0_ok, nmX0, rfl, by decide +kernel⟩
theorem pe_X2_24 : jm_PE RX2 24 2 4 := ⟨RX2, TX2, 8, tyX2, rfl, by decide, ingX2, rfl, Or.inl (jm_g (i := 190) (by decide +kernel) rfl), tyX2_ok, nmX2, rfl, by decide +kernel⟩
theorem pe_X4_18 : jm_PE RX4 18 4 2 := ⟨RX4, TX4, 8, tyX4, rfl, by decide, ingX4, rfl, Or.inl (jm_g (i := 100) (by decide +kernel) rfl), tyX4_ok, nmX4, rfl, by decide +kernel⟩
theorem pe_X4_22 : jm_PE RX4 22 4 3 := ⟨RX4, TX4, 8, tyX4, rfl, by decide, ingX4, rfl, Or.inl (jm_g (i := 102) (by decide +kernel) rfl), tyX4_ok, nmX4, rfl, by decide +kernel⟩
theorem pe_X4_25 : jm_PE RX4 25 4 4 := ⟨RX4, TX4, 8, tyX4, rfl, by decide, ingX4, rfl, Or.inl (jm_g (i := 104) (by decide +kernel) rfl), tyX4_ok, nmX4, rfl, by decide +kernel⟩
theorem pe_X4_28 : jm_PE RX4 28 4 5 := ⟨RX4, TX4, 8, tyX4, rfl, by decide, ingX4, rfl, Or.inl (jm_g (i := 106) (by decide +kernel) rfl), tyX4_ok, nmX4, rfl, by decide +kernel⟩
theorem pe_X4_31 : jm_PE RX4 31 4 6 := ⟨RX4, TX4, 8, tyX4, rfl, by decide, ingX4, rfl, Or.inl (jm_g (i := 108) (by decide +kernel) rfl), tyX4_ok, nmX4, rfl, by decide +kernel⟩
theorem pe_X4_34 : jm_PE RX4 34 4 7 := ⟨RX4, TX4, 8, tyX4, rfl, by decide, ingX4, rfl, Or.inl (jm_g (i := 110) (by decide +kernel) rfl), tyX4_ok, nmX4, rfl, by decide +kernel⟩
theorem pe_X5_21 : jm_PE RX5 21 5 3 := ⟨RX5, TX5, 5, tyX5, rfl, by decide, ingX5, rfl, Or.inl (jm_g (i := 139) (by decide +kernel) rfl), tyX5_ok, nmX5, rfl, by decide +kernel⟩
theorem pe_X5_25 : jm_PE RX5 25 5 4 := ⟨RX5, TX5, 5, tyX5, rfl, by decide, ingX5, rfl, Or.inl (jm_g (i := 140) (by decide +kernel) rfl), tyX5_ok, nmX5, rfl, by decide +kernel⟩
theorem pe_X6_51 : jm_PE RX6 51 6 6 := ⟨RX6, TX6, 10, tyX6, rfl, by decide, ingX6, rfl, Or.inl (jm_g (i := 233) (by decide +kernel) rfl), tyX6_ok, nmX6, rfl, by decide +kernel⟩
theorem pe_X6_55 : jm_PE RX6 55 6 7 := ⟨RX6, TX6, 10, tyX6, rfl, by decide, ingX6, rfl, Or.inl (jm_g (i := 234) (by decide +kernel) rfl), tyX6_ok, nmX6, rfl, by decide +kernel⟩
theorem pe_X6_58 : jm_PE RX6 58 6 8 := ⟨RX6, TX6, 10, tyX6, rfl, by decide, ingX6, rfl, Or.inl (jm_g (i := 235) (by decide +kernel) rfl), tyX6_ok, nmX6, rfl, by decide +kernel⟩
theorem pe_X6_61 : jm_PE RX6 61 6 9 := ⟨RX6, TX6, 10, tyX6, rfl, by decide, ingX6, rfl, Or.inl (jm_g (i := 236) (by decide +kernel) rfl), tyX6_ok, nmX6, rfl, by decide +kernel⟩
theorem pe_X6_242 : jm_PE RX6 242 4 2 := ⟨RX4, TX4, 8, tyX4, rfl, by decide, ingX4, rfl, Or.inr ⟨"GallopingRing", jm_n (i := 101) (by decide +kernel) rfl⟩, tyX4_ok, nmX4, rfl, by decide +kernel⟩
theorem pe_X6_248 : jm_PE RX6 248 4 3 := ⟨RX4, TX4, 8, tyX4, rfl, by decide, ingX4, rfl, Or.inr ⟨"GallopingRing", jm_n (i := 103) (by decide +kernel) rfl⟩, tyX4_ok, nmX4, rfl, by decide +kernel⟩
theorem pe_X7_59 : jm_PE RX7 59 7 7 := ⟨RX7, TX7, 26, tyX7, rfl, by decide, ingX7, rfl, Or.inl (jm_g (i := 684) (by decide +kernel) rfl), tyX7_ok, nmX7, rfl, by decide +kernel⟩
theorem pe_X7_63 : jm_PE RX7 63 7 8 := ⟨RX7, TX7, 26, tyX7, rfl, by decide, ingX7, rfl, Or.inl (jm_g (i := 685) (by decide +kernel) rfl), tyX7_ok, nmX7, rfl, by decide +kernel⟩
theorem pe_X7_66 : jm_PE RX7 66 7 21 := ⟨RX7, TX7, 26, tyX7, rfl, by decide, ingX7, rfl, Or.inl (jm_g (i := 698) (by decide +kernel) rfl), tyX7_ok, nmX7, rfl, by decide +kernel⟩
theorem pe_X7_129 : jm_PE RX7 129 7 9 := ⟨RX7, TX7, 26, tyX7, rfl, by decide, ingX7, rfl, Or.inl (jm_g (i := 686) (by decide +kernel) rfl), tyX7_ok, nmX7, rfl, by decide +kernel⟩
theorem pe_X7_143 : jm_PE RX7 143 7 12 := ⟨RX7, TX7, 26, tyX7, rfl, by decide, ingX7, rfl, Or.inl (jm_g (i := 689) (by decide +kernel) rfl), tyX7_ok, nmX7, rfl, by decide +kernel⟩
theorem pe_X7_151 : jm_PE RX7 151 7 18 := ⟨RX7, TX7, 26, tyX7, rfl, by decide, ingX7, rfl, Or.inl (jm_g (i := 695) (by decide +kernel) rfl), tyX7_ok, nmX7, rfl, by decide +kernel⟩
theorem pe_X7_154 : jm_PE RX7 154 7 20 := ⟨RX7, TX7, 26, tyX7, rfl, by decide, ingX7, rfl, Or.inl (jm_g (i := 697) (by decide +kernel) rfl), tyX7_ok, nmX7, rfl, by decide +kernel⟩
theorem pe_X7_166 : jm_PE RX7 166 7 22 := ⟨RX7, TX7, 26, tyX7, rfl, by decide, ingX7, rfl, Or.inl (jm_g (i := 699) (by decide +kernel) rfl), tyX7_ok, nmX7, rfl, by decide +kernel⟩
theorem pe_X7_172 : jm_PE RX7 172 7 23 := ⟨RX7, TX7, 26, tyX7, rfl, by decide, ingX7, rfl, Or.inl (jm_g (i := 700) (by decide +kernel) rfl), tyX7_ok, nmX7, rfl, by decide +kernel⟩
theorem pe_X7_177 : jm_PE RX7 177 7 24 := ⟨RX7, TX7, 26, tyX7, rfl, by decide, ingX7, rfl, Or.inl (jm_g (i := 701) (by decide +kernel) rfl), tyX7_ok, nmX7, rfl, by decide +kernel⟩
theorem xe_X4_55 : Cond.fieldLinkNest RX4 55 RX6 "ACROSS" "[I" "GallopingRing" ∈ jm_nw := jm_n (i := 281) (by decide +kernel) rfl
theorem xe_X4_58 : Cond.fieldLinkNest RX4 58 RX6 "ALONG" "[I" "GallopingRing" ∈ jm_nw := jm_n (i := 283) (by decide +kernel) rfl
theorem xe_X5_56 : Cond.fieldLinkNest RX5 56 RX6 "ACROSS" "[I" "GallopingRing" ∈ jm_nw := jm_n (i := 443) (by decide +kernel) rfl
theorem xe_X5_59 : Cond.fieldLinkNest RX5 59 RX6 "ALONG" "[I" "GallopingRing" ∈ jm_nw := jm_n (i := 444) (by decide +kernel) rfl
theorem cb_L_13 : jm_CB RL 13 mX6_horse 3 := ⟨by decide +kernel, jm_g (i := 261) (by decide +kernel) rfl, jm_g (i := 72) (by decide +kernel) rfl, by decide +kernel, by decide, Or.inl (jm_g (i := 258) (by decide +kernel) rfl)⟩
theorem cb_L_17 : jm_CB RL 17 mX7_horse 3 := ⟨by decide +kernel, jm_g (i := 760) (by decide +kernel) rfl, jm_g (i := 79) (by decide +kernel) rfl, by decide +kernel, by decide, Or.inl (jm_g (i := 757) (by decide +kernel) rfl)⟩
theorem cb_L_18 : jm_CB RL 18 mX6_leave 1 := ⟨by decide +kernel, jm_g (i := 302) (by decide +kernel) rfl, jm_g (i := 72) (by decide +kernel) rfl, by decide +kernel, by decide, Or.inl (jm_g (i := 299) (by decide +kernel) rfl)⟩
theorem cb_L_22 : jm_CB RL 22 mX7_leave 1 := ⟨by decide +kernel, jm_g (i := 777) (by decide +kernel) rfl, jm_g (i := 79) (by decide +kernel) rfl, by decide +kernel, by decide, Or.inl (jm_g (i := 774) (by decide +kernel) rfl)⟩
theorem cb_L_23 : jm_CB RL 23 mX6_sit 2 := ⟨by decide +kernel, jm_g (i := 325) (by decide +kernel) rfl, jm_g (i := 72) (by decide +kernel) rfl, by decide +kernel, by decide, Or.inl (jm_g (i := 322) (by decide +kernel) rfl)⟩
theorem cb_L_27 : jm_CB RL 27 mX7_sit 2 := ⟨by decide +kernel, jm_g (i := 785) (by decide +kernel) rfl, jm_g (i := 79) (by decide +kernel) rfl, by decide +kernel, by decide, Or.inl (jm_g (i := 782) (by decide +kernel) rfl)⟩
theorem cb_L_28 : jm_CB RL 28 mX6_rise 1 := ⟨by decide +kernel, jm_g (i := 358) (by decide +kernel) rfl, jm_g (i := 72) (by decide +kernel) rfl, by decide +kernel, by decide, Or.inl (jm_g (i := 355) (by decide +kernel) rfl)⟩
theorem cb_L_31 : jm_CB RL 31 mX7_rise 1 := ⟨by decide +kernel, jm_g (i := 813) (by decide +kernel) rfl, jm_g (i := 79) (by decide +kernel) rfl, by decide +kernel, by decide, Or.inl (jm_g (i := 810) (by decide +kernel) rfl)⟩
theorem cb_L_32 : jm_CB RL 32 mX6_shake 0 := ⟨by decide +kernel, jm_g (i := 366) (by decide +kernel) rfl, jm_g (i := 72) (by decide +kernel) rfl, by decide +kernel, by decide, Or.inl (jm_g (i := 363) (by decide +kernel) rfl)⟩
theorem cb_L_36 : jm_CB RL 36 mX7_shake 0 := ⟨by decide +kernel, jm_g (i := 817) (by decide +kernel) rfl, jm_g (i := 79) (by decide +kernel) rfl, by decide +kernel, by decide, Or.inl (jm_g (i := 814) (by decide +kernel) rfl)⟩
theorem cb_L_37 : jm_CB RL 37 mX6_rising 0 := ⟨by decide +kernel, jm_g (i := 370) (by decide +kernel) rfl, jm_g (i := 72) (by decide +kernel) rfl, by decide +kernel, by decide, Or.inl (jm_g (i := 367) (by decide +kernel) rfl)⟩
theorem cb_L_40 : jm_CB RL 40 mX7_rising 0 := ⟨by decide +kernel, jm_g (i := 821) (by decide +kernel) rfl, jm_g (i := 79) (by decide +kernel) rfl, by decide +kernel, by decide, Or.inl (jm_g (i := 818) (by decide +kernel) rfl)⟩
theorem cb_L_41 : jm_CB RL 41 mX6_may 0 := ⟨by decide +kernel, jm_g (i := 374) (by decide +kernel) rfl, jm_g (i := 72) (by decide +kernel) rfl, by decide +kernel, by decide, Or.inl (jm_g (i := 371) (by decide +kernel) rfl)⟩
theorem cb_L_44 : jm_CB RL 44 mX7_may 0 := ⟨by decide +kernel, jm_g (i := 825) (by decide +kernel) rfl, jm_g (i := 79) (by decide +kernel) rfl, by decide +kernel, by decide, Or.inl (jm_g (i := 822) (by decide +kernel) rfl)⟩
theorem cb_L_45 : jm_CB RL 45 mX6_law 2 := ⟨by decide +kernel, jm_g (i := 383) (by decide +kernel) rfl, jm_g (i := 72) (by decide +kernel) rfl, by decide +kernel, by decide, Or.inl (jm_g (i := 380) (by decide +kernel) rfl)⟩
theorem cb_L_48 : jm_CB RL 48 mX7_law 2 := ⟨by decide +kernel, jm_g (i := 829) (by decide +kernel) rfl, jm_g (i := 79) (by decide +kernel) rfl, by decide +kernel, by decide, Or.inl (jm_g (i := 826) (by decide +kernel) rfl)⟩
theorem cb_L_49 : jm_CB RL 49 mX6_best 1 := ⟨by decide +kernel, jm_g (i := 395) (by decide +kernel) rfl, jm_g (i := 72) (by decide +kernel) rfl, by decide +kernel, by decide, Or.inl (jm_g (i := 392) (by decide +kernel) rfl)⟩
theorem cb_L_52 : jm_CB RL 52 mX7_best 1 := ⟨by decide +kernel, jm_g (i := 835) (by decide +kernel) rfl, jm_g (i := 79) (by decide +kernel) rfl, by decide +kernel, by decide, Or.inl (jm_g (i := 832) (by decide +kernel) rfl)⟩
theorem cb_L_53 : jm_CB RL 53 mX6_group 4 := ⟨by decide +kernel, jm_g (i := 410) (by decide +kernel) rfl, jm_g (i := 72) (by decide +kernel) rfl, by decide +kernel, by decide, Or.inl (jm_g (i := 407) (by decide +kernel) rfl)⟩
theorem cb_L_57 : jm_CB RL 57 mX7_group 4 := ⟨by decide +kernel, jm_g (i := 847) (by decide +kernel) rfl, jm_g (i := 79) (by decide +kernel) rfl, by decide +kernel, by decide, Or.inl (jm_g (i := 844) (by decide +kernel) rfl)⟩
theorem cb_L_58 : jm_CB RL 58 mX6_rider 1 := ⟨by decide +kernel, jm_g (i := 453) (by decide +kernel) rfl, jm_g (i := 72) (by decide +kernel) rfl, by decide +kernel, by decide, Or.inl (jm_g (i := 450) (by decide +kernel) rfl)⟩
theorem cb_L_61 : jm_CB RL 61 mX7_rider 1 := ⟨by decide +kernel, jm_g (i := 856) (by decide +kernel) rfl, jm_g (i := 79) (by decide +kernel) rfl, by decide +kernel, by decide, Or.inl (jm_g (i := 853) (by decide +kernel) rfl)⟩
theorem cb_L_62 : jm_CB RL 62 mX6_coat 2 := ⟨by decide +kernel, jm_g (i := 457) (by decide +kernel) rfl, jm_g (i := 72) (by decide +kernel) rfl, by decide +kernel, by decide, Or.inl (jm_g (i := 454) (by decide +kernel) rfl)⟩
theorem cb_L_65 : jm_CB RL 65 mX7_coat 2 := ⟨by decide +kernel, jm_g (i := 860) (by decide +kernel) rfl, jm_g (i := 79) (by decide +kernel) rfl, by decide +kernel, by decide, Or.inl (jm_g (i := 857) (by decide +kernel) rfl)⟩
theorem cb_L_66 : jm_CB RL 66 mX6_sample 2 := ⟨by decide +kernel, jm_g (i := 461) (by decide +kernel) rfl, jm_g (i := 72) (by decide +kernel) rfl, by decide +kernel, by decide, Or.inl (jm_g (i := 458) (by decide +kernel) rfl)⟩
theorem cb_L_69 : jm_CB RL 69 mX7_sample 2 := ⟨by decide +kernel, jm_g (i := 864) (by decide +kernel) rfl, jm_g (i := 79) (by decide +kernel) rfl, by decide +kernel, by decide, Or.inl (jm_g (i := 861) (by decide +kernel) rfl)⟩
theorem cb_L_70 : jm_CB RL 70 mX6_strip 2 := ⟨by decide +kernel, jm_g (i := 470) (by decide +kernel) rfl, jm_g (i := 72) (by decide +kernel) rfl, by decide +kernel, by decide, Or.inl (jm_g (i := 467) (by decide +kernel) rfl)⟩
theorem cb_L_73 : jm_CB RL 73 mX7_strip 2 := ⟨by decide +kernel, jm_g (i := 868) (by decide +kernel) rfl, jm_g (i := 79) (by decide +kernel) rfl, by decide +kernel, by decide, Or.inl (jm_g (i := 865) (by decide +kernel) rfl)⟩
theorem cb_L_74 : jm_CB RL 74 mX6_swap 4 := ⟨by decide +kernel, jm_g (i := 483) (by decide +kernel) rfl, jm_g (i := 72) (by decide +kernel) rfl, by decide +kernel, by decide, Or.inl (jm_g (i := 480) (by decide +kernel) rfl)⟩
theorem cb_L_77 : jm_CB RL 77 mX7_swap 4 := ⟨by decide +kernel, jm_g (i := 872) (by decide +kernel) rfl, jm_g (i := 79) (by decide +kernel) rfl, by decide +kernel, by decide, Or.inl (jm_g (i := 869) (by decide +kernel) rfl)⟩
theorem cb_L_78 : jm_CB RL 78 mX6_mark 2 := ⟨by decide +kernel, jm_g (i := 499) (by decide +kernel) rfl, jm_g (i := 72) (by decide +kernel) rfl, by decide +kernel, by decide, Or.inl (jm_g (i := 496) (by decide +kernel) rfl)⟩
theorem cb_L_81 : jm_CB RL 81 mX7_mark 2 := ⟨by decide +kernel, jm_g (i := 880) (by decide +kernel) rfl, jm_g (i := 79) (by decide +kernel) rfl, by decide +kernel, by decide, Or.inl (jm_g (i := 877) (by decide +kernel) rfl)⟩
theorem cb_L_82 : jm_CB RL 82 mX6_swaps 0 := ⟨by decide +kernel, jm_g (i := 503) (by decide +kernel) rfl, jm_g (i := 72) (by decide +kernel) rfl, by decide +kernel, by decide, Or.inl (jm_g (i := 500) (by decide +kernel) rfl)⟩
theorem cb_L_85 : jm_CB RL 85 mX7_swaps 0 := ⟨by decide +kernel, jm_g (i := 884) (by decide +kernel) rfl, jm_g (i := 79) (by decide +kernel) rfl, by decide +kernel, by decide, Or.inl (jm_g (i := 881) (by decide +kernel) rfl)⟩
theorem cb_L_86 : jm_CB RL 86 mX6_find 2 := ⟨by decide +kernel, jm_g (i := 517) (by decide +kernel) rfl, jm_g (i := 72) (by decide +kernel) rfl, by decide +kernel, by decide, Or.inl (jm_g (i := 514) (by decide +kernel) rfl)⟩
theorem cb_L_89 : jm_CB RL 89 mX7_find 2 := ⟨by decide +kernel, jm_g (i := 888) (by decide +kernel) rfl, jm_g (i := 79) (by decide +kernel) rfl, by decide +kernel, by decide, Or.inl (jm_g (i := 885) (by decide +kernel) rfl)⟩
theorem cb_L_90 : jm_CB RL 90 mX6_fair 3 := ⟨by decide +kernel, jm_g (i := 525) (by decide +kernel) rfl, jm_g (i := 72) (by decide +kernel) rfl, by decide +kernel, by decide, Or.inl (jm_g (i := 522) (by decide +kernel) rfl)⟩
theorem cb_L_93 : jm_CB RL 93 mX7_fair 3 := ⟨by decide +kernel, jm_g (i := 892) (by decide +kernel) rfl, jm_g (i := 79) (by decide +kernel) rfl, by decide +kernel, by decide, Or.inl (jm_g (i := 889) (by decide +kernel) rfl)⟩
theorem cb_L_94 : jm_CB RL 94 mX6_road 3 := ⟨by decide +kernel, jm_g (i := 533) (by decide +kernel) rfl, jm_g (i := 72) (by decide +kernel) rfl, by decide +kernel, by decide, Or.inl (jm_g (i := 530) (by decide +kernel) rfl)⟩
theorem cb_L_97 : jm_CB RL 97 mX7_road 3 := ⟨by decide +kernel, jm_g (i := 898) (by decide +kernel) rfl, jm_g (i := 79) (by decide +kernel) rfl, by decide +kernel, by decide, Or.inl (jm_g (i := 895) (by decide +kernel) rfl)⟩
theorem cb_L_98 : jm_CB RL 98 mX6_earns 0 := ⟨by decide +kernel, jm_g (i := 549) (by decide +kernel) rfl, jm_g (i := 72) (by decide +kernel) rfl, by decide +kernel, by decide, Or.inl (jm_g (i := 546) (by decide +kernel) rfl)⟩
theorem cb_L_101 : jm_CB RL 101 mX7_earns 0 := ⟨by decide +kernel, jm_g (i := 907) (by decide +kernel) rfl, jm_g (i := 79) (by decide +kernel) rfl, by decide +kernel, by decide, Or.inl (jm_g (i := 904) (by decide +kernel) rfl)⟩
theorem cb_L_102 : jm_CB RL 102 mX6_round 1 := ⟨by decide +kernel, jm_g (i := 585) (by decide +kernel) rfl, jm_g (i := 72) (by decide +kernel) rfl, by decide +kernel, by decide, Or.inl (jm_g (i := 582) (by decide +kernel) rfl)⟩
theorem cb_L_105 : jm_CB RL 105 mX7_round 1 := ⟨by decide +kernel, jm_g (i := 923) (by decide +kernel) rfl, jm_g (i := 79) (by decide +kernel) rfl, by decide +kernel, by decide, Or.inl (jm_g (i := 920) (by decide +kernel) rfl)⟩
theorem cb_L_106 : jm_CB RL 106 mX6_turn 0 := ⟨by decide +kernel, jm_g (i := 593) (by decide +kernel) rfl, jm_g (i := 72) (by decide +kernel) rfl, by decide +kernel, by decide, Or.inl (jm_g (i := 590) (by decide +kernel) rfl)⟩
theorem cb_L_109 : jm_CB RL 109 mX7_turn 0 := ⟨by decide +kernel, jm_g (i := 927) (by decide +kernel) rfl, jm_g (i := 79) (by decide +kernel) rfl, by decide +kernel, by decide, Or.inl (jm_g (i := 924) (by decide +kernel) rfl)⟩
theorem cb_L_110 : jm_CB RL 110 mX6_look 0 := ⟨by decide +kernel, jm_g (i := 603) (by decide +kernel) rfl, jm_g (i := 72) (by decide +kernel) rfl, by decide +kernel, by decide, Or.inl (jm_g (i := 600) (by decide +kernel) rfl)⟩
theorem cb_L_113 : jm_CB RL 113 mX7_look 0 := ⟨by decide +kernel, jm_g (i := 935) (by decide +kernel) rfl, jm_g (i := 79) (by decide +kernel) rfl, by decide +kernel, by decide, Or.inl (jm_g (i := 932) (by decide +kernel) rfl)⟩
theorem cb_L_114 : jm_CB RL 114 mX6_hours 1 := ⟨by decide +kernel, jm_g (i := 607) (by decide +kernel) rfl, jm_g (i := 72) (by decide +kernel) rfl, by decide +kernel, by decide, Or.inl (jm_g (i := 604) (by decide +kernel) rfl)⟩
theorem cb_L_117 : jm_CB RL 117 mX7_hours 1 := ⟨by decide +kernel, jm_g (i := 939) (by decide +kernel) rfl, jm_g (i := 79) (by decide +kernel) rfl, by decide +kernel, by decide, Or.inl (jm_g (i := 936) (by decide +kernel) rfl)⟩
theorem cb_L_118 : jm_CB RL 118 mX6_come 1 := ⟨by decide +kernel, jm_g (i := 611) (by decide +kernel) rfl, jm_g (i := 72) (by decide +kernel) rfl, by decide +kernel, by decide, Or.inl (jm_g (i := 608) (by decide +kernel) rfl)⟩
theorem cb_L_121 : jm_CB RL 121 mX7_come 1 := ⟨by decide +kernel, jm_g (i := 944) (by decide +kernel) rfl, jm_g (i := 79) (by decide +kernel) rfl, by decide +kernel, by decide, Or.inl (jm_g (i := 941) (by decide +kernel) rfl)⟩
theorem cb_L_122 : jm_CB RL 122 mX6_next 0 := ⟨by decide +kernel, jm_g (i := 619) (by decide +kernel) rfl, jm_g (i := 72) (by decide +kernel) rfl, by decide +kernel, by decide, Or.inl (jm_g (i := 616) (by decide +kernel) rfl)⟩
theorem cb_L_125 : jm_CB RL 125 mX7_next 0 := ⟨by decide +kernel, jm_g (i := 948) (by decide +kernel) rfl, jm_g (i := 79) (by decide +kernel) rfl, by decide +kernel, by decide, Or.inl (jm_g (i := 945) (by decide +kernel) rfl)⟩
theorem cb_L_126 : jm_CB RL 126 mX6_book 1 := ⟨by decide +kernel, jm_g (i := 628) (by decide +kernel) rfl, jm_g (i := 72) (by decide +kernel) rfl, by decide +kernel, by decide, Or.inl (jm_g (i := 625) (by decide +kernel) rfl)⟩
theorem cb_L_129 : jm_CB RL 129 mX7_book 1 := ⟨by decide +kernel, jm_g (i := 952) (by decide +kernel) rfl, jm_g (i := 79) (by decide +kernel) rfl, by decide +kernel, by decide, Or.inl (jm_g (i := 949) (by decide +kernel) rfl)⟩
theorem cb_L_130 : jm_CB RL 130 mX6_count 1 := ⟨by decide +kernel, jm_g (i := 633) (by decide +kernel) rfl, jm_g (i := 72) (by decide +kernel) rfl, by decide +kernel, by decide, Or.inl (jm_g (i := 630) (by decide +kernel) rfl)⟩
theorem cb_L_133 : jm_CB RL 133 mX7_count 1 := ⟨by decide +kernel, jm_g (i := 957) (by decide +kernel) rfl, jm_g (i := 79) (by decide +kernel) rfl, by decide +kernel, by decide, Or.inl (jm_g (i := 954) (by decide +kernel) rfl)⟩
theorem cb_L_134 : jm_CB RL 134 mX6_digest 0 := ⟨by decide +kernel, jm_g (i := 637) (by decide +kernel) rfl, jm_g (i := 72) (by decide +kernel) rfl, by decide +kernel, by decide, Or.inl (jm_g (i := 634) (by decide +kernel) rfl)⟩
theorem cb_L_138 : jm_CB RL 138 mX7_digest 0 := ⟨by decide +kernel, jm_g (i := 961) (by decide +kernel) rfl, jm_g (i := 79) (by decide +kernel) rfl, by decide +kernel, by decide, Or.inl (jm_g (i := 958) (by decide +kernel) rfl)⟩
theorem cb_X0_25 : jm_CB RX0 25 mX6_mix 2 := ⟨by decide +kernel, jm_g (i := 645) (by decide +kernel) rfl, jm_g (i := 72) (by decide +kernel) rfl, by decide +kernel, by decide, Or.inr ⟨"GallopingRing", jm_n (i := 666) (by decide +kernel) rfl⟩⟩
theorem cb_X1_18 : jm_CB RX1 18 mX6_isWithin 3 := ⟨by decide +kernel, jm_g (i := 267) (by decide +kernel) rfl, jm_g (i := 72) (by decide +kernel) rfl, by decide +kernel, by decide, Or.inr ⟨"GallopingRing", jm_n (i := 466) (by decide +kernel) rfl⟩⟩
theorem cb_X1_22 : jm_CB RX1 22 mX1_colourAtDepth 2 := ⟨by decide +kernel, jm_g (i := 465) (by decide +kernel) rfl, jm_g (i := 75) (by decide +kernel) rfl, by decide +kernel, by decide, Or.inl (jm_g (i := 475) (by decide +kernel) rfl)⟩
theorem cb_X1_26 : jm_CB RX1 26 mX6_mix 2 := ⟨by decide +kernel, jm_g (i := 645) (by decide +kernel) rfl, jm_g (i := 72) (by decide +kernel) rfl, by decide +kernel, by decide, Or.inr ⟨"GallopingRing", jm_n (i := 651) (by decide +kernel) rfl⟩⟩
theorem cb_X2_37 : jm_CB RX2 37 mX2_planFrom 1 := ⟨by decide +kernel, jm_g (i := 557) (by decide +kernel) rfl, jm_g (i := 77) (by decide +kernel) rfl, by decide +kernel, by decide, Or.inl (jm_g (i := 554) (by decide +kernel) rfl)⟩
theorem cb_X2_41 : jm_CB RX2 41 mX2_bestBehind 1 := ⟨by decide +kernel, jm_g (i := 561) (by decide +kernel) rfl, jm_g (i := 77) (by decide +kernel) rfl, by decide +kernel, by decide, Or.inl (jm_g (i := 558) (by decide +kernel) rfl)⟩
theorem cb_X2_45 : jm_CB RX2 45 mX2_gainFrom 1 := ⟨by decide +kernel, jm_g (i := 575) (by decide +kernel) rfl, jm_g (i := 77) (by decide +kernel) rfl, by decide +kernel, by decide, Or.inl (jm_g (i := 572) (by decide +kernel) rfl)⟩
theorem cb_X2_48 : jm_CB RX2 48 mX2_lengthFrom 1 := ⟨by decide +kernel, jm_g (i := 579) (by decide +kernel) rfl, jm_g (i := 77) (by decide +kernel) rfl, by decide +kernel, by decide, Or.inl (jm_g (i := 576) (by decide +kernel) rfl)⟩
theorem cb_X2_51 : jm_CB RX2 51 mX2_mayFollow 2 := ⟨by decide +kernel, jm_g (i := 565) (by decide +kernel) rfl, jm_g (i := 77) (by decide +kernel) rfl, by decide +kernel, by decide, Or.inl (jm_g (i := 562) (by decide +kernel) rfl)⟩
theorem cb_X2_55 : jm_CB RX2 55 mX2_isBetter 2 := ⟨by decide +kernel, jm_g (i := 571) (by decide +kernel) rfl, jm_g (i := 77) (by decide +kernel) rfl, by decide +kernel, by decide, Or.inl (jm_g (i := 568) (by decide +kernel) rfl)⟩
theorem cb_X2_58 : jm_CB RX2 58 mX2_isFair 1 := ⟨by decide +kernel, jm_g (i := 537) (by decide +kernel) rfl, jm_g (i := 77) (by decide +kernel) rfl, by decide +kernel, by decide, Or.inl (jm_g (i := 566) (by decide +kernel) rfl)⟩
theorem cb_X2_62 : jm_CB RX2 62 mX2_daysBetween 2 := ⟨by decide +kernel, jm_g (i := 541) (by decide +kernel) rfl, jm_g (i := 77) (by decide +kernel) rfl, by decide +kernel, by decide, Or.inl (jm_g (i := 567) (by decide +kernel) rfl)⟩
theorem cb_X2_66 : jm_CB RX2 66 mX6_mix 2 := ⟨by decide +kernel, jm_g (i := 645) (by decide +kernel) rfl, jm_g (i := 72) (by decide +kernel) rfl, by decide +kernel, by decide, Or.inr ⟨"GallopingRing", jm_n (i := 661) (by decide +kernel) rfl⟩⟩
theorem cb_X3_18 : jm_CB RX3 18 mX6_legNumber 2 := ⟨by decide +kernel, jm_g (i := 313) (by decide +kernel) rfl, jm_g (i := 72) (by decide +kernel) rfl, by decide +kernel, by decide, Or.inr ⟨"GallopingRing", jm_n (i := 311) (by decide +kernel) rfl⟩⟩
theorem cb_X3_28 : jm_CB RX3 28 mX3_walkCycle 1 := ⟨by decide +kernel, jm_g (i := 512) (by decide +kernel) rfl, jm_g (i := 76) (by decide +kernel) rfl, by decide +kernel, by decide, Or.inl (jm_g (i := 509) (by decide +kernel) rfl)⟩
theorem cb_X3_32 : jm_CB RX3 32 mX6_isWithin 3 := ⟨by decide +kernel, jm_g (i := 267) (by decide +kernel) rfl, jm_g (i := 72) (by decide +kernel) rfl, by decide +kernel, by decide, Or.inr ⟨"GallopingRing", jm_n (i := 513) (by decide +kernel) rfl⟩⟩
theorem cb_X3_36 : jm_CB RX3 36 mX6_mix 2 := ⟨by decide +kernel, jm_g (i := 645) (by decide +kernel) rfl, jm_g (i := 72) (by decide +kernel) rfl, by decide +kernel, by decide, Or.inr ⟨"GallopingRing", jm_n (i := 656) (by decide +kernel) rfl⟩⟩
theorem cb_X4_37 : jm_CB RX4 37 mX6_isPlace 1 := ⟨by decide +kernel, jm_g (i := 264) (by decide +kernel) rfl, jm_g (i := 72) (by decide +kernel) rfl, by decide +kernel, by decide, Or.inr ⟨"GallopingRing", jm_n (i := 272) (by decide +kernel) rfl⟩⟩
theorem cb_X4_41 : jm_CB RX4 41 mX4_hasHorse 1 := ⟨by decide +kernel, jm_g (i := 271) (by decide +kernel) rfl, jm_g (i := 73) (by decide +kernel) rfl, by decide +kernel, by decide, Or.inl (jm_g (i := 404) (by decide +kernel) rfl)⟩
theorem cb_X4_44 : jm_CB RX4 44 mX4_hasRider 1 := ⟨by decide +kernel, jm_g (i := 306) (by decide +kernel) rfl, jm_g (i := 73) (by decide +kernel) rfl, by decide +kernel, by decide, Or.inl (jm_g (i := 405) (by decide +kernel) rfl)⟩
theorem cb_X4_47 : jm_CB RX4 47 mX4_addLoad 2 := ⟨by decide +kernel, jm_g (i := 280) (by decide +kernel) rfl, jm_g (i := 73) (by decide +kernel) rfl, by decide +kernel, by decide, Or.inl (jm_g (i := 277) (by decide +kernel) rfl)⟩
theorem cb_X4_51 : jm_CB RX4 51 mX4_takeRider 1 := ⟨by decide +kernel, jm_g (i := 362) (by decide +kernel) rfl, jm_g (i := 73) (by decide +kernel) rfl, by decide +kernel, by decide, Or.inl (jm_g (i := 599) (by decide +kernel) rfl)⟩
theorem cb_X4_61 : jm_CB RX4 61 mX4_liftOf 2 := ⟨by decide +kernel, jm_g (i := 287) (by decide +kernel) rfl, jm_g (i := 73) (by decide +kernel) rfl, by decide +kernel, by decide, Or.inl (jm_g (i := 285) (by decide +kernel) rfl)⟩
theorem cb_X4_65 : jm_CB RX4 65 mX6_shakeOf 2 := ⟨by decide +kernel, jm_g (i := 339) (by decide +kernel) rfl, jm_g (i := 72) (by decide +kernel) rfl, by decide +kernel, by decide, Or.inr ⟨"GallopingRing", jm_n (i := 337) (by decide +kernel) rfl⟩⟩
theorem cb_X4_68 : jm_CB RX4 68 mX4_shakeNow 0 := ⟨by decide +kernel, jm_g (i := 354) (by decide +kernel) rfl, jm_g (i := 73) (by decide +kernel) rfl, by decide +kernel, by decide, Or.inl (jm_g (i := 379) (by decide +kernel) rfl)⟩
theorem cb_X4_72 : jm_CB RX4 72 mX4_isLawful 2 := ⟨by decide +kernel, jm_g (i := 343) (by decide +kernel) rfl, jm_g (i := 73) (by decide +kernel) rfl, by decide +kernel, by decide, Or.inl (jm_g (i := 340) (by decide +kernel) rfl)⟩
theorem cb_X4_76 : jm_CB RX4 76 mX4_shakeWith 2 := ⟨by decide +kernel, jm_g (i := 336) (by decide +kernel) rfl, jm_g (i := 73) (by decide +kernel) rfl, by decide +kernel, by decide, Or.inl (jm_g (i := 333) (by decide +kernel) rfl)⟩
theorem cb_X4_84 : jm_CB RX4 84 mX4_isFree 1 := ⟨by decide +kernel, jm_g (i := 403) (by decide +kernel) rfl, jm_g (i := 73) (by decide +kernel) rfl, by decide +kernel, by decide, Or.inl (jm_g (i := 400) (by decide +kernel) rfl)⟩
theorem cb_X4_87 : jm_CB RX4 87 mX4_mayTurnWith 2 := ⟨by decide +kernel, jm_g (i := 332) (by decide +kernel) rfl, jm_g (i := 73) (by decide +kernel) rfl, by decide +kernel, by decide, Or.inl (jm_g (i := 406) (by decide +kernel) rfl)⟩
theorem cb_X4_90 : jm_CB RX4 90 mX4_numberAboveZero 1 := ⟨by decide +kernel, jm_g (i := 298) (by decide +kernel) rfl, jm_g (i := 73) (by decide +kernel) rfl, by decide +kernel, by decide, Or.inl (jm_g (i := 296) (by decide +kernel) rfl)⟩
theorem cb_X4_94 : jm_CB RX4 94 mX4_horsesStanding 0 := ⟨by decide +kernel, jm_g (i := 295) (by decide +kernel) rfl, jm_g (i := 73) (by decide +kernel) rfl, by decide +kernel, by decide, Or.inl (jm_g (i := 418) (by decide +kernel) rfl)⟩
theorem cb_X4_97 : jm_CB RX4 97 mX4_ridersSitting 0 := ⟨by decide +kernel, jm_g (i := 422) (by decide +kernel) rfl, jm_g (i := 73) (by decide +kernel) rfl, by decide +kernel, by decide, Or.inl (jm_g (i := 419) (by decide +kernel) rfl)⟩
theorem cb_X5_36 : jm_CB RX5 36 mX5_tryRiders 5 := ⟨by decide +kernel, jm_g (i := 429) (by decide +kernel) rfl, jm_g (i := 74) (by decide +kernel) rfl, by decide +kernel, by decide, Or.inl (jm_g (i := 427) (by decide +kernel) rfl)⟩
theorem cb_X5_40 : jm_CB RX5 40 mX6_shakeOf 2 := ⟨by decide +kernel, jm_g (i := 339) (by decide +kernel) rfl, jm_g (i := 72) (by decide +kernel) rfl, by decide +kernel, by decide, Or.inr ⟨"GallopingRing", jm_n (i := 430) (by decide +kernel) rfl⟩⟩
theorem cb_X5_44 : jm_CB RX5 44 mX5_keepIfLess 1 := ⟨by decide +kernel, jm_g (i := 434) (by decide +kernel) rfl, jm_g (i := 74) (by decide +kernel) rfl, by decide +kernel, by decide, Or.inl (jm_g (i := 431) (by decide +kernel) rfl)⟩
theorem cb_X5_48 : jm_CB RX5 48 mX4_isFree 1 := ⟨by decide +kernel, jm_g (i := 403) (by decide +kernel) rfl, jm_g (i := 73) (by decide +kernel) rfl, by decide +kernel, by decide, Or.inr ⟨"GallopingRing", jm_n (i := 438) (by decide +kernel) rfl⟩⟩
theorem cb_X5_52 : jm_CB RX5 52 mX5_isTaken 2 := ⟨by decide +kernel, jm_g (i := 442) (by decide +kernel) rfl, jm_g (i := 74) (by decide +kernel) rfl, by decide +kernel, by decide, Or.inl (jm_g (i := 439) (by decide +kernel) rfl)⟩
theorem cb_X5_68 : jm_CB RX5 68 mX4_putRider 2 := ⟨by decide +kernel, jm_g (i := 350) (by decide +kernel) rfl, jm_g (i := 73) (by decide +kernel) rfl, by decide +kernel, by decide, Or.inr ⟨"GallopingRing", jm_n (i := 449) (by decide +kernel) rfl⟩⟩
theorem cb_X6_64 : jm_CB RX6 64 mX6_isPlace 1 := ⟨by decide +kernel, jm_g (i := 264) (by decide +kernel) rfl, jm_g (i := 72) (by decide +kernel) rfl, by decide +kernel, by decide, Or.inl (jm_g (i := 262) (by decide +kernel) rfl)⟩
theorem cb_X6_68 : jm_CB RX6 68 mX6_isWithin 3 := ⟨by decide +kernel, jm_g (i := 267) (by decide +kernel) rfl, jm_g (i := 72) (by decide +kernel) rfl, by decide +kernel, by decide, Or.inl (jm_g (i := 265) (by decide +kernel) rfl)⟩
theorem cb_X6_72 : jm_CB RX6 72 mX4_hasHorse 1 := ⟨by decide +kernel, jm_g (i := 271) (by decide +kernel) rfl, jm_g (i := 73) (by decide +kernel) rfl, by decide +kernel, by decide, Or.inr ⟨"GallopingRing", jm_n (i := 268) (by decide +kernel) rfl⟩⟩
theorem cb_X6_75 : jm_CB RX6 75 mX4_putHorse 2 := ⟨by decide +kernel, jm_g (i := 276) (by decide +kernel) rfl, jm_g (i := 73) (by decide +kernel) rfl, by decide +kernel, by decide, Or.inr ⟨"GallopingRing", jm_n (i := 273) (by decide +kernel) rfl⟩⟩
theorem cb_X6_79 : jm_CB RX6 79 mX1_paintOver 2 := ⟨by decide +kernel, jm_g (i := 291) (by decide +kernel) rfl, jm_g (i := 75) (by decide +kernel) rfl, by decide +kernel, by decide, Or.inr ⟨"GallopingRing", jm_n (i := 288) (by decide +kernel) rfl⟩⟩
theorem cb_X6_82 : jm_CB RX6 82 mX4_horsesStanding 0 := ⟨by decide +kernel, jm_g (i := 295) (by decide +kernel) rfl, jm_g (i := 73) (by decide +kernel) rfl, by decide +kernel, by decide, Or.inr ⟨"GallopingRing", jm_n (i := 292) (by decide +kernel) rfl⟩⟩
theorem cb_X6_86 : jm_CB RX6 86 mX4_hasRider 1 := ⟨by decide +kernel, jm_g (i := 306) (by decide +kernel) rfl, jm_g (i := 73) (by decide +kernel) rfl, by decide +kernel, by decide, Or.inr ⟨"GallopingRing", jm_n (i := 303) (by decide +kernel) rfl⟩⟩
theorem cb_X6_89 : jm_CB RX6 89 mX3_areOwn 1 := ⟨by decide +kernel, jm_g (i := 310) (by decide +kernel) rfl, jm_g (i := 76) (by decide +kernel) rfl, by decide +kernel, by decide, Or.inr ⟨"GallopingRing", jm_n (i := 307) (by decide +kernel) rfl⟩⟩
theorem cb_X6_92 : jm_CB RX6 92 mX1_clear 1 := ⟨by decide +kernel, jm_g (i := 317) (by decide +kernel) rfl, jm_g (i := 75) (by decide +kernel) rfl, by decide +kernel, by decide, Or.inr ⟨"GallopingRing", jm_n (i := 314) (by decide +kernel) rfl⟩⟩
theorem cb_X6_96 : jm_CB RX6 96 mX4_takeHorse 1 := ⟨by decide +kernel, jm_g (i := 321) (by decide +kernel) rfl, jm_g (i := 73) (by decide +kernel) rfl, by decide +kernel, by decide, Or.inr ⟨"GallopingRing", jm_n (i := 318) (by decide +kernel) rfl⟩⟩
theorem cb_X6_100 : jm_CB RX6 100 mX6_isRiderWeight 1 := ⟨by decide +kernel, jm_g (i := 328) (by decide +kernel) rfl, jm_g (i := 72) (by decide +kernel) rfl, by decide +kernel, by decide, Or.inl (jm_g (i := 326) (by decide +kernel) rfl)⟩
theorem cb_X6_103 : jm_CB RX6 103 mX4_mayTurnWith 2 := ⟨by decide +kernel, jm_g (i := 332) (by decide +kernel) rfl, jm_g (i := 73) (by decide +kernel) rfl, by decide +kernel, by decide, Or.inr ⟨"GallopingRing", jm_n (i := 329) (by decide +kernel) rfl⟩⟩
theorem cb_X6_107 : jm_CB RX6 107 mX4_putRider 2 := ⟨by decide +kernel, jm_g (i := 350) (by decide +kernel) rfl, jm_g (i := 73) (by decide +kernel) rfl, by decide +kernel, by decide, Or.inr ⟨"GallopingRing", jm_n (i := 347) (by decide +kernel) rfl⟩⟩
theorem cb_X6_110 : jm_CB RX6 110 mX4_shakeNow 0 := ⟨by decide +kernel, jm_g (i := 354) (by decide +kernel) rfl, jm_g (i := 73) (by decide +kernel) rfl, by decide +kernel, by decide, Or.inr ⟨"GallopingRing", jm_n (i := 351) (by decide +kernel) rfl⟩⟩
theorem cb_X6_113 : jm_CB RX6 113 mX4_takeRider 1 := ⟨by decide +kernel, jm_g (i := 362) (by decide +kernel) rfl, jm_g (i := 73) (by decide +kernel) rfl, by decide +kernel, by decide, Or.inr ⟨"GallopingRing", jm_n (i := 359) (by decide +kernel) rfl⟩⟩
theorem cb_X6_119 : jm_CB RX6 119 mX4_mayTurn 0 := ⟨by decide +kernel, jm_g (i := 378) (by decide +kernel) rfl, jm_g (i := 73) (by decide +kernel) rfl, by decide +kernel, by decide, Or.inr ⟨"GallopingRing", jm_n (i := 375) (by decide +kernel) rfl⟩⟩
theorem cb_X6_123 : jm_CB RX6 123 mX6_lawOfShaking 1 := ⟨by decide +kernel, jm_g (i := 387) (by decide +kernel) rfl, jm_g (i := 72) (by decide +kernel) rfl, by decide +kernel, by decide, Or.inl (jm_g (i := 384) (by decide +kernel) rfl)⟩
theorem cb_X6_126 : jm_CB RX6 126 mX6_lawOfLift 1 := ⟨by decide +kernel, jm_g (i := 391) (by decide +kernel) rfl, jm_g (i := 72) (by decide +kernel) rfl, by decide +kernel, by decide, Or.inl (jm_g (i := 388) (by decide +kernel) rfl)⟩
theorem cb_X6_129 : jm_CB RX6 129 mX4_bestHorse 1 := ⟨by decide +kernel, jm_g (i := 399) (by decide +kernel) rfl, jm_g (i := 73) (by decide +kernel) rfl, by decide +kernel, by decide, Or.inr ⟨"GallopingRing", jm_n (i := 396) (by decide +kernel) rfl⟩⟩
theorem cb_X6_132 : jm_CB RX6 132 mX6_isGroup 4 := ⟨by decide +kernel, jm_g (i := 413) (by decide +kernel) rfl, jm_g (i := 72) (by decide +kernel) rfl, by decide +kernel, by decide, Or.inl (jm_g (i := 411) (by decide +kernel) rfl)⟩
theorem cb_X6_136 : jm_CB RX6 136 mX4_freeHorses 0 := ⟨by decide +kernel, jm_g (i := 417) (by decide +kernel) rfl, jm_g (i := 73) (by decide +kernel) rfl, by decide +kernel, by decide, Or.inr ⟨"GallopingRing", jm_n (i := 414) (by decide +kernel) rfl⟩⟩
theorem cb_X6_139 : jm_CB RX6 139 mX5_choose 5 := ⟨by decide +kernel, jm_g (i := 426) (by decide +kernel) rfl, jm_g (i := 74) (by decide +kernel) rfl, by decide +kernel, by decide, Or.inr ⟨"GallopingRing", jm_n (i := 423) (by decide +kernel) rfl⟩⟩
theorem cb_X6_143 : jm_CB RX6 143 mX5_seatAll 1 := ⟨by decide +kernel, jm_g (i := 448) (by decide +kernel) rfl, jm_g (i := 74) (by decide +kernel) rfl, by decide +kernel, by decide, Or.inr ⟨"GallopingRing", jm_n (i := 445) (by decide +kernel) rfl⟩⟩
theorem cb_X6_154 : jm_CB RX6 154 mX1_colourAtDepth 2 := ⟨by decide +kernel, jm_g (i := 465) (by decide +kernel) rfl, jm_g (i := 75) (by decide +kernel) rfl, by decide +kernel, by decide, Or.inr ⟨"GallopingRing", jm_n (i := 462) (by decide +kernel) rfl⟩⟩
theorem cb_X6_158 : jm_CB RX6 158 mX1_depthOf 2 := ⟨by decide +kernel, jm_g (i := 474) (by decide +kernel) rfl, jm_g (i := 75) (by decide +kernel) rfl, by decide +kernel, by decide, Or.inr ⟨"GallopingRing", jm_n (i := 471) (by decide +kernel) rfl⟩⟩
theorem cb_X6_161 : jm_CB RX6 161 mX1_takeOff 2 := ⟨by decide +kernel, jm_g (i := 479) (by decide +kernel) rfl, jm_g (i := 75) (by decide +kernel) rfl, by decide +kernel, by decide, Or.inr ⟨"GallopingRing", jm_n (i := 476) (by decide +kernel) rfl⟩⟩
theorem cb_X6_164 : jm_CB RX6 164 mX6_isLegOfHorse 2 := ⟨by decide +kernel, jm_g (i := 487) (by decide +kernel) rfl, jm_g (i := 72) (by decide +kernel) rfl, by decide +kernel, by decide, Or.inl (jm_g (i := 484) (by decide +kernel) rfl)⟩
theorem cb_X6_167 : jm_CB RX6 167 mX6_legNumber 2 := ⟨by decide +kernel, jm_g (i := 313) (by decide +kernel) rfl, jm_g (i := 72) (by decide +kernel) rfl, by decide +kernel, by decide, Or.inl (jm_g (i := 491) (by decide +kernel) rfl)⟩
theorem cb_X6_170 : jm_CB RX6 170 mX3_exchange 2 := ⟨by decide +kernel, jm_g (i := 495) (by decide +kernel) rfl, jm_g (i := 76) (by decide +kernel) rfl, by decide +kernel, by decide, Or.inr ⟨"GallopingRing", jm_n (i := 492) (by decide +kernel) rfl⟩⟩
theorem cb_X6_176 : jm_CB RX6 176 mX3_fewestSwaps 0 := ⟨by decide +kernel, jm_g (i := 507) (by decide +kernel) rfl, jm_g (i := 76) (by decide +kernel) rfl, by decide +kernel, by decide, Or.inr ⟨"GallopingRing", jm_n (i := 504) (by decide +kernel) rfl⟩⟩
theorem cb_X6_179 : jm_CB RX6 179 mX6_isLeg 1 := ⟨by decide +kernel, jm_g (i := 490) (by decide +kernel) rfl, jm_g (i := 72) (by decide +kernel) rfl, by decide +kernel, by decide, Or.inl (jm_g (i := 488) (by decide +kernel) rfl)⟩
theorem cb_X6_182 : jm_CB RX6 182 mX3_whereIs 1 := ⟨by decide +kernel, jm_g (i := 521) (by decide +kernel) rfl, jm_g (i := 76) (by decide +kernel) rfl, by decide +kernel, by decide, Or.inr ⟨"GallopingRing", jm_n (i := 518) (by decide +kernel) rfl⟩⟩
theorem cb_X6_188 : jm_CB RX6 188 mX2_announce 3 := ⟨by decide +kernel, jm_g (i := 529) (by decide +kernel) rfl, jm_g (i := 77) (by decide +kernel) rfl, by decide +kernel, by decide, Or.inr ⟨"GallopingRing", jm_n (i := 526) (by decide +kernel) rfl⟩⟩
theorem cb_X6_192 : jm_CB RX6 192 mX2_isFair 1 := ⟨by decide +kernel, jm_g (i := 537) (by decide +kernel) rfl, jm_g (i := 77) (by decide +kernel) rfl, by decide +kernel, by decide, Or.inr ⟨"GallopingRing", jm_n (i := 534) (by decide +kernel) rfl⟩⟩
theorem cb_X6_195 : jm_CB RX6 195 mX2_daysBetween 2 := ⟨by decide +kernel, jm_g (i := 541) (by decide +kernel) rfl, jm_g (i := 77) (by decide +kernel) rfl, by decide +kernel, by decide, Or.inr ⟨"GallopingRing", jm_n (i := 538) (by decide +kernel) rfl⟩⟩
theorem cb_X6_198 : jm_CB RX6 198 mX2_layRoad 3 := ⟨by decide +kernel, jm_g (i := 545) (by decide +kernel) rfl, jm_g (i := 77) (by decide +kernel) rfl, by decide +kernel, by decide, Or.inr ⟨"GallopingRing", jm_n (i := 542) (by decide +kernel) rfl⟩⟩
theorem cb_X6_202 : jm_CB RX6 202 mX2_planRounds 0 := ⟨by decide +kernel, jm_g (i := 553) (by decide +kernel) rfl, jm_g (i := 77) (by decide +kernel) rfl, by decide +kernel, by decide, Or.inr ⟨"GallopingRing", jm_n (i := 550) (by decide +kernel) rfl⟩⟩
theorem cb_X6_205 : jm_CB RX6 205 mX2_bestBehind 1 := ⟨by decide +kernel, jm_g (i := 561) (by decide +kernel) rfl, jm_g (i := 77) (by decide +kernel) rfl, by decide +kernel, by decide, Or.inr ⟨"GallopingRing", jm_n (i := 580) (by decide +kernel) rfl⟩⟩
theorem cb_X6_208 : jm_CB RX6 208 mX2_gainFrom 1 := ⟨by decide +kernel, jm_g (i := 575) (by decide +kernel) rfl, jm_g (i := 77) (by decide +kernel) rfl, by decide +kernel, by decide, Or.inr ⟨"GallopingRing", jm_n (i := 581) (by decide +kernel) rfl⟩⟩
theorem cb_X6_211 : jm_CB RX6 211 mX2_fairOfBestRound 1 := ⟨by decide +kernel, jm_g (i := 589) (by decide +kernel) rfl, jm_g (i := 77) (by decide +kernel) rfl, by decide +kernel, by decide, Or.inr ⟨"GallopingRing", jm_n (i := 586) (by decide +kernel) rfl⟩⟩
theorem cb_X6_214 : jm_CB RX6 214 mX4_ridersSitting 0 := ⟨by decide +kernel, jm_g (i := 422) (by decide +kernel) rfl, jm_g (i := 73) (by decide +kernel) rfl, by decide +kernel, by decide, Or.inr ⟨"GallopingRing", jm_n (i := 594) (by decide +kernel) rfl⟩⟩
theorem cb_X6_217 : jm_CB RX6 217 mX4_takeAllRiders 0 := ⟨by decide +kernel, jm_g (i := 598) (by decide +kernel) rfl, jm_g (i := 73) (by decide +kernel) rfl, by decide +kernel, by decide, Or.inr ⟨"GallopingRing", jm_n (i := 595) (by decide +kernel) rfl⟩⟩
theorem cb_X6_223 : jm_CB RX6 223 mX0_join 1 := ⟨by decide +kernel, jm_g (i := 615) (by decide +kernel) rfl, jm_g (i := 78) (by decide +kernel) rfl, by decide +kernel, by decide, Or.inr ⟨"GallopingRing", jm_n (i := 612) (by decide +kernel) rfl⟩⟩
theorem cb_X6_229 : jm_CB RX6 229 mX0_dropFirst 0 := ⟨by decide +kernel, jm_g (i := 623) (by decide +kernel) rfl, jm_g (i := 78) (by decide +kernel) rfl, by decide +kernel, by decide, Or.inr ⟨"GallopingRing", jm_n (i := 620) (by decide +kernel) rfl⟩⟩
theorem cb_X6_238 : jm_CB RX6 238 mX6_mixPlace 2 := ⟨by decide +kernel, jm_g (i := 642) (by decide +kernel) rfl, jm_g (i := 72) (by decide +kernel) rfl, by decide +kernel, by decide, Or.inl (jm_g (i := 639) (by decide +kernel) rfl)⟩
theorem cb_X6_245 : jm_CB RX6 245 mX6_mix 2 := ⟨by decide +kernel, jm_g (i := 645) (by decide +kernel) rfl, jm_g (i := 72) (by decide +kernel) rfl, by decide +kernel, by decide, Or.inl (jm_g (i := 643) (by decide +kernel) rfl)⟩
theorem cb_X6_251 : jm_CB RX6 251 mX2_mixAll 1 := ⟨by decide +kernel, jm_g (i := 660) (by decide +kernel) rfl, jm_g (i := 77) (by decide +kernel) rfl, by decide +kernel, by decide, Or.inr ⟨"GallopingRing", jm_n (i := 657) (by decide +kernel) rfl⟩⟩
theorem cb_X6_255 : jm_CB RX6 255 mX0_mixAll 1 := ⟨by decide +kernel, jm_g (i := 665) (by decide +kernel) rfl, jm_g (i := 78) (by decide +kernel) rfl, by decide +kernel, by decide, Or.inr ⟨"GallopingRing", jm_n (i := 662) (by decide +kernel) rfl⟩⟩
theorem cb_X6_259 : jm_CB RX6 259 mX1_mixCoats 2 := ⟨by decide +kernel, jm_g (i := 650) (by decide +kernel) rfl, jm_g (i := 75) (by decide +kernel) rfl, by decide +kernel, by decide, Or.inr ⟨"GallopingRing", jm_n (i := 647) (by decide +kernel) rfl⟩⟩
theorem cb_X6_262 : jm_CB RX6 262 mX3_mixLegs 2 := ⟨by decide +kernel, jm_g (i := 655) (by decide +kernel) rfl, jm_g (i := 76) (by decide +kernel) rfl, by decide +kernel, by decide, Or.inr ⟨"GallopingRing", jm_n (i := 652) (by decide +kernel) rfl⟩⟩
theorem cb_X7_69 : jm_CB RX7 69 mX7_put 3 := ⟨by decide +kernel, jm_g (i := 676) (by decide +kernel) rfl, jm_g (i := 79) (by decide +kernel) rfl, by decide +kernel, by decide, Or.inl (jm_g (i := 673) (by decide +kernel) rfl)⟩
theorem cb_X7_75 : jm_CB RX7 75 mX7_in 3 := ⟨by decide +kernel, jm_g (i := 767) (by decide +kernel) rfl, jm_g (i := 79) (by decide +kernel) rfl, by decide +kernel, by decide, Or.inl (jm_g (i := 765) (by decide +kernel) rfl)⟩
theorem cb_X7_79 : jm_CB RX7 79 mX7_isPlace 1 := ⟨by decide +kernel, jm_g (i := 763) (by decide +kernel) rfl, jm_g (i := 79) (by decide +kernel) rfl, by decide +kernel, by decide, Or.inl (jm_g (i := 761) (by decide +kernel) rfl)⟩
theorem cb_X7_87 : jm_CB RX7 87 mX7_horses 0 := ⟨by decide +kernel, jm_g (i := 773) (by decide +kernel) rfl, jm_g (i := 79) (by decide +kernel) rfl, by decide +kernel, by decide, Or.inl (jm_g (i := 770) (by decide +kernel) rfl)⟩
theorem cb_X7_91 : jm_CB RX7 91 mX7_isHorse 1 := ⟨by decide +kernel, jm_g (i := 781) (by decide +kernel) rfl, jm_g (i := 79) (by decide +kernel) rfl, by decide +kernel, by decide, Or.inl (jm_g (i := 778) (by decide +kernel) rfl)⟩
theorem cb_X7_94 : jm_CB RX7 94 mX7_load 1 := ⟨by decide +kernel, jm_g (i := 805) (by decide +kernel) rfl, jm_g (i := 79) (by decide +kernel) rfl, by decide +kernel, by decide, Or.inl (jm_g (i := 802) (by decide +kernel) rfl)⟩
theorem cb_X7_98 : jm_CB RX7 98 mX7_risingOf 0 := ⟨by decide +kernel, jm_g (i := 801) (by decide +kernel) rfl, jm_g (i := 79) (by decide +kernel) rfl, by decide +kernel, by decide, Or.inl (jm_g (i := 798) (by decide +kernel) rfl)⟩
theorem cb_X7_101 : jm_CB RX7 101 mX7_shakeOf 0 := ⟨by decide +kernel, jm_g (i := 809) (by decide +kernel) rfl, jm_g (i := 79) (by decide +kernel) rfl, by decide +kernel, by decide, Or.inl (jm_g (i := 806) (by decide +kernel) rfl)⟩
theorem cb_X7_104 : jm_CB RX7 104 mX7_mayTurn 0 := ⟨by decide +kernel, jm_g (i := 797) (by decide +kernel) rfl, jm_g (i := 79) (by decide +kernel) rfl, by decide +kernel, by decide, Or.inl (jm_g (i := 794) (by decide +kernel) rfl)⟩
theorem cb_X7_110 : jm_CB RX7 110 mX7_isRider 1 := ⟨by decide +kernel, jm_g (i := 788) (by decide +kernel) rfl, jm_g (i := 79) (by decide +kernel) rfl, by decide +kernel, by decide, Or.inl (jm_g (i := 786) (by decide +kernel) rfl)⟩
theorem cb_X7_113 : jm_CB RX7 113 mX7_isBlocked 2 := ⟨by decide +kernel, jm_g (i := 793) (by decide +kernel) rfl, jm_g (i := 79) (by decide +kernel) rfl, by decide +kernel, by decide, Or.inl (jm_g (i := 790) (by decide +kernel) rfl)⟩
theorem cb_X7_121 : jm_CB RX7 121 mX7_isFree 1 := ⟨by decide +kernel, jm_g (i := 843) (by decide +kernel) rfl, jm_g (i := 79) (by decide +kernel) rfl, by decide +kernel, by decide, Or.inl (jm_g (i := 840) (by decide +kernel) rfl)⟩
theorem cb_X7_124 : jm_CB RX7 124 mX7_bestOf 1 := ⟨by decide +kernel, jm_g (i := 839) (by decide +kernel) rfl, jm_g (i := 79) (by decide +kernel) rfl, by decide +kernel, by decide, Or.inl (jm_g (i := 836) (by decide +kernel) rfl)⟩
theorem cb_X7_132 : jm_CB RX7 132 mX7_seat 2 := ⟨by decide +kernel, jm_g (i := 852) (by decide +kernel) rfl, jm_g (i := 79) (by decide +kernel) rfl, by decide +kernel, by decide, Or.inl (jm_g (i := 849) (by decide +kernel) rfl)⟩
theorem cb_X7_136 : jm_CB RX7 136 mX7_isLeg 2 := ⟨by decide +kernel, jm_g (i := 876) (by decide +kernel) rfl, jm_g (i := 79) (by decide +kernel) rfl, by decide +kernel, by decide, Or.inl (jm_g (i := 873) (by decide +kernel) rfl)⟩
theorem cb_X7_146 : jm_CB RX7 146 mX7_isFair 1 := ⟨by decide +kernel, jm_g (i := 902) (by decide +kernel) rfl, jm_g (i := 79) (by decide +kernel) rfl, by decide +kernel, by decide, Or.inl (jm_g (i := 899) (by decide +kernel) rfl)⟩
theorem cb_X7_157 : jm_CB RX7 157 mX7_lay 1 := ⟨by decide +kernel, jm_g (i := 915) (by decide +kernel) rfl, jm_g (i := 79) (by decide +kernel) rfl, by decide +kernel, by decide, Or.inl (jm_g (i := 912) (by decide +kernel) rfl)⟩
theorem cb_X7_160 : jm_CB RX7 160 mX7_isLess 0 := ⟨by decide +kernel, jm_g (i := 919) (by decide +kernel) rfl, jm_g (i := 79) (by decide +kernel) rfl, by decide +kernel, by decide, Or.inl (jm_g (i := 916) (by decide +kernel) rfl)⟩
theorem cb_X7_163 : jm_CB RX7 163 mX7_findRound 0 := ⟨by decide +kernel, jm_g (i := 911) (by decide +kernel) rfl, jm_g (i := 79) (by decide +kernel) rfl, by decide +kernel, by decide, Or.inl (jm_g (i := 908) (by decide +kernel) rfl)⟩
theorem cb_X7_169 : jm_CB RX7 169 mX7_riders 0 := ⟨by decide +kernel, jm_g (i := 931) (by decide +kernel) rfl, jm_g (i := 79) (by decide +kernel) rfl, by decide +kernel, by decide, Or.inl (jm_g (i := 928) (by decide +kernel) rfl)⟩
theorem cs_X4_liftOf : Cond.static yX4_liftOf ∈ jm_gw := jm_g (i := 286) (by decide +kernel) rfl
theorem cs_X4_numberAboveZero : Cond.static yX4_numberAboveZero ∈ jm_gw := jm_g (i := 297) (by decide +kernel) rfl
theorem cs_X5_tryRiders : Cond.static yX5_tryRiders ∈ jm_gw := jm_g (i := 428) (by decide +kernel) rfl
theorem cs_X6_isGroup : Cond.static yX6_isGroup ∈ jm_gw := jm_g (i := 412) (by decide +kernel) rfl
theorem cs_X6_isLeg : Cond.static yX6_isLeg ∈ jm_gw := jm_g (i := 489) (by decide +kernel) rfl
theorem cs_X6_isPlace : Cond.static yX6_isPlace ∈ jm_gw := jm_g (i := 263) (by decide +kernel) rfl
theorem cs_X6_isRiderWeight : Cond.static yX6_isRiderWeight ∈ jm_gw := jm_g (i := 327) (by decide +kernel) rfl
theorem cs_X6_isWithin : Cond.static yX6_isWithin ∈ jm_gw := jm_g (i := 266) (by decide +kernel) rfl
theorem cs_X6_legNumber : Cond.static yX6_legNumber ∈ jm_gw := jm_g (i := 312) (by decide +kernel) rfl
theorem cs_X6_mix : Cond.static yX6_mix ∈ jm_gw := jm_g (i := 644) (by decide +kernel) rfl
theorem cs_X6_shakeOf : Cond.static yX6_shakeOf ∈ jm_gw := jm_g (i := 338) (by decide +kernel) rfl
theorem cs_X7_in : Cond.static yX7_in ∈ jm_gw := jm_g (i := 766) (by decide +kernel) rfl
theorem cs_X7_isPlace : Cond.static yX7_isPlace ∈ jm_gw := jm_g (i := 762) (by decide +kernel) rfl
theorem cs_X7_isRider : Cond.static yX7_isRider ∈ jm_gw := jm_g (i := 787) (by decide +kernel) rfl
theorem ci_X0_dropFirst : Cond.instanceMethod yX0_dropFirst ∈ jm_gw := jm_g (i := 622) (by decide +kernel) rfl
theorem cv_X0_dropFirst : Cond.selects yX0_dropFirst.cls yX0_dropFirst yX0_dropFirst ∈ jm_gw := jm_g (i := 48) (by decide +kernel) rfl
theorem ci_X0_join : Cond.instanceMethod yX0_join ∈ jm_gw := jm_g (i := 614) (by decide +kernel) rfl
theorem cv_X0_join : Cond.selects yX0_join.cls yX0_join yX0_join ∈ jm_gw := jm_g (i := 47) (by decide +kernel) rfl
theorem ci_X0_mixAll : Cond.instanceMethod yX0_mixAll ∈ jm_gw := jm_g (i := 664) (by decide +kernel) rfl
theorem cv_X0_mixAll : Cond.selects yX0_mixAll.cls yX0_mixAll yX0_mixAll ∈ jm_gw := jm_g (i := 53) (by decide +kernel) rfl
theorem ci_X1_clear : Cond.instanceMethod yX1_clear ∈ jm_gw := jm_g (i := 316) (by decide +kernel) rfl
theorem cv_X1_clear : Cond.selects yX1_clear.cls yX1_clear yX1_clear ∈ jm_gw := jm_g (i := 7) (by decide +kernel) rfl
theorem ci_X1_colourAtDepth : Cond.instanceMethod yX1_colourAtDepth ∈ jm_gw := jm_g (i := 464) (by decide +kernel) rfl
theorem cv_X1_colourAtDepth : Cond.selects yX1_colourAtDepth.cls yX1_colourAtDepth yX1_colourAtDepth ∈ jm_gw := jm_g (i := 26) (by decide +kernel) rfl
theorem ci_X1_depthOf : Cond.instanceMethod yX1_depthOf ∈ jm_gw := jm_g (i := 473) (by decide +kernel) rfl
theorem cv_X1_depthOf : Cond.selects yX1_depthOf.cls yX1_depthOf yX1_depthOf ∈ jm_gw := jm_g (i := 27) (by decide +kernel) rfl
theorem ci_X1_mixCoats : Cond.instanceMethod yX1_mixCoats ∈ jm_gw := jm_g (i := 649) (by decide +kernel) rfl
theorem cv_X1_mixCoats : Cond.selects yX1_mixCoats.cls yX1_mixCoats yX1_mixCoats ∈ jm_gw := jm_g (i := 50) (by decide +kernel) rfl
theorem ci_X1_paintOver : Cond.instanceMethod yX1_paintOver ∈ jm_gw := jm_g (i := 290) (by decide +kernel) rfl
theorem cv_X1_paintOver : Cond.selects yX1_paintOver.cls yX1_paintOver yX1_paintOver ∈ jm_gw := jm_g (i := 3) (by decide +kernel) rfl
theorem ci_X1_takeOff : Cond.instanceMethod yX1_takeOff ∈ jm_gw := jm_g (i := 478) (by decide +kernel) rfl
theorem cv_X1_takeOff : Cond.selects yX1_takeOff.cls yX1_takeOff yX1_takeOff ∈ jm_gw := jm_g (i := 28) (by decide +kernel) rfl
theorem ci_X2_announce : Cond.instanceMethod yX2_announce ∈ jm_gw := jm_g (i := 528) (by decide +kernel) rfl
theorem cv_X2_announce : Cond.selects yX2_announce.cls yX2_announce yX2_announce ∈ jm_gw := jm_g (i := 34) (by decide +kernel) rfl
theorem ci_X2_bestBehind : Cond.instanceMethod yX2_bestBehind ∈ jm_gw := jm_g (i := 560) (by decide +kernel) rfl
theorem cv_X2_bestBehind : Cond.selects yX2_bestBehind.cls yX2_bestBehind yX2_bestBehind ∈ jm_gw := jm_g (i := 40) (by decide +kernel) rfl
theorem ci_X2_daysBetween : Cond.instanceMethod yX2_daysBetween ∈ jm_gw := jm_g (i := 540) (by decide +kernel) rfl
theorem cv_X2_daysBetween : Cond.selects yX2_daysBetween.cls yX2_daysBetween yX2_daysBetween ∈ jm_gw := jm_g (i := 36) (by decide +kernel) rfl
theorem ci_X2_fairOfBestRound : Cond.instanceMethod yX2_fairOfBestRound ∈ jm_gw := jm_g (i := 588) (by decide +kernel) rfl
theorem cv_X2_fairOfBestRound : Cond.selects yX2_fairOfBestRound.cls yX2_fairOfBestRound yX2_fairOfBestRound ∈ jm_gw := jm_g (i := 45) (by decide +kernel) rfl
theorem ci_X2_gainFrom : Cond.instanceMethod yX2_gainFrom ∈ jm_gw := jm_g (i := 574) (by decide +kernel) rfl
theorem cv_X2_gainFrom : Cond.selects yX2_gainFrom.cls yX2_gainFrom yX2_gainFrom ∈ jm_gw := jm_g (i := 43) (by decide +kernel) rfl
theorem ci_X2_isBetter : Cond.instanceMethod yX2_isBetter ∈ jm_gw := jm_g (i := 570) (by decide +kernel) rfl
theorem cv_X2_isBetter : Cond.selects yX2_isBetter.cls yX2_isBetter yX2_isBetter ∈ jm_gw := jm_g (i := 42) (by decide +kernel) rfl
theorem ci_X2_isFair : Cond.instanceMethod yX2_isFair ∈ jm_gw := jm_g (i := 536) (by decide +kernel) rfl
theorem cv_X2_isFair : Cond.selects yX2_isFair.cls yX2_isFair yX2_isFair ∈ jm_gw := jm_g (i := 35) (by decide +kernel) rfl
theorem ci_X2_layRoad : Cond.instanceMethod yX2_layRoad ∈ jm_gw := jm_g (i := 544) (by decide +kernel) rfl
theorem cv_X2_layRoad : Cond.selects yX2_layRoad.cls yX2_layRoad yX2_layRoad ∈ jm_gw := jm_g (i := 37) (by decide +kernel) rfl
theorem ci_X2_lengthFrom : Cond.instanceMethod yX2_lengthFrom ∈ jm_gw := jm_g (i := 578) (by decide +kernel) rfl
theorem cv_X2_lengthFrom : Cond.selects yX2_lengthFrom.cls yX2_lengthFrom yX2_lengthFrom ∈ jm_gw := jm_g (i := 44) (by decide +kernel) rfl
theorem ci_X2_mayFollow : Cond.instanceMethod yX2_mayFollow ∈ jm_gw := jm_g (i := 564) (by decide +kernel) rfl
theorem cv_X2_mayFollow : Cond.selects yX2_mayFollow.cls yX2_mayFollow yX2_mayFollow ∈ jm_gw := jm_g (i := 41) (by decide +kernel) rfl
theorem ci_X2_mixAll : Cond.instanceMethod yX2_mixAll ∈ jm_gw := jm_g (i := 659) (by decide +kernel) rfl
theorem cv_X2_mixAll : Cond.selects yX2_mixAll.cls yX2_mixAll yX2_mixAll ∈ jm_gw := jm_g (i := 52) (by decide +kernel) rfl
theorem ci_X2_planFrom : Cond.instanceMethod yX2_planFrom ∈ jm_gw := jm_g (i := 556) (by decide +kernel) rfl
theorem cv_X2_planFrom : Cond.selects yX2_planFrom.cls yX2_planFrom yX2_planFrom ∈ jm_gw := jm_g (i := 39) (by decide +kernel) rfl
theorem ci_X2_planRounds : Cond.instanceMethod yX2_planRounds ∈ jm_gw := jm_g (i := 552) (by decide +kernel) rfl
theorem cv_X2_planRounds : Cond.selects yX2_planRounds.cls yX2_planRounds yX2_planRounds ∈ jm_gw := jm_g (i := 38) (by decide +kernel) rfl
theorem ci_X3_areOwn : Cond.instanceMethod yX3_areOwn ∈ jm_gw := jm_g (i := 309) (by decide +kernel) rfl
theorem cv_X3_areOwn : Cond.selects yX3_areOwn.cls yX3_areOwn yX3_areOwn ∈ jm_gw := jm_g (i := 6) (by decide +kernel) rfl
theorem ci_X3_exchange : Cond.instanceMethod yX3_exchange ∈ jm_gw := jm_g (i := 494) (by decide +kernel) rfl
theorem cv_X3_exchange : Cond.selects yX3_exchange.cls yX3_exchange yX3_exchange ∈ jm_gw := jm_g (i := 30) (by decide +kernel) rfl
theorem ci_X3_fewestSwaps : Cond.instanceMethod yX3_fewestSwaps ∈ jm_gw := jm_g (i := 506) (by decide +kernel) rfl
theorem cv_X3_fewestSwaps : Cond.selects yX3_fewestSwaps.cls yX3_fewestSwaps yX3_fewestSwaps ∈ jm_gw := jm_g (i := 31) (by decide +kernel) rfl
theorem ci_X3_mixLegs : Cond.instanceMethod yX3_mixLegs ∈ jm_gw := jm_g (i := 654) (by decide +kernel) rfl
theorem cv_X3_mixLegs : Cond.selects yX3_mixLegs.cls yX3_mixLegs yX3_mixLegs ∈ jm_gw := jm_g (i := 51) (by decide +kernel) rfl
theorem ci_X3_walkCycle : Cond.instanceMethod yX3_walkCycle ∈ jm_gw := jm_g (i := 511) (by decide +kernel) rfl
theorem cv_X3_walkCycle : Cond.selects yX3_walkCycle.cls yX3_walkCycle yX3_walkCycle ∈ jm_gw := jm_g (i := 32) (by decide +kernel) rfl
theorem ci_X3_whereIs : Cond.instanceMethod yX3_whereIs ∈ jm_gw := jm_g (i := 520) (by decide +kernel) rfl
theorem cv_X3_whereIs : Cond.selects yX3_whereIs.cls yX3_whereIs yX3_whereIs ∈ jm_gw := jm_g (i := 33) (by decide +kernel) rfl
theorem ci_X4_addLoad : Cond.instanceMethod yX4_addLoad ∈ jm_gw := jm_g (i := 279) (by decide +kernel) rfl
theorem cv_X4_addLoad : Cond.selects yX4_addLoad.cls yX4_addLoad yX4_addLoad ∈ jm_gw := jm_g (i := 2) (by decide +kernel) rfl
theorem ci_X4_bestHorse : Cond.instanceMethod yX4_bestHorse ∈ jm_gw := jm_g (i := 398) (by decide +kernel) rfl
theorem cv_X4_bestHorse : Cond.selects yX4_bestHorse.cls yX4_bestHorse yX4_bestHorse ∈ jm_gw := jm_g (i := 18) (by decide +kernel) rfl
theorem ci_X4_freeHorses : Cond.instanceMethod yX4_freeHorses ∈ jm_gw := jm_g (i := 416) (by decide +kernel) rfl
theorem cv_X4_freeHorses : Cond.selects yX4_freeHorses.cls yX4_freeHorses yX4_freeHorses ∈ jm_gw := jm_g (i := 20) (by decide +kernel) rfl
theorem ci_X4_hasHorse : Cond.instanceMethod yX4_hasHorse ∈ jm_gw := jm_g (i := 270) (by decide +kernel) rfl
theorem cv_X4_hasHorse : Cond.selects yX4_hasHorse.cls yX4_hasHorse yX4_hasHorse ∈ jm_gw := jm_g (i := 0) (by decide +kernel) rfl
theorem ci_X4_hasRider : Cond.instanceMethod yX4_hasRider ∈ jm_gw := jm_g (i := 305) (by decide +kernel) rfl
theorem cv_X4_hasRider : Cond.selects yX4_hasRider.cls yX4_hasRider yX4_hasRider ∈ jm_gw := jm_g (i := 5) (by decide +kernel) rfl
theorem ci_X4_horsesStanding : Cond.instanceMethod yX4_horsesStanding ∈ jm_gw := jm_g (i := 294) (by decide +kernel) rfl
theorem cv_X4_horsesStanding : Cond.selects yX4_horsesStanding.cls yX4_horsesStanding yX4_horsesStanding ∈ jm_gw := jm_g (i := 4) (by decide +kernel) rfl
theorem ci_X4_isFree : Cond.instanceMethod yX4_isFree ∈ jm_gw := jm_g (i := 402) (by decide +kernel) rfl
theorem cv_X4_isFree : Cond.selects yX4_isFree.cls yX4_isFree yX4_isFree ∈ jm_gw := jm_g (i := 19) (by decide +kernel) rfl
theorem ci_X4_isLawful : Cond.instanceMethod yX4_isLawful ∈ jm_gw := jm_g (i := 342) (by decide +kernel) rfl
theorem cv_X4_isLawful : Cond.selects yX4_isLawful.cls yX4_isLawful yX4_isLawful ∈ jm_gw := jm_g (i := 11) (by decide +kernel) rfl
theorem ci_X4_mayTurn : Cond.instanceMethod yX4_mayTurn ∈ jm_gw := jm_g (i := 377) (by decide +kernel) rfl
theorem cv_X4_mayTurn : Cond.selects yX4_mayTurn.cls yX4_mayTurn yX4_mayTurn ∈ jm_gw := jm_g (i := 15) (by decide +kernel) rfl
theorem ci_X4_mayTurnWith : Cond.instanceMethod yX4_mayTurnWith ∈ jm_gw := jm_g (i := 331) (by decide +kernel) rfl
theorem cv_X4_mayTurnWith : Cond.selects yX4_mayTurnWith.cls yX4_mayTurnWith yX4_mayTurnWith ∈ jm_gw := jm_g (i := 9) (by decide +kernel) rfl
theorem ci_X4_putHorse : Cond.instanceMethod yX4_putHorse ∈ jm_gw := jm_g (i := 275) (by decide +kernel) rfl
theorem cv_X4_putHorse : Cond.selects yX4_putHorse.cls yX4_putHorse yX4_putHorse ∈ jm_gw := jm_g (i := 1) (by decide +kernel) rfl
theorem ci_X4_putRider : Cond.instanceMethod yX4_putRider ∈ jm_gw := jm_g (i := 349) (by decide +kernel) rfl
theorem cv_X4_putRider : Cond.selects yX4_putRider.cls yX4_putRider yX4_putRider ∈ jm_gw := jm_g (i := 12) (by decide +kernel) rfl
theorem ci_X4_ridersSitting : Cond.instanceMethod yX4_ridersSitting ∈ jm_gw := jm_g (i := 421) (by decide +kernel) rfl
theorem cv_X4_ridersSitting : Cond.selects yX4_ridersSitting.cls yX4_ridersSitting yX4_ridersSitting ∈ jm_gw := jm_g (i := 21) (by decide +kernel) rfl
theorem ci_X4_shakeNow : Cond.instanceMethod yX4_shakeNow ∈ jm_gw := jm_g (i := 353) (by decide +kernel) rfl
theorem cv_X4_shakeNow : Cond.selects yX4_shakeNow.cls yX4_shakeNow yX4_shakeNow ∈ jm_gw := jm_g (i := 13) (by decide +kernel) rfl
theorem ci_X4_shakeWith : Cond.instanceMethod yX4_shakeWith ∈ jm_gw := jm_g (i := 335) (by decide +kernel) rfl
theorem cv_X4_shakeWith : Cond.selects yX4_shakeWith.cls yX4_shakeWith yX4_shakeWith ∈ jm_gw := jm_g (i := 10) (by decide +kernel) rfl
theorem ci_X4_takeAllRiders : Cond.instanceMethod yX4_takeAllRiders ∈ jm_gw := jm_g (i := 597) (by decide +kernel) rfl
theorem cv_X4_takeAllRiders : Cond.selects yX4_takeAllRiders.cls yX4_takeAllRiders yX4_takeAllRiders ∈ jm_gw := jm_g (i := 46) (by decide +kernel) rfl
theorem ci_X4_takeHorse : Cond.instanceMethod yX4_takeHorse ∈ jm_gw := jm_g (i := 320) (by decide +kernel) rfl
theorem cv_X4_takeHorse : Cond.selects yX4_takeHorse.cls yX4_takeHorse yX4_takeHorse ∈ jm_gw := jm_g (i := 8) (by decide +kernel) rfl
theorem ci_X4_takeRider : Cond.instanceMethod yX4_takeRider ∈ jm_gw := jm_g (i := 361) (by decide +kernel) rfl
theorem cv_X4_takeRider : Cond.selects yX4_takeRider.cls yX4_takeRider yX4_takeRider ∈ jm_gw := jm_g (i := 14) (by decide +kernel) rfl
theorem ci_X5_choose : Cond.instanceMethod yX5_choose ∈ jm_gw := jm_g (i := 425) (by decide +kernel) rfl
theorem cv_X5_choose : Cond.selects yX5_choose.cls yX5_choose yX5_choose ∈ jm_gw := jm_g (i := 22) (by decide +kernel) rfl
theorem ci_X5_isTaken : Cond.instanceMethod yX5_isTaken ∈ jm_gw := jm_g (i := 441) (by decide +kernel) rfl
theorem cv_X5_isTaken : Cond.selects yX5_isTaken.cls yX5_isTaken yX5_isTaken ∈ jm_gw := jm_g (i := 24) (by decide +kernel) rfl
theorem ci_X5_keepIfLess : Cond.instanceMethod yX5_keepIfLess ∈ jm_gw := jm_g (i := 433) (by decide +kernel) rfl
theorem cv_X5_keepIfLess : Cond.selects yX5_keepIfLess.cls yX5_keepIfLess yX5_keepIfLess ∈ jm_gw := jm_g (i := 23) (by decide +kernel) rfl
theorem ci_X5_seatAll : Cond.instanceMethod yX5_seatAll ∈ jm_gw := jm_g (i := 447) (by decide +kernel) rfl
theorem cv_X5_seatAll : Cond.selects yX5_seatAll.cls yX5_seatAll yX5_seatAll ∈ jm_gw := jm_g (i := 25) (by decide +kernel) rfl
theorem ci_X6_best : Cond.instanceMethod yX6_best ∈ jm_gw := jm_g (i := 393) (by decide +kernel) rfl
theorem cv_X6_best : Cond.selects yX6_best.cls yX6_best yX6_best ∈ jm_gw := jm_g (i := 394) (by decide +kernel) rfl
theorem ci_X6_book : Cond.instanceMethod yX6_book ∈ jm_gw := jm_g (i := 626) (by decide +kernel) rfl
theorem cv_X6_book : Cond.selects yX6_book.cls yX6_book yX6_book ∈ jm_gw := jm_g (i := 627) (by decide +kernel) rfl
theorem ci_X6_coat : Cond.instanceMethod yX6_coat ∈ jm_gw := jm_g (i := 455) (by decide +kernel) rfl
theorem cv_X6_coat : Cond.selects yX6_coat.cls yX6_coat yX6_coat ∈ jm_gw := jm_g (i := 456) (by decide +kernel) rfl
theorem ci_X6_come : Cond.instanceMethod yX6_come ∈ jm_gw := jm_g (i := 609) (by decide +kernel) rfl
theorem cv_X6_come : Cond.selects yX6_come.cls yX6_come yX6_come ∈ jm_gw := jm_g (i := 610) (by decide +kernel) rfl
theorem ci_X6_count : Cond.instanceMethod yX6_count ∈ jm_gw := jm_g (i := 631) (by decide +kernel) rfl
theorem cv_X6_count : Cond.selects yX6_count.cls yX6_count yX6_count ∈ jm_gw := jm_g (i := 632) (by decide +kernel) rfl
theorem ci_X6_digest : Cond.instanceMethod yX6_digest ∈ jm_gw := jm_g (i := 635) (by decide +kernel) rfl
theorem cv_X6_digest : Cond.selects yX6_digest.cls yX6_digest yX6_digest ∈ jm_gw := jm_g (i := 636) (by decide +kernel) rfl
theorem ci_X6_earns : Cond.instanceMethod yX6_earns ∈ jm_gw := jm_g (i := 547) (by decide +kernel) rfl
theorem cv_X6_earns : Cond.selects yX6_earns.cls yX6_earns yX6_earns ∈ jm_gw := jm_g (i := 548) (by decide +kernel) rfl
theorem ci_X6_fair : Cond.instanceMethod yX6_fair ∈ jm_gw := jm_g (i := 523) (by decide +kernel) rfl
theorem cv_X6_fair : Cond.selects yX6_fair.cls yX6_fair yX6_fair ∈ jm_gw := jm_g (i := 524) (by decide +kernel) rfl
theorem ci_X6_find : Cond.instanceMethod yX6_find ∈ jm_gw := jm_g (i := 515) (by decide +kernel) rfl
theorem cv_X6_find : Cond.selects yX6_find.cls yX6_find yX6_find ∈ jm_gw := jm_g (i := 516) (by decide +kernel) rfl
theorem ci_X6_group : Cond.instanceMethod yX6_group ∈ jm_gw := jm_g (i := 408) (by decide +kernel) rfl
theorem cv_X6_group : Cond.selects yX6_group.cls yX6_group yX6_group ∈ jm_gw := jm_g (i := 409) (by decide +kernel) rfl
theorem ci_X6_horse : Cond.instanceMethod yX6_horse ∈ jm_gw := jm_g (i := 259) (by decide +kernel) rfl
theorem cv_X6_horse : Cond.selects yX6_horse.cls yX6_horse yX6_horse ∈ jm_gw := jm_g (i := 260) (by decide +kernel) rfl
theorem ci_X6_hours : Cond.instanceMethod yX6_hours ∈ jm_gw := jm_g (i := 605) (by decide +kernel) rfl
theorem cv_X6_hours : Cond.selects yX6_hours.cls yX6_hours yX6_hours ∈ jm_gw := jm_g (i := 606) (by decide +kernel) rfl
theorem ci_X6_isLegOfHorse : Cond.instanceMethod yX6_isLegOfHorse ∈ jm_gw := jm_g (i := 486) (by decide +kernel) rfl
theorem cv_X6_isLegOfHorse : Cond.selects yX6_isLegOfHorse.cls yX6_isLegOfHorse yX6_isLegOfHorse ∈ jm_gw := jm_g (i := 29) (by decide +kernel) rfl
theorem ci_X6_law : Cond.instanceMethod yX6_law ∈ jm_gw := jm_g (i := 381) (by decide +kernel) rfl
theorem cv_X6_law : Cond.selects yX6_law.cls yX6_law yX6_law ∈ jm_gw := jm_g (i := 382) (by decide +kernel) rfl
theorem ci_X6_lawOfLift : Cond.instanceMethod yX6_lawOfLift ∈ jm_gw := jm_g (i := 390) (by decide +kernel) rfl
theorem cv_X6_lawOfLift : Cond.selects yX6_lawOfLift.cls yX6_lawOfLift yX6_lawOfLift ∈ jm_gw := jm_g (i := 17) (by decide +kernel) rfl
theorem ci_X6_lawOfShaking : Cond.instanceMethod yX6_lawOfShaking ∈ jm_gw := jm_g (i := 386) (by decide +kernel) rfl
theorem cv_X6_lawOfShaking : Cond.selects yX6_lawOfShaking.cls yX6_lawOfShaking yX6_lawOfShaking ∈ jm_gw := jm_g (i := 16) (by decide +kernel) rfl
theorem ci_X6_leave : Cond.instanceMethod yX6_leave ∈ jm_gw := jm_g (i := 300) (by decide +kernel) rfl
theorem cv_X6_leave : Cond.selects yX6_leave.cls yX6_leave yX6_leave ∈ jm_gw := jm_g (i := 301) (by decide +kernel) rfl
theorem ci_X6_look : Cond.instanceMethod yX6_look ∈ jm_gw := jm_g (i := 601) (by decide +kernel) rfl
theorem cv_X6_look : Cond.selects yX6_look.cls yX6_look yX6_look ∈ jm_gw := jm_g (i := 602) (by decide +kernel) rfl
theorem ci_X6_mark : Cond.instanceMethod yX6_mark ∈ jm_gw := jm_g (i := 497) (by decide +kernel) rfl
theorem cv_X6_mark : Cond.selects yX6_mark.cls yX6_mark yX6_mark ∈ jm_gw := jm_g (i := 498) (by decide +kernel) rfl
theorem ci_X6_may : Cond.instanceMethod yX6_may ∈ jm_gw := jm_g (i := 372) (by decide +kernel) rfl
theorem cv_X6_may : Cond.selects yX6_may.cls yX6_may yX6_may ∈ jm_gw := jm_g (i := 373) (by decide +kernel) rfl
theorem ci_X6_mixPlace : Cond.instanceMethod yX6_mixPlace ∈ jm_gw := jm_g (i := 641) (by decide +kernel) rfl
theorem cv_X6_mixPlace : Cond.selects yX6_mixPlace.cls yX6_mixPlace yX6_mixPlace ∈ jm_gw := jm_g (i := 49) (by decide +kernel) rfl
theorem ci_X6_next : Cond.instanceMethod yX6_next ∈ jm_gw := jm_g (i := 617) (by decide +kernel) rfl
theorem cv_X6_next : Cond.selects yX6_next.cls yX6_next yX6_next ∈ jm_gw := jm_g (i := 618) (by decide +kernel) rfl
theorem ci_X6_rider : Cond.instanceMethod yX6_rider ∈ jm_gw := jm_g (i := 451) (by decide +kernel) rfl
theorem cv_X6_rider : Cond.selects yX6_rider.cls yX6_rider yX6_rider ∈ jm_gw := jm_g (i := 452) (by decide +kernel) rfl
theorem ci_X6_rise : Cond.instanceMethod yX6_rise ∈ jm_gw := jm_g (i := 356) (by decide +kernel) rfl
theorem cv_X6_rise : Cond.selects yX6_rise.cls yX6_rise yX6_rise ∈ jm_gw := jm_g (i := 357) (by decide +kernel) rfl
theorem ci_X6_rising : Cond.instanceMethod yX6_rising ∈ jm_gw := jm_g (i := 368) (by decide +kernel) rfl
theorem cv_X6_rising : Cond.selects yX6_rising.cls yX6_rising yX6_rising ∈ jm_gw := jm_g (i := 369) (by decide +kernel) rfl
theorem ci_X6_road : Cond.instanceMethod yX6_road ∈ jm_gw := jm_g (i := 531) (by decide +kernel) rfl
theorem cv_X6_road : Cond.selects yX6_road.cls yX6_road yX6_road ∈ jm_gw := jm_g (i := 532) (by decide +kernel) rfl
theorem ci_X6_round : Cond.instanceMethod yX6_round ∈ jm_gw := jm_g (i := 583) (by decide +kernel) rfl
theorem cv_X6_round : Cond.selects yX6_round.cls yX6_round yX6_round ∈ jm_gw := jm_g (i := 584) (by decide +kernel) rfl
theorem ci_X6_sample : Cond.instanceMethod yX6_sample ∈ jm_gw := jm_g (i := 459) (by decide +kernel) rfl
theorem cv_X6_sample : Cond.selects yX6_sample.cls yX6_sample yX6_sample ∈ jm_gw := jm_g (i := 460) (by decide +kernel) rfl
theorem ci_X6_shake : Cond.instanceMethod yX6_shake ∈ jm_gw := jm_g (i := 364) (by decide +kernel) rfl
theorem cv_X6_shake : Cond.selects yX6_shake.cls yX6_shake yX6_shake ∈ jm_gw := jm_g (i := 365) (by decide +kernel) rfl
theorem ci_X6_sit : Cond.instanceMethod yX6_sit ∈ jm_gw := jm_g (i := 323) (by decide +kernel) rfl
theorem cv_X6_sit : Cond.selects yX6_sit.cls yX6_sit yX6_sit ∈ jm_gw := jm_g (i := 324) (by decide +kernel) rfl
theorem ci_X6_strip : Cond.instanceMethod yX6_strip ∈ jm_gw := jm_g (i := 468) (by decide +kernel) rfl
theorem cv_X6_strip : Cond.selects yX6_strip.cls yX6_strip yX6_strip ∈ jm_gw := jm_g (i := 469) (by decide +kernel) rfl
theorem ci_X6_swap : Cond.instanceMethod yX6_swap ∈ jm_gw := jm_g (i := 481) (by decide +kernel) rfl
theorem cv_X6_swap : Cond.selects yX6_swap.cls yX6_swap yX6_swap ∈ jm_gw := jm_g (i := 482) (by decide +kernel) rfl
theorem ci_X6_swaps : Cond.instanceMethod yX6_swaps ∈ jm_gw := jm_g (i := 501) (by decide +kernel) rfl
theorem cv_X6_swaps : Cond.selects yX6_swaps.cls yX6_swaps yX6_swaps ∈ jm_gw := jm_g (i := 502) (by decide +kernel) rfl
theorem ci_X6_turn : Cond.instanceMethod yX6_turn ∈ jm_gw := jm_g (i := 591) (by decide +kernel) rfl
theorem cv_X6_turn : Cond.selects yX6_turn.cls yX6_turn yX6_turn ∈ jm_gw := jm_g (i := 592) (by decide +kernel) rfl
theorem ci_X7_best : Cond.instanceMethod yX7_best ∈ jm_gw := jm_g (i := 833) (by decide +kernel) rfl
theorem cv_X7_best : Cond.selects yX7_best.cls yX7_best yX7_best ∈ jm_gw := jm_g (i := 834) (by decide +kernel) rfl
theorem ci_X7_bestOf : Cond.instanceMethod yX7_bestOf ∈ jm_gw := jm_g (i := 838) (by decide +kernel) rfl
theorem cv_X7_bestOf : Cond.selects yX7_bestOf.cls yX7_bestOf yX7_bestOf ∈ jm_gw := jm_g (i := 62) (by decide +kernel) rfl
theorem ci_X7_book : Cond.instanceMethod yX7_book ∈ jm_gw := jm_g (i := 950) (by decide +kernel) rfl
theorem cv_X7_book : Cond.selects yX7_book.cls yX7_book yX7_book ∈ jm_gw := jm_g (i := 951) (by decide +kernel) rfl
theorem ci_X7_coat : Cond.instanceMethod yX7_coat ∈ jm_gw := jm_g (i := 858) (by decide +kernel) rfl
theorem cv_X7_coat : Cond.selects yX7_coat.cls yX7_coat yX7_coat ∈ jm_gw := jm_g (i := 859) (by decide +kernel) rfl
theorem ci_X7_come : Cond.instanceMethod yX7_come ∈ jm_gw := jm_g (i := 942) (by decide +kernel) rfl
theorem cv_X7_come : Cond.selects yX7_come.cls yX7_come yX7_come ∈ jm_gw := jm_g (i := 943) (by decide +kernel) rfl
theorem ci_X7_count : Cond.instanceMethod yX7_count ∈ jm_gw := jm_g (i := 955) (by decide +kernel) rfl
theorem cv_X7_count : Cond.selects yX7_count.cls yX7_count yX7_count ∈ jm_gw := jm_g (i := 956) (by decide +kernel) rfl
theorem ci_X7_digest : Cond.instanceMethod yX7_digest ∈ jm_gw := jm_g (i := 959) (by decide +kernel) rfl
theorem cv_X7_digest : Cond.selects yX7_digest.cls yX7_digest yX7_digest ∈ jm_gw := jm_g (i := 960) (by decide +kernel) rfl
theorem ci_X7_earns : Cond.instanceMethod yX7_earns ∈ jm_gw := jm_g (i := 905) (by decide +kernel) rfl
theorem cv_X7_earns : Cond.selects yX7_earns.cls yX7_earns yX7_earns ∈ jm_gw := jm_g (i := 906) (by decide +kernel) rfl
theorem ci_X7_fair : Cond.instanceMethod yX7_fair ∈ jm_gw := jm_g (i := 890) (by decide +kernel) rfl
theorem cv_X7_fair : Cond.selects yX7_fair.cls yX7_fair yX7_fair ∈ jm_gw := jm_g (i := 891) (by decide +kernel) rfl
theorem ci_X7_find : Cond.instanceMethod yX7_find ∈ jm_gw := jm_g (i := 886) (by decide +kernel) rfl
theorem cv_X7_find : Cond.selects yX7_find.cls yX7_find yX7_find ∈ jm_gw := jm_g (i := 887) (by decide +kernel) rfl
theorem ci_X7_findRound : Cond.instanceMethod yX7_findRound ∈ jm_gw := jm_g (i := 910) (by decide +kernel) rfl
theorem cv_X7_findRound : Cond.selects yX7_findRound.cls yX7_findRound yX7_findRound ∈ jm_gw := jm_g (i := 67) (by decide +kernel) rfl
theorem ci_X7_group : Cond.instanceMethod yX7_group ∈ jm_gw := jm_g (i := 845) (by decide +kernel) rfl
theorem cv_X7_group : Cond.selects yX7_group.cls yX7_group yX7_group ∈ jm_gw := jm_g (i := 846) (by decide +kernel) rfl
theorem ci_X7_horse : Cond.instanceMethod yX7_horse ∈ jm_gw := jm_g (i := 758) (by decide +kernel) rfl
theorem cv_X7_horse : Cond.selects yX7_horse.cls yX7_horse yX7_horse ∈ jm_gw := jm_g (i := 759) (by decide +kernel) rfl
theorem ci_X7_horses : Cond.instanceMethod yX7_horses ∈ jm_gw := jm_g (i := 772) (by decide +kernel) rfl
theorem cv_X7_horses : Cond.selects yX7_horses.cls yX7_horses yX7_horses ∈ jm_gw := jm_g (i := 55) (by decide +kernel) rfl
theorem ci_X7_hours : Cond.instanceMethod yX7_hours ∈ jm_gw := jm_g (i := 937) (by decide +kernel) rfl
theorem cv_X7_hours : Cond.selects yX7_hours.cls yX7_hours yX7_hours ∈ jm_gw := jm_g (i := 938) (by decide +kernel) rfl
theorem ci_X7_isBlocked : Cond.instanceMethod yX7_isBlocked ∈ jm_gw := jm_g (i := 792) (by decide +kernel) rfl
theorem cv_X7_isBlocked : Cond.selects yX7_isBlocked.cls yX7_isBlocked yX7_isBlocked ∈ jm_gw := jm_g (i := 57) (by decide +kernel) rfl
theorem ci_X7_isFair : Cond.instanceMethod yX7_isFair ∈ jm_gw := jm_g (i := 901) (by decide +kernel) rfl
theorem cv_X7_isFair : Cond.selects yX7_isFair.cls yX7_isFair yX7_isFair ∈ jm_gw := jm_g (i := 66) (by decide +kernel) rfl
theorem ci_X7_isFree : Cond.instanceMethod yX7_isFree ∈ jm_gw := jm_g (i := 842) (by decide +kernel) rfl
theorem cv_X7_isFree : Cond.selects yX7_isFree.cls yX7_isFree yX7_isFree ∈ jm_gw := jm_g (i := 63) (by decide +kernel) rfl
theorem ci_X7_isHorse : Cond.instanceMethod yX7_isHorse ∈ jm_gw := jm_g (i := 780) (by decide +kernel) rfl
theorem cv_X7_isHorse : Cond.selects yX7_isHorse.cls yX7_isHorse yX7_isHorse ∈ jm_gw := jm_g (i := 56) (by decide +kernel) rfl
theorem ci_X7_isLeg : Cond.instanceMethod yX7_isLeg ∈ jm_gw := jm_g (i := 875) (by decide +kernel) rfl
theorem cv_X7_isLeg : Cond.selects yX7_isLeg.cls yX7_isLeg yX7_isLeg ∈ jm_gw := jm_g (i := 65) (by decide +kernel) rfl
theorem ci_X7_isLess : Cond.instanceMethod yX7_isLess ∈ jm_gw := jm_g (i := 918) (by decide +kernel) rfl
theorem cv_X7_isLess : Cond.selects yX7_isLess.cls yX7_isLess yX7_isLess ∈ jm_gw := jm_g (i := 69) (by decide +kernel) rfl
theorem ci_X7_law : Cond.instanceMethod yX7_law ∈ jm_gw := jm_g (i := 827) (by decide +kernel) rfl
theorem cv_X7_law : Cond.selects yX7_law.cls yX7_law yX7_law ∈ jm_gw := jm_g (i := 828) (by decide +kernel) rfl
theorem ci_X7_lay : Cond.instanceMethod yX7_lay ∈ jm_gw := jm_g (i := 914) (by decide +kernel) rfl
theorem cv_X7_lay : Cond.selects yX7_lay.cls yX7_lay yX7_lay ∈ jm_gw := jm_g (i := 68) (by decide +kernel) rfl
theorem ci_X7_leave : Cond.instanceMethod yX7_leave ∈ jm_gw := jm_g (i := 775) (by decide +kernel) rfl
theorem cv_X7_leave : Cond.selects yX7_leave.cls yX7_leave yX7_leave ∈ jm_gw := jm_g (i := 776) (by decide +kernel) rfl
theorem ci_X7_load : Cond.instanceMethod yX7_load ∈ jm_gw := jm_g (i := 804) (by decide +kernel) rfl
theorem cv_X7_load : Cond.selects yX7_load.cls yX7_load yX7_load ∈ jm_gw := jm_g (i := 60) (by decide +kernel) rfl
theorem ci_X7_look : Cond.instanceMethod yX7_look ∈ jm_gw := jm_g (i := 933) (by decide +kernel) rfl
theorem cv_X7_look : Cond.selects yX7_look.cls yX7_look yX7_look ∈ jm_gw := jm_g (i := 934) (by decide +kernel) rfl
theorem ci_X7_mark : Cond.instanceMethod yX7_mark ∈ jm_gw := jm_g (i := 878) (by decide +kernel) rfl
theorem cv_X7_mark : Cond.selects yX7_mark.cls yX7_mark yX7_mark ∈ jm_gw := jm_g (i := 879) (by decide +kernel) rfl
theorem ci_X7_may : Cond.instanceMethod yX7_may ∈ jm_gw := jm_g (i := 823) (by decide +kernel) rfl
theorem cv_X7_may : Cond.selects yX7_may.cls yX7_may yX7_may ∈ jm_gw := jm_g (i := 824) (by decide +kernel) rfl
theorem ci_X7_mayTurn : Cond.instanceMethod yX7_mayTurn ∈ jm_gw := jm_g (i := 796) (by decide +kernel) rfl
theorem cv_X7_mayTurn : Cond.selects yX7_mayTurn.cls yX7_mayTurn yX7_mayTurn ∈ jm_gw := jm_g (i := 58) (by decide +kernel) rfl
theorem ci_X7_next : Cond.instanceMethod yX7_next ∈ jm_gw := jm_g (i := 946) (by decide +kernel) rfl
theorem cv_X7_next : Cond.selects yX7_next.cls yX7_next yX7_next ∈ jm_gw := jm_g (i := 947) (by decide +kernel) rfl
theorem ci_X7_put : Cond.instanceMethod yX7_put ∈ jm_gw := jm_g (i := 675) (by decide +kernel) rfl
theorem cv_X7_put : Cond.selects yX7_put.cls yX7_put yX7_put ∈ jm_gw := jm_g (i := 54) (by decide +kernel) rfl
theorem ci_X7_rider : Cond.instanceMethod yX7_rider ∈ jm_gw := jm_g (i := 854) (by decide +kernel) rfl
theorem cv_X7_rider : Cond.selects yX7_rider.cls yX7_rider yX7_rider ∈ jm_gw := jm_g (i := 855) (by decide +kernel) rfl
theorem ci_X7_riders : Cond.instanceMethod yX7_riders ∈ jm_gw := jm_g (i := 930) (by decide +kernel) rfl
theorem cv_X7_riders : Cond.selects yX7_riders.cls yX7_riders yX7_riders ∈ jm_gw := jm_g (i := 70) (by decide +kernel) rfl
theorem ci_X7_rise : Cond.instanceMethod yX7_rise ∈ jm_gw := jm_g (i := 811) (by decide +kernel) rfl
theorem cv_X7_rise : Cond.selects yX7_rise.cls yX7_rise yX7_rise ∈ jm_gw := jm_g (i := 812) (by decide +kernel) rfl
theorem ci_X7_rising : Cond.instanceMethod yX7_rising ∈ jm_gw := jm_g (i := 819) (by decide +kernel) rfl
theorem cv_X7_rising : Cond.selects yX7_rising.cls yX7_rising yX7_rising ∈ jm_gw := jm_g (i := 820) (by decide +kernel) rfl
theorem ci_X7_risingOf : Cond.instanceMethod yX7_risingOf ∈ jm_gw := jm_g (i := 800) (by decide +kernel) rfl
theorem cv_X7_risingOf : Cond.selects yX7_risingOf.cls yX7_risingOf yX7_risingOf ∈ jm_gw := jm_g (i := 59) (by decide +kernel) rfl
theorem ci_X7_road : Cond.instanceMethod yX7_road ∈ jm_gw := jm_g (i := 896) (by decide +kernel) rfl
theorem cv_X7_road : Cond.selects yX7_road.cls yX7_road yX7_road ∈ jm_gw := jm_g (i := 897) (by decide +kernel) rfl
theorem ci_X7_round : Cond.instanceMethod yX7_round ∈ jm_gw := jm_g (i := 921) (by decide +kernel) rfl
theorem cv_X7_round : Cond.selects yX7_round.cls yX7_round yX7_round ∈ jm_gw := jm_g (i := 922) (by decide +kernel) rfl
theorem ci_X7_sample : Cond.instanceMethod yX7_sample ∈ jm_gw := jm_g (i := 862) (by decide +kernel) rfl
theorem cv_X7_sample : Cond.selects yX7_sample.cls yX7_sample yX7_sample ∈ jm_gw := jm_g (i := 863) (by decide +kernel) rfl
theorem ci_X7_seat : Cond.instanceMethod yX7_seat ∈ jm_gw := jm_g (i := 851) (by decide +kernel) rfl
theorem cv_X7_seat : Cond.selects yX7_seat.cls yX7_seat yX7_seat ∈ jm_gw := jm_g (i := 64) (by decide +kernel) rfl
theorem ci_X7_shake : Cond.instanceMethod yX7_shake ∈ jm_gw := jm_g (i := 815) (by decide +kernel) rfl
theorem cv_X7_shake : Cond.selects yX7_shake.cls yX7_shake yX7_shake ∈ jm_gw := jm_g (i := 816) (by decide +kernel) rfl
theorem ci_X7_shakeOf : Cond.instanceMethod yX7_shakeOf ∈ jm_gw := jm_g (i := 808) (by decide +kernel) rfl
theorem cv_X7_shakeOf : Cond.selects yX7_shakeOf.cls yX7_shakeOf yX7_shakeOf ∈ jm_gw := jm_g (i := 61) (by decide +kernel) rfl
theorem ci_X7_sit : Cond.instanceMethod yX7_sit ∈ jm_gw := jm_g (i := 783) (by decide +kernel) rfl
theorem cv_X7_sit : Cond.selects yX7_sit.cls yX7_sit yX7_sit ∈ jm_gw := jm_g (i := 784) (by decide +kernel) rfl
theorem ci_X7_strip : Cond.instanceMethod yX7_strip ∈ jm_gw := jm_g (i := 866) (by decide +kernel) rfl
theorem cv_X7_strip : Cond.selects yX7_strip.cls yX7_strip yX7_strip ∈ jm_gw := jm_g (i := 867) (by decide +kernel) rfl
theorem ci_X7_swap : Cond.instanceMethod yX7_swap ∈ jm_gw := jm_g (i := 870) (by decide +kernel) rfl
theorem cv_X7_swap : Cond.selects yX7_swap.cls yX7_swap yX7_swap ∈ jm_gw := jm_g (i := 871) (by decide +kernel) rfl
theorem ci_X7_swaps : Cond.instanceMethod yX7_swaps ∈ jm_gw := jm_g (i := 882) (by decide +kernel) rfl
theorem cv_X7_swaps : Cond.selects yX7_swaps.cls yX7_swaps yX7_swaps ∈ jm_gw := jm_g (i := 883) (by decide +kernel) rfl
theorem ci_X7_turn : Cond.instanceMethod yX7_turn ∈ jm_gw := jm_g (i := 925) (by decide +kernel) rfl
theorem cv_X7_turn : Cond.selects yX7_turn.cls yX7_turn yX7_turn ∈ jm_gw := jm_g (i := 926) (by decide +kernel) rfl
theorem kc_X6_232 : Cond.constant RX6 232 (100000) ∈ jm_gw := jm_g (i := 629) (by decide +kernel) rfl
theorem kc_X6_236 : Cond.constantLong RX6 236 (193) ∈ jm_gw := jm_g (i := 638) (by decide +kernel) rfl
theorem kc_X6_265 : Cond.constantLong RX6 265 (31) ∈ jm_gw := jm_g (i := 646) (by decide +kernel) rfl
theorem kc_X7_73 : Cond.constantLong RX7 73 (11) ∈ jm_gw := jm_g (i := 764) (by decide +kernel) rfl
theorem kc_X7_83 : Cond.constantLong RX7 83 (200) ∈ jm_gw := jm_g (i := 768) (by decide +kernel) rfl
theorem kc_X7_85 : Cond.constantLong RX7 85 (99) ∈ jm_gw := jm_g (i := 769) (by decide +kernel) rfl
theorem kc_X7_108 : Cond.constantLong RX7 108 (150) ∈ jm_gw := jm_g (i := 789) (by decide +kernel) rfl
theorem kc_X7_117 : Cond.constantLong RX7 117 (30000) ∈ jm_gw := jm_g (i := 830) (by decide +kernel) rfl
theorem kc_X7_119 : Cond.constantLong RX7 119 (5000) ∈ jm_gw := jm_g (i := 831) (by decide +kernel) rfl
theorem kc_X7_127 : Cond.constantLong RX7 127 (3) ∈ jm_gw := jm_g (i := 848) (by decide +kernel) rfl
theorem kc_X7_139 : Cond.constantLong RX7 139 (400) ∈ jm_gw := jm_g (i := 893) (by decide +kernel) rfl
theorem kc_X7_141 : Cond.constantLong RX7 141 (10000) ∈ jm_gw := jm_g (i := 894) (by decide +kernel) rfl
theorem kc_X7_149 : Cond.constantLong RX7 149 (50) ∈ jm_gw := jm_g (i := 903) (by decide +kernel) rfl
theorem kc_X7_175 : Cond.constantLong RX7 175 (1000) ∈ jm_gw := jm_g (i := 940) (by decide +kernel) rfl
theorem kc_X7_180 : Cond.constantLong RX7 180 (100000) ∈ jm_gw := jm_g (i := 953) (by decide +kernel) rfl
theorem kc_X7_182 : Cond.constantLong RX7 182 (193) ∈ jm_gw := jm_g (i := 962) (by decide +kernel) rfl
theorem kc_X7_184 : Cond.constantLong RX7 184 (31) ∈ jm_gw := jm_g (i := 963) (by decide +kernel) rfl
end
section
/-! the two methods of the JDK; calls by their number of arguments; the world behind the constructors -/
section JmNat
variable {I : List Nat} {X : jm_Ex} {d d' : Nat} {M M' : jm_MI} {pc n ix k : Nat} {L : List (Option Value)} {S S0 : List Value} {μ : jm_Mem} {Q : Option Value → jm_Mem → Prop}
theorem jm_abs {x : Int32} (hd : decode M.2.1 pc = .ok (.invokestatic ix, 3)) (hn : pc + 3 = n) (h1 : Cond.methodLink M.1.cls ix Lib.Math.abs.name ∈ jm_gw) (h2 : Cond.static Lib.Math.abs.name ∈ jm_gw) (h3 : Cond.initialized "java/lang/Math" ∈ jm_gw) (h4 : Cond.code Lib.Math.abs.name Lib.Math.abs.code 1 (some .int) ∈ jm_gw) (hsum : (S.map fun v => v.category).sum ≤ 8) (kJ : jm_J I X d M n L (.int (if 0 ≤ x then x else 0 - x) :: S) μ Q) : jm_J I X d M pc L (.int x :: S) μ Q := by
  subst hn
  intro D ad cI cZ A p l e R s m args below meth c cells slots Qw H locs ls C Wd Ld K
  obtain ⟨r1, r2, r3, r4⟩ := C.2.2.2.2.2.2
  exact va_mabs C.1.1 C.1.2.1 (C.1.2.2.1.trans Ld.1.1.symm) C.1.2.2.2.1 (C.2.1 _ h1) (C.2.1 _ h2) (C.2.1 _ h3) (C.2.1 _ h4) (by omega) (by rw [jm_sum]; omega) r3 r4 hd (kJ D ad cI cZ A p l e R s m args below meth c cells slots Qw H locs ls C Wd Ld K)
theorem jm_copy {a b na nb sp dp m0 : Nat} {vs vd vn : Int32} (hd : decode M.2.1 pc = .ok (.invokestatic ix, 3)) (hn : pc + 3 = n) (h1 : Cond.methodLink M.1.cls ix arraycopyName ∈ jm_gw) (h2 : Cond.native arraycopyName ∈ jm_gw) (h3 : Cond.static arraycopyName ∈ jm_gw) (h4 : Cond.initialized "java/lang/System" ∈ jm_gw) (hsum : (S.map fun v => v.category).sum ≤ 8) (ha : I.contains a = true) (hb : I.contains b = true) (hsa : jm_sh a = .inl (false, na)) (hsb : jm_sh b = .inl (false, nb)) (hla : na < 2 ^ 31) (hlb : nb < 2 ^ 31)
    (hvs : vs = nI sp) (hvd : vd = nI dp) (hvn : vn = nI m0) (hla2 : sp + m0 ≤ na) (hlb2 : dp + m0 ≤ nb) (kJ : jm_J I X d M n L S (jm_arr μ b (va_cpy (μ a) (μ b) sp dp m0)) Q) : jm_J I X d M pc L (.int vn :: .int vd :: .ref b :: .int vs :: .ref a :: S) μ Q := by
  subst hn hvs hvd hvn
  intro D ad cI cZ A p l e' R s m args below meth c cells slots Qw H locs ls C Wd Ld K
  obtain ⟨r1, r2, r3, r4⟩ := C.2.2.2.2.2.2
  obtain ⟨q0, a1, a2⟩ := jm_ws_at (ad := ad) (cI := cI) (cZ := cZ) (μ := μ) ha
  obtain ⟨q1, b1, b2⟩ := jm_ws_at (ad := ad) (cI := cI) (cZ := cZ) (μ := μ) hb
  rw [jm_ce_arr hsa] at a2
  rw [jm_ce_arr hsb] at b2
  have e1 : (nI sp).toNatClampNeg = sp := nI_clamp (by omega)
  have e2 : (nI dp).toNatClampNeg = dp := nI_clamp (by omega)
  have e3 : (nI m0).toNatClampNeg = m0 := nI_clamp (by omega)
  refine va_copyi C.1.1 C.1.2.1 (C.1.2.2.1.trans Ld.1.1.symm) C.1.2.2.2.1 (C.2.1 _ h1) (C.2.1 _ h2) (C.2.1 _ h3) (C.2.1 _ h4) C.2.2.2.1 Wd.1 Wd.2.1 Wd.2.2 q0 q1 0 0 (ty := .int) a2 b2 rfl rfl rfl (nI_pos (by omega)) (nI_pos (by omega)) (nI_pos (by omega)) (by rw [e1, e3]; exact hla2) (by rw [e2, e3]; exact hlb2) (fun _ _ => rfl) (by omega) ?_ hd (fun H1 locs1 p1 p2 p3 => ?_)
  · rw [jm_sum]
    have : nativeFrameWords "java/lang/System" "arraycopy" 5 ≤ 40 := by decide
    omega
  · have e : (jm_ws I ad cI cZ μ).set q1 (ad b, .inl (cI, nb, .inl (va_cpy (μ a) (μ b) (nI sp).toNatClampNeg (nI dp).toNatClampNeg (nI m0).toNatClampNeg))) = jm_ws I ad cI cZ (jm_arr μ b (va_cpy (μ a) (μ b) sp dp m0)) := by
      rw [← jm_ws_set Wd.2.1 b1 (μ' := jm_arr μ b (va_cpy (μ a) (μ b) sp dp m0)) jm_arr_ne, jm_ce_arr hsb, jm_arr_eq, e1, e2, e3]
      rfl
    rw [show ((bif false then cZ else cI) = cI) from rfl, e] at p1 p2
    exact kJ D ad cI cZ A p l e' R s m args below meth c cells slots Qw H1 locs1 ls C ⟨p1, p2, p3⟩ Ld K
theorem jm_up {pc : Nat} (h : jm_J I X d M pc L S μ Q) (hd : d ≤ d') : jm_J I X d' M pc L S μ Q := fun D ad cI cZ A p l e R s m args below meth c cells slots Qw H locs ls C Wd Ld K => h D ad cI cZ A p l e R s m args below meth c cells slots Qw H locs ls ⟨C.1, C.2.1, C.2.2.1, C.2.2.2.1, C.2.2.2.2.1, C.2.2.2.2.2.1, by obtain ⟨r1, r2, r3⟩ := C.2.2.2.2.2.2; exact ⟨by omega, by omega, r3⟩⟩ Wd Ld K
theorem jm_mono {Q' : Option Value → jm_Mem → Prop} (h : jm_J I X d M pc L S μ Q) (hq : ∀ v μ', Q v μ' → Q' v μ') : jm_J I X d M pc L S μ Q' := fun D ad cI cZ A p l e R s m args below meth c cells slots Qw H locs ls C Wd Ld K => h D ad cI cZ A p l e R s m args below meth c cells slots Qw H locs ls C Wd Ld (fun v μ' H' locs' ls' pc' h' => K v μ' H' locs' ls' pc' (hq v μ' h'))
theorem jm_cV0 {b ci : Nat} {fl : List (Option Nat)} (hd : decode M.2.1 pc = .ok (.invokevirtual ix, 3)) (hn : pc + 3 = n) (he : jm_CB M.1.cls ix M' 0) (hin : Cond.instanceMethod M'.1 ∈ jm_gw) (hse : Cond.selects M'.1.cls M'.1 M'.1 ∈ jm_gw) (hI : I.contains b = true) (hsh : jm_sh b = .inr (ci, fl)) (hcl : (vwCl[ci]?).map (fun q => q.1) = some M'.1.cls) (hsum : (S.map fun v => v.category).sum ≤ 8) (hlen : jm_aw [.ref b] ≤ M'.2.2.1) (hdd : d' + 1 ≤ d) (kJ : jm_J I X d' M' 0 (jm_en M'.2.2.1 [.ref b]) [] μ (fun v μ' => jm_J I X d M n L (jm_push v S) μ' Q)) : jm_J I X d M pc L (.ref b :: S) μ Q := jm_callV [] rfl hd hn he hin hse hI hsh hcl rfl hsum hlen hdd kJ
theorem jm_cS1 {v1 : Value} (hd : decode M.2.1 pc = .ok (.invokestatic ix, 3)) (hn : pc + 3 = n) (he : jm_CB M.1.cls ix M' 1) (hs : Cond.static M'.1 ∈ jm_gw) (hsum : (S.map fun v => v.category).sum ≤ 8) (hlen : jm_aw [v1] ≤ M'.2.2.1) (hdd : d' + 1 ≤ d) (kJ : jm_J I X d' M' 0 (jm_en M'.2.2.1 [v1]) [] μ (fun v μ' => jm_J I X d M n L (jm_push v S) μ' Q)) : jm_J I X d M pc L (v1 :: S) μ Q := jm_callS [v1] rfl hd hn he hs rfl hsum hlen hdd kJ
theorem jm_cV1 {v1 : Value} {b ci : Nat} {fl : List (Option Nat)} (hd : decode M.2.1 pc = .ok (.invokevirtual ix, 3)) (hn : pc + 3 = n) (he : jm_CB M.1.cls ix M' 1) (hin : Cond.instanceMethod M'.1 ∈ jm_gw) (hse : Cond.selects M'.1.cls M'.1 M'.1 ∈ jm_gw) (hI : I.contains b = true) (hsh : jm_sh b = .inr (ci, fl)) (hcl : (vwCl[ci]?).map (fun q => q.1) = some M'.1.cls) (hsum : (S.map fun v => v.category).sum ≤ 8) (hlen : jm_aw [.ref b, v1] ≤ M'.2.2.1) (hdd : d' + 1 ≤ d) (kJ : jm_J I X d' M' 0 (jm_en M'.2.2.1 [.ref b, v1]) [] μ (fun v μ' => jm_J I X d M n L (jm_push v S) μ' Q)) : jm_J I X d M pc L (v1 :: .ref b :: S) μ Q := jm_callV [v1] rfl hd hn he hin hse hI hsh hcl rfl hsum hlen hdd kJ
theorem jm_cS2 {v1 v2 : Value} (hd : decode M.2.1 pc = .ok (.invokestatic ix, 3)) (hn : pc + 3 = n) (he : jm_CB M.1.cls ix M' 2) (hs : Cond.static M'.1 ∈ jm_gw) (hsum : (S.map fun v => v.category).sum ≤ 8) (hlen : jm_aw [v1, v2] ≤ M'.2.2.1) (hdd : d' + 1 ≤ d) (kJ : jm_J I X d' M' 0 (jm_en M'.2.2.1 [v1, v2]) [] μ (fun v μ' => jm_J I X d M n L (jm_push v S) μ' Q)) : jm_J I X d M pc L (v2 :: v1 :: S) μ Q := jm_callS [v1, v2] rfl hd hn he hs rfl hsum hlen hdd kJ
theorem jm_cV2 {v1 v2 : Value} {b ci : Nat} {fl : List (Option Nat)} (hd : decode M.2.1 pc = .ok (.invokevirtual ix, 3)) (hn : pc + 3 = n) (he : jm_CB M.1.cls ix M' 2) (hin : Cond.instanceMethod M'.1 ∈ jm_gw) (hse : Cond.selects M'.1.cls M'.1 M'.1 ∈ jm_gw) (hI : I.contains b = true) (hsh : jm_sh b = .inr (ci, fl)) (hcl : (vwCl[ci]?).map (fun q => q.1) = some M'.1.cls) (hsum : (S.map fun v => v.category).sum ≤ 8) (hlen : jm_aw [.ref b, v1, v2] ≤ M'.2.2.1) (hdd : d' + 1 ≤ d) (kJ : jm_J I X d' M' 0 (jm_en M'.2.2.1 [.ref b, v1, v2]) [] μ (fun v μ' => jm_J I X d M n L (jm_push v S) μ' Q)) : jm_J I X d M pc L (v2 :: v1 :: .ref b :: S) μ Q := jm_callV [v1, v2] rfl hd hn he hin hse hI hsh hcl rfl hsum hlen hdd kJ
theorem jm_cS3 {v1 v2 v3 : Value} (hd : decode M.2.1 pc = .ok (.invokestatic ix, 3)) (hn : pc + 3 = n) (he : jm_CB M.1.cls ix M' 3) (hs : Cond.static M'.1 ∈ jm_gw) (hsum : (S.map fun v => v.category).sum ≤ 8) (hlen : jm_aw [v1, v2, v3] ≤ M'.2.2.1) (hdd : d' + 1 ≤ d) (kJ : jm_J I X d' M' 0 (jm_en M'.2.2.1 [v1, v2, v3]) [] μ (fun v μ' => jm_J I X d M n L (jm_push v S) μ' Q)) : jm_J I X d M pc L (v3 :: v2 :: v1 :: S) μ Q := jm_callS [v1, v2, v3] rfl hd hn he hs rfl hsum hlen hdd kJ
theorem jm_cV3 {v1 v2 v3 : Value} {b ci : Nat} {fl : List (Option Nat)} (hd : decode M.2.1 pc = .ok (.invokevirtual ix, 3)) (hn : pc + 3 = n) (he : jm_CB M.1.cls ix M' 3) (hin : Cond.instanceMethod M'.1 ∈ jm_gw) (hse : Cond.selects M'.1.cls M'.1 M'.1 ∈ jm_gw) (hI : I.contains b = true) (hsh : jm_sh b = .inr (ci, fl)) (hcl : (vwCl[ci]?).map (fun q => q.1) = some M'.1.cls) (hsum : (S.map fun v => v.category).sum ≤ 8) (hlen : jm_aw [.ref b, v1, v2, v3] ≤ M'.2.2.1) (hdd : d' + 1 ≤ d) (kJ : jm_J I X d' M' 0 (jm_en M'.2.2.1 [.ref b, v1, v2, v3]) [] μ (fun v μ' => jm_J I X d M n L (jm_push v S) μ' Q)) : jm_J I X d M pc L (v3 :: v2 :: v1 :: .ref b :: S) μ Q := jm_callV [v1, v2, v3] rfl hd hn he hin hse hI hsh hcl rfl hsum hlen hdd kJ
theorem jm_cS4 {v1 v2 v3 v4 : Value} (hd : decode M.2.1 pc = .ok (.invokestatic ix, 3)) (hn : pc + 3 = n) (he : jm_CB M.1.cls ix M' 4) (hs : Cond.static M'.1 ∈ jm_gw) (hsum : (S.map fun v => v.category).sum ≤ 8) (hlen : jm_aw [v1, v2, v3, v4] ≤ M'.2.2.1) (hdd : d' + 1 ≤ d) (kJ : jm_J I X d' M' 0 (jm_en M'.2.2.1 [v1, v2, v3, v4]) [] μ (fun v μ' => jm_J I X d M n L (jm_push v S) μ' Q)) : jm_J I X d M pc L (v4 :: v3 :: v2 :: v1 :: S) μ Q := jm_callS [v1, v2, v3, v4] rfl hd hn he hs rfl hsum hlen hdd kJ
theorem jm_cV4 {v1 v2 v3 v4 : Value} {b ci : Nat} {fl : List (Option Nat)} (hd : decode M.2.1 pc = .ok (.invokevirtual ix, 3)) (hn : pc + 3 = n) (he : jm_CB M.1.cls ix M' 4) (hin : Cond.instanceMethod M'.1 ∈ jm_gw) (hse : Cond.selects M'.1.cls M'.1 M'.1 ∈ jm_gw) (hI : I.contains b = true) (hsh : jm_sh b = .inr (ci, fl)) (hcl : (vwCl[ci]?).map (fun q => q.1) = some M'.1.cls) (hsum : (S.map fun v => v.category).sum ≤ 8) (hlen : jm_aw [.ref b, v1, v2, v3, v4] ≤ M'.2.2.1) (hdd : d' + 1 ≤ d) (kJ : jm_J I X d' M' 0 (jm_en M'.2.2.1 [.ref b, v1, v2, v3, v4]) [] μ (fun v μ' => jm_J I X d M n L (jm_push v S) μ' Q)) : jm_J I X d M pc L (v4 :: v3 :: v2 :: v1 :: .ref b :: S) μ Q := jm_callV [v1, v2, v3, v4] rfl hd hn he hin hse hI hsh hcl rfl hsum hlen hdd kJ
theorem jm_cS5 {v1 v2 v3 v4 v5 : Value} (hd : decode M.2.1 pc = .ok (.invokestatic ix, 3)) (hn : pc + 3 = n) (he : jm_CB M.1.cls ix M' 5) (hs : Cond.static M'.1 ∈ jm_gw) (hsum : (S.map fun v => v.category).sum ≤ 8) (hlen : jm_aw [v1, v2, v3, v4, v5] ≤ M'.2.2.1) (hdd : d' + 1 ≤ d) (kJ : jm_J I X d' M' 0 (jm_en M'.2.2.1 [v1, v2, v3, v4, v5]) [] μ (fun v μ' => jm_J I X d M n L (jm_push v S) μ' Q)) : jm_J I X d M pc L (v5 :: v4 :: v3 :: v2 :: v1 :: S) μ Q := jm_callS [v1, v2, v3, v4, v5] rfl hd hn he hs rfl hsum hlen hdd kJ
theorem jm_cV5 {v1 v2 v3 v4 v5 : Value} {b ci : Nat} {fl : List (Option Nat)} (hd : decode M.2.1 pc = .ok (.invokevirtual ix, 3)) (hn : pc + 3 = n) (he : jm_CB M.1.cls ix M' 5) (hin : Cond.instanceMethod M'.1 ∈ jm_gw) (hse : Cond.selects M'.1.cls M'.1 M'.1 ∈ jm_gw) (hI : I.contains b = true) (hsh : jm_sh b = .inr (ci, fl)) (hcl : (vwCl[ci]?).map (fun q => q.1) = some M'.1.cls) (hsum : (S.map fun v => v.category).sum ≤ 8) (hlen : jm_aw [.ref b, v1, v2, v3, v4, v5] ≤ M'.2.2.1) (hdd : d' + 1 ≤ d) (kJ : jm_J I X d' M' 0 (jm_en M'.2.2.1 [.ref b, v1, v2, v3, v4, v5]) [] μ (fun v μ' => jm_J I X d M n L (jm_push v S) μ' Q)) : jm_J I X d M pc L (v5 :: v4 :: v3 :: v2 :: v1 :: .ref b :: S) μ Q := jm_callV [v1, v2, v3, v4, v5] rfl hd hn he hin hse hI hsh hcl rfl hsum hlen hdd kJ
end JmNat
abbrev rg_I : List Nat := [0, 1, 2, 3, 4, 5, 6, 7, 8, 9, 10, 11, 12, 13, 14, 15, 16, 17, 18, 19, 20, 21, 22, 23, 24, 25, 26, 27, 28, 29, 30, 31, 32, 33, 34, 35, 36, 37, 38, 39, 40]
def rg_ac : Nat → Int32 := fun k => [(10 : Int32), 9, 5, 0, -5, -9, -10, -9, -5, 0, 5, 9].getD k 0
def rg_al : Nat → Int32 := fun k => [(0 : Int32), 5, 9, 10, 9, 5, 0, -5, -9, -10, -9, -5].getD k 0
abbrev rg_X (Ln : Nat) (xs : Nat → Int32) : jm_Ex := [(100, none, Ln, xs), (101, some "ACROSS", 12, rg_ac), (102, some "ALONG", 12, rg_al)]
abbrev gJ (Ln : Nat) (xs : Nat → Int32) (d : Nat) (M : jm_MI) (pc : Nat) (L : List (Option Value)) (S : List Value) (μ : jm_Mem) (Q : Option Value → jm_Mem → Prop) : Prop := jm_J rg_I (rg_X Ln xs) d M pc L S μ Q
theorem nc_nat : Cond.native arraycopyName ∈ jm_gw := jm_g (i := 437) (by decide +kernel) rfl
theorem nc_st : Cond.static arraycopyName ∈ jm_gw := jm_g (i := 436) (by decide +kernel) rfl
theorem nc_in : Cond.initialized "java/lang/System" ∈ jm_gw := jm_g (i := 81) (by decide +kernel) rfl
theorem na_st : Cond.static Lib.Math.abs.name ∈ jm_gw := jm_g (i := 345) (by decide +kernel) rfl
theorem na_in : Cond.initialized "java/lang/Math" ∈ jm_gw := jm_g (i := 80) (by decide +kernel) rfl
theorem na_cd : Cond.code Lib.Math.abs.name Lib.Math.abs.code 1 (some .int) ∈ jm_gw := jm_g (i := 346) (by decide +kernel) rfl
theorem nl_X0_19 : Cond.methodLink RX0 19 arraycopyName ∈ jm_gw := jm_g (i := 624) (by decide +kernel) rfl
theorem nl_X3_22 : Cond.methodLink RX3 22 arraycopyName ∈ jm_gw := jm_g (i := 508) (by decide +kernel) rfl
theorem nl_X4_79 : Cond.methodLink RX4 79 Lib.Math.abs.name ∈ jm_gw := jm_g (i := 344) (by decide +kernel) rfl
theorem nl_X5_62 : Cond.methodLink RX5 62 arraycopyName ∈ jm_gw := jm_g (i := 435) (by decide +kernel) rfl
end
section
/-! pure words -/
theorem rg_x0 (Ln : Nat) (xs : Nat → Int32) : (100, none, Ln, xs) ∈ rg_X Ln xs := List.mem_cons_self
theorem rg_x1 (Ln : Nat) (xs : Nat → Int32) : (101, some "ACROSS", 12, rg_ac) ∈ rg_X Ln xs := List.mem_cons_of_mem _ List.mem_cons_self
theorem rg_x2 (Ln : Nat) (xs : Nat → Int32) : (102, some "ALONG", 12, rg_al) ∈ rg_X Ln xs := List.mem_cons_of_mem _ (List.mem_cons_of_mem _ List.mem_cons_self)
theorem rd_eq {μ : jm_Mem} {a i : Nat} {v : Int32} : jm_set μ a i v a i = v := by simp [jm_set, jm_arr, upd]
theorem rd_na {μ : jm_Mem} {a b i k : Nat} {v : Int32} (h : b ≠ a) : jm_set μ a i v b k = μ b k := by simp [jm_set, jm_arr, h]
theorem rd_ni {μ : jm_Mem} {a i k : Nat} {v : Int32} (h : k ≠ i) : jm_set μ a i v a k = μ a k := by simp [jm_set, jm_arr, upd, h]
theorem rd_if {μ : jm_Mem} {a i k : Nat} {v : Int32} : jm_set μ a i v a k = if k = i then v else μ a k := by simp [jm_set, jm_arr, upd]
theorem rd_q {Q : Option Value → jm_Mem → Prop} {v : Option Value} {a b : jm_Mem} (h : Q v b) (e : a = b) : Q v a := by rw [e]; exact h
theorem rd_v {Q : Option Value → jm_Mem → Prop} {μ : jm_Mem} {x y : Int32} (h : Q (some (.int x)) μ) (e : y = x) : Q (some (.int y)) μ := by rw [e]; exact h
def rg_lift (j : Nat) (w : Int32) : Int32 := if j % 2 = 0 then w else 0 - w
def rg_add (μ : jm_Mem) (j : Nat) (w : Int32) : jm_Mem := jm_set (jm_set (jm_set (jm_set μ 1 4 (μ 1 4 + w * rg_ac j)) 1 5 (μ 1 5 + w * rg_al j)) 1 6 (μ 1 6 + rg_lift j w)) 1 7 (μ 1 7 + w)
def rg_cnt (f : Nat → Int32) : Nat → Nat
  | 0 => 0
  | n + 1 => rg_cnt f n + (if f n ≤ 0 then 0 else 1)
theorem rg_cnt_le (f : Nat → Int32) : ∀ n, rg_cnt f n ≤ n
  | 0 => Nat.le_refl 0
  | n + 1 => by
    have := rg_cnt_le f n
    simp only [rg_cnt]
    split <;> omega
def rg_sh (x y : Int32) : Int32 := x * x + y * y
def rg_shw (μ : jm_Mem) (j : Nat) (w : Int32) : Int32 := rg_sh (μ 1 4 + w * rg_ac j) (μ 1 5 + w * rg_al j)
def rg_abs (x : Int32) : Int32 := if 0 ≤ x then x else 0 - x
abbrev rg_law (μ : jm_Mem) (s r : Int32) : Prop := s ≤ μ 1 2 * μ 1 2 ∧ rg_abs r ≤ μ 1 3
set_option maxHeartbeats 400000 in
theorem s_X6_isWithin {Ln : Nat} {xs : Nat → Int32} {μ : jm_Mem} {Q : Option Value → jm_Mem → Prop} {v lo hi : Int32} (h1 : ¬ v < lo → ¬ hi < v → Q (some (.int 1)) μ) (h0 : v < lo ∨ hi < v → Q (some (.int 0)) μ) : gJ Ln xs 0 mX6_isWithin 0 (jm_en 3 [.int v, .int lo, .int hi]) [] μ Q := by
  show jm_J rg_I (rg_X Ln xs) 0 mX6_isWithin 0 [some (.int v), some (.int lo), some (.int hi)] [] μ Q
  refine jm_iload_n dX6_isWithin_0 rfl rfl rfl ?_
  refine jm_iload_n dX6_isWithin_1 rfl rfl rfl ?_
  refine jm_icmp_lt (tgt := 14) dX6_isWithin_2 (by decide) rfl (fun c2 => ?_) (fun c2 => ?_)
  · refine jm_iconst (nI 0) dX6_isWithin_14 rfl (by decide) ?_
    refine jm_iret dX6_isWithin_15 rfl rfl ?_
    first | exact h1 c2 c7 | exact h0 (Or.inl c2) | exact h0 (Or.inr c7)
  · refine jm_iload_n dX6_isWithin_5 rfl rfl rfl ?_
    refine jm_iload_n dX6_isWithin_6 rfl rfl rfl ?_
    refine jm_icmp_gt (tgt := 14) dX6_isWithin_7 (by decide) rfl (fun c7 => ?_) (fun c7 => ?_)
    · refine jm_iconst (nI 0) dX6_isWithin_14 rfl (by decide) ?_
      refine jm_iret dX6_isWithin_15 rfl rfl ?_
      first | exact h1 c2 c7 | exact h0 (Or.inl c2) | exact h0 (Or.inr c7)
    · refine jm_iconst (nI 1) dX6_isWithin_10 rfl (by decide) ?_
      refine jm_goto (n := 15) dX6_isWithin_11 (by decide) ?_
      refine jm_iret dX6_isWithin_15 rfl rfl ?_
      first | exact h1 c2 c7 | exact h0 (Or.inl c2) | exact h0 (Or.inr c7)
set_option maxHeartbeats 400000 in
theorem s_X6_isPlace {Ln : Nat} {xs : Nat → Int32} {μ : jm_Mem} {Q : Option Value → jm_Mem → Prop} {p : Int32} (h1 : ∀ j : Nat, j < 12 → p = nI j → Q (some (.int 1)) μ) (h0 : p < 0 ∨ nI 12 ≤ p → Q (some (.int 0)) μ) : gJ Ln xs 0 mX6_isPlace 0 (jm_en 1 [.int p]) [] μ Q := by
  show jm_J rg_I (rg_X Ln xs) 0 mX6_isPlace 0 [some (.int p)] [] μ Q
  refine jm_iload_n dX6_isPlace_0 rfl rfl rfl ?_
  refine jm_if_lt (tgt := 14) dX6_isPlace_1 (by decide) rfl (fun c1 => ?_) (fun c1 => ?_)
  · refine jm_iconst (nI 0) dX6_isPlace_14 rfl (by decide) ?_
    refine jm_iret dX6_isPlace_15 rfl rfl ?_
    first | exact h0 (Or.inl c1) | exact h0 (Or.inr c7) | (rcases pk_ix p (n := 12) (by decide) with h | h | ⟨j, hj, e⟩; exact absurd h c1; exact absurd h c7; exact h1 j hj e) | fail "leaf"
  · refine jm_iload_n dX6_isPlace_4 rfl rfl rfl ?_
    refine jm_bipush (nI 12) dX6_isPlace_5 rfl (by decide) ?_
    refine jm_icmp_ge (tgt := 14) dX6_isPlace_7 (by decide) rfl (fun c7 => ?_) (fun c7 => ?_)
    · refine jm_iconst (nI 0) dX6_isPlace_14 rfl (by decide) ?_
      refine jm_iret dX6_isPlace_15 rfl rfl ?_
      first | exact h0 (Or.inl c1) | exact h0 (Or.inr c7) | (rcases pk_ix p (n := 12) (by decide) with h | h | ⟨j, hj, e⟩; exact absurd h c1; exact absurd h c7; exact h1 j hj e) | fail "leaf"
    · refine jm_iconst (nI 1) dX6_isPlace_10 rfl (by decide) ?_
      refine jm_goto (n := 15) dX6_isPlace_11 (by decide) ?_
      refine jm_iret dX6_isPlace_15 rfl rfl ?_
      first | exact h0 (Or.inl c1) | exact h0 (Or.inr c7) | (rcases pk_ix p (n := 12) (by decide) with h | h | ⟨j, hj, e⟩; exact absurd h c1; exact absurd h c7; exact h1 j hj e) | fail "leaf"
set_option maxHeartbeats 400000 in
theorem s_X6_isLeg {Ln : Nat} {xs : Nat → Int32} {μ : jm_Mem} {Q : Option Value → jm_Mem → Prop} {p : Int32} (h1 : ∀ j : Nat, j < 4 → p = nI j → Q (some (.int 1)) μ) (h0 : p < 0 ∨ nI 4 ≤ p → Q (some (.int 0)) μ) : gJ Ln xs 0 mX6_isLeg 0 (jm_en 1 [.int p]) [] μ Q := by
  show jm_J rg_I (rg_X Ln xs) 0 mX6_isLeg 0 [some (.int p)] [] μ Q
  refine jm_iload_n dX6_isLeg_0 rfl rfl rfl ?_
  refine jm_if_lt (tgt := 13) dX6_isLeg_1 (by decide) rfl (fun c1 => ?_) (fun c1 => ?_)
  · refine jm_iconst (nI 0) dX6_isLeg_13 rfl (by decide) ?_
    refine jm_iret dX6_isLeg_14 rfl rfl ?_
    first | exact h0 (Or.inl c1) | exact h0 (Or.inr c6) | (rcases pk_ix p (n := 4) (by decide) with h | h | ⟨j, hj, e⟩; exact absurd h c1; exact absurd h c6; exact h1 j hj e) | fail "leaf"
  · refine jm_iload_n dX6_isLeg_4 rfl rfl rfl ?_
    refine jm_iconst (nI 4) dX6_isLeg_5 rfl (by decide) ?_
    refine jm_icmp_ge (tgt := 13) dX6_isLeg_6 (by decide) rfl (fun c6 => ?_) (fun c6 => ?_)
    · refine jm_iconst (nI 0) dX6_isLeg_13 rfl (by decide) ?_
      refine jm_iret dX6_isLeg_14 rfl rfl ?_
      first | exact h0 (Or.inl c1) | exact h0 (Or.inr c6) | (rcases pk_ix p (n := 4) (by decide) with h | h | ⟨j, hj, e⟩; exact absurd h c1; exact absurd h c6; exact h1 j hj e) | fail "leaf"
    · refine jm_iconst (nI 1) dX6_isLeg_9 rfl (by decide) ?_
      refine jm_goto (n := 14) dX6_isLeg_10 (by decide) ?_
      refine jm_iret dX6_isLeg_14 rfl rfl ?_
      first | exact h0 (Or.inl c1) | exact h0 (Or.inr c6) | (rcases pk_ix p (n := 4) (by decide) with h | h | ⟨j, hj, e⟩; exact absurd h c1; exact absurd h c6; exact h1 j hj e) | fail "leaf"
set_option maxHeartbeats 400000 in
theorem s_X6_isRiderWeight {Ln : Nat} {xs : Nat → Int32} {μ : jm_Mem} {Q : Option Value → jm_Mem → Prop} {v : Int32} (h1 : ¬ v < 1 → ¬ nI 150 < v → Q (some (.int 1)) μ) (h0 : v < 1 ∨ nI 150 < v → Q (some (.int 0)) μ) : gJ Ln xs 1 mX6_isRiderWeight 0 (jm_en 1 [.int v]) [] μ Q := by
  show jm_J rg_I (rg_X Ln xs) 1 mX6_isRiderWeight 0 [some (.int v)] [] μ Q
  refine jm_iload_n dX6_isRiderWeight_0 rfl rfl rfl ?_
  refine jm_iconst (nI 1) dX6_isRiderWeight_1 rfl (by decide) ?_
  refine jm_sipush (nI 150) dX6_isRiderWeight_2 rfl (by decide) ?_
  refine jm_cS3 dX6_isRiderWeight_5 rfl cb_X6_68 cs_X6_isWithin (Nat.le_of_ble_eq_true rfl) (Nat.le_of_ble_eq_true rfl) (by decide) (s_X6_isWithin (fun a5 b5 => ?_) (fun c5 => ?_))
  · refine jm_iret dX6_isRiderWeight_8 rfl rfl ?_
    first | exact h1 a5 b5 | exact h0 c5 | fail "leaf"
  · refine jm_iret dX6_isRiderWeight_8 rfl rfl ?_
    first | exact h1 a5 b5 | exact h0 c5 | fail "leaf"
set_option maxHeartbeats 400000 in
theorem s_X6_legNumber {Ln : Nat} {xs : Nat → Int32} {μ : jm_Mem} {Q : Option Value → jm_Mem → Prop} {j i : Nat} (h : Q (some (.int (nI (4 * j + i)))) μ) : gJ Ln xs 0 mX6_legNumber 0 (jm_en 2 [.int (nI j), .int (nI i)]) [] μ Q := by
  show jm_J rg_I (rg_X Ln xs) 0 mX6_legNumber 0 [some (.int (nI j)), some (.int (nI i))] [] μ Q
  refine jm_iconst (nI 4) dX6_legNumber_0 rfl (by decide) ?_
  refine jm_iload_n dX6_legNumber_1 rfl rfl rfl ?_
  refine jm_imul dX6_legNumber_2 rfl ?_
  refine jm_iload_n dX6_legNumber_3 rfl rfl rfl ?_
  refine jm_iadd dX6_legNumber_4 rfl ?_
  refine jm_iret dX6_legNumber_5 rfl rfl ?_
  exact rd_v h (by rw [pk_mul, nI_add])
set_option maxHeartbeats 400000 in
theorem s_X6_shakeOf {Ln : Nat} {xs : Nat → Int32} {μ : jm_Mem} {Q : Option Value → jm_Mem → Prop} {x y : Int32} (h : Q (some (.int (rg_sh x y))) μ) : gJ Ln xs 0 mX6_shakeOf 0 (jm_en 2 [.int x, .int y]) [] μ Q := by
  show jm_J rg_I (rg_X Ln xs) 0 mX6_shakeOf 0 [some (.int x), some (.int y)] [] μ Q
  refine jm_iload_n dX6_shakeOf_0 rfl rfl rfl ?_
  refine jm_iload_n dX6_shakeOf_1 rfl rfl rfl ?_
  refine jm_imul dX6_shakeOf_2 rfl ?_
  refine jm_iload_n dX6_shakeOf_3 rfl rfl rfl ?_
  refine jm_iload_n dX6_shakeOf_4 rfl rfl rfl ?_
  refine jm_imul dX6_shakeOf_5 rfl ?_
  refine jm_iadd dX6_shakeOf_6 rfl ?_
  refine jm_iret dX6_shakeOf_7 rfl rfl ?_
  exact h
set_option maxHeartbeats 400000 in
theorem s_X6_mix {Ln : Nat} {xs : Nat → Int32} {μ : jm_Mem} {Q : Option Value → jm_Mem → Prop} {h : Int64} {v : Int32} (hq : Q (some (.long (31 * h + v.toInt64))) μ) : gJ Ln xs 0 mX6_mix 0 (jm_en 3 [.long h, .int v]) [] μ Q := by
  show jm_J rg_I (rg_X Ln xs) 0 mX6_mix 0 [some (.long h), none, some (.int v)] [] μ Q
  refine jm_ldc2 31 dX6_mix_0 rfl kc_X6_265 ?_
  refine jm_lload_n dX6_mix_3 rfl rfl rfl ?_
  refine jm_lmul dX6_mix_4 rfl ?_
  refine jm_iload_n dX6_mix_5 rfl rfl rfl ?_
  refine jm_i2l dX6_mix_6 rfl ?_
  refine jm_ladd dX6_mix_7 rfl ?_
  refine jm_lret dX6_mix_8 rfl ?_
  exact hq

set_option maxHeartbeats 400000 in
theorem s_X4_hasHorse {Ln : Nat} {xs : Nat → Int32} {μ : jm_Mem} {Q : Option Value → jm_Mem → Prop} {p : Int32} (h1 : ∀ j : Nat, j < 12 → p = nI j → ¬ μ 2 j ≤ 0 → Q (some (.int 1)) μ) (hU : p < 0 ∨ nI 12 ≤ p → Q (some (.int 0)) μ) (h0 : ∀ j : Nat, j < 12 → p = nI j → μ 2 j ≤ 0 → Q (some (.int 0)) μ) : gJ Ln xs 1 mX4_hasHorse 0 (jm_en 2 [.ref 1, .int p]) [] μ Q := by
  show jm_J rg_I (rg_X Ln xs) 1 mX4_hasHorse 0 [some (.ref 1), some (.int p)] [] μ Q
  refine jm_iload_n dX4_hasHorse_0 rfl rfl rfl ?_
  refine jm_cS1 dX4_hasHorse_1 rfl cb_X4_37 cs_X6_isPlace (Nat.le_of_ble_eq_true rfl) (Nat.le_of_ble_eq_true rfl) (by decide) (s_X6_isPlace (fun j hj e => ?_) (fun c0 => ?_))
  · subst e
    refine jm_if_eq (tgt := 20) dX4_hasHorse_4 (by decide) rfl (fun c4 => absurd c4 (by decide)) (fun c4 => ?_)
    refine jm_aload_n dX4_hasHorse_7 rfl rfl rfl ?_
    refine jm_getr dX4_hasHorse_8 rfl fe_X4_9 rfl rfl rfl ?_
    refine jm_iload_n dX4_hasHorse_11 rfl rfl rfl ?_
    refine jm_iald dX4_hasHorse_12 rfl rfl rfl (by decide) rfl (by first | assumption | omega) ?_
    refine jm_if_le (tgt := 20) dX4_hasHorse_13 (by decide) rfl (fun c13 => ?_) (fun c13 => ?_)
    · refine jm_iconst (nI 0) dX4_hasHorse_20 rfl (by decide) ?_
      refine jm_iret dX4_hasHorse_21 rfl rfl ?_
      first | exact h1 j hj rfl c13 | exact h0 j hj rfl c13 | exact hU c0 | fail "leaf"
    · refine jm_iconst (nI 1) dX4_hasHorse_16 rfl (by decide) ?_
      refine jm_goto (n := 21) dX4_hasHorse_17 (by decide) ?_
      refine jm_iret dX4_hasHorse_21 rfl rfl ?_
      first | exact h1 j hj rfl c13 | exact h0 j hj rfl c13 | exact hU c0 | fail "leaf"
  · refine jm_if_eq (tgt := 20) dX4_hasHorse_4 (by decide) rfl (fun c4 => ?_) (fun c4 => absurd c4 (by decide))
    refine jm_iconst (nI 0) dX4_hasHorse_20 rfl (by decide) ?_
    refine jm_iret dX4_hasHorse_21 rfl rfl ?_
    first | exact h1 j hj rfl c13 | exact h0 j hj rfl c13 | exact hU c0 | fail "leaf"
set_option maxHeartbeats 400000 in
theorem s_X4_hasRider {Ln : Nat} {xs : Nat → Int32} {μ : jm_Mem} {Q : Option Value → jm_Mem → Prop} {p : Int32} (h1 : ∀ j : Nat, j < 12 → p = nI j → ¬ μ 3 j ≤ 0 → Q (some (.int 1)) μ) (hU : p < 0 ∨ nI 12 ≤ p → Q (some (.int 0)) μ) (h0 : ∀ j : Nat, j < 12 → p = nI j → μ 3 j ≤ 0 → Q (some (.int 0)) μ) : gJ Ln xs 1 mX4_hasRider 0 (jm_en 2 [.ref 1, .int p]) [] μ Q := by
  show jm_J rg_I (rg_X Ln xs) 1 mX4_hasRider 0 [some (.ref 1), some (.int p)] [] μ Q
  refine jm_iload_n dX4_hasRider_0 rfl rfl rfl ?_
  refine jm_cS1 dX4_hasRider_1 rfl cb_X4_37 cs_X6_isPlace (Nat.le_of_ble_eq_true rfl) (Nat.le_of_ble_eq_true rfl) (by decide) (s_X6_isPlace (fun j hj e => ?_) (fun c0 => ?_))
  · subst e
    refine jm_if_eq (tgt := 20) dX4_hasRider_4 (by decide) rfl (fun c4 => absurd c4 (by decide)) (fun c4 => ?_)
    refine jm_aload_n dX4_hasRider_7 rfl rfl rfl ?_
    refine jm_getr dX4_hasRider_8 rfl fe_X4_15 rfl rfl rfl ?_
    refine jm_iload_n dX4_hasRider_11 rfl rfl rfl ?_
    refine jm_iald dX4_hasRider_12 rfl rfl rfl (by decide) rfl (by first | assumption | omega) ?_
    refine jm_if_le (tgt := 20) dX4_hasRider_13 (by decide) rfl (fun c13 => ?_) (fun c13 => ?_)
    · refine jm_iconst (nI 0) dX4_hasRider_20 rfl (by decide) ?_
      refine jm_iret dX4_hasRider_21 rfl rfl ?_
      first | exact h1 j hj rfl c13 | exact h0 j hj rfl c13 | exact hU c0 | fail "leaf"
    · refine jm_iconst (nI 1) dX4_hasRider_16 rfl (by decide) ?_
      refine jm_goto (n := 21) dX4_hasRider_17 (by decide) ?_
      refine jm_iret dX4_hasRider_21 rfl rfl ?_
      first | exact h1 j hj rfl c13 | exact h0 j hj rfl c13 | exact hU c0 | fail "leaf"
  · refine jm_if_eq (tgt := 20) dX4_hasRider_4 (by decide) rfl (fun c4 => ?_) (fun c4 => absurd c4 (by decide))
    refine jm_iconst (nI 0) dX4_hasRider_20 rfl (by decide) ?_
    refine jm_iret dX4_hasRider_21 rfl rfl ?_
    first | exact h1 j hj rfl c13 | exact h0 j hj rfl c13 | exact hU c0 | fail "leaf"
theorem s_X4_hasHorse_at {Ln : Nat} {xs : Nat → Int32} {μ : jm_Mem} {Q : Option Value → jm_Mem → Prop} {j : Nat} (hj : j < 12) (h1 : ¬ μ 2 j ≤ 0 → Q (some (.int 1)) μ) (h0 : μ 2 j ≤ 0 → Q (some (.int 0)) μ) : gJ Ln xs 1 mX4_hasHorse 0 (jm_en 2 [.ref 1, .int (nI j)]) [] μ Q := by
  refine s_X4_hasHorse (fun i hi e c => h1 ?_) (fun c => ?_) (fun i hi e c => h0 ?_)
  · rw [(nI_eq (by omega) (by omega)).mp e]; exact c
  · rcases c with c | c; exact absurd c (nI_pos (by omega)); exact absurd ((nI_leI (by omega) (by omega)).mp c) (by omega)
  · rw [(nI_eq (by omega) (by omega)).mp e]; exact c
theorem s_X4_hasRider_at {Ln : Nat} {xs : Nat → Int32} {μ : jm_Mem} {Q : Option Value → jm_Mem → Prop} {j : Nat} (hj : j < 12) (h1 : ¬ μ 3 j ≤ 0 → Q (some (.int 1)) μ) (h0 : μ 3 j ≤ 0 → Q (some (.int 0)) μ) : gJ Ln xs 1 mX4_hasRider 0 (jm_en 2 [.ref 1, .int (nI j)]) [] μ Q := by
  refine s_X4_hasRider (fun i hi e c => h1 ?_) (fun c => ?_) (fun i hi e c => h0 ?_)
  · rw [(nI_eq (by omega) (by omega)).mp e]; exact c
  · rcases c with c | c; exact absurd c (nI_pos (by omega)); exact absurd ((nI_leI (by omega) (by omega)).mp c) (by omega)
  · rw [(nI_eq (by omega) (by omega)).mp e]; exact c
set_option maxHeartbeats 400000 in
theorem s_X4_isFree {Ln : Nat} {xs : Nat → Int32} {μ : jm_Mem} {Q : Option Value → jm_Mem → Prop} {j : Nat} (hj : j < 12) (h1 : ¬ μ 2 j ≤ 0 → μ 3 j ≤ 0 → Q (some (.int 1)) μ) (h0 : (μ 2 j ≤ 0 ∨ ¬ μ 3 j ≤ 0) → Q (some (.int 0)) μ) : gJ Ln xs 2 mX4_isFree 0 (jm_en 2 [.ref 1, .int (nI j)]) [] μ Q := by
  show jm_J rg_I (rg_X Ln xs) 2 mX4_isFree 0 [some (.ref 1), some (.int (nI j))] [] μ Q
  refine jm_aload_n dX4_isFree_0 rfl rfl rfl ?_
  refine jm_iload_n dX4_isFree_1 rfl rfl rfl ?_
  refine jm_cV1 dX4_isFree_2 rfl cb_X4_41 ci_X4_hasHorse cv_X4_hasHorse rfl rfl rfl (Nat.le_of_ble_eq_true rfl) (Nat.le_of_ble_eq_true rfl) (by decide) (s_X4_hasHorse_at hj (fun ch => ?_) (fun ch => ?_))
  · refine jm_if_eq (tgt := 20) dX4_isFree_5 (by decide) rfl (fun c5 => absurd c5 (by decide)) (fun c5 => ?_)
    refine jm_aload_n dX4_isFree_8 rfl rfl rfl ?_
    refine jm_iload_n dX4_isFree_9 rfl rfl rfl ?_
    refine jm_cV1 dX4_isFree_10 rfl cb_X4_44 ci_X4_hasRider cv_X4_hasRider rfl rfl rfl (Nat.le_of_ble_eq_true rfl) (Nat.le_of_ble_eq_true rfl) (by decide) (s_X4_hasRider_at hj (fun cr => ?_) (fun cr => ?_))
    · refine jm_if_ne (tgt := 20) dX4_isFree_13 (by decide) rfl (fun c13 => ?_) (fun c13 => absurd c13 (by decide))
      refine jm_iconst (nI 0) dX4_isFree_20 rfl (by decide) ?_
      refine jm_iret dX4_isFree_21 rfl rfl ?_
      first | exact h1 ch cr | exact h0 (Or.inl ch) | exact h0 (Or.inr cr) | fail "leaf"
    · refine jm_if_ne (tgt := 20) dX4_isFree_13 (by decide) rfl (fun c13 => absurd c13 (by decide)) (fun c13 => ?_)
      refine jm_iconst (nI 1) dX4_isFree_16 rfl (by decide) ?_
      refine jm_goto (n := 21) dX4_isFree_17 (by decide) ?_
      refine jm_iret dX4_isFree_21 rfl rfl ?_
      first | exact h1 ch cr | exact h0 (Or.inl ch) | exact h0 (Or.inr cr) | fail "leaf"
  · refine jm_if_eq (tgt := 20) dX4_isFree_5 (by decide) rfl (fun c5 => ?_) (fun c5 => absurd c5 (by decide))
    refine jm_iconst (nI 0) dX4_isFree_20 rfl (by decide) ?_
    refine jm_iret dX4_isFree_21 rfl rfl ?_
    first | exact h1 ch cr | exact h0 (Or.inl ch) | exact h0 (Or.inr cr) | fail "leaf"
set_option maxHeartbeats 400000 in
theorem s_X4_liftOf {Ln : Nat} {xs : Nat → Int32} {μ : jm_Mem} {Q : Option Value → jm_Mem → Prop} {j : Nat} (hj : j < 12) {w : Int32} (h : Q (some (.int (rg_lift j w))) μ) : gJ Ln xs 0 mX4_liftOf 0 (jm_en 2 [.int (nI j), .int w]) [] μ Q := by
  show jm_J rg_I (rg_X Ln xs) 0 mX4_liftOf 0 [some (.int (nI j)), some (.int w)] [] μ Q
  refine jm_iload_n dX4_liftOf_0 rfl rfl rfl ?_
  refine jm_iconst (nI 2) dX4_liftOf_1 rfl (by decide) ?_
  refine jm_irem dX4_liftOf_2 rfl (by decide) ?_
  rw [pk_rem (by omega) (by decide) (by decide)]
  refine jm_if_ne (tgt := 10) dX4_liftOf_3 (by decide) rfl (fun c3 => ?_) (fun c3 => ?_)
  · refine jm_iload_n dX4_liftOf_10 rfl rfl rfl ?_
    refine jm_ineg dX4_liftOf_11 rfl ?_
    refine jm_iret dX4_liftOf_12 rfl rfl ?_
    first | exact rd_v h (if_pos ((nI_eq (a := j % 2) (b := 0) (by omega) (by omega)).mp c3)).symm | exact rd_v h (if_neg (fun e => c3 (by rw [e]; rfl))).symm | fail "leaf"
  · refine jm_iload_n dX4_liftOf_6 rfl rfl rfl ?_
    refine jm_goto (n := 12) dX4_liftOf_7 (by decide) ?_
    refine jm_iret dX4_liftOf_12 rfl rfl ?_
    first | exact rd_v h (if_pos ((nI_eq (a := j % 2) (b := 0) (by omega) (by omega)).mp c3)).symm | exact rd_v h (if_neg (fun e => c3 (by rw [e]; rfl))).symm | fail "leaf"
set_option maxHeartbeats 400000 in
theorem s_X4_addLoad {Ln : Nat} {xs : Nat → Int32} {μ : jm_Mem} {Q : Option Value → jm_Mem → Prop} {j : Nat} (hj : j < 12) {w : Int32} (h : Q none (rg_add μ j w)) : gJ Ln xs 1 mX4_addLoad 0 (jm_en 3 [.ref 1, .int (nI j), .int w]) [] μ Q := by
  show jm_J rg_I (rg_X Ln xs) 1 mX4_addLoad 0 [some (.ref 1), some (.int (nI j)), some (.int w)] [] μ Q
  refine jm_aload_n dX4_addLoad_0 rfl rfl rfl ?_
  refine jm_dup dX4_addLoad_1 rfl rfl ?_
  refine jm_geti dX4_addLoad_2 rfl fe_X4_25 rfl rfl rfl ?_
  refine jm_iload_n dX4_addLoad_5 rfl rfl rfl ?_
  refine jm_gets dX4_addLoad_6 rfl (rg_x1 Ln xs) xe_X4_55 ?_
  refine jm_iload_n dX4_addLoad_9 rfl rfl rfl ?_
  refine jm_xld dX4_addLoad_10 rfl (rg_x1 Ln xs) (by decide) rfl (by first | assumption | omega) ?_
  refine jm_imul dX4_addLoad_11 rfl ?_
  refine jm_iadd dX4_addLoad_12 rfl ?_
  refine jm_puti dX4_addLoad_13 rfl pe_X4_25 rfl rfl rfl ?_
  refine jm_aload_n dX4_addLoad_16 rfl rfl rfl ?_
  refine jm_dup dX4_addLoad_17 rfl rfl ?_
  refine jm_geti dX4_addLoad_18 rfl fe_X4_28 rfl rfl rfl ?_
  refine jm_iload_n dX4_addLoad_21 rfl rfl rfl ?_
  refine jm_gets dX4_addLoad_22 rfl (rg_x2 Ln xs) xe_X4_58 ?_
  refine jm_iload_n dX4_addLoad_25 rfl rfl rfl ?_
  refine jm_xld dX4_addLoad_26 rfl (rg_x2 Ln xs) (by decide) rfl (by first | assumption | omega) ?_
  refine jm_imul dX4_addLoad_27 rfl ?_
  refine jm_iadd dX4_addLoad_28 rfl ?_
  refine jm_puti dX4_addLoad_29 rfl pe_X4_28 rfl rfl rfl ?_
  refine jm_aload_n dX4_addLoad_32 rfl rfl rfl ?_
  refine jm_dup dX4_addLoad_33 rfl rfl ?_
  refine jm_geti dX4_addLoad_34 rfl fe_X4_31 rfl rfl rfl ?_
  refine jm_iload_n dX4_addLoad_37 rfl rfl rfl ?_
  refine jm_iload_n dX4_addLoad_38 rfl rfl rfl ?_
  refine jm_cS2 dX4_addLoad_39 rfl cb_X4_61 cs_X4_liftOf (Nat.le_of_ble_eq_true rfl) (Nat.le_of_ble_eq_true rfl) (by decide) (s_X4_liftOf hj ?_)
  refine jm_iadd dX4_addLoad_42 rfl ?_
  refine jm_puti dX4_addLoad_43 rfl pe_X4_31 rfl rfl rfl ?_
  refine jm_aload_n dX4_addLoad_46 rfl rfl rfl ?_
  refine jm_dup dX4_addLoad_47 rfl rfl ?_
  refine jm_geti dX4_addLoad_48 rfl fe_X4_34 rfl rfl rfl ?_
  refine jm_iload_n dX4_addLoad_51 rfl rfl rfl ?_
  refine jm_iadd dX4_addLoad_52 rfl ?_
  refine jm_puti dX4_addLoad_53 rfl pe_X4_34 rfl rfl rfl ?_
  refine jm_vret dX4_addLoad_56 rfl ?_
  refine rd_q h ?_
  simp only [rg_add, rd_eq, rd_ni, rd_na, ne_eq, Nat.reduceEqDiff, not_false_eq_true]
set_option maxHeartbeats 400000 in
theorem s_X4_putHorse {Ln : Nat} {xs : Nat → Int32} {μ : jm_Mem} {Q : Option Value → jm_Mem → Prop} {j : Nat} (hj : j < 12) {w : Int32} (h : Q none (rg_add (jm_set μ 2 j w) j w)) : gJ Ln xs 2 mX4_putHorse 0 (jm_en 3 [.ref 1, .int (nI j), .int w]) [] μ Q := by
  show jm_J rg_I (rg_X Ln xs) 2 mX4_putHorse 0 [some (.ref 1), some (.int (nI j)), some (.int w)] [] μ Q
  refine jm_aload_n dX4_putHorse_0 rfl rfl rfl ?_
  refine jm_getr dX4_putHorse_1 rfl fe_X4_9 rfl rfl rfl ?_
  refine jm_iload_n dX4_putHorse_4 rfl rfl rfl ?_
  refine jm_iload_n dX4_putHorse_5 rfl rfl rfl ?_
  refine jm_iast dX4_putHorse_6 rfl rfl rfl (by decide) rfl (by first | assumption | omega) ?_
  refine jm_aload_n dX4_putHorse_7 rfl rfl rfl ?_
  refine jm_iload_n dX4_putHorse_8 rfl rfl rfl ?_
  refine jm_iload_n dX4_putHorse_9 rfl rfl rfl ?_
  refine jm_cV2 dX4_putHorse_10 rfl cb_X4_47 ci_X4_addLoad cv_X4_addLoad rfl rfl rfl (Nat.le_of_ble_eq_true rfl) (Nat.le_of_ble_eq_true rfl) (by decide) (s_X4_addLoad hj ?_)
  refine jm_vret dX4_putHorse_13 rfl ?_
  exact h
set_option maxHeartbeats 400000 in
theorem s_X4_putRider {Ln : Nat} {xs : Nat → Int32} {μ : jm_Mem} {Q : Option Value → jm_Mem → Prop} {j : Nat} (hj : j < 12) {w : Int32} (h : Q none (rg_add (jm_set μ 3 j w) j w)) : gJ Ln xs 2 mX4_putRider 0 (jm_en 3 [.ref 1, .int (nI j), .int w]) [] μ Q := by
  show jm_J rg_I (rg_X Ln xs) 2 mX4_putRider 0 [some (.ref 1), some (.int (nI j)), some (.int w)] [] μ Q
  refine jm_aload_n dX4_putRider_0 rfl rfl rfl ?_
  refine jm_getr dX4_putRider_1 rfl fe_X4_15 rfl rfl rfl ?_
  refine jm_iload_n dX4_putRider_4 rfl rfl rfl ?_
  refine jm_iload_n dX4_putRider_5 rfl rfl rfl ?_
  refine jm_iast dX4_putRider_6 rfl rfl rfl (by decide) rfl (by first | assumption | omega) ?_
  refine jm_aload_n dX4_putRider_7 rfl rfl rfl ?_
  refine jm_iload_n dX4_putRider_8 rfl rfl rfl ?_
  refine jm_iload_n dX4_putRider_9 rfl rfl rfl ?_
  refine jm_cV2 dX4_putRider_10 rfl cb_X4_47 ci_X4_addLoad cv_X4_addLoad rfl rfl rfl (Nat.le_of_ble_eq_true rfl) (Nat.le_of_ble_eq_true rfl) (by decide) (s_X4_addLoad hj ?_)
  refine jm_vret dX4_putRider_13 rfl ?_
  exact h
set_option maxHeartbeats 400000 in
theorem s_X4_takeHorse {Ln : Nat} {xs : Nat → Int32} {μ : jm_Mem} {Q : Option Value → jm_Mem → Prop} {j : Nat} (hj : j < 12) (h : Q (some (.int (μ 2 j))) (rg_add (jm_set μ 2 j 0) j (0 - μ 2 j))) : gJ Ln xs 2 mX4_takeHorse 0 (jm_en 3 [.ref 1, .int (nI j)]) [] μ Q := by
  show jm_J rg_I (rg_X Ln xs) 2 mX4_takeHorse 0 [some (.ref 1), some (.int (nI j)), none] [] μ Q
  refine jm_aload_n dX4_takeHorse_0 rfl rfl rfl ?_
  refine jm_getr dX4_takeHorse_1 rfl fe_X4_9 rfl rfl rfl ?_
  refine jm_iload_n dX4_takeHorse_4 rfl rfl rfl ?_
  refine jm_iald dX4_takeHorse_5 rfl rfl rfl (by decide) rfl (by first | assumption | omega) ?_
  refine jm_istore_n dX4_takeHorse_6 rfl rfl rfl rfl ?_
  dsimp only [List.set]
  refine jm_aload_n dX4_takeHorse_7 rfl rfl rfl ?_
  refine jm_getr dX4_takeHorse_8 rfl fe_X4_9 rfl rfl rfl ?_
  refine jm_iload_n dX4_takeHorse_11 rfl rfl rfl ?_
  refine jm_iconst (nI 0) dX4_takeHorse_12 rfl (by decide) ?_
  refine jm_iast dX4_takeHorse_13 rfl rfl rfl (by decide) rfl (by first | assumption | omega) ?_
  refine jm_aload_n dX4_takeHorse_14 rfl rfl rfl ?_
  refine jm_iload_n dX4_takeHorse_15 rfl rfl rfl ?_
  refine jm_iload_n dX4_takeHorse_16 rfl rfl rfl ?_
  refine jm_ineg dX4_takeHorse_17 rfl ?_
  refine jm_cV2 dX4_takeHorse_18 rfl cb_X4_47 ci_X4_addLoad cv_X4_addLoad rfl rfl rfl (Nat.le_of_ble_eq_true rfl) (Nat.le_of_ble_eq_true rfl) (by decide) (s_X4_addLoad hj ?_)
  refine jm_iload_n dX4_takeHorse_21 rfl rfl rfl ?_
  refine jm_iret dX4_takeHorse_22 rfl rfl ?_
  exact h
set_option maxHeartbeats 400000 in
theorem s_X4_takeRider {Ln : Nat} {xs : Nat → Int32} {μ : jm_Mem} {Q : Option Value → jm_Mem → Prop} {j : Nat} (hj : j < 12) (h : Q (some (.int (μ 3 j))) (rg_add (jm_set μ 3 j 0) j (0 - μ 3 j))) : gJ Ln xs 2 mX4_takeRider 0 (jm_en 3 [.ref 1, .int (nI j)]) [] μ Q := by
  show jm_J rg_I (rg_X Ln xs) 2 mX4_takeRider 0 [some (.ref 1), some (.int (nI j)), none] [] μ Q
  refine jm_aload_n dX4_takeRider_0 rfl rfl rfl ?_
  refine jm_getr dX4_takeRider_1 rfl fe_X4_15 rfl rfl rfl ?_
  refine jm_iload_n dX4_takeRider_4 rfl rfl rfl ?_
  refine jm_iald dX4_takeRider_5 rfl rfl rfl (by decide) rfl (by first | assumption | omega) ?_
  refine jm_istore_n dX4_takeRider_6 rfl rfl rfl rfl ?_
  dsimp only [List.set]
  refine jm_aload_n dX4_takeRider_7 rfl rfl rfl ?_
  refine jm_getr dX4_takeRider_8 rfl fe_X4_15 rfl rfl rfl ?_
  refine jm_iload_n dX4_takeRider_11 rfl rfl rfl ?_
  refine jm_iconst (nI 0) dX4_takeRider_12 rfl (by decide) ?_
  refine jm_iast dX4_takeRider_13 rfl rfl rfl (by decide) rfl (by first | assumption | omega) ?_
  refine jm_aload_n dX4_takeRider_14 rfl rfl rfl ?_
  refine jm_iload_n dX4_takeRider_15 rfl rfl rfl ?_
  refine jm_iload_n dX4_takeRider_16 rfl rfl rfl ?_
  refine jm_ineg dX4_takeRider_17 rfl ?_
  refine jm_cV2 dX4_takeRider_18 rfl cb_X4_47 ci_X4_addLoad cv_X4_addLoad rfl rfl rfl (Nat.le_of_ble_eq_true rfl) (Nat.le_of_ble_eq_true rfl) (by decide) (s_X4_addLoad hj ?_)
  refine jm_iload_n dX4_takeRider_21 rfl rfl rfl ?_
  refine jm_iret dX4_takeRider_22 rfl rfl ?_
  exact h
set_option maxHeartbeats 400000 in
theorem s_X4_shakeNow {Ln : Nat} {xs : Nat → Int32} {μ : jm_Mem} {Q : Option Value → jm_Mem → Prop}  (h : Q (some (.int (rg_sh (μ 1 4) (μ 1 5)))) μ) : gJ Ln xs 1 mX4_shakeNow 0 (jm_en 1 [.ref 1]) [] μ Q := by
  show jm_J rg_I (rg_X Ln xs) 1 mX4_shakeNow 0 [some (.ref 1)] [] μ Q
  refine jm_aload_n dX4_shakeNow_0 rfl rfl rfl ?_
  refine jm_geti dX4_shakeNow_1 rfl fe_X4_25 rfl rfl rfl ?_
  refine jm_aload_n dX4_shakeNow_4 rfl rfl rfl ?_
  refine jm_geti dX4_shakeNow_5 rfl fe_X4_28 rfl rfl rfl ?_
  refine jm_cS2 dX4_shakeNow_8 rfl cb_X4_65 cs_X6_shakeOf (Nat.le_of_ble_eq_true rfl) (Nat.le_of_ble_eq_true rfl) (by decide) (s_X6_shakeOf ?_)
  refine jm_iret dX4_shakeNow_11 rfl rfl ?_
  exact h
set_option maxHeartbeats 400000 in
theorem s_X4_shakeWith {Ln : Nat} {xs : Nat → Int32} {μ : jm_Mem} {Q : Option Value → jm_Mem → Prop} {j : Nat} (hj : j < 12) {w : Int32} (h : Q (some (.int (rg_shw μ j w))) μ) : gJ Ln xs 1 mX4_shakeWith 0 (jm_en 3 [.ref 1, .int (nI j), .int w]) [] μ Q := by
  show jm_J rg_I (rg_X Ln xs) 1 mX4_shakeWith 0 [some (.ref 1), some (.int (nI j)), some (.int w)] [] μ Q
  refine jm_aload_n dX4_shakeWith_0 rfl rfl rfl ?_
  refine jm_geti dX4_shakeWith_1 rfl fe_X4_25 rfl rfl rfl ?_
  refine jm_iload_n dX4_shakeWith_4 rfl rfl rfl ?_
  refine jm_gets dX4_shakeWith_5 rfl (rg_x1 Ln xs) xe_X4_55 ?_
  refine jm_iload_n dX4_shakeWith_8 rfl rfl rfl ?_
  refine jm_xld dX4_shakeWith_9 rfl (rg_x1 Ln xs) (by decide) rfl (by first | assumption | omega) ?_
  refine jm_imul dX4_shakeWith_10 rfl ?_
  refine jm_iadd dX4_shakeWith_11 rfl ?_
  refine jm_aload_n dX4_shakeWith_12 rfl rfl rfl ?_
  refine jm_geti dX4_shakeWith_13 rfl fe_X4_28 rfl rfl rfl ?_
  refine jm_iload_n dX4_shakeWith_16 rfl rfl rfl ?_
  refine jm_gets dX4_shakeWith_17 rfl (rg_x2 Ln xs) xe_X4_58 ?_
  refine jm_iload_n dX4_shakeWith_20 rfl rfl rfl ?_
  refine jm_xld dX4_shakeWith_21 rfl (rg_x2 Ln xs) (by decide) rfl (by first | assumption | omega) ?_
  refine jm_imul dX4_shakeWith_22 rfl ?_
  refine jm_iadd dX4_shakeWith_23 rfl ?_
  refine jm_cS2 dX4_shakeWith_24 rfl cb_X4_65 cs_X6_shakeOf (Nat.le_of_ble_eq_true rfl) (Nat.le_of_ble_eq_true rfl) (by decide) (s_X6_shakeOf ?_)
  refine jm_iret dX4_shakeWith_27 rfl rfl ?_
  exact h
set_option maxHeartbeats 400000 in
theorem s_X4_isLawful {Ln : Nat} {xs : Nat → Int32} {μ : jm_Mem} {Q : Option Value → jm_Mem → Prop} {s r : Int32} (h1 : rg_law μ s r → Q (some (.int 1)) μ) (h0 : ¬ rg_law μ s r → Q (some (.int 0)) μ) : gJ Ln xs 0 mX4_isLawful 0 (jm_en 3 [.ref 1, .int s, .int r]) [] μ Q := by
  show jm_J rg_I (rg_X Ln xs) 0 mX4_isLawful 0 [some (.ref 1), some (.int s), some (.int r)] [] μ Q
  refine jm_iload_n dX4_isLawful_0 rfl rfl rfl ?_
  refine jm_aload_n dX4_isLawful_1 rfl rfl rfl ?_
  refine jm_geti dX4_isLawful_2 rfl fe_X4_18 rfl rfl rfl ?_
  refine jm_aload_n dX4_isLawful_5 rfl rfl rfl ?_
  refine jm_geti dX4_isLawful_6 rfl fe_X4_18 rfl rfl rfl ?_
  refine jm_imul dX4_isLawful_9 rfl ?_
  refine jm_icmp_gt (tgt := 28) dX4_isLawful_10 (by decide) rfl (fun c10 => ?_) (fun c10 => ?_)
  · refine jm_iconst (nI 0) dX4_isLawful_28 rfl (by decide) ?_
    refine jm_iret dX4_isLawful_29 rfl rfl ?_
    first | exact h1 ⟨Int32.not_lt.mp c10, Int32.not_lt.mp c21⟩ | exact h0 (fun h => absurd h.1 (Int32.not_le.mpr c10)) | exact h0 (fun h => absurd h.2 (Int32.not_le.mpr c21)) | fail "leaf"
  · refine jm_iload_n dX4_isLawful_13 rfl rfl rfl ?_
    refine jm_abs dX4_isLawful_14 rfl nl_X4_79 na_st na_in na_cd (Nat.le_of_ble_eq_true rfl) ?_
    refine jm_aload_n dX4_isLawful_17 rfl rfl rfl ?_
    refine jm_geti dX4_isLawful_18 rfl fe_X4_22 rfl rfl rfl ?_
    refine jm_icmp_gt (tgt := 28) dX4_isLawful_21 (by decide) rfl (fun c21 => ?_) (fun c21 => ?_)
    · refine jm_iconst (nI 0) dX4_isLawful_28 rfl (by decide) ?_
      refine jm_iret dX4_isLawful_29 rfl rfl ?_
      first | exact h1 ⟨Int32.not_lt.mp c10, Int32.not_lt.mp c21⟩ | exact h0 (fun h => absurd h.1 (Int32.not_le.mpr c10)) | exact h0 (fun h => absurd h.2 (Int32.not_le.mpr c21)) | fail "leaf"
    · refine jm_iconst (nI 1) dX4_isLawful_24 rfl (by decide) ?_
      refine jm_goto (n := 29) dX4_isLawful_25 (by decide) ?_
      refine jm_iret dX4_isLawful_29 rfl rfl ?_
      first | exact h1 ⟨Int32.not_lt.mp c10, Int32.not_lt.mp c21⟩ | exact h0 (fun h => absurd h.1 (Int32.not_le.mpr c10)) | exact h0 (fun h => absurd h.2 (Int32.not_le.mpr c21)) | fail "leaf"
set_option maxHeartbeats 400000 in
theorem s_X4_mayTurn {Ln : Nat} {xs : Nat → Int32} {μ : jm_Mem} {Q : Option Value → jm_Mem → Prop}  (h1 : rg_law μ (rg_sh (μ 1 4) (μ 1 5)) (μ 1 6) → Q (some (.int 1)) μ) (h0 : ¬ rg_law μ (rg_sh (μ 1 4) (μ 1 5)) (μ 1 6) → Q (some (.int 0)) μ) : gJ Ln xs 2 mX4_mayTurn 0 (jm_en 1 [.ref 1]) [] μ Q := by
  show jm_J rg_I (rg_X Ln xs) 2 mX4_mayTurn 0 [some (.ref 1)] [] μ Q
  refine jm_aload_n dX4_mayTurn_0 rfl rfl rfl ?_
  refine jm_aload_n dX4_mayTurn_1 rfl rfl rfl ?_
  refine jm_cV0 dX4_mayTurn_2 rfl cb_X4_68 ci_X4_shakeNow cv_X4_shakeNow rfl rfl rfl (Nat.le_of_ble_eq_true rfl) (Nat.le_of_ble_eq_true rfl) (by decide) (s_X4_shakeNow ?_)
  refine jm_aload_n dX4_mayTurn_5 rfl rfl rfl ?_
  refine jm_geti dX4_mayTurn_6 rfl fe_X4_31 rfl rfl rfl ?_
  refine jm_cV2 dX4_mayTurn_9 rfl cb_X4_72 ci_X4_isLawful cv_X4_isLawful rfl rfl rfl (Nat.le_of_ble_eq_true rfl) (Nat.le_of_ble_eq_true rfl) (by decide) (s_X4_isLawful (fun cl => ?_) (fun cl => ?_))
  · refine jm_iret dX4_mayTurn_12 rfl rfl ?_
    first | exact h1 cl | exact h0 cl | fail "leaf"
  · refine jm_iret dX4_mayTurn_12 rfl rfl ?_
    first | exact h1 cl | exact h0 cl | fail "leaf"
set_option maxHeartbeats 400000 in
theorem s_X4_mayTurnWith {Ln : Nat} {xs : Nat → Int32} {μ : jm_Mem} {Q : Option Value → jm_Mem → Prop} {j : Nat} (hj : j < 12) {w : Int32} (h1 : rg_law μ (rg_shw μ j w) (μ 1 6 + rg_lift j w) → Q (some (.int 1)) μ) (h0 : ¬ rg_law μ (rg_shw μ j w) (μ 1 6 + rg_lift j w) → Q (some (.int 0)) μ) : gJ Ln xs 2 mX4_mayTurnWith 0 (jm_en 3 [.ref 1, .int (nI j), .int w]) [] μ Q := by
  show jm_J rg_I (rg_X Ln xs) 2 mX4_mayTurnWith 0 [some (.ref 1), some (.int (nI j)), some (.int w)] [] μ Q
  refine jm_aload_n dX4_mayTurnWith_0 rfl rfl rfl ?_
  refine jm_aload_n dX4_mayTurnWith_1 rfl rfl rfl ?_
  refine jm_iload_n dX4_mayTurnWith_2 rfl rfl rfl ?_
  refine jm_iload_n dX4_mayTurnWith_3 rfl rfl rfl ?_
  refine jm_cV2 dX4_mayTurnWith_4 rfl cb_X4_76 ci_X4_shakeWith cv_X4_shakeWith rfl rfl rfl (Nat.le_of_ble_eq_true rfl) (Nat.le_of_ble_eq_true rfl) (by decide) (s_X4_shakeWith hj ?_)
  refine jm_aload_n dX4_mayTurnWith_7 rfl rfl rfl ?_
  refine jm_geti dX4_mayTurnWith_8 rfl fe_X4_31 rfl rfl rfl ?_
  refine jm_iload_n dX4_mayTurnWith_11 rfl rfl rfl ?_
  refine jm_iload_n dX4_mayTurnWith_12 rfl rfl rfl ?_
  refine jm_cS2 dX4_mayTurnWith_13 rfl cb_X4_61 cs_X4_liftOf (Nat.le_of_ble_eq_true rfl) (Nat.le_of_ble_eq_true rfl) (by decide) (s_X4_liftOf hj ?_)
  refine jm_iadd dX4_mayTurnWith_16 rfl ?_
  refine jm_cV2 dX4_mayTurnWith_17 rfl cb_X4_72 ci_X4_isLawful cv_X4_isLawful rfl rfl rfl (Nat.le_of_ble_eq_true rfl) (Nat.le_of_ble_eq_true rfl) (by decide) (s_X4_isLawful (fun cl => ?_) (fun cl => ?_))
  · refine jm_iret dX4_mayTurnWith_20 rfl rfl ?_
    first | exact h1 cl | exact h0 cl | fail "leaf"
  · refine jm_iret dX4_mayTurnWith_20 rfl rfl ?_
    first | exact h1 cl | exact h0 cl | fail "leaf"
end
section
theorem jm_for {P : Nat → Prop} (N : Nat) (hN : P N) (hs : ∀ i, i < N → P (i + 1) → P i) : ∀ i, i ≤ N → P i := by
  intro i hi
  obtain ⟨k, hk⟩ : ∃ k, N - i = k := ⟨_, rfl⟩
  induction k generalizing i with
  | zero => rw [show i = N by omega]; exact hN
  | succ k ih => exact hs i (by omega) (ih (i + 1) (by omega) (by omega))
def rg_mx (f : Nat → Int32) : Nat → Int64 → Int64
  | 0, h => h
  | n + 1, h => 31 * rg_mx f n h + (f n).toInt64
def rg_bst (ok : Nat → Bool) (sv : Nat → Int32) : Nat → Int32 × Int32
  | 0 => (-1, 0)
  | n + 1 => if ok n = true ∧ ((rg_bst ok sv n).1 = -1 ∨ sv n < (rg_bst ok sv n).2) then (nI n, sv n) else rg_bst ok sv n
theorem rg_bst_no {ok : Nat → Bool} {sv : Nat → Int32} {n : Nat} (h : ok n = false) : rg_bst ok sv (n + 1) = rg_bst ok sv n := by
  simp [rg_bst, h]
theorem rg_bst_ge {ok : Nat → Bool} {sv : Nat → Int32} {n : Nat} (h1 : ¬ (rg_bst ok sv n).1 = -1) (h2 : (rg_bst ok sv n).2 ≤ sv n) : rg_bst ok sv (n + 1) = rg_bst ok sv n := by
  simp only [rg_bst]
  rw [if_neg]
  rintro ⟨-, h | h⟩
  · exact h1 h
  · exact absurd h2 (Int32.not_le.mpr h)
theorem rg_bst_yes {ok : Nat → Bool} {sv : Nat → Int32} {n : Nat} (h : ok n = true) (h2 : (rg_bst ok sv n).1 = -1 ∨ sv n < (rg_bst ok sv n).2) : rg_bst ok sv (n + 1) = (nI n, sv n) := by
  simp only [rg_bst]
  rw [if_pos ⟨h, h2⟩]
def rg_okw (μ : jm_Mem) (w : Int32) (j : Nat) : Bool := decide (¬ μ 2 j ≤ 0 ∧ μ 3 j ≤ 0 ∧ rg_law μ (rg_shw μ j w) (μ 1 6 + rg_lift j w))
def rg_tar (μ : jm_Mem) : Nat → jm_Mem
  | 0 => μ
  | n + 1 => rg_add (jm_set (rg_tar μ n) 3 n 0) n (0 - rg_tar μ n 3 n)
theorem rg_dep {k : Int32} {m : Nat} (hm : m ≤ 8) (h1 : ¬ k < nI 0) (h2 : ¬ nI m - nI 1 < k) : ∃ i, i < m ∧ k = nI i := by
  rcases pk_ix k (n := m) (by omega) with h | h | h
  · exact absurd h h1
  · exfalso
    obtain ⟨j, hj, rfl⟩ := nI_of h1
    have h3 := (nI_leI (a := m) (b := j) (by omega) (by omega)).mp h
    apply h2
    by_cases hm0 : m = 0
    · subst hm0
      rw [Int32.lt_iff_toInt_lt, nI_toInt hj]
      have : (nI 0 - nI 1).toInt = -1 := by decide
      omega
    · rw [pk_sub (by omega)]
      exact nI_lt (by omega) (by omega)
  · exact h
theorem rg_depn {m i : Nat} (hm : m ≤ 8) (hi : i < m) (c : nI i < nI 0 ∨ nI m - nI 1 < nI i) : False := by
  rcases c with c | c
  · exact nI_pos (by omega) c
  · rw [pk_sub (by omega)] at c
    exact absurd ((nI_ltI (by omega) (by omega)).mp c) (by omega)
set_option maxHeartbeats 1000000 in
theorem l_X4_numh {Ln : Nat} {xs : Nat → Int32} {μ : jm_Mem} {Q : Option Value → jm_Mem → Prop}  (h : Q (some (.int (nI (rg_cnt (μ 2) 12)))) μ) : ∀ i, i ≤ 12 → ∀ (v5 : Option Value), jm_J rg_I (rg_X Ln xs) 0 mX4_numberAboveZero 10 [some (.ref 2), some (.int (nI (rg_cnt (μ 2) i))), some (.ref 2), some (.int (nI 12)), some (.int (nI i)), v5] [] μ Q := by
  refine jm_for 12 ?_ ?_
  · intro v5
    refine jm_iload dX4_numberAboveZero_10 rfl rfl ?_
    refine jm_iload_n dX4_numberAboveZero_12 rfl rfl rfl ?_
    refine jm_icmp_ge (tgt := 36) dX4_numberAboveZero_13 (by decide) rfl (fun c13 => ?_) (fun c13 => absurd ((nI_leI (by omega) (by omega)).mpr (Nat.le_refl _)) c13)
    refine jm_iload_n dX4_numberAboveZero_36 rfl rfl rfl ?_
    refine jm_iret dX4_numberAboveZero_37 rfl rfl ?_
    exact h
  · intro i hi ih v5
    refine jm_iload dX4_numberAboveZero_10 rfl rfl ?_
    refine jm_iload_n dX4_numberAboveZero_12 rfl rfl rfl ?_
    refine jm_icmp_ge (tgt := 36) dX4_numberAboveZero_13 (by decide) rfl (fun c13 => absurd ((nI_leI (by omega) (by omega)).mp c13) (by omega)) (fun c13 => ?_)
    refine jm_aload_n dX4_numberAboveZero_16 rfl rfl rfl ?_
    refine jm_iload dX4_numberAboveZero_17 rfl rfl ?_
    refine jm_iald dX4_numberAboveZero_19 rfl rfl rfl (by decide) rfl (by first | assumption | omega) ?_
    refine jm_istore dX4_numberAboveZero_20 rfl rfl rfl ?_
    dsimp only [List.set]
    refine jm_iload dX4_numberAboveZero_22 rfl rfl ?_
    refine jm_if_le (tgt := 30) dX4_numberAboveZero_24 (by decide) rfl (fun c24 => ?_) (fun c24 => ?_)
    · refine jm_iinc (nI 1) dX4_numberAboveZero_30 rfl rfl (by decide) rfl rfl ?_
      dsimp only [List.set]
      refine jm_goto (n := 10) dX4_numberAboveZero_33 (by decide) ?_
      first | (rw [nI_add, nI_add]; have e := ih (some (.int (μ 2 i))); simp only [rg_cnt, if_neg c24] at e; exact e) | (rw [nI_add]; have e := ih (some (.int (μ 2 i))); simp only [rg_cnt, if_pos c24] at e; exact e) | fail "stop"
    · refine jm_iinc (nI 1) dX4_numberAboveZero_27 rfl rfl (by decide) rfl rfl ?_
      dsimp only [List.set]
      refine jm_iinc (nI 1) dX4_numberAboveZero_30 rfl rfl (by decide) rfl rfl ?_
      dsimp only [List.set]
      refine jm_goto (n := 10) dX4_numberAboveZero_33 (by decide) ?_
      first | (rw [nI_add, nI_add]; have e := ih (some (.int (μ 2 i))); simp only [rg_cnt, if_neg c24] at e; exact e) | (rw [nI_add]; have e := ih (some (.int (μ 2 i))); simp only [rg_cnt, if_pos c24] at e; exact e) | fail "stop"
set_option maxHeartbeats 400000 in
theorem s_X4_numh {Ln : Nat} {xs : Nat → Int32} {μ : jm_Mem} {Q : Option Value → jm_Mem → Prop}  (h : Q (some (.int (nI (rg_cnt (μ 2) 12)))) μ) : gJ Ln xs 0 mX4_numberAboveZero 0 (jm_en 6 [.ref 2]) [] μ Q := by
  show jm_J rg_I (rg_X Ln xs) 0 mX4_numberAboveZero 0 [some (.ref 2), none, none, none, none, none] [] μ Q
  refine jm_iconst (nI 0) dX4_numberAboveZero_0 rfl (by decide) ?_
  refine jm_istore_n dX4_numberAboveZero_1 rfl rfl rfl rfl ?_
  dsimp only [List.set]
  refine jm_aload_n dX4_numberAboveZero_2 rfl rfl rfl ?_
  refine jm_astore_n dX4_numberAboveZero_3 rfl rfl rfl rfl ?_
  dsimp only [List.set]
  refine jm_aload_n dX4_numberAboveZero_4 rfl rfl rfl ?_
  refine jm_alen dX4_numberAboveZero_5 rfl rfl rfl ?_
  refine jm_istore_n dX4_numberAboveZero_6 rfl rfl rfl rfl ?_
  dsimp only [List.set]
  refine jm_iconst (nI 0) dX4_numberAboveZero_7 rfl (by decide) ?_
  refine jm_istore dX4_numberAboveZero_8 rfl rfl rfl ?_
  dsimp only [List.set]
  exact l_X4_numh h 0 (by omega) none
set_option maxHeartbeats 1000000 in
theorem l_X4_numr {Ln : Nat} {xs : Nat → Int32} {μ : jm_Mem} {Q : Option Value → jm_Mem → Prop}  (h : Q (some (.int (nI (rg_cnt (μ 3) 12)))) μ) : ∀ i, i ≤ 12 → ∀ (v5 : Option Value), jm_J rg_I (rg_X Ln xs) 0 mX4_numberAboveZero 10 [some (.ref 3), some (.int (nI (rg_cnt (μ 3) i))), some (.ref 3), some (.int (nI 12)), some (.int (nI i)), v5] [] μ Q := by
  refine jm_for 12 ?_ ?_
  · intro v5
    refine jm_iload dX4_numberAboveZero_10 rfl rfl ?_
    refine jm_iload_n dX4_numberAboveZero_12 rfl rfl rfl ?_
    refine jm_icmp_ge (tgt := 36) dX4_numberAboveZero_13 (by decide) rfl (fun c13 => ?_) (fun c13 => absurd ((nI_leI (by omega) (by omega)).mpr (Nat.le_refl _)) c13)
    refine jm_iload_n dX4_numberAboveZero_36 rfl rfl rfl ?_
    refine jm_iret dX4_numberAboveZero_37 rfl rfl ?_
    exact h
  · intro i hi ih v5
    refine jm_iload dX4_numberAboveZero_10 rfl rfl ?_
    refine jm_iload_n dX4_numberAboveZero_12 rfl rfl rfl ?_
    refine jm_icmp_ge (tgt := 36) dX4_numberAboveZero_13 (by decide) rfl (fun c13 => absurd ((nI_leI (by omega) (by omega)).mp c13) (by omega)) (fun c13 => ?_)
    refine jm_aload_n dX4_numberAboveZero_16 rfl rfl rfl ?_
    refine jm_iload dX4_numberAboveZero_17 rfl rfl ?_
    refine jm_iald dX4_numberAboveZero_19 rfl rfl rfl (by decide) rfl (by first | assumption | omega) ?_
    refine jm_istore dX4_numberAboveZero_20 rfl rfl rfl ?_
    dsimp only [List.set]
    refine jm_iload dX4_numberAboveZero_22 rfl rfl ?_
    refine jm_if_le (tgt := 30) dX4_numberAboveZero_24 (by decide) rfl (fun c24 => ?_) (fun c24 => ?_)
    · refine jm_iinc (nI 1) dX4_numberAboveZero_30 rfl rfl (by decide) rfl rfl ?_
      dsimp only [List.set]
      refine jm_goto (n := 10) dX4_numberAboveZero_33 (by decide) ?_
      first | (rw [nI_add, nI_add]; have e := ih (some (.int (μ 3 i))); simp only [rg_cnt, if_neg c24] at e; exact e) | (rw [nI_add]; have e := ih (some (.int (μ 3 i))); simp only [rg_cnt, if_pos c24] at e; exact e) | fail "stop"
    · refine jm_iinc (nI 1) dX4_numberAboveZero_27 rfl rfl (by decide) rfl rfl ?_
      dsimp only [List.set]
      refine jm_iinc (nI 1) dX4_numberAboveZero_30 rfl rfl (by decide) rfl rfl ?_
      dsimp only [List.set]
      refine jm_goto (n := 10) dX4_numberAboveZero_33 (by decide) ?_
      first | (rw [nI_add, nI_add]; have e := ih (some (.int (μ 3 i))); simp only [rg_cnt, if_neg c24] at e; exact e) | (rw [nI_add]; have e := ih (some (.int (μ 3 i))); simp only [rg_cnt, if_pos c24] at e; exact e) | fail "stop"
set_option maxHeartbeats 400000 in
theorem s_X4_numr {Ln : Nat} {xs : Nat → Int32} {μ : jm_Mem} {Q : Option Value → jm_Mem → Prop}  (h : Q (some (.int (nI (rg_cnt (μ 3) 12)))) μ) : gJ Ln xs 0 mX4_numberAboveZero 0 (jm_en 6 [.ref 3]) [] μ Q := by
  show jm_J rg_I (rg_X Ln xs) 0 mX4_numberAboveZero 0 [some (.ref 3), none, none, none, none, none] [] μ Q
  refine jm_iconst (nI 0) dX4_numberAboveZero_0 rfl (by decide) ?_
  refine jm_istore_n dX4_numberAboveZero_1 rfl rfl rfl rfl ?_
  dsimp only [List.set]
  refine jm_aload_n dX4_numberAboveZero_2 rfl rfl rfl ?_
  refine jm_astore_n dX4_numberAboveZero_3 rfl rfl rfl rfl ?_
  dsimp only [List.set]
  refine jm_aload_n dX4_numberAboveZero_4 rfl rfl rfl ?_
  refine jm_alen dX4_numberAboveZero_5 rfl rfl rfl ?_
  refine jm_istore_n dX4_numberAboveZero_6 rfl rfl rfl rfl ?_
  dsimp only [List.set]
  refine jm_iconst (nI 0) dX4_numberAboveZero_7 rfl (by decide) ?_
  refine jm_istore dX4_numberAboveZero_8 rfl rfl rfl ?_
  dsimp only [List.set]
  exact l_X4_numr h 0 (by omega) none
set_option maxHeartbeats 400000 in
theorem s_X4_horsesStanding {Ln : Nat} {xs : Nat → Int32} {μ : jm_Mem} {Q : Option Value → jm_Mem → Prop}  (h : Q (some (.int (nI (rg_cnt (μ 2) 12)))) μ) : gJ Ln xs 1 mX4_horsesStanding 0 (jm_en 1 [.ref 1]) [] μ Q := by
  show jm_J rg_I (rg_X Ln xs) 1 mX4_horsesStanding 0 [some (.ref 1)] [] μ Q
  refine jm_aload_n dX4_horsesStanding_0 rfl rfl rfl ?_
  refine jm_getr dX4_horsesStanding_1 rfl fe_X4_9 rfl rfl rfl ?_
  refine jm_cS1 dX4_horsesStanding_4 rfl cb_X4_90 cs_X4_numberAboveZero (Nat.le_of_ble_eq_true rfl) (Nat.le_of_ble_eq_true rfl) (by decide) (s_X4_numh ?_)
  refine jm_iret dX4_horsesStanding_7 rfl rfl ?_
  exact h
set_option maxHeartbeats 400000 in
theorem s_X4_ridersSitting {Ln : Nat} {xs : Nat → Int32} {μ : jm_Mem} {Q : Option Value → jm_Mem → Prop}  (h : Q (some (.int (nI (rg_cnt (μ 3) 12)))) μ) : gJ Ln xs 1 mX4_ridersSitting 0 (jm_en 1 [.ref 1]) [] μ Q := by
  show jm_J rg_I (rg_X Ln xs) 1 mX4_ridersSitting 0 [some (.ref 1)] [] μ Q
  refine jm_aload_n dX4_ridersSitting_0 rfl rfl rfl ?_
  refine jm_getr dX4_ridersSitting_1 rfl fe_X4_15 rfl rfl rfl ?_
  refine jm_cS1 dX4_ridersSitting_4 rfl cb_X4_90 cs_X4_numberAboveZero (Nat.le_of_ble_eq_true rfl) (Nat.le_of_ble_eq_true rfl) (by decide) (s_X4_numr ?_)
  refine jm_iret dX4_ridersSitting_7 rfl rfl ?_
  exact h
set_option maxHeartbeats 400000 in
theorem s_X4_freeHorses {Ln : Nat} {xs : Nat → Int32} {μ : jm_Mem} {Q : Option Value → jm_Mem → Prop}  (h : Q (some (.int (nI (rg_cnt (μ 2) 12) - nI (rg_cnt (μ 3) 12)))) μ) : gJ Ln xs 2 mX4_freeHorses 0 (jm_en 1 [.ref 1]) [] μ Q := by
  show jm_J rg_I (rg_X Ln xs) 2 mX4_freeHorses 0 [some (.ref 1)] [] μ Q
  refine jm_aload_n dX4_freeHorses_0 rfl rfl rfl ?_
  refine jm_cV0 dX4_freeHorses_1 rfl cb_X4_94 ci_X4_horsesStanding cv_X4_horsesStanding rfl rfl rfl (Nat.le_of_ble_eq_true rfl) (Nat.le_of_ble_eq_true rfl) (by decide) (s_X4_horsesStanding ?_)
  refine jm_aload_n dX4_freeHorses_4 rfl rfl rfl ?_
  refine jm_cV0 dX4_freeHorses_5 rfl cb_X4_97 ci_X4_ridersSitting cv_X4_ridersSitting rfl rfl rfl (Nat.le_of_ble_eq_true rfl) (Nat.le_of_ble_eq_true rfl) (by decide) (s_X4_ridersSitting ?_)
  refine jm_isub dX4_freeHorses_8 rfl ?_
  refine jm_iret dX4_freeHorses_9 rfl rfl ?_
  exact h
set_option maxHeartbeats 1000000 in
theorem l_X4_tar {Ln : Nat} {xs : Nat → Int32} {μ : jm_Mem} {Q : Option Value → jm_Mem → Prop}  (h : Q none (rg_tar μ 12)) : ∀ i, i ≤ 12 → jm_J rg_I (rg_X Ln xs) 3 mX4_takeAllRiders 2 [some (.ref 1), some (.int (nI i))] [] (rg_tar μ i) Q := by
  refine jm_for 12 ?_ ?_
  · skip
    refine jm_iload_n dX4_takeAllRiders_2 rfl rfl rfl ?_
    refine jm_bipush (nI 12) dX4_takeAllRiders_3 rfl (by decide) ?_
    refine jm_icmp_ge (tgt := 20) dX4_takeAllRiders_5 (by decide) rfl (fun c5 => ?_) (fun c5 => absurd ((nI_leI (by omega) (by omega)).mpr (Nat.le_refl _)) c5)
    refine jm_vret dX4_takeAllRiders_20 rfl ?_
    exact h
  · intro i hi ih 
    refine jm_iload_n dX4_takeAllRiders_2 rfl rfl rfl ?_
    refine jm_bipush (nI 12) dX4_takeAllRiders_3 rfl (by decide) ?_
    refine jm_icmp_ge (tgt := 20) dX4_takeAllRiders_5 (by decide) rfl (fun c5 => absurd ((nI_leI (by omega) (by omega)).mp c5) (by omega)) (fun c5 => ?_)
    refine jm_aload_n dX4_takeAllRiders_8 rfl rfl rfl ?_
    refine jm_iload_n dX4_takeAllRiders_9 rfl rfl rfl ?_
    refine jm_cV1 dX4_takeAllRiders_10 rfl cb_X4_51 ci_X4_takeRider cv_X4_takeRider rfl rfl rfl (Nat.le_of_ble_eq_true rfl) (Nat.le_of_ble_eq_true rfl) (by decide) (s_X4_takeRider hi ?_)
    refine jm_pop dX4_takeAllRiders_13 rfl rfl ?_
    refine jm_iinc (nI 1) dX4_takeAllRiders_14 rfl rfl (by decide) rfl rfl ?_
    dsimp only [List.set]
    refine jm_goto (n := 2) dX4_takeAllRiders_17 (by decide) ?_
    rw [nI_add]; exact ih
set_option maxHeartbeats 400000 in
theorem s_X4_takeAllRiders {Ln : Nat} {xs : Nat → Int32} {μ : jm_Mem} {Q : Option Value → jm_Mem → Prop}  (h : Q none (rg_tar μ 12)) : gJ Ln xs 3 mX4_takeAllRiders 0 (jm_en 2 [.ref 1]) [] μ Q := by
  show jm_J rg_I (rg_X Ln xs) 3 mX4_takeAllRiders 0 [some (.ref 1), none] [] μ Q
  refine jm_iconst (nI 0) dX4_takeAllRiders_0 rfl (by decide) ?_
  refine jm_istore_n dX4_takeAllRiders_1 rfl rfl rfl rfl ?_
  dsimp only [List.set]
  exact l_X4_tar h 0 (by omega)
set_option maxHeartbeats 1000000 in
theorem l_X4_bestHorse {Ln : Nat} {xs : Nat → Int32} {μ : jm_Mem} {Q : Option Value → jm_Mem → Prop} {w : Int32} (h : Q (some (.int (rg_bst (rg_okw μ w) (fun j => rg_shw μ j w) 12).1)) μ) : ∀ i, i ≤ 12 → ∀ (v5 : Option Value), jm_J rg_I (rg_X Ln xs) 3 mX4_bestHorse 7 [some (.ref 1), some (.int w), some (.int (rg_bst (rg_okw μ w) (fun j => rg_shw μ j w) i).1), some (.int (rg_bst (rg_okw μ w) (fun j => rg_shw μ j w) i).2), some (.int (nI i)), v5] [] μ Q := by
  refine jm_for 12 ?_ ?_
  · intro v5
    refine jm_iload dX4_bestHorse_7 rfl rfl ?_
    refine jm_bipush (nI 12) dX4_bestHorse_9 rfl (by decide) ?_
    refine jm_icmp_ge (tgt := 65) dX4_bestHorse_11 (by decide) rfl (fun c11 => ?_) (fun c11 => absurd ((nI_leI (by omega) (by omega)).mpr (Nat.le_refl _)) c11)
    refine jm_iload_n dX4_bestHorse_65 rfl rfl rfl ?_
    refine jm_iret dX4_bestHorse_66 rfl rfl ?_
    exact h
  · intro i hi ih v5
    refine jm_iload dX4_bestHorse_7 rfl rfl ?_
    refine jm_bipush (nI 12) dX4_bestHorse_9 rfl (by decide) ?_
    refine jm_icmp_ge (tgt := 65) dX4_bestHorse_11 (by decide) rfl (fun c11 => absurd ((nI_leI (by omega) (by omega)).mp c11) (by omega)) (fun c11 => ?_)
    refine jm_aload_n dX4_bestHorse_14 rfl rfl rfl ?_
    refine jm_iload dX4_bestHorse_15 rfl rfl ?_
    refine jm_cV1 dX4_bestHorse_17 rfl cb_X4_84 ci_X4_isFree cv_X4_isFree rfl rfl rfl (Nat.le_of_ble_eq_true rfl) (Nat.le_of_ble_eq_true rfl) (by decide) (s_X4_isFree hi (fun ch cr => ?_) (fun cf => ?_))
    · refine jm_if_eq (tgt := 59) dX4_bestHorse_20 (by decide) rfl (fun c20 => absurd c20 (by decide)) (fun c20 => ?_)
      refine jm_aload_n dX4_bestHorse_23 rfl rfl rfl ?_
      refine jm_iload dX4_bestHorse_24 rfl rfl ?_
      refine jm_iload_n dX4_bestHorse_26 rfl rfl rfl ?_
      refine jm_cV2 dX4_bestHorse_27 rfl cb_X4_87 ci_X4_mayTurnWith cv_X4_mayTurnWith rfl rfl rfl (Nat.le_of_ble_eq_true rfl) (Nat.le_of_ble_eq_true rfl) (by decide) (s_X4_mayTurnWith hi (fun cl => ?_) (fun cl => ?_))
      · have ho : rg_okw μ w i = true := decide_eq_true ⟨ch, cr, cl⟩
        refine jm_if_eq (tgt := 59) dX4_bestHorse_30 (by decide) rfl (fun c30 => absurd c30 (by decide)) (fun c30 => ?_)
        refine jm_aload_n dX4_bestHorse_33 rfl rfl rfl ?_
        refine jm_iload dX4_bestHorse_34 rfl rfl ?_
        refine jm_iload_n dX4_bestHorse_36 rfl rfl rfl ?_
        refine jm_cV2 dX4_bestHorse_37 rfl cb_X4_76 ci_X4_shakeWith cv_X4_shakeWith rfl rfl rfl (Nat.le_of_ble_eq_true rfl) (Nat.le_of_ble_eq_true rfl) (by decide) (s_X4_shakeWith hi ?_)
        refine jm_istore dX4_bestHorse_40 rfl rfl rfl ?_
        dsimp only [List.set]
        refine jm_iload_n dX4_bestHorse_42 rfl rfl rfl ?_
        refine jm_iconst (-1) dX4_bestHorse_43 rfl (by decide) ?_
        refine jm_icmp_eq (tgt := 53) dX4_bestHorse_44 (by decide) rfl (fun c44 => ?_) (fun c44 => ?_)
        · refine jm_iload dX4_bestHorse_53 rfl rfl ?_
          refine jm_istore_n dX4_bestHorse_55 rfl rfl rfl rfl ?_
          dsimp only [List.set]
          refine jm_iload dX4_bestHorse_56 rfl rfl ?_
          refine jm_istore_n dX4_bestHorse_58 rfl rfl rfl rfl ?_
          dsimp only [List.set]
          refine jm_iinc (nI 1) dX4_bestHorse_59 rfl rfl (by decide) rfl rfl ?_
          dsimp only [List.set]
          refine jm_goto (n := 7) dX4_bestHorse_62 (by decide) ?_
          rw [nI_add]
          first | (have e := ih v5; rw [rg_bst_no ho] at e; exact e) | (have e := ih (some (.int (rg_shw μ i w))); rw [rg_bst_yes ho (Or.inl c44)] at e; exact e) | (have e := ih (some (.int (rg_shw μ i w))); rw [rg_bst_yes ho (Or.inr (Int32.not_le.mp c50))] at e; exact e) | (have e := ih (some (.int (rg_shw μ i w))); rw [rg_bst_ge c44 c50] at e; exact e) | fail "stop"
        · refine jm_iload dX4_bestHorse_47 rfl rfl ?_
          refine jm_iload_n dX4_bestHorse_49 rfl rfl rfl ?_
          refine jm_icmp_ge (tgt := 59) dX4_bestHorse_50 (by decide) rfl (fun c50 => ?_) (fun c50 => ?_)
          · refine jm_iinc (nI 1) dX4_bestHorse_59 rfl rfl (by decide) rfl rfl ?_
            dsimp only [List.set]
            refine jm_goto (n := 7) dX4_bestHorse_62 (by decide) ?_
            rw [nI_add]
            first | (have e := ih v5; rw [rg_bst_no ho] at e; exact e) | (have e := ih (some (.int (rg_shw μ i w))); rw [rg_bst_yes ho (Or.inl c44)] at e; exact e) | (have e := ih (some (.int (rg_shw μ i w))); rw [rg_bst_yes ho (Or.inr (Int32.not_le.mp c50))] at e; exact e) | (have e := ih (some (.int (rg_shw μ i w))); rw [rg_bst_ge c44 c50] at e; exact e) | fail "stop"
          · refine jm_iload dX4_bestHorse_53 rfl rfl ?_
            refine jm_istore_n dX4_bestHorse_55 rfl rfl rfl rfl ?_
            dsimp only [List.set]
            refine jm_iload dX4_bestHorse_56 rfl rfl ?_
            refine jm_istore_n dX4_bestHorse_58 rfl rfl rfl rfl ?_
            dsimp only [List.set]
            refine jm_iinc (nI 1) dX4_bestHorse_59 rfl rfl (by decide) rfl rfl ?_
            dsimp only [List.set]
            refine jm_goto (n := 7) dX4_bestHorse_62 (by decide) ?_
            rw [nI_add]
            first | (have e := ih v5; rw [rg_bst_no ho] at e; exact e) | (have e := ih (some (.int (rg_shw μ i w))); rw [rg_bst_yes ho (Or.inl c44)] at e; exact e) | (have e := ih (some (.int (rg_shw μ i w))); rw [rg_bst_yes ho (Or.inr (Int32.not_le.mp c50))] at e; exact e) | (have e := ih (some (.int (rg_shw μ i w))); rw [rg_bst_ge c44 c50] at e; exact e) | fail "stop"
      · have ho : rg_okw μ w i = false := decide_eq_false (fun h => cl h.2.2)
        refine jm_if_eq (tgt := 59) dX4_bestHorse_30 (by decide) rfl (fun c30 => ?_) (fun c30 => absurd c30 (by decide))
        refine jm_iinc (nI 1) dX4_bestHorse_59 rfl rfl (by decide) rfl rfl ?_
        dsimp only [List.set]
        refine jm_goto (n := 7) dX4_bestHorse_62 (by decide) ?_
        rw [nI_add]
        first | (have e := ih v5; rw [rg_bst_no ho] at e; exact e) | (have e := ih (some (.int (rg_shw μ i w))); rw [rg_bst_yes ho (Or.inl c44)] at e; exact e) | (have e := ih (some (.int (rg_shw μ i w))); rw [rg_bst_yes ho (Or.inr (Int32.not_le.mp c50))] at e; exact e) | (have e := ih (some (.int (rg_shw μ i w))); rw [rg_bst_ge c44 c50] at e; exact e) | fail "stop"
    · have ho : rg_okw μ w i = false := decide_eq_false (fun h => cf.elim (fun c => h.1 c) (fun c => c h.2.1))
      refine jm_if_eq (tgt := 59) dX4_bestHorse_20 (by decide) rfl (fun c20 => ?_) (fun c20 => absurd c20 (by decide))
      refine jm_iinc (nI 1) dX4_bestHorse_59 rfl rfl (by decide) rfl rfl ?_
      dsimp only [List.set]
      refine jm_goto (n := 7) dX4_bestHorse_62 (by decide) ?_
      rw [nI_add]
      first | (have e := ih v5; rw [rg_bst_no ho] at e; exact e) | (have e := ih (some (.int (rg_shw μ i w))); rw [rg_bst_yes ho (Or.inl c44)] at e; exact e) | (have e := ih (some (.int (rg_shw μ i w))); rw [rg_bst_yes ho (Or.inr (Int32.not_le.mp c50))] at e; exact e) | (have e := ih (some (.int (rg_shw μ i w))); rw [rg_bst_ge c44 c50] at e; exact e) | fail "stop"
set_option maxHeartbeats 400000 in
theorem s_X4_bestHorse {Ln : Nat} {xs : Nat → Int32} {μ : jm_Mem} {Q : Option Value → jm_Mem → Prop} {w : Int32} (h : Q (some (.int (rg_bst (rg_okw μ w) (fun j => rg_shw μ j w) 12).1)) μ) : gJ Ln xs 3 mX4_bestHorse 0 (jm_en 6 [.ref 1, .int w]) [] μ Q := by
  show jm_J rg_I (rg_X Ln xs) 3 mX4_bestHorse 0 [some (.ref 1), some (.int w), none, none, none, none] [] μ Q
  refine jm_iconst (-1) dX4_bestHorse_0 rfl (by decide) ?_
  refine jm_istore_n dX4_bestHorse_1 rfl rfl rfl rfl ?_
  dsimp only [List.set]
  refine jm_iconst (nI 0) dX4_bestHorse_2 rfl (by decide) ?_
  refine jm_istore_n dX4_bestHorse_3 rfl rfl rfl rfl ?_
  dsimp only [List.set]
  refine jm_iconst (nI 0) dX4_bestHorse_4 rfl (by decide) ?_
  refine jm_istore dX4_bestHorse_5 rfl rfl rfl ?_
  dsimp only [List.set]
  exact l_X4_bestHorse h 0 (by omega) none
set_option maxHeartbeats 400000 in
theorem s_X1_paintOver {Ln : Nat} {xs : Nat → Int32} {μ : jm_Mem} {Q : Option Value → jm_Mem → Prop} {j m : Nat} {c : Int32} (hj : j < 12) (hm : μ 10 j = nI m) (h8 : m < 8) (h : Q none (jm_set (jm_set μ 9 (8 * j + m) c) 10 j (nI (m + 1)))) : gJ Ln xs 0 mX1_paintOver 0 (jm_en 3 [.ref 8, .int (nI j), .int c]) [] μ Q := by
  show jm_J rg_I (rg_X Ln xs) 0 mX1_paintOver 0 [some (.ref 8), some (.int (nI j)), some (.int c)] [] μ Q
  refine jm_aload_n dX1_paintOver_0 rfl rfl rfl ?_
  refine jm_getr dX1_paintOver_1 rfl fe_X1_9 rfl rfl rfl ?_
  refine jm_bipush (nI 8) dX1_paintOver_4 rfl (by decide) ?_
  refine jm_iload_n dX1_paintOver_6 rfl rfl rfl ?_
  refine jm_imul dX1_paintOver_7 rfl ?_
  refine jm_aload_n dX1_paintOver_8 rfl rfl rfl ?_
  refine jm_getr dX1_paintOver_9 rfl fe_X1_15 rfl rfl rfl ?_
  refine jm_iload_n dX1_paintOver_12 rfl rfl rfl ?_
  refine jm_iald dX1_paintOver_13 rfl rfl rfl (by decide) rfl (by first | assumption | omega) ?_
  refine jm_iadd dX1_paintOver_14 rfl ?_
  refine jm_iload_n dX1_paintOver_15 rfl rfl rfl ?_
  refine jm_iast dX1_paintOver_16 rfl rfl rfl (by decide) (by rw [hm, pk_mul, nI_add]) (by omega) ?_
  refine jm_aload_n dX1_paintOver_17 rfl rfl rfl ?_
  refine jm_getr dX1_paintOver_18 rfl fe_X1_15 rfl rfl rfl ?_
  refine jm_iload_n dX1_paintOver_21 rfl rfl rfl ?_
  refine jm_dup2 dX1_paintOver_22 rfl rfl rfl ?_
  refine jm_iald dX1_paintOver_23 rfl rfl rfl (by decide) rfl (by first | assumption | omega) ?_
  refine jm_iconst (nI 1) dX1_paintOver_24 rfl (by decide) ?_
  refine jm_iadd dX1_paintOver_25 rfl ?_
  refine jm_iast dX1_paintOver_26 rfl rfl rfl (by decide) rfl (by first | assumption | omega) ?_
  refine jm_vret dX1_paintOver_27 rfl ?_
  refine rd_q h ?_
  rw [rd_na (by decide), hm, nI_add]
set_option maxHeartbeats 400000 in
theorem s_X1_clear {Ln : Nat} {xs : Nat → Int32} {μ : jm_Mem} {Q : Option Value → jm_Mem → Prop} {j : Nat} (hj : j < 12) (h : Q none (jm_set μ 10 j 0)) : gJ Ln xs 0 mX1_clear 0 (jm_en 2 [.ref 8, .int (nI j)]) [] μ Q := by
  show jm_J rg_I (rg_X Ln xs) 0 mX1_clear 0 [some (.ref 8), some (.int (nI j))] [] μ Q
  refine jm_aload_n dX1_clear_0 rfl rfl rfl ?_
  refine jm_getr dX1_clear_1 rfl fe_X1_15 rfl rfl rfl ?_
  refine jm_iload_n dX1_clear_4 rfl rfl rfl ?_
  refine jm_iconst (nI 0) dX1_clear_5 rfl (by decide) ?_
  refine jm_iast dX1_clear_6 rfl rfl rfl (by decide) rfl (by first | assumption | omega) ?_
  refine jm_vret dX1_clear_7 rfl ?_
  exact h
set_option maxHeartbeats 400000 in
theorem s_X1_takeOff {Ln : Nat} {xs : Nat → Int32} {μ : jm_Mem} {Q : Option Value → jm_Mem → Prop} {j : Nat} {v : Int32} (hj : j < 12) (h : Q none (jm_set μ 10 j (μ 10 j - v))) : gJ Ln xs 0 mX1_takeOff 0 (jm_en 3 [.ref 8, .int (nI j), .int v]) [] μ Q := by
  show jm_J rg_I (rg_X Ln xs) 0 mX1_takeOff 0 [some (.ref 8), some (.int (nI j)), some (.int v)] [] μ Q
  refine jm_aload_n dX1_takeOff_0 rfl rfl rfl ?_
  refine jm_getr dX1_takeOff_1 rfl fe_X1_15 rfl rfl rfl ?_
  refine jm_iload_n dX1_takeOff_4 rfl rfl rfl ?_
  refine jm_dup2 dX1_takeOff_5 rfl rfl rfl ?_
  refine jm_iald dX1_takeOff_6 rfl rfl rfl (by decide) rfl (by first | assumption | omega) ?_
  refine jm_iload_n dX1_takeOff_7 rfl rfl rfl ?_
  refine jm_isub dX1_takeOff_8 rfl ?_
  refine jm_iast dX1_takeOff_9 rfl rfl rfl (by decide) rfl (by first | assumption | omega) ?_
  refine jm_vret dX1_takeOff_10 rfl ?_
  exact h
set_option maxHeartbeats 400000 in
theorem s_X1_colourAtDepth {Ln : Nat} {xs : Nat → Int32} {μ : jm_Mem} {Q : Option Value → jm_Mem → Prop} {j m : Nat} {k : Int32} (hj : j < 12) (hm : μ 10 j = nI m) (h8 : m ≤ 8) (h1 : ∀ i, i < m → k = nI i → Q (some (.int (μ 9 (8 * j + m - 1 - i)))) μ) (h0 : k < nI 0 ∨ nI m - nI 1 < k → Q (some (.int (-1))) μ) : gJ Ln xs 1 mX1_colourAtDepth 0 (jm_en 3 [.ref 8, .int (nI j), .int k]) [] μ Q := by
  show jm_J rg_I (rg_X Ln xs) 1 mX1_colourAtDepth 0 [some (.ref 8), some (.int (nI j)), some (.int k)] [] μ Q
  refine jm_iload_n dX1_colourAtDepth_0 rfl rfl rfl ?_
  refine jm_iconst (nI 0) dX1_colourAtDepth_1 rfl (by decide) ?_
  refine jm_aload_n dX1_colourAtDepth_2 rfl rfl rfl ?_
  refine jm_getr dX1_colourAtDepth_3 rfl fe_X1_15 rfl rfl rfl ?_
  refine jm_iload_n dX1_colourAtDepth_6 rfl rfl rfl ?_
  refine jm_iald dX1_colourAtDepth_7 rfl rfl rfl (by decide) rfl (by first | assumption | omega) ?_
  refine jm_iconst (nI 1) dX1_colourAtDepth_8 rfl (by decide) ?_
  refine jm_isub dX1_colourAtDepth_9 rfl ?_
  refine jm_cS3 dX1_colourAtDepth_10 rfl cb_X1_18 cs_X6_isWithin (Nat.le_of_ble_eq_true rfl) (Nat.le_of_ble_eq_true rfl) (by decide) (s_X6_isWithin (fun c1 c2 => ?_) (fun c1 => ?_))
  · rw [hm] at c2
    obtain ⟨i, hi, rfl⟩ := rg_dep h8 c1 c2
    refine jm_if_ne (tgt := 18) dX1_colourAtDepth_13 (by decide) rfl (fun c13 => ?_) (fun c13 => absurd c13 (by decide))
    refine jm_aload_n dX1_colourAtDepth_18 rfl rfl rfl ?_
    refine jm_getr dX1_colourAtDepth_19 rfl fe_X1_9 rfl rfl rfl ?_
    refine jm_bipush (nI 8) dX1_colourAtDepth_22 rfl (by decide) ?_
    refine jm_iload_n dX1_colourAtDepth_24 rfl rfl rfl ?_
    refine jm_imul dX1_colourAtDepth_25 rfl ?_
    refine jm_aload_n dX1_colourAtDepth_26 rfl rfl rfl ?_
    refine jm_getr dX1_colourAtDepth_27 rfl fe_X1_15 rfl rfl rfl ?_
    refine jm_iload_n dX1_colourAtDepth_30 rfl rfl rfl ?_
    refine jm_iald dX1_colourAtDepth_31 rfl rfl rfl (by decide) rfl (by first | assumption | omega) ?_
    refine jm_iadd dX1_colourAtDepth_32 rfl ?_
    refine jm_iconst (nI 1) dX1_colourAtDepth_33 rfl (by decide) ?_
    refine jm_isub dX1_colourAtDepth_34 rfl ?_
    refine jm_iload_n dX1_colourAtDepth_35 rfl rfl rfl ?_
    refine jm_isub dX1_colourAtDepth_36 rfl ?_
    refine jm_iald dX1_colourAtDepth_37 rfl rfl rfl (by decide) (by rw [hm, pk_mul, nI_add, pk_sub (by omega), pk_sub (by omega)]) (by omega) ?_
    refine jm_iret dX1_colourAtDepth_38 rfl rfl ?_
    first | exact h0 c1 | exact h1 i hi rfl | fail "leaf"
  · rw [hm] at c1
    refine jm_if_ne (tgt := 18) dX1_colourAtDepth_13 (by decide) rfl (fun c13 => absurd c13 (by decide)) (fun c13 => ?_)
    refine jm_iconst (-1) dX1_colourAtDepth_16 rfl (by decide) ?_
    refine jm_iret dX1_colourAtDepth_17 rfl rfl ?_
    first | exact h0 c1 | exact h1 i hi rfl | fail "leaf"
set_option maxHeartbeats 1000000 in
theorem l_X1_depthOf {Ln : Nat} {xs : Nat → Int32} {μ : jm_Mem} {Q : Option Value → jm_Mem → Prop} {j m : Nat} {c : Int32} (hj : j < 12) (hm : μ 10 j = nI m) (h8 : m ≤ 8) (h1 : ∀ k, k < m → μ 9 (8 * j + m - 1 - k) = c → (∀ i, i < k → ¬ μ 9 (8 * j + m - 1 - i) = c) → Q (some (.int (nI k))) μ) (h0 : (∀ i, i < m → ¬ μ 9 (8 * j + m - 1 - i) = c) → Q (some (.int (-1))) μ) : ∀ i, i ≤ m → ∀ (hb : ∀ i2, i2 < i → ¬ μ 9 (8 * j + m - 1 - i2) = c), jm_J rg_I (rg_X Ln xs) 2 mX1_depthOf 2 [some (.ref 8), some (.int (nI j)), some (.int c), some (.int (nI i))] [] μ Q := by
  refine jm_for m ?_ ?_
  · intro hb
    refine jm_iload_n dX1_depthOf_2 rfl rfl rfl ?_
    refine jm_aload_n dX1_depthOf_3 rfl rfl rfl ?_
    refine jm_getr dX1_depthOf_4 rfl fe_X1_15 rfl rfl rfl ?_
    refine jm_iload_n dX1_depthOf_7 rfl rfl rfl ?_
    refine jm_iald dX1_depthOf_8 rfl rfl rfl (by decide) rfl (by first | assumption | omega) ?_
    refine jm_icmp_ge (tgt := 30) dX1_depthOf_9 (by decide) rfl (fun c9 => ?_) (fun c9 => absurd (by rw [hm]; exact (nI_leI (by omega) (by omega)).mpr (Nat.le_refl _)) c9)
    refine jm_iconst (-1) dX1_depthOf_30 rfl (by decide) ?_
    refine jm_iret dX1_depthOf_31 rfl rfl ?_
    exact h0 hb
  · intro i hi ih hb
    refine jm_iload_n dX1_depthOf_2 rfl rfl rfl ?_
    refine jm_aload_n dX1_depthOf_3 rfl rfl rfl ?_
    refine jm_getr dX1_depthOf_4 rfl fe_X1_15 rfl rfl rfl ?_
    refine jm_iload_n dX1_depthOf_7 rfl rfl rfl ?_
    refine jm_iald dX1_depthOf_8 rfl rfl rfl (by decide) rfl (by first | assumption | omega) ?_
    refine jm_icmp_ge (tgt := 30) dX1_depthOf_9 (by decide) rfl (fun c9 => absurd ((nI_leI (by omega) (by omega)).mp (hm ▸ c9)) (by omega)) (fun c9 => ?_)
    refine jm_aload_n dX1_depthOf_12 rfl rfl rfl ?_
    refine jm_iload_n dX1_depthOf_13 rfl rfl rfl ?_
    refine jm_iload_n dX1_depthOf_14 rfl rfl rfl ?_
    refine jm_cV2 dX1_depthOf_15 rfl cb_X1_22 ci_X1_colourAtDepth cv_X1_colourAtDepth rfl rfl rfl (Nat.le_of_ble_eq_true rfl) (Nat.le_of_ble_eq_true rfl) (by decide) (s_X1_colourAtDepth hj hm h8 (fun i2 hi2 e => ?_) (fun c0 => ?_))
    · have e := (nI_eq (by omega) (by omega)).mp e
      subst e
      refine jm_iload_n dX1_depthOf_18 rfl rfl rfl ?_
      refine jm_icmp_ne (tgt := 24) dX1_depthOf_19 (by decide) rfl (fun c19 => ?_) (fun c19 => ?_)
      · refine jm_iinc (nI 1) dX1_depthOf_24 rfl rfl (by decide) rfl rfl ?_
        dsimp only [List.set]
        refine jm_goto (n := 2) dX1_depthOf_27 (by decide) ?_
        rw [nI_add]
        exact ih (fun i2 h2 => if e : i2 = i then by rw [e]; exact c19 else hb i2 (by omega))
      · refine jm_iload_n dX1_depthOf_22 rfl rfl rfl ?_
        refine jm_iret dX1_depthOf_23 rfl rfl ?_
        exact h1 i hi c19 hb
    · exact absurd (rg_depn h8 hi c0) id
set_option maxHeartbeats 400000 in
theorem s_X1_depthOf {Ln : Nat} {xs : Nat → Int32} {μ : jm_Mem} {Q : Option Value → jm_Mem → Prop} {j m : Nat} {c : Int32} (hj : j < 12) (hm : μ 10 j = nI m) (h8 : m ≤ 8) (h1 : ∀ k, k < m → μ 9 (8 * j + m - 1 - k) = c → (∀ i, i < k → ¬ μ 9 (8 * j + m - 1 - i) = c) → Q (some (.int (nI k))) μ) (h0 : (∀ i, i < m → ¬ μ 9 (8 * j + m - 1 - i) = c) → Q (some (.int (-1))) μ) : gJ Ln xs 2 mX1_depthOf 0 (jm_en 4 [.ref 8, .int (nI j), .int c]) [] μ Q := by
  show jm_J rg_I (rg_X Ln xs) 2 mX1_depthOf 0 [some (.ref 8), some (.int (nI j)), some (.int c), none] [] μ Q
  refine jm_iconst (nI 0) dX1_depthOf_0 rfl (by decide) ?_
  refine jm_istore_n dX1_depthOf_1 rfl rfl rfl rfl ?_
  dsimp only [List.set]
  exact l_X1_depthOf hj hm h8 h1 h0 0 (by omega) (fun _ h => absurd h (by omega))
set_option maxHeartbeats 1000000 in
theorem l_X1_mixCoats {Ln : Nat} {xs : Nat → Int32} {μ : jm_Mem} {Q : Option Value → jm_Mem → Prop} {j m : Nat} {g h : Int64} (hj : j < 12) (hm : μ 10 j = nI m) (h8 : m ≤ 8) (hq : Q (some (.long (rg_mx (fun i => μ 9 (8 * j + i)) m h))) μ) : ∀ i, i ≤ m → jm_J rg_I (rg_X Ln xs) 1 mX1_mixCoats 15 [some (.ref 8), some (.long g), none, some (.int (nI j)), some (.long (rg_mx (fun i => μ 9 (8 * j + i)) i h)), none, some (.int (nI i))] [] μ Q := by
  refine jm_for m ?_ ?_
  · skip
    refine jm_iload dX1_mixCoats_15 rfl rfl ?_
    refine jm_aload_n dX1_mixCoats_17 rfl rfl rfl ?_
    refine jm_getr dX1_mixCoats_18 rfl fe_X1_15 rfl rfl rfl ?_
    refine jm_iload_n dX1_mixCoats_21 rfl rfl rfl ?_
    refine jm_iald dX1_mixCoats_22 rfl rfl rfl (by decide) rfl (by first | assumption | omega) ?_
    refine jm_icmp_ge (tgt := 51) dX1_mixCoats_23 (by decide) rfl (fun c23 => ?_) (fun c23 => absurd (by rw [hm]; exact (nI_leI (by omega) (by omega)).mpr (Nat.le_refl _)) c23)
    refine jm_lload dX1_mixCoats_51 rfl rfl ?_
    refine jm_lret dX1_mixCoats_53 rfl ?_
    exact hq
  · intro i hi ih 
    refine jm_iload dX1_mixCoats_15 rfl rfl ?_
    refine jm_aload_n dX1_mixCoats_17 rfl rfl rfl ?_
    refine jm_getr dX1_mixCoats_18 rfl fe_X1_15 rfl rfl rfl ?_
    refine jm_iload_n dX1_mixCoats_21 rfl rfl rfl ?_
    refine jm_iald dX1_mixCoats_22 rfl rfl rfl (by decide) rfl (by first | assumption | omega) ?_
    refine jm_icmp_ge (tgt := 51) dX1_mixCoats_23 (by decide) rfl (fun c23 => absurd ((nI_leI (by omega) (by omega)).mp (hm ▸ c23)) (by omega)) (fun c23 => ?_)
    refine jm_lload dX1_mixCoats_26 rfl rfl ?_
    refine jm_aload_n dX1_mixCoats_28 rfl rfl rfl ?_
    refine jm_getr dX1_mixCoats_29 rfl fe_X1_9 rfl rfl rfl ?_
    refine jm_bipush (nI 8) dX1_mixCoats_32 rfl (by decide) ?_
    refine jm_iload_n dX1_mixCoats_34 rfl rfl rfl ?_
    refine jm_imul dX1_mixCoats_35 rfl ?_
    refine jm_iload dX1_mixCoats_36 rfl rfl ?_
    refine jm_iadd dX1_mixCoats_38 rfl ?_
    refine jm_iald dX1_mixCoats_39 rfl rfl rfl (by decide) (by rw [pk_mul, nI_add]) (by omega) ?_
    refine jm_cS2 dX1_mixCoats_40 rfl cb_X1_26 cs_X6_mix (Nat.le_of_ble_eq_true rfl) (Nat.le_of_ble_eq_true rfl) (by decide) (s_X6_mix ?_)
    refine jm_lstore dX1_mixCoats_43 rfl rfl rfl ?_
    dsimp only [List.set]
    refine jm_iinc (nI 1) dX1_mixCoats_45 rfl rfl (by decide) rfl rfl ?_
    dsimp only [List.set]
    refine jm_goto (n := 15) dX1_mixCoats_48 (by decide) ?_
    rw [nI_add]; exact ih
set_option maxHeartbeats 400000 in
theorem s_X1_mixCoats {Ln : Nat} {xs : Nat → Int32} {μ : jm_Mem} {Q : Option Value → jm_Mem → Prop} {j m : Nat} {g : Int64} (hj : j < 12) (hm : μ 10 j = nI m) (h8 : m ≤ 8) (hq : Q (some (.long (rg_mx (fun i => μ 9 (8 * j + i)) m (31 * g + (nI m).toInt64)))) μ) : gJ Ln xs 1 mX1_mixCoats 0 (jm_en 7 [.ref 8, .long g, .int (nI j)]) [] μ Q := by
  show jm_J rg_I (rg_X Ln xs) 1 mX1_mixCoats 0 [some (.ref 8), some (.long g), none, some (.int (nI j)), none, none, none] [] μ Q
  refine jm_lload_n dX1_mixCoats_0 rfl rfl rfl ?_
  refine jm_aload_n dX1_mixCoats_1 rfl rfl rfl ?_
  refine jm_getr dX1_mixCoats_2 rfl fe_X1_15 rfl rfl rfl ?_
  refine jm_iload_n dX1_mixCoats_5 rfl rfl rfl ?_
  refine jm_iald dX1_mixCoats_6 rfl rfl rfl (by decide) rfl (by first | assumption | omega) ?_
  refine jm_cS2 dX1_mixCoats_7 rfl cb_X1_26 cs_X6_mix (Nat.le_of_ble_eq_true rfl) (Nat.le_of_ble_eq_true rfl) (by decide) (s_X6_mix ?_)
  refine jm_lstore dX1_mixCoats_10 rfl rfl rfl ?_
  dsimp only [List.set]
  refine jm_iconst (nI 0) dX1_mixCoats_12 rfl (by decide) ?_
  refine jm_istore dX1_mixCoats_13 rfl rfl rfl ?_
  dsimp only [List.set]
  rw [hm]; exact l_X1_mixCoats hj hm h8 hq 0 (by omega)
set_option maxHeartbeats 1000000 in
theorem l_X3_areOwn {Ln : Nat} {xs : Nat → Int32} {μ : jm_Mem} {Q : Option Value → jm_Mem → Prop} {j : Nat} (hj : j < 12) (h1 : (∀ i, i < 4 → μ 12 (4 * j + i) = nI (4 * j + i)) → Q (some (.int 1)) μ) (h0 : ∀ i, i < 4 → ¬ μ 12 (4 * j + i) = nI (4 * j + i) → Q (some (.int 0)) μ) : ∀ i, i ≤ 4 → ∀ (hb : ∀ i2, i2 < i → μ 12 (4 * j + i2) = nI (4 * j + i2)), jm_J rg_I (rg_X Ln xs) 1 mX3_areOwn 2 [some (.ref 11), some (.int (nI j)), some (.int (nI i))] [] μ Q := by
  refine jm_for 4 ?_ ?_
  · intro hb
    refine jm_iload_n dX3_areOwn_2 rfl rfl rfl ?_
    refine jm_iconst (nI 4) dX3_areOwn_3 rfl (by decide) ?_
    refine jm_icmp_ge (tgt := 33) dX3_areOwn_4 (by decide) rfl (fun c4 => ?_) (fun c4 => absurd ((nI_leI (by omega) (by omega)).mpr (Nat.le_refl _)) c4)
    refine jm_iconst (nI 1) dX3_areOwn_33 rfl (by decide) ?_
    refine jm_iret dX3_areOwn_34 rfl rfl ?_
    exact h1 hb
  · intro i hi ih hb
    refine jm_iload_n dX3_areOwn_2 rfl rfl rfl ?_
    refine jm_iconst (nI 4) dX3_areOwn_3 rfl (by decide) ?_
    refine jm_icmp_ge (tgt := 33) dX3_areOwn_4 (by decide) rfl (fun c4 => absurd ((nI_leI (by omega) (by omega)).mp c4) (by omega)) (fun c4 => ?_)
    refine jm_aload_n dX3_areOwn_7 rfl rfl rfl ?_
    refine jm_getr dX3_areOwn_8 rfl fe_X3_9 rfl rfl rfl ?_
    refine jm_iload_n dX3_areOwn_11 rfl rfl rfl ?_
    refine jm_iload_n dX3_areOwn_12 rfl rfl rfl ?_
    refine jm_cS2 dX3_areOwn_13 rfl cb_X3_18 cs_X6_legNumber (Nat.le_of_ble_eq_true rfl) (Nat.le_of_ble_eq_true rfl) (by decide) (s_X6_legNumber ?_)
    refine jm_iald dX3_areOwn_16 rfl rfl rfl (by decide) rfl (by omega) ?_
    refine jm_iload_n dX3_areOwn_17 rfl rfl rfl ?_
    refine jm_iload_n dX3_areOwn_18 rfl rfl rfl ?_
    refine jm_cS2 dX3_areOwn_19 rfl cb_X3_18 cs_X6_legNumber (Nat.le_of_ble_eq_true rfl) (Nat.le_of_ble_eq_true rfl) (by decide) (s_X6_legNumber ?_)
    refine jm_icmp_eq (tgt := 27) dX3_areOwn_22 (by decide) rfl (fun c22 => ?_) (fun c22 => ?_)
    · refine jm_iinc (nI 1) dX3_areOwn_27 rfl rfl (by decide) rfl rfl ?_
      dsimp only [List.set]
      refine jm_goto (n := 2) dX3_areOwn_30 (by decide) ?_
      rw [nI_add]
      exact ih (fun i2 h2 => if e : i2 = i then by rw [e]; exact c22 else hb i2 (by omega))
    · refine jm_iconst (nI 0) dX3_areOwn_25 rfl (by decide) ?_
      refine jm_iret dX3_areOwn_26 rfl rfl ?_
      exact h0 i hi c22
set_option maxHeartbeats 400000 in
theorem s_X3_areOwn {Ln : Nat} {xs : Nat → Int32} {μ : jm_Mem} {Q : Option Value → jm_Mem → Prop} {j : Nat} (hj : j < 12) (h1 : (∀ i, i < 4 → μ 12 (4 * j + i) = nI (4 * j + i)) → Q (some (.int 1)) μ) (h0 : ∀ i, i < 4 → ¬ μ 12 (4 * j + i) = nI (4 * j + i) → Q (some (.int 0)) μ) : gJ Ln xs 1 mX3_areOwn 0 (jm_en 3 [.ref 11, .int (nI j)]) [] μ Q := by
  show jm_J rg_I (rg_X Ln xs) 1 mX3_areOwn 0 [some (.ref 11), some (.int (nI j)), none] [] μ Q
  refine jm_iconst (nI 0) dX3_areOwn_0 rfl (by decide) ?_
  refine jm_istore_n dX3_areOwn_1 rfl rfl rfl rfl ?_
  dsimp only [List.set]
  exact l_X3_areOwn hj h1 h0 0 (by omega) (fun _ h => absurd h (by omega))
set_option maxHeartbeats 400000 in
theorem s_X3_exchange {Ln : Nat} {xs : Nat → Int32} {μ : jm_Mem} {Q : Option Value → jm_Mem → Prop} {a b : Nat} (ha : a < 48) (hb : b < 48) (h : Q none (jm_set (jm_set μ 12 a (μ 12 b)) 12 b (μ 12 a))) : gJ Ln xs 0 mX3_exchange 0 (jm_en 4 [.ref 11, .int (nI a), .int (nI b)]) [] μ Q := by
  show jm_J rg_I (rg_X Ln xs) 0 mX3_exchange 0 [some (.ref 11), some (.int (nI a)), some (.int (nI b)), none] [] μ Q
  refine jm_aload_n dX3_exchange_0 rfl rfl rfl ?_
  refine jm_getr dX3_exchange_1 rfl fe_X3_9 rfl rfl rfl ?_
  refine jm_iload_n dX3_exchange_4 rfl rfl rfl ?_
  refine jm_iald dX3_exchange_5 rfl rfl rfl (by decide) rfl (by first | assumption | omega) ?_
  refine jm_istore_n dX3_exchange_6 rfl rfl rfl rfl ?_
  dsimp only [List.set]
  refine jm_aload_n dX3_exchange_7 rfl rfl rfl ?_
  refine jm_getr dX3_exchange_8 rfl fe_X3_9 rfl rfl rfl ?_
  refine jm_iload_n dX3_exchange_11 rfl rfl rfl ?_
  refine jm_aload_n dX3_exchange_12 rfl rfl rfl ?_
  refine jm_getr dX3_exchange_13 rfl fe_X3_9 rfl rfl rfl ?_
  refine jm_iload_n dX3_exchange_16 rfl rfl rfl ?_
  refine jm_iald dX3_exchange_17 rfl rfl rfl (by decide) rfl (by first | assumption | omega) ?_
  refine jm_iast dX3_exchange_18 rfl rfl rfl (by decide) rfl (by first | assumption | omega) ?_
  refine jm_aload_n dX3_exchange_19 rfl rfl rfl ?_
  refine jm_getr dX3_exchange_20 rfl fe_X3_9 rfl rfl rfl ?_
  refine jm_iload_n dX3_exchange_23 rfl rfl rfl ?_
  refine jm_iload_n dX3_exchange_24 rfl rfl rfl ?_
  refine jm_iast dX3_exchange_25 rfl rfl rfl (by decide) rfl (by first | assumption | omega) ?_
  refine jm_vret dX3_exchange_26 rfl ?_
  exact h
set_option maxHeartbeats 1000000 in
theorem l_X3_whereIs {Ln : Nat} {xs : Nat → Int32} {μ : jm_Mem} {Q : Option Value → jm_Mem → Prop} {v : Int32} (h1 : ∀ k, k < 48 → μ 12 k = v → (∀ i, i < k → ¬ μ 12 i = v) → Q (some (.int (nI k))) μ) (h0 : (∀ i, i < 48 → ¬ μ 12 i = v) → Q (some (.int (-1))) μ) : ∀ i, i ≤ 48 → ∀ (hb : ∀ i2, i2 < i → ¬ μ 12 i2 = v), jm_J rg_I (rg_X Ln xs) 0 mX3_whereIs 2 [some (.ref 11), some (.int v), some (.int (nI i))] [] μ Q := by
  refine jm_for 48 ?_ ?_
  · intro hb
    refine jm_iload_n dX3_whereIs_2 rfl rfl rfl ?_
    refine jm_bipush (nI 48) dX3_whereIs_3 rfl (by decide) ?_
    refine jm_icmp_ge (tgt := 26) dX3_whereIs_5 (by decide) rfl (fun c5 => ?_) (fun c5 => absurd ((nI_leI (by omega) (by omega)).mpr (Nat.le_refl _)) c5)
    refine jm_iconst (-1) dX3_whereIs_26 rfl (by decide) ?_
    refine jm_iret dX3_whereIs_27 rfl rfl ?_
    exact h0 hb
  · intro i hi ih hb
    refine jm_iload_n dX3_whereIs_2 rfl rfl rfl ?_
    refine jm_bipush (nI 48) dX3_whereIs_3 rfl (by decide) ?_
    refine jm_icmp_ge (tgt := 26) dX3_whereIs_5 (by decide) rfl (fun c5 => absurd ((nI_leI (by omega) (by omega)).mp c5) (by omega)) (fun c5 => ?_)
    refine jm_aload_n dX3_whereIs_8 rfl rfl rfl ?_
    refine jm_getr dX3_whereIs_9 rfl fe_X3_9 rfl rfl rfl ?_
    refine jm_iload_n dX3_whereIs_12 rfl rfl rfl ?_
    refine jm_iald dX3_whereIs_13 rfl rfl rfl (by decide) rfl (by first | assumption | omega) ?_
    refine jm_iload_n dX3_whereIs_14 rfl rfl rfl ?_
    refine jm_icmp_ne (tgt := 20) dX3_whereIs_15 (by decide) rfl (fun c15 => ?_) (fun c15 => ?_)
    · refine jm_iinc (nI 1) dX3_whereIs_20 rfl rfl (by decide) rfl rfl ?_
      dsimp only [List.set]
      refine jm_goto (n := 2) dX3_whereIs_23 (by decide) ?_
      rw [nI_add]
      exact ih (fun i2 h2 => if e : i2 = i then by rw [e]; exact c15 else hb i2 (by omega))
    · refine jm_iload_n dX3_whereIs_18 rfl rfl rfl ?_
      refine jm_iret dX3_whereIs_19 rfl rfl ?_
      exact h1 i hi c15 hb
set_option maxHeartbeats 400000 in
theorem s_X3_whereIs {Ln : Nat} {xs : Nat → Int32} {μ : jm_Mem} {Q : Option Value → jm_Mem → Prop} {v : Int32} (h1 : ∀ k, k < 48 → μ 12 k = v → (∀ i, i < k → ¬ μ 12 i = v) → Q (some (.int (nI k))) μ) (h0 : (∀ i, i < 48 → ¬ μ 12 i = v) → Q (some (.int (-1))) μ) : gJ Ln xs 0 mX3_whereIs 0 (jm_en 3 [.ref 11, .int v]) [] μ Q := by
  show jm_J rg_I (rg_X Ln xs) 0 mX3_whereIs 0 [some (.ref 11), some (.int v), none] [] μ Q
  refine jm_iconst (nI 0) dX3_whereIs_0 rfl (by decide) ?_
  refine jm_istore_n dX3_whereIs_1 rfl rfl rfl rfl ?_
  dsimp only [List.set]
  exact l_X3_whereIs h1 h0 0 (by omega) (fun _ h => absurd h (by omega))
set_option maxHeartbeats 1000000 in
theorem l_X3_mixLegs {Ln : Nat} {xs : Nat → Int32} {μ : jm_Mem} {Q : Option Value → jm_Mem → Prop} {j : Nat} {g h : Int64} (hj : j < 12) (hq : Q (some (.long (rg_mx (fun i => μ 12 (4 * j + i)) 4 h))) μ) : ∀ i, i ≤ 4 → jm_J rg_I (rg_X Ln xs) 1 mX3_mixLegs 6 [some (.ref 11), some (.long g), none, some (.int (nI j)), some (.long (rg_mx (fun i => μ 12 (4 * j + i)) i h)), none, some (.int (nI i))] [] μ Q := by
  refine jm_for 4 ?_ ?_
  · skip
    refine jm_iload dX3_mixLegs_6 rfl rfl ?_
    refine jm_iconst (nI 4) dX3_mixLegs_8 rfl (by decide) ?_
    refine jm_icmp_ge (tgt := 36) dX3_mixLegs_9 (by decide) rfl (fun c9 => ?_) (fun c9 => absurd ((nI_leI (by omega) (by omega)).mpr (Nat.le_refl _)) c9)
    refine jm_lload dX3_mixLegs_36 rfl rfl ?_
    refine jm_lret dX3_mixLegs_38 rfl ?_
    exact hq
  · intro i hi ih 
    refine jm_iload dX3_mixLegs_6 rfl rfl ?_
    refine jm_iconst (nI 4) dX3_mixLegs_8 rfl (by decide) ?_
    refine jm_icmp_ge (tgt := 36) dX3_mixLegs_9 (by decide) rfl (fun c9 => absurd ((nI_leI (by omega) (by omega)).mp c9) (by omega)) (fun c9 => ?_)
    refine jm_lload dX3_mixLegs_12 rfl rfl ?_
    refine jm_aload_n dX3_mixLegs_14 rfl rfl rfl ?_
    refine jm_getr dX3_mixLegs_15 rfl fe_X3_9 rfl rfl rfl ?_
    refine jm_iload_n dX3_mixLegs_18 rfl rfl rfl ?_
    refine jm_iload dX3_mixLegs_19 rfl rfl ?_
    refine jm_cS2 dX3_mixLegs_21 rfl cb_X3_18 cs_X6_legNumber (Nat.le_of_ble_eq_true rfl) (Nat.le_of_ble_eq_true rfl) (by decide) (s_X6_legNumber ?_)
    refine jm_iald dX3_mixLegs_24 rfl rfl rfl (by decide) rfl (by omega) ?_
    refine jm_cS2 dX3_mixLegs_25 rfl cb_X3_36 cs_X6_mix (Nat.le_of_ble_eq_true rfl) (Nat.le_of_ble_eq_true rfl) (by decide) (s_X6_mix ?_)
    refine jm_lstore dX3_mixLegs_28 rfl rfl rfl ?_
    dsimp only [List.set]
    refine jm_iinc (nI 1) dX3_mixLegs_30 rfl rfl (by decide) rfl rfl ?_
    dsimp only [List.set]
    refine jm_goto (n := 6) dX3_mixLegs_33 (by decide) ?_
    rw [nI_add]; exact ih
set_option maxHeartbeats 400000 in
theorem s_X3_mixLegs {Ln : Nat} {xs : Nat → Int32} {μ : jm_Mem} {Q : Option Value → jm_Mem → Prop} {j : Nat} {g : Int64} (hj : j < 12) (hq : Q (some (.long (rg_mx (fun i => μ 12 (4 * j + i)) 4 g))) μ) : gJ Ln xs 1 mX3_mixLegs 0 (jm_en 7 [.ref 11, .long g, .int (nI j)]) [] μ Q := by
  show jm_J rg_I (rg_X Ln xs) 1 mX3_mixLegs 0 [some (.ref 11), some (.long g), none, some (.int (nI j)), none, none, none] [] μ Q
  refine jm_lload_n dX3_mixLegs_0 rfl rfl rfl ?_
  refine jm_lstore dX3_mixLegs_1 rfl rfl rfl ?_
  dsimp only [List.set]
  refine jm_iconst (nI 0) dX3_mixLegs_3 rfl (by decide) ?_
  refine jm_istore dX3_mixLegs_4 rfl rfl rfl ?_
  dsimp only [List.set]
  exact l_X3_mixLegs hj hq 0 (by omega)
set_option maxHeartbeats 400000 in
theorem s_X2_isFair {Ln : Nat} {xs : Nat → Int32} {μ : jm_Mem} {Q : Option Value → jm_Mem → Prop} {f : Int32} {nf : Nat} (hn : μ 14 4 = nI nf) (h8 : nf ≤ 8) (h1 : ∀ i, i < nf → f = nI i → Q (some (.int 1)) μ) (h0 : f < 0 ∨ nI nf ≤ f → Q (some (.int 0)) μ) : gJ Ln xs 0 mX2_isFair 0 (jm_en 2 [.ref 14, .int f]) [] μ Q := by
  show jm_J rg_I (rg_X Ln xs) 0 mX2_isFair 0 [some (.ref 14), some (.int f)] [] μ Q
  refine jm_iload_n dX2_isFair_0 rfl rfl rfl ?_
  refine jm_if_lt (tgt := 16) dX2_isFair_1 (by decide) rfl (fun c1 => ?_) (fun c1 => ?_)
  · refine jm_iconst (nI 0) dX2_isFair_16 rfl (by decide) ?_
    refine jm_iret dX2_isFair_17 rfl rfl ?_
    first | exact h0 (Or.inl c1) | exact h0 (Or.inr (hn ▸ c9)) | (rcases pk_ix f (n := nf) (by omega) with h | h | ⟨j, hj, e⟩; exact absurd h c1; exact absurd (hn.symm ▸ h) c9; exact h1 j hj e) | fail "leaf"
  · refine jm_iload_n dX2_isFair_4 rfl rfl rfl ?_
    refine jm_aload_n dX2_isFair_5 rfl rfl rfl ?_
    refine jm_geti dX2_isFair_6 rfl fe_X2_24 rfl rfl rfl ?_
    refine jm_icmp_ge (tgt := 16) dX2_isFair_9 (by decide) rfl (fun c9 => ?_) (fun c9 => ?_)
    · refine jm_iconst (nI 0) dX2_isFair_16 rfl (by decide) ?_
      refine jm_iret dX2_isFair_17 rfl rfl ?_
      first | exact h0 (Or.inl c1) | exact h0 (Or.inr (hn ▸ c9)) | (rcases pk_ix f (n := nf) (by omega) with h | h | ⟨j, hj, e⟩; exact absurd h c1; exact absurd (hn.symm ▸ h) c9; exact h1 j hj e) | fail "leaf"
    · refine jm_iconst (nI 1) dX2_isFair_12 rfl (by decide) ?_
      refine jm_goto (n := 17) dX2_isFair_13 (by decide) ?_
      refine jm_iret dX2_isFair_17 rfl rfl ?_
      first | exact h0 (Or.inl c1) | exact h0 (Or.inr (hn ▸ c9)) | (rcases pk_ix f (n := nf) (by omega) with h | h | ⟨j, hj, e⟩; exact absurd h c1; exact absurd (hn.symm ▸ h) c9; exact h1 j hj e) | fail "leaf"
set_option maxHeartbeats 400000 in
theorem s_X2_announce {Ln : Nat} {xs : Nat → Int32} {μ : jm_Mem} {Q : Option Value → jm_Mem → Prop} {a b c : Int32} {nf : Nat} (hn : μ 14 4 = nI nf) (h8 : nf < 8) (h : Q (some (.int (nI nf))) (jm_set (jm_set (jm_set (jm_set μ 15 nf a) 16 nf b) 17 nf c) 14 4 (nI (nf + 1)))) : gJ Ln xs 0 mX2_announce 0 (jm_en 5 [.ref 14, .int a, .int b, .int c]) [] μ Q := by
  show jm_J rg_I (rg_X Ln xs) 0 mX2_announce 0 [some (.ref 14), some (.int a), some (.int b), some (.int c), none] [] μ Q
  refine jm_aload_n dX2_announce_0 rfl rfl rfl ?_
  refine jm_geti dX2_announce_1 rfl fe_X2_24 rfl rfl rfl ?_
  refine jm_istore dX2_announce_4 rfl rfl rfl ?_
  dsimp only [List.set]
  refine jm_aload_n dX2_announce_6 rfl rfl rfl ?_
  refine jm_getr dX2_announce_7 rfl fe_X2_9 rfl rfl rfl ?_
  refine jm_iload dX2_announce_10 rfl rfl ?_
  refine jm_iload_n dX2_announce_12 rfl rfl rfl ?_
  refine jm_iast dX2_announce_13 rfl rfl rfl (by decide) hn h8 ?_
  refine jm_aload_n dX2_announce_14 rfl rfl rfl ?_
  refine jm_getr dX2_announce_15 rfl fe_X2_15 rfl rfl rfl ?_
  refine jm_iload dX2_announce_18 rfl rfl ?_
  refine jm_iload_n dX2_announce_20 rfl rfl rfl ?_
  refine jm_iast dX2_announce_21 rfl rfl rfl (by decide) hn h8 ?_
  refine jm_aload_n dX2_announce_22 rfl rfl rfl ?_
  refine jm_getr dX2_announce_23 rfl fe_X2_18 rfl rfl rfl ?_
  refine jm_iload dX2_announce_26 rfl rfl ?_
  refine jm_iload_n dX2_announce_28 rfl rfl rfl ?_
  refine jm_iast dX2_announce_29 rfl rfl rfl (by decide) hn h8 ?_
  refine jm_aload_n dX2_announce_30 rfl rfl rfl ?_
  refine jm_dup dX2_announce_31 rfl rfl ?_
  refine jm_geti dX2_announce_32 rfl fe_X2_24 rfl rfl rfl ?_
  refine jm_iconst (nI 1) dX2_announce_35 rfl (by decide) ?_
  refine jm_iadd dX2_announce_36 rfl ?_
  refine jm_puti dX2_announce_37 rfl pe_X2_24 rfl rfl rfl ?_
  refine jm_iload dX2_announce_40 rfl rfl ?_
  refine jm_iret dX2_announce_42 rfl rfl ?_
  rw [hn]
  refine rd_q h ?_
  rw [rd_na (by decide), rd_na (by decide), rd_na (by decide), hn, nI_add]
set_option maxHeartbeats 400000 in
theorem s_X2_daysBetween {Ln : Nat} {xs : Nat → Int32} {μ : jm_Mem} {Q : Option Value → jm_Mem → Prop} {a b : Nat} (ha : a < 8) (hb : b < 8) (h : Q (some (.int (μ 18 (8 * a + b)))) μ) : gJ Ln xs 0 mX2_daysBetween 0 (jm_en 3 [.ref 14, .int (nI a), .int (nI b)]) [] μ Q := by
  show jm_J rg_I (rg_X Ln xs) 0 mX2_daysBetween 0 [some (.ref 14), some (.int (nI a)), some (.int (nI b))] [] μ Q
  refine jm_aload_n dX2_daysBetween_0 rfl rfl rfl ?_
  refine jm_getr dX2_daysBetween_1 rfl fe_X2_21 rfl rfl rfl ?_
  refine jm_bipush (nI 8) dX2_daysBetween_4 rfl (by decide) ?_
  refine jm_iload_n dX2_daysBetween_6 rfl rfl rfl ?_
  refine jm_imul dX2_daysBetween_7 rfl ?_
  refine jm_iload_n dX2_daysBetween_8 rfl rfl rfl ?_
  refine jm_iadd dX2_daysBetween_9 rfl ?_
  refine jm_iald dX2_daysBetween_10 rfl rfl rfl (by decide) (by rw [pk_mul, nI_add]) (by omega) ?_
  refine jm_iret dX2_daysBetween_11 rfl rfl ?_
  exact h
set_option maxHeartbeats 400000 in
theorem s_X2_layRoad {Ln : Nat} {xs : Nat → Int32} {μ : jm_Mem} {Q : Option Value → jm_Mem → Prop} {a b : Nat} {v : Int32} (ha : a < 8) (hb : b < 8) (h : Q none (jm_set (jm_set μ 18 (8 * a + b) v) 18 (8 * b + a) v)) : gJ Ln xs 0 mX2_layRoad 0 (jm_en 4 [.ref 14, .int (nI a), .int (nI b), .int v]) [] μ Q := by
  show jm_J rg_I (rg_X Ln xs) 0 mX2_layRoad 0 [some (.ref 14), some (.int (nI a)), some (.int (nI b)), some (.int v)] [] μ Q
  refine jm_aload_n dX2_layRoad_0 rfl rfl rfl ?_
  refine jm_getr dX2_layRoad_1 rfl fe_X2_21 rfl rfl rfl ?_
  refine jm_bipush (nI 8) dX2_layRoad_4 rfl (by decide) ?_
  refine jm_iload_n dX2_layRoad_6 rfl rfl rfl ?_
  refine jm_imul dX2_layRoad_7 rfl ?_
  refine jm_iload_n dX2_layRoad_8 rfl rfl rfl ?_
  refine jm_iadd dX2_layRoad_9 rfl ?_
  refine jm_iload_n dX2_layRoad_10 rfl rfl rfl ?_
  refine jm_iast dX2_layRoad_11 rfl rfl rfl (by decide) (by rw [pk_mul, nI_add]) (by omega) ?_
  refine jm_aload_n dX2_layRoad_12 rfl rfl rfl ?_
  refine jm_getr dX2_layRoad_13 rfl fe_X2_21 rfl rfl rfl ?_
  refine jm_bipush (nI 8) dX2_layRoad_16 rfl (by decide) ?_
  refine jm_iload_n dX2_layRoad_18 rfl rfl rfl ?_
  refine jm_imul dX2_layRoad_19 rfl ?_
  refine jm_iload_n dX2_layRoad_20 rfl rfl rfl ?_
  refine jm_iadd dX2_layRoad_21 rfl ?_
  refine jm_iload_n dX2_layRoad_22 rfl rfl rfl ?_
  refine jm_iast dX2_layRoad_23 rfl rfl rfl (by decide) (by rw [pk_mul, nI_add]) (by omega) ?_
  refine jm_vret dX2_layRoad_24 rfl ?_
  exact h
set_option maxHeartbeats 400000 in
theorem s_X0_join {Ln : Nat} {xs : Nat → Int32} {μ : jm_Mem} {Q : Option Value → jm_Mem → Prop} {v : Int32} {nw : Nat} (hw : μ 22 1 = nI nw) (hl : nw < 100) (h : Q none (jm_set (jm_set μ 23 nw v) 22 1 (nI (nw + 1)))) : gJ Ln xs 0 mX0_join 0 (jm_en 2 [.ref 22, .int v]) [] μ Q := by
  show jm_J rg_I (rg_X Ln xs) 0 mX0_join 0 [some (.ref 22), some (.int v)] [] μ Q
  refine jm_aload_n dX0_join_0 rfl rfl rfl ?_
  refine jm_getr dX0_join_1 rfl fe_X0_9 rfl rfl rfl ?_
  refine jm_aload_n dX0_join_4 rfl rfl rfl ?_
  refine jm_geti dX0_join_5 rfl fe_X0_15 rfl rfl rfl ?_
  refine jm_iload_n dX0_join_8 rfl rfl rfl ?_
  refine jm_iast dX0_join_9 rfl rfl rfl (by decide) hw hl ?_
  refine jm_aload_n dX0_join_10 rfl rfl rfl ?_
  refine jm_dup dX0_join_11 rfl rfl ?_
  refine jm_geti dX0_join_12 rfl fe_X0_15 rfl rfl rfl ?_
  refine jm_iconst (nI 1) dX0_join_15 rfl (by decide) ?_
  refine jm_iadd dX0_join_16 rfl ?_
  refine jm_puti dX0_join_17 rfl pe_X0_15 rfl rfl rfl ?_
  refine jm_vret dX0_join_20 rfl ?_
  refine rd_q h ?_
  rw [rd_na (by decide), hw, nI_add]
set_option maxHeartbeats 400000 in
theorem s_X0_dropFirst {Ln : Nat} {xs : Nat → Int32} {μ : jm_Mem} {Q : Option Value → jm_Mem → Prop} {nw : Nat} (hw : μ 22 1 = nI (nw + 1)) (hl : nw < 100) (h : Q none (jm_arr (jm_set μ 22 1 (nI nw)) 23 (va_cpy (μ 23) (μ 23) 1 0 nw))) : gJ Ln xs 0 mX0_dropFirst 0 (jm_en 1 [.ref 22]) [] μ Q := by
  show jm_J rg_I (rg_X Ln xs) 0 mX0_dropFirst 0 [some (.ref 22)] [] μ Q
  refine jm_aload_n dX0_dropFirst_0 rfl rfl rfl ?_
  refine jm_dup dX0_dropFirst_1 rfl rfl ?_
  refine jm_geti dX0_dropFirst_2 rfl fe_X0_15 rfl rfl rfl ?_
  refine jm_iconst (nI 1) dX0_dropFirst_5 rfl (by decide) ?_
  refine jm_isub dX0_dropFirst_6 rfl ?_
  refine jm_puti dX0_dropFirst_7 rfl pe_X0_15 rfl rfl rfl ?_
  refine jm_aload_n dX0_dropFirst_10 rfl rfl rfl ?_
  refine jm_getr dX0_dropFirst_11 rfl fe_X0_9 rfl rfl rfl ?_
  refine jm_iconst (nI 1) dX0_dropFirst_14 rfl (by decide) ?_
  refine jm_aload_n dX0_dropFirst_15 rfl rfl rfl ?_
  refine jm_getr dX0_dropFirst_16 rfl fe_X0_9 rfl rfl rfl ?_
  refine jm_iconst (nI 0) dX0_dropFirst_19 rfl (by decide) ?_
  refine jm_aload_n dX0_dropFirst_20 rfl rfl rfl ?_
  refine jm_geti dX0_dropFirst_21 rfl fe_X0_15 rfl rfl rfl ?_
  refine jm_copy dX0_dropFirst_24 rfl nl_X0_19 nc_nat nc_st nc_in (Nat.le_of_ble_eq_true rfl) rfl rfl rfl rfl (by decide) (by decide) (m0 := nw) rfl rfl (by rw [rd_eq, hw, pk_sub (by omega)]; rfl) (by omega) (by omega) ?_
  refine jm_vret dX0_dropFirst_27 rfl ?_
  refine rd_q h ?_
  rw [hw, pk_sub (by omega)]
  rfl
set_option maxHeartbeats 1000000 in
theorem l_X0_mixAll {Ln : Nat} {xs : Nat → Int32} {μ : jm_Mem} {Q : Option Value → jm_Mem → Prop} {g h : Int64} {nw : Nat} (hw : μ 22 1 = nI nw) (hl : nw ≤ 100) (hq : Q (some (.long (rg_mx (μ 23) nw h))) μ) : ∀ i, i ≤ nw → jm_J rg_I (rg_X Ln xs) 1 mX0_mixAll 5 [some (.ref 22), some (.long g), none, some (.long (rg_mx (μ 23) i h)), none, some (.int (nI i))] [] μ Q := by
  refine jm_for nw ?_ ?_
  · skip
    refine jm_iload dX0_mixAll_5 rfl rfl ?_
    refine jm_aload_n dX0_mixAll_7 rfl rfl rfl ?_
    refine jm_geti dX0_mixAll_8 rfl fe_X0_15 rfl rfl rfl ?_
    refine jm_icmp_ge (tgt := 32) dX0_mixAll_11 (by decide) rfl (fun c11 => ?_) (fun c11 => absurd (by rw [hw]; exact (nI_leI (by omega) (by omega)).mpr (Nat.le_refl _)) c11)
    refine jm_lload_n dX0_mixAll_32 rfl rfl rfl ?_
    refine jm_lret dX0_mixAll_33 rfl ?_
    exact hq
  · intro i hi ih 
    refine jm_iload dX0_mixAll_5 rfl rfl ?_
    refine jm_aload_n dX0_mixAll_7 rfl rfl rfl ?_
    refine jm_geti dX0_mixAll_8 rfl fe_X0_15 rfl rfl rfl ?_
    refine jm_icmp_ge (tgt := 32) dX0_mixAll_11 (by decide) rfl (fun c11 => absurd ((nI_leI (by omega) (by omega)).mp (hw ▸ c11)) (by omega)) (fun c11 => ?_)
    refine jm_lload_n dX0_mixAll_14 rfl rfl rfl ?_
    refine jm_aload_n dX0_mixAll_15 rfl rfl rfl ?_
    refine jm_getr dX0_mixAll_16 rfl fe_X0_9 rfl rfl rfl ?_
    refine jm_iload dX0_mixAll_19 rfl rfl ?_
    refine jm_iald dX0_mixAll_21 rfl rfl rfl (by decide) rfl (by first | assumption | omega) ?_
    refine jm_cS2 dX0_mixAll_22 rfl cb_X0_25 cs_X6_mix (Nat.le_of_ble_eq_true rfl) (Nat.le_of_ble_eq_true rfl) (by decide) (s_X6_mix ?_)
    refine jm_lstore_n dX0_mixAll_25 rfl rfl rfl rfl ?_
    dsimp only [List.set]
    refine jm_iinc (nI 1) dX0_mixAll_26 rfl rfl (by decide) rfl rfl ?_
    dsimp only [List.set]
    refine jm_goto (n := 5) dX0_mixAll_29 (by decide) ?_
    rw [nI_add]; exact ih
set_option maxHeartbeats 400000 in
theorem s_X0_mixAll {Ln : Nat} {xs : Nat → Int32} {μ : jm_Mem} {Q : Option Value → jm_Mem → Prop} {g : Int64} {nw : Nat} (hw : μ 22 1 = nI nw) (hl : nw ≤ 100) (hq : Q (some (.long (rg_mx (μ 23) nw g))) μ) : gJ Ln xs 1 mX0_mixAll 0 (jm_en 6 [.ref 22, .long g]) [] μ Q := by
  show jm_J rg_I (rg_X Ln xs) 1 mX0_mixAll 0 [some (.ref 22), some (.long g), none, none, none, none] [] μ Q
  refine jm_lload_n dX0_mixAll_0 rfl rfl rfl ?_
  refine jm_lstore_n dX0_mixAll_1 rfl rfl rfl rfl ?_
  dsimp only [List.set]
  refine jm_iconst (nI 0) dX0_mixAll_2 rfl (by decide) ?_
  refine jm_istore dX0_mixAll_3 rfl rfl rfl ?_
  dsimp only [List.set]
  exact l_X0_mixAll hw hl hq 0 (by omega)
end
section
theorem rg_add_na {μ : jm_Mem} {j b : Nat} {w : Int32} (h : b ≠ 1) : rg_add μ j w b = μ b := by
  funext k
  simp only [rg_add, rd_na h]
theorem rg_nm1 {k : Nat} (h : k < 2 ^ 31) : ¬ nI k = -1 := fun e => by
  have := congrArg Int32.toInt e
  rw [nI_toInt h] at this
  have h2 : (-1 : Int32).toInt = -1 := by decide
  omega
theorem rg_bst_ix {ok : Nat → Bool} {sv : Nat → Int32} : ∀ n, (rg_bst ok sv n).1 = -1 ∨ ∃ j, j < n ∧ ok j = true ∧ (rg_bst ok sv n).1 = nI j
  | 0 => Or.inl rfl
  | n + 1 => by
    simp only [rg_bst]
    split
    · next h => exact Or.inr ⟨n, by omega, h.1, rfl⟩
    · rcases rg_bst_ix n with h | ⟨j, h1, h2, h3⟩
      · exact Or.inl h
      · exact Or.inr ⟨j, by omega, h2, h3⟩
theorem rg_tar_na {μ : jm_Mem} {b k : Nat} : ∀ n, b ≠ 1 → b ≠ 3 → rg_tar μ n b k = μ b k
  | 0, _, _ => rfl
  | n + 1, h1, h3 => by simp only [rg_tar]; rw [rg_add_na h1, rd_na h3, rg_tar_na n h1 h3]
abbrev rg_np (p : Int32) : Prop := p < 0 ∨ nI 12 ≤ p
abbrev rg_nw (v lo hi : Int32) : Prop := v < lo ∨ hi < v
abbrev rg_wi (v lo hi : Int32) : Prop := ¬ v < lo ∧ ¬ hi < v
abbrev rg_nh (μ : jm_Mem) (p : Int32) : Prop := rg_np p ∨ ∃ j, j < 12 ∧ p = nI j ∧ μ 2 j ≤ 0
def oc_horse (μ : jm_Mem) (p w c r : Int32) (μ1 : jm_Mem) : Prop := (rg_np p ∧ r = -101 ∧ μ1 = μ) ∨ ∃ j, j < 12 ∧ p = nI j ∧ (((rg_nw w (nI 1) (nI 200) ∨ rg_nw c (nI 0) (nI 99)) ∧ r = -102 ∧ μ1 = μ) ∨ (rg_wi w (nI 1) (nI 200) ∧ rg_wi c (nI 0) (nI 99) ∧ ((¬ μ 2 j ≤ 0 ∧ r = -103 ∧ μ1 = μ) ∨ (μ 2 j ≤ 0 ∧ r = nI (rg_cnt (jm_set μ 2 j w 2) 12) ∧ μ1 = jm_set (jm_set (rg_add (jm_set μ 2 j w) j w) 9 (8 * j + 0) c) 10 j (nI (0 + 1))))))
def oc_leave (μ : jm_Mem) (p r : Int32) (μ1 : jm_Mem) : Prop := (rg_nh μ p ∧ r = -101 ∧ μ1 = μ) ∨ ∃ j, j < 12 ∧ p = nI j ∧ ¬ μ 2 j ≤ 0 ∧ (((¬ μ 3 j ≤ 0 ∨ ∃ i, i < 4 ∧ ¬ μ 12 (4 * j + i) = nI (4 * j + i)) ∧ r = -103 ∧ μ1 = μ) ∨ (μ 3 j ≤ 0 ∧ (∀ i, i < 4 → μ 12 (4 * j + i) = nI (4 * j + i)) ∧ r = μ 2 j ∧ μ1 = rg_add (jm_set (jm_set μ 10 j 0) 2 j 0) j (0 - μ 2 j)))
def oc_sit (μ : jm_Mem) (p w r : Int32) (μ1 : jm_Mem) : Prop := (rg_nh μ p ∧ r = -101 ∧ μ1 = μ) ∨ ∃ j, j < 12 ∧ p = nI j ∧ ¬ μ 2 j ≤ 0 ∧ ((rg_nw w 1 (nI 150) ∧ r = -102 ∧ μ1 = μ) ∨ (rg_wi w 1 (nI 150) ∧ (((¬ μ 3 j ≤ 0 ∨ ¬ rg_law μ (rg_shw μ j w) (μ 1 6 + rg_lift j w)) ∧ r = -103 ∧ μ1 = μ) ∨ (μ 3 j ≤ 0 ∧ rg_law μ (rg_shw μ j w) (μ 1 6 + rg_lift j w) ∧ μ1 = rg_add (jm_set μ 3 j w) j w ∧ r = rg_sh (μ1 1 4) (μ1 1 5)))))
def oc_rise (μ : jm_Mem) (p r : Int32) (μ1 : jm_Mem) : Prop := (rg_nh μ p ∧ r = -101 ∧ μ1 = μ) ∨ ∃ j, j < 12 ∧ p = nI j ∧ ¬ μ 2 j ≤ 0 ∧ ((μ 3 j ≤ 0 ∧ r = -103 ∧ μ1 = μ) ∨ (¬ μ 3 j ≤ 0 ∧ r = μ 3 j ∧ μ1 = rg_add (jm_set μ 3 j 0) j (0 - μ 3 j)))
def oc_may (μ : jm_Mem) (r : Int32) : Prop := (rg_law μ (rg_sh (μ 1 4) (μ 1 5)) (μ 1 6) ∧ r = 1) ∨ (¬ rg_law μ (rg_sh (μ 1 4) (μ 1 5)) (μ 1 6) ∧ r = 0)
def oc_law (μ : jm_Mem) (x v r : Int32) (μ1 : jm_Mem) : Prop := (x = 0 ∧ ((rg_nw v (nI 0) (nI 30000) ∧ r = -102 ∧ μ1 = μ) ∨ (rg_wi v (nI 0) (nI 30000) ∧ r = μ 1 2 ∧ μ1 = jm_set μ 1 2 v))) ∨ (x = 1 ∧ ((rg_nw v (nI 0) (nI 5000) ∧ r = -102 ∧ μ1 = μ) ∨ (rg_wi v (nI 0) (nI 5000) ∧ r = μ 1 3 ∧ μ1 = jm_set μ 1 3 v))) ∨ (¬ x = 0 ∧ ¬ x = 1 ∧ r = -101 ∧ μ1 = μ)
def oc_best (μ : jm_Mem) (w r : Int32) : Prop := (rg_nw w 1 (nI 150) ∧ r = -102) ∨ (rg_wi w 1 (nI 150) ∧ r = (rg_bst (rg_okw μ w) (fun j => rg_shw μ j w) 12).1)
def oc_rider (μ : jm_Mem) (p r : Int32) : Prop := (rg_np p ∧ r = -101) ∨ ∃ j, j < 12 ∧ p = nI j ∧ r = μ 3 j
def oc_coat (μ : jm_Mem) (p c r : Int32) (μ1 : jm_Mem) : Prop := (rg_nh μ p ∧ r = -101 ∧ μ1 = μ) ∨ ∃ j m, j < 12 ∧ p = nI j ∧ ¬ μ 2 j ≤ 0 ∧ μ 10 j = nI m ∧ ((rg_nw c (nI 0) (nI 99) ∧ r = -102 ∧ μ1 = μ) ∨ (rg_wi c (nI 0) (nI 99) ∧ ((m = 8 ∧ r = -104 ∧ μ1 = μ) ∨ (m < 8 ∧ r = nI (m + 1) ∧ μ1 = jm_set (jm_set μ 9 (8 * j + m) c) 10 j (nI (m + 1))))))
def oc_sample (μ : jm_Mem) (p k r : Int32) : Prop := (rg_nh μ p ∧ r = -101) ∨ ∃ j m, j < 12 ∧ p = nI j ∧ ¬ μ 2 j ≤ 0 ∧ μ 10 j = nI m ∧ ((∃ i, i < m ∧ k = nI i ∧ r = μ 9 (8 * j + m - 1 - i)) ∨ ((k < nI 0 ∨ nI m - nI 1 < k) ∧ r = -1))
def oc_strip (μ : jm_Mem) (p c r : Int32) (μ1 : jm_Mem) : Prop := (rg_nh μ p ∧ r = -101 ∧ μ1 = μ) ∨ ∃ j m, j < 12 ∧ p = nI j ∧ ¬ μ 2 j ≤ 0 ∧ μ 10 j = nI m ∧ (((∀ i, i < m → ¬ μ 9 (8 * j + m - 1 - i) = c) ∧ r = -102 ∧ μ1 = μ) ∨ ∃ k, k < m ∧ μ 9 (8 * j + m - 1 - k) = c ∧ (∀ i, i < k → ¬ μ 9 (8 * j + m - 1 - i) = c) ∧ r = nI k ∧ μ1 = jm_set μ 10 j (μ 10 j - nI k))
abbrev rg_nl (μ : jm_Mem) (p g : Int32) : Prop := rg_nh μ p ∨ g < 0 ∨ nI 4 ≤ g
def oc_swap (μ : jm_Mem) (p g q o r : Int32) (μ1 : jm_Mem) : Prop := ((rg_nl μ p g ∨ rg_nl μ q o) ∧ r = -101 ∧ μ1 = μ) ∨ ∃ j i j2 i2, j < 12 ∧ i < 4 ∧ j2 < 12 ∧ i2 < 4 ∧ p = nI j ∧ g = nI i ∧ q = nI j2 ∧ o = nI i2 ∧ ¬ μ 2 j ≤ 0 ∧ ¬ μ 2 j2 ≤ 0 ∧ ((j = j2 ∧ i = i2 ∧ r = -102 ∧ μ1 = μ) ∨ (¬ (j = j2 ∧ i = i2) ∧ r = 1 ∧ μ1 = jm_set (jm_set μ 12 (4 * j + i) (μ 12 (4 * j2 + i2))) 12 (4 * j2 + i2) (μ 12 (4 * j + i))))
def oc_mark (μ : jm_Mem) (p g r : Int32) : Prop := (rg_nl μ p g ∧ r = -101) ∨ ∃ j i, j < 12 ∧ i < 4 ∧ p = nI j ∧ g = nI i ∧ ¬ μ 2 j ≤ 0 ∧ r = μ 12 (4 * j + i)
def oc_find (μ : jm_Mem) (p g r : Int32) : Prop := ((rg_np p ∨ g < 0 ∨ nI 4 ≤ g) ∧ r = -101) ∨ ∃ j i, j < 12 ∧ i < 4 ∧ p = nI j ∧ g = nI i ∧ ((μ 2 j ≤ 0 ∧ r = -1) ∨ (¬ μ 2 j ≤ 0 ∧ (((∀ k, k < 48 → ¬ μ 12 k = nI (4 * j + i)) ∧ r = -1) ∨ ∃ k, k < 48 ∧ μ 12 k = nI (4 * j + i) ∧ (∀ k2, k2 < k → ¬ μ 12 k2 = nI (4 * j + i)) ∧ r = nI k)))
def oc_fair (μ : jm_Mem) (a b e r : Int32) (μ1 : jm_Mem) : Prop := ((rg_nw a (nI 0) (nI 400) ∨ rg_nw b a (nI 400) ∨ rg_nw e (nI 0) (nI 10000)) ∧ r = -102 ∧ μ1 = μ) ∨ (rg_wi a (nI 0) (nI 400) ∧ rg_wi b a (nI 400) ∧ rg_wi e (nI 0) (nI 10000) ∧ ∃ nf, μ 14 4 = nI nf ∧ ((nf = 8 ∧ r = -104 ∧ μ1 = μ) ∨ (nf < 8 ∧ r = nI nf ∧ μ1 = jm_set (jm_set (jm_set (jm_set μ 15 nf a) 16 nf b) 17 nf e) 14 4 (nI (nf + 1)))))
def oc_road (μ : jm_Mem) (a b d r : Int32) (μ1 : jm_Mem) : Prop := ∃ nf, μ 14 4 = nI nf ∧ nf ≤ 8 ∧ (((a < 0 ∨ nI nf ≤ a ∨ b < 0 ∨ nI nf ≤ b) ∧ r = -101 ∧ μ1 = μ) ∨ ∃ i k, i < nf ∧ k < nf ∧ a = nI i ∧ b = nI k ∧ (((rg_nw d (nI 0) (nI 50) ∨ i = k) ∧ r = -102 ∧ μ1 = μ) ∨ (rg_wi d (nI 0) (nI 50) ∧ ¬ i = k ∧ r = μ 18 (8 * i + k) ∧ μ1 = jm_set (jm_set μ 18 (8 * i + k) d) 18 (8 * k + i) d)))
def oc_turn (μ : jm_Mem) (r : Int32) (μ1 : jm_Mem) : Prop := ((¬ rg_law μ (rg_sh (μ 1 4) (μ 1 5)) (μ 1 6) ∨ μ 0 7 * nI 10 ≤ μ 0 8) ∧ r = -103 ∧ μ1 = μ) ∨ (rg_law μ (rg_sh (μ 1 4) (μ 1 5)) (μ 1 6) ∧ μ 0 8 < μ 0 7 * nI 10 ∧ r = nI (rg_cnt (μ 3) 12) ∧ μ1 = jm_set (jm_set (rg_tar μ 12) 0 8 (μ 0 8 + 1)) 0 9 (μ 0 9 + nI (rg_cnt (μ 3) 12)))
def oc_hours (μ : jm_Mem) (v r : Int32) (μ1 : jm_Mem) : Prop := (rg_nw v (nI 1) (nI 1000) ∧ r = -102 ∧ μ1 = μ) ∨ (rg_wi v (nI 1) (nI 1000) ∧ r = μ 0 7 ∧ μ1 = jm_set μ 0 7 v)
def oc_come (μ : jm_Mem) (v r : Int32) (μ1 : jm_Mem) : Prop := (rg_nw v 1 (nI 150) ∧ r = -102 ∧ μ1 = μ) ∨ (rg_wi v 1 (nI 150) ∧ ∃ nw, μ 22 1 = nI nw ∧ ((nw = 100 ∧ r = -104 ∧ μ1 = μ) ∨ (nw < 100 ∧ r = nI (nw + 1) ∧ μ1 = jm_set (jm_set μ 23 nw v) 22 1 (nI (nw + 1)))))
def oc_next (μ : jm_Mem) (r : Int32) (μ1 : jm_Mem) : Prop := (μ 22 1 = nI 0 ∧ r = -1 ∧ μ1 = μ) ∨ ∃ nw, nw < 100 ∧ μ 22 1 = nI (nw + 1) ∧ (((rg_bst (rg_okw μ (μ 23 0)) (fun j => rg_shw μ j (μ 23 0)) 12).1 = -1 ∧ r = -1 ∧ μ1 = μ) ∨ ∃ j, j < 12 ∧ rg_okw μ (μ 23 0) j = true ∧ (rg_bst (rg_okw μ (μ 23 0)) (fun j => rg_shw μ j (μ 23 0)) 12).1 = nI j ∧ r = nI j ∧ μ1 = jm_arr (jm_set (rg_add (jm_set μ 3 j (μ 23 0)) j (μ 23 0)) 22 1 (nI nw)) 23 (va_cpy (μ 23) (μ 23) 1 0 nw))
def oc_book (μ : jm_Mem) (v r : Int32) (μ1 : jm_Mem) : Prop := (rg_nw v (nI 0) 100000 ∧ r = -102 ∧ μ1 = μ) ∨ (rg_wi v (nI 0) 100000 ∧ r = μ 0 9 - v ∧ μ1 = jm_set μ 0 9 0)
def oc_count (μ : jm_Mem) (x r : Int32) : Prop := (x = nI 0 ∧ r = nI (rg_cnt (μ 2) 12)) ∨ (x = nI 1 ∧ r = nI (rg_cnt (μ 3) 12)) ∨ (x = nI 2 ∧ r = μ 22 1) ∨ (x = nI 3 ∧ r = μ 14 4) ∨ (x = nI 4 ∧ r = μ 0 8) ∨ (x = nI 5 ∧ r = μ 0 9) ∨ (x = nI 6 ∧ r = μ 1 7) ∨ (x = nI 7 ∧ r = μ 0 6) ∨ ((x < 0 ∨ nI 8 ≤ x) ∧ r = -102)
set_option maxHeartbeats 400000 in
theorem s_X6_horse {Ln : Nat} {xs : Nat → Int32} {μ : jm_Mem} {Q : Option Value → jm_Mem → Prop} {p w c : Int32} (hz : ∀ j, j < 12 → μ 2 j ≤ 0 → μ 10 j = nI 0) (h : ∀ r μ1, oc_horse μ p w c r μ1 → Q (some (.int r)) μ1) : gJ Ln xs 3 mX6_horse 0 (jm_en 4 [.ref 0, .int p, .int w, .int c]) [] μ Q := by
  show jm_J rg_I (rg_X Ln xs) 3 mX6_horse 0 [some (.ref 0), some (.int p), some (.int w), some (.int c)] [] μ Q
  refine jm_iload_n dX6_horse_0 rfl rfl rfl ?_
  refine jm_cS1 dX6_horse_1 rfl cb_X6_64 cs_X6_isPlace (Nat.le_of_ble_eq_true rfl) (Nat.le_of_ble_eq_true rfl) (by decide) (s_X6_isPlace (fun j hj e => ?_) (fun c0 => ?_))
  · subst e
    refine jm_if_ne (tgt := 10) dX6_horse_4 (by decide) rfl (fun c4 => ?_) (fun c4 => absurd c4 (by decide))
    refine jm_iload_n dX6_horse_10 rfl rfl rfl ?_
    refine jm_iconst (nI 1) dX6_horse_11 rfl (by decide) ?_
    refine jm_sipush (nI 200) dX6_horse_12 rfl (by decide) ?_
    refine jm_cS3 dX6_horse_15 rfl cb_X6_68 cs_X6_isWithin (Nat.le_of_ble_eq_true rfl) (Nat.le_of_ble_eq_true rfl) (by decide) (s_X6_isWithin (fun a15 b15 => ?_) (fun c15 => ?_))
    · refine jm_if_eq (tgt := 31) dX6_horse_18 (by decide) rfl (fun c18 => absurd c18 (by decide)) (fun c18 => ?_)
      refine jm_iload_n dX6_horse_21 rfl rfl rfl ?_
      refine jm_iconst (nI 0) dX6_horse_22 rfl (by decide) ?_
      refine jm_bipush (nI 99) dX6_horse_23 rfl (by decide) ?_
      refine jm_cS3 dX6_horse_25 rfl cb_X6_68 cs_X6_isWithin (Nat.le_of_ble_eq_true rfl) (Nat.le_of_ble_eq_true rfl) (by decide) (s_X6_isWithin (fun a25 b25 => ?_) (fun c25 => ?_))
      · refine jm_if_ne (tgt := 34) dX6_horse_28 (by decide) rfl (fun c28 => ?_) (fun c28 => absurd c28 (by decide))
        refine jm_aload_n dX6_horse_34 rfl rfl rfl ?_
        refine jm_getr dX6_horse_35 rfl fe_X6_12 rfl rfl rfl ?_
        refine jm_iload_n dX6_horse_38 rfl rfl rfl ?_
        refine jm_cV1 dX6_horse_39 rfl cb_X6_72 ci_X4_hasHorse cv_X4_hasHorse rfl rfl rfl (Nat.le_of_ble_eq_true rfl) (Nat.le_of_ble_eq_true rfl) (by decide) (s_X4_hasHorse_at hj (fun ch => ?_) (fun ch => ?_))
        · refine jm_if_eq (tgt := 48) dX6_horse_42 (by decide) rfl (fun c42 => absurd c42 (by decide)) (fun c42 => ?_)
          refine jm_bipush (-103) dX6_horse_45 rfl (by decide) ?_
          refine jm_iret dX6_horse_47 rfl rfl ?_
          refine h _ _ ?_
          first | exact Or.inl ⟨c0, rfl, rfl⟩ | exact Or.inr ⟨j, hj, rfl, Or.inl ⟨Or.inl c15, rfl, rfl⟩⟩ | exact Or.inr ⟨j, hj, rfl, Or.inl ⟨Or.inr c25, rfl, rfl⟩⟩ | exact Or.inr ⟨j, hj, rfl, Or.inr ⟨⟨a15, b15⟩, ⟨a25, b25⟩, Or.inl ⟨ch, rfl, rfl⟩⟩⟩ | exact Or.inr ⟨j, hj, rfl, Or.inr ⟨⟨a15, b15⟩, ⟨a25, b25⟩, Or.inr ⟨ch, by rw [jm_set_ne 2 (by decide), jm_set_ne 2 (by decide), rg_add_na (by decide)], rfl⟩⟩⟩ | fail "leaf"
        · refine jm_if_eq (tgt := 48) dX6_horse_42 (by decide) rfl (fun c42 => ?_) (fun c42 => absurd c42 (by decide))
          refine jm_aload_n dX6_horse_48 rfl rfl rfl ?_
          refine jm_getr dX6_horse_49 rfl fe_X6_12 rfl rfl rfl ?_
          refine jm_iload_n dX6_horse_52 rfl rfl rfl ?_
          refine jm_iload_n dX6_horse_53 rfl rfl rfl ?_
          refine jm_cV2 dX6_horse_54 rfl cb_X6_75 ci_X4_putHorse cv_X4_putHorse rfl rfl rfl (Nat.le_of_ble_eq_true rfl) (Nat.le_of_ble_eq_true rfl) (by decide) (s_X4_putHorse hj ?_)
          refine jm_aload_n dX6_horse_57 rfl rfl rfl ?_
          refine jm_getr dX6_horse_58 rfl fe_X6_26 rfl rfl rfl ?_
          refine jm_iload_n dX6_horse_61 rfl rfl rfl ?_
          refine jm_iload_n dX6_horse_62 rfl rfl rfl ?_
          refine jm_cV2 dX6_horse_63 rfl cb_X6_79 ci_X1_paintOver cv_X1_paintOver rfl rfl rfl (Nat.le_of_ble_eq_true rfl) (Nat.le_of_ble_eq_true rfl) (by decide) (s_X1_paintOver hj (m := 0) (by rw [rg_add_na (by decide), rd_na (by decide)]; exact hz j hj ch) (by decide) ?_)
          refine jm_aload_n dX6_horse_66 rfl rfl rfl ?_
          refine jm_getr dX6_horse_67 rfl fe_X6_12 rfl rfl rfl ?_
          refine jm_cV0 dX6_horse_70 rfl cb_X6_82 ci_X4_horsesStanding cv_X4_horsesStanding rfl rfl rfl (Nat.le_of_ble_eq_true rfl) (Nat.le_of_ble_eq_true rfl) (by decide) (s_X4_horsesStanding ?_)
          refine jm_iret dX6_horse_73 rfl rfl ?_
          refine h _ _ ?_
          first | exact Or.inl ⟨c0, rfl, rfl⟩ | exact Or.inr ⟨j, hj, rfl, Or.inl ⟨Or.inl c15, rfl, rfl⟩⟩ | exact Or.inr ⟨j, hj, rfl, Or.inl ⟨Or.inr c25, rfl, rfl⟩⟩ | exact Or.inr ⟨j, hj, rfl, Or.inr ⟨⟨a15, b15⟩, ⟨a25, b25⟩, Or.inl ⟨ch, rfl, rfl⟩⟩⟩ | exact Or.inr ⟨j, hj, rfl, Or.inr ⟨⟨a15, b15⟩, ⟨a25, b25⟩, Or.inr ⟨ch, by rw [jm_set_ne 2 (by decide), jm_set_ne 2 (by decide), rg_add_na (by decide)], rfl⟩⟩⟩ | fail "leaf"
      · refine jm_if_ne (tgt := 34) dX6_horse_28 (by decide) rfl (fun c28 => absurd c28 (by decide)) (fun c28 => ?_)
        refine jm_bipush (-102) dX6_horse_31 rfl (by decide) ?_
        refine jm_iret dX6_horse_33 rfl rfl ?_
        refine h _ _ ?_
        first | exact Or.inl ⟨c0, rfl, rfl⟩ | exact Or.inr ⟨j, hj, rfl, Or.inl ⟨Or.inl c15, rfl, rfl⟩⟩ | exact Or.inr ⟨j, hj, rfl, Or.inl ⟨Or.inr c25, rfl, rfl⟩⟩ | exact Or.inr ⟨j, hj, rfl, Or.inr ⟨⟨a15, b15⟩, ⟨a25, b25⟩, Or.inl ⟨ch, rfl, rfl⟩⟩⟩ | exact Or.inr ⟨j, hj, rfl, Or.inr ⟨⟨a15, b15⟩, ⟨a25, b25⟩, Or.inr ⟨ch, by rw [jm_set_ne 2 (by decide), jm_set_ne 2 (by decide), rg_add_na (by decide)], rfl⟩⟩⟩ | fail "leaf"
    · refine jm_if_eq (tgt := 31) dX6_horse_18 (by decide) rfl (fun c18 => ?_) (fun c18 => absurd c18 (by decide))
      refine jm_bipush (-102) dX6_horse_31 rfl (by decide) ?_
      refine jm_iret dX6_horse_33 rfl rfl ?_
      refine h _ _ ?_
      first | exact Or.inl ⟨c0, rfl, rfl⟩ | exact Or.inr ⟨j, hj, rfl, Or.inl ⟨Or.inl c15, rfl, rfl⟩⟩ | exact Or.inr ⟨j, hj, rfl, Or.inl ⟨Or.inr c25, rfl, rfl⟩⟩ | exact Or.inr ⟨j, hj, rfl, Or.inr ⟨⟨a15, b15⟩, ⟨a25, b25⟩, Or.inl ⟨ch, rfl, rfl⟩⟩⟩ | exact Or.inr ⟨j, hj, rfl, Or.inr ⟨⟨a15, b15⟩, ⟨a25, b25⟩, Or.inr ⟨ch, by rw [jm_set_ne 2 (by decide), jm_set_ne 2 (by decide), rg_add_na (by decide)], rfl⟩⟩⟩ | fail "leaf"
  · refine jm_if_ne (tgt := 10) dX6_horse_4 (by decide) rfl (fun c4 => absurd c4 (by decide)) (fun c4 => ?_)
    refine jm_bipush (-101) dX6_horse_7 rfl (by decide) ?_
    refine jm_iret dX6_horse_9 rfl rfl ?_
    refine h _ _ ?_
    first | exact Or.inl ⟨c0, rfl, rfl⟩ | exact Or.inr ⟨j, hj, rfl, Or.inl ⟨Or.inl c15, rfl, rfl⟩⟩ | exact Or.inr ⟨j, hj, rfl, Or.inl ⟨Or.inr c25, rfl, rfl⟩⟩ | exact Or.inr ⟨j, hj, rfl, Or.inr ⟨⟨a15, b15⟩, ⟨a25, b25⟩, Or.inl ⟨ch, rfl, rfl⟩⟩⟩ | exact Or.inr ⟨j, hj, rfl, Or.inr ⟨⟨a15, b15⟩, ⟨a25, b25⟩, Or.inr ⟨ch, by rw [jm_set_ne 2 (by decide), jm_set_ne 2 (by decide), rg_add_na (by decide)], rfl⟩⟩⟩ | fail "leaf"
set_option maxHeartbeats 400000 in
theorem s_X6_leave {Ln : Nat} {xs : Nat → Int32} {μ : jm_Mem} {Q : Option Value → jm_Mem → Prop} {p : Int32} (h : ∀ r μ1, oc_leave μ p r μ1 → Q (some (.int r)) μ1) : gJ Ln xs 3 mX6_leave 0 (jm_en 2 [.ref 0, .int p]) [] μ Q := by
  show jm_J rg_I (rg_X Ln xs) 3 mX6_leave 0 [some (.ref 0), some (.int p)] [] μ Q
  refine jm_aload_n dX6_leave_0 rfl rfl rfl ?_
  refine jm_getr dX6_leave_1 rfl fe_X6_12 rfl rfl rfl ?_
  refine jm_iload_n dX6_leave_4 rfl rfl rfl ?_
  refine jm_cV1 dX6_leave_5 rfl cb_X6_72 ci_X4_hasHorse cv_X4_hasHorse rfl rfl rfl (Nat.le_of_ble_eq_true rfl) (Nat.le_of_ble_eq_true rfl) (by decide) (s_X4_hasHorse (fun j hj e ch => ?_) (fun c0 => ?_) (fun j hj e ch => ?_))
  · subst e
    refine jm_if_ne (tgt := 14) dX6_leave_8 (by decide) rfl (fun c8 => ?_) (fun c8 => absurd c8 (by decide))
    refine jm_aload_n dX6_leave_14 rfl rfl rfl ?_
    refine jm_getr dX6_leave_15 rfl fe_X6_12 rfl rfl rfl ?_
    refine jm_iload_n dX6_leave_18 rfl rfl rfl ?_
    refine jm_cV1 dX6_leave_19 rfl cb_X6_86 ci_X4_hasRider cv_X4_hasRider rfl rfl rfl (Nat.le_of_ble_eq_true rfl) (Nat.le_of_ble_eq_true rfl) (by decide) (s_X4_hasRider_at hj (fun cr => ?_) (fun cr => ?_))
    · refine jm_if_ne (tgt := 36) dX6_leave_22 (by decide) rfl (fun c22 => ?_) (fun c22 => absurd c22 (by decide))
      refine jm_bipush (-103) dX6_leave_36 rfl (by decide) ?_
      refine jm_iret dX6_leave_38 rfl rfl ?_
      refine h _ _ ?_
      first | exact Or.inl ⟨Or.inl c0, rfl, rfl⟩ | exact Or.inl ⟨Or.inr ⟨j, hj, rfl, ch⟩, rfl, rfl⟩ | exact Or.inr ⟨j, hj, rfl, ch, Or.inl ⟨Or.inl cr, rfl, rfl⟩⟩ | exact Or.inr ⟨j, hj, rfl, ch, Or.inl ⟨Or.inr ⟨i, hi, ho⟩, rfl, rfl⟩⟩ | exact Or.inr ⟨j, hj, rfl, ch, Or.inr ⟨cr, ho, rfl, rfl⟩⟩ | fail "leaf"
    · refine jm_if_ne (tgt := 36) dX6_leave_22 (by decide) rfl (fun c22 => absurd c22 (by decide)) (fun c22 => ?_)
      refine jm_aload_n dX6_leave_25 rfl rfl rfl ?_
      refine jm_getr dX6_leave_26 rfl fe_X6_33 rfl rfl rfl ?_
      refine jm_iload_n dX6_leave_29 rfl rfl rfl ?_
      refine jm_cV1 dX6_leave_30 rfl cb_X6_89 ci_X3_areOwn cv_X3_areOwn rfl rfl rfl (Nat.le_of_ble_eq_true rfl) (Nat.le_of_ble_eq_true rfl) (by decide) (s_X3_areOwn hj (fun ho => ?_) (fun i hi ho => ?_))
      · refine jm_if_ne (tgt := 39) dX6_leave_33 (by decide) rfl (fun c33 => ?_) (fun c33 => absurd c33 (by decide))
        refine jm_aload_n dX6_leave_39 rfl rfl rfl ?_
        refine jm_getr dX6_leave_40 rfl fe_X6_26 rfl rfl rfl ?_
        refine jm_iload_n dX6_leave_43 rfl rfl rfl ?_
        refine jm_cV1 dX6_leave_44 rfl cb_X6_92 ci_X1_clear cv_X1_clear rfl rfl rfl (Nat.le_of_ble_eq_true rfl) (Nat.le_of_ble_eq_true rfl) (by decide) (s_X1_clear hj ?_)
        refine jm_aload_n dX6_leave_47 rfl rfl rfl ?_
        refine jm_getr dX6_leave_48 rfl fe_X6_12 rfl rfl rfl ?_
        refine jm_iload_n dX6_leave_51 rfl rfl rfl ?_
        refine jm_cV1 dX6_leave_52 rfl cb_X6_96 ci_X4_takeHorse cv_X4_takeHorse rfl rfl rfl (Nat.le_of_ble_eq_true rfl) (Nat.le_of_ble_eq_true rfl) (by decide) (s_X4_takeHorse hj ?_)
        refine jm_iret dX6_leave_55 rfl rfl ?_
        refine h _ _ ?_
        first | exact Or.inl ⟨Or.inl c0, rfl, rfl⟩ | exact Or.inl ⟨Or.inr ⟨j, hj, rfl, ch⟩, rfl, rfl⟩ | exact Or.inr ⟨j, hj, rfl, ch, Or.inl ⟨Or.inl cr, rfl, rfl⟩⟩ | exact Or.inr ⟨j, hj, rfl, ch, Or.inl ⟨Or.inr ⟨i, hi, ho⟩, rfl, rfl⟩⟩ | exact Or.inr ⟨j, hj, rfl, ch, Or.inr ⟨cr, ho, rfl, rfl⟩⟩ | fail "leaf"
      · refine jm_if_ne (tgt := 39) dX6_leave_33 (by decide) rfl (fun c33 => absurd c33 (by decide)) (fun c33 => ?_)
        refine jm_bipush (-103) dX6_leave_36 rfl (by decide) ?_
        refine jm_iret dX6_leave_38 rfl rfl ?_
        refine h _ _ ?_
        first | exact Or.inl ⟨Or.inl c0, rfl, rfl⟩ | exact Or.inl ⟨Or.inr ⟨j, hj, rfl, ch⟩, rfl, rfl⟩ | exact Or.inr ⟨j, hj, rfl, ch, Or.inl ⟨Or.inl cr, rfl, rfl⟩⟩ | exact Or.inr ⟨j, hj, rfl, ch, Or.inl ⟨Or.inr ⟨i, hi, ho⟩, rfl, rfl⟩⟩ | exact Or.inr ⟨j, hj, rfl, ch, Or.inr ⟨cr, ho, rfl, rfl⟩⟩ | fail "leaf"
  · refine jm_if_ne (tgt := 14) dX6_leave_8 (by decide) rfl (fun c8 => absurd c8 (by decide)) (fun c8 => ?_)
    refine jm_bipush (-101) dX6_leave_11 rfl (by decide) ?_
    refine jm_iret dX6_leave_13 rfl rfl ?_
    refine h _ _ ?_
    first | exact Or.inl ⟨Or.inl c0, rfl, rfl⟩ | exact Or.inl ⟨Or.inr ⟨j, hj, rfl, ch⟩, rfl, rfl⟩ | exact Or.inr ⟨j, hj, rfl, ch, Or.inl ⟨Or.inl cr, rfl, rfl⟩⟩ | exact Or.inr ⟨j, hj, rfl, ch, Or.inl ⟨Or.inr ⟨i, hi, ho⟩, rfl, rfl⟩⟩ | exact Or.inr ⟨j, hj, rfl, ch, Or.inr ⟨cr, ho, rfl, rfl⟩⟩ | fail "leaf"
  · subst e
    refine jm_if_ne (tgt := 14) dX6_leave_8 (by decide) rfl (fun c8 => absurd c8 (by decide)) (fun c8 => ?_)
    refine jm_bipush (-101) dX6_leave_11 rfl (by decide) ?_
    refine jm_iret dX6_leave_13 rfl rfl ?_
    refine h _ _ ?_
    first | exact Or.inl ⟨Or.inl c0, rfl, rfl⟩ | exact Or.inl ⟨Or.inr ⟨j, hj, rfl, ch⟩, rfl, rfl⟩ | exact Or.inr ⟨j, hj, rfl, ch, Or.inl ⟨Or.inl cr, rfl, rfl⟩⟩ | exact Or.inr ⟨j, hj, rfl, ch, Or.inl ⟨Or.inr ⟨i, hi, ho⟩, rfl, rfl⟩⟩ | exact Or.inr ⟨j, hj, rfl, ch, Or.inr ⟨cr, ho, rfl, rfl⟩⟩ | fail "leaf"
set_option maxHeartbeats 400000 in
theorem s_X6_sit {Ln : Nat} {xs : Nat → Int32} {μ : jm_Mem} {Q : Option Value → jm_Mem → Prop} {p w : Int32} (h : ∀ r μ1, oc_sit μ p w r μ1 → Q (some (.int r)) μ1) : gJ Ln xs 3 mX6_sit 0 (jm_en 3 [.ref 0, .int p, .int w]) [] μ Q := by
  show jm_J rg_I (rg_X Ln xs) 3 mX6_sit 0 [some (.ref 0), some (.int p), some (.int w)] [] μ Q
  refine jm_aload_n dX6_sit_0 rfl rfl rfl ?_
  refine jm_getr dX6_sit_1 rfl fe_X6_12 rfl rfl rfl ?_
  refine jm_iload_n dX6_sit_4 rfl rfl rfl ?_
  refine jm_cV1 dX6_sit_5 rfl cb_X6_72 ci_X4_hasHorse cv_X4_hasHorse rfl rfl rfl (Nat.le_of_ble_eq_true rfl) (Nat.le_of_ble_eq_true rfl) (by decide) (s_X4_hasHorse (fun j hj e ch => ?_) (fun c0 => ?_) (fun j hj e ch => ?_))
  · subst e
    refine jm_if_ne (tgt := 14) dX6_sit_8 (by decide) rfl (fun c8 => ?_) (fun c8 => absurd c8 (by decide))
    refine jm_iload_n dX6_sit_14 rfl rfl rfl ?_
    refine jm_cS1 dX6_sit_15 rfl cb_X6_100 cs_X6_isRiderWeight (Nat.le_of_ble_eq_true rfl) (Nat.le_of_ble_eq_true rfl) (by decide) (s_X6_isRiderWeight (fun a15 b15 => ?_) (fun c15 => ?_))
    · refine jm_if_ne (tgt := 24) dX6_sit_18 (by decide) rfl (fun c18 => ?_) (fun c18 => absurd c18 (by decide))
      refine jm_aload_n dX6_sit_24 rfl rfl rfl ?_
      refine jm_getr dX6_sit_25 rfl fe_X6_12 rfl rfl rfl ?_
      refine jm_iload_n dX6_sit_28 rfl rfl rfl ?_
      refine jm_cV1 dX6_sit_29 rfl cb_X6_86 ci_X4_hasRider cv_X4_hasRider rfl rfl rfl (Nat.le_of_ble_eq_true rfl) (Nat.le_of_ble_eq_true rfl) (by decide) (s_X4_hasRider_at hj (fun cr => ?_) (fun cr => ?_))
      · refine jm_if_ne (tgt := 47) dX6_sit_32 (by decide) rfl (fun c32 => ?_) (fun c32 => absurd c32 (by decide))
        refine jm_bipush (-103) dX6_sit_47 rfl (by decide) ?_
        refine jm_iret dX6_sit_49 rfl rfl ?_
        refine h _ _ ?_
        first | exact Or.inl ⟨Or.inl c0, rfl, rfl⟩ | exact Or.inl ⟨Or.inr ⟨j, hj, rfl, ch⟩, rfl, rfl⟩ | exact Or.inr ⟨j, hj, rfl, ch, Or.inl ⟨c15, rfl, rfl⟩⟩ | exact Or.inr ⟨j, hj, rfl, ch, Or.inr ⟨⟨a15, b15⟩, Or.inl ⟨Or.inl cr, rfl, rfl⟩⟩⟩ | exact Or.inr ⟨j, hj, rfl, ch, Or.inr ⟨⟨a15, b15⟩, Or.inl ⟨Or.inr cl, rfl, rfl⟩⟩⟩ | exact Or.inr ⟨j, hj, rfl, ch, Or.inr ⟨⟨a15, b15⟩, Or.inr ⟨cr, cl, rfl, rfl⟩⟩⟩ | fail "leaf"
      · refine jm_if_ne (tgt := 47) dX6_sit_32 (by decide) rfl (fun c32 => absurd c32 (by decide)) (fun c32 => ?_)
        refine jm_aload_n dX6_sit_35 rfl rfl rfl ?_
        refine jm_getr dX6_sit_36 rfl fe_X6_12 rfl rfl rfl ?_
        refine jm_iload_n dX6_sit_39 rfl rfl rfl ?_
        refine jm_iload_n dX6_sit_40 rfl rfl rfl ?_
        refine jm_cV2 dX6_sit_41 rfl cb_X6_103 ci_X4_mayTurnWith cv_X4_mayTurnWith rfl rfl rfl (Nat.le_of_ble_eq_true rfl) (Nat.le_of_ble_eq_true rfl) (by decide) (s_X4_mayTurnWith hj (fun cl => ?_) (fun cl => ?_))
        · refine jm_if_ne (tgt := 50) dX6_sit_44 (by decide) rfl (fun c44 => ?_) (fun c44 => absurd c44 (by decide))
          refine jm_aload_n dX6_sit_50 rfl rfl rfl ?_
          refine jm_getr dX6_sit_51 rfl fe_X6_12 rfl rfl rfl ?_
          refine jm_iload_n dX6_sit_54 rfl rfl rfl ?_
          refine jm_iload_n dX6_sit_55 rfl rfl rfl ?_
          refine jm_cV2 dX6_sit_56 rfl cb_X6_107 ci_X4_putRider cv_X4_putRider rfl rfl rfl (Nat.le_of_ble_eq_true rfl) (Nat.le_of_ble_eq_true rfl) (by decide) (s_X4_putRider hj ?_)
          refine jm_aload_n dX6_sit_59 rfl rfl rfl ?_
          refine jm_getr dX6_sit_60 rfl fe_X6_12 rfl rfl rfl ?_
          refine jm_cV0 dX6_sit_63 rfl cb_X6_110 ci_X4_shakeNow cv_X4_shakeNow rfl rfl rfl (Nat.le_of_ble_eq_true rfl) (Nat.le_of_ble_eq_true rfl) (by decide) (s_X4_shakeNow ?_)
          refine jm_iret dX6_sit_66 rfl rfl ?_
          refine h _ _ ?_
          first | exact Or.inl ⟨Or.inl c0, rfl, rfl⟩ | exact Or.inl ⟨Or.inr ⟨j, hj, rfl, ch⟩, rfl, rfl⟩ | exact Or.inr ⟨j, hj, rfl, ch, Or.inl ⟨c15, rfl, rfl⟩⟩ | exact Or.inr ⟨j, hj, rfl, ch, Or.inr ⟨⟨a15, b15⟩, Or.inl ⟨Or.inl cr, rfl, rfl⟩⟩⟩ | exact Or.inr ⟨j, hj, rfl, ch, Or.inr ⟨⟨a15, b15⟩, Or.inl ⟨Or.inr cl, rfl, rfl⟩⟩⟩ | exact Or.inr ⟨j, hj, rfl, ch, Or.inr ⟨⟨a15, b15⟩, Or.inr ⟨cr, cl, rfl, rfl⟩⟩⟩ | fail "leaf"
        · refine jm_if_ne (tgt := 50) dX6_sit_44 (by decide) rfl (fun c44 => absurd c44 (by decide)) (fun c44 => ?_)
          refine jm_bipush (-103) dX6_sit_47 rfl (by decide) ?_
          refine jm_iret dX6_sit_49 rfl rfl ?_
          refine h _ _ ?_
          first | exact Or.inl ⟨Or.inl c0, rfl, rfl⟩ | exact Or.inl ⟨Or.inr ⟨j, hj, rfl, ch⟩, rfl, rfl⟩ | exact Or.inr ⟨j, hj, rfl, ch, Or.inl ⟨c15, rfl, rfl⟩⟩ | exact Or.inr ⟨j, hj, rfl, ch, Or.inr ⟨⟨a15, b15⟩, Or.inl ⟨Or.inl cr, rfl, rfl⟩⟩⟩ | exact Or.inr ⟨j, hj, rfl, ch, Or.inr ⟨⟨a15, b15⟩, Or.inl ⟨Or.inr cl, rfl, rfl⟩⟩⟩ | exact Or.inr ⟨j, hj, rfl, ch, Or.inr ⟨⟨a15, b15⟩, Or.inr ⟨cr, cl, rfl, rfl⟩⟩⟩ | fail "leaf"
    · refine jm_if_ne (tgt := 24) dX6_sit_18 (by decide) rfl (fun c18 => absurd c18 (by decide)) (fun c18 => ?_)
      refine jm_bipush (-102) dX6_sit_21 rfl (by decide) ?_
      refine jm_iret dX6_sit_23 rfl rfl ?_
      refine h _ _ ?_
      first | exact Or.inl ⟨Or.inl c0, rfl, rfl⟩ | exact Or.inl ⟨Or.inr ⟨j, hj, rfl, ch⟩, rfl, rfl⟩ | exact Or.inr ⟨j, hj, rfl, ch, Or.inl ⟨c15, rfl, rfl⟩⟩ | exact Or.inr ⟨j, hj, rfl, ch, Or.inr ⟨⟨a15, b15⟩, Or.inl ⟨Or.inl cr, rfl, rfl⟩⟩⟩ | exact Or.inr ⟨j, hj, rfl, ch, Or.inr ⟨⟨a15, b15⟩, Or.inl ⟨Or.inr cl, rfl, rfl⟩⟩⟩ | exact Or.inr ⟨j, hj, rfl, ch, Or.inr ⟨⟨a15, b15⟩, Or.inr ⟨cr, cl, rfl, rfl⟩⟩⟩ | fail "leaf"
  · refine jm_if_ne (tgt := 14) dX6_sit_8 (by decide) rfl (fun c8 => absurd c8 (by decide)) (fun c8 => ?_)
    refine jm_bipush (-101) dX6_sit_11 rfl (by decide) ?_
    refine jm_iret dX6_sit_13 rfl rfl ?_
    refine h _ _ ?_
    first | exact Or.inl ⟨Or.inl c0, rfl, rfl⟩ | exact Or.inl ⟨Or.inr ⟨j, hj, rfl, ch⟩, rfl, rfl⟩ | exact Or.inr ⟨j, hj, rfl, ch, Or.inl ⟨c15, rfl, rfl⟩⟩ | exact Or.inr ⟨j, hj, rfl, ch, Or.inr ⟨⟨a15, b15⟩, Or.inl ⟨Or.inl cr, rfl, rfl⟩⟩⟩ | exact Or.inr ⟨j, hj, rfl, ch, Or.inr ⟨⟨a15, b15⟩, Or.inl ⟨Or.inr cl, rfl, rfl⟩⟩⟩ | exact Or.inr ⟨j, hj, rfl, ch, Or.inr ⟨⟨a15, b15⟩, Or.inr ⟨cr, cl, rfl, rfl⟩⟩⟩ | fail "leaf"
  · subst e
    refine jm_if_ne (tgt := 14) dX6_sit_8 (by decide) rfl (fun c8 => absurd c8 (by decide)) (fun c8 => ?_)
    refine jm_bipush (-101) dX6_sit_11 rfl (by decide) ?_
    refine jm_iret dX6_sit_13 rfl rfl ?_
    refine h _ _ ?_
    first | exact Or.inl ⟨Or.inl c0, rfl, rfl⟩ | exact Or.inl ⟨Or.inr ⟨j, hj, rfl, ch⟩, rfl, rfl⟩ | exact Or.inr ⟨j, hj, rfl, ch, Or.inl ⟨c15, rfl, rfl⟩⟩ | exact Or.inr ⟨j, hj, rfl, ch, Or.inr ⟨⟨a15, b15⟩, Or.inl ⟨Or.inl cr, rfl, rfl⟩⟩⟩ | exact Or.inr ⟨j, hj, rfl, ch, Or.inr ⟨⟨a15, b15⟩, Or.inl ⟨Or.inr cl, rfl, rfl⟩⟩⟩ | exact Or.inr ⟨j, hj, rfl, ch, Or.inr ⟨⟨a15, b15⟩, Or.inr ⟨cr, cl, rfl, rfl⟩⟩⟩ | fail "leaf"
set_option maxHeartbeats 400000 in
theorem s_X6_rise {Ln : Nat} {xs : Nat → Int32} {μ : jm_Mem} {Q : Option Value → jm_Mem → Prop} {p : Int32} (h : ∀ r μ1, oc_rise μ p r μ1 → Q (some (.int r)) μ1) : gJ Ln xs 3 mX6_rise 0 (jm_en 2 [.ref 0, .int p]) [] μ Q := by
  show jm_J rg_I (rg_X Ln xs) 3 mX6_rise 0 [some (.ref 0), some (.int p)] [] μ Q
  refine jm_aload_n dX6_rise_0 rfl rfl rfl ?_
  refine jm_getr dX6_rise_1 rfl fe_X6_12 rfl rfl rfl ?_
  refine jm_iload_n dX6_rise_4 rfl rfl rfl ?_
  refine jm_cV1 dX6_rise_5 rfl cb_X6_72 ci_X4_hasHorse cv_X4_hasHorse rfl rfl rfl (Nat.le_of_ble_eq_true rfl) (Nat.le_of_ble_eq_true rfl) (by decide) (s_X4_hasHorse (fun j hj e ch => ?_) (fun c0 => ?_) (fun j hj e ch => ?_))
  · subst e
    refine jm_if_ne (tgt := 14) dX6_rise_8 (by decide) rfl (fun c8 => ?_) (fun c8 => absurd c8 (by decide))
    refine jm_aload_n dX6_rise_14 rfl rfl rfl ?_
    refine jm_getr dX6_rise_15 rfl fe_X6_12 rfl rfl rfl ?_
    refine jm_iload_n dX6_rise_18 rfl rfl rfl ?_
    refine jm_cV1 dX6_rise_19 rfl cb_X6_86 ci_X4_hasRider cv_X4_hasRider rfl rfl rfl (Nat.le_of_ble_eq_true rfl) (Nat.le_of_ble_eq_true rfl) (by decide) (s_X4_hasRider_at hj (fun cr => ?_) (fun cr => ?_))
    · refine jm_if_ne (tgt := 28) dX6_rise_22 (by decide) rfl (fun c22 => ?_) (fun c22 => absurd c22 (by decide))
      refine jm_aload_n dX6_rise_28 rfl rfl rfl ?_
      refine jm_getr dX6_rise_29 rfl fe_X6_12 rfl rfl rfl ?_
      refine jm_iload_n dX6_rise_32 rfl rfl rfl ?_
      refine jm_cV1 dX6_rise_33 rfl cb_X6_113 ci_X4_takeRider cv_X4_takeRider rfl rfl rfl (Nat.le_of_ble_eq_true rfl) (Nat.le_of_ble_eq_true rfl) (by decide) (s_X4_takeRider hj ?_)
      refine jm_iret dX6_rise_36 rfl rfl ?_
      refine h _ _ ?_
      first | exact Or.inl ⟨Or.inl c0, rfl, rfl⟩ | exact Or.inl ⟨Or.inr ⟨j, hj, rfl, ch⟩, rfl, rfl⟩ | exact Or.inr ⟨j, hj, rfl, ch, Or.inl ⟨cr, rfl, rfl⟩⟩ | exact Or.inr ⟨j, hj, rfl, ch, Or.inr ⟨cr, rfl, rfl⟩⟩ | fail "leaf"
    · refine jm_if_ne (tgt := 28) dX6_rise_22 (by decide) rfl (fun c22 => absurd c22 (by decide)) (fun c22 => ?_)
      refine jm_bipush (-103) dX6_rise_25 rfl (by decide) ?_
      refine jm_iret dX6_rise_27 rfl rfl ?_
      refine h _ _ ?_
      first | exact Or.inl ⟨Or.inl c0, rfl, rfl⟩ | exact Or.inl ⟨Or.inr ⟨j, hj, rfl, ch⟩, rfl, rfl⟩ | exact Or.inr ⟨j, hj, rfl, ch, Or.inl ⟨cr, rfl, rfl⟩⟩ | exact Or.inr ⟨j, hj, rfl, ch, Or.inr ⟨cr, rfl, rfl⟩⟩ | fail "leaf"
  · refine jm_if_ne (tgt := 14) dX6_rise_8 (by decide) rfl (fun c8 => absurd c8 (by decide)) (fun c8 => ?_)
    refine jm_bipush (-101) dX6_rise_11 rfl (by decide) ?_
    refine jm_iret dX6_rise_13 rfl rfl ?_
    refine h _ _ ?_
    first | exact Or.inl ⟨Or.inl c0, rfl, rfl⟩ | exact Or.inl ⟨Or.inr ⟨j, hj, rfl, ch⟩, rfl, rfl⟩ | exact Or.inr ⟨j, hj, rfl, ch, Or.inl ⟨cr, rfl, rfl⟩⟩ | exact Or.inr ⟨j, hj, rfl, ch, Or.inr ⟨cr, rfl, rfl⟩⟩ | fail "leaf"
  · subst e
    refine jm_if_ne (tgt := 14) dX6_rise_8 (by decide) rfl (fun c8 => absurd c8 (by decide)) (fun c8 => ?_)
    refine jm_bipush (-101) dX6_rise_11 rfl (by decide) ?_
    refine jm_iret dX6_rise_13 rfl rfl ?_
    refine h _ _ ?_
    first | exact Or.inl ⟨Or.inl c0, rfl, rfl⟩ | exact Or.inl ⟨Or.inr ⟨j, hj, rfl, ch⟩, rfl, rfl⟩ | exact Or.inr ⟨j, hj, rfl, ch, Or.inl ⟨cr, rfl, rfl⟩⟩ | exact Or.inr ⟨j, hj, rfl, ch, Or.inr ⟨cr, rfl, rfl⟩⟩ | fail "leaf"
set_option maxHeartbeats 400000 in
theorem s_X6_shake {Ln : Nat} {xs : Nat → Int32} {μ : jm_Mem} {Q : Option Value → jm_Mem → Prop}  (h : Q (some (.int (rg_sh (μ 1 4) (μ 1 5)))) μ) : gJ Ln xs 2 mX6_shake 0 (jm_en 1 [.ref 0]) [] μ Q := by
  show jm_J rg_I (rg_X Ln xs) 2 mX6_shake 0 [some (.ref 0)] [] μ Q
  refine jm_aload_n dX6_shake_0 rfl rfl rfl ?_
  refine jm_getr dX6_shake_1 rfl fe_X6_12 rfl rfl rfl ?_
  refine jm_cV0 dX6_shake_4 rfl cb_X6_110 ci_X4_shakeNow cv_X4_shakeNow rfl rfl rfl (Nat.le_of_ble_eq_true rfl) (Nat.le_of_ble_eq_true rfl) (by decide) (s_X4_shakeNow ?_)
  refine jm_iret dX6_shake_7 rfl rfl ?_
  exact h
set_option maxHeartbeats 400000 in
theorem s_X6_rising {Ln : Nat} {xs : Nat → Int32} {μ : jm_Mem} {Q : Option Value → jm_Mem → Prop}  (h : Q (some (.int (μ 1 6))) μ) : gJ Ln xs 0 mX6_rising 0 (jm_en 1 [.ref 0]) [] μ Q := by
  show jm_J rg_I (rg_X Ln xs) 0 mX6_rising 0 [some (.ref 0)] [] μ Q
  refine jm_aload_n dX6_rising_0 rfl rfl rfl ?_
  refine jm_getr dX6_rising_1 rfl fe_X6_12 rfl rfl rfl ?_
  refine jm_geti dX6_rising_4 rfl fe_X6_116 rfl rfl rfl ?_
  refine jm_iret dX6_rising_7 rfl rfl ?_
  exact h
set_option maxHeartbeats 400000 in
theorem s_X6_may {Ln : Nat} {xs : Nat → Int32} {μ : jm_Mem} {Q : Option Value → jm_Mem → Prop}  (h : ∀ r, oc_may μ  r → Q (some (.int r)) μ) : gJ Ln xs 3 mX6_may 0 (jm_en 1 [.ref 0]) [] μ Q := by
  show jm_J rg_I (rg_X Ln xs) 3 mX6_may 0 [some (.ref 0)] [] μ Q
  refine jm_aload_n dX6_may_0 rfl rfl rfl ?_
  refine jm_getr dX6_may_1 rfl fe_X6_12 rfl rfl rfl ?_
  refine jm_cV0 dX6_may_4 rfl cb_X6_119 ci_X4_mayTurn cv_X4_mayTurn rfl rfl rfl (Nat.le_of_ble_eq_true rfl) (Nat.le_of_ble_eq_true rfl) (by decide) (s_X4_mayTurn (fun cl => ?_) (fun cl => ?_))
  · refine jm_if_eq (tgt := 14) dX6_may_7 (by decide) rfl (fun c7 => absurd c7 (by decide)) (fun c7 => ?_)
    refine jm_iconst (nI 1) dX6_may_10 rfl (by decide) ?_
    refine jm_goto (n := 15) dX6_may_11 (by decide) ?_
    refine jm_iret dX6_may_15 rfl rfl ?_
    refine h _ ?_
    first | exact Or.inl ⟨cl, rfl⟩ | exact Or.inr ⟨cl, rfl⟩ | fail "leaf"
  · refine jm_if_eq (tgt := 14) dX6_may_7 (by decide) rfl (fun c7 => ?_) (fun c7 => absurd c7 (by decide))
    refine jm_iconst (nI 0) dX6_may_14 rfl (by decide) ?_
    refine jm_iret dX6_may_15 rfl rfl ?_
    refine h _ ?_
    first | exact Or.inl ⟨cl, rfl⟩ | exact Or.inr ⟨cl, rfl⟩ | fail "leaf"
set_option maxHeartbeats 400000 in
theorem s_X6_lawOfShaking {Ln : Nat} {xs : Nat → Int32} {μ : jm_Mem} {Q : Option Value → jm_Mem → Prop} {v : Int32} (h1 : rg_wi v (nI 0) (nI 30000) → Q (some (.int (μ 1 2))) (jm_set μ 1 2 v)) (h0 : rg_nw v (nI 0) (nI 30000) → Q (some (.int (-102))) μ) : gJ Ln xs 1 mX6_lawOfShaking 0 (jm_en 3 [.ref 0, .int v]) [] μ Q := by
  show jm_J rg_I (rg_X Ln xs) 1 mX6_lawOfShaking 0 [some (.ref 0), some (.int v), none] [] μ Q
  refine jm_iload_n dX6_lawOfShaking_0 rfl rfl rfl ?_
  refine jm_iconst (nI 0) dX6_lawOfShaking_1 rfl (by decide) ?_
  refine jm_sipush (nI 30000) dX6_lawOfShaking_2 rfl (by decide) ?_
  refine jm_cS3 dX6_lawOfShaking_5 rfl cb_X6_68 cs_X6_isWithin (Nat.le_of_ble_eq_true rfl) (Nat.le_of_ble_eq_true rfl) (by decide) (s_X6_isWithin (fun a5 b5 => ?_) (fun c5 => ?_))
  · refine jm_if_ne (tgt := 14) dX6_lawOfShaking_8 (by decide) rfl (fun c8 => ?_) (fun c8 => absurd c8 (by decide))
    refine jm_aload_n dX6_lawOfShaking_14 rfl rfl rfl ?_
    refine jm_getr dX6_lawOfShaking_15 rfl fe_X6_12 rfl rfl rfl ?_
    refine jm_geti dX6_lawOfShaking_18 rfl fe_X6_242 rfl rfl rfl ?_
    refine jm_istore_n dX6_lawOfShaking_21 rfl rfl rfl rfl ?_
    dsimp only [List.set]
    refine jm_aload_n dX6_lawOfShaking_22 rfl rfl rfl ?_
    refine jm_getr dX6_lawOfShaking_23 rfl fe_X6_12 rfl rfl rfl ?_
    refine jm_iload_n dX6_lawOfShaking_26 rfl rfl rfl ?_
    refine jm_puti dX6_lawOfShaking_27 rfl pe_X6_242 rfl rfl rfl ?_
    refine jm_iload_n dX6_lawOfShaking_30 rfl rfl rfl ?_
    refine jm_iret dX6_lawOfShaking_31 rfl rfl ?_
    first | exact h0 c5 | exact h1 ⟨a5, b5⟩ | fail "leaf"
  · refine jm_if_ne (tgt := 14) dX6_lawOfShaking_8 (by decide) rfl (fun c8 => absurd c8 (by decide)) (fun c8 => ?_)
    refine jm_bipush (-102) dX6_lawOfShaking_11 rfl (by decide) ?_
    refine jm_iret dX6_lawOfShaking_13 rfl rfl ?_
    first | exact h0 c5 | exact h1 ⟨a5, b5⟩ | fail "leaf"
set_option maxHeartbeats 400000 in
theorem s_X6_lawOfLift {Ln : Nat} {xs : Nat → Int32} {μ : jm_Mem} {Q : Option Value → jm_Mem → Prop} {v : Int32} (h1 : rg_wi v (nI 0) (nI 5000) → Q (some (.int (μ 1 3))) (jm_set μ 1 3 v)) (h0 : rg_nw v (nI 0) (nI 5000) → Q (some (.int (-102))) μ) : gJ Ln xs 1 mX6_lawOfLift 0 (jm_en 3 [.ref 0, .int v]) [] μ Q := by
  show jm_J rg_I (rg_X Ln xs) 1 mX6_lawOfLift 0 [some (.ref 0), some (.int v), none] [] μ Q
  refine jm_iload_n dX6_lawOfLift_0 rfl rfl rfl ?_
  refine jm_iconst (nI 0) dX6_lawOfLift_1 rfl (by decide) ?_
  refine jm_sipush (nI 5000) dX6_lawOfLift_2 rfl (by decide) ?_
  refine jm_cS3 dX6_lawOfLift_5 rfl cb_X6_68 cs_X6_isWithin (Nat.le_of_ble_eq_true rfl) (Nat.le_of_ble_eq_true rfl) (by decide) (s_X6_isWithin (fun a5 b5 => ?_) (fun c5 => ?_))
  · refine jm_if_ne (tgt := 14) dX6_lawOfLift_8 (by decide) rfl (fun c8 => ?_) (fun c8 => absurd c8 (by decide))
    refine jm_aload_n dX6_lawOfLift_14 rfl rfl rfl ?_
    refine jm_getr dX6_lawOfLift_15 rfl fe_X6_12 rfl rfl rfl ?_
    refine jm_geti dX6_lawOfLift_18 rfl fe_X6_248 rfl rfl rfl ?_
    refine jm_istore_n dX6_lawOfLift_21 rfl rfl rfl rfl ?_
    dsimp only [List.set]
    refine jm_aload_n dX6_lawOfLift_22 rfl rfl rfl ?_
    refine jm_getr dX6_lawOfLift_23 rfl fe_X6_12 rfl rfl rfl ?_
    refine jm_iload_n dX6_lawOfLift_26 rfl rfl rfl ?_
    refine jm_puti dX6_lawOfLift_27 rfl pe_X6_248 rfl rfl rfl ?_
    refine jm_iload_n dX6_lawOfLift_30 rfl rfl rfl ?_
    refine jm_iret dX6_lawOfLift_31 rfl rfl ?_
    first | exact h0 c5 | exact h1 ⟨a5, b5⟩ | fail "leaf"
  · refine jm_if_ne (tgt := 14) dX6_lawOfLift_8 (by decide) rfl (fun c8 => absurd c8 (by decide)) (fun c8 => ?_)
    refine jm_bipush (-102) dX6_lawOfLift_11 rfl (by decide) ?_
    refine jm_iret dX6_lawOfLift_13 rfl rfl ?_
    first | exact h0 c5 | exact h1 ⟨a5, b5⟩ | fail "leaf"
set_option maxHeartbeats 400000 in
theorem s_X6_law {Ln : Nat} {xs : Nat → Int32} {μ : jm_Mem} {Q : Option Value → jm_Mem → Prop} {x v : Int32} (h : ∀ r μ1, oc_law μ x v r μ1 → Q (some (.int r)) μ1) : gJ Ln xs 2 mX6_law 0 (jm_en 3 [.ref 0, .int x, .int v]) [] μ Q := by
  show jm_J rg_I (rg_X Ln xs) 2 mX6_law 0 [some (.ref 0), some (.int x), some (.int v)] [] μ Q
  refine jm_iload_n dX6_law_0 rfl rfl rfl ?_
  refine jm_if_ne (tgt := 10) dX6_law_1 (by decide) rfl (fun c1 => ?_) (fun c1 => ?_)
  · refine jm_iload_n dX6_law_10 rfl rfl rfl ?_
    refine jm_iconst (nI 1) dX6_law_11 rfl (by decide) ?_
    refine jm_icmp_ne (tgt := 21) dX6_law_12 (by decide) rfl (fun c12 => ?_) (fun c12 => ?_)
    · refine jm_bipush (-101) dX6_law_21 rfl (by decide) ?_
      refine jm_iret dX6_law_23 rfl rfl ?_
      refine h _ _ ?_
      first | exact Or.inl ⟨c1, Or.inl ⟨cw, rfl, rfl⟩⟩ | exact Or.inl ⟨c1, Or.inr ⟨cw, rfl, rfl⟩⟩ | exact Or.inr (Or.inl ⟨c12, Or.inl ⟨cw, rfl, rfl⟩⟩) | exact Or.inr (Or.inl ⟨c12, Or.inr ⟨cw, rfl, rfl⟩⟩) | exact Or.inr (Or.inr ⟨c1, c12, rfl, rfl⟩) | fail "leaf"
    · refine jm_aload_n dX6_law_15 rfl rfl rfl ?_
      refine jm_iload_n dX6_law_16 rfl rfl rfl ?_
      refine jm_cV1 dX6_law_17 rfl cb_X6_126 ci_X6_lawOfLift cv_X6_lawOfLift rfl rfl rfl (Nat.le_of_ble_eq_true rfl) (Nat.le_of_ble_eq_true rfl) (by decide) (s_X6_lawOfLift (fun cw => ?_) (fun cw => ?_))
      · refine jm_iret dX6_law_20 rfl rfl ?_
        refine h _ _ ?_
        first | exact Or.inl ⟨c1, Or.inl ⟨cw, rfl, rfl⟩⟩ | exact Or.inl ⟨c1, Or.inr ⟨cw, rfl, rfl⟩⟩ | exact Or.inr (Or.inl ⟨c12, Or.inl ⟨cw, rfl, rfl⟩⟩) | exact Or.inr (Or.inl ⟨c12, Or.inr ⟨cw, rfl, rfl⟩⟩) | exact Or.inr (Or.inr ⟨c1, c12, rfl, rfl⟩) | fail "leaf"
      · refine jm_iret dX6_law_20 rfl rfl ?_
        refine h _ _ ?_
        first | exact Or.inl ⟨c1, Or.inl ⟨cw, rfl, rfl⟩⟩ | exact Or.inl ⟨c1, Or.inr ⟨cw, rfl, rfl⟩⟩ | exact Or.inr (Or.inl ⟨c12, Or.inl ⟨cw, rfl, rfl⟩⟩) | exact Or.inr (Or.inl ⟨c12, Or.inr ⟨cw, rfl, rfl⟩⟩) | exact Or.inr (Or.inr ⟨c1, c12, rfl, rfl⟩) | fail "leaf"
  · refine jm_aload_n dX6_law_4 rfl rfl rfl ?_
    refine jm_iload_n dX6_law_5 rfl rfl rfl ?_
    refine jm_cV1 dX6_law_6 rfl cb_X6_123 ci_X6_lawOfShaking cv_X6_lawOfShaking rfl rfl rfl (Nat.le_of_ble_eq_true rfl) (Nat.le_of_ble_eq_true rfl) (by decide) (s_X6_lawOfShaking (fun cw => ?_) (fun cw => ?_))
    · refine jm_iret dX6_law_9 rfl rfl ?_
      refine h _ _ ?_
      first | exact Or.inl ⟨c1, Or.inl ⟨cw, rfl, rfl⟩⟩ | exact Or.inl ⟨c1, Or.inr ⟨cw, rfl, rfl⟩⟩ | exact Or.inr (Or.inl ⟨c12, Or.inl ⟨cw, rfl, rfl⟩⟩) | exact Or.inr (Or.inl ⟨c12, Or.inr ⟨cw, rfl, rfl⟩⟩) | exact Or.inr (Or.inr ⟨c1, c12, rfl, rfl⟩) | fail "leaf"
    · refine jm_iret dX6_law_9 rfl rfl ?_
      refine h _ _ ?_
      first | exact Or.inl ⟨c1, Or.inl ⟨cw, rfl, rfl⟩⟩ | exact Or.inl ⟨c1, Or.inr ⟨cw, rfl, rfl⟩⟩ | exact Or.inr (Or.inl ⟨c12, Or.inl ⟨cw, rfl, rfl⟩⟩) | exact Or.inr (Or.inl ⟨c12, Or.inr ⟨cw, rfl, rfl⟩⟩) | exact Or.inr (Or.inr ⟨c1, c12, rfl, rfl⟩) | fail "leaf"
set_option maxHeartbeats 400000 in
theorem s_X6_best {Ln : Nat} {xs : Nat → Int32} {μ : jm_Mem} {Q : Option Value → jm_Mem → Prop} {w : Int32} (h : ∀ r, oc_best μ w r → Q (some (.int r)) μ) : gJ Ln xs 4 mX6_best 0 (jm_en 2 [.ref 0, .int w]) [] μ Q := by
  show jm_J rg_I (rg_X Ln xs) 4 mX6_best 0 [some (.ref 0), some (.int w)] [] μ Q
  refine jm_iload_n dX6_best_0 rfl rfl rfl ?_
  refine jm_cS1 dX6_best_1 rfl cb_X6_100 cs_X6_isRiderWeight (Nat.le_of_ble_eq_true rfl) (Nat.le_of_ble_eq_true rfl) (by decide) (s_X6_isRiderWeight (fun a1 b1 => ?_) (fun c1 => ?_))
  · refine jm_if_eq (tgt := 18) dX6_best_4 (by decide) rfl (fun c4 => absurd c4 (by decide)) (fun c4 => ?_)
    refine jm_aload_n dX6_best_7 rfl rfl rfl ?_
    refine jm_getr dX6_best_8 rfl fe_X6_12 rfl rfl rfl ?_
    refine jm_iload_n dX6_best_11 rfl rfl rfl ?_
    refine jm_cV1 dX6_best_12 rfl cb_X6_129 ci_X4_bestHorse cv_X4_bestHorse rfl rfl rfl (Nat.le_of_ble_eq_true rfl) (Nat.le_of_ble_eq_true rfl) (by decide) (s_X4_bestHorse ?_)
    refine jm_goto (n := 20) dX6_best_15 (by decide) ?_
    refine jm_iret dX6_best_20 rfl rfl ?_
    refine h _ ?_
    first | exact Or.inl ⟨c1, rfl⟩ | exact Or.inr ⟨⟨a1, b1⟩, rfl⟩ | fail "leaf"
  · refine jm_if_eq (tgt := 18) dX6_best_4 (by decide) rfl (fun c4 => ?_) (fun c4 => absurd c4 (by decide))
    refine jm_bipush (-102) dX6_best_18 rfl (by decide) ?_
    refine jm_iret dX6_best_20 rfl rfl ?_
    refine h _ ?_
    first | exact Or.inl ⟨c1, rfl⟩ | exact Or.inr ⟨⟨a1, b1⟩, rfl⟩ | fail "leaf"
set_option maxHeartbeats 400000 in
theorem s_X6_rider {Ln : Nat} {xs : Nat → Int32} {μ : jm_Mem} {Q : Option Value → jm_Mem → Prop} {p : Int32} (h : ∀ r, oc_rider μ p r → Q (some (.int r)) μ) : gJ Ln xs 1 mX6_rider 0 (jm_en 2 [.ref 0, .int p]) [] μ Q := by
  show jm_J rg_I (rg_X Ln xs) 1 mX6_rider 0 [some (.ref 0), some (.int p)] [] μ Q
  refine jm_iload_n dX6_rider_0 rfl rfl rfl ?_
  refine jm_cS1 dX6_rider_1 rfl cb_X6_64 cs_X6_isPlace (Nat.le_of_ble_eq_true rfl) (Nat.le_of_ble_eq_true rfl) (by decide) (s_X6_isPlace (fun j hj e => ?_) (fun c0 => ?_))
  · subst e
    refine jm_if_eq (tgt := 19) dX6_rider_4 (by decide) rfl (fun c4 => absurd c4 (by decide)) (fun c4 => ?_)
    refine jm_aload_n dX6_rider_7 rfl rfl rfl ?_
    refine jm_getr dX6_rider_8 rfl fe_X6_12 rfl rfl rfl ?_
    refine jm_getr dX6_rider_11 rfl fe_X6_147 rfl rfl rfl ?_
    refine jm_iload_n dX6_rider_14 rfl rfl rfl ?_
    refine jm_iald dX6_rider_15 rfl rfl rfl (by decide) rfl (by first | assumption | omega) ?_
    refine jm_goto (n := 21) dX6_rider_16 (by decide) ?_
    refine jm_iret dX6_rider_21 rfl rfl ?_
    refine h _ ?_
    first | exact Or.inl ⟨c0, rfl⟩ | exact Or.inr ⟨j, hj, rfl, rfl⟩ | fail "leaf"
  · refine jm_if_eq (tgt := 19) dX6_rider_4 (by decide) rfl (fun c4 => ?_) (fun c4 => absurd c4 (by decide))
    refine jm_bipush (-101) dX6_rider_19 rfl (by decide) ?_
    refine jm_iret dX6_rider_21 rfl rfl ?_
    refine h _ ?_
    first | exact Or.inl ⟨c0, rfl⟩ | exact Or.inr ⟨j, hj, rfl, rfl⟩ | fail "leaf"
set_option maxHeartbeats 400000 in
theorem s_X6_coat {Ln : Nat} {xs : Nat → Int32} {μ : jm_Mem} {Q : Option Value → jm_Mem → Prop} {p c : Int32} (hm : ∀ j, j < 12 → ¬ μ 2 j ≤ 0 → ∃ m, m ≤ 8 ∧ μ 10 j = nI m) (h : ∀ r μ1, oc_coat μ p c r μ1 → Q (some (.int r)) μ1) : gJ Ln xs 2 mX6_coat 0 (jm_en 3 [.ref 0, .int p, .int c]) [] μ Q := by
  show jm_J rg_I (rg_X Ln xs) 2 mX6_coat 0 [some (.ref 0), some (.int p), some (.int c)] [] μ Q
  refine jm_aload_n dX6_coat_0 rfl rfl rfl ?_
  refine jm_getr dX6_coat_1 rfl fe_X6_12 rfl rfl rfl ?_
  refine jm_iload_n dX6_coat_4 rfl rfl rfl ?_
  refine jm_cV1 dX6_coat_5 rfl cb_X6_72 ci_X4_hasHorse cv_X4_hasHorse rfl rfl rfl (Nat.le_of_ble_eq_true rfl) (Nat.le_of_ble_eq_true rfl) (by decide) (s_X4_hasHorse (fun j hj e ch => ?_) (fun c0 => ?_) (fun j hj e ch => ?_))
  · subst e
    obtain ⟨m, h8, em⟩ := hm j hj ch
    refine jm_if_ne (tgt := 14) dX6_coat_8 (by decide) rfl (fun c8 => ?_) (fun c8 => absurd c8 (by decide))
    refine jm_iload_n dX6_coat_14 rfl rfl rfl ?_
    refine jm_iconst (nI 0) dX6_coat_15 rfl (by decide) ?_
    refine jm_bipush (nI 99) dX6_coat_16 rfl (by decide) ?_
    refine jm_cS3 dX6_coat_18 rfl cb_X6_68 cs_X6_isWithin (Nat.le_of_ble_eq_true rfl) (Nat.le_of_ble_eq_true rfl) (by decide) (s_X6_isWithin (fun a18 b18 => ?_) (fun c18 => ?_))
    · refine jm_if_ne (tgt := 27) dX6_coat_21 (by decide) rfl (fun c21 => ?_) (fun c21 => absurd c21 (by decide))
      refine jm_aload_n dX6_coat_27 rfl rfl rfl ?_
      refine jm_getr dX6_coat_28 rfl fe_X6_26 rfl rfl rfl ?_
      refine jm_getr dX6_coat_31 rfl fe_X6_151 rfl rfl rfl ?_
      refine jm_iload_n dX6_coat_34 rfl rfl rfl ?_
      refine jm_iald dX6_coat_35 rfl rfl rfl (by decide) rfl (by first | assumption | omega) ?_
      refine jm_bipush (nI 8) dX6_coat_36 rfl (by decide) ?_
      refine jm_icmp_lt (tgt := 44) dX6_coat_38 (by decide) rfl (fun c38 => ?_) (fun c38 => ?_)
      · have hl8 : m < 8 := (nI_ltI (by omega) (by omega)).mp (em ▸ c38)
        refine jm_aload_n dX6_coat_44 rfl rfl rfl ?_
        refine jm_getr dX6_coat_45 rfl fe_X6_26 rfl rfl rfl ?_
        refine jm_iload_n dX6_coat_48 rfl rfl rfl ?_
        refine jm_iload_n dX6_coat_49 rfl rfl rfl ?_
        refine jm_cV2 dX6_coat_50 rfl cb_X6_79 ci_X1_paintOver cv_X1_paintOver rfl rfl rfl (Nat.le_of_ble_eq_true rfl) (Nat.le_of_ble_eq_true rfl) (by decide) (s_X1_paintOver hj em hl8 ?_)
        refine jm_aload_n dX6_coat_53 rfl rfl rfl ?_
        refine jm_getr dX6_coat_54 rfl fe_X6_26 rfl rfl rfl ?_
        refine jm_getr dX6_coat_57 rfl fe_X6_151 rfl rfl rfl ?_
        refine jm_iload_n dX6_coat_60 rfl rfl rfl ?_
        refine jm_iald dX6_coat_61 rfl rfl rfl (by decide) rfl (by first | assumption | omega) ?_
        refine jm_iret dX6_coat_62 rfl rfl ?_
        refine h _ _ ?_
        first | exact Or.inl ⟨Or.inl c0, rfl, rfl⟩ | exact Or.inl ⟨Or.inr ⟨j, hj, rfl, ch⟩, rfl, rfl⟩ | exact Or.inr ⟨j, m, hj, rfl, ch, em, Or.inl ⟨c18, rfl, rfl⟩⟩ | exact Or.inr ⟨j, m, hj, rfl, ch, em, Or.inr ⟨⟨a18, b18⟩, Or.inl ⟨by have h9 := Nat.not_lt.mp (fun h => c38 (by rw [em]; exact (nI_ltI (by omega) (by omega)).mpr h)); omega, rfl, rfl⟩⟩⟩ | exact Or.inr ⟨j, m, hj, rfl, ch, em, Or.inr ⟨⟨a18, b18⟩, Or.inr ⟨hl8, rd_eq, rfl⟩⟩⟩ | fail "leaf"
      · refine jm_bipush (-104) dX6_coat_41 rfl (by decide) ?_
        refine jm_iret dX6_coat_43 rfl rfl ?_
        refine h _ _ ?_
        first | exact Or.inl ⟨Or.inl c0, rfl, rfl⟩ | exact Or.inl ⟨Or.inr ⟨j, hj, rfl, ch⟩, rfl, rfl⟩ | exact Or.inr ⟨j, m, hj, rfl, ch, em, Or.inl ⟨c18, rfl, rfl⟩⟩ | exact Or.inr ⟨j, m, hj, rfl, ch, em, Or.inr ⟨⟨a18, b18⟩, Or.inl ⟨by have h9 := Nat.not_lt.mp (fun h => c38 (by rw [em]; exact (nI_ltI (by omega) (by omega)).mpr h)); omega, rfl, rfl⟩⟩⟩ | exact Or.inr ⟨j, m, hj, rfl, ch, em, Or.inr ⟨⟨a18, b18⟩, Or.inr ⟨hl8, rd_eq, rfl⟩⟩⟩ | fail "leaf"
    · refine jm_if_ne (tgt := 27) dX6_coat_21 (by decide) rfl (fun c21 => absurd c21 (by decide)) (fun c21 => ?_)
      refine jm_bipush (-102) dX6_coat_24 rfl (by decide) ?_
      refine jm_iret dX6_coat_26 rfl rfl ?_
      refine h _ _ ?_
      first | exact Or.inl ⟨Or.inl c0, rfl, rfl⟩ | exact Or.inl ⟨Or.inr ⟨j, hj, rfl, ch⟩, rfl, rfl⟩ | exact Or.inr ⟨j, m, hj, rfl, ch, em, Or.inl ⟨c18, rfl, rfl⟩⟩ | exact Or.inr ⟨j, m, hj, rfl, ch, em, Or.inr ⟨⟨a18, b18⟩, Or.inl ⟨by have h9 := Nat.not_lt.mp (fun h => c38 (by rw [em]; exact (nI_ltI (by omega) (by omega)).mpr h)); omega, rfl, rfl⟩⟩⟩ | exact Or.inr ⟨j, m, hj, rfl, ch, em, Or.inr ⟨⟨a18, b18⟩, Or.inr ⟨hl8, rd_eq, rfl⟩⟩⟩ | fail "leaf"
  · refine jm_if_ne (tgt := 14) dX6_coat_8 (by decide) rfl (fun c8 => absurd c8 (by decide)) (fun c8 => ?_)
    refine jm_bipush (-101) dX6_coat_11 rfl (by decide) ?_
    refine jm_iret dX6_coat_13 rfl rfl ?_
    refine h _ _ ?_
    first | exact Or.inl ⟨Or.inl c0, rfl, rfl⟩ | exact Or.inl ⟨Or.inr ⟨j, hj, rfl, ch⟩, rfl, rfl⟩ | exact Or.inr ⟨j, m, hj, rfl, ch, em, Or.inl ⟨c18, rfl, rfl⟩⟩ | exact Or.inr ⟨j, m, hj, rfl, ch, em, Or.inr ⟨⟨a18, b18⟩, Or.inl ⟨by have h9 := Nat.not_lt.mp (fun h => c38 (by rw [em]; exact (nI_ltI (by omega) (by omega)).mpr h)); omega, rfl, rfl⟩⟩⟩ | exact Or.inr ⟨j, m, hj, rfl, ch, em, Or.inr ⟨⟨a18, b18⟩, Or.inr ⟨hl8, rd_eq, rfl⟩⟩⟩ | fail "leaf"
  · subst e
    refine jm_if_ne (tgt := 14) dX6_coat_8 (by decide) rfl (fun c8 => absurd c8 (by decide)) (fun c8 => ?_)
    refine jm_bipush (-101) dX6_coat_11 rfl (by decide) ?_
    refine jm_iret dX6_coat_13 rfl rfl ?_
    refine h _ _ ?_
    first | exact Or.inl ⟨Or.inl c0, rfl, rfl⟩ | exact Or.inl ⟨Or.inr ⟨j, hj, rfl, ch⟩, rfl, rfl⟩ | exact Or.inr ⟨j, m, hj, rfl, ch, em, Or.inl ⟨c18, rfl, rfl⟩⟩ | exact Or.inr ⟨j, m, hj, rfl, ch, em, Or.inr ⟨⟨a18, b18⟩, Or.inl ⟨by have h9 := Nat.not_lt.mp (fun h => c38 (by rw [em]; exact (nI_ltI (by omega) (by omega)).mpr h)); omega, rfl, rfl⟩⟩⟩ | exact Or.inr ⟨j, m, hj, rfl, ch, em, Or.inr ⟨⟨a18, b18⟩, Or.inr ⟨hl8, rd_eq, rfl⟩⟩⟩ | fail "leaf"
set_option maxHeartbeats 400000 in
theorem s_X6_sample {Ln : Nat} {xs : Nat → Int32} {μ : jm_Mem} {Q : Option Value → jm_Mem → Prop} {p k : Int32} (hm : ∀ j, j < 12 → ¬ μ 2 j ≤ 0 → ∃ m, m ≤ 8 ∧ μ 10 j = nI m) (h : ∀ r, oc_sample μ p k r → Q (some (.int r)) μ) : gJ Ln xs 2 mX6_sample 0 (jm_en 3 [.ref 0, .int p, .int k]) [] μ Q := by
  show jm_J rg_I (rg_X Ln xs) 2 mX6_sample 0 [some (.ref 0), some (.int p), some (.int k)] [] μ Q
  refine jm_aload_n dX6_sample_0 rfl rfl rfl ?_
  refine jm_getr dX6_sample_1 rfl fe_X6_12 rfl rfl rfl ?_
  refine jm_iload_n dX6_sample_4 rfl rfl rfl ?_
  refine jm_cV1 dX6_sample_5 rfl cb_X6_72 ci_X4_hasHorse cv_X4_hasHorse rfl rfl rfl (Nat.le_of_ble_eq_true rfl) (Nat.le_of_ble_eq_true rfl) (by decide) (s_X4_hasHorse (fun j hj e ch => ?_) (fun c0 => ?_) (fun j hj e ch => ?_))
  · subst e
    obtain ⟨m, h8, em⟩ := hm j hj ch
    refine jm_if_eq (tgt := 23) dX6_sample_8 (by decide) rfl (fun c8 => absurd c8 (by decide)) (fun c8 => ?_)
    refine jm_aload_n dX6_sample_11 rfl rfl rfl ?_
    refine jm_getr dX6_sample_12 rfl fe_X6_26 rfl rfl rfl ?_
    refine jm_iload_n dX6_sample_15 rfl rfl rfl ?_
    refine jm_iload_n dX6_sample_16 rfl rfl rfl ?_
    refine jm_cV2 dX6_sample_17 rfl cb_X6_154 ci_X1_colourAtDepth cv_X1_colourAtDepth rfl rfl rfl (Nat.le_of_ble_eq_true rfl) (Nat.le_of_ble_eq_true rfl) (by decide) (s_X1_colourAtDepth hj em h8 (fun i hi e => ?_) (fun c9 => ?_))
    · subst e
      refine jm_goto (n := 25) dX6_sample_20 (by decide) ?_
      refine jm_iret dX6_sample_25 rfl rfl ?_
      refine h _ ?_
      first | exact Or.inl ⟨Or.inl c0, rfl⟩ | exact Or.inl ⟨Or.inr ⟨j, hj, rfl, ch⟩, rfl⟩ | exact Or.inr ⟨j, m, hj, rfl, ch, em, Or.inl ⟨i, hi, rfl, rfl⟩⟩ | exact Or.inr ⟨j, m, hj, rfl, ch, em, Or.inr ⟨c9, rfl⟩⟩ | fail "leaf"
    · refine jm_goto (n := 25) dX6_sample_20 (by decide) ?_
      refine jm_iret dX6_sample_25 rfl rfl ?_
      refine h _ ?_
      first | exact Or.inl ⟨Or.inl c0, rfl⟩ | exact Or.inl ⟨Or.inr ⟨j, hj, rfl, ch⟩, rfl⟩ | exact Or.inr ⟨j, m, hj, rfl, ch, em, Or.inl ⟨i, hi, rfl, rfl⟩⟩ | exact Or.inr ⟨j, m, hj, rfl, ch, em, Or.inr ⟨c9, rfl⟩⟩ | fail "leaf"
  · refine jm_if_eq (tgt := 23) dX6_sample_8 (by decide) rfl (fun c8 => ?_) (fun c8 => absurd c8 (by decide))
    refine jm_bipush (-101) dX6_sample_23 rfl (by decide) ?_
    refine jm_iret dX6_sample_25 rfl rfl ?_
    refine h _ ?_
    first | exact Or.inl ⟨Or.inl c0, rfl⟩ | exact Or.inl ⟨Or.inr ⟨j, hj, rfl, ch⟩, rfl⟩ | exact Or.inr ⟨j, m, hj, rfl, ch, em, Or.inl ⟨i, hi, rfl, rfl⟩⟩ | exact Or.inr ⟨j, m, hj, rfl, ch, em, Or.inr ⟨c9, rfl⟩⟩ | fail "leaf"
  · subst e
    refine jm_if_eq (tgt := 23) dX6_sample_8 (by decide) rfl (fun c8 => ?_) (fun c8 => absurd c8 (by decide))
    refine jm_bipush (-101) dX6_sample_23 rfl (by decide) ?_
    refine jm_iret dX6_sample_25 rfl rfl ?_
    refine h _ ?_
    first | exact Or.inl ⟨Or.inl c0, rfl⟩ | exact Or.inl ⟨Or.inr ⟨j, hj, rfl, ch⟩, rfl⟩ | exact Or.inr ⟨j, m, hj, rfl, ch, em, Or.inl ⟨i, hi, rfl, rfl⟩⟩ | exact Or.inr ⟨j, m, hj, rfl, ch, em, Or.inr ⟨c9, rfl⟩⟩ | fail "leaf"
set_option maxHeartbeats 400000 in
theorem s_X6_strip {Ln : Nat} {xs : Nat → Int32} {μ : jm_Mem} {Q : Option Value → jm_Mem → Prop} {p c : Int32} (hm : ∀ j, j < 12 → ¬ μ 2 j ≤ 0 → ∃ m, m ≤ 8 ∧ μ 10 j = nI m) (h : ∀ r μ1, oc_strip μ p c r μ1 → Q (some (.int r)) μ1) : gJ Ln xs 3 mX6_strip 0 (jm_en 4 [.ref 0, .int p, .int c]) [] μ Q := by
  show jm_J rg_I (rg_X Ln xs) 3 mX6_strip 0 [some (.ref 0), some (.int p), some (.int c), none] [] μ Q
  refine jm_aload_n dX6_strip_0 rfl rfl rfl ?_
  refine jm_getr dX6_strip_1 rfl fe_X6_12 rfl rfl rfl ?_
  refine jm_iload_n dX6_strip_4 rfl rfl rfl ?_
  refine jm_cV1 dX6_strip_5 rfl cb_X6_72 ci_X4_hasHorse cv_X4_hasHorse rfl rfl rfl (Nat.le_of_ble_eq_true rfl) (Nat.le_of_ble_eq_true rfl) (by decide) (s_X4_hasHorse (fun j hj e ch => ?_) (fun c0 => ?_) (fun j hj e ch => ?_))
  · subst e
    obtain ⟨m, h8, em⟩ := hm j hj ch
    refine jm_if_ne (tgt := 14) dX6_strip_8 (by decide) rfl (fun c8 => ?_) (fun c8 => absurd c8 (by decide))
    refine jm_aload_n dX6_strip_14 rfl rfl rfl ?_
    refine jm_getr dX6_strip_15 rfl fe_X6_26 rfl rfl rfl ?_
    refine jm_iload_n dX6_strip_18 rfl rfl rfl ?_
    refine jm_iload_n dX6_strip_19 rfl rfl rfl ?_
    refine jm_cV2 dX6_strip_20 rfl cb_X6_158 ci_X1_depthOf cv_X1_depthOf rfl rfl rfl (Nat.le_of_ble_eq_true rfl) (Nat.le_of_ble_eq_true rfl) (by decide) (s_X1_depthOf hj em h8 (fun k hk ek hb => ?_) (fun hb => ?_))
    · refine jm_istore_n dX6_strip_23 rfl rfl rfl rfl ?_
      dsimp only [List.set]
      refine jm_iload_n dX6_strip_24 rfl rfl rfl ?_
      refine jm_iconst (-1) dX6_strip_25 rfl (by decide) ?_
      refine jm_icmp_ne (tgt := 32) dX6_strip_26 (by decide) rfl (fun c26 => ?_) (fun c26 => absurd c26 (rg_nm1 (by omega)))
      refine jm_aload_n dX6_strip_32 rfl rfl rfl ?_
      refine jm_getr dX6_strip_33 rfl fe_X6_26 rfl rfl rfl ?_
      refine jm_iload_n dX6_strip_36 rfl rfl rfl ?_
      refine jm_iload_n dX6_strip_37 rfl rfl rfl ?_
      refine jm_cV2 dX6_strip_38 rfl cb_X6_161 ci_X1_takeOff cv_X1_takeOff rfl rfl rfl (Nat.le_of_ble_eq_true rfl) (Nat.le_of_ble_eq_true rfl) (by decide) (s_X1_takeOff hj ?_)
      refine jm_iload_n dX6_strip_41 rfl rfl rfl ?_
      refine jm_iret dX6_strip_42 rfl rfl ?_
      refine h _ _ ?_
      first | exact Or.inl ⟨Or.inl c0, rfl, rfl⟩ | exact Or.inl ⟨Or.inr ⟨j, hj, rfl, ch⟩, rfl, rfl⟩ | exact Or.inr ⟨j, m, hj, rfl, ch, em, Or.inl ⟨hb, rfl, rfl⟩⟩ | exact Or.inr ⟨j, m, hj, rfl, ch, em, Or.inr ⟨k, hk, ek, hb, rfl, rfl⟩⟩ | fail "leaf"
    · refine jm_istore_n dX6_strip_23 rfl rfl rfl rfl ?_
      dsimp only [List.set]
      refine jm_iload_n dX6_strip_24 rfl rfl rfl ?_
      refine jm_iconst (-1) dX6_strip_25 rfl (by decide) ?_
      refine jm_icmp_ne (tgt := 32) dX6_strip_26 (by decide) rfl (fun c26 => absurd c26 (by decide)) (fun c26 => ?_)
      refine jm_bipush (-102) dX6_strip_29 rfl (by decide) ?_
      refine jm_iret dX6_strip_31 rfl rfl ?_
      refine h _ _ ?_
      first | exact Or.inl ⟨Or.inl c0, rfl, rfl⟩ | exact Or.inl ⟨Or.inr ⟨j, hj, rfl, ch⟩, rfl, rfl⟩ | exact Or.inr ⟨j, m, hj, rfl, ch, em, Or.inl ⟨hb, rfl, rfl⟩⟩ | exact Or.inr ⟨j, m, hj, rfl, ch, em, Or.inr ⟨k, hk, ek, hb, rfl, rfl⟩⟩ | fail "leaf"
  · refine jm_if_ne (tgt := 14) dX6_strip_8 (by decide) rfl (fun c8 => absurd c8 (by decide)) (fun c8 => ?_)
    refine jm_bipush (-101) dX6_strip_11 rfl (by decide) ?_
    refine jm_iret dX6_strip_13 rfl rfl ?_
    refine h _ _ ?_
    first | exact Or.inl ⟨Or.inl c0, rfl, rfl⟩ | exact Or.inl ⟨Or.inr ⟨j, hj, rfl, ch⟩, rfl, rfl⟩ | exact Or.inr ⟨j, m, hj, rfl, ch, em, Or.inl ⟨hb, rfl, rfl⟩⟩ | exact Or.inr ⟨j, m, hj, rfl, ch, em, Or.inr ⟨k, hk, ek, hb, rfl, rfl⟩⟩ | fail "leaf"
  · subst e
    refine jm_if_ne (tgt := 14) dX6_strip_8 (by decide) rfl (fun c8 => absurd c8 (by decide)) (fun c8 => ?_)
    refine jm_bipush (-101) dX6_strip_11 rfl (by decide) ?_
    refine jm_iret dX6_strip_13 rfl rfl ?_
    refine h _ _ ?_
    first | exact Or.inl ⟨Or.inl c0, rfl, rfl⟩ | exact Or.inl ⟨Or.inr ⟨j, hj, rfl, ch⟩, rfl, rfl⟩ | exact Or.inr ⟨j, m, hj, rfl, ch, em, Or.inl ⟨hb, rfl, rfl⟩⟩ | exact Or.inr ⟨j, m, hj, rfl, ch, em, Or.inr ⟨k, hk, ek, hb, rfl, rfl⟩⟩ | fail "leaf"
set_option maxHeartbeats 400000 in
theorem s_X6_isLegOfHorse {Ln : Nat} {xs : Nat → Int32} {μ : jm_Mem} {Q : Option Value → jm_Mem → Prop} {p g : Int32} (h1 : ∀ j i, j < 12 → i < 4 → p = nI j → g = nI i → ¬ μ 2 j ≤ 0 → Q (some (.int 1)) μ) (h0 : rg_nl μ p g → Q (some (.int 0)) μ) : gJ Ln xs 2 mX6_isLegOfHorse 0 (jm_en 3 [.ref 0, .int p, .int g]) [] μ Q := by
  show jm_J rg_I (rg_X Ln xs) 2 mX6_isLegOfHorse 0 [some (.ref 0), some (.int p), some (.int g)] [] μ Q
  refine jm_aload_n dX6_isLegOfHorse_0 rfl rfl rfl ?_
  refine jm_getr dX6_isLegOfHorse_1 rfl fe_X6_12 rfl rfl rfl ?_
  refine jm_iload_n dX6_isLegOfHorse_4 rfl rfl rfl ?_
  refine jm_cV1 dX6_isLegOfHorse_5 rfl cb_X6_72 ci_X4_hasHorse cv_X4_hasHorse rfl rfl rfl (Nat.le_of_ble_eq_true rfl) (Nat.le_of_ble_eq_true rfl) (by decide) (s_X4_hasHorse (fun j hj e ch => ?_) (fun c0 => ?_) (fun j hj e ch => ?_))
  · subst e
    refine jm_if_eq (tgt := 22) dX6_isLegOfHorse_8 (by decide) rfl (fun c8 => absurd c8 (by decide)) (fun c8 => ?_)
    refine jm_iload_n dX6_isLegOfHorse_11 rfl rfl rfl ?_
    refine jm_cS1 dX6_isLegOfHorse_12 rfl cb_X6_179 cs_X6_isLeg (Nat.le_of_ble_eq_true rfl) (Nat.le_of_ble_eq_true rfl) (by decide) (s_X6_isLeg (fun i hi e => ?_) (fun c9 => ?_))
    · subst e
      refine jm_if_eq (tgt := 22) dX6_isLegOfHorse_15 (by decide) rfl (fun c15 => absurd c15 (by decide)) (fun c15 => ?_)
      refine jm_iconst (nI 1) dX6_isLegOfHorse_18 rfl (by decide) ?_
      refine jm_goto (n := 23) dX6_isLegOfHorse_19 (by decide) ?_
      refine jm_iret dX6_isLegOfHorse_23 rfl rfl ?_
      first | exact h1 j i hj hi rfl rfl ch | exact h0 (Or.inr c9) | exact h0 (Or.inl (Or.inl c0)) | exact h0 (Or.inl (Or.inr ⟨j, hj, rfl, ch⟩)) | fail "leaf"
    · refine jm_if_eq (tgt := 22) dX6_isLegOfHorse_15 (by decide) rfl (fun c15 => ?_) (fun c15 => absurd c15 (by decide))
      refine jm_iconst (nI 0) dX6_isLegOfHorse_22 rfl (by decide) ?_
      refine jm_iret dX6_isLegOfHorse_23 rfl rfl ?_
      first | exact h1 j i hj hi rfl rfl ch | exact h0 (Or.inr c9) | exact h0 (Or.inl (Or.inl c0)) | exact h0 (Or.inl (Or.inr ⟨j, hj, rfl, ch⟩)) | fail "leaf"
  · refine jm_if_eq (tgt := 22) dX6_isLegOfHorse_8 (by decide) rfl (fun c8 => ?_) (fun c8 => absurd c8 (by decide))
    refine jm_iconst (nI 0) dX6_isLegOfHorse_22 rfl (by decide) ?_
    refine jm_iret dX6_isLegOfHorse_23 rfl rfl ?_
    first | exact h1 j i hj hi rfl rfl ch | exact h0 (Or.inr c9) | exact h0 (Or.inl (Or.inl c0)) | exact h0 (Or.inl (Or.inr ⟨j, hj, rfl, ch⟩)) | fail "leaf"
  · subst e
    refine jm_if_eq (tgt := 22) dX6_isLegOfHorse_8 (by decide) rfl (fun c8 => ?_) (fun c8 => absurd c8 (by decide))
    refine jm_iconst (nI 0) dX6_isLegOfHorse_22 rfl (by decide) ?_
    refine jm_iret dX6_isLegOfHorse_23 rfl rfl ?_
    first | exact h1 j i hj hi rfl rfl ch | exact h0 (Or.inr c9) | exact h0 (Or.inl (Or.inl c0)) | exact h0 (Or.inl (Or.inr ⟨j, hj, rfl, ch⟩)) | fail "leaf"
set_option maxHeartbeats 400000 in
theorem s_X6_swap {Ln : Nat} {xs : Nat → Int32} {μ : jm_Mem} {Q : Option Value → jm_Mem → Prop} {p g q o : Int32} (h : ∀ r μ1, oc_swap μ p g q o r μ1 → Q (some (.int r)) μ1) : gJ Ln xs 3 mX6_swap 0 (jm_en 5 [.ref 0, .int p, .int g, .int q, .int o]) [] μ Q := by
  show jm_J rg_I (rg_X Ln xs) 3 mX6_swap 0 [some (.ref 0), some (.int p), some (.int g), some (.int q), some (.int o)] [] μ Q
  refine jm_aload_n dX6_swap_0 rfl rfl rfl ?_
  refine jm_iload_n dX6_swap_1 rfl rfl rfl ?_
  refine jm_iload_n dX6_swap_2 rfl rfl rfl ?_
  refine jm_cV2 dX6_swap_3 rfl cb_X6_164 ci_X6_isLegOfHorse cv_X6_isLegOfHorse rfl rfl rfl (Nat.le_of_ble_eq_true rfl) (Nat.le_of_ble_eq_true rfl) (by decide) (s_X6_isLegOfHorse (fun j i hj hi e e2 ch => ?_) (fun cn => ?_))
  · subst e
    subst e2
    refine jm_if_eq (tgt := 19) dX6_swap_6 (by decide) rfl (fun c6 => absurd c6 (by decide)) (fun c6 => ?_)
    refine jm_aload_n dX6_swap_9 rfl rfl rfl ?_
    refine jm_iload_n dX6_swap_10 rfl rfl rfl ?_
    refine jm_iload dX6_swap_11 rfl rfl ?_
    refine jm_cV2 dX6_swap_13 rfl cb_X6_164 ci_X6_isLegOfHorse cv_X6_isLegOfHorse rfl rfl rfl (Nat.le_of_ble_eq_true rfl) (Nat.le_of_ble_eq_true rfl) (by decide) (s_X6_isLegOfHorse (fun j2 i2 hj2 hi2 e3 e4 ch2 => ?_) (fun cn2 => ?_))
    · subst e3
      subst e4
      refine jm_if_ne (tgt := 22) dX6_swap_16 (by decide) rfl (fun c16 => ?_) (fun c16 => absurd c16 (by decide))
      refine jm_iload_n dX6_swap_22 rfl rfl rfl ?_
      refine jm_iload_n dX6_swap_23 rfl rfl rfl ?_
      refine jm_icmp_ne (tgt := 36) dX6_swap_24 (by decide) rfl (fun c24 => ?_) (fun c24 => ?_)
      · refine jm_aload_n dX6_swap_36 rfl rfl rfl ?_
        refine jm_getr dX6_swap_37 rfl fe_X6_33 rfl rfl rfl ?_
        refine jm_iload_n dX6_swap_40 rfl rfl rfl ?_
        refine jm_iload_n dX6_swap_41 rfl rfl rfl ?_
        refine jm_cS2 dX6_swap_42 rfl cb_X6_167 cs_X6_legNumber (Nat.le_of_ble_eq_true rfl) (Nat.le_of_ble_eq_true rfl) (by decide) (s_X6_legNumber ?_)
        refine jm_iload_n dX6_swap_45 rfl rfl rfl ?_
        refine jm_iload dX6_swap_46 rfl rfl ?_
        refine jm_cS2 dX6_swap_48 rfl cb_X6_167 cs_X6_legNumber (Nat.le_of_ble_eq_true rfl) (Nat.le_of_ble_eq_true rfl) (by decide) (s_X6_legNumber ?_)
        refine jm_cV2 dX6_swap_51 rfl cb_X6_170 ci_X3_exchange cv_X3_exchange rfl rfl rfl (Nat.le_of_ble_eq_true rfl) (Nat.le_of_ble_eq_true rfl) (by decide) (s_X3_exchange (a := 4 * j + i) (b := 4 * j2 + i2) (by omega) (by omega) ?_)
        refine jm_iconst (nI 1) dX6_swap_54 rfl (by decide) ?_
        refine jm_iret dX6_swap_55 rfl rfl ?_
        refine h _ _ ?_
        first | exact Or.inl ⟨Or.inl cn, rfl, rfl⟩ | exact Or.inl ⟨Or.inr cn2, rfl, rfl⟩ | exact Or.inr ⟨j, i, j2, i2, hj, hi, hj2, hi2, rfl, rfl, rfl, rfl, ch, ch2, Or.inl ⟨(nI_eq (by omega) (by omega)).mp c24, (nI_eq (by omega) (by omega)).mp c30, rfl, rfl⟩⟩ | exact Or.inr ⟨j, i, j2, i2, hj, hi, hj2, hi2, rfl, rfl, rfl, rfl, ch, ch2, Or.inr ⟨fun h => c24 (by rw [h.1]), rfl, rfl⟩⟩ | exact Or.inr ⟨j, i, j2, i2, hj, hi, hj2, hi2, rfl, rfl, rfl, rfl, ch, ch2, Or.inr ⟨fun h => c30 (by rw [h.2]), rfl, rfl⟩⟩ | fail "leaf"
      · refine jm_iload_n dX6_swap_27 rfl rfl rfl ?_
        refine jm_iload dX6_swap_28 rfl rfl ?_
        refine jm_icmp_ne (tgt := 36) dX6_swap_30 (by decide) rfl (fun c30 => ?_) (fun c30 => ?_)
        · refine jm_aload_n dX6_swap_36 rfl rfl rfl ?_
          refine jm_getr dX6_swap_37 rfl fe_X6_33 rfl rfl rfl ?_
          refine jm_iload_n dX6_swap_40 rfl rfl rfl ?_
          refine jm_iload_n dX6_swap_41 rfl rfl rfl ?_
          refine jm_cS2 dX6_swap_42 rfl cb_X6_167 cs_X6_legNumber (Nat.le_of_ble_eq_true rfl) (Nat.le_of_ble_eq_true rfl) (by decide) (s_X6_legNumber ?_)
          refine jm_iload_n dX6_swap_45 rfl rfl rfl ?_
          refine jm_iload dX6_swap_46 rfl rfl ?_
          refine jm_cS2 dX6_swap_48 rfl cb_X6_167 cs_X6_legNumber (Nat.le_of_ble_eq_true rfl) (Nat.le_of_ble_eq_true rfl) (by decide) (s_X6_legNumber ?_)
          refine jm_cV2 dX6_swap_51 rfl cb_X6_170 ci_X3_exchange cv_X3_exchange rfl rfl rfl (Nat.le_of_ble_eq_true rfl) (Nat.le_of_ble_eq_true rfl) (by decide) (s_X3_exchange (a := 4 * j + i) (b := 4 * j2 + i2) (by omega) (by omega) ?_)
          refine jm_iconst (nI 1) dX6_swap_54 rfl (by decide) ?_
          refine jm_iret dX6_swap_55 rfl rfl ?_
          refine h _ _ ?_
          first | exact Or.inl ⟨Or.inl cn, rfl, rfl⟩ | exact Or.inl ⟨Or.inr cn2, rfl, rfl⟩ | exact Or.inr ⟨j, i, j2, i2, hj, hi, hj2, hi2, rfl, rfl, rfl, rfl, ch, ch2, Or.inl ⟨(nI_eq (by omega) (by omega)).mp c24, (nI_eq (by omega) (by omega)).mp c30, rfl, rfl⟩⟩ | exact Or.inr ⟨j, i, j2, i2, hj, hi, hj2, hi2, rfl, rfl, rfl, rfl, ch, ch2, Or.inr ⟨fun h => c24 (by rw [h.1]), rfl, rfl⟩⟩ | exact Or.inr ⟨j, i, j2, i2, hj, hi, hj2, hi2, rfl, rfl, rfl, rfl, ch, ch2, Or.inr ⟨fun h => c30 (by rw [h.2]), rfl, rfl⟩⟩ | fail "leaf"
        · refine jm_bipush (-102) dX6_swap_33 rfl (by decide) ?_
          refine jm_iret dX6_swap_35 rfl rfl ?_
          refine h _ _ ?_
          first | exact Or.inl ⟨Or.inl cn, rfl, rfl⟩ | exact Or.inl ⟨Or.inr cn2, rfl, rfl⟩ | exact Or.inr ⟨j, i, j2, i2, hj, hi, hj2, hi2, rfl, rfl, rfl, rfl, ch, ch2, Or.inl ⟨(nI_eq (by omega) (by omega)).mp c24, (nI_eq (by omega) (by omega)).mp c30, rfl, rfl⟩⟩ | exact Or.inr ⟨j, i, j2, i2, hj, hi, hj2, hi2, rfl, rfl, rfl, rfl, ch, ch2, Or.inr ⟨fun h => c24 (by rw [h.1]), rfl, rfl⟩⟩ | exact Or.inr ⟨j, i, j2, i2, hj, hi, hj2, hi2, rfl, rfl, rfl, rfl, ch, ch2, Or.inr ⟨fun h => c30 (by rw [h.2]), rfl, rfl⟩⟩ | fail "leaf"
    · refine jm_if_ne (tgt := 22) dX6_swap_16 (by decide) rfl (fun c16 => absurd c16 (by decide)) (fun c16 => ?_)
      refine jm_bipush (-101) dX6_swap_19 rfl (by decide) ?_
      refine jm_iret dX6_swap_21 rfl rfl ?_
      refine h _ _ ?_
      first | exact Or.inl ⟨Or.inl cn, rfl, rfl⟩ | exact Or.inl ⟨Or.inr cn2, rfl, rfl⟩ | exact Or.inr ⟨j, i, j2, i2, hj, hi, hj2, hi2, rfl, rfl, rfl, rfl, ch, ch2, Or.inl ⟨(nI_eq (by omega) (by omega)).mp c24, (nI_eq (by omega) (by omega)).mp c30, rfl, rfl⟩⟩ | exact Or.inr ⟨j, i, j2, i2, hj, hi, hj2, hi2, rfl, rfl, rfl, rfl, ch, ch2, Or.inr ⟨fun h => c24 (by rw [h.1]), rfl, rfl⟩⟩ | exact Or.inr ⟨j, i, j2, i2, hj, hi, hj2, hi2, rfl, rfl, rfl, rfl, ch, ch2, Or.inr ⟨fun h => c30 (by rw [h.2]), rfl, rfl⟩⟩ | fail "leaf"
  · refine jm_if_eq (tgt := 19) dX6_swap_6 (by decide) rfl (fun c6 => ?_) (fun c6 => absurd c6 (by decide))
    refine jm_bipush (-101) dX6_swap_19 rfl (by decide) ?_
    refine jm_iret dX6_swap_21 rfl rfl ?_
    refine h _ _ ?_
    first | exact Or.inl ⟨Or.inl cn, rfl, rfl⟩ | exact Or.inl ⟨Or.inr cn2, rfl, rfl⟩ | exact Or.inr ⟨j, i, j2, i2, hj, hi, hj2, hi2, rfl, rfl, rfl, rfl, ch, ch2, Or.inl ⟨(nI_eq (by omega) (by omega)).mp c24, (nI_eq (by omega) (by omega)).mp c30, rfl, rfl⟩⟩ | exact Or.inr ⟨j, i, j2, i2, hj, hi, hj2, hi2, rfl, rfl, rfl, rfl, ch, ch2, Or.inr ⟨fun h => c24 (by rw [h.1]), rfl, rfl⟩⟩ | exact Or.inr ⟨j, i, j2, i2, hj, hi, hj2, hi2, rfl, rfl, rfl, rfl, ch, ch2, Or.inr ⟨fun h => c30 (by rw [h.2]), rfl, rfl⟩⟩ | fail "leaf"
set_option maxHeartbeats 400000 in
theorem s_X6_mark {Ln : Nat} {xs : Nat → Int32} {μ : jm_Mem} {Q : Option Value → jm_Mem → Prop} {p g : Int32} (h : ∀ r, oc_mark μ p g r → Q (some (.int r)) μ) : gJ Ln xs 3 mX6_mark 0 (jm_en 3 [.ref 0, .int p, .int g]) [] μ Q := by
  show jm_J rg_I (rg_X Ln xs) 3 mX6_mark 0 [some (.ref 0), some (.int p), some (.int g)] [] μ Q
  refine jm_aload_n dX6_mark_0 rfl rfl rfl ?_
  refine jm_iload_n dX6_mark_1 rfl rfl rfl ?_
  refine jm_iload_n dX6_mark_2 rfl rfl rfl ?_
  refine jm_cV2 dX6_mark_3 rfl cb_X6_164 ci_X6_isLegOfHorse cv_X6_isLegOfHorse rfl rfl rfl (Nat.le_of_ble_eq_true rfl) (Nat.le_of_ble_eq_true rfl) (by decide) (s_X6_isLegOfHorse (fun j i hj hi e e2 ch => ?_) (fun cn => ?_))
  · subst e
    subst e2
    refine jm_if_eq (tgt := 25) dX6_mark_6 (by decide) rfl (fun c6 => absurd c6 (by decide)) (fun c6 => ?_)
    refine jm_aload_n dX6_mark_9 rfl rfl rfl ?_
    refine jm_getr dX6_mark_10 rfl fe_X6_33 rfl rfl rfl ?_
    refine jm_getr dX6_mark_13 rfl fe_X6_173 rfl rfl rfl ?_
    refine jm_iload_n dX6_mark_16 rfl rfl rfl ?_
    refine jm_iload_n dX6_mark_17 rfl rfl rfl ?_
    refine jm_cS2 dX6_mark_18 rfl cb_X6_167 cs_X6_legNumber (Nat.le_of_ble_eq_true rfl) (Nat.le_of_ble_eq_true rfl) (by decide) (s_X6_legNumber ?_)
    refine jm_iald dX6_mark_21 rfl rfl rfl (by decide) rfl (by omega) ?_
    refine jm_goto (n := 27) dX6_mark_22 (by decide) ?_
    refine jm_iret dX6_mark_27 rfl rfl ?_
    refine h _ ?_
    first | exact Or.inl ⟨cn, rfl⟩ | exact Or.inr ⟨j, i, hj, hi, rfl, rfl, ch, rfl⟩ | fail "leaf"
  · refine jm_if_eq (tgt := 25) dX6_mark_6 (by decide) rfl (fun c6 => ?_) (fun c6 => absurd c6 (by decide))
    refine jm_bipush (-101) dX6_mark_25 rfl (by decide) ?_
    refine jm_iret dX6_mark_27 rfl rfl ?_
    refine h _ ?_
    first | exact Or.inl ⟨cn, rfl⟩ | exact Or.inr ⟨j, i, hj, hi, rfl, rfl, ch, rfl⟩ | fail "leaf"
set_option maxHeartbeats 400000 in
theorem s_X6_find {Ln : Nat} {xs : Nat → Int32} {μ : jm_Mem} {Q : Option Value → jm_Mem → Prop} {p g : Int32} (h : ∀ r, oc_find μ p g r → Q (some (.int r)) μ) : gJ Ln xs 2 mX6_find 0 (jm_en 3 [.ref 0, .int p, .int g]) [] μ Q := by
  show jm_J rg_I (rg_X Ln xs) 2 mX6_find 0 [some (.ref 0), some (.int p), some (.int g)] [] μ Q
  refine jm_iload_n dX6_find_0 rfl rfl rfl ?_
  refine jm_cS1 dX6_find_1 rfl cb_X6_64 cs_X6_isPlace (Nat.le_of_ble_eq_true rfl) (Nat.le_of_ble_eq_true rfl) (by decide) (s_X6_isPlace (fun j hj e => ?_) (fun c0 => ?_))
  · subst e
    refine jm_if_eq (tgt := 14) dX6_find_4 (by decide) rfl (fun c4 => absurd c4 (by decide)) (fun c4 => ?_)
    refine jm_iload_n dX6_find_7 rfl rfl rfl ?_
    refine jm_cS1 dX6_find_8 rfl cb_X6_179 cs_X6_isLeg (Nat.le_of_ble_eq_true rfl) (Nat.le_of_ble_eq_true rfl) (by decide) (s_X6_isLeg (fun i hi e => ?_) (fun c9 => ?_))
    · subst e
      refine jm_if_ne (tgt := 17) dX6_find_11 (by decide) rfl (fun c11 => ?_) (fun c11 => absurd c11 (by decide))
      refine jm_aload_n dX6_find_17 rfl rfl rfl ?_
      refine jm_getr dX6_find_18 rfl fe_X6_12 rfl rfl rfl ?_
      refine jm_iload_n dX6_find_21 rfl rfl rfl ?_
      refine jm_cV1 dX6_find_22 rfl cb_X6_72 ci_X4_hasHorse cv_X4_hasHorse rfl rfl rfl (Nat.le_of_ble_eq_true rfl) (Nat.le_of_ble_eq_true rfl) (by decide) (s_X4_hasHorse_at hj (fun ch => ?_) (fun ch => ?_))
      · refine jm_if_eq (tgt := 43) dX6_find_25 (by decide) rfl (fun c25 => absurd c25 (by decide)) (fun c25 => ?_)
        refine jm_aload_n dX6_find_28 rfl rfl rfl ?_
        refine jm_getr dX6_find_29 rfl fe_X6_33 rfl rfl rfl ?_
        refine jm_iload_n dX6_find_32 rfl rfl rfl ?_
        refine jm_iload_n dX6_find_33 rfl rfl rfl ?_
        refine jm_cS2 dX6_find_34 rfl cb_X6_167 cs_X6_legNumber (Nat.le_of_ble_eq_true rfl) (Nat.le_of_ble_eq_true rfl) (by decide) (s_X6_legNumber ?_)
        refine jm_cV1 dX6_find_37 rfl cb_X6_182 ci_X3_whereIs cv_X3_whereIs rfl rfl rfl (Nat.le_of_ble_eq_true rfl) (Nat.le_of_ble_eq_true rfl) (by decide) (s_X3_whereIs (fun k hk e hb => ?_) (fun hb => ?_))
        · refine jm_goto (n := 44) dX6_find_40 (by decide) ?_
          refine jm_iret dX6_find_44 rfl rfl ?_
          refine h _ ?_
          first | exact Or.inl ⟨Or.inl c0, rfl⟩ | exact Or.inl ⟨Or.inr c9, rfl⟩ | exact Or.inr ⟨j, i, hj, hi, rfl, rfl, Or.inl ⟨ch, rfl⟩⟩ | exact Or.inr ⟨j, i, hj, hi, rfl, rfl, Or.inr ⟨ch, Or.inl ⟨hb, rfl⟩⟩⟩ | exact Or.inr ⟨j, i, hj, hi, rfl, rfl, Or.inr ⟨ch, Or.inr ⟨k, hk, e, hb, rfl⟩⟩⟩ | fail "leaf"
        · refine jm_goto (n := 44) dX6_find_40 (by decide) ?_
          refine jm_iret dX6_find_44 rfl rfl ?_
          refine h _ ?_
          first | exact Or.inl ⟨Or.inl c0, rfl⟩ | exact Or.inl ⟨Or.inr c9, rfl⟩ | exact Or.inr ⟨j, i, hj, hi, rfl, rfl, Or.inl ⟨ch, rfl⟩⟩ | exact Or.inr ⟨j, i, hj, hi, rfl, rfl, Or.inr ⟨ch, Or.inl ⟨hb, rfl⟩⟩⟩ | exact Or.inr ⟨j, i, hj, hi, rfl, rfl, Or.inr ⟨ch, Or.inr ⟨k, hk, e, hb, rfl⟩⟩⟩ | fail "leaf"
      · refine jm_if_eq (tgt := 43) dX6_find_25 (by decide) rfl (fun c25 => ?_) (fun c25 => absurd c25 (by decide))
        refine jm_iconst (-1) dX6_find_43 rfl (by decide) ?_
        refine jm_iret dX6_find_44 rfl rfl ?_
        refine h _ ?_
        first | exact Or.inl ⟨Or.inl c0, rfl⟩ | exact Or.inl ⟨Or.inr c9, rfl⟩ | exact Or.inr ⟨j, i, hj, hi, rfl, rfl, Or.inl ⟨ch, rfl⟩⟩ | exact Or.inr ⟨j, i, hj, hi, rfl, rfl, Or.inr ⟨ch, Or.inl ⟨hb, rfl⟩⟩⟩ | exact Or.inr ⟨j, i, hj, hi, rfl, rfl, Or.inr ⟨ch, Or.inr ⟨k, hk, e, hb, rfl⟩⟩⟩ | fail "leaf"
    · refine jm_if_ne (tgt := 17) dX6_find_11 (by decide) rfl (fun c11 => absurd c11 (by decide)) (fun c11 => ?_)
      refine jm_bipush (-101) dX6_find_14 rfl (by decide) ?_
      refine jm_iret dX6_find_16 rfl rfl ?_
      refine h _ ?_
      first | exact Or.inl ⟨Or.inl c0, rfl⟩ | exact Or.inl ⟨Or.inr c9, rfl⟩ | exact Or.inr ⟨j, i, hj, hi, rfl, rfl, Or.inl ⟨ch, rfl⟩⟩ | exact Or.inr ⟨j, i, hj, hi, rfl, rfl, Or.inr ⟨ch, Or.inl ⟨hb, rfl⟩⟩⟩ | exact Or.inr ⟨j, i, hj, hi, rfl, rfl, Or.inr ⟨ch, Or.inr ⟨k, hk, e, hb, rfl⟩⟩⟩ | fail "leaf"
  · refine jm_if_eq (tgt := 14) dX6_find_4 (by decide) rfl (fun c4 => ?_) (fun c4 => absurd c4 (by decide))
    refine jm_bipush (-101) dX6_find_14 rfl (by decide) ?_
    refine jm_iret dX6_find_16 rfl rfl ?_
    refine h _ ?_
    first | exact Or.inl ⟨Or.inl c0, rfl⟩ | exact Or.inl ⟨Or.inr c9, rfl⟩ | exact Or.inr ⟨j, i, hj, hi, rfl, rfl, Or.inl ⟨ch, rfl⟩⟩ | exact Or.inr ⟨j, i, hj, hi, rfl, rfl, Or.inr ⟨ch, Or.inl ⟨hb, rfl⟩⟩⟩ | exact Or.inr ⟨j, i, hj, hi, rfl, rfl, Or.inr ⟨ch, Or.inr ⟨k, hk, e, hb, rfl⟩⟩⟩ | fail "leaf"
set_option maxHeartbeats 400000 in
theorem s_X6_fair {Ln : Nat} {xs : Nat → Int32} {μ : jm_Mem} {Q : Option Value → jm_Mem → Prop} {a b e : Int32} {nf : Nat} (hn : μ 14 4 = nI nf) (h8 : nf ≤ 8) (h : ∀ r μ1, oc_fair μ a b e r μ1 → Q (some (.int r)) μ1) : gJ Ln xs 1 mX6_fair 0 (jm_en 4 [.ref 0, .int a, .int b, .int e]) [] μ Q := by
  show jm_J rg_I (rg_X Ln xs) 1 mX6_fair 0 [some (.ref 0), some (.int a), some (.int b), some (.int e)] [] μ Q
  refine jm_iload_n dX6_fair_0 rfl rfl rfl ?_
  refine jm_iconst (nI 0) dX6_fair_1 rfl (by decide) ?_
  refine jm_sipush (nI 400) dX6_fair_2 rfl (by decide) ?_
  refine jm_cS3 dX6_fair_5 rfl cb_X6_68 cs_X6_isWithin (Nat.le_of_ble_eq_true rfl) (Nat.le_of_ble_eq_true rfl) (by decide) (s_X6_isWithin (fun a5 b5 => ?_) (fun c5 => ?_))
  · refine jm_if_eq (tgt := 33) dX6_fair_8 (by decide) rfl (fun c8 => absurd c8 (by decide)) (fun c8 => ?_)
    refine jm_iload_n dX6_fair_11 rfl rfl rfl ?_
    refine jm_iload_n dX6_fair_12 rfl rfl rfl ?_
    refine jm_sipush (nI 400) dX6_fair_13 rfl (by decide) ?_
    refine jm_cS3 dX6_fair_16 rfl cb_X6_68 cs_X6_isWithin (Nat.le_of_ble_eq_true rfl) (Nat.le_of_ble_eq_true rfl) (by decide) (s_X6_isWithin (fun a16 b16 => ?_) (fun c16 => ?_))
    · refine jm_if_eq (tgt := 33) dX6_fair_19 (by decide) rfl (fun c19 => absurd c19 (by decide)) (fun c19 => ?_)
      refine jm_iload_n dX6_fair_22 rfl rfl rfl ?_
      refine jm_iconst (nI 0) dX6_fair_23 rfl (by decide) ?_
      refine jm_sipush (nI 10000) dX6_fair_24 rfl (by decide) ?_
      refine jm_cS3 dX6_fair_27 rfl cb_X6_68 cs_X6_isWithin (Nat.le_of_ble_eq_true rfl) (Nat.le_of_ble_eq_true rfl) (by decide) (s_X6_isWithin (fun a27 b27 => ?_) (fun c27 => ?_))
      · refine jm_if_ne (tgt := 36) dX6_fair_30 (by decide) rfl (fun c30 => ?_) (fun c30 => absurd c30 (by decide))
        refine jm_aload_n dX6_fair_36 rfl rfl rfl ?_
        refine jm_getr dX6_fair_37 rfl fe_X6_40 rfl rfl rfl ?_
        refine jm_geti dX6_fair_40 rfl fe_X6_185 rfl rfl rfl ?_
        refine jm_bipush (nI 8) dX6_fair_43 rfl (by decide) ?_
        refine jm_icmp_lt (tgt := 51) dX6_fair_45 (by decide) rfl (fun c45 => ?_) (fun c45 => ?_)
        · have hl8 : nf < 8 := (nI_ltI (by omega) (by omega)).mp (hn ▸ c45)
          refine jm_aload_n dX6_fair_51 rfl rfl rfl ?_
          refine jm_getr dX6_fair_52 rfl fe_X6_40 rfl rfl rfl ?_
          refine jm_iload_n dX6_fair_55 rfl rfl rfl ?_
          refine jm_iload_n dX6_fair_56 rfl rfl rfl ?_
          refine jm_iload_n dX6_fair_57 rfl rfl rfl ?_
          refine jm_cV3 dX6_fair_58 rfl cb_X6_188 ci_X2_announce cv_X2_announce rfl rfl rfl (Nat.le_of_ble_eq_true rfl) (Nat.le_of_ble_eq_true rfl) (by decide) (s_X2_announce hn hl8 ?_)
          refine jm_iret dX6_fair_61 rfl rfl ?_
          refine h _ _ ?_
          first | exact Or.inl ⟨Or.inl c5, rfl, rfl⟩ | exact Or.inl ⟨Or.inr (Or.inl c16), rfl, rfl⟩ | exact Or.inl ⟨Or.inr (Or.inr c27), rfl, rfl⟩ | exact Or.inr ⟨⟨a5, b5⟩, ⟨a16, b16⟩, ⟨a27, b27⟩, nf, hn, Or.inr ⟨hl8, rfl, rfl⟩⟩ | exact Or.inr ⟨⟨a5, b5⟩, ⟨a16, b16⟩, ⟨a27, b27⟩, nf, hn, Or.inl ⟨by have h9 := Nat.not_lt.mp (fun h => c45 (by rw [hn]; exact (nI_ltI (by omega) (by omega)).mpr h)); omega, rfl, rfl⟩⟩ | fail "leaf"
        · refine jm_bipush (-104) dX6_fair_48 rfl (by decide) ?_
          refine jm_iret dX6_fair_50 rfl rfl ?_
          refine h _ _ ?_
          first | exact Or.inl ⟨Or.inl c5, rfl, rfl⟩ | exact Or.inl ⟨Or.inr (Or.inl c16), rfl, rfl⟩ | exact Or.inl ⟨Or.inr (Or.inr c27), rfl, rfl⟩ | exact Or.inr ⟨⟨a5, b5⟩, ⟨a16, b16⟩, ⟨a27, b27⟩, nf, hn, Or.inr ⟨hl8, rfl, rfl⟩⟩ | exact Or.inr ⟨⟨a5, b5⟩, ⟨a16, b16⟩, ⟨a27, b27⟩, nf, hn, Or.inl ⟨by have h9 := Nat.not_lt.mp (fun h => c45 (by rw [hn]; exact (nI_ltI (by omega) (by omega)).mpr h)); omega, rfl, rfl⟩⟩ | fail "leaf"
      · refine jm_if_ne (tgt := 36) dX6_fair_30 (by decide) rfl (fun c30 => absurd c30 (by decide)) (fun c30 => ?_)
        refine jm_bipush (-102) dX6_fair_33 rfl (by decide) ?_
        refine jm_iret dX6_fair_35 rfl rfl ?_
        refine h _ _ ?_
        first | exact Or.inl ⟨Or.inl c5, rfl, rfl⟩ | exact Or.inl ⟨Or.inr (Or.inl c16), rfl, rfl⟩ | exact Or.inl ⟨Or.inr (Or.inr c27), rfl, rfl⟩ | exact Or.inr ⟨⟨a5, b5⟩, ⟨a16, b16⟩, ⟨a27, b27⟩, nf, hn, Or.inr ⟨hl8, rfl, rfl⟩⟩ | exact Or.inr ⟨⟨a5, b5⟩, ⟨a16, b16⟩, ⟨a27, b27⟩, nf, hn, Or.inl ⟨by have h9 := Nat.not_lt.mp (fun h => c45 (by rw [hn]; exact (nI_ltI (by omega) (by omega)).mpr h)); omega, rfl, rfl⟩⟩ | fail "leaf"
    · refine jm_if_eq (tgt := 33) dX6_fair_19 (by decide) rfl (fun c19 => ?_) (fun c19 => absurd c19 (by decide))
      refine jm_bipush (-102) dX6_fair_33 rfl (by decide) ?_
      refine jm_iret dX6_fair_35 rfl rfl ?_
      refine h _ _ ?_
      first | exact Or.inl ⟨Or.inl c5, rfl, rfl⟩ | exact Or.inl ⟨Or.inr (Or.inl c16), rfl, rfl⟩ | exact Or.inl ⟨Or.inr (Or.inr c27), rfl, rfl⟩ | exact Or.inr ⟨⟨a5, b5⟩, ⟨a16, b16⟩, ⟨a27, b27⟩, nf, hn, Or.inr ⟨hl8, rfl, rfl⟩⟩ | exact Or.inr ⟨⟨a5, b5⟩, ⟨a16, b16⟩, ⟨a27, b27⟩, nf, hn, Or.inl ⟨by have h9 := Nat.not_lt.mp (fun h => c45 (by rw [hn]; exact (nI_ltI (by omega) (by omega)).mpr h)); omega, rfl, rfl⟩⟩ | fail "leaf"
  · refine jm_if_eq (tgt := 33) dX6_fair_8 (by decide) rfl (fun c8 => ?_) (fun c8 => absurd c8 (by decide))
    refine jm_bipush (-102) dX6_fair_33 rfl (by decide) ?_
    refine jm_iret dX6_fair_35 rfl rfl ?_
    refine h _ _ ?_
    first | exact Or.inl ⟨Or.inl c5, rfl, rfl⟩ | exact Or.inl ⟨Or.inr (Or.inl c16), rfl, rfl⟩ | exact Or.inl ⟨Or.inr (Or.inr c27), rfl, rfl⟩ | exact Or.inr ⟨⟨a5, b5⟩, ⟨a16, b16⟩, ⟨a27, b27⟩, nf, hn, Or.inr ⟨hl8, rfl, rfl⟩⟩ | exact Or.inr ⟨⟨a5, b5⟩, ⟨a16, b16⟩, ⟨a27, b27⟩, nf, hn, Or.inl ⟨by have h9 := Nat.not_lt.mp (fun h => c45 (by rw [hn]; exact (nI_ltI (by omega) (by omega)).mpr h)); omega, rfl, rfl⟩⟩ | fail "leaf"
set_option maxHeartbeats 400000 in
theorem s_X6_road {Ln : Nat} {xs : Nat → Int32} {μ : jm_Mem} {Q : Option Value → jm_Mem → Prop} {a b d : Int32} {nf : Nat} (hn : μ 14 4 = nI nf) (h8 : nf ≤ 8) (h : ∀ r μ1, oc_road μ a b d r μ1 → Q (some (.int r)) μ1) : gJ Ln xs 1 mX6_road 0 (jm_en 5 [.ref 0, .int a, .int b, .int d]) [] μ Q := by
  show jm_J rg_I (rg_X Ln xs) 1 mX6_road 0 [some (.ref 0), some (.int a), some (.int b), some (.int d), none] [] μ Q
  refine jm_aload_n dX6_road_0 rfl rfl rfl ?_
  refine jm_getr dX6_road_1 rfl fe_X6_40 rfl rfl rfl ?_
  refine jm_iload_n dX6_road_4 rfl rfl rfl ?_
  refine jm_cV1 dX6_road_5 rfl cb_X6_192 ci_X2_isFair cv_X2_isFair rfl rfl rfl (Nat.le_of_ble_eq_true rfl) (Nat.le_of_ble_eq_true rfl) (by decide) (s_X2_isFair hn h8 (fun i hi e => ?_) (fun c0 => ?_))
  · subst e
    refine jm_if_eq (tgt := 22) dX6_road_8 (by decide) rfl (fun c8 => absurd c8 (by decide)) (fun c8 => ?_)
    refine jm_aload_n dX6_road_11 rfl rfl rfl ?_
    refine jm_getr dX6_road_12 rfl fe_X6_40 rfl rfl rfl ?_
    refine jm_iload_n dX6_road_15 rfl rfl rfl ?_
    refine jm_cV1 dX6_road_16 rfl cb_X6_192 ci_X2_isFair cv_X2_isFair rfl rfl rfl (Nat.le_of_ble_eq_true rfl) (Nat.le_of_ble_eq_true rfl) (by decide) (s_X2_isFair hn h8 (fun k hk e2 => ?_) (fun c9 => ?_))
    · subst e2
      refine jm_if_ne (tgt := 25) dX6_road_19 (by decide) rfl (fun c19 => ?_) (fun c19 => absurd c19 (by decide))
      refine jm_iload_n dX6_road_25 rfl rfl rfl ?_
      refine jm_iconst (nI 0) dX6_road_26 rfl (by decide) ?_
      refine jm_bipush (nI 50) dX6_road_27 rfl (by decide) ?_
      refine jm_cS3 dX6_road_29 rfl cb_X6_68 cs_X6_isWithin (Nat.le_of_ble_eq_true rfl) (Nat.le_of_ble_eq_true rfl) (by decide) (s_X6_isWithin (fun a29 b29 => ?_) (fun c29 => ?_))
      · refine jm_if_eq (tgt := 40) dX6_road_32 (by decide) rfl (fun c32 => absurd c32 (by decide)) (fun c32 => ?_)
        refine jm_iload_n dX6_road_35 rfl rfl rfl ?_
        refine jm_iload_n dX6_road_36 rfl rfl rfl ?_
        refine jm_icmp_ne (tgt := 43) dX6_road_37 (by decide) rfl (fun c37 => ?_) (fun c37 => ?_)
        · refine jm_aload_n dX6_road_43 rfl rfl rfl ?_
          refine jm_getr dX6_road_44 rfl fe_X6_40 rfl rfl rfl ?_
          refine jm_iload_n dX6_road_47 rfl rfl rfl ?_
          refine jm_iload_n dX6_road_48 rfl rfl rfl ?_
          refine jm_cV2 dX6_road_49 rfl cb_X6_195 ci_X2_daysBetween cv_X2_daysBetween rfl rfl rfl (Nat.le_of_ble_eq_true rfl) (Nat.le_of_ble_eq_true rfl) (by decide) (s_X2_daysBetween (by omega) (by omega) ?_)
          refine jm_istore dX6_road_52 rfl rfl rfl ?_
          dsimp only [List.set]
          refine jm_aload_n dX6_road_54 rfl rfl rfl ?_
          refine jm_getr dX6_road_55 rfl fe_X6_40 rfl rfl rfl ?_
          refine jm_iload_n dX6_road_58 rfl rfl rfl ?_
          refine jm_iload_n dX6_road_59 rfl rfl rfl ?_
          refine jm_iload_n dX6_road_60 rfl rfl rfl ?_
          refine jm_cV3 dX6_road_61 rfl cb_X6_198 ci_X2_layRoad cv_X2_layRoad rfl rfl rfl (Nat.le_of_ble_eq_true rfl) (Nat.le_of_ble_eq_true rfl) (by decide) (s_X2_layRoad (by omega) (by omega) ?_)
          refine jm_iload dX6_road_64 rfl rfl ?_
          refine jm_iret dX6_road_66 rfl rfl ?_
          refine h _ _ ?_
          first | exact ⟨nf, hn, h8, Or.inl ⟨c0.elim (fun h => Or.inl h) (fun h => Or.inr (Or.inl h)), rfl, rfl⟩⟩ | exact ⟨nf, hn, h8, Or.inl ⟨Or.inr (Or.inr c9), rfl, rfl⟩⟩ | exact ⟨nf, hn, h8, Or.inr ⟨i, k, hi, hk, rfl, rfl, Or.inl ⟨Or.inl c29, rfl, rfl⟩⟩⟩ | exact ⟨nf, hn, h8, Or.inr ⟨i, k, hi, hk, rfl, rfl, Or.inl ⟨Or.inr ((nI_eq (by omega) (by omega)).mp c37), rfl, rfl⟩⟩⟩ | exact ⟨nf, hn, h8, Or.inr ⟨i, k, hi, hk, rfl, rfl, Or.inr ⟨⟨a29, b29⟩, fun h => c37 (by rw [h]), rfl, rfl⟩⟩⟩ | fail "leaf"
        · refine jm_bipush (-102) dX6_road_40 rfl (by decide) ?_
          refine jm_iret dX6_road_42 rfl rfl ?_
          refine h _ _ ?_
          first | exact ⟨nf, hn, h8, Or.inl ⟨c0.elim (fun h => Or.inl h) (fun h => Or.inr (Or.inl h)), rfl, rfl⟩⟩ | exact ⟨nf, hn, h8, Or.inl ⟨Or.inr (Or.inr c9), rfl, rfl⟩⟩ | exact ⟨nf, hn, h8, Or.inr ⟨i, k, hi, hk, rfl, rfl, Or.inl ⟨Or.inl c29, rfl, rfl⟩⟩⟩ | exact ⟨nf, hn, h8, Or.inr ⟨i, k, hi, hk, rfl, rfl, Or.inl ⟨Or.inr ((nI_eq (by omega) (by omega)).mp c37), rfl, rfl⟩⟩⟩ | exact ⟨nf, hn, h8, Or.inr ⟨i, k, hi, hk, rfl, rfl, Or.inr ⟨⟨a29, b29⟩, fun h => c37 (by rw [h]), rfl, rfl⟩⟩⟩ | fail "leaf"
      · refine jm_if_eq (tgt := 40) dX6_road_32 (by decide) rfl (fun c32 => ?_) (fun c32 => absurd c32 (by decide))
        refine jm_bipush (-102) dX6_road_40 rfl (by decide) ?_
        refine jm_iret dX6_road_42 rfl rfl ?_
        refine h _ _ ?_
        first | exact ⟨nf, hn, h8, Or.inl ⟨c0.elim (fun h => Or.inl h) (fun h => Or.inr (Or.inl h)), rfl, rfl⟩⟩ | exact ⟨nf, hn, h8, Or.inl ⟨Or.inr (Or.inr c9), rfl, rfl⟩⟩ | exact ⟨nf, hn, h8, Or.inr ⟨i, k, hi, hk, rfl, rfl, Or.inl ⟨Or.inl c29, rfl, rfl⟩⟩⟩ | exact ⟨nf, hn, h8, Or.inr ⟨i, k, hi, hk, rfl, rfl, Or.inl ⟨Or.inr ((nI_eq (by omega) (by omega)).mp c37), rfl, rfl⟩⟩⟩ | exact ⟨nf, hn, h8, Or.inr ⟨i, k, hi, hk, rfl, rfl, Or.inr ⟨⟨a29, b29⟩, fun h => c37 (by rw [h]), rfl, rfl⟩⟩⟩ | fail "leaf"
    · refine jm_if_ne (tgt := 25) dX6_road_19 (by decide) rfl (fun c19 => absurd c19 (by decide)) (fun c19 => ?_)
      refine jm_bipush (-101) dX6_road_22 rfl (by decide) ?_
      refine jm_iret dX6_road_24 rfl rfl ?_
      refine h _ _ ?_
      first | exact ⟨nf, hn, h8, Or.inl ⟨c0.elim (fun h => Or.inl h) (fun h => Or.inr (Or.inl h)), rfl, rfl⟩⟩ | exact ⟨nf, hn, h8, Or.inl ⟨Or.inr (Or.inr c9), rfl, rfl⟩⟩ | exact ⟨nf, hn, h8, Or.inr ⟨i, k, hi, hk, rfl, rfl, Or.inl ⟨Or.inl c29, rfl, rfl⟩⟩⟩ | exact ⟨nf, hn, h8, Or.inr ⟨i, k, hi, hk, rfl, rfl, Or.inl ⟨Or.inr ((nI_eq (by omega) (by omega)).mp c37), rfl, rfl⟩⟩⟩ | exact ⟨nf, hn, h8, Or.inr ⟨i, k, hi, hk, rfl, rfl, Or.inr ⟨⟨a29, b29⟩, fun h => c37 (by rw [h]), rfl, rfl⟩⟩⟩ | fail "leaf"
  · refine jm_if_eq (tgt := 22) dX6_road_8 (by decide) rfl (fun c8 => ?_) (fun c8 => absurd c8 (by decide))
    refine jm_bipush (-101) dX6_road_22 rfl (by decide) ?_
    refine jm_iret dX6_road_24 rfl rfl ?_
    refine h _ _ ?_
    first | exact ⟨nf, hn, h8, Or.inl ⟨c0.elim (fun h => Or.inl h) (fun h => Or.inr (Or.inl h)), rfl, rfl⟩⟩ | exact ⟨nf, hn, h8, Or.inl ⟨Or.inr (Or.inr c9), rfl, rfl⟩⟩ | exact ⟨nf, hn, h8, Or.inr ⟨i, k, hi, hk, rfl, rfl, Or.inl ⟨Or.inl c29, rfl, rfl⟩⟩⟩ | exact ⟨nf, hn, h8, Or.inr ⟨i, k, hi, hk, rfl, rfl, Or.inl ⟨Or.inr ((nI_eq (by omega) (by omega)).mp c37), rfl, rfl⟩⟩⟩ | exact ⟨nf, hn, h8, Or.inr ⟨i, k, hi, hk, rfl, rfl, Or.inr ⟨⟨a29, b29⟩, fun h => c37 (by rw [h]), rfl, rfl⟩⟩⟩ | fail "leaf"
set_option maxHeartbeats 400000 in
theorem s_X6_turn {Ln : Nat} {xs : Nat → Int32} {μ : jm_Mem} {Q : Option Value → jm_Mem → Prop}  (h : ∀ r μ1, oc_turn μ  r μ1 → Q (some (.int r)) μ1) : gJ Ln xs 4 mX6_turn 0 (jm_en 2 [.ref 0]) [] μ Q := by
  show jm_J rg_I (rg_X Ln xs) 4 mX6_turn 0 [some (.ref 0), none] [] μ Q
  refine jm_aload_n dX6_turn_0 rfl rfl rfl ?_
  refine jm_getr dX6_turn_1 rfl fe_X6_12 rfl rfl rfl ?_
  refine jm_cV0 dX6_turn_4 rfl cb_X6_119 ci_X4_mayTurn cv_X4_mayTurn rfl rfl rfl (Nat.le_of_ble_eq_true rfl) (Nat.le_of_ble_eq_true rfl) (by decide) (s_X4_mayTurn (fun cl => ?_) (fun cl => ?_))
  · refine jm_if_eq (tgt := 24) dX6_turn_7 (by decide) rfl (fun c7 => absurd c7 (by decide)) (fun c7 => ?_)
    refine jm_aload_n dX6_turn_10 rfl rfl rfl ?_
    refine jm_geti dX6_turn_11 rfl fe_X6_58 rfl rfl rfl ?_
    refine jm_aload_n dX6_turn_14 rfl rfl rfl ?_
    refine jm_geti dX6_turn_15 rfl fe_X6_55 rfl rfl rfl ?_
    refine jm_bipush (nI 10) dX6_turn_18 rfl (by decide) ?_
    refine jm_imul dX6_turn_20 rfl ?_
    refine jm_icmp_lt (tgt := 27) dX6_turn_21 (by decide) rfl (fun c21 => ?_) (fun c21 => ?_)
    · refine jm_aload_n dX6_turn_27 rfl rfl rfl ?_
      refine jm_getr dX6_turn_28 rfl fe_X6_12 rfl rfl rfl ?_
      refine jm_cV0 dX6_turn_31 rfl cb_X6_214 ci_X4_ridersSitting cv_X4_ridersSitting rfl rfl rfl (Nat.le_of_ble_eq_true rfl) (Nat.le_of_ble_eq_true rfl) (by decide) (s_X4_ridersSitting ?_)
      refine jm_istore_n dX6_turn_34 rfl rfl rfl rfl ?_
      dsimp only [List.set]
      refine jm_aload_n dX6_turn_35 rfl rfl rfl ?_
      refine jm_getr dX6_turn_36 rfl fe_X6_12 rfl rfl rfl ?_
      refine jm_cV0 dX6_turn_39 rfl cb_X6_217 ci_X4_takeAllRiders cv_X4_takeAllRiders rfl rfl rfl (Nat.le_of_ble_eq_true rfl) (Nat.le_of_ble_eq_true rfl) (by decide) (s_X4_takeAllRiders ?_)
      refine jm_aload_n dX6_turn_42 rfl rfl rfl ?_
      refine jm_dup dX6_turn_43 rfl rfl ?_
      refine jm_geti dX6_turn_44 rfl fe_X6_58 rfl rfl rfl ?_
      refine jm_iconst (nI 1) dX6_turn_47 rfl (by decide) ?_
      refine jm_iadd dX6_turn_48 rfl ?_
      refine jm_puti dX6_turn_49 rfl pe_X6_58 rfl rfl rfl ?_
      refine jm_aload_n dX6_turn_52 rfl rfl rfl ?_
      refine jm_dup dX6_turn_53 rfl rfl ?_
      refine jm_geti dX6_turn_54 rfl fe_X6_61 rfl rfl rfl ?_
      refine jm_iload_n dX6_turn_57 rfl rfl rfl ?_
      refine jm_iadd dX6_turn_58 rfl ?_
      refine jm_puti dX6_turn_59 rfl pe_X6_61 rfl rfl rfl ?_
      refine jm_iload_n dX6_turn_62 rfl rfl rfl ?_
      refine jm_iret dX6_turn_63 rfl rfl ?_
      refine h _ _ ?_
      first | exact Or.inl ⟨Or.inl cl, rfl, rfl⟩ | exact Or.inl ⟨Or.inr (Int32.not_lt.mp c21), rfl, rfl⟩ | exact Or.inr ⟨cl, c21, rfl, by rw [rd_ni (by decide), rg_tar_na (b := 0) (k := 8) 12 (by decide) (by decide), rg_tar_na (b := 0) (k := 9) 12 (by decide) (by decide)]; rfl⟩ | fail "leaf"
    · refine jm_bipush (-103) dX6_turn_24 rfl (by decide) ?_
      refine jm_iret dX6_turn_26 rfl rfl ?_
      refine h _ _ ?_
      first | exact Or.inl ⟨Or.inl cl, rfl, rfl⟩ | exact Or.inl ⟨Or.inr (Int32.not_lt.mp c21), rfl, rfl⟩ | exact Or.inr ⟨cl, c21, rfl, by rw [rd_ni (by decide), rg_tar_na (b := 0) (k := 8) 12 (by decide) (by decide), rg_tar_na (b := 0) (k := 9) 12 (by decide) (by decide)]; rfl⟩ | fail "leaf"
  · refine jm_if_eq (tgt := 24) dX6_turn_7 (by decide) rfl (fun c7 => ?_) (fun c7 => absurd c7 (by decide))
    refine jm_bipush (-103) dX6_turn_24 rfl (by decide) ?_
    refine jm_iret dX6_turn_26 rfl rfl ?_
    refine h _ _ ?_
    first | exact Or.inl ⟨Or.inl cl, rfl, rfl⟩ | exact Or.inl ⟨Or.inr (Int32.not_lt.mp c21), rfl, rfl⟩ | exact Or.inr ⟨cl, c21, rfl, by rw [rd_ni (by decide), rg_tar_na (b := 0) (k := 8) 12 (by decide) (by decide), rg_tar_na (b := 0) (k := 9) 12 (by decide) (by decide)]; rfl⟩ | fail "leaf"
set_option maxHeartbeats 400000 in
theorem s_X6_look {Ln : Nat} {xs : Nat → Int32} {μ : jm_Mem} {Q : Option Value → jm_Mem → Prop}  (h : Q (some (.int (μ 0 8))) (jm_set μ 0 8 0)) : gJ Ln xs 0 mX6_look 0 (jm_en 2 [.ref 0]) [] μ Q := by
  show jm_J rg_I (rg_X Ln xs) 0 mX6_look 0 [some (.ref 0), none] [] μ Q
  refine jm_aload_n dX6_look_0 rfl rfl rfl ?_
  refine jm_geti dX6_look_1 rfl fe_X6_58 rfl rfl rfl ?_
  refine jm_istore_n dX6_look_4 rfl rfl rfl rfl ?_
  dsimp only [List.set]
  refine jm_aload_n dX6_look_5 rfl rfl rfl ?_
  refine jm_iconst (nI 0) dX6_look_6 rfl (by decide) ?_
  refine jm_puti dX6_look_7 rfl pe_X6_58 rfl rfl rfl ?_
  refine jm_iload_n dX6_look_10 rfl rfl rfl ?_
  refine jm_iret dX6_look_11 rfl rfl ?_
  exact h
set_option maxHeartbeats 400000 in
theorem s_X6_hours {Ln : Nat} {xs : Nat → Int32} {μ : jm_Mem} {Q : Option Value → jm_Mem → Prop} {v : Int32} (h : ∀ r μ1, oc_hours μ v r μ1 → Q (some (.int r)) μ1) : gJ Ln xs 1 mX6_hours 0 (jm_en 3 [.ref 0, .int v]) [] μ Q := by
  show jm_J rg_I (rg_X Ln xs) 1 mX6_hours 0 [some (.ref 0), some (.int v), none] [] μ Q
  refine jm_iload_n dX6_hours_0 rfl rfl rfl ?_
  refine jm_iconst (nI 1) dX6_hours_1 rfl (by decide) ?_
  refine jm_sipush (nI 1000) dX6_hours_2 rfl (by decide) ?_
  refine jm_cS3 dX6_hours_5 rfl cb_X6_68 cs_X6_isWithin (Nat.le_of_ble_eq_true rfl) (Nat.le_of_ble_eq_true rfl) (by decide) (s_X6_isWithin (fun a5 b5 => ?_) (fun c5 => ?_))
  · refine jm_if_ne (tgt := 14) dX6_hours_8 (by decide) rfl (fun c8 => ?_) (fun c8 => absurd c8 (by decide))
    refine jm_aload_n dX6_hours_14 rfl rfl rfl ?_
    refine jm_geti dX6_hours_15 rfl fe_X6_55 rfl rfl rfl ?_
    refine jm_istore_n dX6_hours_18 rfl rfl rfl rfl ?_
    dsimp only [List.set]
    refine jm_aload_n dX6_hours_19 rfl rfl rfl ?_
    refine jm_iload_n dX6_hours_20 rfl rfl rfl ?_
    refine jm_puti dX6_hours_21 rfl pe_X6_55 rfl rfl rfl ?_
    refine jm_iload_n dX6_hours_24 rfl rfl rfl ?_
    refine jm_iret dX6_hours_25 rfl rfl ?_
    refine h _ _ ?_
    first | exact Or.inl ⟨c5, rfl, rfl⟩ | exact Or.inr ⟨⟨a5, b5⟩, rfl, rfl⟩ | fail "leaf"
  · refine jm_if_ne (tgt := 14) dX6_hours_8 (by decide) rfl (fun c8 => absurd c8 (by decide)) (fun c8 => ?_)
    refine jm_bipush (-102) dX6_hours_11 rfl (by decide) ?_
    refine jm_iret dX6_hours_13 rfl rfl ?_
    refine h _ _ ?_
    first | exact Or.inl ⟨c5, rfl, rfl⟩ | exact Or.inr ⟨⟨a5, b5⟩, rfl, rfl⟩ | fail "leaf"
set_option maxHeartbeats 400000 in
theorem s_X6_come {Ln : Nat} {xs : Nat → Int32} {μ : jm_Mem} {Q : Option Value → jm_Mem → Prop} {v : Int32} {nw : Nat} (hw : μ 22 1 = nI nw) (hl : nw ≤ 100) (h : ∀ r μ1, oc_come μ v r μ1 → Q (some (.int r)) μ1) : gJ Ln xs 2 mX6_come 0 (jm_en 2 [.ref 0, .int v]) [] μ Q := by
  show jm_J rg_I (rg_X Ln xs) 2 mX6_come 0 [some (.ref 0), some (.int v)] [] μ Q
  refine jm_iload_n dX6_come_0 rfl rfl rfl ?_
  refine jm_cS1 dX6_come_1 rfl cb_X6_100 cs_X6_isRiderWeight (Nat.le_of_ble_eq_true rfl) (Nat.le_of_ble_eq_true rfl) (by decide) (s_X6_isRiderWeight (fun a1 b1 => ?_) (fun c1 => ?_))
  · refine jm_if_ne (tgt := 10) dX6_come_4 (by decide) rfl (fun c4 => ?_) (fun c4 => absurd c4 (by decide))
    refine jm_aload_n dX6_come_10 rfl rfl rfl ?_
    refine jm_getr dX6_come_11 rfl fe_X6_47 rfl rfl rfl ?_
    refine jm_geti dX6_come_14 rfl fe_X6_220 rfl rfl rfl ?_
    refine jm_bipush (nI 100) dX6_come_17 rfl (by decide) ?_
    refine jm_icmp_lt (tgt := 25) dX6_come_19 (by decide) rfl (fun c19 => ?_) (fun c19 => ?_)
    · have hl1 : nw < 100 := (nI_ltI (by omega) (by omega)).mp (hw ▸ c19)
      refine jm_aload_n dX6_come_25 rfl rfl rfl ?_
      refine jm_getr dX6_come_26 rfl fe_X6_47 rfl rfl rfl ?_
      refine jm_iload_n dX6_come_29 rfl rfl rfl ?_
      refine jm_cV1 dX6_come_30 rfl cb_X6_223 ci_X0_join cv_X0_join rfl rfl rfl (Nat.le_of_ble_eq_true rfl) (Nat.le_of_ble_eq_true rfl) (by decide) (s_X0_join hw hl1 ?_)
      refine jm_aload_n dX6_come_33 rfl rfl rfl ?_
      refine jm_getr dX6_come_34 rfl fe_X6_47 rfl rfl rfl ?_
      refine jm_geti dX6_come_37 rfl fe_X6_220 rfl rfl rfl ?_
      refine jm_iret dX6_come_40 rfl rfl ?_
      refine h _ _ ?_
      first | exact Or.inl ⟨c1, rfl, rfl⟩ | exact Or.inr ⟨⟨a1, b1⟩, nw, hw, Or.inr ⟨hl1, rd_eq, rfl⟩⟩ | exact Or.inr ⟨⟨a1, b1⟩, nw, hw, Or.inl ⟨by have h9 := Nat.not_lt.mp (fun h => c19 (by rw [hw]; exact (nI_ltI (by omega) (by omega)).mpr h)); omega, rfl, rfl⟩⟩ | fail "leaf"
    · refine jm_bipush (-104) dX6_come_22 rfl (by decide) ?_
      refine jm_iret dX6_come_24 rfl rfl ?_
      refine h _ _ ?_
      first | exact Or.inl ⟨c1, rfl, rfl⟩ | exact Or.inr ⟨⟨a1, b1⟩, nw, hw, Or.inr ⟨hl1, rd_eq, rfl⟩⟩ | exact Or.inr ⟨⟨a1, b1⟩, nw, hw, Or.inl ⟨by have h9 := Nat.not_lt.mp (fun h => c19 (by rw [hw]; exact (nI_ltI (by omega) (by omega)).mpr h)); omega, rfl, rfl⟩⟩ | fail "leaf"
  · refine jm_if_ne (tgt := 10) dX6_come_4 (by decide) rfl (fun c4 => absurd c4 (by decide)) (fun c4 => ?_)
    refine jm_bipush (-102) dX6_come_7 rfl (by decide) ?_
    refine jm_iret dX6_come_9 rfl rfl ?_
    refine h _ _ ?_
    first | exact Or.inl ⟨c1, rfl, rfl⟩ | exact Or.inr ⟨⟨a1, b1⟩, nw, hw, Or.inr ⟨hl1, rd_eq, rfl⟩⟩ | exact Or.inr ⟨⟨a1, b1⟩, nw, hw, Or.inl ⟨by have h9 := Nat.not_lt.mp (fun h => c19 (by rw [hw]; exact (nI_ltI (by omega) (by omega)).mpr h)); omega, rfl, rfl⟩⟩ | fail "leaf"
set_option maxHeartbeats 400000 in
theorem s_X6_next {Ln : Nat} {xs : Nat → Int32} {μ : jm_Mem} {Q : Option Value → jm_Mem → Prop} {nw : Nat} (hw : μ 22 1 = nI nw) (hl : nw ≤ 100) (h : ∀ r μ1, oc_next μ  r μ1 → Q (some (.int r)) μ1) : gJ Ln xs 4 mX6_next 0 (jm_en 2 [.ref 0]) [] μ Q := by
  show jm_J rg_I (rg_X Ln xs) 4 mX6_next 0 [some (.ref 0), none] [] μ Q
  refine jm_aload_n dX6_next_0 rfl rfl rfl ?_
  refine jm_getr dX6_next_1 rfl fe_X6_47 rfl rfl rfl ?_
  refine jm_geti dX6_next_4 rfl fe_X6_220 rfl rfl rfl ?_
  refine jm_if_ne (tgt := 12) dX6_next_7 (by decide) rfl (fun c7 => ?_) (fun c7 => ?_)
  · obtain ⟨n, rfl⟩ : ∃ n, nw = n + 1 := ⟨nw - 1, by have : nw ≠ 0 := (fun e => c7 (by rw [hw, e]; rfl)); omega⟩
    refine jm_aload_n dX6_next_12 rfl rfl rfl ?_
    refine jm_getr dX6_next_13 rfl fe_X6_12 rfl rfl rfl ?_
    refine jm_aload_n dX6_next_16 rfl rfl rfl ?_
    refine jm_getr dX6_next_17 rfl fe_X6_47 rfl rfl rfl ?_
    refine jm_getr dX6_next_20 rfl fe_X6_226 rfl rfl rfl ?_
    refine jm_iconst (nI 0) dX6_next_23 rfl (by decide) ?_
    refine jm_iald dX6_next_24 rfl rfl rfl (by decide) rfl (by first | assumption | omega) ?_
    refine jm_cV1 dX6_next_25 rfl cb_X6_129 ci_X4_bestHorse cv_X4_bestHorse rfl rfl rfl (Nat.le_of_ble_eq_true rfl) (Nat.le_of_ble_eq_true rfl) (by decide) (s_X4_bestHorse ?_)
    refine jm_istore_n dX6_next_28 rfl rfl rfl rfl ?_
    dsimp only [List.set]
    refine jm_iload_n dX6_next_29 rfl rfl rfl ?_
    refine jm_iconst (-1) dX6_next_30 rfl (by decide) ?_
    refine jm_icmp_eq (tgt := 58) dX6_next_31 (by decide) rfl (fun c31 => ?_) (fun c31 => ?_)
    · refine jm_iload_n dX6_next_58 rfl rfl rfl ?_
      refine jm_iret dX6_next_59 rfl rfl ?_
      refine h _ _ ?_
      first | exact Or.inl ⟨c7, rfl, rfl⟩ | exact Or.inr ⟨n, by omega, hw, Or.inl ⟨c31, c31, rfl⟩⟩ | exact Or.inr ⟨n, by omega, hw, Or.inr ⟨j, hj, hok, ej, rfl, by rw [rg_add_na (by decide), jm_set_ne 23 (by decide)]⟩⟩ | fail "leaf"
    · obtain ⟨j, hj, hok, ej⟩ := (rg_bst_ix 12).resolve_left c31
      rw [ej]
      refine jm_aload_n dX6_next_34 rfl rfl rfl ?_
      refine jm_getr dX6_next_35 rfl fe_X6_12 rfl rfl rfl ?_
      refine jm_iload_n dX6_next_38 rfl rfl rfl ?_
      refine jm_aload_n dX6_next_39 rfl rfl rfl ?_
      refine jm_getr dX6_next_40 rfl fe_X6_47 rfl rfl rfl ?_
      refine jm_getr dX6_next_43 rfl fe_X6_226 rfl rfl rfl ?_
      refine jm_iconst (nI 0) dX6_next_46 rfl (by decide) ?_
      refine jm_iald dX6_next_47 rfl rfl rfl (by decide) rfl (by first | assumption | omega) ?_
      refine jm_cV2 dX6_next_48 rfl cb_X6_107 ci_X4_putRider cv_X4_putRider rfl rfl rfl (Nat.le_of_ble_eq_true rfl) (Nat.le_of_ble_eq_true rfl) (by decide) (s_X4_putRider hj ?_)
      refine jm_aload_n dX6_next_51 rfl rfl rfl ?_
      refine jm_getr dX6_next_52 rfl fe_X6_47 rfl rfl rfl ?_
      refine jm_cV0 dX6_next_55 rfl cb_X6_229 ci_X0_dropFirst cv_X0_dropFirst rfl rfl rfl (Nat.le_of_ble_eq_true rfl) (Nat.le_of_ble_eq_true rfl) (by decide) (s_X0_dropFirst (by rw [rg_add_na (by decide), rd_na (by decide)]; exact hw) (by omega) ?_)
      refine jm_iload_n dX6_next_58 rfl rfl rfl ?_
      refine jm_iret dX6_next_59 rfl rfl ?_
      refine h _ _ ?_
      first | exact Or.inl ⟨c7, rfl, rfl⟩ | exact Or.inr ⟨n, by omega, hw, Or.inl ⟨c31, c31, rfl⟩⟩ | exact Or.inr ⟨n, by omega, hw, Or.inr ⟨j, hj, hok, ej, rfl, by rw [rg_add_na (by decide), jm_set_ne 23 (by decide)]⟩⟩ | fail "leaf"
  · refine jm_iconst (-1) dX6_next_10 rfl (by decide) ?_
    refine jm_iret dX6_next_11 rfl rfl ?_
    refine h _ _ ?_
    first | exact Or.inl ⟨c7, rfl, rfl⟩ | exact Or.inr ⟨n, by omega, hw, Or.inl ⟨c31, c31, rfl⟩⟩ | exact Or.inr ⟨n, by omega, hw, Or.inr ⟨j, hj, hok, ej, rfl, by rw [rg_add_na (by decide), jm_set_ne 23 (by decide)]⟩⟩ | fail "leaf"
set_option maxHeartbeats 400000 in
theorem s_X6_book {Ln : Nat} {xs : Nat → Int32} {μ : jm_Mem} {Q : Option Value → jm_Mem → Prop} {v : Int32} (h : ∀ r μ1, oc_book μ v r μ1 → Q (some (.int r)) μ1) : gJ Ln xs 1 mX6_book 0 (jm_en 3 [.ref 0, .int v]) [] μ Q := by
  show jm_J rg_I (rg_X Ln xs) 1 mX6_book 0 [some (.ref 0), some (.int v), none] [] μ Q
  refine jm_iload_n dX6_book_0 rfl rfl rfl ?_
  refine jm_iconst (nI 0) dX6_book_1 rfl (by decide) ?_
  refine jm_ldc 100000 dX6_book_2 rfl kc_X6_232 ?_
  refine jm_cS3 dX6_book_4 rfl cb_X6_68 cs_X6_isWithin (Nat.le_of_ble_eq_true rfl) (Nat.le_of_ble_eq_true rfl) (by decide) (s_X6_isWithin (fun a4 b4 => ?_) (fun c4 => ?_))
  · refine jm_if_ne (tgt := 13) dX6_book_7 (by decide) rfl (fun c7 => ?_) (fun c7 => absurd c7 (by decide))
    refine jm_aload_n dX6_book_13 rfl rfl rfl ?_
    refine jm_geti dX6_book_14 rfl fe_X6_61 rfl rfl rfl ?_
    refine jm_istore_n dX6_book_17 rfl rfl rfl rfl ?_
    dsimp only [List.set]
    refine jm_aload_n dX6_book_18 rfl rfl rfl ?_
    refine jm_iconst (nI 0) dX6_book_19 rfl (by decide) ?_
    refine jm_puti dX6_book_20 rfl pe_X6_61 rfl rfl rfl ?_
    refine jm_iload_n dX6_book_23 rfl rfl rfl ?_
    refine jm_iload_n dX6_book_24 rfl rfl rfl ?_
    refine jm_isub dX6_book_25 rfl ?_
    refine jm_iret dX6_book_26 rfl rfl ?_
    refine h _ _ ?_
    first | exact Or.inl ⟨c4, rfl, rfl⟩ | exact Or.inr ⟨⟨a4, b4⟩, rfl, rfl⟩ | fail "leaf"
  · refine jm_if_ne (tgt := 13) dX6_book_7 (by decide) rfl (fun c7 => absurd c7 (by decide)) (fun c7 => ?_)
    refine jm_bipush (-102) dX6_book_10 rfl (by decide) ?_
    refine jm_iret dX6_book_12 rfl rfl ?_
    refine h _ _ ?_
    first | exact Or.inl ⟨c4, rfl, rfl⟩ | exact Or.inr ⟨⟨a4, b4⟩, rfl, rfl⟩ | fail "leaf"
set_option maxHeartbeats 400000 in
theorem s_X6_count {Ln : Nat} {xs : Nat → Int32} {μ : jm_Mem} {Q : Option Value → jm_Mem → Prop} {x : Int32} (h : ∀ r, oc_count μ x r → Q (some (.int r)) μ) : gJ Ln xs 2 mX6_count 0 (jm_en 2 [.ref 0, .int x]) [] μ Q := by
  show jm_J rg_I (rg_X Ln xs) 2 mX6_count 0 [some (.ref 0), some (.int x)] [] μ Q
  rcases pk_ix x (n := 8) (by decide) with hx | hx | ⟨k, hk, rfl⟩
  · refine jm_iload_n dX6_count_0 rfl rfl rfl ?_
    refine jm_tabOut (n := 103) dX6_count_1 (Or.inl (by have := Int32.lt_iff_toInt_lt.mp hx; simpa using this)) (by decide) ?_
    refine jm_bipush (-102) dX6_count_103 rfl (by decide) ?_
    refine jm_iret dX6_count_105 rfl rfl ?_
    refine h _ (Or.inr (Or.inr (Or.inr (Or.inr (Or.inr (Or.inr (Or.inr (Or.inr ⟨Or.inl hx, rfl⟩))))))))
  · refine jm_iload_n dX6_count_0 rfl rfl rfl ?_
    refine jm_tabOut (n := 103) dX6_count_1 (Or.inr (by have := Int32.le_iff_toInt_le.mp hx; rw [nI_toInt (by decide)] at this; omega)) (by decide) ?_
    refine jm_bipush (-102) dX6_count_103 rfl (by decide) ?_
    refine jm_iret dX6_count_105 rfl rfl ?_
    refine h _ (Or.inr (Or.inr (Or.inr (Or.inr (Or.inr (Or.inr (Or.inr (Or.inr ⟨Or.inr hx, rfl⟩))))))))
  · obtain rfl | rfl | rfl | rfl | rfl | rfl | rfl | rfl : k = 0 ∨ k = 1 ∨ k = 2 ∨ k = 3 ∨ k = 4 ∨ k = 5 ∨ k = 6 ∨ k = 7 := by omega
    · refine jm_iload_n dX6_count_0 rfl rfl rfl ?_
      refine jm_tabIn (n := 48) (off := 47) dX6_count_1 (by decide) (by decide) (by decide) (by decide) ?_
      refine jm_aload_n dX6_count_48 rfl rfl rfl ?_
      refine jm_getr dX6_count_49 rfl fe_X6_12 rfl rfl rfl ?_
      refine jm_cV0 dX6_count_52 rfl cb_X6_82 ci_X4_horsesStanding cv_X4_horsesStanding rfl rfl rfl (Nat.le_of_ble_eq_true rfl) (Nat.le_of_ble_eq_true rfl) (by decide) (s_X4_horsesStanding ?_)
      refine jm_iret dX6_count_55 rfl rfl ?_
      exact h _ (Or.inl ⟨rfl, rfl⟩)
    · refine jm_iload_n dX6_count_0 rfl rfl rfl ?_
      refine jm_tabIn (n := 56) (off := 55) dX6_count_1 (by decide) (by decide) (by decide) (by decide) ?_
      refine jm_aload_n dX6_count_56 rfl rfl rfl ?_
      refine jm_getr dX6_count_57 rfl fe_X6_12 rfl rfl rfl ?_
      refine jm_cV0 dX6_count_60 rfl cb_X6_214 ci_X4_ridersSitting cv_X4_ridersSitting rfl rfl rfl (Nat.le_of_ble_eq_true rfl) (Nat.le_of_ble_eq_true rfl) (by decide) (s_X4_ridersSitting ?_)
      refine jm_iret dX6_count_63 rfl rfl ?_
      exact h _ (Or.inr (Or.inl ⟨rfl, rfl⟩))
    · refine jm_iload_n dX6_count_0 rfl rfl rfl ?_
      refine jm_tabIn (n := 64) (off := 63) dX6_count_1 (by decide) (by decide) (by decide) (by decide) ?_
      refine jm_aload_n dX6_count_64 rfl rfl rfl ?_
      refine jm_getr dX6_count_65 rfl fe_X6_47 rfl rfl rfl ?_
      refine jm_geti dX6_count_68 rfl fe_X6_220 rfl rfl rfl ?_
      refine jm_iret dX6_count_71 rfl rfl ?_
      exact h _ (Or.inr (Or.inr (Or.inl ⟨rfl, rfl⟩)))
    · refine jm_iload_n dX6_count_0 rfl rfl rfl ?_
      refine jm_tabIn (n := 72) (off := 71) dX6_count_1 (by decide) (by decide) (by decide) (by decide) ?_
      refine jm_aload_n dX6_count_72 rfl rfl rfl ?_
      refine jm_getr dX6_count_73 rfl fe_X6_40 rfl rfl rfl ?_
      refine jm_geti dX6_count_76 rfl fe_X6_185 rfl rfl rfl ?_
      refine jm_iret dX6_count_79 rfl rfl ?_
      exact h _ (Or.inr (Or.inr (Or.inr (Or.inl ⟨rfl, rfl⟩))))
    · refine jm_iload_n dX6_count_0 rfl rfl rfl ?_
      refine jm_tabIn (n := 80) (off := 79) dX6_count_1 (by decide) (by decide) (by decide) (by decide) ?_
      refine jm_aload_n dX6_count_80 rfl rfl rfl ?_
      refine jm_geti dX6_count_81 rfl fe_X6_58 rfl rfl rfl ?_
      refine jm_iret dX6_count_84 rfl rfl ?_
      exact h _ (Or.inr (Or.inr (Or.inr (Or.inr (Or.inl ⟨rfl, rfl⟩)))))
    · refine jm_iload_n dX6_count_0 rfl rfl rfl ?_
      refine jm_tabIn (n := 85) (off := 84) dX6_count_1 (by decide) (by decide) (by decide) (by decide) ?_
      refine jm_aload_n dX6_count_85 rfl rfl rfl ?_
      refine jm_geti dX6_count_86 rfl fe_X6_61 rfl rfl rfl ?_
      refine jm_iret dX6_count_89 rfl rfl ?_
      exact h _ (Or.inr (Or.inr (Or.inr (Or.inr (Or.inr (Or.inl ⟨rfl, rfl⟩))))))
    · refine jm_iload_n dX6_count_0 rfl rfl rfl ?_
      refine jm_tabIn (n := 90) (off := 89) dX6_count_1 (by decide) (by decide) (by decide) (by decide) ?_
      refine jm_aload_n dX6_count_90 rfl rfl rfl ?_
      refine jm_getr dX6_count_91 rfl fe_X6_12 rfl rfl rfl ?_
      refine jm_geti dX6_count_94 rfl fe_X6_233 rfl rfl rfl ?_
      refine jm_iret dX6_count_97 rfl rfl ?_
      exact h _ (Or.inr (Or.inr (Or.inr (Or.inr (Or.inr (Or.inr (Or.inl ⟨rfl, rfl⟩)))))))
    · refine jm_iload_n dX6_count_0 rfl rfl rfl ?_
      refine jm_tabIn (n := 98) (off := 97) dX6_count_1 (by decide) (by decide) (by decide) (by decide) ?_
      refine jm_aload_n dX6_count_98 rfl rfl rfl ?_
      refine jm_geti dX6_count_99 rfl fe_X6_51 rfl rfl rfl ?_
      refine jm_iret dX6_count_102 rfl rfl ?_
      exact h _ (Or.inr (Or.inr (Or.inr (Or.inr (Or.inr (Or.inr (Or.inr (Or.inl ⟨rfl, rfl⟩))))))))
end
section
theorem rg_clt (x y : Int64) : lg_cmp x y < 0 ↔ x < y := by rw [← Int32.not_le, lg_cmp_ge, Int64.not_le]
theorem rg_cgt (x y : Int64) : 0 < lg_cmp x y ↔ y < x := by
  unfold lg_cmp
  by_cases h1 : x > y
  · rw [if_pos h1]
    exact ⟨fun _ => h1, fun _ => by decide⟩
  · rw [if_neg h1]
    constructor
    · intro h
      split at h <;> exact absurd h (by decide)
    · exact fun h => absurd h h1
theorem rg_in {p : Int32} {n : Nat} (hn : n < 2 ^ 30) (h1 : ¬ p < nI 0) (h2 : ¬ nI n < p) : ∃ j, j < n + 1 ∧ p = nI j := by
  obtain ⟨j, hj, rfl⟩ := nI_of h1
  exact ⟨j, Nat.lt_of_not_le (fun h => h2 ((nI_ltI (a := n) (b := j) (by omega) (by omega)).mpr (by omega))), rfl⟩
theorem rg_m1 (x : Int32) : x + (-1) = x - nI 1 := by rw [Int32.sub_eq_add_neg]; rfl
theorem rg_nin {p : Int32} {n : Nat} (hn : n < 2 ^ 30) (h : p < nI 0 ∨ nI n < p) : p < 0 ∨ nI (n + 1) ≤ p := by
  rcases pk_ix p (n := n + 1) (by omega) with c | c | ⟨j, hj, rfl⟩
  · exact Or.inl c
  · exact Or.inr c
  · rcases h with h | h
    · exact absurd h (nI_pos (by omega))
    · exact absurd ((nI_ltI (by omega) (by omega)).mp h) (by omega)
theorem rg_depo {k : Int32} {m : Nat} (hm : m ≤ 8) (h : k < nI 0 ∨ nI m - nI 1 < k) : k < 0 ∨ nI m ≤ k := by
  rcases pk_ix k (n := m) (by omega) with c | c | ⟨j, hj, rfl⟩
  · exact Or.inl c
  · exact Or.inr c
  · exact (rg_depn hm hj h).elim
theorem rd_back {μ : jm_Mem} {a i : Nat} {w v : Int32} (h : μ a i = v) : jm_set (jm_set μ a i w) a i v = μ := by
  funext b k
  by_cases hb : b = a
  · subst hb
    by_cases hk : k = i
    · subst hk; rw [rd_eq, h]
    · rw [rd_ni hk, rd_ni hk]
  · rw [rd_na hb, rd_na hb]
def rg_S (f c : Nat → Int32) : Nat → Int32
  | 0 => 0
  | n + 1 => rg_S f c n + f n * c n
def md_ld (μ : jm_Mem) (j : Nat) : Int32 := if μ 27 j ≤ 0 then 0 else μ 27 j + μ 28 j
def md_sh (μ : jm_Mem) : Int32 := rg_sh (rg_S (md_ld μ) (μ 25) 12) (rg_S (md_ld μ) (μ 26) 12)
def md_rs (μ : jm_Mem) : Nat → Int32
  | 0 => 0
  | n + 1 => md_rs μ n + rg_lift n (md_ld μ n)
abbrev md_law (μ : jm_Mem) : Prop := md_sh μ ≤ μ 24 7 * μ 24 7 ∧ md_rs μ 12 ≤ μ 24 8 ∧ 0 - md_rs μ 12 ≤ μ 24 8
def md_okw (μ : jm_Mem) (w : Int32) (j : Nat) : Bool := decide (¬ μ 27 j ≤ 0 ∧ μ 28 j = 0 ∧ md_law (jm_set μ 28 j w))
def md_own (μ : jm_Mem) (j : Nat) : Nat → jm_Mem
  | 0 => μ
  | n + 1 => jm_set (md_own μ j n) 31 (4 * j + n) (nI (4 * j + n))
def md_clr (μ : jm_Mem) : Nat → jm_Mem
  | 0 => μ
  | n + 1 => jm_set (md_clr μ n) 28 n 0
def md_shf (μ : jm_Mem) : Nat → jm_Mem
  | 0 => μ
  | n + 1 => jm_set (md_shf μ n) 40 n (md_shf μ n 40 (n + 1))
def md_rc (μ : jm_Mem) : Nat → Nat
  | 0 => 0
  | n + 1 => md_rc μ n + (if μ 27 n ≤ 0 then 0 else if μ 28 n ≤ 0 then 0 else 1)
def md_sum (μ : jm_Mem) : Nat → Int32
  | 0 => 0
  | n + 1 => md_sum μ n + md_ld μ n
theorem md_own_na {μ : jm_Mem} {j b : Nat} (h : b ≠ 31) : ∀ n, md_own μ j n b = μ b
  | 0 => rfl
  | n + 1 => by simp only [md_own]; rw [jm_set_ne b h, md_own_na h n]
theorem md_clr_na {μ : jm_Mem} {b : Nat} (h : b ≠ 28) : ∀ n, md_clr μ n b = μ b
  | 0 => rfl
  | n + 1 => by simp only [md_clr]; rw [jm_set_ne b h, md_clr_na h n]
theorem md_shf_na {μ : jm_Mem} {b : Nat} (h : b ≠ 40) : ∀ n, md_shf μ n b = μ b
  | 0 => rfl
  | n + 1 => by simp only [md_shf]; rw [jm_set_ne b h, md_shf_na h n]
abbrev md_nh (μ : jm_Mem) (p : Int32) : Prop := rg_np p ∨ ∃ j, j < 12 ∧ p = nI j ∧ μ 27 j ≤ 0
abbrev md_nl (μ : jm_Mem) (p g : Int32) : Prop := md_nh μ p ∨ g < 0 ∨ nI 4 ≤ g
def om_horse (μ : jm_Mem) (p w c r : Int32) (μ1 : jm_Mem) : Prop := (rg_np p ∧ r = -101 ∧ μ1 = μ) ∨ ∃ j, j < 12 ∧ p = nI j ∧ (((rg_nw w (nI 1) (nI 200) ∨ rg_nw c (nI 0) (nI 99)) ∧ r = -102 ∧ μ1 = μ) ∨ (rg_wi w (nI 1) (nI 200) ∧ rg_wi c (nI 0) (nI 99) ∧ ((¬ μ 27 j ≤ 0 ∧ r = -103 ∧ μ1 = μ) ∨ (μ 27 j ≤ 0 ∧ r = nI (rg_cnt (jm_set μ 27 j w 27) 12) ∧ μ1 = md_own (jm_set (jm_set (jm_set (jm_set μ 27 j w) 28 j 0) 29 j 1) 30 (8 * j) c) j 4))))
def om_leave (μ : jm_Mem) (p r : Int32) (μ1 : jm_Mem) : Prop := (md_nh μ p ∧ r = -101 ∧ μ1 = μ) ∨ ∃ j, j < 12 ∧ p = nI j ∧ ¬ μ 27 j ≤ 0 ∧ (((¬ μ 28 j = 0 ∨ ∃ i, i < 4 ∧ ¬ μ 31 (4 * j + i) = nI (4 * j + i)) ∧ r = -103 ∧ μ1 = μ) ∨ (μ 28 j = 0 ∧ (∀ i, i < 4 → μ 31 (4 * j + i) = nI (4 * j + i)) ∧ r = μ 27 j ∧ μ1 = jm_set μ 27 j 0))
def om_sit (μ : jm_Mem) (p w r : Int32) (μ1 : jm_Mem) : Prop := (md_nh μ p ∧ r = -101 ∧ μ1 = μ) ∨ ∃ j, j < 12 ∧ p = nI j ∧ ¬ μ 27 j ≤ 0 ∧ ((rg_nw w 1 (nI 150) ∧ r = -102 ∧ μ1 = μ) ∨ (rg_wi w 1 (nI 150) ∧ (((¬ μ 28 j ≤ 0 ∨ ¬ md_law (jm_set μ 28 j w)) ∧ r = -103 ∧ μ1 = μ) ∨ (μ 28 j ≤ 0 ∧ md_law (jm_set μ 28 j w) ∧ μ1 = jm_set μ 28 j w ∧ r = md_sh μ1))))
def om_rise (μ : jm_Mem) (p r : Int32) (μ1 : jm_Mem) : Prop := (md_nh μ p ∧ r = -101 ∧ μ1 = μ) ∨ ∃ j, j < 12 ∧ p = nI j ∧ ¬ μ 27 j ≤ 0 ∧ ((μ 28 j = 0 ∧ r = -103 ∧ μ1 = μ) ∨ (¬ μ 28 j = 0 ∧ r = μ 28 j ∧ μ1 = jm_set μ 28 j 0))
def om_may (μ : jm_Mem) (r : Int32) : Prop := (md_law μ ∧ r = 1) ∨ (¬ md_law μ ∧ r = 0)
def om_law (μ : jm_Mem) (x v r : Int32) (μ1 : jm_Mem) : Prop := (x = 0 ∧ ((rg_nw v (nI 0) (nI 30000) ∧ r = -102 ∧ μ1 = μ) ∨ (rg_wi v (nI 0) (nI 30000) ∧ r = μ 24 7 ∧ μ1 = jm_set μ 24 7 v))) ∨ (x = 1 ∧ ((rg_nw v (nI 0) (nI 5000) ∧ r = -102 ∧ μ1 = μ) ∨ (rg_wi v (nI 0) (nI 5000) ∧ r = μ 24 8 ∧ μ1 = jm_set μ 24 8 v))) ∨ (¬ x = 0 ∧ ¬ x = 1 ∧ r = -101 ∧ μ1 = μ)
def om_best (μ : jm_Mem) (w r : Int32) : Prop := (rg_nw w 1 (nI 150) ∧ r = -102) ∨ (rg_wi w 1 (nI 150) ∧ r = (rg_bst (md_okw μ w) (fun j => md_sh (jm_set μ 28 j w)) 12).1)
def om_rider (μ : jm_Mem) (p r : Int32) : Prop := (rg_np p ∧ r = -101) ∨ ∃ j, j < 12 ∧ p = nI j ∧ r = if μ 27 j ≤ 0 then 0 else μ 28 j
def om_coat (μ : jm_Mem) (p c r : Int32) (μ1 : jm_Mem) : Prop := (md_nh μ p ∧ r = -101 ∧ μ1 = μ) ∨ ∃ j m, j < 12 ∧ p = nI j ∧ ¬ μ 27 j ≤ 0 ∧ μ 29 j = nI m ∧ ((rg_nw c (nI 0) (nI 99) ∧ r = -102 ∧ μ1 = μ) ∨ (rg_wi c (nI 0) (nI 99) ∧ ((m = 8 ∧ r = -104 ∧ μ1 = μ) ∨ (m < 8 ∧ r = nI (m + 1) ∧ μ1 = jm_set (jm_set μ 30 (8 * j + m) c) 29 j (nI (m + 1))))))
def om_sample (μ : jm_Mem) (p k r : Int32) : Prop := (md_nh μ p ∧ r = -101) ∨ ∃ j m, j < 12 ∧ p = nI j ∧ ¬ μ 27 j ≤ 0 ∧ μ 29 j = nI m ∧ ((∃ i, i < m ∧ k = nI i ∧ r = μ 30 (8 * j + m - 1 - i)) ∨ ((k < nI 0 ∨ nI m - nI 1 < k) ∧ r = -1))
def om_strip (μ : jm_Mem) (p c r : Int32) (μ1 : jm_Mem) : Prop := (md_nh μ p ∧ r = -101 ∧ μ1 = μ) ∨ ∃ j m, j < 12 ∧ p = nI j ∧ ¬ μ 27 j ≤ 0 ∧ μ 29 j = nI m ∧ (((∀ i, i < m → ¬ μ 30 (8 * j + i) = c) ∧ r = -102 ∧ μ1 = μ) ∨ ∃ i, i < m ∧ μ 30 (8 * j + i) = c ∧ (∀ t, i < t → t < m → ¬ μ 30 (8 * j + t) = c) ∧ r = nI (m - 1 - i) ∧ μ1 = jm_set μ 29 j (nI (i + 1)))
def om_swap (μ : jm_Mem) (p g q o r : Int32) (μ1 : jm_Mem) : Prop := ((md_nl μ p g ∨ md_nl μ q o) ∧ r = -101 ∧ μ1 = μ) ∨ ∃ j i j2 i2, j < 12 ∧ i < 4 ∧ j2 < 12 ∧ i2 < 4 ∧ p = nI j ∧ g = nI i ∧ q = nI j2 ∧ o = nI i2 ∧ ¬ μ 27 j ≤ 0 ∧ ¬ μ 27 j2 ≤ 0 ∧ ((j = j2 ∧ i = i2 ∧ r = -102 ∧ μ1 = μ) ∨ (¬ (j = j2 ∧ i = i2) ∧ r = 1 ∧ μ1 = jm_set (jm_set μ 31 (4 * j + i) (μ 31 (4 * j2 + i2))) 31 (4 * j2 + i2) (μ 31 (4 * j + i))))
def om_mark (μ : jm_Mem) (p g r : Int32) : Prop := (md_nl μ p g ∧ r = -101) ∨ ∃ j i, j < 12 ∧ i < 4 ∧ p = nI j ∧ g = nI i ∧ ¬ μ 27 j ≤ 0 ∧ r = μ 31 (4 * j + i)
def om_find (μ : jm_Mem) (p g r : Int32) : Prop := ((rg_np p ∨ g < 0 ∨ nI 4 ≤ g) ∧ r = -101) ∨ ∃ j i, j < 12 ∧ i < 4 ∧ p = nI j ∧ g = nI i ∧ (((∀ k, k < 48 → ¬ (¬ μ 27 (k / 4) ≤ 0 ∧ μ 31 k = nI (4 * j + i))) ∧ r = -1) ∨ ∃ k, k < 48 ∧ (¬ μ 27 (k / 4) ≤ 0 ∧ μ 31 k = nI (4 * j + i)) ∧ (∀ k2, k2 < k → ¬ (¬ μ 27 (k2 / 4) ≤ 0 ∧ μ 31 k2 = nI (4 * j + i))) ∧ r = nI k)
def om_fair (μ : jm_Mem) (a b e r : Int32) (μ1 : jm_Mem) : Prop := ((rg_nw a (nI 0) (nI 400) ∨ rg_nw b a (nI 400) ∨ rg_nw e (nI 0) (nI 10000)) ∧ r = -102 ∧ μ1 = μ) ∨ (rg_wi a (nI 0) (nI 400) ∧ rg_wi b a (nI 400) ∧ rg_wi e (nI 0) (nI 10000) ∧ ∃ nf, μ 24 12 = nI nf ∧ ((nf = 8 ∧ r = -104 ∧ μ1 = μ) ∨ (nf < 8 ∧ r = nI nf ∧ μ1 = jm_set (jm_set (jm_set (jm_set μ 34 nf a) 35 nf b) 36 nf e) 24 12 (nI (nf + 1)))))
def om_road (μ : jm_Mem) (a b d r : Int32) (μ1 : jm_Mem) : Prop := ∃ nf, μ 24 12 = nI nf ∧ nf ≤ 8 ∧ (((a < 0 ∨ nI nf ≤ a ∨ b < 0 ∨ nI nf ≤ b) ∧ r = -101 ∧ μ1 = μ) ∨ ∃ i k, i < nf ∧ k < nf ∧ a = nI i ∧ b = nI k ∧ (((rg_nw d (nI 0) (nI 50) ∨ i = k) ∧ r = -102 ∧ μ1 = μ) ∨ (rg_wi d (nI 0) (nI 50) ∧ ¬ i = k ∧ r = μ 37 (8 * i + k) ∧ μ1 = jm_set (jm_set μ 37 (8 * i + k) d) 37 (8 * k + i) d)))
def om_turn (μ : jm_Mem) (r : Int32) (μ1 : jm_Mem) : Prop := ((¬ md_law μ ∨ ¬ μ 24 22 + nI 1 ≤ nI 10 * μ 24 21) ∧ r = -103 ∧ μ1 = μ) ∨ (md_law μ ∧ μ 24 22 + nI 1 ≤ nI 10 * μ 24 21 ∧ r = nI (md_rc μ 12) ∧ μ1 = jm_set (jm_set (md_clr μ 12) 24 22 (μ 24 22 + 1)) 24 23 (μ 24 23 + nI (md_rc μ 12)))
def om_hours (μ : jm_Mem) (v r : Int32) (μ1 : jm_Mem) : Prop := (rg_nw v (nI 1) (nI 1000) ∧ r = -102 ∧ μ1 = μ) ∨ (rg_wi v (nI 1) (nI 1000) ∧ r = μ 24 21 ∧ μ1 = jm_set μ 24 21 v)
def om_come (μ : jm_Mem) (v r : Int32) (μ1 : jm_Mem) : Prop := (rg_nw v 1 (nI 150) ∧ r = -102 ∧ μ1 = μ) ∨ (rg_wi v 1 (nI 150) ∧ ∃ nw, μ 24 24 = nI nw ∧ ((nw = 100 ∧ r = -104 ∧ μ1 = μ) ∨ (nw < 100 ∧ r = nI (nw + 1) ∧ μ1 = jm_set (jm_set μ 40 nw v) 24 24 (nI (nw + 1)))))
def om_next (μ : jm_Mem) (r : Int32) (μ1 : jm_Mem) : Prop := (μ 24 24 = nI 0 ∧ r = -1 ∧ μ1 = μ) ∨ ∃ nw, nw < 100 ∧ μ 24 24 = nI (nw + 1) ∧ (((rg_bst (md_okw μ (μ 40 0)) (fun j => md_sh (jm_set μ 28 j (μ 40 0))) 12).1 = -1 ∧ r = -1 ∧ μ1 = μ) ∨ ∃ j, j < 12 ∧ (rg_bst (md_okw μ (μ 40 0)) (fun j => md_sh (jm_set μ 28 j (μ 40 0))) 12).1 = nI j ∧ r = nI j ∧ μ1 = md_shf (jm_set (jm_set μ 28 j (μ 40 0)) 24 24 (nI nw)) nw)
def om_book (μ : jm_Mem) (v r : Int32) (μ1 : jm_Mem) : Prop := (rg_nw v (nI 0) 100000 ∧ r = -102 ∧ μ1 = μ) ∨ (rg_wi v (nI 0) 100000 ∧ r = μ 24 23 - v ∧ μ1 = jm_set μ 24 23 0)
def om_count (μ : jm_Mem) (x r : Int32) : Prop := (x = nI 0 ∧ r = nI (rg_cnt (μ 27) 12)) ∨ (x = nI 1 ∧ r = nI (md_rc μ 12)) ∨ (x = nI 2 ∧ r = μ 24 24) ∨ (x = nI 3 ∧ r = μ 24 12) ∨ (x = nI 4 ∧ r = μ 24 22) ∨ (x = nI 5 ∧ r = μ 24 23) ∨ (x = nI 6 ∧ r = md_sum μ 12) ∨ (x = nI 7 ∧ r = μ 24 9) ∨ ((x < 0 ∨ nI 8 ≤ x) ∧ r = -102)
set_option maxHeartbeats 400000 in
theorem s_X7_in {Ln : Nat} {xs : Nat → Int32} {μ : jm_Mem} {Q : Option Value → jm_Mem → Prop} {v lo hi : Int64} (a b c : Int32) (ha : v = a.toInt64) (hb : lo = b.toInt64) (hc : hi = c.toInt64) (h1 : ¬ a < b → ¬ c < a → Q (some (.int 1)) μ) (h0 : a < b ∨ c < a → Q (some (.int 0)) μ) : gJ Ln xs 0 mX7_in 0 (jm_en 6 [.long v, .long lo, .long hi]) [] μ Q := by
  show jm_J rg_I (rg_X Ln xs) 0 mX7_in 0 [some (.long v), none, some (.long lo), none, some (.long hi), none] [] μ Q
  subst ha hb hc
  refine jm_lload_n dX7_in_0 rfl rfl rfl ?_
  refine jm_lload_n dX7_in_1 rfl rfl rfl ?_
  refine jm_lcmp dX7_in_2 rfl ?_
  refine jm_if_lt (tgt := 17) dX7_in_3 (by decide) rfl (fun c3 => ?_) (fun c3 => ?_)
  · refine jm_iconst (nI 0) dX7_in_17 rfl (by decide) ?_
    refine jm_iret dX7_in_18 rfl rfl ?_
    first | exact h1 (fun h => c3 ((rg_clt _ _).mpr (Int32.toInt64_lt.mpr h))) (fun h => c10 ((rg_cgt _ _).mpr (Int32.toInt64_lt.mpr h))) | exact h0 (Or.inl (Int32.toInt64_lt.mp ((rg_clt _ _).mp c3))) | exact h0 (Or.inr (Int32.toInt64_lt.mp ((rg_cgt _ _).mp c10))) | fail "leaf"
  · refine jm_lload_n dX7_in_6 rfl rfl rfl ?_
    refine jm_lload dX7_in_7 rfl rfl ?_
    refine jm_lcmp dX7_in_9 rfl ?_
    refine jm_if_gt (tgt := 17) dX7_in_10 (by decide) rfl (fun c10 => ?_) (fun c10 => ?_)
    · refine jm_iconst (nI 0) dX7_in_17 rfl (by decide) ?_
      refine jm_iret dX7_in_18 rfl rfl ?_
      first | exact h1 (fun h => c3 ((rg_clt _ _).mpr (Int32.toInt64_lt.mpr h))) (fun h => c10 ((rg_cgt _ _).mpr (Int32.toInt64_lt.mpr h))) | exact h0 (Or.inl (Int32.toInt64_lt.mp ((rg_clt _ _).mp c3))) | exact h0 (Or.inr (Int32.toInt64_lt.mp ((rg_cgt _ _).mp c10))) | fail "leaf"
    · refine jm_iconst (nI 1) dX7_in_13 rfl (by decide) ?_
      refine jm_goto (n := 18) dX7_in_14 (by decide) ?_
      refine jm_iret dX7_in_18 rfl rfl ?_
      first | exact h1 (fun h => c3 ((rg_clt _ _).mpr (Int32.toInt64_lt.mpr h))) (fun h => c10 ((rg_cgt _ _).mpr (Int32.toInt64_lt.mpr h))) | exact h0 (Or.inl (Int32.toInt64_lt.mp ((rg_clt _ _).mp c3))) | exact h0 (Or.inr (Int32.toInt64_lt.mp ((rg_cgt _ _).mp c10))) | fail "leaf"
set_option maxHeartbeats 400000 in
theorem s_X7_isPlace {Ln : Nat} {xs : Nat → Int32} {μ : jm_Mem} {Q : Option Value → jm_Mem → Prop} {p : Int32} (h1 : ∀ j : Nat, j < 12 → p = nI j → Q (some (.int 1)) μ) (h0 : p < 0 ∨ nI 12 ≤ p → Q (some (.int 0)) μ) : gJ Ln xs 1 mX7_isPlace 0 (jm_en 1 [.int p]) [] μ Q := by
  show jm_J rg_I (rg_X Ln xs) 1 mX7_isPlace 0 [some (.int p)] [] μ Q
  refine jm_iload_n dX7_isPlace_0 rfl rfl rfl ?_
  refine jm_i2l dX7_isPlace_1 rfl ?_
  refine jm_lconst 0 dX7_isPlace_2 rfl (by decide) ?_
  refine jm_ldc2 11 dX7_isPlace_3 rfl kc_X7_73 ?_
  refine jm_cS3 dX7_isPlace_6 rfl cb_X7_75 cs_X7_in (Nat.le_of_ble_eq_true rfl) (Nat.le_of_ble_eq_true rfl) (by decide) (s_X7_in p (nI 0) (nI 11) rfl (by decide) (by decide) (fun a6 b6 => ?_) (fun c6 => ?_))
  · refine jm_iret dX7_isPlace_9 rfl rfl ?_
    first | (obtain ⟨j, hj, e⟩ := rg_in (n := 11) (by decide) a6 b6; exact h1 j hj e) | exact h0 (rg_nin (n := 11) (by decide) c6) | fail "leaf"
  · refine jm_iret dX7_isPlace_9 rfl rfl ?_
    first | (obtain ⟨j, hj, e⟩ := rg_in (n := 11) (by decide) a6 b6; exact h1 j hj e) | exact h0 (rg_nin (n := 11) (by decide) c6) | fail "leaf"
set_option maxHeartbeats 400000 in
theorem s_X7_isHorse {Ln : Nat} {xs : Nat → Int32} {μ : jm_Mem} {Q : Option Value → jm_Mem → Prop} {p : Int32} (h1 : ∀ j : Nat, j < 12 → p = nI j → ¬ μ 27 j ≤ 0 → Q (some (.int 1)) μ) (h0 : md_nh μ p → Q (some (.int 0)) μ) : gJ Ln xs 2 mX7_isHorse 0 (jm_en 2 [.ref 24, .int p]) [] μ Q := by
  show jm_J rg_I (rg_X Ln xs) 2 mX7_isHorse 0 [some (.ref 24), some (.int p)] [] μ Q
  refine jm_iload_n dX7_isHorse_0 rfl rfl rfl ?_
  refine jm_cS1 dX7_isHorse_1 rfl cb_X7_79 cs_X7_isPlace (Nat.le_of_ble_eq_true rfl) (Nat.le_of_ble_eq_true rfl) (by decide) (s_X7_isPlace (fun j hj e => ?_) (fun c0 => ?_))
  · subst e
    refine jm_if_eq (tgt := 20) dX7_isHorse_4 (by decide) rfl (fun c4 => absurd c4 (by decide)) (fun c4 => ?_)
    refine jm_aload_n dX7_isHorse_7 rfl rfl rfl ?_
    refine jm_getr dX7_isHorse_8 rfl fe_X7_16 rfl rfl rfl ?_
    refine jm_iload_n dX7_isHorse_11 rfl rfl rfl ?_
    refine jm_iald dX7_isHorse_12 rfl rfl rfl (by decide) rfl (by first | assumption | omega) ?_
    refine jm_if_le (tgt := 20) dX7_isHorse_13 (by decide) rfl (fun c13 => ?_) (fun c13 => ?_)
    · refine jm_iconst (nI 0) dX7_isHorse_20 rfl (by decide) ?_
      refine jm_iret dX7_isHorse_21 rfl rfl ?_
      first | exact h1 j hj rfl c13 | exact h0 (Or.inl c0) | exact h0 (Or.inr ⟨j, hj, rfl, c13⟩) | fail "leaf"
    · refine jm_iconst (nI 1) dX7_isHorse_16 rfl (by decide) ?_
      refine jm_goto (n := 21) dX7_isHorse_17 (by decide) ?_
      refine jm_iret dX7_isHorse_21 rfl rfl ?_
      first | exact h1 j hj rfl c13 | exact h0 (Or.inl c0) | exact h0 (Or.inr ⟨j, hj, rfl, c13⟩) | fail "leaf"
  · refine jm_if_eq (tgt := 20) dX7_isHorse_4 (by decide) rfl (fun c4 => ?_) (fun c4 => absurd c4 (by decide))
    refine jm_iconst (nI 0) dX7_isHorse_20 rfl (by decide) ?_
    refine jm_iret dX7_isHorse_21 rfl rfl ?_
    first | exact h1 j hj rfl c13 | exact h0 (Or.inl c0) | exact h0 (Or.inr ⟨j, hj, rfl, c13⟩) | fail "leaf"
set_option maxHeartbeats 400000 in
theorem s_X7_isRider {Ln : Nat} {xs : Nat → Int32} {μ : jm_Mem} {Q : Option Value → jm_Mem → Prop} {v : Int32} (h1 : ¬ v < 1 → ¬ nI 150 < v → Q (some (.int 1)) μ) (h0 : v < 1 ∨ nI 150 < v → Q (some (.int 0)) μ) : gJ Ln xs 1 mX7_isRider 0 (jm_en 1 [.int v]) [] μ Q := by
  show jm_J rg_I (rg_X Ln xs) 1 mX7_isRider 0 [some (.int v)] [] μ Q
  refine jm_iload_n dX7_isRider_0 rfl rfl rfl ?_
  refine jm_i2l dX7_isRider_1 rfl ?_
  refine jm_lconst 1 dX7_isRider_2 rfl (by decide) ?_
  refine jm_ldc2 150 dX7_isRider_3 rfl kc_X7_108 ?_
  refine jm_cS3 dX7_isRider_6 rfl cb_X7_75 cs_X7_in (Nat.le_of_ble_eq_true rfl) (Nat.le_of_ble_eq_true rfl) (by decide) (s_X7_in v 1 (nI 150) rfl (by decide) (by decide) (fun a6 b6 => ?_) (fun c6 => ?_))
  · refine jm_iret dX7_isRider_9 rfl rfl ?_
    first | exact h1 a6 b6 | exact h0 c6 | fail "leaf"
  · refine jm_iret dX7_isRider_9 rfl rfl ?_
    first | exact h1 a6 b6 | exact h0 c6 | fail "leaf"
set_option maxHeartbeats 1000000 in
theorem l_X7_horses {Ln : Nat} {xs : Nat → Int32} {μ : jm_Mem} {Q : Option Value → jm_Mem → Prop}  (h : Q (some (.int (nI (rg_cnt (μ 27) 12)))) μ) : ∀ i, i ≤ 12 → jm_J rg_I (rg_X Ln xs) 0 mX7_horses 4 [some (.ref 24), some (.int (nI (rg_cnt (μ 27) i))), some (.int (nI i))] [] μ Q := by
  refine jm_for 12 ?_ ?_
  · skip
    refine jm_iload_n dX7_horses_4 rfl rfl rfl ?_
    refine jm_bipush (nI 12) dX7_horses_5 rfl (by decide) ?_
    refine jm_icmp_ge (tgt := 33) dX7_horses_7 (by decide) rfl (fun c7 => ?_) (fun c7 => absurd ((nI_leI (by omega) (by omega)).mpr (Nat.le_refl _)) c7)
    refine jm_iload_n dX7_horses_33 rfl rfl rfl ?_
    refine jm_iret dX7_horses_34 rfl rfl ?_
    exact h
  · intro i hi ih 
    refine jm_iload_n dX7_horses_4 rfl rfl rfl ?_
    refine jm_bipush (nI 12) dX7_horses_5 rfl (by decide) ?_
    refine jm_icmp_ge (tgt := 33) dX7_horses_7 (by decide) rfl (fun c7 => absurd ((nI_leI (by omega) (by omega)).mp c7) (by omega)) (fun c7 => ?_)
    refine jm_iload_n dX7_horses_10 rfl rfl rfl ?_
    refine jm_aload_n dX7_horses_11 rfl rfl rfl ?_
    refine jm_getr dX7_horses_12 rfl fe_X7_16 rfl rfl rfl ?_
    refine jm_iload_n dX7_horses_15 rfl rfl rfl ?_
    refine jm_iald dX7_horses_16 rfl rfl rfl (by decide) rfl (by first | assumption | omega) ?_
    refine jm_if_le (tgt := 24) dX7_horses_17 (by decide) rfl (fun c17 => ?_) (fun c17 => ?_)
    · refine jm_iconst (nI 0) dX7_horses_24 rfl (by decide) ?_
      refine jm_iadd dX7_horses_25 rfl ?_
      refine jm_istore_n dX7_horses_26 rfl rfl rfl rfl ?_
      dsimp only [List.set]
      refine jm_iinc (nI 1) dX7_horses_27 rfl rfl (by decide) rfl rfl ?_
      dsimp only [List.set]
      refine jm_goto (n := 4) dX7_horses_30 (by decide) ?_
      rw [nI_add, nI_add]
      first | (have e := ih; simp only [rg_cnt, if_pos c17] at e; exact e) | (have e := ih; simp only [rg_cnt, if_neg c17] at e; exact e) | fail "stop"
    · refine jm_iconst (nI 1) dX7_horses_20 rfl (by decide) ?_
      refine jm_goto (n := 25) dX7_horses_21 (by decide) ?_
      refine jm_iadd dX7_horses_25 rfl ?_
      refine jm_istore_n dX7_horses_26 rfl rfl rfl rfl ?_
      dsimp only [List.set]
      refine jm_iinc (nI 1) dX7_horses_27 rfl rfl (by decide) rfl rfl ?_
      dsimp only [List.set]
      refine jm_goto (n := 4) dX7_horses_30 (by decide) ?_
      rw [nI_add, nI_add]
      first | (have e := ih; simp only [rg_cnt, if_pos c17] at e; exact e) | (have e := ih; simp only [rg_cnt, if_neg c17] at e; exact e) | fail "stop"
set_option maxHeartbeats 400000 in
theorem s_X7_horses {Ln : Nat} {xs : Nat → Int32} {μ : jm_Mem} {Q : Option Value → jm_Mem → Prop}  (h : Q (some (.int (nI (rg_cnt (μ 27) 12)))) μ) : gJ Ln xs 0 mX7_horses 0 (jm_en 3 [.ref 24]) [] μ Q := by
  show jm_J rg_I (rg_X Ln xs) 0 mX7_horses 0 [some (.ref 24), none, none] [] μ Q
  refine jm_iconst (nI 0) dX7_horses_0 rfl (by decide) ?_
  refine jm_istore_n dX7_horses_1 rfl rfl rfl rfl ?_
  dsimp only [List.set]
  refine jm_iconst (nI 0) dX7_horses_2 rfl (by decide) ?_
  refine jm_istore_n dX7_horses_3 rfl rfl rfl rfl ?_
  dsimp only [List.set]
  exact l_X7_horses h 0 (by omega)
set_option maxHeartbeats 1000000 in
theorem l_X7_riders {Ln : Nat} {xs : Nat → Int32} {μ : jm_Mem} {Q : Option Value → jm_Mem → Prop}  (h : Q (some (.int (nI (md_rc μ 12)))) μ) : ∀ i, i ≤ 12 → jm_J rg_I (rg_X Ln xs) 0 mX7_riders 4 [some (.ref 24), some (.int (nI (md_rc μ i))), some (.int (nI i))] [] μ Q := by
  refine jm_for 12 ?_ ?_
  · skip
    refine jm_iload_n dX7_riders_4 rfl rfl rfl ?_
    refine jm_bipush (nI 12) dX7_riders_5 rfl (by decide) ?_
    refine jm_icmp_ge (tgt := 42) dX7_riders_7 (by decide) rfl (fun c7 => ?_) (fun c7 => absurd ((nI_leI (by omega) (by omega)).mpr (Nat.le_refl _)) c7)
    refine jm_iload_n dX7_riders_42 rfl rfl rfl ?_
    refine jm_iret dX7_riders_43 rfl rfl ?_
    exact h
  · intro i hi ih 
    refine jm_iload_n dX7_riders_4 rfl rfl rfl ?_
    refine jm_bipush (nI 12) dX7_riders_5 rfl (by decide) ?_
    refine jm_icmp_ge (tgt := 42) dX7_riders_7 (by decide) rfl (fun c7 => absurd ((nI_leI (by omega) (by omega)).mp c7) (by omega)) (fun c7 => ?_)
    refine jm_iload_n dX7_riders_10 rfl rfl rfl ?_
    refine jm_aload_n dX7_riders_11 rfl rfl rfl ?_
    refine jm_getr dX7_riders_12 rfl fe_X7_16 rfl rfl rfl ?_
    refine jm_iload_n dX7_riders_15 rfl rfl rfl ?_
    refine jm_iald dX7_riders_16 rfl rfl rfl (by decide) rfl (by first | assumption | omega) ?_
    refine jm_if_le (tgt := 33) dX7_riders_17 (by decide) rfl (fun c17 => ?_) (fun c17 => ?_)
    · refine jm_iconst (nI 0) dX7_riders_33 rfl (by decide) ?_
      refine jm_iadd dX7_riders_34 rfl ?_
      refine jm_istore_n dX7_riders_35 rfl rfl rfl rfl ?_
      dsimp only [List.set]
      refine jm_iinc (nI 1) dX7_riders_36 rfl rfl (by decide) rfl rfl ?_
      dsimp only [List.set]
      refine jm_goto (n := 4) dX7_riders_39 (by decide) ?_
      rw [nI_add, nI_add]
      first | (have e := ih; simp only [md_rc, if_pos c17] at e; exact e) | (have e := ih; simp only [md_rc, if_neg c17, if_neg c26] at e; exact e) | (have e := ih; simp only [md_rc, if_neg c17, if_pos c26] at e; exact e) | fail "stop"
    · refine jm_aload_n dX7_riders_20 rfl rfl rfl ?_
      refine jm_getr dX7_riders_21 rfl fe_X7_19 rfl rfl rfl ?_
      refine jm_iload_n dX7_riders_24 rfl rfl rfl ?_
      refine jm_iald dX7_riders_25 rfl rfl rfl (by decide) rfl (by first | assumption | omega) ?_
      refine jm_if_le (tgt := 33) dX7_riders_26 (by decide) rfl (fun c26 => ?_) (fun c26 => ?_)
      · refine jm_iconst (nI 0) dX7_riders_33 rfl (by decide) ?_
        refine jm_iadd dX7_riders_34 rfl ?_
        refine jm_istore_n dX7_riders_35 rfl rfl rfl rfl ?_
        dsimp only [List.set]
        refine jm_iinc (nI 1) dX7_riders_36 rfl rfl (by decide) rfl rfl ?_
        dsimp only [List.set]
        refine jm_goto (n := 4) dX7_riders_39 (by decide) ?_
        rw [nI_add, nI_add]
        first | (have e := ih; simp only [md_rc, if_pos c17] at e; exact e) | (have e := ih; simp only [md_rc, if_neg c17, if_neg c26] at e; exact e) | (have e := ih; simp only [md_rc, if_neg c17, if_pos c26] at e; exact e) | fail "stop"
      · refine jm_iconst (nI 1) dX7_riders_29 rfl (by decide) ?_
        refine jm_goto (n := 34) dX7_riders_30 (by decide) ?_
        refine jm_iadd dX7_riders_34 rfl ?_
        refine jm_istore_n dX7_riders_35 rfl rfl rfl rfl ?_
        dsimp only [List.set]
        refine jm_iinc (nI 1) dX7_riders_36 rfl rfl (by decide) rfl rfl ?_
        dsimp only [List.set]
        refine jm_goto (n := 4) dX7_riders_39 (by decide) ?_
        rw [nI_add, nI_add]
        first | (have e := ih; simp only [md_rc, if_pos c17] at e; exact e) | (have e := ih; simp only [md_rc, if_neg c17, if_neg c26] at e; exact e) | (have e := ih; simp only [md_rc, if_neg c17, if_pos c26] at e; exact e) | fail "stop"
set_option maxHeartbeats 400000 in
theorem s_X7_riders {Ln : Nat} {xs : Nat → Int32} {μ : jm_Mem} {Q : Option Value → jm_Mem → Prop}  (h : Q (some (.int (nI (md_rc μ 12)))) μ) : gJ Ln xs 0 mX7_riders 0 (jm_en 3 [.ref 24]) [] μ Q := by
  show jm_J rg_I (rg_X Ln xs) 0 mX7_riders 0 [some (.ref 24), none, none] [] μ Q
  refine jm_iconst (nI 0) dX7_riders_0 rfl (by decide) ?_
  refine jm_istore_n dX7_riders_1 rfl rfl rfl rfl ?_
  dsimp only [List.set]
  refine jm_iconst (nI 0) dX7_riders_2 rfl (by decide) ?_
  refine jm_istore_n dX7_riders_3 rfl rfl rfl rfl ?_
  dsimp only [List.set]
  exact l_X7_riders h 0 (by omega)
set_option maxHeartbeats 400000 in
theorem s_X7_load {Ln : Nat} {xs : Nat → Int32} {μ : jm_Mem} {Q : Option Value → jm_Mem → Prop} {j : Nat} (hj : j < 12) (h : Q (some (.int (md_ld μ j))) μ) : gJ Ln xs 0 mX7_load 0 (jm_en 2 [.ref 24, .int (nI j)]) [] μ Q := by
  show jm_J rg_I (rg_X Ln xs) 0 mX7_load 0 [some (.ref 24), some (.int (nI j))] [] μ Q
  refine jm_aload_n dX7_load_0 rfl rfl rfl ?_
  refine jm_getr dX7_load_1 rfl fe_X7_16 rfl rfl rfl ?_
  refine jm_iload_n dX7_load_4 rfl rfl rfl ?_
  refine jm_iald dX7_load_5 rfl rfl rfl (by decide) rfl (by first | assumption | omega) ?_
  refine jm_if_le (tgt := 25) dX7_load_6 (by decide) rfl (fun c6 => ?_) (fun c6 => ?_)
  · refine jm_iconst (nI 0) dX7_load_25 rfl (by decide) ?_
    refine jm_iret dX7_load_26 rfl rfl ?_
    first | exact rd_v h (if_neg c6).symm | exact rd_v h (if_pos c6).symm | fail "leaf"
  · refine jm_aload_n dX7_load_9 rfl rfl rfl ?_
    refine jm_getr dX7_load_10 rfl fe_X7_16 rfl rfl rfl ?_
    refine jm_iload_n dX7_load_13 rfl rfl rfl ?_
    refine jm_iald dX7_load_14 rfl rfl rfl (by decide) rfl (by first | assumption | omega) ?_
    refine jm_aload_n dX7_load_15 rfl rfl rfl ?_
    refine jm_getr dX7_load_16 rfl fe_X7_19 rfl rfl rfl ?_
    refine jm_iload_n dX7_load_19 rfl rfl rfl ?_
    refine jm_iald dX7_load_20 rfl rfl rfl (by decide) rfl (by first | assumption | omega) ?_
    refine jm_iadd dX7_load_21 rfl ?_
    refine jm_goto (n := 26) dX7_load_22 (by decide) ?_
    refine jm_iret dX7_load_26 rfl rfl ?_
    first | exact rd_v h (if_neg c6).symm | exact rd_v h (if_pos c6).symm | fail "leaf"
set_option maxHeartbeats 1000000 in
theorem l_X7_shakeOf {Ln : Nat} {xs : Nat → Int32} {μ : jm_Mem} {Q : Option Value → jm_Mem → Prop}  (h : Q (some (.int (md_sh μ))) μ) : ∀ i, i ≤ 12 → jm_J rg_I (rg_X Ln xs) 1 mX7_shakeOf 6 [some (.ref 24), some (.int (rg_S (md_ld μ) (μ 25) i)), some (.int (rg_S (md_ld μ) (μ 26) i)), some (.int (nI i))] [] μ Q := by
  refine jm_for 12 ?_ ?_
  · skip
    refine jm_iload_n dX7_shakeOf_6 rfl rfl rfl ?_
    refine jm_bipush (nI 12) dX7_shakeOf_7 rfl (by decide) ?_
    refine jm_icmp_ge (tgt := 48) dX7_shakeOf_9 (by decide) rfl (fun c9 => ?_) (fun c9 => absurd ((nI_leI (by omega) (by omega)).mpr (Nat.le_refl _)) c9)
    refine jm_iload_n dX7_shakeOf_48 rfl rfl rfl ?_
    refine jm_iload_n dX7_shakeOf_49 rfl rfl rfl ?_
    refine jm_imul dX7_shakeOf_50 rfl ?_
    refine jm_iload_n dX7_shakeOf_51 rfl rfl rfl ?_
    refine jm_iload_n dX7_shakeOf_52 rfl rfl rfl ?_
    refine jm_imul dX7_shakeOf_53 rfl ?_
    refine jm_iadd dX7_shakeOf_54 rfl ?_
    refine jm_iret dX7_shakeOf_55 rfl rfl ?_
    exact h
  · intro i hi ih 
    refine jm_iload_n dX7_shakeOf_6 rfl rfl rfl ?_
    refine jm_bipush (nI 12) dX7_shakeOf_7 rfl (by decide) ?_
    refine jm_icmp_ge (tgt := 48) dX7_shakeOf_9 (by decide) rfl (fun c9 => absurd ((nI_leI (by omega) (by omega)).mp c9) (by omega)) (fun c9 => ?_)
    refine jm_iload_n dX7_shakeOf_12 rfl rfl rfl ?_
    refine jm_aload_n dX7_shakeOf_13 rfl rfl rfl ?_
    refine jm_iload_n dX7_shakeOf_14 rfl rfl rfl ?_
    refine jm_cV1 dX7_shakeOf_15 rfl cb_X7_94 ci_X7_load cv_X7_load rfl rfl rfl (Nat.le_of_ble_eq_true rfl) (Nat.le_of_ble_eq_true rfl) (by decide) (s_X7_load hi ?_)
    refine jm_aload_n dX7_shakeOf_18 rfl rfl rfl ?_
    refine jm_getr dX7_shakeOf_19 rfl fe_X7_7 rfl rfl rfl ?_
    refine jm_iload_n dX7_shakeOf_22 rfl rfl rfl ?_
    refine jm_iald dX7_shakeOf_23 rfl rfl rfl (by decide) rfl (by first | assumption | omega) ?_
    refine jm_imul dX7_shakeOf_24 rfl ?_
    refine jm_iadd dX7_shakeOf_25 rfl ?_
    refine jm_istore_n dX7_shakeOf_26 rfl rfl rfl rfl ?_
    dsimp only [List.set]
    refine jm_iload_n dX7_shakeOf_27 rfl rfl rfl ?_
    refine jm_aload_n dX7_shakeOf_28 rfl rfl rfl ?_
    refine jm_iload_n dX7_shakeOf_29 rfl rfl rfl ?_
    refine jm_cV1 dX7_shakeOf_30 rfl cb_X7_94 ci_X7_load cv_X7_load rfl rfl rfl (Nat.le_of_ble_eq_true rfl) (Nat.le_of_ble_eq_true rfl) (by decide) (s_X7_load hi ?_)
    refine jm_aload_n dX7_shakeOf_33 rfl rfl rfl ?_
    refine jm_getr dX7_shakeOf_34 rfl fe_X7_13 rfl rfl rfl ?_
    refine jm_iload_n dX7_shakeOf_37 rfl rfl rfl ?_
    refine jm_iald dX7_shakeOf_38 rfl rfl rfl (by decide) rfl (by first | assumption | omega) ?_
    refine jm_imul dX7_shakeOf_39 rfl ?_
    refine jm_iadd dX7_shakeOf_40 rfl ?_
    refine jm_istore_n dX7_shakeOf_41 rfl rfl rfl rfl ?_
    dsimp only [List.set]
    refine jm_iinc (nI 1) dX7_shakeOf_42 rfl rfl (by decide) rfl rfl ?_
    dsimp only [List.set]
    refine jm_goto (n := 6) dX7_shakeOf_45 (by decide) ?_
    rw [nI_add]; exact ih
set_option maxHeartbeats 400000 in
theorem s_X7_shakeOf {Ln : Nat} {xs : Nat → Int32} {μ : jm_Mem} {Q : Option Value → jm_Mem → Prop}  (h : Q (some (.int (md_sh μ))) μ) : gJ Ln xs 1 mX7_shakeOf 0 (jm_en 4 [.ref 24]) [] μ Q := by
  show jm_J rg_I (rg_X Ln xs) 1 mX7_shakeOf 0 [some (.ref 24), none, none, none] [] μ Q
  refine jm_iconst (nI 0) dX7_shakeOf_0 rfl (by decide) ?_
  refine jm_istore_n dX7_shakeOf_1 rfl rfl rfl rfl ?_
  dsimp only [List.set]
  refine jm_iconst (nI 0) dX7_shakeOf_2 rfl (by decide) ?_
  refine jm_istore_n dX7_shakeOf_3 rfl rfl rfl rfl ?_
  dsimp only [List.set]
  refine jm_iconst (nI 0) dX7_shakeOf_4 rfl (by decide) ?_
  refine jm_istore_n dX7_shakeOf_5 rfl rfl rfl rfl ?_
  dsimp only [List.set]
  exact l_X7_shakeOf h 0 (by omega)
set_option maxHeartbeats 1000000 in
theorem l_X7_risingOf {Ln : Nat} {xs : Nat → Int32} {μ : jm_Mem} {Q : Option Value → jm_Mem → Prop}  (h : Q (some (.int (md_rs μ 12))) μ) : ∀ i, i ≤ 12 → jm_J rg_I (rg_X Ln xs) 1 mX7_risingOf 4 [some (.ref 24), some (.int (md_rs μ i)), some (.int (nI i))] [] μ Q := by
  refine jm_for 12 ?_ ?_
  · skip
    refine jm_iload_n dX7_risingOf_4 rfl rfl rfl ?_
    refine jm_bipush (nI 12) dX7_risingOf_5 rfl (by decide) ?_
    refine jm_icmp_ge (tgt := 39) dX7_risingOf_7 (by decide) rfl (fun c7 => ?_) (fun c7 => absurd ((nI_leI (by omega) (by omega)).mpr (Nat.le_refl _)) c7)
    refine jm_iload_n dX7_risingOf_39 rfl rfl rfl ?_
    refine jm_iret dX7_risingOf_40 rfl rfl ?_
    exact h
  · intro i hi ih 
    refine jm_iload_n dX7_risingOf_4 rfl rfl rfl ?_
    refine jm_bipush (nI 12) dX7_risingOf_5 rfl (by decide) ?_
    refine jm_icmp_ge (tgt := 39) dX7_risingOf_7 (by decide) rfl (fun c7 => absurd ((nI_leI (by omega) (by omega)).mp c7) (by omega)) (fun c7 => ?_)
    refine jm_iload_n dX7_risingOf_10 rfl rfl rfl ?_
    refine jm_iload_n dX7_risingOf_11 rfl rfl rfl ?_
    refine jm_iconst (nI 2) dX7_risingOf_12 rfl (by decide) ?_
    refine jm_irem dX7_risingOf_13 rfl (by decide) ?_
    rw [pk_rem (by omega) (by decide) (by decide)]
    refine jm_if_ne (tgt := 25) dX7_risingOf_14 (by decide) rfl (fun c14 => ?_) (fun c14 => ?_)
    · refine jm_aload_n dX7_risingOf_25 rfl rfl rfl ?_
      refine jm_iload_n dX7_risingOf_26 rfl rfl rfl ?_
      refine jm_cV1 dX7_risingOf_27 rfl cb_X7_94 ci_X7_load cv_X7_load rfl rfl rfl (Nat.le_of_ble_eq_true rfl) (Nat.le_of_ble_eq_true rfl) (by decide) (s_X7_load hi ?_)
      refine jm_ineg dX7_risingOf_30 rfl ?_
      refine jm_iadd dX7_risingOf_31 rfl ?_
      refine jm_istore_n dX7_risingOf_32 rfl rfl rfl rfl ?_
      dsimp only [List.set]
      refine jm_iinc (nI 1) dX7_risingOf_33 rfl rfl (by decide) rfl rfl ?_
      dsimp only [List.set]
      refine jm_goto (n := 4) dX7_risingOf_36 (by decide) ?_
      rw [nI_add]
      first | (have e := ih; simp only [md_rs, rg_lift, if_pos ((nI_eq (a := i % 2) (b := 0) (by omega) (by omega)).mp c14)] at e; exact e) | (have e := ih; simp only [md_rs, rg_lift, if_neg (fun h => c14 (congrArg nI h))] at e; exact e) | fail "stop"
    · refine jm_aload_n dX7_risingOf_17 rfl rfl rfl ?_
      refine jm_iload_n dX7_risingOf_18 rfl rfl rfl ?_
      refine jm_cV1 dX7_risingOf_19 rfl cb_X7_94 ci_X7_load cv_X7_load rfl rfl rfl (Nat.le_of_ble_eq_true rfl) (Nat.le_of_ble_eq_true rfl) (by decide) (s_X7_load hi ?_)
      refine jm_goto (n := 31) dX7_risingOf_22 (by decide) ?_
      refine jm_iadd dX7_risingOf_31 rfl ?_
      refine jm_istore_n dX7_risingOf_32 rfl rfl rfl rfl ?_
      dsimp only [List.set]
      refine jm_iinc (nI 1) dX7_risingOf_33 rfl rfl (by decide) rfl rfl ?_
      dsimp only [List.set]
      refine jm_goto (n := 4) dX7_risingOf_36 (by decide) ?_
      rw [nI_add]
      first | (have e := ih; simp only [md_rs, rg_lift, if_pos ((nI_eq (a := i % 2) (b := 0) (by omega) (by omega)).mp c14)] at e; exact e) | (have e := ih; simp only [md_rs, rg_lift, if_neg (fun h => c14 (congrArg nI h))] at e; exact e) | fail "stop"
set_option maxHeartbeats 400000 in
theorem s_X7_risingOf {Ln : Nat} {xs : Nat → Int32} {μ : jm_Mem} {Q : Option Value → jm_Mem → Prop}  (h : Q (some (.int (md_rs μ 12))) μ) : gJ Ln xs 1 mX7_risingOf 0 (jm_en 3 [.ref 24]) [] μ Q := by
  show jm_J rg_I (rg_X Ln xs) 1 mX7_risingOf 0 [some (.ref 24), none, none] [] μ Q
  refine jm_iconst (nI 0) dX7_risingOf_0 rfl (by decide) ?_
  refine jm_istore_n dX7_risingOf_1 rfl rfl rfl rfl ?_
  dsimp only [List.set]
  refine jm_iconst (nI 0) dX7_risingOf_2 rfl (by decide) ?_
  refine jm_istore_n dX7_risingOf_3 rfl rfl rfl rfl ?_
  dsimp only [List.set]
  exact l_X7_risingOf h 0 (by omega)
set_option maxHeartbeats 400000 in
theorem s_X7_mayTurn {Ln : Nat} {xs : Nat → Int32} {μ : jm_Mem} {Q : Option Value → jm_Mem → Prop}  (h1 : md_law μ → Q (some (.int 1)) μ) (h0 : ¬ md_law μ → Q (some (.int 0)) μ) : gJ Ln xs 2 mX7_mayTurn 0 (jm_en 2 [.ref 24]) [] μ Q := by
  show jm_J rg_I (rg_X Ln xs) 2 mX7_mayTurn 0 [some (.ref 24), none] [] μ Q
  refine jm_aload_n dX7_mayTurn_0 rfl rfl rfl ?_
  refine jm_cV0 dX7_mayTurn_1 rfl cb_X7_98 ci_X7_risingOf cv_X7_risingOf rfl rfl rfl (Nat.le_of_ble_eq_true rfl) (Nat.le_of_ble_eq_true rfl) (by decide) (s_X7_risingOf ?_)
  refine jm_istore_n dX7_mayTurn_4 rfl rfl rfl rfl ?_
  dsimp only [List.set]
  refine jm_aload_n dX7_mayTurn_5 rfl rfl rfl ?_
  refine jm_cV0 dX7_mayTurn_6 rfl cb_X7_101 ci_X7_shakeOf cv_X7_shakeOf rfl rfl rfl (Nat.le_of_ble_eq_true rfl) (Nat.le_of_ble_eq_true rfl) (by decide) (s_X7_shakeOf ?_)
  refine jm_aload_n dX7_mayTurn_9 rfl rfl rfl ?_
  refine jm_geti dX7_mayTurn_10 rfl fe_X7_59 rfl rfl rfl ?_
  refine jm_aload_n dX7_mayTurn_13 rfl rfl rfl ?_
  refine jm_geti dX7_mayTurn_14 rfl fe_X7_59 rfl rfl rfl ?_
  refine jm_imul dX7_mayTurn_17 rfl ?_
  refine jm_icmp_gt (tgt := 42) dX7_mayTurn_18 (by decide) rfl (fun c18 => ?_) (fun c18 => ?_)
  · refine jm_iconst (nI 0) dX7_mayTurn_42 rfl (by decide) ?_
    refine jm_iret dX7_mayTurn_43 rfl rfl ?_
    first | exact h1 ⟨Int32.not_lt.mp c18, Int32.not_lt.mp c26, Int32.not_lt.mp c35⟩ | exact h0 (fun h => absurd h.1 (Int32.not_le.mpr c18)) | exact h0 (fun h => absurd h.2.1 (Int32.not_le.mpr c26)) | exact h0 (fun h => absurd h.2.2 (Int32.not_le.mpr c35)) | fail "leaf"
  · refine jm_iload_n dX7_mayTurn_21 rfl rfl rfl ?_
    refine jm_aload_n dX7_mayTurn_22 rfl rfl rfl ?_
    refine jm_geti dX7_mayTurn_23 rfl fe_X7_63 rfl rfl rfl ?_
    refine jm_icmp_gt (tgt := 42) dX7_mayTurn_26 (by decide) rfl (fun c26 => ?_) (fun c26 => ?_)
    · refine jm_iconst (nI 0) dX7_mayTurn_42 rfl (by decide) ?_
      refine jm_iret dX7_mayTurn_43 rfl rfl ?_
      first | exact h1 ⟨Int32.not_lt.mp c18, Int32.not_lt.mp c26, Int32.not_lt.mp c35⟩ | exact h0 (fun h => absurd h.1 (Int32.not_le.mpr c18)) | exact h0 (fun h => absurd h.2.1 (Int32.not_le.mpr c26)) | exact h0 (fun h => absurd h.2.2 (Int32.not_le.mpr c35)) | fail "leaf"
    · refine jm_iload_n dX7_mayTurn_29 rfl rfl rfl ?_
      refine jm_ineg dX7_mayTurn_30 rfl ?_
      refine jm_aload_n dX7_mayTurn_31 rfl rfl rfl ?_
      refine jm_geti dX7_mayTurn_32 rfl fe_X7_63 rfl rfl rfl ?_
      refine jm_icmp_gt (tgt := 42) dX7_mayTurn_35 (by decide) rfl (fun c35 => ?_) (fun c35 => ?_)
      · refine jm_iconst (nI 0) dX7_mayTurn_42 rfl (by decide) ?_
        refine jm_iret dX7_mayTurn_43 rfl rfl ?_
        first | exact h1 ⟨Int32.not_lt.mp c18, Int32.not_lt.mp c26, Int32.not_lt.mp c35⟩ | exact h0 (fun h => absurd h.1 (Int32.not_le.mpr c18)) | exact h0 (fun h => absurd h.2.1 (Int32.not_le.mpr c26)) | exact h0 (fun h => absurd h.2.2 (Int32.not_le.mpr c35)) | fail "leaf"
      · refine jm_iconst (nI 1) dX7_mayTurn_38 rfl (by decide) ?_
        refine jm_goto (n := 43) dX7_mayTurn_39 (by decide) ?_
        refine jm_iret dX7_mayTurn_43 rfl rfl ?_
        first | exact h1 ⟨Int32.not_lt.mp c18, Int32.not_lt.mp c26, Int32.not_lt.mp c35⟩ | exact h0 (fun h => absurd h.1 (Int32.not_le.mpr c18)) | exact h0 (fun h => absurd h.2.1 (Int32.not_le.mpr c26)) | exact h0 (fun h => absurd h.2.2 (Int32.not_le.mpr c35)) | fail "leaf"
set_option maxHeartbeats 400000 in
theorem s_X7_isBlocked {Ln : Nat} {xs : Nat → Int32} {μ : jm_Mem} {Q : Option Value → jm_Mem → Prop} {j : Nat} {w : Int32} (hj : j < 12) (hz : μ 28 j = 0) (h1 : ¬ md_law (jm_set μ 28 j w) → Q (some (.int 1)) μ) (h0 : md_law (jm_set μ 28 j w) → Q (some (.int 0)) μ) : gJ Ln xs 3 mX7_isBlocked 0 (jm_en 4 [.ref 24, .int (nI j), .int w]) [] μ Q := by
  show jm_J rg_I (rg_X Ln xs) 3 mX7_isBlocked 0 [some (.ref 24), some (.int (nI j)), some (.int w), none] [] μ Q
  refine jm_aload_n dX7_isBlocked_0 rfl rfl rfl ?_
  refine jm_getr dX7_isBlocked_1 rfl fe_X7_19 rfl rfl rfl ?_
  refine jm_iload_n dX7_isBlocked_4 rfl rfl rfl ?_
  refine jm_iload_n dX7_isBlocked_5 rfl rfl rfl ?_
  refine jm_iast dX7_isBlocked_6 rfl rfl rfl (by decide) rfl (by first | assumption | omega) ?_
  refine jm_aload_n dX7_isBlocked_7 rfl rfl rfl ?_
  refine jm_cV0 dX7_isBlocked_8 rfl cb_X7_104 ci_X7_mayTurn cv_X7_mayTurn rfl rfl rfl (Nat.le_of_ble_eq_true rfl) (Nat.le_of_ble_eq_true rfl) (by decide) (s_X7_mayTurn (fun cl => ?_) (fun cl => ?_))
  · refine jm_istore_n dX7_isBlocked_11 rfl rfl rfl rfl ?_
    dsimp only [List.set]
    refine jm_aload_n dX7_isBlocked_12 rfl rfl rfl ?_
    refine jm_getr dX7_isBlocked_13 rfl fe_X7_19 rfl rfl rfl ?_
    refine jm_iload_n dX7_isBlocked_16 rfl rfl rfl ?_
    refine jm_iconst (nI 0) dX7_isBlocked_17 rfl (by decide) ?_
    refine jm_iast dX7_isBlocked_18 rfl rfl rfl (by decide) rfl (by first | assumption | omega) ?_
    refine jm_iload_n dX7_isBlocked_19 rfl rfl rfl ?_
    refine jm_if_ne (tgt := 27) dX7_isBlocked_20 (by decide) rfl (fun c20 => ?_) (fun c20 => absurd c20 (by decide))
    refine jm_iconst (nI 0) dX7_isBlocked_27 rfl (by decide) ?_
    refine jm_iret dX7_isBlocked_28 rfl rfl ?_
    first | (refine rd_q (h1 cl) (rd_back hz)) | (refine rd_q (h0 cl) (rd_back hz)) | fail "leaf"
  · refine jm_istore_n dX7_isBlocked_11 rfl rfl rfl rfl ?_
    dsimp only [List.set]
    refine jm_aload_n dX7_isBlocked_12 rfl rfl rfl ?_
    refine jm_getr dX7_isBlocked_13 rfl fe_X7_19 rfl rfl rfl ?_
    refine jm_iload_n dX7_isBlocked_16 rfl rfl rfl ?_
    refine jm_iconst (nI 0) dX7_isBlocked_17 rfl (by decide) ?_
    refine jm_iast dX7_isBlocked_18 rfl rfl rfl (by decide) rfl (by first | assumption | omega) ?_
    refine jm_iload_n dX7_isBlocked_19 rfl rfl rfl ?_
    refine jm_if_ne (tgt := 27) dX7_isBlocked_20 (by decide) rfl (fun c20 => absurd c20 (by decide)) (fun c20 => ?_)
    refine jm_iconst (nI 1) dX7_isBlocked_23 rfl (by decide) ?_
    refine jm_goto (n := 28) dX7_isBlocked_24 (by decide) ?_
    refine jm_iret dX7_isBlocked_28 rfl rfl ?_
    first | (refine rd_q (h1 cl) (rd_back hz)) | (refine rd_q (h0 cl) (rd_back hz)) | fail "leaf"
set_option maxHeartbeats 400000 in
theorem s_X7_isFree {Ln : Nat} {xs : Nat → Int32} {μ : jm_Mem} {Q : Option Value → jm_Mem → Prop} {j : Nat} (hj : j < 12) (h1 : ¬ μ 27 j ≤ 0 → μ 28 j = 0 → Q (some (.int 1)) μ) (h0 : (μ 27 j ≤ 0 ∨ ¬ μ 28 j = 0) → Q (some (.int 0)) μ) : gJ Ln xs 0 mX7_isFree 0 (jm_en 2 [.ref 24, .int (nI j)]) [] μ Q := by
  show jm_J rg_I (rg_X Ln xs) 0 mX7_isFree 0 [some (.ref 24), some (.int (nI j))] [] μ Q
  refine jm_aload_n dX7_isFree_0 rfl rfl rfl ?_
  refine jm_getr dX7_isFree_1 rfl fe_X7_16 rfl rfl rfl ?_
  refine jm_iload_n dX7_isFree_4 rfl rfl rfl ?_
  refine jm_iald dX7_isFree_5 rfl rfl rfl (by decide) rfl (by first | assumption | omega) ?_
  refine jm_if_le (tgt := 22) dX7_isFree_6 (by decide) rfl (fun c6 => ?_) (fun c6 => ?_)
  · refine jm_iconst (nI 0) dX7_isFree_22 rfl (by decide) ?_
    refine jm_iret dX7_isFree_23 rfl rfl ?_
    first | exact h1 c6 c15 | exact h0 (Or.inl c6) | exact h0 (Or.inr c15) | fail "leaf"
  · refine jm_aload_n dX7_isFree_9 rfl rfl rfl ?_
    refine jm_getr dX7_isFree_10 rfl fe_X7_19 rfl rfl rfl ?_
    refine jm_iload_n dX7_isFree_13 rfl rfl rfl ?_
    refine jm_iald dX7_isFree_14 rfl rfl rfl (by decide) rfl (by first | assumption | omega) ?_
    refine jm_if_ne (tgt := 22) dX7_isFree_15 (by decide) rfl (fun c15 => ?_) (fun c15 => ?_)
    · refine jm_iconst (nI 0) dX7_isFree_22 rfl (by decide) ?_
      refine jm_iret dX7_isFree_23 rfl rfl ?_
      first | exact h1 c6 c15 | exact h0 (Or.inl c6) | exact h0 (Or.inr c15) | fail "leaf"
    · refine jm_iconst (nI 1) dX7_isFree_18 rfl (by decide) ?_
      refine jm_goto (n := 23) dX7_isFree_19 (by decide) ?_
      refine jm_iret dX7_isFree_23 rfl rfl ?_
      first | exact h1 c6 c15 | exact h0 (Or.inl c6) | exact h0 (Or.inr c15) | fail "leaf"
set_option maxHeartbeats 1000000 in
theorem l_X7_bestOf {Ln : Nat} {xs : Nat → Int32} {μ : jm_Mem} {Q : Option Value → jm_Mem → Prop} {w : Int32} (h : Q (some (.int (rg_bst (md_okw μ w) (fun j => md_sh (jm_set μ 28 j w)) 12).1)) μ) : ∀ i, i ≤ 12 → ∀ (v5 : Option Value), jm_J rg_I (rg_X Ln xs) 4 mX7_bestOf 7 [some (.ref 24), some (.int w), some (.int (rg_bst (md_okw μ w) (fun j => md_sh (jm_set μ 28 j w)) i).1), some (.int (rg_bst (md_okw μ w) (fun j => md_sh (jm_set μ 28 j w)) i).2), some (.int (nI i)), v5] [] μ Q := by
  refine jm_for 12 ?_ ?_
  · intro v5
    refine jm_iload dX7_bestOf_7 rfl rfl ?_
    refine jm_bipush (nI 12) dX7_bestOf_9 rfl (by decide) ?_
    refine jm_icmp_ge (tgt := 78) dX7_bestOf_11 (by decide) rfl (fun c11 => ?_) (fun c11 => absurd ((nI_leI (by omega) (by omega)).mpr (Nat.le_refl _)) c11)
    refine jm_iload_n dX7_bestOf_78 rfl rfl rfl ?_
    refine jm_iret dX7_bestOf_79 rfl rfl ?_
    exact h
  · intro i hi ih v5
    refine jm_iload dX7_bestOf_7 rfl rfl ?_
    refine jm_bipush (nI 12) dX7_bestOf_9 rfl (by decide) ?_
    refine jm_icmp_ge (tgt := 78) dX7_bestOf_11 (by decide) rfl (fun c11 => absurd ((nI_leI (by omega) (by omega)).mp c11) (by omega)) (fun c11 => ?_)
    refine jm_aload_n dX7_bestOf_14 rfl rfl rfl ?_
    refine jm_iload dX7_bestOf_15 rfl rfl ?_
    refine jm_cV1 dX7_bestOf_17 rfl cb_X7_121 ci_X7_isFree cv_X7_isFree rfl rfl rfl (Nat.le_of_ble_eq_true rfl) (Nat.le_of_ble_eq_true rfl) (by decide) (s_X7_isFree hi (fun ch cr => ?_) (fun cf => ?_))
    · refine jm_if_eq (tgt := 72) dX7_bestOf_20 (by decide) rfl (fun c20 => absurd c20 (by decide)) (fun c20 => ?_)
      refine jm_aload_n dX7_bestOf_23 rfl rfl rfl ?_
      refine jm_iload dX7_bestOf_24 rfl rfl ?_
      refine jm_iload_n dX7_bestOf_26 rfl rfl rfl ?_
      refine jm_cV2 dX7_bestOf_27 rfl cb_X7_113 ci_X7_isBlocked cv_X7_isBlocked rfl rfl rfl (Nat.le_of_ble_eq_true rfl) (Nat.le_of_ble_eq_true rfl) (by decide) (s_X7_isBlocked hi cr (fun cl => ?_) (fun cl => ?_))
      · have ho : md_okw μ w i = false := decide_eq_false (fun h => cl h.2.2)
        refine jm_if_ne (tgt := 72) dX7_bestOf_30 (by decide) rfl (fun c30 => ?_) (fun c30 => absurd c30 (by decide))
        refine jm_iinc (nI 1) dX7_bestOf_72 rfl rfl (by decide) rfl rfl ?_
        dsimp only [List.set]
        refine jm_goto (n := 7) dX7_bestOf_75 (by decide) ?_
        rw [nI_add]
        first | (have e := ih v5; rw [rg_bst_no ho] at e; exact e) | (have e := ih (some (.int (md_sh (jm_set μ 28 i w)))); rw [rg_bst_yes ho (Or.inl c57)] at e; exact e) | (have e := ih (some (.int (md_sh (jm_set μ 28 i w)))); rw [rg_bst_yes ho (Or.inr (Int32.not_le.mp c63))] at e; exact e) | (have e := ih (some (.int (md_sh (jm_set μ 28 i w)))); rw [rg_bst_ge c57 c63] at e; exact e) | fail "stop"
      · have ho : md_okw μ w i = true := decide_eq_true ⟨ch, cr, cl⟩
        refine jm_if_ne (tgt := 72) dX7_bestOf_30 (by decide) rfl (fun c30 => absurd c30 (by decide)) (fun c30 => ?_)
        refine jm_aload_n dX7_bestOf_33 rfl rfl rfl ?_
        refine jm_getr dX7_bestOf_34 rfl fe_X7_19 rfl rfl rfl ?_
        refine jm_iload dX7_bestOf_37 rfl rfl ?_
        refine jm_iload_n dX7_bestOf_39 rfl rfl rfl ?_
        refine jm_iast dX7_bestOf_40 rfl rfl rfl (by decide) rfl (by first | assumption | omega) ?_
        refine jm_aload_n dX7_bestOf_41 rfl rfl rfl ?_
        refine jm_cV0 dX7_bestOf_42 rfl cb_X7_101 ci_X7_shakeOf cv_X7_shakeOf rfl rfl rfl (Nat.le_of_ble_eq_true rfl) (Nat.le_of_ble_eq_true rfl) (by decide) (s_X7_shakeOf ?_)
        refine jm_istore dX7_bestOf_45 rfl rfl rfl ?_
        dsimp only [List.set]
        refine jm_aload_n dX7_bestOf_47 rfl rfl rfl ?_
        refine jm_getr dX7_bestOf_48 rfl fe_X7_19 rfl rfl rfl ?_
        refine jm_iload dX7_bestOf_51 rfl rfl ?_
        refine jm_iconst (nI 0) dX7_bestOf_53 rfl (by decide) ?_
        refine jm_iast dX7_bestOf_54 rfl rfl rfl (by decide) rfl (by first | assumption | omega) ?_
        rw [show jm_set (jm_set μ 28 i w) 28 i (nI 0) = μ from rd_back cr]
        refine jm_iload_n dX7_bestOf_55 rfl rfl rfl ?_
        refine jm_iconst (-1) dX7_bestOf_56 rfl (by decide) ?_
        refine jm_icmp_eq (tgt := 66) dX7_bestOf_57 (by decide) rfl (fun c57 => ?_) (fun c57 => ?_)
        · refine jm_iload dX7_bestOf_66 rfl rfl ?_
          refine jm_istore_n dX7_bestOf_68 rfl rfl rfl rfl ?_
          dsimp only [List.set]
          refine jm_iload dX7_bestOf_69 rfl rfl ?_
          refine jm_istore_n dX7_bestOf_71 rfl rfl rfl rfl ?_
          dsimp only [List.set]
          refine jm_iinc (nI 1) dX7_bestOf_72 rfl rfl (by decide) rfl rfl ?_
          dsimp only [List.set]
          refine jm_goto (n := 7) dX7_bestOf_75 (by decide) ?_
          rw [nI_add]
          first | (have e := ih v5; rw [rg_bst_no ho] at e; exact e) | (have e := ih (some (.int (md_sh (jm_set μ 28 i w)))); rw [rg_bst_yes ho (Or.inl c57)] at e; exact e) | (have e := ih (some (.int (md_sh (jm_set μ 28 i w)))); rw [rg_bst_yes ho (Or.inr (Int32.not_le.mp c63))] at e; exact e) | (have e := ih (some (.int (md_sh (jm_set μ 28 i w)))); rw [rg_bst_ge c57 c63] at e; exact e) | fail "stop"
        · refine jm_iload dX7_bestOf_60 rfl rfl ?_
          refine jm_iload_n dX7_bestOf_62 rfl rfl rfl ?_
          refine jm_icmp_ge (tgt := 72) dX7_bestOf_63 (by decide) rfl (fun c63 => ?_) (fun c63 => ?_)
          · refine jm_iinc (nI 1) dX7_bestOf_72 rfl rfl (by decide) rfl rfl ?_
            dsimp only [List.set]
            refine jm_goto (n := 7) dX7_bestOf_75 (by decide) ?_
            rw [nI_add]
            first | (have e := ih v5; rw [rg_bst_no ho] at e; exact e) | (have e := ih (some (.int (md_sh (jm_set μ 28 i w)))); rw [rg_bst_yes ho (Or.inl c57)] at e; exact e) | (have e := ih (some (.int (md_sh (jm_set μ 28 i w)))); rw [rg_bst_yes ho (Or.inr (Int32.not_le.mp c63))] at e; exact e) | (have e := ih (some (.int (md_sh (jm_set μ 28 i w)))); rw [rg_bst_ge c57 c63] at e; exact e) | fail "stop"
          · refine jm_iload dX7_bestOf_66 rfl rfl ?_
            refine jm_istore_n dX7_bestOf_68 rfl rfl rfl rfl ?_
            dsimp only [List.set]
            refine jm_iload dX7_bestOf_69 rfl rfl ?_
            refine jm_istore_n dX7_bestOf_71 rfl rfl rfl rfl ?_
            dsimp only [List.set]
            refine jm_iinc (nI 1) dX7_bestOf_72 rfl rfl (by decide) rfl rfl ?_
            dsimp only [List.set]
            refine jm_goto (n := 7) dX7_bestOf_75 (by decide) ?_
            rw [nI_add]
            first | (have e := ih v5; rw [rg_bst_no ho] at e; exact e) | (have e := ih (some (.int (md_sh (jm_set μ 28 i w)))); rw [rg_bst_yes ho (Or.inl c57)] at e; exact e) | (have e := ih (some (.int (md_sh (jm_set μ 28 i w)))); rw [rg_bst_yes ho (Or.inr (Int32.not_le.mp c63))] at e; exact e) | (have e := ih (some (.int (md_sh (jm_set μ 28 i w)))); rw [rg_bst_ge c57 c63] at e; exact e) | fail "stop"
    · have ho : md_okw μ w i = false := decide_eq_false (fun h => cf.elim (fun c => h.1 c) (fun c => c h.2.1))
      refine jm_if_eq (tgt := 72) dX7_bestOf_20 (by decide) rfl (fun c20 => ?_) (fun c20 => absurd c20 (by decide))
      refine jm_iinc (nI 1) dX7_bestOf_72 rfl rfl (by decide) rfl rfl ?_
      dsimp only [List.set]
      refine jm_goto (n := 7) dX7_bestOf_75 (by decide) ?_
      rw [nI_add]
      first | (have e := ih v5; rw [rg_bst_no ho] at e; exact e) | (have e := ih (some (.int (md_sh (jm_set μ 28 i w)))); rw [rg_bst_yes ho (Or.inl c57)] at e; exact e) | (have e := ih (some (.int (md_sh (jm_set μ 28 i w)))); rw [rg_bst_yes ho (Or.inr (Int32.not_le.mp c63))] at e; exact e) | (have e := ih (some (.int (md_sh (jm_set μ 28 i w)))); rw [rg_bst_ge c57 c63] at e; exact e) | fail "stop"
set_option maxHeartbeats 400000 in
theorem s_X7_bestOf {Ln : Nat} {xs : Nat → Int32} {μ : jm_Mem} {Q : Option Value → jm_Mem → Prop} {w : Int32} (h : Q (some (.int (rg_bst (md_okw μ w) (fun j => md_sh (jm_set μ 28 j w)) 12).1)) μ) : gJ Ln xs 4 mX7_bestOf 0 (jm_en 6 [.ref 24, .int w]) [] μ Q := by
  show jm_J rg_I (rg_X Ln xs) 4 mX7_bestOf 0 [some (.ref 24), some (.int w), none, none, none, none] [] μ Q
  refine jm_iconst (-1) dX7_bestOf_0 rfl (by decide) ?_
  refine jm_istore_n dX7_bestOf_1 rfl rfl rfl rfl ?_
  dsimp only [List.set]
  refine jm_iconst (nI 0) dX7_bestOf_2 rfl (by decide) ?_
  refine jm_istore_n dX7_bestOf_3 rfl rfl rfl rfl ?_
  dsimp only [List.set]
  refine jm_iconst (nI 0) dX7_bestOf_4 rfl (by decide) ?_
  refine jm_istore dX7_bestOf_5 rfl rfl rfl ?_
  dsimp only [List.set]
  exact l_X7_bestOf h 0 (by omega) none
set_option maxHeartbeats 1000000 in
theorem l_X7_horse {Ln : Nat} {xs : Nat → Int32} {μ : jm_Mem} {Q : Option Value → jm_Mem → Prop} {j : Nat} {w c : Int32} {u : jm_Mem} (hj : j < 12) (h : Q (some (.int (nI (rg_cnt (u 27) 12)))) (md_own u j 4)) : ∀ i, i ≤ 4 → jm_J rg_I (rg_X Ln xs) 2 mX7_horse 83 [some (.ref 24), some (.int (nI j)), some (.int w), some (.int c), some (.int (nI i))] [] (md_own u j i) Q := by
  refine jm_for 4 ?_ ?_
  · skip
    refine jm_iload dX7_horse_83 rfl rfl ?_
    refine jm_iconst (nI 4) dX7_horse_85 rfl (by decide) ?_
    refine jm_icmp_ge (tgt := 112) dX7_horse_86 (by decide) rfl (fun c86 => ?_) (fun c86 => absurd ((nI_leI (by omega) (by omega)).mpr (Nat.le_refl _)) c86)
    refine jm_aload_n dX7_horse_112 rfl rfl rfl ?_
    refine jm_cV0 dX7_horse_113 rfl cb_X7_87 ci_X7_horses cv_X7_horses rfl rfl rfl (Nat.le_of_ble_eq_true rfl) (Nat.le_of_ble_eq_true rfl) (by decide) (s_X7_horses ?_)
    refine jm_iret dX7_horse_116 rfl rfl ?_
    rw [md_own_na (by decide)]; exact h
  · intro i hi ih 
    refine jm_iload dX7_horse_83 rfl rfl ?_
    refine jm_iconst (nI 4) dX7_horse_85 rfl (by decide) ?_
    refine jm_icmp_ge (tgt := 112) dX7_horse_86 (by decide) rfl (fun c86 => absurd ((nI_leI (by omega) (by omega)).mp c86) (by omega)) (fun c86 => ?_)
    refine jm_aload_n dX7_horse_89 rfl rfl rfl ?_
    refine jm_getr dX7_horse_90 rfl fe_X7_28 rfl rfl rfl ?_
    refine jm_iconst (nI 4) dX7_horse_93 rfl (by decide) ?_
    refine jm_iload_n dX7_horse_94 rfl rfl rfl ?_
    refine jm_imul dX7_horse_95 rfl ?_
    refine jm_iload dX7_horse_96 rfl rfl ?_
    refine jm_iadd dX7_horse_98 rfl ?_
    refine jm_iconst (nI 4) dX7_horse_99 rfl (by decide) ?_
    refine jm_iload_n dX7_horse_100 rfl rfl rfl ?_
    refine jm_imul dX7_horse_101 rfl ?_
    refine jm_iload dX7_horse_102 rfl rfl ?_
    refine jm_iadd dX7_horse_104 rfl ?_
    refine jm_iast dX7_horse_105 rfl rfl rfl (by decide) (by rw [pk_mul, nI_add]) (by omega) ?_
    refine jm_iinc (nI 1) dX7_horse_106 rfl rfl (by decide) rfl rfl ?_
    dsimp only [List.set]
    refine jm_goto (n := 83) dX7_horse_109 (by decide) ?_
    rw [nI_add, pk_mul, nI_add]; exact ih
set_option maxHeartbeats 400000 in
theorem s_X7_horse {Ln : Nat} {xs : Nat → Int32} {μ : jm_Mem} {Q : Option Value → jm_Mem → Prop} {p w c : Int32} (h : ∀ r μ1, om_horse μ p w c r μ1 → Q (some (.int r)) μ1) : gJ Ln xs 2 mX7_horse 0 (jm_en 5 [.ref 24, .int p, .int w, .int c]) [] μ Q := by
  show jm_J rg_I (rg_X Ln xs) 2 mX7_horse 0 [some (.ref 24), some (.int p), some (.int w), some (.int c), none] [] μ Q
  refine jm_iload_n dX7_horse_0 rfl rfl rfl ?_
  refine jm_cS1 dX7_horse_1 rfl cb_X7_79 cs_X7_isPlace (Nat.le_of_ble_eq_true rfl) (Nat.le_of_ble_eq_true rfl) (by decide) (s_X7_isPlace (fun j hj e => ?_) (fun c0 => ?_))
  · subst e
    refine jm_if_ne (tgt := 10) dX7_horse_4 (by decide) rfl (fun c4 => ?_) (fun c4 => absurd c4 (by decide))
    refine jm_iload_n dX7_horse_10 rfl rfl rfl ?_
    refine jm_i2l dX7_horse_11 rfl ?_
    refine jm_lconst 1 dX7_horse_12 rfl (by decide) ?_
    refine jm_ldc2 200 dX7_horse_13 rfl kc_X7_83 ?_
    refine jm_cS3 dX7_horse_16 rfl cb_X7_75 cs_X7_in (Nat.le_of_ble_eq_true rfl) (Nat.le_of_ble_eq_true rfl) (by decide) (s_X7_in w (nI 1) (nI 200) rfl (by decide) (by decide) (fun a16 b16 => ?_) (fun c16 => ?_))
    · refine jm_if_eq (tgt := 34) dX7_horse_19 (by decide) rfl (fun c19 => absurd c19 (by decide)) (fun c19 => ?_)
      refine jm_iload_n dX7_horse_22 rfl rfl rfl ?_
      refine jm_i2l dX7_horse_23 rfl ?_
      refine jm_lconst 0 dX7_horse_24 rfl (by decide) ?_
      refine jm_ldc2 99 dX7_horse_25 rfl kc_X7_85 ?_
      refine jm_cS3 dX7_horse_28 rfl cb_X7_75 cs_X7_in (Nat.le_of_ble_eq_true rfl) (Nat.le_of_ble_eq_true rfl) (by decide) (s_X7_in c (nI 0) (nI 99) rfl (by decide) (by decide) (fun a28 b28 => ?_) (fun c28 => ?_))
      · refine jm_if_ne (tgt := 37) dX7_horse_31 (by decide) rfl (fun c31 => ?_) (fun c31 => absurd c31 (by decide))
        refine jm_aload_n dX7_horse_37 rfl rfl rfl ?_
        refine jm_getr dX7_horse_38 rfl fe_X7_16 rfl rfl rfl ?_
        refine jm_iload_n dX7_horse_41 rfl rfl rfl ?_
        refine jm_iald dX7_horse_42 rfl rfl rfl (by decide) rfl (by first | assumption | omega) ?_
        refine jm_if_le (tgt := 49) dX7_horse_43 (by decide) rfl (fun c43 => ?_) (fun c43 => ?_)
        · refine jm_aload_n dX7_horse_49 rfl rfl rfl ?_
          refine jm_getr dX7_horse_50 rfl fe_X7_16 rfl rfl rfl ?_
          refine jm_iload_n dX7_horse_53 rfl rfl rfl ?_
          refine jm_iload_n dX7_horse_54 rfl rfl rfl ?_
          refine jm_iast dX7_horse_55 rfl rfl rfl (by decide) rfl (by first | assumption | omega) ?_
          refine jm_aload_n dX7_horse_56 rfl rfl rfl ?_
          refine jm_getr dX7_horse_57 rfl fe_X7_19 rfl rfl rfl ?_
          refine jm_iload_n dX7_horse_60 rfl rfl rfl ?_
          refine jm_iconst (nI 0) dX7_horse_61 rfl (by decide) ?_
          refine jm_iast dX7_horse_62 rfl rfl rfl (by decide) rfl (by first | assumption | omega) ?_
          refine jm_aload_n dX7_horse_63 rfl rfl rfl ?_
          refine jm_getr dX7_horse_64 rfl fe_X7_22 rfl rfl rfl ?_
          refine jm_iload_n dX7_horse_67 rfl rfl rfl ?_
          refine jm_iconst (nI 1) dX7_horse_68 rfl (by decide) ?_
          refine jm_iast dX7_horse_69 rfl rfl rfl (by decide) rfl (by first | assumption | omega) ?_
          refine jm_aload_n dX7_horse_70 rfl rfl rfl ?_
          refine jm_getr dX7_horse_71 rfl fe_X7_25 rfl rfl rfl ?_
          refine jm_bipush (nI 8) dX7_horse_74 rfl (by decide) ?_
          refine jm_iload_n dX7_horse_76 rfl rfl rfl ?_
          refine jm_imul dX7_horse_77 rfl ?_
          refine jm_iload_n dX7_horse_78 rfl rfl rfl ?_
          refine jm_iast dX7_horse_79 rfl rfl rfl (by decide) (by rw [pk_mul]) (by omega) ?_
          refine jm_iconst (nI 0) dX7_horse_80 rfl (by decide) ?_
          refine jm_istore dX7_horse_81 rfl rfl rfl ?_
          dsimp only [List.set]
          refine l_X7_horse (μ := μ) (u := jm_set (jm_set (jm_set (jm_set μ 27 j w) 28 j 0) 29 j 1) 30 (8 * j) c) hj ?_ 0 (by omega)
          refine h _ _ (Or.inr ⟨j, hj, rfl, Or.inr ⟨⟨a16, b16⟩, ⟨a28, b28⟩, Or.inr ⟨c43, ?_, rfl⟩⟩⟩)
          rw [jm_set_ne 27 (by decide), jm_set_ne 27 (by decide), jm_set_ne 27 (by decide)]
        · refine jm_bipush (-103) dX7_horse_46 rfl (by decide) ?_
          refine jm_iret dX7_horse_48 rfl rfl ?_
          refine h _ _ ?_
          first | exact Or.inl ⟨c0, rfl, rfl⟩ | exact Or.inr ⟨j, hj, rfl, Or.inl ⟨Or.inl c16, rfl, rfl⟩⟩ | exact Or.inr ⟨j, hj, rfl, Or.inl ⟨Or.inr c28, rfl, rfl⟩⟩ | exact Or.inr ⟨j, hj, rfl, Or.inr ⟨⟨a16, b16⟩, ⟨a28, b28⟩, Or.inl ⟨c43, rfl, rfl⟩⟩⟩ | fail "leaf"
      · refine jm_if_ne (tgt := 37) dX7_horse_31 (by decide) rfl (fun c31 => absurd c31 (by decide)) (fun c31 => ?_)
        refine jm_bipush (-102) dX7_horse_34 rfl (by decide) ?_
        refine jm_iret dX7_horse_36 rfl rfl ?_
        refine h _ _ ?_
        first | exact Or.inl ⟨c0, rfl, rfl⟩ | exact Or.inr ⟨j, hj, rfl, Or.inl ⟨Or.inl c16, rfl, rfl⟩⟩ | exact Or.inr ⟨j, hj, rfl, Or.inl ⟨Or.inr c28, rfl, rfl⟩⟩ | exact Or.inr ⟨j, hj, rfl, Or.inr ⟨⟨a16, b16⟩, ⟨a28, b28⟩, Or.inl ⟨c43, rfl, rfl⟩⟩⟩ | fail "leaf"
    · refine jm_if_eq (tgt := 34) dX7_horse_19 (by decide) rfl (fun c19 => ?_) (fun c19 => absurd c19 (by decide))
      refine jm_bipush (-102) dX7_horse_34 rfl (by decide) ?_
      refine jm_iret dX7_horse_36 rfl rfl ?_
      refine h _ _ ?_
      first | exact Or.inl ⟨c0, rfl, rfl⟩ | exact Or.inr ⟨j, hj, rfl, Or.inl ⟨Or.inl c16, rfl, rfl⟩⟩ | exact Or.inr ⟨j, hj, rfl, Or.inl ⟨Or.inr c28, rfl, rfl⟩⟩ | exact Or.inr ⟨j, hj, rfl, Or.inr ⟨⟨a16, b16⟩, ⟨a28, b28⟩, Or.inl ⟨c43, rfl, rfl⟩⟩⟩ | fail "leaf"
  · refine jm_if_ne (tgt := 10) dX7_horse_4 (by decide) rfl (fun c4 => absurd c4 (by decide)) (fun c4 => ?_)
    refine jm_bipush (-101) dX7_horse_7 rfl (by decide) ?_
    refine jm_iret dX7_horse_9 rfl rfl ?_
    refine h _ _ ?_
    first | exact Or.inl ⟨c0, rfl, rfl⟩ | exact Or.inr ⟨j, hj, rfl, Or.inl ⟨Or.inl c16, rfl, rfl⟩⟩ | exact Or.inr ⟨j, hj, rfl, Or.inl ⟨Or.inr c28, rfl, rfl⟩⟩ | exact Or.inr ⟨j, hj, rfl, Or.inr ⟨⟨a16, b16⟩, ⟨a28, b28⟩, Or.inl ⟨c43, rfl, rfl⟩⟩⟩ | fail "leaf"
set_option maxHeartbeats 1000000 in
theorem l_X7_leave0 {Ln : Nat} {xs : Nat → Int32} {μ : jm_Mem} {Q : Option Value → jm_Mem → Prop} {j : Nat} (hj : j < 12) (h : Q (some (.int (-103))) μ) : ∀ i, i ≤ 4 → jm_J rg_I (rg_X Ln xs) 3 mX7_leave 28 [some (.ref 24), some (.int (nI j)), some (.int (nI 0)), some (.int (nI i))] [] μ Q := by
  refine jm_for 4 ?_ ?_
  · skip
    refine jm_iload_n dX7_leave_28 rfl rfl rfl ?_
    refine jm_iconst (nI 4) dX7_leave_29 rfl (by decide) ?_
    refine jm_icmp_ge (tgt := 67) dX7_leave_30 (by decide) rfl (fun c30 => ?_) (fun c30 => absurd ((nI_leI (by omega) (by omega)).mpr (Nat.le_refl _)) c30)
    refine jm_iload_n dX7_leave_67 rfl rfl rfl ?_
    refine jm_if_ne (tgt := 74) dX7_leave_68 (by decide) rfl (fun c68 => absurd c68 (by decide)) (fun c68 => ?_)
    refine jm_bipush (-103) dX7_leave_71 rfl (by decide) ?_
    refine jm_iret dX7_leave_73 rfl rfl ?_
    exact h
  · intro i hi ih 
    refine jm_iload_n dX7_leave_28 rfl rfl rfl ?_
    refine jm_iconst (nI 4) dX7_leave_29 rfl (by decide) ?_
    refine jm_icmp_ge (tgt := 67) dX7_leave_30 (by decide) rfl (fun c30 => absurd ((nI_leI (by omega) (by omega)).mp c30) (by omega)) (fun c30 => ?_)
    refine jm_iload_n dX7_leave_33 rfl rfl rfl ?_
    refine jm_if_eq (tgt := 59) dX7_leave_34 (by decide) rfl (fun c34 => ?_) (fun c34 => absurd c34 (by decide))
    refine jm_iconst (nI 0) dX7_leave_59 rfl (by decide) ?_
    refine jm_istore_n dX7_leave_60 rfl rfl rfl rfl ?_
    dsimp only [List.set]
    refine jm_iinc (nI 1) dX7_leave_61 rfl rfl (by decide) rfl rfl ?_
    dsimp only [List.set]
    refine jm_goto (n := 28) dX7_leave_64 (by decide) ?_
    rw [nI_add]; exact ih
set_option maxHeartbeats 1000000 in
theorem l_X7_leave1 {Ln : Nat} {xs : Nat → Int32} {μ : jm_Mem} {Q : Option Value → jm_Mem → Prop} {j : Nat} (hj : j < 12) (h0 : (∃ i, i < 4 ∧ ¬ μ 31 (4 * j + i) = nI (4 * j + i)) → Q (some (.int (-103))) μ) (h1 : (∀ i, i < 4 → μ 31 (4 * j + i) = nI (4 * j + i)) → Q (some (.int (μ 27 j))) (jm_set μ 27 j 0)) : ∀ i, i ≤ 4 → ∀ (hb : ∀ i2, i2 < i → μ 31 (4 * j + i2) = nI (4 * j + i2)), jm_J rg_I (rg_X Ln xs) 3 mX7_leave 28 [some (.ref 24), some (.int (nI j)), some (.int (nI 1)), some (.int (nI i))] [] μ Q := by
  refine jm_for 4 ?_ ?_
  · intro hb
    refine jm_iload_n dX7_leave_28 rfl rfl rfl ?_
    refine jm_iconst (nI 4) dX7_leave_29 rfl (by decide) ?_
    refine jm_icmp_ge (tgt := 67) dX7_leave_30 (by decide) rfl (fun c30 => ?_) (fun c30 => absurd ((nI_leI (by omega) (by omega)).mpr (Nat.le_refl _)) c30)
    refine jm_iload_n dX7_leave_67 rfl rfl rfl ?_
    refine jm_if_ne (tgt := 74) dX7_leave_68 (by decide) rfl (fun c68 => ?_) (fun c68 => absurd c68 (by decide))
    refine jm_aload_n dX7_leave_74 rfl rfl rfl ?_
    refine jm_getr dX7_leave_75 rfl fe_X7_16 rfl rfl rfl ?_
    refine jm_iload_n dX7_leave_78 rfl rfl rfl ?_
    refine jm_iald dX7_leave_79 rfl rfl rfl (by decide) rfl (by first | assumption | omega) ?_
    refine jm_istore_n dX7_leave_80 rfl rfl rfl rfl ?_
    dsimp only [List.set]
    refine jm_aload_n dX7_leave_81 rfl rfl rfl ?_
    refine jm_getr dX7_leave_82 rfl fe_X7_16 rfl rfl rfl ?_
    refine jm_iload_n dX7_leave_85 rfl rfl rfl ?_
    refine jm_iconst (nI 0) dX7_leave_86 rfl (by decide) ?_
    refine jm_iast dX7_leave_87 rfl rfl rfl (by decide) rfl (by first | assumption | omega) ?_
    refine jm_iload_n dX7_leave_88 rfl rfl rfl ?_
    refine jm_iret dX7_leave_89 rfl rfl ?_
    exact h1 hb
  · intro i hi ih hb
    refine jm_iload_n dX7_leave_28 rfl rfl rfl ?_
    refine jm_iconst (nI 4) dX7_leave_29 rfl (by decide) ?_
    refine jm_icmp_ge (tgt := 67) dX7_leave_30 (by decide) rfl (fun c30 => absurd ((nI_leI (by omega) (by omega)).mp c30) (by omega)) (fun c30 => ?_)
    refine jm_iload_n dX7_leave_33 rfl rfl rfl ?_
    refine jm_if_eq (tgt := 59) dX7_leave_34 (by decide) rfl (fun c34 => absurd c34 (by decide)) (fun c34 => ?_)
    refine jm_aload_n dX7_leave_37 rfl rfl rfl ?_
    refine jm_getr dX7_leave_38 rfl fe_X7_28 rfl rfl rfl ?_
    refine jm_iconst (nI 4) dX7_leave_41 rfl (by decide) ?_
    refine jm_iload_n dX7_leave_42 rfl rfl rfl ?_
    refine jm_imul dX7_leave_43 rfl ?_
    refine jm_iload_n dX7_leave_44 rfl rfl rfl ?_
    refine jm_iadd dX7_leave_45 rfl ?_
    refine jm_iald dX7_leave_46 rfl rfl rfl (by decide) (by rw [pk_mul, nI_add]) (by omega) ?_
    refine jm_iconst (nI 4) dX7_leave_47 rfl (by decide) ?_
    refine jm_iload_n dX7_leave_48 rfl rfl rfl ?_
    refine jm_imul dX7_leave_49 rfl ?_
    refine jm_iload_n dX7_leave_50 rfl rfl rfl ?_
    refine jm_iadd dX7_leave_51 rfl ?_
    rw [pk_mul, nI_add]
    refine jm_icmp_ne (tgt := 59) dX7_leave_52 (by decide) rfl (fun c52 => ?_) (fun c52 => ?_)
    · refine jm_iconst (nI 0) dX7_leave_59 rfl (by decide) ?_
      refine jm_istore_n dX7_leave_60 rfl rfl rfl rfl ?_
      dsimp only [List.set]
      refine jm_iinc (nI 1) dX7_leave_61 rfl rfl (by decide) rfl rfl ?_
      dsimp only [List.set]
      refine jm_goto (n := 28) dX7_leave_64 (by decide) ?_
      rw [nI_add]
      exact l_X7_leave0 hj (h0 ⟨i, hi, c52⟩) (i + 1) (by omega)
    · refine jm_iconst (nI 1) dX7_leave_55 rfl (by decide) ?_
      refine jm_goto (n := 60) dX7_leave_56 (by decide) ?_
      refine jm_istore_n dX7_leave_60 rfl rfl rfl rfl ?_
      dsimp only [List.set]
      refine jm_iinc (nI 1) dX7_leave_61 rfl rfl (by decide) rfl rfl ?_
      dsimp only [List.set]
      refine jm_goto (n := 28) dX7_leave_64 (by decide) ?_
      rw [nI_add]
      exact ih (fun i2 h2 => if e : i2 = i then by rw [e]; exact c52 else hb i2 (by omega))
set_option maxHeartbeats 400000 in
theorem s_X7_leave {Ln : Nat} {xs : Nat → Int32} {μ : jm_Mem} {Q : Option Value → jm_Mem → Prop} {p : Int32} (h : ∀ r μ1, om_leave μ p r μ1 → Q (some (.int r)) μ1) : gJ Ln xs 3 mX7_leave 0 (jm_en 4 [.ref 24, .int p]) [] μ Q := by
  show jm_J rg_I (rg_X Ln xs) 3 mX7_leave 0 [some (.ref 24), some (.int p), none, none] [] μ Q
  refine jm_aload_n dX7_leave_0 rfl rfl rfl ?_
  refine jm_iload_n dX7_leave_1 rfl rfl rfl ?_
  refine jm_cV1 dX7_leave_2 rfl cb_X7_91 ci_X7_isHorse cv_X7_isHorse rfl rfl rfl (Nat.le_of_ble_eq_true rfl) (Nat.le_of_ble_eq_true rfl) (by decide) (s_X7_isHorse (fun j hj e ch => ?_) (fun c0 => ?_))
  · subst e
    refine jm_if_ne (tgt := 11) dX7_leave_5 (by decide) rfl (fun c5 => ?_) (fun c5 => absurd c5 (by decide))
    refine jm_aload_n dX7_leave_11 rfl rfl rfl ?_
    refine jm_getr dX7_leave_12 rfl fe_X7_19 rfl rfl rfl ?_
    refine jm_iload_n dX7_leave_15 rfl rfl rfl ?_
    refine jm_iald dX7_leave_16 rfl rfl rfl (by decide) rfl (by first | assumption | omega) ?_
    refine jm_if_ne (tgt := 24) dX7_leave_17 (by decide) rfl (fun c17 => ?_) (fun c17 => ?_)
    · refine jm_iconst (nI 0) dX7_leave_24 rfl (by decide) ?_
      refine jm_istore_n dX7_leave_25 rfl rfl rfl rfl ?_
      dsimp only [List.set]
      refine jm_iconst (nI 0) dX7_leave_26 rfl (by decide) ?_
      refine jm_istore_n dX7_leave_27 rfl rfl rfl rfl ?_
      dsimp only [List.set]
      exact l_X7_leave0 hj (h _ _ (Or.inr ⟨j, hj, rfl, ch, Or.inl ⟨Or.inl c17, rfl, rfl⟩⟩)) 0 (by omega)
    · refine jm_iconst (nI 1) dX7_leave_20 rfl (by decide) ?_
      refine jm_goto (n := 25) dX7_leave_21 (by decide) ?_
      refine jm_istore_n dX7_leave_25 rfl rfl rfl rfl ?_
      dsimp only [List.set]
      refine jm_iconst (nI 0) dX7_leave_26 rfl (by decide) ?_
      refine jm_istore_n dX7_leave_27 rfl rfl rfl rfl ?_
      dsimp only [List.set]
      exact l_X7_leave1 hj (fun hx => h _ _ (Or.inr ⟨j, hj, rfl, ch, Or.inl ⟨Or.inr hx, rfl, rfl⟩⟩)) (fun hx => h _ _ (Or.inr ⟨j, hj, rfl, ch, Or.inr ⟨c17, hx, rfl, rfl⟩⟩)) 0 (by omega) (fun _ h => absurd h (by omega))
  · refine jm_if_ne (tgt := 11) dX7_leave_5 (by decide) rfl (fun c5 => absurd c5 (by decide)) (fun c5 => ?_)
    refine jm_bipush (-101) dX7_leave_8 rfl (by decide) ?_
    refine jm_iret dX7_leave_10 rfl rfl ?_
    refine h _ _ ?_
    first | exact Or.inl ⟨c0, rfl, rfl⟩ | fail "leaf"
set_option maxHeartbeats 400000 in
theorem s_X7_sit {Ln : Nat} {xs : Nat → Int32} {μ : jm_Mem} {Q : Option Value → jm_Mem → Prop} {p w : Int32} (hz : ∀ j, j < 12 → μ 28 j ≤ 0 → μ 28 j = 0) (h : ∀ r μ1, om_sit μ p w r μ1 → Q (some (.int r)) μ1) : gJ Ln xs 4 mX7_sit 0 (jm_en 3 [.ref 24, .int p, .int w]) [] μ Q := by
  show jm_J rg_I (rg_X Ln xs) 4 mX7_sit 0 [some (.ref 24), some (.int p), some (.int w)] [] μ Q
  refine jm_aload_n dX7_sit_0 rfl rfl rfl ?_
  refine jm_iload_n dX7_sit_1 rfl rfl rfl ?_
  refine jm_cV1 dX7_sit_2 rfl cb_X7_91 ci_X7_isHorse cv_X7_isHorse rfl rfl rfl (Nat.le_of_ble_eq_true rfl) (Nat.le_of_ble_eq_true rfl) (by decide) (s_X7_isHorse (fun j hj e ch => ?_) (fun c0 => ?_))
  · subst e
    refine jm_if_ne (tgt := 11) dX7_sit_5 (by decide) rfl (fun c5 => ?_) (fun c5 => absurd c5 (by decide))
    refine jm_iload_n dX7_sit_11 rfl rfl rfl ?_
    refine jm_cS1 dX7_sit_12 rfl cb_X7_110 cs_X7_isRider (Nat.le_of_ble_eq_true rfl) (Nat.le_of_ble_eq_true rfl) (by decide) (s_X7_isRider (fun a12 b12 => ?_) (fun c12 => ?_))
    · refine jm_if_ne (tgt := 21) dX7_sit_15 (by decide) rfl (fun c15 => ?_) (fun c15 => absurd c15 (by decide))
      refine jm_aload_n dX7_sit_21 rfl rfl rfl ?_
      refine jm_getr dX7_sit_22 rfl fe_X7_19 rfl rfl rfl ?_
      refine jm_iload_n dX7_sit_25 rfl rfl rfl ?_
      refine jm_iald dX7_sit_26 rfl rfl rfl (by decide) rfl (by first | assumption | omega) ?_
      refine jm_if_gt (tgt := 39) dX7_sit_27 (by decide) rfl (fun c27 => ?_) (fun c27 => ?_)
      · refine jm_bipush (-103) dX7_sit_39 rfl (by decide) ?_
        refine jm_iret dX7_sit_41 rfl rfl ?_
        refine h _ _ ?_
        first | exact Or.inl ⟨c0, rfl, rfl⟩ | exact Or.inr ⟨j, hj, rfl, ch, Or.inl ⟨c12, rfl, rfl⟩⟩ | exact Or.inr ⟨j, hj, rfl, ch, Or.inr ⟨⟨a12, b12⟩, Or.inl ⟨Or.inl (Int32.not_le.mpr c27), rfl, rfl⟩⟩⟩ | exact Or.inr ⟨j, hj, rfl, ch, Or.inr ⟨⟨a12, b12⟩, Or.inl ⟨Or.inr cl, rfl, rfl⟩⟩⟩ | exact Or.inr ⟨j, hj, rfl, ch, Or.inr ⟨⟨a12, b12⟩, Or.inr ⟨Int32.not_lt.mp c27, cl, rfl, rfl⟩⟩⟩ | fail "leaf"
      · refine jm_aload_n dX7_sit_30 rfl rfl rfl ?_
        refine jm_iload_n dX7_sit_31 rfl rfl rfl ?_
        refine jm_iload_n dX7_sit_32 rfl rfl rfl ?_
        refine jm_cV2 dX7_sit_33 rfl cb_X7_113 ci_X7_isBlocked cv_X7_isBlocked rfl rfl rfl (Nat.le_of_ble_eq_true rfl) (Nat.le_of_ble_eq_true rfl) (by decide) (s_X7_isBlocked hj (hz j hj (Int32.not_lt.mp c27)) (fun cl => ?_) (fun cl => ?_))
        · refine jm_if_eq (tgt := 42) dX7_sit_36 (by decide) rfl (fun c36 => absurd c36 (by decide)) (fun c36 => ?_)
          refine jm_bipush (-103) dX7_sit_39 rfl (by decide) ?_
          refine jm_iret dX7_sit_41 rfl rfl ?_
          refine h _ _ ?_
          first | exact Or.inl ⟨c0, rfl, rfl⟩ | exact Or.inr ⟨j, hj, rfl, ch, Or.inl ⟨c12, rfl, rfl⟩⟩ | exact Or.inr ⟨j, hj, rfl, ch, Or.inr ⟨⟨a12, b12⟩, Or.inl ⟨Or.inl (Int32.not_le.mpr c27), rfl, rfl⟩⟩⟩ | exact Or.inr ⟨j, hj, rfl, ch, Or.inr ⟨⟨a12, b12⟩, Or.inl ⟨Or.inr cl, rfl, rfl⟩⟩⟩ | exact Or.inr ⟨j, hj, rfl, ch, Or.inr ⟨⟨a12, b12⟩, Or.inr ⟨Int32.not_lt.mp c27, cl, rfl, rfl⟩⟩⟩ | fail "leaf"
        · refine jm_if_eq (tgt := 42) dX7_sit_36 (by decide) rfl (fun c36 => ?_) (fun c36 => absurd c36 (by decide))
          refine jm_aload_n dX7_sit_42 rfl rfl rfl ?_
          refine jm_getr dX7_sit_43 rfl fe_X7_19 rfl rfl rfl ?_
          refine jm_iload_n dX7_sit_46 rfl rfl rfl ?_
          refine jm_iload_n dX7_sit_47 rfl rfl rfl ?_
          refine jm_iast dX7_sit_48 rfl rfl rfl (by decide) rfl (by first | assumption | omega) ?_
          refine jm_aload_n dX7_sit_49 rfl rfl rfl ?_
          refine jm_cV0 dX7_sit_50 rfl cb_X7_101 ci_X7_shakeOf cv_X7_shakeOf rfl rfl rfl (Nat.le_of_ble_eq_true rfl) (Nat.le_of_ble_eq_true rfl) (by decide) (s_X7_shakeOf ?_)
          refine jm_iret dX7_sit_53 rfl rfl ?_
          refine h _ _ ?_
          first | exact Or.inl ⟨c0, rfl, rfl⟩ | exact Or.inr ⟨j, hj, rfl, ch, Or.inl ⟨c12, rfl, rfl⟩⟩ | exact Or.inr ⟨j, hj, rfl, ch, Or.inr ⟨⟨a12, b12⟩, Or.inl ⟨Or.inl (Int32.not_le.mpr c27), rfl, rfl⟩⟩⟩ | exact Or.inr ⟨j, hj, rfl, ch, Or.inr ⟨⟨a12, b12⟩, Or.inl ⟨Or.inr cl, rfl, rfl⟩⟩⟩ | exact Or.inr ⟨j, hj, rfl, ch, Or.inr ⟨⟨a12, b12⟩, Or.inr ⟨Int32.not_lt.mp c27, cl, rfl, rfl⟩⟩⟩ | fail "leaf"
    · refine jm_if_ne (tgt := 21) dX7_sit_15 (by decide) rfl (fun c15 => absurd c15 (by decide)) (fun c15 => ?_)
      refine jm_bipush (-102) dX7_sit_18 rfl (by decide) ?_
      refine jm_iret dX7_sit_20 rfl rfl ?_
      refine h _ _ ?_
      first | exact Or.inl ⟨c0, rfl, rfl⟩ | exact Or.inr ⟨j, hj, rfl, ch, Or.inl ⟨c12, rfl, rfl⟩⟩ | exact Or.inr ⟨j, hj, rfl, ch, Or.inr ⟨⟨a12, b12⟩, Or.inl ⟨Or.inl (Int32.not_le.mpr c27), rfl, rfl⟩⟩⟩ | exact Or.inr ⟨j, hj, rfl, ch, Or.inr ⟨⟨a12, b12⟩, Or.inl ⟨Or.inr cl, rfl, rfl⟩⟩⟩ | exact Or.inr ⟨j, hj, rfl, ch, Or.inr ⟨⟨a12, b12⟩, Or.inr ⟨Int32.not_lt.mp c27, cl, rfl, rfl⟩⟩⟩ | fail "leaf"
  · refine jm_if_ne (tgt := 11) dX7_sit_5 (by decide) rfl (fun c5 => absurd c5 (by decide)) (fun c5 => ?_)
    refine jm_bipush (-101) dX7_sit_8 rfl (by decide) ?_
    refine jm_iret dX7_sit_10 rfl rfl ?_
    refine h _ _ ?_
    first | exact Or.inl ⟨c0, rfl, rfl⟩ | exact Or.inr ⟨j, hj, rfl, ch, Or.inl ⟨c12, rfl, rfl⟩⟩ | exact Or.inr ⟨j, hj, rfl, ch, Or.inr ⟨⟨a12, b12⟩, Or.inl ⟨Or.inl (Int32.not_le.mpr c27), rfl, rfl⟩⟩⟩ | exact Or.inr ⟨j, hj, rfl, ch, Or.inr ⟨⟨a12, b12⟩, Or.inl ⟨Or.inr cl, rfl, rfl⟩⟩⟩ | exact Or.inr ⟨j, hj, rfl, ch, Or.inr ⟨⟨a12, b12⟩, Or.inr ⟨Int32.not_lt.mp c27, cl, rfl, rfl⟩⟩⟩ | fail "leaf"
set_option maxHeartbeats 400000 in
theorem s_X7_rise {Ln : Nat} {xs : Nat → Int32} {μ : jm_Mem} {Q : Option Value → jm_Mem → Prop} {p : Int32} (h : ∀ r μ1, om_rise μ p r μ1 → Q (some (.int r)) μ1) : gJ Ln xs 3 mX7_rise 0 (jm_en 3 [.ref 24, .int p]) [] μ Q := by
  show jm_J rg_I (rg_X Ln xs) 3 mX7_rise 0 [some (.ref 24), some (.int p), none] [] μ Q
  refine jm_aload_n dX7_rise_0 rfl rfl rfl ?_
  refine jm_iload_n dX7_rise_1 rfl rfl rfl ?_
  refine jm_cV1 dX7_rise_2 rfl cb_X7_91 ci_X7_isHorse cv_X7_isHorse rfl rfl rfl (Nat.le_of_ble_eq_true rfl) (Nat.le_of_ble_eq_true rfl) (by decide) (s_X7_isHorse (fun j hj e ch => ?_) (fun c0 => ?_))
  · subst e
    refine jm_if_ne (tgt := 11) dX7_rise_5 (by decide) rfl (fun c5 => ?_) (fun c5 => absurd c5 (by decide))
    refine jm_aload_n dX7_rise_11 rfl rfl rfl ?_
    refine jm_getr dX7_rise_12 rfl fe_X7_19 rfl rfl rfl ?_
    refine jm_iload_n dX7_rise_15 rfl rfl rfl ?_
    refine jm_iald dX7_rise_16 rfl rfl rfl (by decide) rfl (by first | assumption | omega) ?_
    refine jm_if_ne (tgt := 23) dX7_rise_17 (by decide) rfl (fun c17 => ?_) (fun c17 => ?_)
    · refine jm_aload_n dX7_rise_23 rfl rfl rfl ?_
      refine jm_getr dX7_rise_24 rfl fe_X7_19 rfl rfl rfl ?_
      refine jm_iload_n dX7_rise_27 rfl rfl rfl ?_
      refine jm_iald dX7_rise_28 rfl rfl rfl (by decide) rfl (by first | assumption | omega) ?_
      refine jm_istore_n dX7_rise_29 rfl rfl rfl rfl ?_
      dsimp only [List.set]
      refine jm_aload_n dX7_rise_30 rfl rfl rfl ?_
      refine jm_getr dX7_rise_31 rfl fe_X7_19 rfl rfl rfl ?_
      refine jm_iload_n dX7_rise_34 rfl rfl rfl ?_
      refine jm_iconst (nI 0) dX7_rise_35 rfl (by decide) ?_
      refine jm_iast dX7_rise_36 rfl rfl rfl (by decide) rfl (by first | assumption | omega) ?_
      refine jm_iload_n dX7_rise_37 rfl rfl rfl ?_
      refine jm_iret dX7_rise_38 rfl rfl ?_
      refine h _ _ ?_
      first | exact Or.inl ⟨c0, rfl, rfl⟩ | exact Or.inr ⟨j, hj, rfl, ch, Or.inl ⟨c17, rfl, rfl⟩⟩ | exact Or.inr ⟨j, hj, rfl, ch, Or.inr ⟨c17, rfl, rfl⟩⟩ | fail "leaf"
    · refine jm_bipush (-103) dX7_rise_20 rfl (by decide) ?_
      refine jm_iret dX7_rise_22 rfl rfl ?_
      refine h _ _ ?_
      first | exact Or.inl ⟨c0, rfl, rfl⟩ | exact Or.inr ⟨j, hj, rfl, ch, Or.inl ⟨c17, rfl, rfl⟩⟩ | exact Or.inr ⟨j, hj, rfl, ch, Or.inr ⟨c17, rfl, rfl⟩⟩ | fail "leaf"
  · refine jm_if_ne (tgt := 11) dX7_rise_5 (by decide) rfl (fun c5 => absurd c5 (by decide)) (fun c5 => ?_)
    refine jm_bipush (-101) dX7_rise_8 rfl (by decide) ?_
    refine jm_iret dX7_rise_10 rfl rfl ?_
    refine h _ _ ?_
    first | exact Or.inl ⟨c0, rfl, rfl⟩ | exact Or.inr ⟨j, hj, rfl, ch, Or.inl ⟨c17, rfl, rfl⟩⟩ | exact Or.inr ⟨j, hj, rfl, ch, Or.inr ⟨c17, rfl, rfl⟩⟩ | fail "leaf"
set_option maxHeartbeats 400000 in
theorem s_X7_shake {Ln : Nat} {xs : Nat → Int32} {μ : jm_Mem} {Q : Option Value → jm_Mem → Prop}  (h : Q (some (.int (md_sh μ))) μ) : gJ Ln xs 2 mX7_shake 0 (jm_en 1 [.ref 24]) [] μ Q := by
  show jm_J rg_I (rg_X Ln xs) 2 mX7_shake 0 [some (.ref 24)] [] μ Q
  refine jm_aload_n dX7_shake_0 rfl rfl rfl ?_
  refine jm_cV0 dX7_shake_1 rfl cb_X7_101 ci_X7_shakeOf cv_X7_shakeOf rfl rfl rfl (Nat.le_of_ble_eq_true rfl) (Nat.le_of_ble_eq_true rfl) (by decide) (s_X7_shakeOf ?_)
  refine jm_iret dX7_shake_4 rfl rfl ?_
  exact h
set_option maxHeartbeats 400000 in
theorem s_X7_rising {Ln : Nat} {xs : Nat → Int32} {μ : jm_Mem} {Q : Option Value → jm_Mem → Prop}  (h : Q (some (.int (md_rs μ 12))) μ) : gJ Ln xs 2 mX7_rising 0 (jm_en 1 [.ref 24]) [] μ Q := by
  show jm_J rg_I (rg_X Ln xs) 2 mX7_rising 0 [some (.ref 24)] [] μ Q
  refine jm_aload_n dX7_rising_0 rfl rfl rfl ?_
  refine jm_cV0 dX7_rising_1 rfl cb_X7_98 ci_X7_risingOf cv_X7_risingOf rfl rfl rfl (Nat.le_of_ble_eq_true rfl) (Nat.le_of_ble_eq_true rfl) (by decide) (s_X7_risingOf ?_)
  refine jm_iret dX7_rising_4 rfl rfl ?_
  exact h
set_option maxHeartbeats 400000 in
theorem s_X7_may {Ln : Nat} {xs : Nat → Int32} {μ : jm_Mem} {Q : Option Value → jm_Mem → Prop}  (h : ∀ r, om_may μ  r → Q (some (.int r)) μ) : gJ Ln xs 3 mX7_may 0 (jm_en 1 [.ref 24]) [] μ Q := by
  show jm_J rg_I (rg_X Ln xs) 3 mX7_may 0 [some (.ref 24)] [] μ Q
  refine jm_aload_n dX7_may_0 rfl rfl rfl ?_
  refine jm_cV0 dX7_may_1 rfl cb_X7_104 ci_X7_mayTurn cv_X7_mayTurn rfl rfl rfl (Nat.le_of_ble_eq_true rfl) (Nat.le_of_ble_eq_true rfl) (by decide) (s_X7_mayTurn (fun cl => ?_) (fun cl => ?_))
  · refine jm_if_eq (tgt := 11) dX7_may_4 (by decide) rfl (fun c4 => absurd c4 (by decide)) (fun c4 => ?_)
    refine jm_iconst (nI 1) dX7_may_7 rfl (by decide) ?_
    refine jm_goto (n := 12) dX7_may_8 (by decide) ?_
    refine jm_iret dX7_may_12 rfl rfl ?_
    refine h _ ?_
    first | exact Or.inl ⟨cl, rfl⟩ | exact Or.inr ⟨cl, rfl⟩ | fail "leaf"
  · refine jm_if_eq (tgt := 11) dX7_may_4 (by decide) rfl (fun c4 => ?_) (fun c4 => absurd c4 (by decide))
    refine jm_iconst (nI 0) dX7_may_11 rfl (by decide) ?_
    refine jm_iret dX7_may_12 rfl rfl ?_
    refine h _ ?_
    first | exact Or.inl ⟨cl, rfl⟩ | exact Or.inr ⟨cl, rfl⟩ | fail "leaf"
set_option maxHeartbeats 400000 in
theorem s_X7_best {Ln : Nat} {xs : Nat → Int32} {μ : jm_Mem} {Q : Option Value → jm_Mem → Prop} {w : Int32} (h : ∀ r, om_best μ w r → Q (some (.int r)) μ) : gJ Ln xs 5 mX7_best 0 (jm_en 2 [.ref 24, .int w]) [] μ Q := by
  show jm_J rg_I (rg_X Ln xs) 5 mX7_best 0 [some (.ref 24), some (.int w)] [] μ Q
  refine jm_iload_n dX7_best_0 rfl rfl rfl ?_
  refine jm_cS1 dX7_best_1 rfl cb_X7_110 cs_X7_isRider (Nat.le_of_ble_eq_true rfl) (Nat.le_of_ble_eq_true rfl) (by decide) (s_X7_isRider (fun a1 b1 => ?_) (fun c1 => ?_))
  · refine jm_if_eq (tgt := 15) dX7_best_4 (by decide) rfl (fun c4 => absurd c4 (by decide)) (fun c4 => ?_)
    refine jm_aload_n dX7_best_7 rfl rfl rfl ?_
    refine jm_iload_n dX7_best_8 rfl rfl rfl ?_
    refine jm_cV1 dX7_best_9 rfl cb_X7_124 ci_X7_bestOf cv_X7_bestOf rfl rfl rfl (Nat.le_of_ble_eq_true rfl) (Nat.le_of_ble_eq_true rfl) (by decide) (s_X7_bestOf ?_)
    refine jm_goto (n := 17) dX7_best_12 (by decide) ?_
    refine jm_iret dX7_best_17 rfl rfl ?_
    refine h _ ?_
    first | exact Or.inl ⟨c1, rfl⟩ | exact Or.inr ⟨⟨a1, b1⟩, rfl⟩ | fail "leaf"
  · refine jm_if_eq (tgt := 15) dX7_best_4 (by decide) rfl (fun c4 => ?_) (fun c4 => absurd c4 (by decide))
    refine jm_bipush (-102) dX7_best_15 rfl (by decide) ?_
    refine jm_iret dX7_best_17 rfl rfl ?_
    refine h _ ?_
    first | exact Or.inl ⟨c1, rfl⟩ | exact Or.inr ⟨⟨a1, b1⟩, rfl⟩ | fail "leaf"
set_option maxHeartbeats 400000 in
theorem s_X7_rider {Ln : Nat} {xs : Nat → Int32} {μ : jm_Mem} {Q : Option Value → jm_Mem → Prop} {p : Int32} (h : ∀ r, om_rider μ p r → Q (some (.int r)) μ) : gJ Ln xs 2 mX7_rider 0 (jm_en 2 [.ref 24, .int p]) [] μ Q := by
  show jm_J rg_I (rg_X Ln xs) 2 mX7_rider 0 [some (.ref 24), some (.int p)] [] μ Q
  refine jm_iload_n dX7_rider_0 rfl rfl rfl ?_
  refine jm_cS1 dX7_rider_1 rfl cb_X7_79 cs_X7_isPlace (Nat.le_of_ble_eq_true rfl) (Nat.le_of_ble_eq_true rfl) (by decide) (s_X7_isPlace (fun j hj e => ?_) (fun c0 => ?_))
  · subst e
    refine jm_if_ne (tgt := 12) dX7_rider_4 (by decide) rfl (fun c4 => ?_) (fun c4 => absurd c4 (by decide))
    refine jm_aload_n dX7_rider_12 rfl rfl rfl ?_
    refine jm_getr dX7_rider_13 rfl fe_X7_16 rfl rfl rfl ?_
    refine jm_iload_n dX7_rider_16 rfl rfl rfl ?_
    refine jm_iald dX7_rider_17 rfl rfl rfl (by decide) rfl (by first | assumption | omega) ?_
    refine jm_if_le (tgt := 30) dX7_rider_18 (by decide) rfl (fun c18 => ?_) (fun c18 => ?_)
    · refine jm_iconst (nI 0) dX7_rider_30 rfl (by decide) ?_
      refine jm_iret dX7_rider_31 rfl rfl ?_
      refine h _ ?_
      first | exact Or.inl ⟨c0, rfl⟩ | exact Or.inr ⟨j, hj, rfl, (if_neg c18).symm⟩ | exact Or.inr ⟨j, hj, rfl, (if_pos c18).symm⟩ | fail "leaf"
    · refine jm_aload_n dX7_rider_21 rfl rfl rfl ?_
      refine jm_getr dX7_rider_22 rfl fe_X7_19 rfl rfl rfl ?_
      refine jm_iload_n dX7_rider_25 rfl rfl rfl ?_
      refine jm_iald dX7_rider_26 rfl rfl rfl (by decide) rfl (by first | assumption | omega) ?_
      refine jm_goto (n := 31) dX7_rider_27 (by decide) ?_
      refine jm_iret dX7_rider_31 rfl rfl ?_
      refine h _ ?_
      first | exact Or.inl ⟨c0, rfl⟩ | exact Or.inr ⟨j, hj, rfl, (if_neg c18).symm⟩ | exact Or.inr ⟨j, hj, rfl, (if_pos c18).symm⟩ | fail "leaf"
  · refine jm_if_ne (tgt := 12) dX7_rider_4 (by decide) rfl (fun c4 => absurd c4 (by decide)) (fun c4 => ?_)
    refine jm_bipush (-101) dX7_rider_7 rfl (by decide) ?_
    refine jm_goto (n := 31) dX7_rider_9 (by decide) ?_
    refine jm_iret dX7_rider_31 rfl rfl ?_
    refine h _ ?_
    first | exact Or.inl ⟨c0, rfl⟩ | exact Or.inr ⟨j, hj, rfl, (if_neg c18).symm⟩ | exact Or.inr ⟨j, hj, rfl, (if_pos c18).symm⟩ | fail "leaf"
set_option maxHeartbeats 400000 in
theorem s_X7_coat {Ln : Nat} {xs : Nat → Int32} {μ : jm_Mem} {Q : Option Value → jm_Mem → Prop} {p c : Int32} (hm : ∀ j, j < 12 → ¬ μ 27 j ≤ 0 → ∃ m, m ≤ 8 ∧ μ 29 j = nI m) (h : ∀ r μ1, om_coat μ p c r μ1 → Q (some (.int r)) μ1) : gJ Ln xs 3 mX7_coat 0 (jm_en 3 [.ref 24, .int p, .int c]) [] μ Q := by
  show jm_J rg_I (rg_X Ln xs) 3 mX7_coat 0 [some (.ref 24), some (.int p), some (.int c)] [] μ Q
  refine jm_aload_n dX7_coat_0 rfl rfl rfl ?_
  refine jm_iload_n dX7_coat_1 rfl rfl rfl ?_
  refine jm_cV1 dX7_coat_2 rfl cb_X7_91 ci_X7_isHorse cv_X7_isHorse rfl rfl rfl (Nat.le_of_ble_eq_true rfl) (Nat.le_of_ble_eq_true rfl) (by decide) (s_X7_isHorse (fun j hj e ch => ?_) (fun c0 => ?_))
  · subst e
    obtain ⟨m, h8, em⟩ := hm j hj ch
    refine jm_if_ne (tgt := 11) dX7_coat_5 (by decide) rfl (fun c5 => ?_) (fun c5 => absurd c5 (by decide))
    refine jm_iload_n dX7_coat_11 rfl rfl rfl ?_
    refine jm_i2l dX7_coat_12 rfl ?_
    refine jm_lconst 0 dX7_coat_13 rfl (by decide) ?_
    refine jm_ldc2 99 dX7_coat_14 rfl kc_X7_85 ?_
    refine jm_cS3 dX7_coat_17 rfl cb_X7_75 cs_X7_in (Nat.le_of_ble_eq_true rfl) (Nat.le_of_ble_eq_true rfl) (by decide) (s_X7_in c (nI 0) (nI 99) rfl (by decide) (by decide) (fun a17 b17 => ?_) (fun c17 => ?_))
    · refine jm_if_ne (tgt := 26) dX7_coat_20 (by decide) rfl (fun c20 => ?_) (fun c20 => absurd c20 (by decide))
      refine jm_aload_n dX7_coat_26 rfl rfl rfl ?_
      refine jm_getr dX7_coat_27 rfl fe_X7_22 rfl rfl rfl ?_
      refine jm_iload_n dX7_coat_30 rfl rfl rfl ?_
      refine jm_iald dX7_coat_31 rfl rfl rfl (by decide) rfl (by first | assumption | omega) ?_
      refine jm_bipush (nI 8) dX7_coat_32 rfl (by decide) ?_
      refine jm_icmp_ne (tgt := 40) dX7_coat_34 (by decide) rfl (fun c34 => ?_) (fun c34 => ?_)
      · have hl8 : m < 8 := by have : m ≠ 8 := (fun e => c34 (by rw [em, e])); omega
        refine jm_aload_n dX7_coat_40 rfl rfl rfl ?_
        refine jm_getr dX7_coat_41 rfl fe_X7_25 rfl rfl rfl ?_
        refine jm_bipush (nI 8) dX7_coat_44 rfl (by decide) ?_
        refine jm_iload_n dX7_coat_46 rfl rfl rfl ?_
        refine jm_imul dX7_coat_47 rfl ?_
        refine jm_aload_n dX7_coat_48 rfl rfl rfl ?_
        refine jm_getr dX7_coat_49 rfl fe_X7_22 rfl rfl rfl ?_
        refine jm_iload_n dX7_coat_52 rfl rfl rfl ?_
        refine jm_iald dX7_coat_53 rfl rfl rfl (by decide) rfl (by first | assumption | omega) ?_
        refine jm_iadd dX7_coat_54 rfl ?_
        refine jm_iload_n dX7_coat_55 rfl rfl rfl ?_
        refine jm_iast dX7_coat_56 rfl rfl rfl (by decide) (by rw [em, pk_mul, nI_add]) (by omega) ?_
        refine jm_aload_n dX7_coat_57 rfl rfl rfl ?_
        refine jm_getr dX7_coat_58 rfl fe_X7_22 rfl rfl rfl ?_
        refine jm_iload_n dX7_coat_61 rfl rfl rfl ?_
        refine jm_dup2 dX7_coat_62 rfl rfl rfl ?_
        refine jm_iald dX7_coat_63 rfl rfl rfl (by decide) rfl (by first | assumption | omega) ?_
        refine jm_iconst (nI 1) dX7_coat_64 rfl (by decide) ?_
        refine jm_iadd dX7_coat_65 rfl ?_
        refine jm_iast dX7_coat_66 rfl rfl rfl (by decide) rfl (by first | assumption | omega) ?_
        refine jm_aload_n dX7_coat_67 rfl rfl rfl ?_
        refine jm_getr dX7_coat_68 rfl fe_X7_22 rfl rfl rfl ?_
        refine jm_iload_n dX7_coat_71 rfl rfl rfl ?_
        refine jm_iald dX7_coat_72 rfl rfl rfl (by decide) rfl (by first | assumption | omega) ?_
        refine jm_iret dX7_coat_73 rfl rfl ?_
        refine h _ _ ?_
        first | exact Or.inl ⟨c0, rfl, rfl⟩ | exact Or.inr ⟨j, m, hj, rfl, ch, em, Or.inl ⟨c17, rfl, rfl⟩⟩ | exact Or.inr ⟨j, m, hj, rfl, ch, em, Or.inr ⟨⟨a17, b17⟩, Or.inl ⟨(nI_eq (by omega) (by omega)).mp (em ▸ c34), rfl, rfl⟩⟩⟩ | exact Or.inr ⟨j, m, hj, rfl, ch, em, Or.inr ⟨⟨a17, b17⟩, Or.inr ⟨hl8, by rw [rd_eq, rd_na (by decide), em, nI_add], by rw [rd_na (by decide), em, nI_add]⟩⟩⟩ | fail "leaf"
      · refine jm_bipush (-104) dX7_coat_37 rfl (by decide) ?_
        refine jm_iret dX7_coat_39 rfl rfl ?_
        refine h _ _ ?_
        first | exact Or.inl ⟨c0, rfl, rfl⟩ | exact Or.inr ⟨j, m, hj, rfl, ch, em, Or.inl ⟨c17, rfl, rfl⟩⟩ | exact Or.inr ⟨j, m, hj, rfl, ch, em, Or.inr ⟨⟨a17, b17⟩, Or.inl ⟨(nI_eq (by omega) (by omega)).mp (em ▸ c34), rfl, rfl⟩⟩⟩ | exact Or.inr ⟨j, m, hj, rfl, ch, em, Or.inr ⟨⟨a17, b17⟩, Or.inr ⟨hl8, by rw [rd_eq, rd_na (by decide), em, nI_add], by rw [rd_na (by decide), em, nI_add]⟩⟩⟩ | fail "leaf"
    · refine jm_if_ne (tgt := 26) dX7_coat_20 (by decide) rfl (fun c20 => absurd c20 (by decide)) (fun c20 => ?_)
      refine jm_bipush (-102) dX7_coat_23 rfl (by decide) ?_
      refine jm_iret dX7_coat_25 rfl rfl ?_
      refine h _ _ ?_
      first | exact Or.inl ⟨c0, rfl, rfl⟩ | exact Or.inr ⟨j, m, hj, rfl, ch, em, Or.inl ⟨c17, rfl, rfl⟩⟩ | exact Or.inr ⟨j, m, hj, rfl, ch, em, Or.inr ⟨⟨a17, b17⟩, Or.inl ⟨(nI_eq (by omega) (by omega)).mp (em ▸ c34), rfl, rfl⟩⟩⟩ | exact Or.inr ⟨j, m, hj, rfl, ch, em, Or.inr ⟨⟨a17, b17⟩, Or.inr ⟨hl8, by rw [rd_eq, rd_na (by decide), em, nI_add], by rw [rd_na (by decide), em, nI_add]⟩⟩⟩ | fail "leaf"
  · refine jm_if_ne (tgt := 11) dX7_coat_5 (by decide) rfl (fun c5 => absurd c5 (by decide)) (fun c5 => ?_)
    refine jm_bipush (-101) dX7_coat_8 rfl (by decide) ?_
    refine jm_iret dX7_coat_10 rfl rfl ?_
    refine h _ _ ?_
    first | exact Or.inl ⟨c0, rfl, rfl⟩ | exact Or.inr ⟨j, m, hj, rfl, ch, em, Or.inl ⟨c17, rfl, rfl⟩⟩ | exact Or.inr ⟨j, m, hj, rfl, ch, em, Or.inr ⟨⟨a17, b17⟩, Or.inl ⟨(nI_eq (by omega) (by omega)).mp (em ▸ c34), rfl, rfl⟩⟩⟩ | exact Or.inr ⟨j, m, hj, rfl, ch, em, Or.inr ⟨⟨a17, b17⟩, Or.inr ⟨hl8, by rw [rd_eq, rd_na (by decide), em, nI_add], by rw [rd_na (by decide), em, nI_add]⟩⟩⟩ | fail "leaf"
set_option maxHeartbeats 400000 in
theorem s_X7_sample {Ln : Nat} {xs : Nat → Int32} {μ : jm_Mem} {Q : Option Value → jm_Mem → Prop} {p k : Int32} (hm : ∀ j, j < 12 → ¬ μ 27 j ≤ 0 → ∃ m, m ≤ 8 ∧ μ 29 j = nI m) (h : ∀ r, om_sample μ p k r → Q (some (.int r)) μ) : gJ Ln xs 3 mX7_sample 0 (jm_en 3 [.ref 24, .int p, .int k]) [] μ Q := by
  show jm_J rg_I (rg_X Ln xs) 3 mX7_sample 0 [some (.ref 24), some (.int p), some (.int k)] [] μ Q
  refine jm_aload_n dX7_sample_0 rfl rfl rfl ?_
  refine jm_iload_n dX7_sample_1 rfl rfl rfl ?_
  refine jm_cV1 dX7_sample_2 rfl cb_X7_91 ci_X7_isHorse cv_X7_isHorse rfl rfl rfl (Nat.le_of_ble_eq_true rfl) (Nat.le_of_ble_eq_true rfl) (by decide) (s_X7_isHorse (fun j hj e ch => ?_) (fun c0 => ?_))
  · subst e
    obtain ⟨m, h8, em⟩ := hm j hj ch
    refine jm_if_ne (tgt := 11) dX7_sample_5 (by decide) rfl (fun c5 => ?_) (fun c5 => absurd c5 (by decide))
    refine jm_iload_n dX7_sample_11 rfl rfl rfl ?_
    refine jm_i2l dX7_sample_12 rfl ?_
    refine jm_lconst 0 dX7_sample_13 rfl (by decide) ?_
    refine jm_aload_n dX7_sample_14 rfl rfl rfl ?_
    refine jm_getr dX7_sample_15 rfl fe_X7_22 rfl rfl rfl ?_
    refine jm_iload_n dX7_sample_18 rfl rfl rfl ?_
    refine jm_iald dX7_sample_19 rfl rfl rfl (by decide) rfl (by first | assumption | omega) ?_
    refine jm_iconst (nI 1) dX7_sample_20 rfl (by decide) ?_
    refine jm_isub dX7_sample_21 rfl ?_
    refine jm_i2l dX7_sample_22 rfl ?_
    refine jm_cS3 dX7_sample_23 rfl cb_X7_75 cs_X7_in (Nat.le_of_ble_eq_true rfl) (Nat.le_of_ble_eq_true rfl) (by decide) (s_X7_in k (nI 0) (μ 29 j - nI 1) rfl (by decide) rfl (fun a23 b23 => ?_) (fun c23 => ?_))
    · rw [em] at b23
      obtain ⟨i, hi, rfl⟩ := rg_dep h8 a23 b23
      refine jm_if_eq (tgt := 52) dX7_sample_26 (by decide) rfl (fun c26 => absurd c26 (by decide)) (fun c26 => ?_)
      refine jm_aload_n dX7_sample_29 rfl rfl rfl ?_
      refine jm_getr dX7_sample_30 rfl fe_X7_25 rfl rfl rfl ?_
      refine jm_bipush (nI 8) dX7_sample_33 rfl (by decide) ?_
      refine jm_iload_n dX7_sample_35 rfl rfl rfl ?_
      refine jm_imul dX7_sample_36 rfl ?_
      refine jm_aload_n dX7_sample_37 rfl rfl rfl ?_
      refine jm_getr dX7_sample_38 rfl fe_X7_22 rfl rfl rfl ?_
      refine jm_iload_n dX7_sample_41 rfl rfl rfl ?_
      refine jm_iald dX7_sample_42 rfl rfl rfl (by decide) rfl (by first | assumption | omega) ?_
      refine jm_iadd dX7_sample_43 rfl ?_
      refine jm_iconst (nI 1) dX7_sample_44 rfl (by decide) ?_
      refine jm_isub dX7_sample_45 rfl ?_
      refine jm_iload_n dX7_sample_46 rfl rfl rfl ?_
      refine jm_isub dX7_sample_47 rfl ?_
      refine jm_iald dX7_sample_48 rfl rfl rfl (by decide) (by rw [em, pk_mul, nI_add, pk_sub (by omega), pk_sub (by omega)]) (by omega) ?_
      refine jm_goto (n := 53) dX7_sample_49 (by decide) ?_
      refine jm_iret dX7_sample_53 rfl rfl ?_
      refine h _ ?_
      first | exact Or.inl ⟨c0, rfl⟩ | exact Or.inr ⟨j, m, hj, rfl, ch, em, Or.inl ⟨i, hi, rfl, rfl⟩⟩ | exact Or.inr ⟨j, m, hj, rfl, ch, em, Or.inr ⟨em ▸ c23, rfl⟩⟩ | fail "leaf"
    · refine jm_if_eq (tgt := 52) dX7_sample_26 (by decide) rfl (fun c26 => ?_) (fun c26 => absurd c26 (by decide))
      refine jm_iconst (-1) dX7_sample_52 rfl (by decide) ?_
      refine jm_iret dX7_sample_53 rfl rfl ?_
      refine h _ ?_
      first | exact Or.inl ⟨c0, rfl⟩ | exact Or.inr ⟨j, m, hj, rfl, ch, em, Or.inl ⟨i, hi, rfl, rfl⟩⟩ | exact Or.inr ⟨j, m, hj, rfl, ch, em, Or.inr ⟨em ▸ c23, rfl⟩⟩ | fail "leaf"
  · refine jm_if_ne (tgt := 11) dX7_sample_5 (by decide) rfl (fun c5 => absurd c5 (by decide)) (fun c5 => ?_)
    refine jm_bipush (-101) dX7_sample_8 rfl (by decide) ?_
    refine jm_iret dX7_sample_10 rfl rfl ?_
    refine h _ ?_
    first | exact Or.inl ⟨c0, rfl⟩ | exact Or.inr ⟨j, m, hj, rfl, ch, em, Or.inl ⟨i, hi, rfl, rfl⟩⟩ | exact Or.inr ⟨j, m, hj, rfl, ch, em, Or.inr ⟨em ▸ c23, rfl⟩⟩ | fail "leaf"
set_option maxHeartbeats 1000000 in
theorem l_X7_strip {Ln : Nat} {xs : Nat → Int32} {μ : jm_Mem} {Q : Option Value → jm_Mem → Prop} {j m : Nat} {c : Int32} (hj : j < 12) (em : μ 29 j = nI m) (h8 : m ≤ 8) (h0 : (∀ i, i < m → ¬ μ 30 (8 * j + i) = c) → Q (some (.int (-102))) μ) (h1 : ∀ i, i < m → μ 30 (8 * j + i) = c → (∀ t, i < t → t < m → ¬ μ 30 (8 * j + t) = c) → Q (some (.int (nI (m - 1 - i)))) (jm_set μ 29 j (nI (i + 1)))) : ∀ i, i ≤ m → (∀ t, i ≤ t → t < m → ¬ μ 30 (8 * j + t) = c) → jm_J rg_I (rg_X Ln xs) 3 mX7_strip 20 [some (.ref 24), some (.int (nI j)), some (.int c), some (.int (nI i - nI 1)), none] [] μ Q := by
  intro i
  induction i with
  | zero =>
    intro _ hb
    refine jm_iload_n dX7_strip_20 rfl rfl rfl ?_
    refine jm_if_lt (tgt := 45) dX7_strip_21 (by decide) rfl (fun c21 => ?_) (fun c21 => absurd (by decide) c21)
    refine jm_iload_n dX7_strip_45 rfl rfl rfl ?_
    refine jm_if_ge (tgt := 52) dX7_strip_46 (by decide) rfl (fun c46 => absurd c46 (by decide)) (fun c46 => ?_)
    refine jm_bipush (-102) dX7_strip_49 rfl (by decide) ?_
    refine jm_iret dX7_strip_51 rfl rfl ?_
    exact h0 (fun i hi => hb i (by omega) hi)
  | succ i ih =>
    intro hi hb
    rw [pk_sub (show 1 ≤ i + 1 by omega), show i + 1 - 1 = i from rfl]
    refine jm_iload_n dX7_strip_20 rfl rfl rfl ?_
    refine jm_if_lt (tgt := 45) dX7_strip_21 (by decide) rfl (fun c21 => absurd c21 (nI_pos (by omega))) (fun c21 => ?_)
    refine jm_aload_n dX7_strip_24 rfl rfl rfl ?_
    refine jm_getr dX7_strip_25 rfl fe_X7_25 rfl rfl rfl ?_
    refine jm_bipush (nI 8) dX7_strip_28 rfl (by decide) ?_
    refine jm_iload_n dX7_strip_30 rfl rfl rfl ?_
    refine jm_imul dX7_strip_31 rfl ?_
    refine jm_iload_n dX7_strip_32 rfl rfl rfl ?_
    refine jm_iadd dX7_strip_33 rfl ?_
    refine jm_iald dX7_strip_34 rfl rfl rfl (by decide) (by rw [pk_mul, nI_add]) (by omega) ?_
    refine jm_iload_n dX7_strip_35 rfl rfl rfl ?_
    refine jm_icmp_eq (tgt := 45) dX7_strip_36 (by decide) rfl (fun c36 => ?_) (fun c36 => ?_)
    · refine jm_iload_n dX7_strip_45 rfl rfl rfl ?_
      refine jm_if_ge (tgt := 52) dX7_strip_46 (by decide) rfl (fun c46 => ?_) (fun c46 => absurd (nI_pos' (by omega)) c46)
      refine jm_aload_n dX7_strip_52 rfl rfl rfl ?_
      refine jm_getr dX7_strip_53 rfl fe_X7_22 rfl rfl rfl ?_
      refine jm_iload_n dX7_strip_56 rfl rfl rfl ?_
      refine jm_iald dX7_strip_57 rfl rfl rfl (by decide) rfl (by first | assumption | omega) ?_
      refine jm_iconst (nI 1) dX7_strip_58 rfl (by decide) ?_
      refine jm_isub dX7_strip_59 rfl ?_
      refine jm_iload_n dX7_strip_60 rfl rfl rfl ?_
      refine jm_isub dX7_strip_61 rfl ?_
      refine jm_istore dX7_strip_62 rfl rfl rfl ?_
      dsimp only [List.set]
      refine jm_aload_n dX7_strip_64 rfl rfl rfl ?_
      refine jm_getr dX7_strip_65 rfl fe_X7_22 rfl rfl rfl ?_
      refine jm_iload_n dX7_strip_68 rfl rfl rfl ?_
      refine jm_iload_n dX7_strip_69 rfl rfl rfl ?_
      refine jm_iconst (nI 1) dX7_strip_70 rfl (by decide) ?_
      refine jm_iadd dX7_strip_71 rfl ?_
      refine jm_iast dX7_strip_72 rfl rfl rfl (by decide) rfl (by first | assumption | omega) ?_
      refine jm_iload dX7_strip_73 rfl rfl ?_
      refine jm_iret dX7_strip_75 rfl rfl ?_
      rw [em, pk_sub (by omega), pk_sub (by omega), nI_add]
      exact h1 i (by omega) c36 (fun t h2 h3 => hb t (by omega) h3)
    · refine jm_iinc (-1) dX7_strip_39 rfl rfl (by decide) rfl rfl ?_
      dsimp only [List.set]
      refine jm_goto (n := 20) dX7_strip_42 (by decide) ?_
      rw [rg_m1]
      exact ih (by omega) (fun t h2 h3 => if e : t = i then by rw [e]; exact c36 else hb t (by omega) h3)
set_option maxHeartbeats 400000 in
theorem s_X7_strip {Ln : Nat} {xs : Nat → Int32} {μ : jm_Mem} {Q : Option Value → jm_Mem → Prop} {p c : Int32} (hm : ∀ j, j < 12 → ¬ μ 27 j ≤ 0 → ∃ m, m ≤ 8 ∧ μ 29 j = nI m) (h : ∀ r μ1, om_strip μ p c r μ1 → Q (some (.int r)) μ1) : gJ Ln xs 3 mX7_strip 0 (jm_en 5 [.ref 24, .int p, .int c]) [] μ Q := by
  show jm_J rg_I (rg_X Ln xs) 3 mX7_strip 0 [some (.ref 24), some (.int p), some (.int c), none, none] [] μ Q
  refine jm_aload_n dX7_strip_0 rfl rfl rfl ?_
  refine jm_iload_n dX7_strip_1 rfl rfl rfl ?_
  refine jm_cV1 dX7_strip_2 rfl cb_X7_91 ci_X7_isHorse cv_X7_isHorse rfl rfl rfl (Nat.le_of_ble_eq_true rfl) (Nat.le_of_ble_eq_true rfl) (by decide) (s_X7_isHorse (fun j hj e ch => ?_) (fun c0 => ?_))
  · subst e
    obtain ⟨m, h8, em⟩ := hm j hj ch
    refine jm_if_ne (tgt := 11) dX7_strip_5 (by decide) rfl (fun c5 => ?_) (fun c5 => absurd c5 (by decide))
    refine jm_aload_n dX7_strip_11 rfl rfl rfl ?_
    refine jm_getr dX7_strip_12 rfl fe_X7_22 rfl rfl rfl ?_
    refine jm_iload_n dX7_strip_15 rfl rfl rfl ?_
    refine jm_iald dX7_strip_16 rfl rfl rfl (by decide) rfl (by first | assumption | omega) ?_
    refine jm_iconst (nI 1) dX7_strip_17 rfl (by decide) ?_
    refine jm_isub dX7_strip_18 rfl ?_
    refine jm_istore_n dX7_strip_19 rfl rfl rfl rfl ?_
    dsimp only [List.set]
    rw [em]
    exact l_X7_strip hj em h8 (fun hx => h _ _ (Or.inr ⟨j, m, hj, rfl, ch, em, Or.inl ⟨hx, rfl, rfl⟩⟩)) (fun i hi hx hy => h _ _ (Or.inr ⟨j, m, hj, rfl, ch, em, Or.inr ⟨i, hi, hx, hy, rfl, rfl⟩⟩)) m (Nat.le_refl _) (fun t h2 h3 => absurd h3 (by omega))
  · refine jm_if_ne (tgt := 11) dX7_strip_5 (by decide) rfl (fun c5 => absurd c5 (by decide)) (fun c5 => ?_)
    refine jm_bipush (-101) dX7_strip_8 rfl (by decide) ?_
    refine jm_iret dX7_strip_10 rfl rfl ?_
    refine h _ _ ?_
    first | exact Or.inl ⟨c0, rfl, rfl⟩ | fail "leaf"
set_option maxHeartbeats 400000 in
theorem s_X7_isLeg {Ln : Nat} {xs : Nat → Int32} {μ : jm_Mem} {Q : Option Value → jm_Mem → Prop} {p g : Int32} (h1 : ∀ j i, j < 12 → i < 4 → p = nI j → g = nI i → ¬ μ 27 j ≤ 0 → Q (some (.int 1)) μ) (h0 : md_nl μ p g → Q (some (.int 0)) μ) : gJ Ln xs 3 mX7_isLeg 0 (jm_en 3 [.ref 24, .int p, .int g]) [] μ Q := by
  show jm_J rg_I (rg_X Ln xs) 3 mX7_isLeg 0 [some (.ref 24), some (.int p), some (.int g)] [] μ Q
  refine jm_aload_n dX7_isLeg_0 rfl rfl rfl ?_
  refine jm_iload_n dX7_isLeg_1 rfl rfl rfl ?_
  refine jm_cV1 dX7_isLeg_2 rfl cb_X7_91 ci_X7_isHorse cv_X7_isHorse rfl rfl rfl (Nat.le_of_ble_eq_true rfl) (Nat.le_of_ble_eq_true rfl) (by decide) (s_X7_isHorse (fun j hj e ch => ?_) (fun c0 => ?_))
  · subst e
    refine jm_if_eq (tgt := 24) dX7_isLeg_5 (by decide) rfl (fun c5 => absurd c5 (by decide)) (fun c5 => ?_)
    refine jm_iload_n dX7_isLeg_8 rfl rfl rfl ?_
    refine jm_i2l dX7_isLeg_9 rfl ?_
    refine jm_lconst 0 dX7_isLeg_10 rfl (by decide) ?_
    refine jm_ldc2 3 dX7_isLeg_11 rfl kc_X7_127 ?_
    refine jm_cS3 dX7_isLeg_14 rfl cb_X7_75 cs_X7_in (Nat.le_of_ble_eq_true rfl) (Nat.le_of_ble_eq_true rfl) (by decide) (s_X7_in g (nI 0) (nI 3) rfl (by decide) (by decide) (fun a14 b14 => ?_) (fun c14 => ?_))
    · refine jm_if_eq (tgt := 24) dX7_isLeg_17 (by decide) rfl (fun c17 => absurd c17 (by decide)) (fun c17 => ?_)
      refine jm_iconst (nI 1) dX7_isLeg_20 rfl (by decide) ?_
      refine jm_goto (n := 25) dX7_isLeg_21 (by decide) ?_
      refine jm_iret dX7_isLeg_25 rfl rfl ?_
      first | (obtain ⟨i, hi, e⟩ := rg_in (n := 3) (by decide) a14 b14; exact h1 j i hj hi rfl e ch) | exact h0 (Or.inl c0) | exact h0 (Or.inr (rg_nin (n := 3) (by decide) c14)) | fail "leaf"
    · refine jm_if_eq (tgt := 24) dX7_isLeg_17 (by decide) rfl (fun c17 => ?_) (fun c17 => absurd c17 (by decide))
      refine jm_iconst (nI 0) dX7_isLeg_24 rfl (by decide) ?_
      refine jm_iret dX7_isLeg_25 rfl rfl ?_
      first | (obtain ⟨i, hi, e⟩ := rg_in (n := 3) (by decide) a14 b14; exact h1 j i hj hi rfl e ch) | exact h0 (Or.inl c0) | exact h0 (Or.inr (rg_nin (n := 3) (by decide) c14)) | fail "leaf"
  · refine jm_if_eq (tgt := 24) dX7_isLeg_5 (by decide) rfl (fun c5 => ?_) (fun c5 => absurd c5 (by decide))
    refine jm_iconst (nI 0) dX7_isLeg_24 rfl (by decide) ?_
    refine jm_iret dX7_isLeg_25 rfl rfl ?_
    first | (obtain ⟨i, hi, e⟩ := rg_in (n := 3) (by decide) a14 b14; exact h1 j i hj hi rfl e ch) | exact h0 (Or.inl c0) | exact h0 (Or.inr (rg_nin (n := 3) (by decide) c14)) | fail "leaf"
set_option maxHeartbeats 400000 in
theorem s_X7_swap {Ln : Nat} {xs : Nat → Int32} {μ : jm_Mem} {Q : Option Value → jm_Mem → Prop} {p g q o : Int32} (h : ∀ r μ1, om_swap μ p g q o r μ1 → Q (some (.int r)) μ1) : gJ Ln xs 4 mX7_swap 0 (jm_en 6 [.ref 24, .int p, .int g, .int q, .int o]) [] μ Q := by
  show jm_J rg_I (rg_X Ln xs) 4 mX7_swap 0 [some (.ref 24), some (.int p), some (.int g), some (.int q), some (.int o), none] [] μ Q
  refine jm_aload_n dX7_swap_0 rfl rfl rfl ?_
  refine jm_iload_n dX7_swap_1 rfl rfl rfl ?_
  refine jm_iload_n dX7_swap_2 rfl rfl rfl ?_
  refine jm_cV2 dX7_swap_3 rfl cb_X7_136 ci_X7_isLeg cv_X7_isLeg rfl rfl rfl (Nat.le_of_ble_eq_true rfl) (Nat.le_of_ble_eq_true rfl) (by decide) (s_X7_isLeg (fun j i hj hi e e2 ch => ?_) (fun cn => ?_))
  · subst e
    subst e2
    refine jm_if_eq (tgt := 19) dX7_swap_6 (by decide) rfl (fun c6 => absurd c6 (by decide)) (fun c6 => ?_)
    refine jm_aload_n dX7_swap_9 rfl rfl rfl ?_
    refine jm_iload_n dX7_swap_10 rfl rfl rfl ?_
    refine jm_iload dX7_swap_11 rfl rfl ?_
    refine jm_cV2 dX7_swap_13 rfl cb_X7_136 ci_X7_isLeg cv_X7_isLeg rfl rfl rfl (Nat.le_of_ble_eq_true rfl) (Nat.le_of_ble_eq_true rfl) (by decide) (s_X7_isLeg (fun j2 i2 hj2 hi2 e3 e4 ch2 => ?_) (fun cn2 => ?_))
    · subst e3
      subst e4
      refine jm_if_ne (tgt := 22) dX7_swap_16 (by decide) rfl (fun c16 => ?_) (fun c16 => absurd c16 (by decide))
      refine jm_iload_n dX7_swap_22 rfl rfl rfl ?_
      refine jm_iload_n dX7_swap_23 rfl rfl rfl ?_
      refine jm_icmp_ne (tgt := 36) dX7_swap_24 (by decide) rfl (fun c24 => ?_) (fun c24 => ?_)
      · refine jm_aload_n dX7_swap_36 rfl rfl rfl ?_
        refine jm_getr dX7_swap_37 rfl fe_X7_28 rfl rfl rfl ?_
        refine jm_iconst (nI 4) dX7_swap_40 rfl (by decide) ?_
        refine jm_iload_n dX7_swap_41 rfl rfl rfl ?_
        refine jm_imul dX7_swap_42 rfl ?_
        refine jm_iload_n dX7_swap_43 rfl rfl rfl ?_
        refine jm_iadd dX7_swap_44 rfl ?_
        refine jm_iald dX7_swap_45 rfl rfl rfl (by decide) (by rw [pk_mul, nI_add]) (by omega) ?_
        refine jm_istore dX7_swap_46 rfl rfl rfl ?_
        dsimp only [List.set]
        refine jm_aload_n dX7_swap_48 rfl rfl rfl ?_
        refine jm_getr dX7_swap_49 rfl fe_X7_28 rfl rfl rfl ?_
        refine jm_iconst (nI 4) dX7_swap_52 rfl (by decide) ?_
        refine jm_iload_n dX7_swap_53 rfl rfl rfl ?_
        refine jm_imul dX7_swap_54 rfl ?_
        refine jm_iload_n dX7_swap_55 rfl rfl rfl ?_
        refine jm_iadd dX7_swap_56 rfl ?_
        refine jm_aload_n dX7_swap_57 rfl rfl rfl ?_
        refine jm_getr dX7_swap_58 rfl fe_X7_28 rfl rfl rfl ?_
        refine jm_iconst (nI 4) dX7_swap_61 rfl (by decide) ?_
        refine jm_iload_n dX7_swap_62 rfl rfl rfl ?_
        refine jm_imul dX7_swap_63 rfl ?_
        refine jm_iload dX7_swap_64 rfl rfl ?_
        refine jm_iadd dX7_swap_66 rfl ?_
        refine jm_iald dX7_swap_67 rfl rfl rfl (by decide) (by rw [pk_mul, nI_add]) (by omega) ?_
        refine jm_iast dX7_swap_68 rfl rfl rfl (by decide) (by rw [pk_mul, nI_add]) (by omega) ?_
        refine jm_aload_n dX7_swap_69 rfl rfl rfl ?_
        refine jm_getr dX7_swap_70 rfl fe_X7_28 rfl rfl rfl ?_
        refine jm_iconst (nI 4) dX7_swap_73 rfl (by decide) ?_
        refine jm_iload_n dX7_swap_74 rfl rfl rfl ?_
        refine jm_imul dX7_swap_75 rfl ?_
        refine jm_iload dX7_swap_76 rfl rfl ?_
        refine jm_iadd dX7_swap_78 rfl ?_
        refine jm_iload dX7_swap_79 rfl rfl ?_
        refine jm_iast dX7_swap_81 rfl rfl rfl (by decide) (by rw [pk_mul, nI_add]) (by omega) ?_
        refine jm_iconst (nI 1) dX7_swap_82 rfl (by decide) ?_
        refine jm_iret dX7_swap_83 rfl rfl ?_
        refine h _ _ ?_
        first | exact Or.inl ⟨Or.inl cn, rfl, rfl⟩ | exact Or.inl ⟨Or.inr cn2, rfl, rfl⟩ | exact Or.inr ⟨j, i, j2, i2, hj, hi, hj2, hi2, rfl, rfl, rfl, rfl, ch, ch2, Or.inl ⟨(nI_eq (by omega) (by omega)).mp c24, (nI_eq (by omega) (by omega)).mp c30, rfl, rfl⟩⟩ | exact Or.inr ⟨j, i, j2, i2, hj, hi, hj2, hi2, rfl, rfl, rfl, rfl, ch, ch2, Or.inr ⟨fun h => c24 (by rw [h.1]), rfl, rfl⟩⟩ | exact Or.inr ⟨j, i, j2, i2, hj, hi, hj2, hi2, rfl, rfl, rfl, rfl, ch, ch2, Or.inr ⟨fun h => c30 (by rw [h.2]), rfl, rfl⟩⟩ | fail "leaf"
      · refine jm_iload_n dX7_swap_27 rfl rfl rfl ?_
        refine jm_iload dX7_swap_28 rfl rfl ?_
        refine jm_icmp_ne (tgt := 36) dX7_swap_30 (by decide) rfl (fun c30 => ?_) (fun c30 => ?_)
        · refine jm_aload_n dX7_swap_36 rfl rfl rfl ?_
          refine jm_getr dX7_swap_37 rfl fe_X7_28 rfl rfl rfl ?_
          refine jm_iconst (nI 4) dX7_swap_40 rfl (by decide) ?_
          refine jm_iload_n dX7_swap_41 rfl rfl rfl ?_
          refine jm_imul dX7_swap_42 rfl ?_
          refine jm_iload_n dX7_swap_43 rfl rfl rfl ?_
          refine jm_iadd dX7_swap_44 rfl ?_
          refine jm_iald dX7_swap_45 rfl rfl rfl (by decide) (by rw [pk_mul, nI_add]) (by omega) ?_
          refine jm_istore dX7_swap_46 rfl rfl rfl ?_
          dsimp only [List.set]
          refine jm_aload_n dX7_swap_48 rfl rfl rfl ?_
          refine jm_getr dX7_swap_49 rfl fe_X7_28 rfl rfl rfl ?_
          refine jm_iconst (nI 4) dX7_swap_52 rfl (by decide) ?_
          refine jm_iload_n dX7_swap_53 rfl rfl rfl ?_
          refine jm_imul dX7_swap_54 rfl ?_
          refine jm_iload_n dX7_swap_55 rfl rfl rfl ?_
          refine jm_iadd dX7_swap_56 rfl ?_
          refine jm_aload_n dX7_swap_57 rfl rfl rfl ?_
          refine jm_getr dX7_swap_58 rfl fe_X7_28 rfl rfl rfl ?_
          refine jm_iconst (nI 4) dX7_swap_61 rfl (by decide) ?_
          refine jm_iload_n dX7_swap_62 rfl rfl rfl ?_
          refine jm_imul dX7_swap_63 rfl ?_
          refine jm_iload dX7_swap_64 rfl rfl ?_
          refine jm_iadd dX7_swap_66 rfl ?_
          refine jm_iald dX7_swap_67 rfl rfl rfl (by decide) (by rw [pk_mul, nI_add]) (by omega) ?_
          refine jm_iast dX7_swap_68 rfl rfl rfl (by decide) (by rw [pk_mul, nI_add]) (by omega) ?_
          refine jm_aload_n dX7_swap_69 rfl rfl rfl ?_
          refine jm_getr dX7_swap_70 rfl fe_X7_28 rfl rfl rfl ?_
          refine jm_iconst (nI 4) dX7_swap_73 rfl (by decide) ?_
          refine jm_iload_n dX7_swap_74 rfl rfl rfl ?_
          refine jm_imul dX7_swap_75 rfl ?_
          refine jm_iload dX7_swap_76 rfl rfl ?_
          refine jm_iadd dX7_swap_78 rfl ?_
          refine jm_iload dX7_swap_79 rfl rfl ?_
          refine jm_iast dX7_swap_81 rfl rfl rfl (by decide) (by rw [pk_mul, nI_add]) (by omega) ?_
          refine jm_iconst (nI 1) dX7_swap_82 rfl (by decide) ?_
          refine jm_iret dX7_swap_83 rfl rfl ?_
          refine h _ _ ?_
          first | exact Or.inl ⟨Or.inl cn, rfl, rfl⟩ | exact Or.inl ⟨Or.inr cn2, rfl, rfl⟩ | exact Or.inr ⟨j, i, j2, i2, hj, hi, hj2, hi2, rfl, rfl, rfl, rfl, ch, ch2, Or.inl ⟨(nI_eq (by omega) (by omega)).mp c24, (nI_eq (by omega) (by omega)).mp c30, rfl, rfl⟩⟩ | exact Or.inr ⟨j, i, j2, i2, hj, hi, hj2, hi2, rfl, rfl, rfl, rfl, ch, ch2, Or.inr ⟨fun h => c24 (by rw [h.1]), rfl, rfl⟩⟩ | exact Or.inr ⟨j, i, j2, i2, hj, hi, hj2, hi2, rfl, rfl, rfl, rfl, ch, ch2, Or.inr ⟨fun h => c30 (by rw [h.2]), rfl, rfl⟩⟩ | fail "leaf"
        · refine jm_bipush (-102) dX7_swap_33 rfl (by decide) ?_
          refine jm_iret dX7_swap_35 rfl rfl ?_
          refine h _ _ ?_
          first | exact Or.inl ⟨Or.inl cn, rfl, rfl⟩ | exact Or.inl ⟨Or.inr cn2, rfl, rfl⟩ | exact Or.inr ⟨j, i, j2, i2, hj, hi, hj2, hi2, rfl, rfl, rfl, rfl, ch, ch2, Or.inl ⟨(nI_eq (by omega) (by omega)).mp c24, (nI_eq (by omega) (by omega)).mp c30, rfl, rfl⟩⟩ | exact Or.inr ⟨j, i, j2, i2, hj, hi, hj2, hi2, rfl, rfl, rfl, rfl, ch, ch2, Or.inr ⟨fun h => c24 (by rw [h.1]), rfl, rfl⟩⟩ | exact Or.inr ⟨j, i, j2, i2, hj, hi, hj2, hi2, rfl, rfl, rfl, rfl, ch, ch2, Or.inr ⟨fun h => c30 (by rw [h.2]), rfl, rfl⟩⟩ | fail "leaf"
    · refine jm_if_ne (tgt := 22) dX7_swap_16 (by decide) rfl (fun c16 => absurd c16 (by decide)) (fun c16 => ?_)
      refine jm_bipush (-101) dX7_swap_19 rfl (by decide) ?_
      refine jm_iret dX7_swap_21 rfl rfl ?_
      refine h _ _ ?_
      first | exact Or.inl ⟨Or.inl cn, rfl, rfl⟩ | exact Or.inl ⟨Or.inr cn2, rfl, rfl⟩ | exact Or.inr ⟨j, i, j2, i2, hj, hi, hj2, hi2, rfl, rfl, rfl, rfl, ch, ch2, Or.inl ⟨(nI_eq (by omega) (by omega)).mp c24, (nI_eq (by omega) (by omega)).mp c30, rfl, rfl⟩⟩ | exact Or.inr ⟨j, i, j2, i2, hj, hi, hj2, hi2, rfl, rfl, rfl, rfl, ch, ch2, Or.inr ⟨fun h => c24 (by rw [h.1]), rfl, rfl⟩⟩ | exact Or.inr ⟨j, i, j2, i2, hj, hi, hj2, hi2, rfl, rfl, rfl, rfl, ch, ch2, Or.inr ⟨fun h => c30 (by rw [h.2]), rfl, rfl⟩⟩ | fail "leaf"
  · refine jm_if_eq (tgt := 19) dX7_swap_6 (by decide) rfl (fun c6 => ?_) (fun c6 => absurd c6 (by decide))
    refine jm_bipush (-101) dX7_swap_19 rfl (by decide) ?_
    refine jm_iret dX7_swap_21 rfl rfl ?_
    refine h _ _ ?_
    first | exact Or.inl ⟨Or.inl cn, rfl, rfl⟩ | exact Or.inl ⟨Or.inr cn2, rfl, rfl⟩ | exact Or.inr ⟨j, i, j2, i2, hj, hi, hj2, hi2, rfl, rfl, rfl, rfl, ch, ch2, Or.inl ⟨(nI_eq (by omega) (by omega)).mp c24, (nI_eq (by omega) (by omega)).mp c30, rfl, rfl⟩⟩ | exact Or.inr ⟨j, i, j2, i2, hj, hi, hj2, hi2, rfl, rfl, rfl, rfl, ch, ch2, Or.inr ⟨fun h => c24 (by rw [h.1]), rfl, rfl⟩⟩ | exact Or.inr ⟨j, i, j2, i2, hj, hi, hj2, hi2, rfl, rfl, rfl, rfl, ch, ch2, Or.inr ⟨fun h => c30 (by rw [h.2]), rfl, rfl⟩⟩ | fail "leaf"
set_option maxHeartbeats 400000 in
theorem s_X7_mark {Ln : Nat} {xs : Nat → Int32} {μ : jm_Mem} {Q : Option Value → jm_Mem → Prop} {p g : Int32} (h : ∀ r, om_mark μ p g r → Q (some (.int r)) μ) : gJ Ln xs 4 mX7_mark 0 (jm_en 3 [.ref 24, .int p, .int g]) [] μ Q := by
  show jm_J rg_I (rg_X Ln xs) 4 mX7_mark 0 [some (.ref 24), some (.int p), some (.int g)] [] μ Q
  refine jm_aload_n dX7_mark_0 rfl rfl rfl ?_
  refine jm_iload_n dX7_mark_1 rfl rfl rfl ?_
  refine jm_iload_n dX7_mark_2 rfl rfl rfl ?_
  refine jm_cV2 dX7_mark_3 rfl cb_X7_136 ci_X7_isLeg cv_X7_isLeg rfl rfl rfl (Nat.le_of_ble_eq_true rfl) (Nat.le_of_ble_eq_true rfl) (by decide) (s_X7_isLeg (fun j i hj hi e e2 ch => ?_) (fun cn => ?_))
  · subst e
    subst e2
    refine jm_if_eq (tgt := 22) dX7_mark_6 (by decide) rfl (fun c6 => absurd c6 (by decide)) (fun c6 => ?_)
    refine jm_aload_n dX7_mark_9 rfl rfl rfl ?_
    refine jm_getr dX7_mark_10 rfl fe_X7_28 rfl rfl rfl ?_
    refine jm_iconst (nI 4) dX7_mark_13 rfl (by decide) ?_
    refine jm_iload_n dX7_mark_14 rfl rfl rfl ?_
    refine jm_imul dX7_mark_15 rfl ?_
    refine jm_iload_n dX7_mark_16 rfl rfl rfl ?_
    refine jm_iadd dX7_mark_17 rfl ?_
    refine jm_iald dX7_mark_18 rfl rfl rfl (by decide) (by rw [pk_mul, nI_add]) (by omega) ?_
    refine jm_goto (n := 24) dX7_mark_19 (by decide) ?_
    refine jm_iret dX7_mark_24 rfl rfl ?_
    refine h _ ?_
    first | exact Or.inl ⟨cn, rfl⟩ | exact Or.inr ⟨j, i, hj, hi, rfl, rfl, ch, rfl⟩ | fail "leaf"
  · refine jm_if_eq (tgt := 22) dX7_mark_6 (by decide) rfl (fun c6 => ?_) (fun c6 => absurd c6 (by decide))
    refine jm_bipush (-101) dX7_mark_22 rfl (by decide) ?_
    refine jm_iret dX7_mark_24 rfl rfl ?_
    refine h _ ?_
    first | exact Or.inl ⟨cn, rfl⟩ | exact Or.inr ⟨j, i, hj, hi, rfl, rfl, ch, rfl⟩ | fail "leaf"
set_option maxHeartbeats 1000000 in
theorem l_X7_find {Ln : Nat} {xs : Nat → Int32} {μ : jm_Mem} {Q : Option Value → jm_Mem → Prop} {j g : Nat} (hj : j < 12) (hg : g < 4) (h1 : ∀ k, k < 48 → (¬ μ 27 (k / 4) ≤ 0 ∧ μ 31 k = nI (4 * j + g)) → (∀ i, i < k → ¬ (¬ μ 27 (i / 4) ≤ 0 ∧ μ 31 i = nI (4 * j + g))) → Q (some (.int (nI k))) μ) (h0 : (∀ i, i < 48 → ¬ (¬ μ 27 (i / 4) ≤ 0 ∧ μ 31 i = nI (4 * j + g))) → Q (some (.int (-1))) μ) : ∀ i, i ≤ 48 → ∀ (hb : ∀ i2, i2 < i → ¬ (¬ μ 27 (i2 / 4) ≤ 0 ∧ μ 31 i2 = nI (4 * j + g))), jm_J rg_I (rg_X Ln xs) 2 mX7_find 24 [some (.ref 24), some (.int (nI j)), some (.int (nI g)), some (.int (nI i))] [] μ Q := by
  refine jm_for 48 ?_ ?_
  · intro hb
    refine jm_iload_n dX7_find_24 rfl rfl rfl ?_
    refine jm_bipush (nI 48) dX7_find_25 rfl (by decide) ?_
    refine jm_icmp_ge (tgt := 63) dX7_find_27 (by decide) rfl (fun c27 => ?_) (fun c27 => absurd ((nI_leI (by omega) (by omega)).mpr (Nat.le_refl _)) c27)
    refine jm_iconst (-1) dX7_find_63 rfl (by decide) ?_
    refine jm_iret dX7_find_64 rfl rfl ?_
    exact h0 hb
  · intro i hi ih hb
    refine jm_iload_n dX7_find_24 rfl rfl rfl ?_
    refine jm_bipush (nI 48) dX7_find_25 rfl (by decide) ?_
    refine jm_icmp_ge (tgt := 63) dX7_find_27 (by decide) rfl (fun c27 => absurd ((nI_leI (by omega) (by omega)).mp c27) (by omega)) (fun c27 => ?_)
    refine jm_aload_n dX7_find_30 rfl rfl rfl ?_
    refine jm_getr dX7_find_31 rfl fe_X7_16 rfl rfl rfl ?_
    refine jm_iload_n dX7_find_34 rfl rfl rfl ?_
    refine jm_iconst (nI 4) dX7_find_35 rfl (by decide) ?_
    refine jm_idiv dX7_find_36 rfl (by decide) ?_
    refine jm_iald dX7_find_37 rfl rfl rfl (by decide) (pk_div (by omega) (by decide) (by decide)) (by omega) ?_
    refine jm_if_le (tgt := 57) dX7_find_38 (by decide) rfl (fun c38 => ?_) (fun c38 => ?_)
    · refine jm_iinc (nI 1) dX7_find_57 rfl rfl (by decide) rfl rfl ?_
      dsimp only [List.set]
      refine jm_goto (n := 24) dX7_find_60 (by decide) ?_
      rw [nI_add]
      first | exact ih (fun i2 h2 => if e : i2 = i then by rw [e]; exact fun h => h.1 c38 else hb i2 (by omega)) | exact ih (fun i2 h2 => if e : i2 = i then by rw [e]; exact fun h => c52 h.2 else hb i2 (by omega)) | fail "stop"
    · refine jm_aload_n dX7_find_41 rfl rfl rfl ?_
      refine jm_getr dX7_find_42 rfl fe_X7_28 rfl rfl rfl ?_
      refine jm_iload_n dX7_find_45 rfl rfl rfl ?_
      refine jm_iald dX7_find_46 rfl rfl rfl (by decide) rfl (by first | assumption | omega) ?_
      refine jm_iconst (nI 4) dX7_find_47 rfl (by decide) ?_
      refine jm_iload_n dX7_find_48 rfl rfl rfl ?_
      refine jm_imul dX7_find_49 rfl ?_
      refine jm_iload_n dX7_find_50 rfl rfl rfl ?_
      refine jm_iadd dX7_find_51 rfl ?_
      rw [pk_mul, nI_add]
      refine jm_icmp_ne (tgt := 57) dX7_find_52 (by decide) rfl (fun c52 => ?_) (fun c52 => ?_)
      · refine jm_iinc (nI 1) dX7_find_57 rfl rfl (by decide) rfl rfl ?_
        dsimp only [List.set]
        refine jm_goto (n := 24) dX7_find_60 (by decide) ?_
        rw [nI_add]
        first | exact ih (fun i2 h2 => if e : i2 = i then by rw [e]; exact fun h => h.1 c38 else hb i2 (by omega)) | exact ih (fun i2 h2 => if e : i2 = i then by rw [e]; exact fun h => c52 h.2 else hb i2 (by omega)) | fail "stop"
      · refine jm_iload_n dX7_find_55 rfl rfl rfl ?_
        refine jm_iret dX7_find_56 rfl rfl ?_
        exact h1 i hi ⟨c38, c52⟩ hb
set_option maxHeartbeats 400000 in
theorem s_X7_find {Ln : Nat} {xs : Nat → Int32} {μ : jm_Mem} {Q : Option Value → jm_Mem → Prop} {p g : Int32} (h : ∀ r, om_find μ p g r → Q (some (.int r)) μ) : gJ Ln xs 2 mX7_find 0 (jm_en 4 [.ref 24, .int p, .int g]) [] μ Q := by
  show jm_J rg_I (rg_X Ln xs) 2 mX7_find 0 [some (.ref 24), some (.int p), some (.int g), none] [] μ Q
  refine jm_iload_n dX7_find_0 rfl rfl rfl ?_
  refine jm_cS1 dX7_find_1 rfl cb_X7_79 cs_X7_isPlace (Nat.le_of_ble_eq_true rfl) (Nat.le_of_ble_eq_true rfl) (by decide) (s_X7_isPlace (fun j hj e => ?_) (fun c0 => ?_))
  · subst e
    refine jm_if_eq (tgt := 19) dX7_find_4 (by decide) rfl (fun c4 => absurd c4 (by decide)) (fun c4 => ?_)
    refine jm_iload_n dX7_find_7 rfl rfl rfl ?_
    refine jm_i2l dX7_find_8 rfl ?_
    refine jm_lconst 0 dX7_find_9 rfl (by decide) ?_
    refine jm_ldc2 3 dX7_find_10 rfl kc_X7_127 ?_
    refine jm_cS3 dX7_find_13 rfl cb_X7_75 cs_X7_in (Nat.le_of_ble_eq_true rfl) (Nat.le_of_ble_eq_true rfl) (by decide) (s_X7_in g (nI 0) (nI 3) rfl (by decide) (by decide) (fun a13 b13 => ?_) (fun c13 => ?_))
    · obtain ⟨i, hi, rfl⟩ := rg_in (n := 3) (by decide) a13 b13
      refine jm_if_ne (tgt := 22) dX7_find_16 (by decide) rfl (fun c16 => ?_) (fun c16 => absurd c16 (by decide))
      refine jm_iconst (nI 0) dX7_find_22 rfl (by decide) ?_
      refine jm_istore_n dX7_find_23 rfl rfl rfl rfl ?_
      dsimp only [List.set]
      exact l_X7_find hj hi (fun k hk hx hy => h _ (Or.inr ⟨j, i, hj, hi, rfl, rfl, Or.inr ⟨k, hk, hx, hy, rfl⟩⟩)) (fun hx => h _ (Or.inr ⟨j, i, hj, hi, rfl, rfl, Or.inl ⟨hx, rfl⟩⟩)) 0 (by omega) (fun _ h => absurd h (by omega))
    · refine jm_if_ne (tgt := 22) dX7_find_16 (by decide) rfl (fun c16 => absurd c16 (by decide)) (fun c16 => ?_)
      refine jm_bipush (-101) dX7_find_19 rfl (by decide) ?_
      refine jm_iret dX7_find_21 rfl rfl ?_
      refine h _ ?_
      first | exact Or.inl ⟨Or.inl c0, rfl⟩ | exact Or.inl ⟨Or.inr (rg_nin (n := 3) (by decide) c13), rfl⟩ | fail "leaf"
  · refine jm_if_eq (tgt := 19) dX7_find_4 (by decide) rfl (fun c4 => ?_) (fun c4 => absurd c4 (by decide))
    refine jm_bipush (-101) dX7_find_19 rfl (by decide) ?_
    refine jm_iret dX7_find_21 rfl rfl ?_
    refine h _ ?_
    first | exact Or.inl ⟨Or.inl c0, rfl⟩ | exact Or.inl ⟨Or.inr (rg_nin (n := 3) (by decide) c13), rfl⟩ | fail "leaf"
set_option maxHeartbeats 400000 in
theorem s_X7_fair {Ln : Nat} {xs : Nat → Int32} {μ : jm_Mem} {Q : Option Value → jm_Mem → Prop} {a b e : Int32} {nf : Nat} (hn : μ 24 12 = nI nf) (h8 : nf ≤ 8) (h : ∀ r μ1, om_fair μ a b e r μ1 → Q (some (.int r)) μ1) : gJ Ln xs 1 mX7_fair 0 (jm_en 4 [.ref 24, .int a, .int b, .int e]) [] μ Q := by
  show jm_J rg_I (rg_X Ln xs) 1 mX7_fair 0 [some (.ref 24), some (.int a), some (.int b), some (.int e)] [] μ Q
  refine jm_iload_n dX7_fair_0 rfl rfl rfl ?_
  refine jm_i2l dX7_fair_1 rfl ?_
  refine jm_lconst 0 dX7_fair_2 rfl (by decide) ?_
  refine jm_ldc2 400 dX7_fair_3 rfl kc_X7_139 ?_
  refine jm_cS3 dX7_fair_6 rfl cb_X7_75 cs_X7_in (Nat.le_of_ble_eq_true rfl) (Nat.le_of_ble_eq_true rfl) (by decide) (s_X7_in a (nI 0) (nI 400) rfl (by decide) (by decide) (fun a6 b6 => ?_) (fun c6 => ?_))
  · refine jm_if_eq (tgt := 37) dX7_fair_9 (by decide) rfl (fun c9 => absurd c9 (by decide)) (fun c9 => ?_)
    refine jm_iload_n dX7_fair_12 rfl rfl rfl ?_
    refine jm_i2l dX7_fair_13 rfl ?_
    refine jm_iload_n dX7_fair_14 rfl rfl rfl ?_
    refine jm_i2l dX7_fair_15 rfl ?_
    refine jm_ldc2 400 dX7_fair_16 rfl kc_X7_139 ?_
    refine jm_cS3 dX7_fair_19 rfl cb_X7_75 cs_X7_in (Nat.le_of_ble_eq_true rfl) (Nat.le_of_ble_eq_true rfl) (by decide) (s_X7_in b a (nI 400) rfl rfl (by decide) (fun a19 b19 => ?_) (fun c19 => ?_))
    · refine jm_if_eq (tgt := 37) dX7_fair_22 (by decide) rfl (fun c22 => absurd c22 (by decide)) (fun c22 => ?_)
      refine jm_iload_n dX7_fair_25 rfl rfl rfl ?_
      refine jm_i2l dX7_fair_26 rfl ?_
      refine jm_lconst 0 dX7_fair_27 rfl (by decide) ?_
      refine jm_ldc2 10000 dX7_fair_28 rfl kc_X7_141 ?_
      refine jm_cS3 dX7_fair_31 rfl cb_X7_75 cs_X7_in (Nat.le_of_ble_eq_true rfl) (Nat.le_of_ble_eq_true rfl) (by decide) (s_X7_in e (nI 0) (nI 10000) rfl (by decide) (by decide) (fun a31 b31 => ?_) (fun c31 => ?_))
      · refine jm_if_ne (tgt := 40) dX7_fair_34 (by decide) rfl (fun c34 => ?_) (fun c34 => absurd c34 (by decide))
        refine jm_aload_n dX7_fair_40 rfl rfl rfl ?_
        refine jm_geti dX7_fair_41 rfl fe_X7_143 rfl rfl rfl ?_
        refine jm_bipush (nI 8) dX7_fair_44 rfl (by decide) ?_
        refine jm_icmp_ne (tgt := 52) dX7_fair_46 (by decide) rfl (fun c46 => ?_) (fun c46 => ?_)
        · have hl8 : nf < 8 := by have : nf ≠ 8 := (fun e => c46 (by rw [hn, e])); omega
          refine jm_aload_n dX7_fair_52 rfl rfl rfl ?_
          refine jm_getr dX7_fair_53 rfl fe_X7_38 rfl rfl rfl ?_
          refine jm_aload_n dX7_fair_56 rfl rfl rfl ?_
          refine jm_geti dX7_fair_57 rfl fe_X7_143 rfl rfl rfl ?_
          refine jm_iload_n dX7_fair_60 rfl rfl rfl ?_
          refine jm_iast dX7_fair_61 rfl rfl rfl (by decide) hn hl8 ?_
          refine jm_aload_n dX7_fair_62 rfl rfl rfl ?_
          refine jm_getr dX7_fair_63 rfl fe_X7_41 rfl rfl rfl ?_
          refine jm_aload_n dX7_fair_66 rfl rfl rfl ?_
          refine jm_geti dX7_fair_67 rfl fe_X7_143 rfl rfl rfl ?_
          refine jm_iload_n dX7_fair_70 rfl rfl rfl ?_
          refine jm_iast dX7_fair_71 rfl rfl rfl (by decide) (by rw [rd_na (by decide)]; exact hn) hl8 ?_
          refine jm_aload_n dX7_fair_72 rfl rfl rfl ?_
          refine jm_getr dX7_fair_73 rfl fe_X7_44 rfl rfl rfl ?_
          refine jm_aload_n dX7_fair_76 rfl rfl rfl ?_
          refine jm_geti dX7_fair_77 rfl fe_X7_143 rfl rfl rfl ?_
          refine jm_iload_n dX7_fair_80 rfl rfl rfl ?_
          refine jm_iast dX7_fair_81 rfl rfl rfl (by decide) (by rw [rd_na (by decide), rd_na (by decide)]; exact hn) hl8 ?_
          refine jm_aload_n dX7_fair_82 rfl rfl rfl ?_
          refine jm_dup dX7_fair_83 rfl rfl ?_
          refine jm_geti dX7_fair_84 rfl fe_X7_143 rfl rfl rfl ?_
          refine jm_iconst (nI 1) dX7_fair_87 rfl (by decide) ?_
          refine jm_iadd dX7_fair_88 rfl ?_
          refine jm_puti dX7_fair_89 rfl pe_X7_143 rfl rfl rfl ?_
          refine jm_aload_n dX7_fair_92 rfl rfl rfl ?_
          refine jm_geti dX7_fair_93 rfl fe_X7_143 rfl rfl rfl ?_
          refine jm_iconst (nI 1) dX7_fair_96 rfl (by decide) ?_
          refine jm_isub dX7_fair_97 rfl ?_
          refine jm_iret dX7_fair_98 rfl rfl ?_
          refine h _ _ ?_
          first | exact Or.inl ⟨Or.inl c6, rfl, rfl⟩ | exact Or.inl ⟨Or.inr (Or.inl c19), rfl, rfl⟩ | exact Or.inl ⟨Or.inr (Or.inr c31), rfl, rfl⟩ | exact Or.inr ⟨⟨a6, b6⟩, ⟨a19, b19⟩, ⟨a31, b31⟩, nf, hn, Or.inl ⟨(nI_eq (by omega) (by omega)).mp (hn ▸ c46), rfl, rfl⟩⟩ | exact Or.inr ⟨⟨a6, b6⟩, ⟨a19, b19⟩, ⟨a31, b31⟩, nf, hn, Or.inr ⟨hl8, by rw [rd_eq, rd_na (by decide), rd_na (by decide), rd_na (by decide), hn, nI_add, pk_sub (by omega)]; rfl, by rw [rd_na (by decide), rd_na (by decide), rd_na (by decide), hn, nI_add]⟩⟩ | fail "leaf"
        · refine jm_bipush (-104) dX7_fair_49 rfl (by decide) ?_
          refine jm_iret dX7_fair_51 rfl rfl ?_
          refine h _ _ ?_
          first | exact Or.inl ⟨Or.inl c6, rfl, rfl⟩ | exact Or.inl ⟨Or.inr (Or.inl c19), rfl, rfl⟩ | exact Or.inl ⟨Or.inr (Or.inr c31), rfl, rfl⟩ | exact Or.inr ⟨⟨a6, b6⟩, ⟨a19, b19⟩, ⟨a31, b31⟩, nf, hn, Or.inl ⟨(nI_eq (by omega) (by omega)).mp (hn ▸ c46), rfl, rfl⟩⟩ | exact Or.inr ⟨⟨a6, b6⟩, ⟨a19, b19⟩, ⟨a31, b31⟩, nf, hn, Or.inr ⟨hl8, by rw [rd_eq, rd_na (by decide), rd_na (by decide), rd_na (by decide), hn, nI_add, pk_sub (by omega)]; rfl, by rw [rd_na (by decide), rd_na (by decide), rd_na (by decide), hn, nI_add]⟩⟩ | fail "leaf"
      · refine jm_if_ne (tgt := 40) dX7_fair_34 (by decide) rfl (fun c34 => absurd c34 (by decide)) (fun c34 => ?_)
        refine jm_bipush (-102) dX7_fair_37 rfl (by decide) ?_
        refine jm_iret dX7_fair_39 rfl rfl ?_
        refine h _ _ ?_
        first | exact Or.inl ⟨Or.inl c6, rfl, rfl⟩ | exact Or.inl ⟨Or.inr (Or.inl c19), rfl, rfl⟩ | exact Or.inl ⟨Or.inr (Or.inr c31), rfl, rfl⟩ | exact Or.inr ⟨⟨a6, b6⟩, ⟨a19, b19⟩, ⟨a31, b31⟩, nf, hn, Or.inl ⟨(nI_eq (by omega) (by omega)).mp (hn ▸ c46), rfl, rfl⟩⟩ | exact Or.inr ⟨⟨a6, b6⟩, ⟨a19, b19⟩, ⟨a31, b31⟩, nf, hn, Or.inr ⟨hl8, by rw [rd_eq, rd_na (by decide), rd_na (by decide), rd_na (by decide), hn, nI_add, pk_sub (by omega)]; rfl, by rw [rd_na (by decide), rd_na (by decide), rd_na (by decide), hn, nI_add]⟩⟩ | fail "leaf"
    · refine jm_if_eq (tgt := 37) dX7_fair_22 (by decide) rfl (fun c22 => ?_) (fun c22 => absurd c22 (by decide))
      refine jm_bipush (-102) dX7_fair_37 rfl (by decide) ?_
      refine jm_iret dX7_fair_39 rfl rfl ?_
      refine h _ _ ?_
      first | exact Or.inl ⟨Or.inl c6, rfl, rfl⟩ | exact Or.inl ⟨Or.inr (Or.inl c19), rfl, rfl⟩ | exact Or.inl ⟨Or.inr (Or.inr c31), rfl, rfl⟩ | exact Or.inr ⟨⟨a6, b6⟩, ⟨a19, b19⟩, ⟨a31, b31⟩, nf, hn, Or.inl ⟨(nI_eq (by omega) (by omega)).mp (hn ▸ c46), rfl, rfl⟩⟩ | exact Or.inr ⟨⟨a6, b6⟩, ⟨a19, b19⟩, ⟨a31, b31⟩, nf, hn, Or.inr ⟨hl8, by rw [rd_eq, rd_na (by decide), rd_na (by decide), rd_na (by decide), hn, nI_add, pk_sub (by omega)]; rfl, by rw [rd_na (by decide), rd_na (by decide), rd_na (by decide), hn, nI_add]⟩⟩ | fail "leaf"
  · refine jm_if_eq (tgt := 37) dX7_fair_9 (by decide) rfl (fun c9 => ?_) (fun c9 => absurd c9 (by decide))
    refine jm_bipush (-102) dX7_fair_37 rfl (by decide) ?_
    refine jm_iret dX7_fair_39 rfl rfl ?_
    refine h _ _ ?_
    first | exact Or.inl ⟨Or.inl c6, rfl, rfl⟩ | exact Or.inl ⟨Or.inr (Or.inl c19), rfl, rfl⟩ | exact Or.inl ⟨Or.inr (Or.inr c31), rfl, rfl⟩ | exact Or.inr ⟨⟨a6, b6⟩, ⟨a19, b19⟩, ⟨a31, b31⟩, nf, hn, Or.inl ⟨(nI_eq (by omega) (by omega)).mp (hn ▸ c46), rfl, rfl⟩⟩ | exact Or.inr ⟨⟨a6, b6⟩, ⟨a19, b19⟩, ⟨a31, b31⟩, nf, hn, Or.inr ⟨hl8, by rw [rd_eq, rd_na (by decide), rd_na (by decide), rd_na (by decide), hn, nI_add, pk_sub (by omega)]; rfl, by rw [rd_na (by decide), rd_na (by decide), rd_na (by decide), hn, nI_add]⟩⟩ | fail "leaf"
set_option maxHeartbeats 400000 in
theorem s_X7_isFair {Ln : Nat} {xs : Nat → Int32} {μ : jm_Mem} {Q : Option Value → jm_Mem → Prop} {f : Int32} {nf : Nat} (hn : μ 24 12 = nI nf) (h8 : nf ≤ 8) (h1 : ∀ i, i < nf → f = nI i → Q (some (.int 1)) μ) (h0 : f < 0 ∨ nI nf ≤ f → Q (some (.int 0)) μ) : gJ Ln xs 1 mX7_isFair 0 (jm_en 2 [.ref 24, .int f]) [] μ Q := by
  show jm_J rg_I (rg_X Ln xs) 1 mX7_isFair 0 [some (.ref 24), some (.int f)] [] μ Q
  refine jm_iload_n dX7_isFair_0 rfl rfl rfl ?_
  refine jm_i2l dX7_isFair_1 rfl ?_
  refine jm_lconst 0 dX7_isFair_2 rfl (by decide) ?_
  refine jm_aload_n dX7_isFair_3 rfl rfl rfl ?_
  refine jm_geti dX7_isFair_4 rfl fe_X7_143 rfl rfl rfl ?_
  refine jm_iconst (nI 1) dX7_isFair_7 rfl (by decide) ?_
  refine jm_isub dX7_isFair_8 rfl ?_
  refine jm_i2l dX7_isFair_9 rfl ?_
  refine jm_cS3 dX7_isFair_10 rfl cb_X7_75 cs_X7_in (Nat.le_of_ble_eq_true rfl) (Nat.le_of_ble_eq_true rfl) (by decide) (s_X7_in f (nI 0) (μ 24 12 - nI 1) rfl (by decide) rfl (fun a10 b10 => ?_) (fun c10 => ?_))
  · rw [hn] at b10
    refine jm_iret dX7_isFair_13 rfl rfl ?_
    first | (obtain ⟨i, hi, e⟩ := rg_dep h8 a10 b10; exact h1 i hi e) | exact h0 (rg_depo h8 c10) | fail "leaf"
  · rw [hn] at c10
    refine jm_iret dX7_isFair_13 rfl rfl ?_
    first | (obtain ⟨i, hi, e⟩ := rg_dep h8 a10 b10; exact h1 i hi e) | exact h0 (rg_depo h8 c10) | fail "leaf"
set_option maxHeartbeats 400000 in
theorem s_X7_road {Ln : Nat} {xs : Nat → Int32} {μ : jm_Mem} {Q : Option Value → jm_Mem → Prop} {a b d : Int32} {nf : Nat} (hn : μ 24 12 = nI nf) (h8 : nf ≤ 8) (h : ∀ r μ1, om_road μ a b d r μ1 → Q (some (.int r)) μ1) : gJ Ln xs 2 mX7_road 0 (jm_en 5 [.ref 24, .int a, .int b, .int d]) [] μ Q := by
  show jm_J rg_I (rg_X Ln xs) 2 mX7_road 0 [some (.ref 24), some (.int a), some (.int b), some (.int d), none] [] μ Q
  refine jm_aload_n dX7_road_0 rfl rfl rfl ?_
  refine jm_iload_n dX7_road_1 rfl rfl rfl ?_
  refine jm_cV1 dX7_road_2 rfl cb_X7_146 ci_X7_isFair cv_X7_isFair rfl rfl rfl (Nat.le_of_ble_eq_true rfl) (Nat.le_of_ble_eq_true rfl) (by decide) (s_X7_isFair hn h8 (fun i hi e => ?_) (fun c0 => ?_))
  · subst e
    refine jm_if_eq (tgt := 16) dX7_road_5 (by decide) rfl (fun c5 => absurd c5 (by decide)) (fun c5 => ?_)
    refine jm_aload_n dX7_road_8 rfl rfl rfl ?_
    refine jm_iload_n dX7_road_9 rfl rfl rfl ?_
    refine jm_cV1 dX7_road_10 rfl cb_X7_146 ci_X7_isFair cv_X7_isFair rfl rfl rfl (Nat.le_of_ble_eq_true rfl) (Nat.le_of_ble_eq_true rfl) (by decide) (s_X7_isFair hn h8 (fun k hk e2 => ?_) (fun c9 => ?_))
    · subst e2
      refine jm_if_ne (tgt := 19) dX7_road_13 (by decide) rfl (fun c13 => ?_) (fun c13 => absurd c13 (by decide))
      refine jm_iload_n dX7_road_19 rfl rfl rfl ?_
      refine jm_i2l dX7_road_20 rfl ?_
      refine jm_lconst 0 dX7_road_21 rfl (by decide) ?_
      refine jm_ldc2 50 dX7_road_22 rfl kc_X7_149 ?_
      refine jm_cS3 dX7_road_25 rfl cb_X7_75 cs_X7_in (Nat.le_of_ble_eq_true rfl) (Nat.le_of_ble_eq_true rfl) (by decide) (s_X7_in d (nI 0) (nI 50) rfl (by decide) (by decide) (fun a25 b25 => ?_) (fun c25 => ?_))
      · refine jm_if_eq (tgt := 36) dX7_road_28 (by decide) rfl (fun c28 => absurd c28 (by decide)) (fun c28 => ?_)
        refine jm_iload_n dX7_road_31 rfl rfl rfl ?_
        refine jm_iload_n dX7_road_32 rfl rfl rfl ?_
        refine jm_icmp_ne (tgt := 39) dX7_road_33 (by decide) rfl (fun c33 => ?_) (fun c33 => ?_)
        · refine jm_aload_n dX7_road_39 rfl rfl rfl ?_
          refine jm_getr dX7_road_40 rfl fe_X7_47 rfl rfl rfl ?_
          refine jm_bipush (nI 8) dX7_road_43 rfl (by decide) ?_
          refine jm_iload_n dX7_road_45 rfl rfl rfl ?_
          refine jm_imul dX7_road_46 rfl ?_
          refine jm_iload_n dX7_road_47 rfl rfl rfl ?_
          refine jm_iadd dX7_road_48 rfl ?_
          refine jm_iald dX7_road_49 rfl rfl rfl (by decide) (by rw [pk_mul, nI_add]) (by omega) ?_
          refine jm_istore dX7_road_50 rfl rfl rfl ?_
          dsimp only [List.set]
          refine jm_aload_n dX7_road_52 rfl rfl rfl ?_
          refine jm_getr dX7_road_53 rfl fe_X7_47 rfl rfl rfl ?_
          refine jm_bipush (nI 8) dX7_road_56 rfl (by decide) ?_
          refine jm_iload_n dX7_road_58 rfl rfl rfl ?_
          refine jm_imul dX7_road_59 rfl ?_
          refine jm_iload_n dX7_road_60 rfl rfl rfl ?_
          refine jm_iadd dX7_road_61 rfl ?_
          refine jm_iload_n dX7_road_62 rfl rfl rfl ?_
          refine jm_iast dX7_road_63 rfl rfl rfl (by decide) (by rw [pk_mul, nI_add]) (by omega) ?_
          refine jm_aload_n dX7_road_64 rfl rfl rfl ?_
          refine jm_getr dX7_road_65 rfl fe_X7_47 rfl rfl rfl ?_
          refine jm_bipush (nI 8) dX7_road_68 rfl (by decide) ?_
          refine jm_iload_n dX7_road_70 rfl rfl rfl ?_
          refine jm_imul dX7_road_71 rfl ?_
          refine jm_iload_n dX7_road_72 rfl rfl rfl ?_
          refine jm_iadd dX7_road_73 rfl ?_
          refine jm_iload_n dX7_road_74 rfl rfl rfl ?_
          refine jm_iast dX7_road_75 rfl rfl rfl (by decide) (by rw [pk_mul, nI_add]) (by omega) ?_
          refine jm_iload dX7_road_76 rfl rfl ?_
          refine jm_iret dX7_road_78 rfl rfl ?_
          refine h _ _ ?_
          first | exact ⟨nf, hn, h8, Or.inl ⟨c0.elim (fun h => Or.inl h) (fun h => Or.inr (Or.inl h)), rfl, rfl⟩⟩ | exact ⟨nf, hn, h8, Or.inl ⟨Or.inr (Or.inr c9), rfl, rfl⟩⟩ | exact ⟨nf, hn, h8, Or.inr ⟨i, k, hi, hk, rfl, rfl, Or.inl ⟨Or.inl c25, rfl, rfl⟩⟩⟩ | exact ⟨nf, hn, h8, Or.inr ⟨i, k, hi, hk, rfl, rfl, Or.inl ⟨Or.inr ((nI_eq (by omega) (by omega)).mp c33), rfl, rfl⟩⟩⟩ | exact ⟨nf, hn, h8, Or.inr ⟨i, k, hi, hk, rfl, rfl, Or.inr ⟨⟨a25, b25⟩, fun h => c33 (by rw [h]), rfl, rfl⟩⟩⟩ | fail "leaf"
        · refine jm_bipush (-102) dX7_road_36 rfl (by decide) ?_
          refine jm_iret dX7_road_38 rfl rfl ?_
          refine h _ _ ?_
          first | exact ⟨nf, hn, h8, Or.inl ⟨c0.elim (fun h => Or.inl h) (fun h => Or.inr (Or.inl h)), rfl, rfl⟩⟩ | exact ⟨nf, hn, h8, Or.inl ⟨Or.inr (Or.inr c9), rfl, rfl⟩⟩ | exact ⟨nf, hn, h8, Or.inr ⟨i, k, hi, hk, rfl, rfl, Or.inl ⟨Or.inl c25, rfl, rfl⟩⟩⟩ | exact ⟨nf, hn, h8, Or.inr ⟨i, k, hi, hk, rfl, rfl, Or.inl ⟨Or.inr ((nI_eq (by omega) (by omega)).mp c33), rfl, rfl⟩⟩⟩ | exact ⟨nf, hn, h8, Or.inr ⟨i, k, hi, hk, rfl, rfl, Or.inr ⟨⟨a25, b25⟩, fun h => c33 (by rw [h]), rfl, rfl⟩⟩⟩ | fail "leaf"
      · refine jm_if_eq (tgt := 36) dX7_road_28 (by decide) rfl (fun c28 => ?_) (fun c28 => absurd c28 (by decide))
        refine jm_bipush (-102) dX7_road_36 rfl (by decide) ?_
        refine jm_iret dX7_road_38 rfl rfl ?_
        refine h _ _ ?_
        first | exact ⟨nf, hn, h8, Or.inl ⟨c0.elim (fun h => Or.inl h) (fun h => Or.inr (Or.inl h)), rfl, rfl⟩⟩ | exact ⟨nf, hn, h8, Or.inl ⟨Or.inr (Or.inr c9), rfl, rfl⟩⟩ | exact ⟨nf, hn, h8, Or.inr ⟨i, k, hi, hk, rfl, rfl, Or.inl ⟨Or.inl c25, rfl, rfl⟩⟩⟩ | exact ⟨nf, hn, h8, Or.inr ⟨i, k, hi, hk, rfl, rfl, Or.inl ⟨Or.inr ((nI_eq (by omega) (by omega)).mp c33), rfl, rfl⟩⟩⟩ | exact ⟨nf, hn, h8, Or.inr ⟨i, k, hi, hk, rfl, rfl, Or.inr ⟨⟨a25, b25⟩, fun h => c33 (by rw [h]), rfl, rfl⟩⟩⟩ | fail "leaf"
    · refine jm_if_ne (tgt := 19) dX7_road_13 (by decide) rfl (fun c13 => absurd c13 (by decide)) (fun c13 => ?_)
      refine jm_bipush (-101) dX7_road_16 rfl (by decide) ?_
      refine jm_iret dX7_road_18 rfl rfl ?_
      refine h _ _ ?_
      first | exact ⟨nf, hn, h8, Or.inl ⟨c0.elim (fun h => Or.inl h) (fun h => Or.inr (Or.inl h)), rfl, rfl⟩⟩ | exact ⟨nf, hn, h8, Or.inl ⟨Or.inr (Or.inr c9), rfl, rfl⟩⟩ | exact ⟨nf, hn, h8, Or.inr ⟨i, k, hi, hk, rfl, rfl, Or.inl ⟨Or.inl c25, rfl, rfl⟩⟩⟩ | exact ⟨nf, hn, h8, Or.inr ⟨i, k, hi, hk, rfl, rfl, Or.inl ⟨Or.inr ((nI_eq (by omega) (by omega)).mp c33), rfl, rfl⟩⟩⟩ | exact ⟨nf, hn, h8, Or.inr ⟨i, k, hi, hk, rfl, rfl, Or.inr ⟨⟨a25, b25⟩, fun h => c33 (by rw [h]), rfl, rfl⟩⟩⟩ | fail "leaf"
  · refine jm_if_eq (tgt := 16) dX7_road_5 (by decide) rfl (fun c5 => ?_) (fun c5 => absurd c5 (by decide))
    refine jm_bipush (-101) dX7_road_16 rfl (by decide) ?_
    refine jm_iret dX7_road_18 rfl rfl ?_
    refine h _ _ ?_
    first | exact ⟨nf, hn, h8, Or.inl ⟨c0.elim (fun h => Or.inl h) (fun h => Or.inr (Or.inl h)), rfl, rfl⟩⟩ | exact ⟨nf, hn, h8, Or.inl ⟨Or.inr (Or.inr c9), rfl, rfl⟩⟩ | exact ⟨nf, hn, h8, Or.inr ⟨i, k, hi, hk, rfl, rfl, Or.inl ⟨Or.inl c25, rfl, rfl⟩⟩⟩ | exact ⟨nf, hn, h8, Or.inr ⟨i, k, hi, hk, rfl, rfl, Or.inl ⟨Or.inr ((nI_eq (by omega) (by omega)).mp c33), rfl, rfl⟩⟩⟩ | exact ⟨nf, hn, h8, Or.inr ⟨i, k, hi, hk, rfl, rfl, Or.inr ⟨⟨a25, b25⟩, fun h => c33 (by rw [h]), rfl, rfl⟩⟩⟩ | fail "leaf"
set_option maxHeartbeats 1000000 in
theorem l_X7_turn {Ln : Nat} {xs : Nat → Int32} {μ : jm_Mem} {Q : Option Value → jm_Mem → Prop} {v : Int32} (h : Q (some (.int v)) (jm_set (jm_set (md_clr μ 12) 24 22 (μ 24 22 + 1)) 24 23 (μ 24 23 + v))) : ∀ i, i ≤ 12 → jm_J rg_I (rg_X Ln xs) 3 mX7_turn 33 [some (.ref 24), some (.int v), some (.int (nI i))] [] (md_clr μ i) Q := by
  refine jm_for 12 ?_ ?_
  · skip
    refine jm_iload_n dX7_turn_33 rfl rfl rfl ?_
    refine jm_bipush (nI 12) dX7_turn_34 rfl (by decide) ?_
    refine jm_icmp_ge (tgt := 52) dX7_turn_36 (by decide) rfl (fun c36 => ?_) (fun c36 => absurd ((nI_leI (by omega) (by omega)).mpr (Nat.le_refl _)) c36)
    refine jm_aload_n dX7_turn_52 rfl rfl rfl ?_
    refine jm_dup dX7_turn_53 rfl rfl ?_
    refine jm_geti dX7_turn_54 rfl fe_X7_166 rfl rfl rfl ?_
    refine jm_iconst (nI 1) dX7_turn_57 rfl (by decide) ?_
    refine jm_iadd dX7_turn_58 rfl ?_
    refine jm_puti dX7_turn_59 rfl pe_X7_166 rfl rfl rfl ?_
    refine jm_aload_n dX7_turn_62 rfl rfl rfl ?_
    refine jm_dup dX7_turn_63 rfl rfl ?_
    refine jm_geti dX7_turn_64 rfl fe_X7_172 rfl rfl rfl ?_
    refine jm_iload_n dX7_turn_67 rfl rfl rfl ?_
    refine jm_iadd dX7_turn_68 rfl ?_
    refine jm_puti dX7_turn_69 rfl pe_X7_172 rfl rfl rfl ?_
    refine jm_iload_n dX7_turn_72 rfl rfl rfl ?_
    refine jm_iret dX7_turn_73 rfl rfl ?_
    refine rd_q h ?_
    rw [rd_ni (by decide), md_clr_na (by decide)]; rfl
  · intro i hi ih 
    refine jm_iload_n dX7_turn_33 rfl rfl rfl ?_
    refine jm_bipush (nI 12) dX7_turn_34 rfl (by decide) ?_
    refine jm_icmp_ge (tgt := 52) dX7_turn_36 (by decide) rfl (fun c36 => absurd ((nI_leI (by omega) (by omega)).mp c36) (by omega)) (fun c36 => ?_)
    refine jm_aload_n dX7_turn_39 rfl rfl rfl ?_
    refine jm_getr dX7_turn_40 rfl fe_X7_19 rfl rfl rfl ?_
    refine jm_iload_n dX7_turn_43 rfl rfl rfl ?_
    refine jm_iconst (nI 0) dX7_turn_44 rfl (by decide) ?_
    refine jm_iast dX7_turn_45 rfl rfl rfl (by decide) rfl (by first | assumption | omega) ?_
    refine jm_iinc (nI 1) dX7_turn_46 rfl rfl (by decide) rfl rfl ?_
    dsimp only [List.set]
    refine jm_goto (n := 33) dX7_turn_49 (by decide) ?_
    rw [nI_add]; exact ih
set_option maxHeartbeats 400000 in
theorem s_X7_turn {Ln : Nat} {xs : Nat → Int32} {μ : jm_Mem} {Q : Option Value → jm_Mem → Prop}  (h : ∀ r μ1, om_turn μ  r μ1 → Q (some (.int r)) μ1) : gJ Ln xs 3 mX7_turn 0 (jm_en 3 [.ref 24]) [] μ Q := by
  show jm_J rg_I (rg_X Ln xs) 3 mX7_turn 0 [some (.ref 24), none, none] [] μ Q
  refine jm_aload_n dX7_turn_0 rfl rfl rfl ?_
  refine jm_cV0 dX7_turn_1 rfl cb_X7_104 ci_X7_mayTurn cv_X7_mayTurn rfl rfl rfl (Nat.le_of_ble_eq_true rfl) (Nat.le_of_ble_eq_true rfl) (by decide) (s_X7_mayTurn (fun cl => ?_) (fun cl => ?_))
  · refine jm_if_eq (tgt := 23) dX7_turn_4 (by decide) rfl (fun c4 => absurd c4 (by decide)) (fun c4 => ?_)
    refine jm_aload_n dX7_turn_7 rfl rfl rfl ?_
    refine jm_geti dX7_turn_8 rfl fe_X7_166 rfl rfl rfl ?_
    refine jm_iconst (nI 1) dX7_turn_11 rfl (by decide) ?_
    refine jm_iadd dX7_turn_12 rfl ?_
    refine jm_bipush (nI 10) dX7_turn_13 rfl (by decide) ?_
    refine jm_aload_n dX7_turn_15 rfl rfl rfl ?_
    refine jm_geti dX7_turn_16 rfl fe_X7_66 rfl rfl rfl ?_
    refine jm_imul dX7_turn_19 rfl ?_
    refine jm_icmp_le (tgt := 26) dX7_turn_20 (by decide) rfl (fun c20 => ?_) (fun c20 => ?_)
    · refine jm_aload_n dX7_turn_26 rfl rfl rfl ?_
      refine jm_cV0 dX7_turn_27 rfl cb_X7_169 ci_X7_riders cv_X7_riders rfl rfl rfl (Nat.le_of_ble_eq_true rfl) (Nat.le_of_ble_eq_true rfl) (by decide) (s_X7_riders ?_)
      refine jm_istore_n dX7_turn_30 rfl rfl rfl rfl ?_
      dsimp only [List.set]
      refine jm_iconst (nI 0) dX7_turn_31 rfl (by decide) ?_
      refine jm_istore_n dX7_turn_32 rfl rfl rfl rfl ?_
      dsimp only [List.set]
      exact l_X7_turn (h _ _ (Or.inr ⟨cl, c20, rfl, rfl⟩)) 0 (by omega)
    · refine jm_bipush (-103) dX7_turn_23 rfl (by decide) ?_
      refine jm_iret dX7_turn_25 rfl rfl ?_
      refine h _ _ ?_
      first | exact Or.inl ⟨Or.inl cl, rfl, rfl⟩ | exact Or.inl ⟨Or.inr c20, rfl, rfl⟩ | fail "leaf"
  · refine jm_if_eq (tgt := 23) dX7_turn_4 (by decide) rfl (fun c4 => ?_) (fun c4 => absurd c4 (by decide))
    refine jm_bipush (-103) dX7_turn_23 rfl (by decide) ?_
    refine jm_iret dX7_turn_25 rfl rfl ?_
    refine h _ _ ?_
    first | exact Or.inl ⟨Or.inl cl, rfl, rfl⟩ | exact Or.inl ⟨Or.inr c20, rfl, rfl⟩ | fail "leaf"
set_option maxHeartbeats 400000 in
theorem s_X7_look {Ln : Nat} {xs : Nat → Int32} {μ : jm_Mem} {Q : Option Value → jm_Mem → Prop}  (h : Q (some (.int (μ 24 22))) (jm_set μ 24 22 0)) : gJ Ln xs 0 mX7_look 0 (jm_en 2 [.ref 24]) [] μ Q := by
  show jm_J rg_I (rg_X Ln xs) 0 mX7_look 0 [some (.ref 24), none] [] μ Q
  refine jm_aload_n dX7_look_0 rfl rfl rfl ?_
  refine jm_geti dX7_look_1 rfl fe_X7_166 rfl rfl rfl ?_
  refine jm_istore_n dX7_look_4 rfl rfl rfl rfl ?_
  dsimp only [List.set]
  refine jm_aload_n dX7_look_5 rfl rfl rfl ?_
  refine jm_iconst (nI 0) dX7_look_6 rfl (by decide) ?_
  refine jm_puti dX7_look_7 rfl pe_X7_166 rfl rfl rfl ?_
  refine jm_iload_n dX7_look_10 rfl rfl rfl ?_
  refine jm_iret dX7_look_11 rfl rfl ?_
  exact h
set_option maxHeartbeats 400000 in
theorem s_X7_hours {Ln : Nat} {xs : Nat → Int32} {μ : jm_Mem} {Q : Option Value → jm_Mem → Prop} {v : Int32} (h : ∀ r μ1, om_hours μ v r μ1 → Q (some (.int r)) μ1) : gJ Ln xs 1 mX7_hours 0 (jm_en 3 [.ref 24, .int v]) [] μ Q := by
  show jm_J rg_I (rg_X Ln xs) 1 mX7_hours 0 [some (.ref 24), some (.int v), none] [] μ Q
  refine jm_iload_n dX7_hours_0 rfl rfl rfl ?_
  refine jm_i2l dX7_hours_1 rfl ?_
  refine jm_lconst 1 dX7_hours_2 rfl (by decide) ?_
  refine jm_ldc2 1000 dX7_hours_3 rfl kc_X7_175 ?_
  refine jm_cS3 dX7_hours_6 rfl cb_X7_75 cs_X7_in (Nat.le_of_ble_eq_true rfl) (Nat.le_of_ble_eq_true rfl) (by decide) (s_X7_in v (nI 1) (nI 1000) rfl (by decide) (by decide) (fun a6 b6 => ?_) (fun c6 => ?_))
  · refine jm_if_ne (tgt := 15) dX7_hours_9 (by decide) rfl (fun c9 => ?_) (fun c9 => absurd c9 (by decide))
    refine jm_aload_n dX7_hours_15 rfl rfl rfl ?_
    refine jm_geti dX7_hours_16 rfl fe_X7_66 rfl rfl rfl ?_
    refine jm_istore_n dX7_hours_19 rfl rfl rfl rfl ?_
    dsimp only [List.set]
    refine jm_aload_n dX7_hours_20 rfl rfl rfl ?_
    refine jm_iload_n dX7_hours_21 rfl rfl rfl ?_
    refine jm_puti dX7_hours_22 rfl pe_X7_66 rfl rfl rfl ?_
    refine jm_iload_n dX7_hours_25 rfl rfl rfl ?_
    refine jm_iret dX7_hours_26 rfl rfl ?_
    refine h _ _ ?_
    first | exact Or.inl ⟨c6, rfl, rfl⟩ | exact Or.inr ⟨⟨a6, b6⟩, rfl, rfl⟩ | fail "leaf"
  · refine jm_if_ne (tgt := 15) dX7_hours_9 (by decide) rfl (fun c9 => absurd c9 (by decide)) (fun c9 => ?_)
    refine jm_bipush (-102) dX7_hours_12 rfl (by decide) ?_
    refine jm_iret dX7_hours_14 rfl rfl ?_
    refine h _ _ ?_
    first | exact Or.inl ⟨c6, rfl, rfl⟩ | exact Or.inr ⟨⟨a6, b6⟩, rfl, rfl⟩ | fail "leaf"
set_option maxHeartbeats 400000 in
theorem s_X7_come {Ln : Nat} {xs : Nat → Int32} {μ : jm_Mem} {Q : Option Value → jm_Mem → Prop} {v : Int32} {nw : Nat} (hw : μ 24 24 = nI nw) (hl : nw ≤ 100) (h : ∀ r μ1, om_come μ v r μ1 → Q (some (.int r)) μ1) : gJ Ln xs 2 mX7_come 0 (jm_en 2 [.ref 24, .int v]) [] μ Q := by
  show jm_J rg_I (rg_X Ln xs) 2 mX7_come 0 [some (.ref 24), some (.int v)] [] μ Q
  refine jm_iload_n dX7_come_0 rfl rfl rfl ?_
  refine jm_cS1 dX7_come_1 rfl cb_X7_110 cs_X7_isRider (Nat.le_of_ble_eq_true rfl) (Nat.le_of_ble_eq_true rfl) (by decide) (s_X7_isRider (fun a1 b1 => ?_) (fun c1 => ?_))
  · refine jm_if_ne (tgt := 10) dX7_come_4 (by decide) rfl (fun c4 => ?_) (fun c4 => absurd c4 (by decide))
    refine jm_aload_n dX7_come_10 rfl rfl rfl ?_
    refine jm_geti dX7_come_11 rfl fe_X7_177 rfl rfl rfl ?_
    refine jm_bipush (nI 100) dX7_come_14 rfl (by decide) ?_
    refine jm_icmp_ne (tgt := 22) dX7_come_16 (by decide) rfl (fun c16 => ?_) (fun c16 => ?_)
    · have hl1 : nw < 100 := by have : nw ≠ 100 := (fun e => c16 (by rw [hw, e])); omega
      refine jm_aload_n dX7_come_22 rfl rfl rfl ?_
      refine jm_getr dX7_come_23 rfl fe_X7_56 rfl rfl rfl ?_
      refine jm_aload_n dX7_come_26 rfl rfl rfl ?_
      refine jm_geti dX7_come_27 rfl fe_X7_177 rfl rfl rfl ?_
      refine jm_iload_n dX7_come_30 rfl rfl rfl ?_
      refine jm_iast dX7_come_31 rfl rfl rfl (by decide) hw hl1 ?_
      refine jm_aload_n dX7_come_32 rfl rfl rfl ?_
      refine jm_dup dX7_come_33 rfl rfl ?_
      refine jm_geti dX7_come_34 rfl fe_X7_177 rfl rfl rfl ?_
      refine jm_iconst (nI 1) dX7_come_37 rfl (by decide) ?_
      refine jm_iadd dX7_come_38 rfl ?_
      refine jm_puti dX7_come_39 rfl pe_X7_177 rfl rfl rfl ?_
      refine jm_aload_n dX7_come_42 rfl rfl rfl ?_
      refine jm_geti dX7_come_43 rfl fe_X7_177 rfl rfl rfl ?_
      refine jm_iret dX7_come_46 rfl rfl ?_
      refine h _ _ ?_
      first | exact Or.inl ⟨c1, rfl, rfl⟩ | exact Or.inr ⟨⟨a1, b1⟩, nw, hw, Or.inl ⟨(nI_eq (by omega) (by omega)).mp (hw ▸ c16), rfl, rfl⟩⟩ | exact Or.inr ⟨⟨a1, b1⟩, nw, hw, Or.inr ⟨hl1, by rw [rd_eq, rd_na (by decide), hw, nI_add], by rw [rd_na (by decide), hw, nI_add]⟩⟩ | fail "leaf"
    · refine jm_bipush (-104) dX7_come_19 rfl (by decide) ?_
      refine jm_iret dX7_come_21 rfl rfl ?_
      refine h _ _ ?_
      first | exact Or.inl ⟨c1, rfl, rfl⟩ | exact Or.inr ⟨⟨a1, b1⟩, nw, hw, Or.inl ⟨(nI_eq (by omega) (by omega)).mp (hw ▸ c16), rfl, rfl⟩⟩ | exact Or.inr ⟨⟨a1, b1⟩, nw, hw, Or.inr ⟨hl1, by rw [rd_eq, rd_na (by decide), hw, nI_add], by rw [rd_na (by decide), hw, nI_add]⟩⟩ | fail "leaf"
  · refine jm_if_ne (tgt := 10) dX7_come_4 (by decide) rfl (fun c4 => absurd c4 (by decide)) (fun c4 => ?_)
    refine jm_bipush (-102) dX7_come_7 rfl (by decide) ?_
    refine jm_iret dX7_come_9 rfl rfl ?_
    refine h _ _ ?_
    first | exact Or.inl ⟨c1, rfl, rfl⟩ | exact Or.inr ⟨⟨a1, b1⟩, nw, hw, Or.inl ⟨(nI_eq (by omega) (by omega)).mp (hw ▸ c16), rfl, rfl⟩⟩ | exact Or.inr ⟨⟨a1, b1⟩, nw, hw, Or.inr ⟨hl1, by rw [rd_eq, rd_na (by decide), hw, nI_add], by rw [rd_na (by decide), hw, nI_add]⟩⟩ | fail "leaf"
set_option maxHeartbeats 400000 in
theorem s_X7_book {Ln : Nat} {xs : Nat → Int32} {μ : jm_Mem} {Q : Option Value → jm_Mem → Prop} {v : Int32} (h : ∀ r μ1, om_book μ v r μ1 → Q (some (.int r)) μ1) : gJ Ln xs 1 mX7_book 0 (jm_en 3 [.ref 24, .int v]) [] μ Q := by
  show jm_J rg_I (rg_X Ln xs) 1 mX7_book 0 [some (.ref 24), some (.int v), none] [] μ Q
  refine jm_iload_n dX7_book_0 rfl rfl rfl ?_
  refine jm_i2l dX7_book_1 rfl ?_
  refine jm_lconst 0 dX7_book_2 rfl (by decide) ?_
  refine jm_ldc2 100000 dX7_book_3 rfl kc_X7_180 ?_
  refine jm_cS3 dX7_book_6 rfl cb_X7_75 cs_X7_in (Nat.le_of_ble_eq_true rfl) (Nat.le_of_ble_eq_true rfl) (by decide) (s_X7_in v (nI 0) 100000 rfl (by decide) (by decide) (fun a6 b6 => ?_) (fun c6 => ?_))
  · refine jm_if_ne (tgt := 15) dX7_book_9 (by decide) rfl (fun c9 => ?_) (fun c9 => absurd c9 (by decide))
    refine jm_aload_n dX7_book_15 rfl rfl rfl ?_
    refine jm_geti dX7_book_16 rfl fe_X7_172 rfl rfl rfl ?_
    refine jm_istore_n dX7_book_19 rfl rfl rfl rfl ?_
    dsimp only [List.set]
    refine jm_aload_n dX7_book_20 rfl rfl rfl ?_
    refine jm_iconst (nI 0) dX7_book_21 rfl (by decide) ?_
    refine jm_puti dX7_book_22 rfl pe_X7_172 rfl rfl rfl ?_
    refine jm_iload_n dX7_book_25 rfl rfl rfl ?_
    refine jm_iload_n dX7_book_26 rfl rfl rfl ?_
    refine jm_isub dX7_book_27 rfl ?_
    refine jm_iret dX7_book_28 rfl rfl ?_
    refine h _ _ ?_
    first | exact Or.inl ⟨c6, rfl, rfl⟩ | exact Or.inr ⟨⟨a6, b6⟩, rfl, rfl⟩ | fail "leaf"
  · refine jm_if_ne (tgt := 15) dX7_book_9 (by decide) rfl (fun c9 => absurd c9 (by decide)) (fun c9 => ?_)
    refine jm_bipush (-102) dX7_book_12 rfl (by decide) ?_
    refine jm_iret dX7_book_14 rfl rfl ?_
    refine h _ _ ?_
    first | exact Or.inl ⟨c6, rfl, rfl⟩ | exact Or.inr ⟨⟨a6, b6⟩, rfl, rfl⟩ | fail "leaf"
set_option maxHeartbeats 1000000 in
theorem l_X7_next {Ln : Nat} {xs : Nat → Int32} {μ : jm_Mem} {Q : Option Value → jm_Mem → Prop} {v : Int32} {nw : Nat} (hl : nw < 100) (hw : μ 24 24 = nI nw) (h : Q (some (.int v)) (md_shf μ nw)) : ∀ i, i ≤ nw → jm_J rg_I (rg_X Ln xs) 5 mX7_next 51 [some (.ref 24), some (.int v), some (.int (nI i))] [] (md_shf μ i) Q := by
  refine jm_for nw ?_ ?_
  · skip
    refine jm_iload_n dX7_next_51 rfl rfl rfl ?_
    refine jm_aload_n dX7_next_52 rfl rfl rfl ?_
    refine jm_geti dX7_next_53 rfl fe_X7_177 rfl rfl rfl ?_
    refine jm_icmp_ge (tgt := 79) dX7_next_56 (by decide) rfl (fun c56 => ?_) (fun c56 => absurd (by rw [md_shf_na (by decide), hw]; exact (nI_leI (by omega) (by omega)).mpr (Nat.le_refl _)) c56)
    refine jm_iload_n dX7_next_79 rfl rfl rfl ?_
    refine jm_iret dX7_next_80 rfl rfl ?_
    exact h
  · intro i hi ih 
    refine jm_iload_n dX7_next_51 rfl rfl rfl ?_
    refine jm_aload_n dX7_next_52 rfl rfl rfl ?_
    refine jm_geti dX7_next_53 rfl fe_X7_177 rfl rfl rfl ?_
    refine jm_icmp_ge (tgt := 79) dX7_next_56 (by decide) rfl (fun c56 => absurd ((nI_leI (a := nw) (b := i) (by omega) (by omega)).mp (by rw [md_shf_na (by decide), hw] at c56; exact c56)) (by omega)) (fun c56 => ?_)
    refine jm_aload_n dX7_next_59 rfl rfl rfl ?_
    refine jm_getr dX7_next_60 rfl fe_X7_56 rfl rfl rfl ?_
    refine jm_iload_n dX7_next_63 rfl rfl rfl ?_
    refine jm_aload_n dX7_next_64 rfl rfl rfl ?_
    refine jm_getr dX7_next_65 rfl fe_X7_56 rfl rfl rfl ?_
    refine jm_iload_n dX7_next_68 rfl rfl rfl ?_
    refine jm_iconst (nI 1) dX7_next_69 rfl (by decide) ?_
    refine jm_iadd dX7_next_70 rfl ?_
    refine jm_iald dX7_next_71 rfl rfl rfl (by decide) (nI_add _ _) (by omega) ?_
    refine jm_iast dX7_next_72 rfl rfl rfl (by decide) rfl (by first | assumption | omega) ?_
    refine jm_iinc (nI 1) dX7_next_73 rfl rfl (by decide) rfl rfl ?_
    dsimp only [List.set]
    refine jm_goto (n := 51) dX7_next_76 (by decide) ?_
    rw [nI_add]; exact ih
set_option maxHeartbeats 400000 in
theorem s_X7_next {Ln : Nat} {xs : Nat → Int32} {μ : jm_Mem} {Q : Option Value → jm_Mem → Prop} {nw : Nat} (hw : μ 24 24 = nI nw) (hl : nw ≤ 100) (h : ∀ r μ1, om_next μ  r μ1 → Q (some (.int r)) μ1) : gJ Ln xs 5 mX7_next 0 (jm_en 3 [.ref 24]) [] μ Q := by
  show jm_J rg_I (rg_X Ln xs) 5 mX7_next 0 [some (.ref 24), none, none] [] μ Q
  refine jm_aload_n dX7_next_0 rfl rfl rfl ?_
  refine jm_geti dX7_next_1 rfl fe_X7_177 rfl rfl rfl ?_
  refine jm_if_ne (tgt := 11) dX7_next_4 (by decide) rfl (fun c4 => ?_) (fun c4 => ?_)
  · obtain ⟨n, rfl⟩ : ∃ n, nw = n + 1 := ⟨nw - 1, by have : nw ≠ 0 := (fun e => c4 (by rw [hw, e]; rfl)); omega⟩
    refine jm_aload_n dX7_next_11 rfl rfl rfl ?_
    refine jm_aload_n dX7_next_12 rfl rfl rfl ?_
    refine jm_getr dX7_next_13 rfl fe_X7_56 rfl rfl rfl ?_
    refine jm_iconst (nI 0) dX7_next_16 rfl (by decide) ?_
    refine jm_iald dX7_next_17 rfl rfl rfl (by decide) rfl (by decide) ?_
    refine jm_cV1 dX7_next_18 rfl cb_X7_124 ci_X7_bestOf cv_X7_bestOf rfl rfl rfl (Nat.le_of_ble_eq_true rfl) (Nat.le_of_ble_eq_true rfl) (by decide) (s_X7_bestOf ?_)
    refine jm_istore_n dX7_next_21 rfl rfl rfl rfl ?_
    dsimp only [List.set]
    refine jm_iload_n dX7_next_22 rfl rfl rfl ?_
    refine jm_iconst (-1) dX7_next_23 rfl (by decide) ?_
    refine jm_icmp_eq (tgt := 79) dX7_next_24 (by decide) rfl (fun c24 => ?_) (fun c24 => ?_)
    · refine jm_iload_n dX7_next_79 rfl rfl rfl ?_
      refine jm_iret dX7_next_80 rfl rfl ?_
      refine h _ _ ?_
      first | exact Or.inl ⟨c4, rfl, rfl⟩ | exact Or.inr ⟨n, by omega, hw, Or.inl ⟨c24, c24, rfl⟩⟩ | fail "leaf"
    · obtain ⟨j, hj, hok, ej⟩ := (rg_bst_ix 12).resolve_left c24
      rw [ej]
      refine jm_aload_n dX7_next_27 rfl rfl rfl ?_
      refine jm_getr dX7_next_28 rfl fe_X7_19 rfl rfl rfl ?_
      refine jm_iload_n dX7_next_31 rfl rfl rfl ?_
      refine jm_aload_n dX7_next_32 rfl rfl rfl ?_
      refine jm_getr dX7_next_33 rfl fe_X7_56 rfl rfl rfl ?_
      refine jm_iconst (nI 0) dX7_next_36 rfl (by decide) ?_
      refine jm_iald dX7_next_37 rfl rfl rfl (by decide) rfl (by decide) ?_
      refine jm_iast dX7_next_38 rfl rfl rfl (by decide) rfl (by first | assumption | omega) ?_
      refine jm_aload_n dX7_next_39 rfl rfl rfl ?_
      refine jm_dup dX7_next_40 rfl rfl ?_
      refine jm_geti dX7_next_41 rfl fe_X7_177 rfl rfl rfl ?_
      refine jm_iconst (nI 1) dX7_next_44 rfl (by decide) ?_
      refine jm_isub dX7_next_45 rfl ?_
      refine jm_puti dX7_next_46 rfl pe_X7_177 rfl rfl rfl ?_
      refine jm_iconst (nI 0) dX7_next_49 rfl (by decide) ?_
      refine jm_istore_n dX7_next_50 rfl rfl rfl rfl ?_
      dsimp only [List.set]
      rw [rd_na (by decide), hw, pk_sub (by omega)]
      exact l_X7_next (μ := jm_set (jm_set μ 28 j (μ 40 0)) 24 24 (nI n)) (by omega) rd_eq (h _ _ (Or.inr ⟨n, by omega, hw, Or.inr ⟨j, hj, ej, rfl, rfl⟩⟩)) 0 (by omega)
  · refine jm_iconst (-1) dX7_next_7 rfl (by decide) ?_
    refine jm_goto (n := 21) dX7_next_8 (by decide) ?_
    refine jm_istore_n dX7_next_21 rfl rfl rfl rfl ?_
    dsimp only [List.set]
    refine jm_iload_n dX7_next_22 rfl rfl rfl ?_
    refine jm_iconst (-1) dX7_next_23 rfl (by decide) ?_
    refine jm_icmp_eq (tgt := 79) dX7_next_24 (by decide) rfl (fun c24 => ?_) (fun c24 => absurd c24 (by decide))
    refine jm_iload_n dX7_next_79 rfl rfl rfl ?_
    refine jm_iret dX7_next_80 rfl rfl ?_
    refine h _ _ ?_
    first | exact Or.inl ⟨c4, rfl, rfl⟩ | exact Or.inr ⟨n, by omega, hw, Or.inl ⟨c24, c24, rfl⟩⟩ | fail "leaf"
set_option maxHeartbeats 400000 in
theorem s_X7_law {Ln : Nat} {xs : Nat → Int32} {μ : jm_Mem} {Q : Option Value → jm_Mem → Prop} {x v : Int32} (h : ∀ r μ1, om_law μ x v r μ1 → Q (some (.int r)) μ1) : gJ Ln xs 1 mX7_law 0 (jm_en 4 [.ref 24, .int x, .int v]) [] μ Q := by
  show jm_J rg_I (rg_X Ln xs) 1 mX7_law 0 [some (.ref 24), some (.int x), some (.int v), none] [] μ Q
  refine jm_iload_n dX7_law_0 rfl rfl rfl ?_
  refine jm_i2l dX7_law_1 rfl ?_
  refine jm_lconst 0 dX7_law_2 rfl (by decide) ?_
  refine jm_lconst 1 dX7_law_3 rfl (by decide) ?_
  refine jm_cS3 dX7_law_4 rfl cb_X7_75 cs_X7_in (Nat.le_of_ble_eq_true rfl) (Nat.le_of_ble_eq_true rfl) (by decide) (s_X7_in x (nI 0) (nI 1) rfl (by decide) (by decide) (fun a4 b4 => ?_) (fun c4 => ?_))
  · refine jm_if_ne (tgt := 13) dX7_law_7 (by decide) rfl (fun c7 => ?_) (fun c7 => absurd c7 (by decide))
    refine jm_iload_n dX7_law_13 rfl rfl rfl ?_
    refine jm_i2l dX7_law_14 rfl ?_
    refine jm_lconst 0 dX7_law_15 rfl (by decide) ?_
    refine jm_iload_n dX7_law_16 rfl rfl rfl ?_
    refine jm_if_ne (tgt := 26) dX7_law_17 (by decide) rfl (fun c17 => ?_) (fun c17 => ?_)
    · have hx1 : x = 1 := by
        obtain ⟨i, hi, e⟩ := rg_in (n := 1) (by decide) a4 b4
        obtain rfl | rfl : i = 0 ∨ i = 1 := by omega
        · exact absurd e c17
        · exact e
      refine jm_ldc2 5000 dX7_law_26 rfl kc_X7_119 ?_
      refine jm_cS3 dX7_law_29 rfl cb_X7_75 cs_X7_in (Nat.le_of_ble_eq_true rfl) (Nat.le_of_ble_eq_true rfl) (by decide) (s_X7_in v (nI 0) (nI 5000) rfl (by decide) (by decide) (fun a29 b29 => ?_) (fun c29 => ?_))
      · refine jm_if_ne (tgt := 38) dX7_law_32 (by decide) rfl (fun c32 => ?_) (fun c32 => absurd c32 (by decide))
        refine jm_iload_n dX7_law_38 rfl rfl rfl ?_
        refine jm_if_ne (tgt := 49) dX7_law_39 (by decide) rfl (fun c39 => ?_) (fun c39 => absurd c39 c17)
        refine jm_aload_n dX7_law_49 rfl rfl rfl ?_
        refine jm_geti dX7_law_50 rfl fe_X7_63 rfl rfl rfl ?_
        refine jm_istore_n dX7_law_53 rfl rfl rfl rfl ?_
        dsimp only [List.set]
        refine jm_iload_n dX7_law_54 rfl rfl rfl ?_
        refine jm_if_ne (tgt := 66) dX7_law_55 (by decide) rfl (fun c55 => ?_) (fun c55 => absurd c55 c17)
        refine jm_aload_n dX7_law_66 rfl rfl rfl ?_
        refine jm_iload_n dX7_law_67 rfl rfl rfl ?_
        refine jm_puti dX7_law_68 rfl pe_X7_63 rfl rfl rfl ?_
        refine jm_iload_n dX7_law_71 rfl rfl rfl ?_
        refine jm_iret dX7_law_72 rfl rfl ?_
        refine h _ _ ?_
        first | exact Or.inr (Or.inr ⟨fun e => by rcases c4 with c | c; exact absurd c (by rw [e]; decide); exact absurd c (by rw [e]; decide), fun e => by rcases c4 with c | c; exact absurd c (by rw [e]; decide); exact absurd c (by rw [e]; decide), rfl, rfl⟩) | exact Or.inl ⟨c17, Or.inl ⟨c29, rfl, rfl⟩⟩ | exact Or.inl ⟨c17, Or.inr ⟨⟨a29, b29⟩, rfl, rfl⟩⟩ | exact Or.inr (Or.inl ⟨hx1, Or.inl ⟨c29, rfl, rfl⟩⟩) | exact Or.inr (Or.inl ⟨hx1, Or.inr ⟨⟨a29, b29⟩, rfl, rfl⟩⟩) | fail "leaf"
      · refine jm_if_ne (tgt := 38) dX7_law_32 (by decide) rfl (fun c32 => absurd c32 (by decide)) (fun c32 => ?_)
        refine jm_bipush (-102) dX7_law_35 rfl (by decide) ?_
        refine jm_iret dX7_law_37 rfl rfl ?_
        refine h _ _ ?_
        first | exact Or.inr (Or.inr ⟨fun e => by rcases c4 with c | c; exact absurd c (by rw [e]; decide); exact absurd c (by rw [e]; decide), fun e => by rcases c4 with c | c; exact absurd c (by rw [e]; decide); exact absurd c (by rw [e]; decide), rfl, rfl⟩) | exact Or.inl ⟨c17, Or.inl ⟨c29, rfl, rfl⟩⟩ | exact Or.inl ⟨c17, Or.inr ⟨⟨a29, b29⟩, rfl, rfl⟩⟩ | exact Or.inr (Or.inl ⟨hx1, Or.inl ⟨c29, rfl, rfl⟩⟩) | exact Or.inr (Or.inl ⟨hx1, Or.inr ⟨⟨a29, b29⟩, rfl, rfl⟩⟩) | fail "leaf"
    · refine jm_ldc2 30000 dX7_law_20 rfl kc_X7_117 ?_
      refine jm_goto (n := 29) dX7_law_23 (by decide) ?_
      refine jm_cS3 dX7_law_29 rfl cb_X7_75 cs_X7_in (Nat.le_of_ble_eq_true rfl) (Nat.le_of_ble_eq_true rfl) (by decide) (s_X7_in v (nI 0) (nI 30000) rfl (by decide) (by decide) (fun a29 b29 => ?_) (fun c29 => ?_))
      · refine jm_if_ne (tgt := 38) dX7_law_32 (by decide) rfl (fun c32 => ?_) (fun c32 => absurd c32 (by decide))
        refine jm_iload_n dX7_law_38 rfl rfl rfl ?_
        refine jm_if_ne (tgt := 49) dX7_law_39 (by decide) rfl (fun c39 => absurd c17 c39) (fun c39 => ?_)
        refine jm_aload_n dX7_law_42 rfl rfl rfl ?_
        refine jm_geti dX7_law_43 rfl fe_X7_59 rfl rfl rfl ?_
        refine jm_goto (n := 53) dX7_law_46 (by decide) ?_
        refine jm_istore_n dX7_law_53 rfl rfl rfl rfl ?_
        dsimp only [List.set]
        refine jm_iload_n dX7_law_54 rfl rfl rfl ?_
        refine jm_if_ne (tgt := 66) dX7_law_55 (by decide) rfl (fun c55 => absurd c17 c55) (fun c55 => ?_)
        refine jm_aload_n dX7_law_58 rfl rfl rfl ?_
        refine jm_iload_n dX7_law_59 rfl rfl rfl ?_
        refine jm_puti dX7_law_60 rfl pe_X7_59 rfl rfl rfl ?_
        refine jm_goto (n := 71) dX7_law_63 (by decide) ?_
        refine jm_iload_n dX7_law_71 rfl rfl rfl ?_
        refine jm_iret dX7_law_72 rfl rfl ?_
        refine h _ _ ?_
        first | exact Or.inr (Or.inr ⟨fun e => by rcases c4 with c | c; exact absurd c (by rw [e]; decide); exact absurd c (by rw [e]; decide), fun e => by rcases c4 with c | c; exact absurd c (by rw [e]; decide); exact absurd c (by rw [e]; decide), rfl, rfl⟩) | exact Or.inl ⟨c17, Or.inl ⟨c29, rfl, rfl⟩⟩ | exact Or.inl ⟨c17, Or.inr ⟨⟨a29, b29⟩, rfl, rfl⟩⟩ | exact Or.inr (Or.inl ⟨hx1, Or.inl ⟨c29, rfl, rfl⟩⟩) | exact Or.inr (Or.inl ⟨hx1, Or.inr ⟨⟨a29, b29⟩, rfl, rfl⟩⟩) | fail "leaf"
      · refine jm_if_ne (tgt := 38) dX7_law_32 (by decide) rfl (fun c32 => absurd c32 (by decide)) (fun c32 => ?_)
        refine jm_bipush (-102) dX7_law_35 rfl (by decide) ?_
        refine jm_iret dX7_law_37 rfl rfl ?_
        refine h _ _ ?_
        first | exact Or.inr (Or.inr ⟨fun e => by rcases c4 with c | c; exact absurd c (by rw [e]; decide); exact absurd c (by rw [e]; decide), fun e => by rcases c4 with c | c; exact absurd c (by rw [e]; decide); exact absurd c (by rw [e]; decide), rfl, rfl⟩) | exact Or.inl ⟨c17, Or.inl ⟨c29, rfl, rfl⟩⟩ | exact Or.inl ⟨c17, Or.inr ⟨⟨a29, b29⟩, rfl, rfl⟩⟩ | exact Or.inr (Or.inl ⟨hx1, Or.inl ⟨c29, rfl, rfl⟩⟩) | exact Or.inr (Or.inl ⟨hx1, Or.inr ⟨⟨a29, b29⟩, rfl, rfl⟩⟩) | fail "leaf"
  · refine jm_if_ne (tgt := 13) dX7_law_7 (by decide) rfl (fun c7 => absurd c7 (by decide)) (fun c7 => ?_)
    refine jm_bipush (-101) dX7_law_10 rfl (by decide) ?_
    refine jm_iret dX7_law_12 rfl rfl ?_
    refine h _ _ ?_
    first | exact Or.inr (Or.inr ⟨fun e => by rcases c4 with c | c; exact absurd c (by rw [e]; decide); exact absurd c (by rw [e]; decide), fun e => by rcases c4 with c | c; exact absurd c (by rw [e]; decide); exact absurd c (by rw [e]; decide), rfl, rfl⟩) | exact Or.inl ⟨c17, Or.inl ⟨c29, rfl, rfl⟩⟩ | exact Or.inl ⟨c17, Or.inr ⟨⟨a29, b29⟩, rfl, rfl⟩⟩ | exact Or.inr (Or.inl ⟨hx1, Or.inl ⟨c29, rfl, rfl⟩⟩) | exact Or.inr (Or.inl ⟨hx1, Or.inr ⟨⟨a29, b29⟩, rfl, rfl⟩⟩) | fail "leaf"
set_option maxHeartbeats 1000000 in
theorem l_X7_count {Ln : Nat} {xs : Nat → Int32} {μ : jm_Mem} {Q : Option Value → jm_Mem → Prop}  (h : Q (some (.int (md_sum μ 12))) μ) : ∀ i, i ≤ 12 → ∀ (v1 : Int32), jm_J rg_I (rg_X Ln xs) 1 mX7_count 82 [some (.ref 24), some (.int v1), some (.int (md_sum μ i)), some (.int (nI i))] [] μ Q := by
  refine jm_for 12 ?_ ?_
  · intro v1
    refine jm_iload_n dX7_count_82 rfl rfl rfl ?_
    refine jm_bipush (nI 12) dX7_count_83 rfl (by decide) ?_
    refine jm_icmp_ge (tgt := 102) dX7_count_85 (by decide) rfl (fun c85 => ?_) (fun c85 => absurd ((nI_leI (by omega) (by omega)).mpr (Nat.le_refl _)) c85)
    refine jm_iload_n dX7_count_102 rfl rfl rfl ?_
    refine jm_iret dX7_count_103 rfl rfl ?_
    exact h
  · intro i hi ih v1
    refine jm_iload_n dX7_count_82 rfl rfl rfl ?_
    refine jm_bipush (nI 12) dX7_count_83 rfl (by decide) ?_
    refine jm_icmp_ge (tgt := 102) dX7_count_85 (by decide) rfl (fun c85 => absurd ((nI_leI (by omega) (by omega)).mp c85) (by omega)) (fun c85 => ?_)
    refine jm_iload_n dX7_count_88 rfl rfl rfl ?_
    refine jm_aload_n dX7_count_89 rfl rfl rfl ?_
    refine jm_iload_n dX7_count_90 rfl rfl rfl ?_
    refine jm_cV1 dX7_count_91 rfl cb_X7_94 ci_X7_load cv_X7_load rfl rfl rfl (Nat.le_of_ble_eq_true rfl) (Nat.le_of_ble_eq_true rfl) (by decide) (s_X7_load hi ?_)
    refine jm_iadd dX7_count_94 rfl ?_
    refine jm_istore_n dX7_count_95 rfl rfl rfl rfl ?_
    dsimp only [List.set]
    refine jm_iinc (nI 1) dX7_count_96 rfl rfl (by decide) rfl rfl ?_
    dsimp only [List.set]
    refine jm_goto (n := 82) dX7_count_99 (by decide) ?_
    rw [nI_add]; exact ih v1
set_option maxHeartbeats 400000 in
theorem s_X7_count {Ln : Nat} {xs : Nat → Int32} {μ : jm_Mem} {Q : Option Value → jm_Mem → Prop} {x : Int32} (h : ∀ r, om_count μ x r → Q (some (.int r)) μ) : gJ Ln xs 1 mX7_count 0 (jm_en 4 [.ref 24, .int x]) [] μ Q := by
  show jm_J rg_I (rg_X Ln xs) 1 mX7_count 0 [some (.ref 24), some (.int x), none, none] [] μ Q
  rcases pk_ix x (n := 8) (by decide) with hx | hx | ⟨k, hk, rfl⟩
  · refine jm_iload_n dX7_count_0 rfl rfl rfl ?_
    refine jm_tabOut (n := 109) dX7_count_1 (Or.inl (by have := Int32.lt_iff_toInt_lt.mp hx; simpa using this)) (by decide) ?_
    refine jm_bipush (-102) dX7_count_109 rfl (by decide) ?_
    refine jm_iret dX7_count_111 rfl rfl ?_
    refine h _ (Or.inr (Or.inr (Or.inr (Or.inr (Or.inr (Or.inr (Or.inr (Or.inr ⟨Or.inl hx, rfl⟩))))))))
  · refine jm_iload_n dX7_count_0 rfl rfl rfl ?_
    refine jm_tabOut (n := 109) dX7_count_1 (Or.inr (by have := Int32.le_iff_toInt_le.mp hx; rw [nI_toInt (by decide)] at this; omega)) (by decide) ?_
    refine jm_bipush (-102) dX7_count_109 rfl (by decide) ?_
    refine jm_iret dX7_count_111 rfl rfl ?_
    refine h _ (Or.inr (Or.inr (Or.inr (Or.inr (Or.inr (Or.inr (Or.inr (Or.inr ⟨Or.inr hx, rfl⟩))))))))
  · obtain rfl | rfl | rfl | rfl | rfl | rfl | rfl | rfl : k = 0 ∨ k = 1 ∨ k = 2 ∨ k = 3 ∨ k = 4 ∨ k = 5 ∨ k = 6 ∨ k = 7 := by omega
    · refine jm_iload_n dX7_count_0 rfl rfl rfl ?_
      refine jm_tabIn (n := 48) (off := 47) dX7_count_1 (by decide) (by decide) (by decide) (by decide) ?_
      refine jm_aload_n dX7_count_48 rfl rfl rfl ?_
      refine jm_cV0 dX7_count_49 rfl cb_X7_87 ci_X7_horses cv_X7_horses rfl rfl rfl (Nat.le_of_ble_eq_true rfl) (Nat.le_of_ble_eq_true rfl) (by decide) (s_X7_horses ?_)
      refine jm_iret dX7_count_52 rfl rfl ?_
      exact h _ (Or.inl ⟨rfl, rfl⟩)
    · refine jm_iload_n dX7_count_0 rfl rfl rfl ?_
      refine jm_tabIn (n := 53) (off := 52) dX7_count_1 (by decide) (by decide) (by decide) (by decide) ?_
      refine jm_aload_n dX7_count_53 rfl rfl rfl ?_
      refine jm_cV0 dX7_count_54 rfl cb_X7_169 ci_X7_riders cv_X7_riders rfl rfl rfl (Nat.le_of_ble_eq_true rfl) (Nat.le_of_ble_eq_true rfl) (by decide) (s_X7_riders ?_)
      refine jm_iret dX7_count_57 rfl rfl ?_
      exact h _ (Or.inr (Or.inl ⟨rfl, rfl⟩))
    · refine jm_iload_n dX7_count_0 rfl rfl rfl ?_
      refine jm_tabIn (n := 58) (off := 57) dX7_count_1 (by decide) (by decide) (by decide) (by decide) ?_
      refine jm_aload_n dX7_count_58 rfl rfl rfl ?_
      refine jm_geti dX7_count_59 rfl fe_X7_177 rfl rfl rfl ?_
      refine jm_iret dX7_count_62 rfl rfl ?_
      exact h _ (Or.inr (Or.inr (Or.inl ⟨rfl, rfl⟩)))
    · refine jm_iload_n dX7_count_0 rfl rfl rfl ?_
      refine jm_tabIn (n := 63) (off := 62) dX7_count_1 (by decide) (by decide) (by decide) (by decide) ?_
      refine jm_aload_n dX7_count_63 rfl rfl rfl ?_
      refine jm_geti dX7_count_64 rfl fe_X7_143 rfl rfl rfl ?_
      refine jm_iret dX7_count_67 rfl rfl ?_
      exact h _ (Or.inr (Or.inr (Or.inr (Or.inl ⟨rfl, rfl⟩))))
    · refine jm_iload_n dX7_count_0 rfl rfl rfl ?_
      refine jm_tabIn (n := 68) (off := 67) dX7_count_1 (by decide) (by decide) (by decide) (by decide) ?_
      refine jm_aload_n dX7_count_68 rfl rfl rfl ?_
      refine jm_geti dX7_count_69 rfl fe_X7_166 rfl rfl rfl ?_
      refine jm_iret dX7_count_72 rfl rfl ?_
      exact h _ (Or.inr (Or.inr (Or.inr (Or.inr (Or.inl ⟨rfl, rfl⟩)))))
    · refine jm_iload_n dX7_count_0 rfl rfl rfl ?_
      refine jm_tabIn (n := 73) (off := 72) dX7_count_1 (by decide) (by decide) (by decide) (by decide) ?_
      refine jm_aload_n dX7_count_73 rfl rfl rfl ?_
      refine jm_geti dX7_count_74 rfl fe_X7_172 rfl rfl rfl ?_
      refine jm_iret dX7_count_77 rfl rfl ?_
      exact h _ (Or.inr (Or.inr (Or.inr (Or.inr (Or.inr (Or.inl ⟨rfl, rfl⟩))))))
    · refine jm_iload_n dX7_count_0 rfl rfl rfl ?_
      refine jm_tabIn (n := 78) (off := 77) dX7_count_1 (by decide) (by decide) (by decide) (by decide) ?_
      refine jm_iconst (nI 0) dX7_count_78 rfl (by decide) ?_
      refine jm_istore_n dX7_count_79 rfl rfl rfl rfl ?_
      dsimp only [List.set]
      refine jm_iconst (nI 0) dX7_count_80 rfl (by decide) ?_
      refine jm_istore_n dX7_count_81 rfl rfl rfl rfl ?_
      dsimp only [List.set]
      exact l_X7_count (h _ (Or.inr (Or.inr (Or.inr (Or.inr (Or.inr (Or.inr (Or.inl ⟨rfl, rfl⟩)))))))) 0 (by omega) _
    · refine jm_iload_n dX7_count_0 rfl rfl rfl ?_
      refine jm_tabIn (n := 104) (off := 103) dX7_count_1 (by decide) (by decide) (by decide) (by decide) ?_
      refine jm_aload_n dX7_count_104 rfl rfl rfl ?_
      refine jm_geti dX7_count_105 rfl fe_X7_129 rfl rfl rfl ?_
      refine jm_iret dX7_count_108 rfl rfl ?_
      exact h _ (Or.inr (Or.inr (Or.inr (Or.inr (Or.inr (Or.inr (Or.inr (Or.inl ⟨rfl, rfl⟩))))))))
end
