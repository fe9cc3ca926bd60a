theorem jm_g {w : Cond} {i : Nat} (h : lw_tbl[i]? = some w) (hg : goodWord w = true) : w ∈ jm_gw := List.mem_filter.mpr ⟨List.mem_of_getElem? h, hg⟩
theorem jm_n {w : Cond} {i : Nat} (h : lw_tbl[i]? = some w) (hg : jm_isN w = true) : w ∈ jm_nw := List.mem_filter.mpr ⟨List.mem_of_getElem? h, hg⟩
abbrev mL_law : jm_MI := (yL_law, cL_law, 4, some .boolean)
abbrev mX0_dropFirst : jm_MI := (yX0_dropFirst, cX0_dropFirst, 1, none)
abbrev mX0_init : jm_MI := (yX0_init, cX0_init, 1, none)
abbrev mX0_join : jm_MI := (yX0_join, cX0_join, 2, none)
abbrev mX0_mixAll : jm_MI := (yX0_mixAll, cX0_mixAll, 6, some .long)
abbrev mX1_clear : jm_MI := (yX1_clear, cX1_clear, 2, none)
abbrev mX1_colourAtDepth : jm_MI := (yX1_colourAtDepth, cX1_colourAtDepth, 3, some .int)
abbrev mX1_depthOf : jm_MI := (yX1_depthOf, cX1_depthOf, 4, some .int)
abbrev mX1_init : jm_MI := (yX1_init, cX1_init, 1, none)
abbrev mX1_mixCoats : jm_MI := (yX1_mixCoats, cX1_mixCoats, 7, some .long)
abbrev mX1_paintOver : jm_MI := (yX1_paintOver, cX1_paintOver, 3, none)
abbrev mX1_takeOff : jm_MI := (yX1_takeOff, cX1_takeOff, 3, none)
abbrev mX2_announce : jm_MI := (yX2_announce, cX2_announce, 5, some .int)
abbrev mX2_bestBehind : jm_MI := (yX2_bestBehind, cX2_bestBehind, 4, some .int)
abbrev mX2_daysBetween : jm_MI := (yX2_daysBetween, cX2_daysBetween, 3, some .int)
abbrev mX2_fairOfBestRound : jm_MI := (yX2_fairOfBestRound, cX2_fairOfBestRound, 4, some .int)
abbrev mX2_gainFrom : jm_MI := (yX2_gainFrom, cX2_gainFrom, 2, some .int)
abbrev mX2_init : jm_MI := (yX2_init, cX2_init, 1, none)
abbrev mX2_isBetter : jm_MI := (yX2_isBetter, cX2_isBetter, 4, some .boolean)
abbrev mX2_isFair : jm_MI := (yX2_isFair, cX2_isFair, 2, some .boolean)
abbrev mX2_layRoad : jm_MI := (yX2_layRoad, cX2_layRoad, 4, none)
abbrev mX2_lengthFrom : jm_MI := (yX2_lengthFrom, cX2_lengthFrom, 2, some .int)
abbrev mX2_mayFollow : jm_MI := (yX2_mayFollow, cX2_mayFollow, 3, some .boolean)
abbrev mX2_mixAll : jm_MI := (yX2_mixAll, cX2_mixAll, 7, some .long)
abbrev mX2_planFrom : jm_MI := (yX2_planFrom, cX2_planFrom, 3, none)
abbrev mX2_planRounds : jm_MI := (yX2_planRounds, cX2_planRounds, 3, none)
abbrev mX3_areOwn : jm_MI := (yX3_areOwn, cX3_areOwn, 3, some .boolean)
abbrev mX3_exchange : jm_MI := (yX3_exchange, cX3_exchange, 4, none)
abbrev mX3_fewestSwaps : jm_MI := (yX3_fewestSwaps, cX3_fewestSwaps, 3, some .int)
abbrev mX3_init : jm_MI := (yX3_init, cX3_init, 2, none)
abbrev mX3_mixLegs : jm_MI := (yX3_mixLegs, cX3_mixLegs, 7, some .long)
abbrev mX3_walkCycle : jm_MI := (yX3_walkCycle, cX3_walkCycle, 5, some .int)
abbrev mX3_whereIs : jm_MI := (yX3_whereIs, cX3_whereIs, 3, some .int)
abbrev mX4_addLoad : jm_MI := (yX4_addLoad, cX4_addLoad, 3, none)
abbrev mX4_bestHorse : jm_MI := (yX4_bestHorse, cX4_bestHorse, 6, some .int)
abbrev mX4_freeHorses : jm_MI := (yX4_freeHorses, cX4_freeHorses, 1, some .int)
abbrev mX4_hasHorse : jm_MI := (yX4_hasHorse, cX4_hasHorse, 2, some .boolean)
abbrev mX4_hasRider : jm_MI := (yX4_hasRider, cX4_hasRider, 2, some .boolean)
abbrev mX4_horsesStanding : jm_MI := (yX4_horsesStanding, cX4_horsesStanding, 1, some .int)
abbrev mX4_init : jm_MI := (yX4_init, cX4_init, 1, none)
abbrev mX4_isFree : jm_MI := (yX4_isFree, cX4_isFree, 2, some .boolean)
abbrev mX4_isLawful : jm_MI := (yX4_isLawful, cX4_isLawful, 3, some .boolean)
abbrev mX4_liftOf : jm_MI := (yX4_liftOf, cX4_liftOf, 2, some .int)
abbrev mX4_mayTurn : jm_MI := (yX4_mayTurn, cX4_mayTurn, 1, some .boolean)
abbrev mX4_mayTurnWith : jm_MI := (yX4_mayTurnWith, cX4_mayTurnWith, 3, some .boolean)
abbrev mX4_numberAboveZero : jm_MI := (yX4_numberAboveZero, cX4_numberAboveZero, 6, some .int)
abbrev mX4_putHorse : jm_MI := (yX4_putHorse, cX4_putHorse, 3, none)
abbrev mX4_putRider : jm_MI := (yX4_putRider, cX4_putRider, 3, none)
abbrev mX4_ridersSitting : jm_MI := (yX4_ridersSitting, cX4_ridersSitting, 1, some .int)
abbrev mX4_shakeNow : jm_MI := (yX4_shakeNow, cX4_shakeNow, 1, some .int)
abbrev mX4_shakeWith : jm_MI := (yX4_shakeWith, cX4_shakeWith, 3, some .int)
abbrev mX4_takeAllRiders : jm_MI := (yX4_takeAllRiders, cX4_takeAllRiders, 2, none)
abbrev mX4_takeHorse : jm_MI := (yX4_takeHorse, cX4_takeHorse, 3, some .int)
abbrev mX4_takeRider : jm_MI := (yX4_takeRider, cX4_takeRider, 3, some .int)
abbrev mX5_choose : jm_MI := (yX5_choose, cX5_choose, 6, none)
abbrev mX5_init : jm_MI := (yX5_init, cX5_init, 1, none)
abbrev mX5_isTaken : jm_MI := (yX5_isTaken, cX5_isTaken, 4, some .boolean)
abbrev mX5_keepIfLess : jm_MI := (yX5_keepIfLess, cX5_keepIfLess, 2, none)
abbrev mX5_seatAll : jm_MI := (yX5_seatAll, cX5_seatAll, 3, none)
abbrev mX5_tryRiders : jm_MI := (yX5_tryRiders, cX5_tryRiders, 7, none)
abbrev mX6_best : jm_MI := (yX6_best, cX6_best, 2, some .int)
abbrev mX6_book : jm_MI := (yX6_book, cX6_book, 3, some .int)
abbrev mX6_coat : jm_MI := (yX6_coat, cX6_coat, 3, some .int)
abbrev mX6_come : jm_MI := (yX6_come, cX6_come, 2, some .int)
abbrev mX6_count : jm_MI := (yX6_count, cX6_count, 2, some .int)
abbrev mX6_digest : jm_MI := (yX6_digest, cX6_digest, 4, some .long)
abbrev mX6_earns : jm_MI := (yX6_earns, cX6_earns, 1, some .int)
abbrev mX6_fair : jm_MI := (yX6_fair, cX6_fair, 4, some .int)
abbrev mX6_find : jm_MI := (yX6_find, cX6_find, 3, some .int)
abbrev mX6_group : jm_MI := (yX6_group, cX6_group, 5, some .int)
abbrev mX6_horse : jm_MI := (yX6_horse, cX6_horse, 4, some .int)
abbrev mX6_hours : jm_MI := (yX6_hours, cX6_hours, 3, some .int)
abbrev mX6_init : jm_MI := (yX6_init, cX6_init, 1, none)
abbrev mX6_isGroup : jm_MI := (yX6_isGroup, cX6_isGroup, 4, some .boolean)
abbrev mX6_isLeg : jm_MI := (yX6_isLeg, cX6_isLeg, 1, some .boolean)
abbrev mX6_isLegOfHorse : jm_MI := (yX6_isLegOfHorse, cX6_isLegOfHorse, 3, some .boolean)
abbrev mX6_isPlace : jm_MI := (yX6_isPlace, cX6_isPlace, 1, some .boolean)
abbrev mX6_isRiderWeight : jm_MI := (yX6_isRiderWeight, cX6_isRiderWeight, 1, some .boolean)
abbrev mX6_isWithin : jm_MI := (yX6_isWithin, cX6_isWithin, 3, some .boolean)
abbrev mX6_law : jm_MI := (yX6_law, cX6_law, 3, some .int)
abbrev mX6_lawOfLift : jm_MI := (yX6_lawOfLift, cX6_lawOfLift, 3, some .int)
abbrev mX6_lawOfShaking : jm_MI := (yX6_lawOfShaking, cX6_lawOfShaking, 3, some .int)
abbrev mX6_leave : jm_MI := (yX6_leave, cX6_leave, 2, some .int)
abbrev mX6_legNumber : jm_MI := (yX6_legNumber, cX6_legNumber, 2, some .int)
abbrev mX6_look : jm_MI := (yX6_look, cX6_look, 2, some .int)
abbrev mX6_mark : jm_MI := (yX6_mark, cX6_mark, 3, some .int)
abbrev mX6_may : jm_MI := (yX6_may, cX6_may, 1, some .int)
abbrev mX6_mix : jm_MI := (yX6_mix, cX6_mix, 3, some .long)
abbrev mX6_mixPlace : jm_MI := (yX6_mixPlace, cX6_mixPlace, 6, some .long)
abbrev mX6_next : jm_MI := (yX6_next, cX6_next, 2, some .int)
abbrev mX6_rider : jm_MI := (yX6_rider, cX6_rider, 2, some .int)
abbrev mX6_rise : jm_MI := (yX6_rise, cX6_rise, 2, some .int)
abbrev mX6_rising : jm_MI := (yX6_rising, cX6_rising, 1, some .int)
abbrev mX6_road : jm_MI := (yX6_road, cX6_road, 5, some .int)
abbrev mX6_round : jm_MI := (yX6_round, cX6_round, 2, some .int)
abbrev mX6_sample : jm_MI := (yX6_sample, cX6_sample, 3, some .int)
abbrev mX6_shake : jm_MI := (yX6_shake, cX6_shake, 1, some .int)
abbrev mX6_shakeOf : jm_MI := (yX6_shakeOf, cX6_shakeOf, 2, some .int)
abbrev mX6_sit : jm_MI := (yX6_sit, cX6_sit, 3, some .int)
abbrev mX6_strip : jm_MI := (yX6_strip, cX6_strip, 4, some .int)
abbrev mX6_swap : jm_MI := (yX6_swap, cX6_swap, 5, some .int)
abbrev mX6_swaps : jm_MI := (yX6_swaps, cX6_swaps, 1, some .int)
abbrev mX6_turn : jm_MI := (yX6_turn, cX6_turn, 2, some .int)
abbrev mX7_best : jm_MI := (yX7_best, cX7_best, 2, some .int)
abbrev mX7_bestOf : jm_MI := (yX7_bestOf, cX7_bestOf, 6, some .int)
abbrev mX7_book : jm_MI := (yX7_book, cX7_book, 3, some .int)
abbrev mX7_coat : jm_MI := (yX7_coat, cX7_coat, 3, some .int)
abbrev mX7_come : jm_MI := (yX7_come, cX7_come, 2, some .int)
abbrev mX7_count : jm_MI := (yX7_count, cX7_count, 4, some .int)
abbrev mX7_digest : jm_MI := (yX7_digest, cX7_digest, 5, some .long)
abbrev mX7_earns : jm_MI := (yX7_earns, cX7_earns, 1, some .int)
abbrev mX7_fair : jm_MI := (yX7_fair, cX7_fair, 4, some .int)
abbrev mX7_find : jm_MI := (yX7_find, cX7_find, 4, some .int)
abbrev mX7_findRound : jm_MI := (yX7_findRound, cX7_findRound, 5, some .int)
abbrev mX7_group : jm_MI := (yX7_group, cX7_group, 13, some .int)
abbrev mX7_horse : jm_MI := (yX7_horse, cX7_horse, 5, some .int)
abbrev mX7_horses : jm_MI := (yX7_horses, cX7_horses, 3, some .int)
abbrev mX7_hours : jm_MI := (yX7_hours, cX7_hours, 3, some .int)
abbrev mX7_in : jm_MI := (yX7_in, cX7_in, 6, some .boolean)
abbrev mX7_init : jm_MI := (yX7_init, cX7_init, 1, none)
abbrev mX7_isBlocked : jm_MI := (yX7_isBlocked, cX7_isBlocked, 4, some .boolean)
abbrev mX7_isFair : jm_MI := (yX7_isFair, cX7_isFair, 2, some .boolean)
abbrev mX7_isFree : jm_MI := (yX7_isFree, cX7_isFree, 2, some .boolean)
abbrev mX7_isHorse : jm_MI := (yX7_isHorse, cX7_isHorse, 2, some .boolean)
abbrev mX7_isLeg : jm_MI := (yX7_isLeg, cX7_isLeg, 3, some .boolean)
abbrev mX7_isLess : jm_MI := (yX7_isLess, cX7_isLess, 2, some .boolean)
abbrev mX7_isPlace : jm_MI := (yX7_isPlace, cX7_isPlace, 1, some .boolean)
abbrev mX7_isRider : jm_MI := (yX7_isRider, cX7_isRider, 1, some .boolean)
abbrev mX7_law : jm_MI := (yX7_law, cX7_law, 4, some .int)
abbrev mX7_lay : jm_MI := (yX7_lay, cX7_lay, 4, some .boolean)
abbrev mX7_leave : jm_MI := (yX7_leave, cX7_leave, 4, some .int)
abbrev mX7_load : jm_MI := (yX7_load, cX7_load, 2, some .int)
abbrev mX7_look : jm_MI := (yX7_look, cX7_look, 2, some .int)
abbrev mX7_mark : jm_MI := (yX7_mark, cX7_mark, 3, some .int)
abbrev mX7_may : jm_MI := (yX7_may, cX7_may, 1, some .int)
abbrev mX7_mayTurn : jm_MI := (yX7_mayTurn, cX7_mayTurn, 2, some .boolean)
abbrev mX7_next : jm_MI := (yX7_next, cX7_next, 3, some .int)
abbrev mX7_put : jm_MI := (yX7_put, cX7_put, 8, none)
abbrev mX7_rider : jm_MI := (yX7_rider, cX7_rider, 2, some .int)
abbrev mX7_riders : jm_MI := (yX7_riders, cX7_riders, 3, some .int)
abbrev mX7_rise : jm_MI := (yX7_rise, cX7_rise, 3, some .int)
abbrev mX7_rising : jm_MI := (yX7_rising, cX7_rising, 1, some .int)
abbrev mX7_risingOf : jm_MI := (yX7_risingOf, cX7_risingOf, 3, some .int)
abbrev mX7_road : jm_MI := (yX7_road, cX7_road, 5, some .int)
abbrev mX7_round : jm_MI := (yX7_round, cX7_round, 3, some .int)
abbrev mX7_sample : jm_MI := (yX7_sample, cX7_sample, 3, some .int)
abbrev mX7_seat : jm_MI := (yX7_seat, cX7_seat, 3, none)
abbrev mX7_shake : jm_MI := (yX7_shake, cX7_shake, 1, some .int)
abbrev mX7_shakeOf : jm_MI := (yX7_shakeOf, cX7_shakeOf, 4, some .int)
abbrev mX7_sit : jm_MI := (yX7_sit, cX7_sit, 3, some .int)
abbrev mX7_strip : jm_MI := (yX7_strip, cX7_strip, 5, some .int)
abbrev mX7_swap : jm_MI := (yX7_swap, cX7_swap, 6, some .int)
abbrev mX7_swaps : jm_MI := (yX7_swaps, cX7_swaps, 4, some .int)
abbrev mX7_turn : jm_MI := (yX7_turn, cX7_turn, 3, some .int)
theorem ingX0 : ∀ w ∈ wsX00, w ∈ jm_gw := fun w h => List.mem_filter.mpr ⟨inX0 w h, List.all_eq_true.mp (by decide +kernel : wsX00.all goodWord = true) w h⟩
theorem ingX1 : ∀ w ∈ wsX10, w ∈ jm_gw := fun w h => List.mem_filter.mpr ⟨inX1 w h, List.all_eq_true.mp (by decide +kernel : wsX10.all goodWord = true) w h⟩
theorem ingX2 : ∀ w ∈ wsX20, w ∈ jm_gw := fun w h => List.mem_filter.mpr ⟨inX2 w h, List.all_eq_true.mp (by decide +kernel : wsX20.all goodWord = true) w h⟩
theorem ingX3 : ∀ w ∈ wsX30, w ∈ jm_gw := fun w h => List.mem_filter.mpr ⟨inX3 w h, List.all_eq_true.mp (by decide +kernel : wsX30.all goodWord = true) w h⟩
theorem ingX4 : ∀ w ∈ wsX40, w ∈ jm_gw := fun w h => List.mem_filter.mpr ⟨inX4 w h, List.all_eq_true.mp (by decide +kernel : wsX40.all goodWord = true) w h⟩
theorem ingX5 : ∀ w ∈ wsX50, w ∈ jm_gw := fun w h => List.mem_filter.mpr ⟨inX5 w h, List.all_eq_true.mp (by decide +kernel : wsX50.all goodWord = true) w h⟩
theorem ingX6 : ∀ w ∈ wsX60, w ∈ jm_gw := fun w h => List.mem_filter.mpr ⟨inX6 w h, List.all_eq_true.mp (by decide +kernel : wsX60.all goodWord = true) w h⟩
theorem ingX7 : ∀ w ∈ wsX70, w ∈ jm_gw := fun w h => List.mem_filter.mpr ⟨inX7 w h, List.all_eq_true.mp (by decide +kernel : wsX70.all goodWord = true) w h⟩
theorem fe_X0_9 : jm_FE RX0 9 0 0 := ⟨RX0, TX0, 2, rfl, by decide, ingX0, rfl, Or.inl (jm_g (i := 218) (by decide +kernel) rfl)⟩
theorem fe_X0_15 : jm_FE RX0 15 0 1 := ⟨RX0, TX0, 2, rfl, by decide, ingX0, rfl, Or.inl (jm_g (i := 220) (by decide +kernel) rfl)⟩
theorem fe_X1_9 : jm_FE RX1 9 1 0 := ⟨RX1, TX1, 2, rfl, by decide, ingX1, rfl, Or.inl (jm_g (i := 158) (by decide +kernel) rfl)⟩
theorem fe_X1_15 : jm_FE RX1 15 1 1 := ⟨RX1, TX1, 2, rfl, by decide, ingX1, rfl, Or.inl (jm_g (i := 159) (by decide +kernel) rfl)⟩
theorem fe_X2_9 : jm_FE RX2 9 2 0 := ⟨RX2, TX2, 8, rfl, by decide, ingX2, rfl, Or.inl (jm_g (i := 186) (by decide +kernel) rfl)⟩
theorem fe_X2_15 : jm_FE RX2 15 2 1 := ⟨RX2, TX2, 8, rfl, by decide, ingX2, rfl, Or.inl (jm_g (i := 187) (by decide +kernel) rfl)⟩
theorem fe_X2_18 : jm_FE RX2 18 2 2 := ⟨RX2, TX2, 8, rfl, by decide, ingX2, rfl, Or.inl (jm_g (i := 188) (by decide +kernel) rfl)⟩
theorem fe_X2_21 : jm_FE RX2 21 2 3 := ⟨RX2, TX2, 8, rfl, by decide, ingX2, rfl, Or.inl (jm_g (i := 189) (by decide +kernel) rfl)⟩
theorem fe_X2_24 : jm_FE RX2 24 2 4 := ⟨RX2, TX2, 8, rfl, by decide, ingX2, rfl, Or.inl (jm_g (i := 190) (by decide +kernel) rfl)⟩
theorem fe_X2_28 : jm_FE RX2 28 2 5 := ⟨RX2, TX2, 8, rfl, by decide, ingX2, rfl, Or.inl (jm_g (i := 192) (by decide +kernel) rfl)⟩
theorem fe_X2_31 : jm_FE RX2 31 2 6 := ⟨RX2, TX2, 8, rfl, by decide, ingX2, rfl, Or.inl (jm_g (i := 193) (by decide +kernel) rfl)⟩
theorem fe_X2_34 : jm_FE RX2 34 2 7 := ⟨RX2, TX2, 8, rfl, by decide, ingX2, rfl, Or.inl (jm_g (i := 194) (by decide +kernel) rfl)⟩
theorem fe_X3_9 : jm_FE RX3 9 3 0 := ⟨RX3, TX3, 2, rfl, by decide, ingX3, rfl, Or.inl (jm_g (i := 172) (by decide +kernel) rfl)⟩
theorem fe_X3_15 : jm_FE RX3 15 3 1 := ⟨RX3, TX3, 2, rfl, by decide, ingX3, rfl, Or.inl (jm_g (i := 174) (by decide +kernel) rfl)⟩
theorem fe_X4_9 : jm_FE RX4 9 4 0 := ⟨RX4, TX4, 8, rfl, by decide, ingX4, rfl, Or.inl (jm_g (i := 96) (by decide +kernel) rfl)⟩
theorem fe_X4_15 : jm_FE RX4 15 4 1 := ⟨RX4, TX4, 8, rfl, by decide, ingX4, rfl, Or.inl (jm_g (i := 98) (by decide +kernel) rfl)⟩
theorem fe_X4_18 : jm_FE RX4 18 4 2 := ⟨RX4, TX4, 8, rfl, by decide, ingX4, rfl, Or.inl (jm_g (i := 100) (by decide +kernel) rfl)⟩
theorem fe_X4_22 : jm_FE RX4 22 4 3 := ⟨RX4, TX4, 8, rfl, by decide, ingX4, rfl, Or.inl (jm_g (i := 102) (by decide +kernel) rfl)⟩
theorem fe_X4_25 : jm_FE RX4 25 4 4 := ⟨RX4, TX4, 8, rfl, by decide, ingX4, rfl, Or.inl (jm_g (i := 104) (by decide +kernel) rfl)⟩
theorem fe_X4_28 : jm_FE RX4 28 4 5 := ⟨RX4, TX4, 8, rfl, by decide, ingX4, rfl, Or.inl (jm_g (i := 106) (by decide +kernel) rfl)⟩
theorem fe_X4_31 : jm_FE RX4 31 4 6 := ⟨RX4, TX4, 8, rfl, by decide, ingX4, rfl, Or.inl (jm_g (i := 108) (by decide +kernel) rfl)⟩
theorem fe_X4_34 : jm_FE RX4 34 4 7 := ⟨RX4, TX4, 8, rfl, by decide, ingX4, rfl, Or.inl (jm_g (i := 110) (by decide +kernel) rfl)⟩
theorem fe_X5_9 : jm_FE RX5 9 5 0 := ⟨RX5, TX5, 5, rfl, by decide, ingX5, rfl, Or.inl (jm_g (i := 136) (by decide +kernel) rfl)⟩
theorem fe_X5_15 : jm_FE RX5 15 5 1 := ⟨RX5, TX5, 5, rfl, by decide, ingX5, rfl, Or.inl (jm_g (i := 137) (by decide +kernel) rfl)⟩
theorem fe_X5_18 : jm_FE RX5 18 5 2 := ⟨RX5, TX5, 5, rfl, by decide, ingX5, rfl, Or.inl (jm_g (i := 138) (by decide +kernel) rfl)⟩
theorem fe_X5_21 : jm_FE RX5 21 5 3 := ⟨RX5, TX5, 5, rfl, by decide, ingX5, rfl, Or.inl (jm_g (i := 139) (by decide +kernel) rfl)⟩
theorem fe_X5_25 : jm_FE RX5 25 5 4 := ⟨RX5, TX5, 5, rfl, by decide, ingX5, rfl, Or.inl (jm_g (i := 140) (by decide +kernel) rfl)⟩
theorem fe_X5_28 : jm_FE RX5 28 4 4 := ⟨RX4, TX4, 8, rfl, by decide, ingX4, rfl, Or.inr ⟨"GallopingRing", jm_n (i := 105) (by decide +kernel) rfl⟩⟩
theorem fe_X5_33 : jm_FE RX5 33 4 5 := ⟨RX4, TX4, 8, rfl, by decide, ingX4, rfl, Or.inr ⟨"GallopingRing", jm_n (i := 107) (by decide +kernel) rfl⟩⟩
theorem fe_X6_12 : jm_FE RX6 12 6 0 := ⟨RX6, TX6, 10, rfl, by decide, ingX6, rfl, Or.inl (jm_g (i := 227) (by decide +kernel) rfl)⟩
theorem fe_X6_19 : jm_FE RX6 19 6 1 := ⟨RX6, TX6, 10, rfl, by decide, ingX6, rfl, Or.inl (jm_g (i := 228) (by decide +kernel) rfl)⟩
theorem fe_X6_26 : jm_FE RX6 26 6 2 := ⟨RX6, TX6, 10, rfl, by decide, ingX6, rfl, Or.inl (jm_g (i := 229) (by decide +kernel) rfl)⟩
theorem fe_X6_33 : jm_FE RX6 33 6 3 := ⟨RX6, TX6, 10, rfl, by decide, ingX6, rfl, Or.inl (jm_g (i := 230) (by decide +kernel) rfl)⟩
theorem fe_X6_40 : jm_FE RX6 40 6 4 := ⟨RX6, TX6, 10, rfl, by decide, ingX6, rfl, Or.inl (jm_g (i := 231) (by decide +kernel) rfl)⟩
theorem fe_X6_47 : jm_FE RX6 47 6 5 := ⟨RX6, TX6, 10, rfl, by decide, ingX6, rfl, Or.inl (jm_g (i := 232) (by decide +kernel) rfl)⟩
theorem fe_X6_51 : jm_FE RX6 51 6 6 := ⟨RX6, TX6, 10, rfl, by decide, ingX6, rfl, Or.inl (jm_g (i := 233) (by decide +kernel) rfl)⟩
theorem fe_X6_55 : jm_FE RX6 55 6 7 := ⟨RX6, TX6, 10, rfl, by decide, ingX6, rfl, Or.inl (jm_g (i := 234) (by decide +kernel) rfl)⟩
theorem fe_X6_58 : jm_FE RX6 58 6 8 := ⟨RX6, TX6, 10, rfl, by decide, ingX6, rfl, Or.inl (jm_g (i := 235) (by decide +kernel) rfl)⟩
theorem fe_X6_61 : jm_FE RX6 61 6 9 := ⟨RX6, TX6, 10, rfl, by decide, ingX6, rfl, Or.inl (jm_g (i := 236) (by decide +kernel) rfl)⟩
theorem fe_X6_116 : jm_FE RX6 116 4 6 := ⟨RX4, TX4, 8, rfl, by decide, ingX4, rfl, Or.inr ⟨"GallopingRing", jm_n (i := 109) (by decide +kernel) rfl⟩⟩
theorem fe_X6_147 : jm_FE RX6 147 4 1 := ⟨RX4, TX4, 8, rfl, by decide, ingX4, rfl, Or.inr ⟨"GallopingRing", jm_n (i := 99) (by decide +kernel) rfl⟩⟩
theorem fe_X6_151 : jm_FE RX6 151 1 1 := ⟨RX1, TX1, 2, rfl, by decide, ingX1, rfl, Or.inr ⟨"GallopingRing", jm_n (i := 160) (by decide +kernel) rfl⟩⟩
theorem fe_X6_173 : jm_FE RX6 173 3 0 := ⟨RX3, TX3, 2, rfl, by decide, ingX3, rfl, Or.inr ⟨"GallopingRing", jm_n (i := 173) (by decide +kernel) rfl⟩⟩
theorem fe_X6_185 : jm_FE RX6 185 2 4 := ⟨RX2, TX2, 8, rfl, by decide, ingX2, rfl, Or.inr ⟨"GallopingRing", jm_n (i := 191) (by decide +kernel) rfl⟩⟩
theorem fe_X6_220 : jm_FE RX6 220 0 1 := ⟨RX0, TX0, 2, rfl, by decide, ingX0, rfl, Or.inr ⟨"GallopingRing", jm_n (i := 221) (by decide +kernel) rfl⟩⟩
theorem fe_X6_226 : jm_FE RX6 226 0 0 := ⟨RX0, TX0, 2, rfl, by decide, ingX0, rfl, Or.inr ⟨"GallopingRing", jm_n (i := 219) (by decide +kernel) rfl⟩⟩
theorem fe_X6_233 : jm_FE RX6 233 4 7 := ⟨RX4, TX4, 8, rfl, by decide, ingX4, rfl, Or.inr ⟨"GallopingRing", jm_n (i := 111) (by decide +kernel) rfl⟩⟩
theorem fe_X6_242 : jm_FE RX6 242 4 2 := ⟨RX4, TX4, 8, rfl, by decide, ingX4, rfl, Or.inr ⟨"GallopingRing", jm_n (i := 101) (by decide +kernel) rfl⟩⟩
theorem fe_X6_248 : jm_FE RX6 248 4 3 := ⟨RX4, TX4, 8, rfl, by decide, ingX4, rfl, Or.inr ⟨"GallopingRing", jm_n (i := 103) (by decide +kernel) rfl⟩⟩
theorem fe_X6_256 : jm_FE RX6 256 4 0 := ⟨RX4, TX4, 8, rfl, by decide, ingX4, rfl, Or.inr ⟨"GallopingRing", jm_n (i := 97) (by decide +kernel) rfl⟩⟩
theorem fe_X7_7 : jm_FE RX7 7 7 0 := ⟨RX7, TX7, 26, rfl, by decide, ingX7, rfl, Or.inl (jm_g (i := 677) (by decide +kernel) rfl)⟩
theorem fe_X7_13 : jm_FE RX7 13 7 1 := ⟨RX7, TX7, 26, rfl, by decide, ingX7, rfl, Or.inl (jm_g (i := 678) (by decide +kernel) rfl)⟩
theorem fe_X7_16 : jm_FE RX7 16 7 2 := ⟨RX7, TX7, 26, rfl, by decide, ingX7, rfl, Or.inl (jm_g (i := 679) (by decide +kernel) rfl)⟩
theorem fe_X7_19 : jm_FE RX7 19 7 3 := ⟨RX7, TX7, 26, rfl, by decide, ingX7, rfl, Or.inl (jm_g (i := 680) (by decide +kernel) rfl)⟩
theorem fe_X7_22 : jm_FE RX7 22 7 4 := ⟨RX7, TX7, 26, rfl, by decide, ingX7, rfl, Or.inl (jm_g (i := 681) (by decide +kernel) rfl)⟩
theorem fe_X7_25 : jm_FE RX7 25 7 5 := ⟨RX7, TX7, 26, rfl, by decide, ingX7, rfl, Or.inl (jm_g (i := 682) (by decide +kernel) rfl)⟩
theorem fe_X7_28 : jm_FE RX7 28 7 6 := ⟨RX7, TX7, 26, rfl, by decide, ingX7, rfl, Or.inl (jm_g (i := 683) (by decide +kernel) rfl)⟩
theorem fe_X7_31 : jm_FE RX7 31 7 10 := ⟨RX7, TX7, 26, rfl, by decide, ingX7, rfl, Or.inl (jm_g (i := 687) (by decide +kernel) rfl)⟩
theorem fe_X7_34 : jm_FE RX7 34 7 11 := ⟨RX7, TX7, 26, rfl, by decide, ingX7, rfl, Or.inl (jm_g (i := 688) (by decide +kernel) rfl)⟩
theorem fe_X7_38 : jm_FE RX7 38 7 13 := ⟨RX7, TX7, 26, rfl, by decide, ingX7, rfl, Or.inl (jm_g (i := 690) (by decide +kernel) rfl)⟩
theorem fe_X7_41 : jm_FE RX7 41 7 14 := ⟨RX7, TX7, 26, rfl, by decide, ingX7, rfl, Or.inl (jm_g (i := 691) (by decide +kernel) rfl)⟩
theorem fe_X7_44 : jm_FE RX7 44 7 15 := ⟨RX7, TX7, 26, rfl, by decide, ingX7, rfl, Or.inl (jm_g (i := 692) (by decide +kernel) rfl)⟩
theorem fe_X7_47 : jm_FE RX7 47 7 16 := ⟨RX7, TX7, 26, rfl, by decide, ingX7, rfl, Or.inl (jm_g (i := 693) (by decide +kernel) rfl)⟩
theorem fe_X7_50 : jm_FE RX7 50 7 17 := ⟨RX7, TX7, 26, rfl, by decide, ingX7, rfl, Or.inl (jm_g (i := 694) (by decide +kernel) rfl)⟩
theorem fe_X7_53 : jm_FE RX7 53 7 19 := ⟨RX7, TX7, 26, rfl, by decide, ingX7, rfl, Or.inl (jm_g (i := 696) (by decide +kernel) rfl)⟩
theorem fe_X7_56 : jm_FE RX7 56 7 25 := ⟨RX7, TX7, 26, rfl, by decide, ingX7, rfl, Or.inl (jm_g (i := 702) (by decide +kernel) rfl)⟩
theorem fe_X7_59 : jm_FE RX7 59 7 7 := ⟨RX7, TX7, 26, rfl, by decide, ingX7, rfl, Or.inl (jm_g (i := 684) (by decide +kernel) rfl)⟩
theorem fe_X7_63 : jm_FE RX7 63 7 8 := ⟨RX7, TX7, 26, rfl, by decide, ingX7, rfl, Or.inl (jm_g (i := 685) (by decide +kernel) rfl)⟩
theorem fe_X7_66 : jm_FE RX7 66 7 21 := ⟨RX7, TX7, 26, rfl, by decide, ingX7, rfl, Or.inl (jm_g (i := 698) (by decide +kernel) rfl)⟩
theorem fe_X7_129 : jm_FE RX7 129 7 9 := ⟨RX7, TX7, 26, rfl, by decide, ingX7, rfl, Or.inl (jm_g (i := 686) (by decide +kernel) rfl)⟩
theorem fe_X7_143 : jm_FE RX7 143 7 12 := ⟨RX7, TX7, 26, rfl, by decide, ingX7, rfl, Or.inl (jm_g (i := 689) (by decide +kernel) rfl)⟩
theorem fe_X7_151 : jm_FE RX7 151 7 18 := ⟨RX7, TX7, 26, rfl, by decide, ingX7, rfl, Or.inl (jm_g (i := 695) (by decide +kernel) rfl)⟩
theorem fe_X7_154 : jm_FE RX7 154 7 20 := ⟨RX7, TX7, 26, rfl, by decide, ingX7, rfl, Or.inl (jm_g (i := 697) (by decide +kernel) rfl)⟩
theorem fe_X7_166 : jm_FE RX7 166 7 22 := ⟨RX7, TX7, 26, rfl, by decide, ingX7, rfl, Or.inl (jm_g (i := 699) (by decide +kernel) rfl)⟩
theorem fe_X7_172 : jm_FE RX7 172 7 23 := ⟨RX7, TX7, 26, rfl, by decide, ingX7, rfl, Or.inl (jm_g (i := 700) (by decide +kernel) rfl)⟩
theorem fe_X7_177 : jm_FE RX7 177 7 24 := ⟨RX7, TX7, 26, rfl, by decide, ingX7, rfl, Or.inl (jm_g (i := 701) (by decide +kernel) rfl)⟩
theorem pe_X0_15 : jm_PE RX0 15 0 1 := ⟨RX0, TX0, 2, tyX0, rfl, by decide, ingX0, rfl, Or.inl (jm_g (i := 220) (by decide +kernel) rfl), tyX0_ok, nmX0, rfl, by decide +kernel⟩
theorem pe_X2_24 : jm_PE RX2 24 2 4 := ⟨RX2, TX2, 8, tyX2, rfl, by decide, ingX2, rfl, Or.inl (jm_g (i := 190) (by decide +kernel) rfl), tyX2_ok, nmX2, rfl, by decide +kernel⟩
theorem pe_X4_18 : jm_PE RX4 18 4 2 := ⟨RX4, TX4, 8, tyX4, rfl, by decide, ingX4, rfl, Or.inl (jm_g (i := 100) (by decide +kernel) rfl), tyX4_ok, nmX4, rfl, by decide +kernel⟩
theorem pe_X4_22 : jm_PE RX4 22 4 3 := ⟨RX4, TX4, 8, tyX4, rfl, by decide, ingX4, rfl, Or.inl (jm_g (i := 102) (by decide +kernel) rfl), tyX4_ok, nmX4, rfl, by decide +kernel⟩
theorem pe_X4_25 : jm_PE RX4 25 4 4 := ⟨RX4, TX4, 8, tyX4, rfl, by decide, ingX4, rfl, Or.inl (jm_g (i := 104) (by decide +kernel) rfl), tyX4_ok, nmX4, rfl, by decide +kernel⟩
theorem pe_X4_28 : jm_PE RX4 28 4 5 := ⟨RX4, TX4, 8, tyX4, rfl, by decide, ingX4, rfl, Or.inl (jm_g (i := 106) (by decide +kernel) rfl), tyX4_ok, nmX4, rfl, by decide +kernel⟩
theorem pe_X4_31 : jm_PE RX4 31 4 6 := ⟨RX4, TX4, 8, tyX4, rfl, by decide, ingX4, rfl, Or.inl (jm_g (i := 108) (by decide +kernel) rfl), tyX4_ok, nmX4, rfl, by decide +kernel⟩
theorem pe_X4_34 : jm_PE RX4 34 4 7 := ⟨RX4, TX4, 8, tyX4, rfl, by decide, ingX4, rfl, Or.inl (jm_g (i := 110) (by decide +kernel) rfl), tyX4_ok, nmX4, rfl, by decide +kernel⟩
theorem pe_X5_21 : jm_PE RX5 21 5 3 := ⟨RX5, TX5, 5, tyX5, rfl, by decide, ingX5, rfl, Or.inl (jm_g (i := 139) (by decide +kernel) rfl), tyX5_ok, nmX5, rfl, by decide +kernel⟩
theorem pe_X5_25 : jm_PE RX5 25 5 4 := ⟨RX5, TX5, 5, tyX5, rfl, by decide, ingX5, rfl, Or.inl (jm_g (i := 140) (by decide +kernel) rfl), tyX5_ok, nmX5, rfl, by decide +kernel⟩
theorem pe_X6_51 : jm_PE RX6 51 6 6 := ⟨RX6, TX6, 10, tyX6, rfl, by decide, ingX6, rfl, Or.inl (jm_g (i := 233) (by decide +kernel) rfl), tyX6_ok, nmX6, rfl, by decide +kernel⟩
theorem pe_X6_55 : jm_PE RX6 55 6 7 := ⟨RX6, TX6, 10, tyX6, rfl, by decide, ingX6, rfl, Or.inl (jm_g (i := 234) (by decide +kernel) rfl), tyX6_ok, nmX6, rfl, by decide +kernel⟩
theorem pe_X6_58 : jm_PE RX6 58 6 8 := ⟨RX6, TX6, 10, tyX6, rfl, by decide, ingX6, rfl, Or.inl (jm_g (i := 235) (by decide +kernel) rfl), tyX6_ok, nmX6, rfl, by decide +kernel⟩
theorem pe_X6_61 : jm_PE RX6 61 6 9 := ⟨RX6, TX6, 10, tyX6, rfl, by decide, ingX6, rfl, Or.inl (jm_g (i := 236) (by decide +kernel) rfl), tyX6_ok, nmX6, rfl, by decide +kernel⟩
theorem pe_X6_242 : jm_PE RX6 242 4 2 := ⟨RX4, TX4, 8, tyX4, rfl, by decide, ingX4, rfl, Or.inr ⟨"GallopingRing", jm_n (i := 101) (by decide +kernel) rfl⟩, tyX4_ok, nmX4, rfl, by decide +kernel⟩
theorem pe_X6_248 : jm_PE RX6 248 4 3 := ⟨RX4, TX4, 8, tyX4, rfl, by decide, ingX4, rfl, Or.inr ⟨"GallopingRing", jm_n (i := 103) (by decide +kernel) rfl⟩, tyX4_ok, nmX4, rfl, by decide +kernel⟩
theorem pe_X7_59 : jm_PE RX7 59 7 7 := ⟨RX7, TX7, 26, tyX7, rfl, by decide, ingX7, rfl, Or.inl (jm_g (i := 684) (by decide +kernel) rfl), tyX7_ok, nmX7, rfl, by decide +kernel⟩
theorem pe_X7_63 : jm_PE RX7 63 7 8 := ⟨RX7, TX7, 26, tyX7, rfl, by decide, ingX7, rfl, Or.inl (jm_g (i := 685) (by decide +kernel) rfl), tyX7_ok, nmX7, rfl, by decide +kernel⟩
theorem pe_X7_66 : jm_PE RX7 66 7 21 := ⟨RX7, TX7, 26, tyX7, rfl, by decide, ingX7, rfl, Or.inl (jm_g (i := 698) (by decide +kernel) rfl), tyX7_ok, nmX7, rfl, by decide +kernel⟩
theorem pe_X7_129 : jm_PE RX7 129 7 9 := ⟨RX7, TX7, 26, tyX7, rfl, by decide, ingX7, rfl, Or.inl (jm_g (i := 686) (by decide +kernel) rfl), tyX7_ok, nmX7, rfl, by decide +kernel⟩
theorem pe_X7_143 : jm_PE RX7 143 7 12 := ⟨RX7, TX7, 26, tyX7, rfl, by decide, ingX7, rfl, Or.inl (jm_g (i := 689) (by decide +kernel) rfl), tyX7_ok, nmX7, rfl, by decide +kernel⟩
theorem pe_X7_151 : jm_PE RX7 151 7 18 := ⟨RX7, TX7, 26, tyX7, rfl, by decide, ingX7, rfl, Or.inl (jm_g (i := 695) (by decide +kernel) rfl), tyX7_ok, nmX7, rfl, by decide +kernel⟩
theorem pe_X7_154 : jm_PE RX7 154 7 20 := ⟨RX7, TX7, 26, tyX7, rfl, by decide, ingX7, rfl, Or.inl (jm_g (i := 697) (by decide +kernel) rfl), tyX7_ok, nmX7, rfl, by decide +kernel⟩
theorem pe_X7_166 : jm_PE RX7 166 7 22 := ⟨RX7, TX7, 26, tyX7, rfl, by decide, ingX7, rfl, Or.inl (jm_g (i := 699) (by decide +kernel) rfl), tyX7_ok, nmX7, rfl, by decide +kernel⟩
theorem pe_X7_172 : jm_PE RX7 172 7 23 := ⟨RX7, TX7, 26, tyX7, rfl, by decide, ingX7, rfl, Or.inl (jm_g (i := 700) (by decide +kernel) rfl), tyX7_ok, nmX7, rfl, by decide +kernel⟩
theorem pe_X7_177 : jm_PE RX7 177 7 24 := ⟨RX7, TX7, 26, tyX7, rfl, by decide, ingX7, rfl, Or.inl (jm_g (i := 701) (by decide +kernel) rfl), tyX7_ok, nmX7, rfl, by decide +kernel⟩
theorem xe_X4_55 : Cond.fieldLinkNest RX4 55 RX6 "ACROSS" "[I" "GallopingRing" ∈ jm_nw := jm_n (i := 281) (by decide +kernel) rfl
theorem xe_X4_58 : Cond.fieldLinkNest RX4 58 RX6 "ALONG" "[I" "GallopingRing" ∈ jm_nw := jm_n (i := 283) (by decide +kernel) rfl
theorem xe_X5_56 : Cond.fieldLinkNest RX5 56 RX6 "ACROSS" "[I" "GallopingRing" ∈ jm_nw := jm_n (i := 443) (by decide +kernel) rfl
theorem xe_X5_59 : Cond.fieldLinkNest RX5 59 RX6 "ALONG" "[I" "GallopingRing" ∈ jm_nw := jm_n (i := 444) (by decide +kernel) rfl
theorem cb_L_13 : jm_CB RL 13 mX6_horse 3 := ⟨by decide +kernel, jm_g (i := 261) (by decide +kernel) rfl, jm_g (i := 72) (by decide +kernel) rfl, by decide +kernel, by decide, Or.inl (jm_g (i := 258) (by decide +kernel) rfl)⟩
theorem cb_L_17 : jm_CB RL 17 mX7_horse 3 := ⟨by decide +kernel, jm_g (i := 760) (by decide +kernel) rfl, jm_g (i := 79) (by decide +kernel) rfl, by decide +kernel, by decide, Or.inl (jm_g (i := 757) (by decide +kernel) rfl)⟩
theorem cb_L_18 : jm_CB RL 18 mX6_leave 1 := ⟨by decide +kernel, jm_g (i := 302) (by decide +kernel) rfl, jm_g (i := 72) (by decide +kernel) rfl, by decide +kernel, by decide, Or.inl (jm_g (i := 299) (by decide +kernel) rfl)⟩
theorem cb_L_22 : jm_CB RL 22 mX7_leave 1 := ⟨by decide +kernel, jm_g (i := 777) (by decide +kernel) rfl, jm_g (i := 79) (by decide +kernel) rfl, by decide +kernel, by decide, Or.inl (jm_g (i := 774) (by decide +kernel) rfl)⟩
theorem cb_L_23 : jm_CB RL 23 mX6_sit 2 := ⟨by decide +kernel, jm_g (i := 325) (by decide +kernel) rfl, jm_g (i := 72) (by decide +kernel) rfl, by decide +kernel, by decide, Or.inl (jm_g (i := 322) (by decide +kernel) rfl)⟩
theorem cb_L_27 : jm_CB RL 27 mX7_sit 2 := ⟨by decide +kernel, jm_g (i := 785) (by decide +kernel) rfl, jm_g (i := 79) (by decide +kernel) rfl, by decide +kernel, by decide, Or.inl (jm_g (i := 782) (by decide +kernel) rfl)⟩
theorem cb_L_28 : jm_CB RL 28 mX6_rise 1 := ⟨by decide +kernel, jm_g (i := 358) (by decide +kernel) rfl, jm_g (i := 72) (by decide +kernel) rfl, by decide +kernel, by decide, Or.inl (jm_g (i := 355) (by decide +kernel) rfl)⟩
theorem cb_L_31 : jm_CB RL 31 mX7_rise 1 := ⟨by decide +kernel, jm_g (i := 813) (by decide +kernel) rfl, jm_g (i := 79) (by decide +kernel) rfl, by decide +kernel, by decide, Or.inl (jm_g (i := 810) (by decide +kernel) rfl)⟩
theorem cb_L_32 : jm_CB RL 32 mX6_shake 0 := ⟨by decide +kernel, jm_g (i := 366) (by decide +kernel) rfl, jm_g (i := 72) (by decide +kernel) rfl, by decide +kernel, by decide, Or.inl (jm_g (i := 363) (by decide +kernel) rfl)⟩
theorem cb_L_36 : jm_CB RL 36 mX7_shake 0 := ⟨by decide +kernel, jm_g (i := 817) (by decide +kernel) rfl, jm_g (i := 79) (by decide +kernel) rfl, by decide +kernel, by decide, Or.inl (jm_g (i := 814) (by decide +kernel) rfl)⟩
theorem cb_L_37 : jm_CB RL 37 mX6_rising 0 := ⟨by decide +kernel, jm_g (i := 370) (by decide +kernel) rfl, jm_g (i := 72) (by decide +kernel) rfl, by decide +kernel, by decide, Or.inl (jm_g (i := 367) (by decide +kernel) rfl)⟩
theorem cb_L_40 : jm_CB RL 40 mX7_rising 0 := ⟨by decide +kernel, jm_g (i := 821) (by decide +kernel) rfl, jm_g (i := 79) (by decide +kernel) rfl, by decide +kernel, by decide, Or.inl (jm_g (i := 818) (by decide +kernel) rfl)⟩
theorem cb_L_41 : jm_CB RL 41 mX6_may 0 := ⟨by decide +kernel, jm_g (i := 374) (by decide +kernel) rfl, jm_g (i := 72) (by decide +kernel) rfl, by decide +kernel, by decide, Or.inl (jm_g (i := 371) (by decide +kernel) rfl)⟩
theorem cb_L_44 : jm_CB RL 44 mX7_may 0 := ⟨by decide +kernel, jm_g (i := 825) (by decide +kernel) rfl, jm_g (i := 79) (by decide +kernel) rfl, by decide +kernel, by decide, Or.inl (jm_g (i := 822) (by decide +kernel) rfl)⟩
theorem cb_L_45 : jm_CB RL 45 mX6_law 2 := ⟨by decide +kernel, jm_g (i := 383) (by decide +kernel) rfl, jm_g (i := 72) (by decide +kernel) rfl, by decide +kernel, by decide, Or.inl (jm_g (i := 380) (by decide +kernel) rfl)⟩
theorem cb_L_48 : jm_CB RL 48 mX7_law 2 := ⟨by decide +kernel, jm_g (i := 829) (by decide +kernel) rfl, jm_g (i := 79) (by decide +kernel) rfl, by decide +kernel, by decide, Or.inl (jm_g (i := 826) (by decide +kernel) rfl)⟩
theorem cb_L_49 : jm_CB RL 49 mX6_best 1 := ⟨by decide +kernel, jm_g (i := 395) (by decide +kernel) rfl, jm_g (i := 72) (by decide +kernel) rfl, by decide +kernel, by decide, Or.inl (jm_g (i := 392) (by decide +kernel) rfl)⟩
theorem cb_L_52 : jm_CB RL 52 mX7_best 1 := ⟨by decide +kernel, jm_g (i := 835) (by decide +kernel) rfl, jm_g (i := 79) (by decide +kernel) rfl, by decide +kernel, by decide, Or.inl (jm_g (i := 832) (by decide +kernel) rfl)⟩
theorem cb_L_53 : jm_CB RL 53 mX6_group 4 := ⟨by decide +kernel, jm_g (i := 410) (by decide +kernel) rfl, jm_g (i := 72) (by decide +kernel) rfl, by decide +kernel, by decide, Or.inl (jm_g (i := 407) (by decide +kernel) rfl)⟩
theorem cb_L_57 : jm_CB RL 57 mX7_group 4 := ⟨by decide +kernel, jm_g (i := 847) (by decide +kernel) rfl, jm_g (i := 79) (by decide +kernel) rfl, by decide +kernel, by decide, Or.inl (jm_g (i := 844) (by decide +kernel) rfl)⟩
theorem cb_L_58 : jm_CB RL 58 mX6_rider 1 := ⟨by decide +kernel, jm_g (i := 453) (by decide +kernel) rfl, jm_g (i := 72) (by decide +kernel) rfl, by decide +kernel, by decide, Or.inl (jm_g (i := 450) (by decide +kernel) rfl)⟩
theorem cb_L_61 : jm_CB RL 61 mX7_rider 1 := ⟨by decide +kernel, jm_g (i := 856) (by decide +kernel) rfl, jm_g (i := 79) (by decide +kernel) rfl, by decide +kernel, by decide, Or.inl (jm_g (i := 853) (by decide +kernel) rfl)⟩
theorem cb_L_62 : jm_CB RL 62 mX6_coat 2 := ⟨by decide +kernel, jm_g (i := 457) (by decide +kernel) rfl, jm_g (i := 72) (by decide +kernel) rfl, by decide +kernel, by decide, Or.inl (jm_g (i := 454) (by decide +kernel) rfl)⟩
theorem cb_L_65 : jm_CB RL 65 mX7_coat 2 := ⟨by decide +kernel, jm_g (i := 860) (by decide +kernel) rfl, jm_g (i := 79) (by decide +kernel) rfl, by decide +kernel, by decide, Or.inl (jm_g (i := 857) (by decide +kernel) rfl)⟩
theorem cb_L_66 : jm_CB RL 66 mX6_sample 2 := ⟨by decide +kernel, jm_g (i := 461) (by decide +kernel) rfl, jm_g (i := 72) (by decide +kernel) rfl, by decide +kernel, by decide, Or.inl (jm_g (i := 458) (by decide +kernel) rfl)⟩
theorem cb_L_69 : jm_CB RL 69 mX7_sample 2 := ⟨by decide +kernel, jm_g (i := 864) (by decide +kernel) rfl, jm_g (i := 79) (by decide +kernel) rfl, by decide +kernel, by decide, Or.inl (jm_g (i := 861) (by decide +kernel) rfl)⟩
theorem cb_L_70 : jm_CB RL 70 mX6_strip 2 := ⟨by decide +kernel, jm_g (i := 470) (by decide +kernel) rfl, jm_g (i := 72) (by decide +kernel) rfl, by decide +kernel, by decide, Or.inl (jm_g (i := 467) (by decide +kernel) rfl)⟩
theorem cb_L_73 : jm_CB RL 73 mX7_strip 2 := ⟨by decide +kernel, jm_g (i := 868) (by decide +kernel) rfl, jm_g (i := 79) (by decide +kernel) rfl, by decide +kernel, by decide, Or.inl (jm_g (i := 865) (by decide +kernel) rfl)⟩
theorem cb_L_74 : jm_CB RL 74 mX6_swap 4 := ⟨by decide +kernel, jm_g (i := 483) (by decide +kernel) rfl, jm_g (i := 72) (by decide +kernel) rfl, by decide +kernel, by decide, Or.inl (jm_g (i := 480) (by decide +kernel) rfl)⟩
theorem cb_L_77 : jm_CB RL 77 mX7_swap 4 := ⟨by decide +kernel, jm_g (i := 872) (by decide +kernel) rfl, jm_g (i := 79) (by decide +kernel) rfl, by decide +kernel, by decide, Or.inl (jm_g (i := 869) (by decide +kernel) rfl)⟩
theorem cb_L_78 : jm_CB RL 78 mX6_mark 2 := ⟨by decide +kernel, jm_g (i := 499) (by decide +kernel) rfl, jm_g (i := 72) (by decide +kernel) rfl, by decide +kernel, by decide, Or.inl (jm_g (i := 496) (by decide +kernel) rfl)⟩
theorem cb_L_81 : jm_CB RL 81 mX7_mark 2 := ⟨by decide +kernel, jm_g (i := 880) (by decide +kernel) rfl, jm_g (i := 79) (by decide +kernel) rfl, by decide +kernel, by decide, Or.inl (jm_g (i := 877) (by decide +kernel) rfl)⟩
theorem cb_L_82 : jm_CB RL 82 mX6_swaps 0 := ⟨by decide +kernel, jm_g (i := 503) (by decide +kernel) rfl, jm_g (i := 72) (by decide +kernel) rfl, by decide +kernel, by decide, Or.inl (jm_g (i := 500) (by decide +kernel) rfl)⟩
theorem cb_L_85 : jm_CB RL 85 mX7_swaps 0 := ⟨by decide +kernel, jm_g (i := 884) (by decide +kernel) rfl, jm_g (i := 79) (by decide +kernel) rfl, by decide +kernel, by decide, Or.inl (jm_g (i := 881) (by decide +kernel) rfl)⟩
theorem cb_L_86 : jm_CB RL 86 mX6_find 2 := ⟨by decide +kernel, jm_g (i := 517) (by decide +kernel) rfl, jm_g (i := 72) (by decide +kernel) rfl, by decide +kernel, by decide, Or.inl (jm_g (i := 514) (by decide +kernel) rfl)⟩
theorem cb_L_89 : jm_CB RL 89 mX7_find 2 := ⟨by decide +kernel, jm_g (i := 888) (by decide +kernel) rfl, jm_g (i := 79) (by decide +kernel) rfl, by decide +kernel, by decide, Or.inl (jm_g (i := 885) (by decide +kernel) rfl)⟩
theorem cb_L_90 : jm_CB RL 90 mX6_fair 3 := ⟨by decide +kernel, jm_g (i := 525) (by decide +kernel) rfl, jm_g (i := 72) (by decide +kernel) rfl, by decide +kernel, by decide, Or.inl (jm_g (i := 522) (by decide +kernel) rfl)⟩
theorem cb_L_93 : jm_CB RL 93 mX7_fair 3 := ⟨by decide +kernel, jm_g (i := 892) (by decide +kernel) rfl, jm_g (i := 79) (by decide +kernel) rfl, by decide +kernel, by decide, Or.inl (jm_g (i := 889) (by decide +kernel) rfl)⟩
theorem cb_L_94 : jm_CB RL 94 mX6_road 3 := ⟨by decide +kernel, jm_g (i := 533) (by decide +kernel) rfl, jm_g (i := 72) (by decide +kernel) rfl, by decide +kernel, by decide, Or.inl (jm_g (i := 530) (by decide +kernel) rfl)⟩
theorem cb_L_97 : jm_CB RL 97 mX7_road 3 := ⟨by decide +kernel, jm_g (i := 898) (by decide +kernel) rfl, jm_g (i := 79) (by decide +kernel) rfl, by decide +kernel, by decide, Or.inl (jm_g (i := 895) (by decide +kernel) rfl)⟩
theorem cb_L_98 : jm_CB RL 98 mX6_earns 0 := ⟨by decide +kernel, jm_g (i := 549) (by decide +kernel) rfl, jm_g (i := 72) (by decide +kernel) rfl, by decide +kernel, by decide, Or.inl (jm_g (i := 546) (by decide +kernel) rfl)⟩
theorem cb_L_101 : jm_CB RL 101 mX7_earns 0 := ⟨by decide +kernel, jm_g (i := 907) (by decide +kernel) rfl, jm_g (i := 79) (by decide +kernel) rfl, by decide +kernel, by decide, Or.inl (jm_g (i := 904) (by decide +kernel) rfl)⟩
theorem cb_L_102 : jm_CB RL 102 mX6_round 1 := ⟨by decide +kernel, jm_g (i := 585) (by decide +kernel) rfl, jm_g (i := 72) (by decide +kernel) rfl, by decide +kernel, by decide, Or.inl (jm_g (i := 582) (by decide +kernel) rfl)⟩
theorem cb_L_105 : jm_CB RL 105 mX7_round 1 := ⟨by decide +kernel, jm_g (i := 923) (by decide +kernel) rfl, jm_g (i := 79) (by decide +kernel) rfl, by decide +kernel, by decide, Or.inl (jm_g (i := 920) (by decide +kernel) rfl)⟩
theorem cb_L_106 : jm_CB RL 106 mX6_turn 0 := ⟨by decide +kernel, jm_g (i := 593) (by decide +kernel) rfl, jm_g (i := 72) (by decide +kernel) rfl, by decide +kernel, by decide, Or.inl (jm_g (i := 590) (by decide +kernel) rfl)⟩
theorem cb_L_109 : jm_CB RL 109 mX7_turn 0 := ⟨by decide +kernel, jm_g (i := 927) (by decide +kernel) rfl, jm_g (i := 79) (by decide +kernel) rfl, by decide +kernel, by decide, Or.inl (jm_g (i := 924) (by decide +kernel) rfl)⟩
theorem cb_L_110 : jm_CB RL 110 mX6_look 0 := ⟨by decide +kernel, jm_g (i := 603) (by decide +kernel) rfl, jm_g (i := 72) (by decide +kernel) rfl, by decide +kernel, by decide, Or.inl (jm_g (i := 600) (by decide +kernel) rfl)⟩
theorem cb_L_113 : jm_CB RL 113 mX7_look 0 := ⟨by decide +kernel, jm_g (i := 935) (by decide +kernel) rfl, jm_g (i := 79) (by decide +kernel) rfl, by decide +kernel, by decide, Or.inl (jm_g (i := 932) (by decide +kernel) rfl)⟩
theorem cb_L_114 : jm_CB RL 114 mX6_hours 1 := ⟨by decide +kernel, jm_g (i := 607) (by decide +kernel) rfl, jm_g (i := 72) (by decide +kernel) rfl, by decide +kernel, by decide, Or.inl (jm_g (i := 604) (by decide +kernel) rfl)⟩
theorem cb_L_117 : jm_CB RL 117 mX7_hours 1 := ⟨by decide +kernel, jm_g (i := 939) (by decide +kernel) rfl, jm_g (i := 79) (by decide +kernel) rfl, by decide +kernel, by decide, Or.inl (jm_g (i := 936) (by decide +kernel) rfl)⟩
theorem cb_L_118 : jm_CB RL 118 mX6_come 1 := ⟨by decide +kernel, jm_g (i := 611) (by decide +kernel) rfl, jm_g (i := 72) (by decide +kernel) rfl, by decide +kernel, by decide, Or.inl (jm_g (i := 608) (by decide +kernel) rfl)⟩
theorem cb_L_121 : jm_CB RL 121 mX7_come 1 := ⟨by decide +kernel, jm_g (i := 944) (by decide +kernel) rfl, jm_g (i := 79) (by decide +kernel) rfl, by decide +kernel, by decide, Or.inl (jm_g (i := 941) (by decide +kernel) rfl)⟩
theorem cb_L_122 : jm_CB RL 122 mX6_next 0 := ⟨by decide +kernel, jm_g (i := 619) (by decide +kernel) rfl, jm_g (i := 72) (by decide +kernel) rfl, by decide +kernel, by decide, Or.inl (jm_g (i := 616) (by decide +kernel) rfl)⟩
theorem cb_L_125 : jm_CB RL 125 mX7_next 0 := ⟨by decide +kernel, jm_g (i := 948) (by decide +kernel) rfl, jm_g (i := 79) (by decide +kernel) rfl, by decide +kernel, by decide, Or.inl (jm_g (i := 945) (by decide +kernel) rfl)⟩
theorem cb_L_126 : jm_CB RL 126 mX6_book 1 := ⟨by decide +kernel, jm_g (i := 628) (by decide +kernel) rfl, jm_g (i := 72) (by decide +kernel) rfl, by decide +kernel, by decide, Or.inl (jm_g (i := 625) (by decide +kernel) rfl)⟩
theorem cb_L_129 : jm_CB RL 129 mX7_book 1 := ⟨by decide +kernel, jm_g (i := 952) (by decide +kernel) rfl, jm_g (i := 79) (by decide +kernel) rfl, by decide +kernel, by decide, Or.inl (jm_g (i := 949) (by decide +kernel) rfl)⟩
theorem cb_L_130 : jm_CB RL 130 mX6_count 1 := ⟨by decide +kernel, jm_g (i := 633) (by decide +kernel) rfl, jm_g (i := 72) (by decide +kernel) rfl, by decide +kernel, by decide, Or.inl (jm_g (i := 630) (by decide +kernel) rfl)⟩
theorem cb_L_133 : jm_CB RL 133 mX7_count 1 := ⟨by decide +kernel, jm_g (i := 957) (by decide +kernel) rfl, jm_g (i := 79) (by decide +kernel) rfl, by decide +kernel, by decide, Or.inl (jm_g (i := 954) (by decide +kernel) rfl)⟩
theorem cb_L_134 : jm_CB RL 134 mX6_digest 0 := ⟨by decide +kernel, jm_g (i := 637) (by decide +kernel) rfl, jm_g (i := 72) (by decide +kernel) rfl, by decide +kernel, by decide, Or.inl (jm_g (i := 634) (by decide +kernel) rfl)⟩
theorem cb_L_138 : jm_CB RL 138 mX7_digest 0 := ⟨by decide +kernel, jm_g (i := 961) (by decide +kernel) rfl, jm_g (i := 79) (by decide +kernel) rfl, by decide +kernel, by decide, Or.inl (jm_g (i := 958) (by decide +kernel) rfl)⟩
theorem cb_X0_25 : jm_CB RX0 25 mX6_mix 2 := ⟨by decide +kernel, jm_g (i := 645) (by decide +kernel) rfl, jm_g (i := 72) (by decide +kernel) rfl, by decide +kernel, by decide, Or.inr ⟨"GallopingRing", jm_n (i := 666) (by decide +kernel) rfl⟩⟩
theorem cb_X1_18 : jm_CB RX1 18 mX6_isWithin 3 := ⟨by decide +kernel, jm_g (i := 267) (by decide +kernel) rfl, jm_g (i := 72) (by decide +kernel) rfl, by decide +kernel, by decide, Or.inr ⟨"GallopingRing", jm_n (i := 466) (by decide +kernel) rfl⟩⟩
theorem cb_X1_22 : jm_CB RX1 22 mX1_colourAtDepth 2 := ⟨by decide +kernel, jm_g (i := 465) (by decide +kernel) rfl, jm_g (i := 75) (by decide +kernel) rfl, by decide +kernel, by decide, Or.inl (jm_g (i := 475) (by decide +kernel) rfl)⟩
theorem cb_X1_26 : jm_CB RX1 26 mX6_mix 2 := ⟨by decide +kernel, jm_g (i := 645) (by decide +kernel) rfl, jm_g (i := 72) (by decide +kernel) rfl, by decide +kernel, by decide, Or.inr ⟨"GallopingRing", jm_n (i := 651) (by decide +kernel) rfl⟩⟩
theorem cb_X2_37 : jm_CB RX2 37 mX2_planFrom 1 := ⟨by decide +kernel, jm_g (i := 557) (by decide +kernel) rfl, jm_g (i := 77) (by decide +kernel) rfl, by decide +kernel, by decide, Or.inl (jm_g (i := 554) (by decide +kernel) rfl)⟩
theorem cb_X2_41 : jm_CB RX2 41 mX2_bestBehind 1 := ⟨by decide +kernel, jm_g (i := 561) (by decide +kernel) rfl, jm_g (i := 77) (by decide +kernel) rfl, by decide +kernel, by decide, Or.inl (jm_g (i := 558) (by decide +kernel) rfl)⟩
theorem cb_X2_45 : jm_CB RX2 45 mX2_gainFrom 1 := ⟨by decide +kernel, jm_g (i := 575) (by decide +kernel) rfl, jm_g (i := 77) (by decide +kernel) rfl, by decide +kernel, by decide, Or.inl (jm_g (i := 572) (by decide +kernel) rfl)⟩
theorem cb_X2_48 : jm_CB RX2 48 mX2_lengthFrom 1 := ⟨by decide +kernel, jm_g (i := 579) (by decide +kernel) rfl, jm_g (i := 77) (by decide +kernel) rfl, by decide +kernel, by decide, Or.inl (jm_g (i := 576) (by decide +kernel) rfl)⟩
theorem cb_X2_51 : jm_CB RX2 51 mX2_mayFollow 2 := ⟨by decide +kernel, jm_g (i := 565) (by decide +kernel) rfl, jm_g (i := 77) (by decide +kernel) rfl, by decide +kernel, by decide, Or.inl (jm_g (i := 562) (by decide +kernel) rfl)⟩
theorem cb_X2_55 : jm_CB RX2 55 mX2_isBetter 2 := ⟨by decide +kernel, jm_g (i := 571) (by decide +kernel) rfl, jm_g (i := 77) (by decide +kernel) rfl, by decide +kernel, by decide, Or.inl (jm_g (i := 568) (by decide +kernel) rfl)⟩
theorem cb_X2_58 : jm_CB RX2 58 mX2_isFair 1 := ⟨by decide +kernel, jm_g (i := 537) (by decide +kernel) rfl, jm_g (i := 77) (by decide +kernel) rfl, by decide +kernel, by decide, Or.inl (jm_g (i := 566) (by decide +kernel) rfl)⟩
theorem cb_X2_62 : jm_CB RX2 62 mX2_daysBetween 2 := ⟨by decide +kernel, jm_g (i := 541) (by decide +kernel) rfl, jm_g (i := 77) (by decide +kernel) rfl, by decide +kernel, by decide, Or.inl (jm_g (i := 567) (by decide +kernel) rfl)⟩
theorem cb_X2_66 : jm_CB RX2 66 mX6_mix 2 := ⟨by decide +kernel, jm_g (i := 645) (by decide +kernel) rfl, jm_g (i := 72) (by decide +kernel) rfl, by decide +kernel, by decide, Or.inr ⟨"GallopingRing", jm_n (i := 661) (by decide +kernel) rfl⟩⟩
theorem cb_X3_18 : jm_CB RX3 18 mX6_legNumber 2 := ⟨by decide +kernel, jm_g (i := 313) (by decide +kernel) rfl, jm_g (i := 72) (by decide +kernel) rfl, by decide +kernel, by decide, Or.inr ⟨"GallopingRing", jm_n (i := 311) (by decide +kernel) rfl⟩⟩
theorem cb_X3_28 : jm_CB RX3 28 mX3_walkCycle 1 := ⟨by decide +kernel, jm_g (i := 512) (by decide +kernel) rfl, jm_g (i := 76) (by decide +kernel) rfl, by decide +kernel, by decide, Or.inl (jm_g (i := 509) (by decide +kernel) rfl)⟩
theorem cb_X3_32 : jm_CB RX3 32 mX6_isWithin 3 := ⟨by decide +kernel, jm_g (i := 267) (by decide +kernel) rfl, jm_g (i := 72) (by decide +kernel) rfl, by decide +kernel, by decide, Or.inr ⟨"GallopingRing", jm_n (i := 513) (by decide +kernel) rfl⟩⟩
theorem cb_X3_36 : jm_CB RX3 36 mX6_mix 2 := ⟨by decide +kernel, jm_g (i := 645) (by decide +kernel) rfl, jm_g (i := 72) (by decide +kernel) rfl, by decide +kernel, by decide, Or.inr ⟨"GallopingRing", jm_n (i := 656) (by decide +kernel) rfl⟩⟩
theorem cb_X4_37 : jm_CB RX4 37 mX6_isPlace 1 := ⟨by decide +kernel, jm_g (i := 264) (by decide +kernel) rfl, jm_g (i := 72) (by decide +kernel) rfl, by decide +kernel, by decide, Or.inr ⟨"GallopingRing", jm_n (i := 272) (by decide +kernel) rfl⟩⟩
theorem cb_X4_41 : jm_CB RX4 41 mX4_hasHorse 1 := ⟨by decide +kernel, jm_g (i := 271) (by decide +kernel) rfl, jm_g (i := 73) (by decide +kernel) rfl, by decide +kernel, by decide, Or.inl (jm_g (i := 404) (by decide +kernel) rfl)⟩
theorem cb_X4_44 : jm_CB RX4 44 mX4_hasRider 1 := ⟨by decide +kernel, jm_g (i := 306) (by decide +kernel) rfl, jm_g (i := 73) (by decide +kernel) rfl, by decide +kernel, by decide, Or.inl (jm_g (i := 405) (by decide +kernel) rfl)⟩
theorem cb_X4_47 : jm_CB RX4 47 mX4_addLoad 2 := ⟨by decide +kernel, jm_g (i := 280) (by decide +kernel) rfl, jm_g (i := 73) (by decide +kernel) rfl, by decide +kernel, by decide, Or.inl (jm_g (i := 277) (by decide +kernel) rfl)⟩
theorem cb_X4_51 : jm_CB RX4 51 mX4_takeRider 1 := ⟨by decide +kernel, jm_g (i := 362) (by decide +kernel) rfl, jm_g (i := 73) (by decide +kernel) rfl, by decide +kernel, by decide, Or.inl (jm_g (i := 599) (by decide +kernel) rfl)⟩
theorem cb_X4_61 : jm_CB RX4 61 mX4_liftOf 2 := ⟨by decide +kernel, jm_g (i := 287) (by decide +kernel) rfl, jm_g (i := 73) (by decide +kernel) rfl, by decide +kernel, by decide, Or.inl (jm_g (i := 285) (by decide +kernel) rfl)⟩
theorem cb_X4_65 : jm_CB RX4 65 mX6_shakeOf 2 := ⟨by decide +kernel, jm_g (i := 339) (by decide +kernel) rfl, jm_g (i := 72) (by decide +kernel) rfl, by decide +kernel, by decide, Or.inr ⟨"GallopingRing", jm_n (i := 337) (by decide +kernel) rfl⟩⟩
theorem cb_X4_68 : jm_CB RX4 68 mX4_shakeNow 0 := ⟨by decide +kernel, jm_g (i := 354) (by decide +kernel) rfl, jm_g (i := 73) (by decide +kernel) rfl, by decide +kernel, by decide, Or.inl (jm_g (i := 379) (by decide +kernel) rfl)⟩
theorem cb_X4_72 : jm_CB RX4 72 mX4_isLawful 2 := ⟨by decide +kernel, jm_g (i := 343) (by decide +kernel) rfl, jm_g (i := 73) (by decide +kernel) rfl, by decide +kernel, by decide, Or.inl (jm_g (i := 340) (by decide +kernel) rfl)⟩
theorem cb_X4_76 : jm_CB RX4 76 mX4_shakeWith 2 := ⟨by decide +kernel, jm_g (i := 336) (by decide +kernel) rfl, jm_g (i := 73) (by decide +kernel) rfl, by decide +kernel, by decide, Or.inl (jm_g (i := 333) (by decide +kernel) rfl)⟩
theorem cb_X4_84 : jm_CB RX4 84 mX4_isFree 1 := ⟨by decide +kernel, jm_g (i := 403) (by decide +kernel) rfl, jm_g (i := 73) (by decide +kernel) rfl, by decide +kernel, by decide, Or.inl (jm_g (i := 400) (by decide +kernel) rfl)⟩
theorem cb_X4_87 : jm_CB RX4 87 mX4_mayTurnWith 2 := ⟨by decide +kernel, jm_g (i := 332) (by decide +kernel) rfl, jm_g (i := 73) (by decide +kernel) rfl, by decide +kernel, by decide, Or.inl (jm_g (i := 406) (by decide +kernel) rfl)⟩
theorem cb_X4_90 : jm_CB RX4 90 mX4_numberAboveZero 1 := ⟨by decide +kernel, jm_g (i := 298) (by decide +kernel) rfl, jm_g (i := 73) (by decide +kernel) rfl, by decide +kernel, by decide, Or.inl (jm_g (i := 296) (by decide +kernel) rfl)⟩
theorem cb_X4_94 : jm_CB RX4 94 mX4_horsesStanding 0 := ⟨by decide +kernel, jm_g (i := 295) (by decide +kernel) rfl, jm_g (i := 73) (by decide +kernel) rfl, by decide +kernel, by decide, Or.inl (jm_g (i := 418) (by decide +kernel) rfl)⟩
theorem cb_X4_97 : jm_CB RX4 97 mX4_ridersSitting 0 := ⟨by decide +kernel, jm_g (i := 422) (by decide +kernel) rfl, jm_g (i := 73) (by decide +kernel) rfl, by decide +kernel, by decide, Or.inl (jm_g (i := 419) (by decide +kernel) rfl)⟩
theorem cb_X5_36 : jm_CB RX5 36 mX5_tryRiders 5 := ⟨by decide +kernel, jm_g (i := 429) (by decide +kernel) rfl, jm_g (i := 74) (by decide +kernel) rfl, by decide +kernel, by decide, Or.inl (jm_g (i := 427) (by decide +kernel) rfl)⟩
theorem cb_X5_40 : jm_CB RX5 40 mX6_shakeOf 2 := ⟨by decide +kernel, jm_g (i := 339) (by decide +kernel) rfl, jm_g (i := 72) (by decide +kernel) rfl, by decide +kernel, by decide, Or.inr ⟨"GallopingRing", jm_n (i := 430) (by decide +kernel) rfl⟩⟩
theorem cb_X5_44 : jm_CB RX5 44 mX5_keepIfLess 1 := ⟨by decide +kernel, jm_g (i := 434) (by decide +kernel) rfl, jm_g (i := 74) (by decide +kernel) rfl, by decide +kernel, by decide, Or.inl (jm_g (i := 431) (by decide +kernel) rfl)⟩
theorem cb_X5_48 : jm_CB RX5 48 mX4_isFree 1 := ⟨by decide +kernel, jm_g (i := 403) (by decide +kernel) rfl, jm_g (i := 73) (by decide +kernel) rfl, by decide +kernel, by decide, Or.inr ⟨"GallopingRing", jm_n (i := 438) (by decide +kernel) rfl⟩⟩
theorem cb_X5_52 : jm_CB RX5 52 mX5_isTaken 2 := ⟨by decide +kernel, jm_g (i := 442) (by decide +kernel) rfl, jm_g (i := 74) (by decide +kernel) rfl, by decide +kernel, by decide, Or.inl (jm_g (i := 439) (by decide +kernel) rfl)⟩
theorem cb_X5_68 : jm_CB RX5 68 mX4_putRider 2 := ⟨by decide +kernel, jm_g (i := 350) (by decide +kernel) rfl, jm_g (i := 73) (by decide +kernel) rfl, by decide +kernel, by decide, Or.inr ⟨"GallopingRing", jm_n (i := 449) (by decide +kernel) rfl⟩⟩
theorem cb_X6_64 : jm_CB RX6 64 mX6_isPlace 1 := ⟨by decide +kernel, jm_g (i := 264) (by decide +kernel) rfl, jm_g (i := 72) (by decide +kernel) rfl, by decide +kernel, by decide, Or.inl (jm_g (i := 262) (by decide +kernel) rfl)⟩
theorem cb_X6_68 : jm_CB RX6 68 mX6_isWithin 3 := ⟨by decide +kernel, jm_g (i := 267) (by decide +kernel) rfl, jm_g (i := 72) (by decide +kernel) rfl, by decide +kernel, by decide, Or.inl (jm_g (i := 265) (by decide +kernel) rfl)⟩
theorem cb_X6_72 : jm_CB RX6 72 mX4_hasHorse 1 := ⟨by decide +kernel, jm_g (i := 271) (by decide +kernel) rfl, jm_g (i := 73) (by decide +kernel) rfl, by decide +kernel, by decide, Or.inr ⟨"GallopingRing", jm_n (i := 268) (by decide +kernel) rfl⟩⟩
theorem cb_X6_75 : jm_CB RX6 75 mX4_putHorse 2 := ⟨by decide +kernel, jm_g (i := 276) (by decide +kernel) rfl, jm_g (i := 73) (by decide +kernel) rfl, by decide +kernel, by decide, Or.inr ⟨"GallopingRing", jm_n (i := 273) (by decide +kernel) rfl⟩⟩
theorem cb_X6_79 : jm_CB RX6 79 mX1_paintOver 2 := ⟨by decide +kernel, jm_g (i := 291) (by decide +kernel) rfl, jm_g (i := 75) (by decide +kernel) rfl, by decide +kernel, by decide, Or.inr ⟨"GallopingRing", jm_n (i := 288) (by decide +kernel) rfl⟩⟩
theorem cb_X6_82 : jm_CB RX6 82 mX4_horsesStanding 0 := ⟨by decide +kernel, jm_g (i := 295) (by decide +kernel) rfl, jm_g (i := 73) (by decide +kernel) rfl, by decide +kernel, by decide, Or.inr ⟨"GallopingRing", jm_n (i := 292) (by decide +kernel) rfl⟩⟩
theorem cb_X6_86 : jm_CB RX6 86 mX4_hasRider 1 := ⟨by decide +kernel, jm_g (i := 306) (by decide +kernel) rfl, jm_g (i := 73) (by decide +kernel) rfl, by decide +kernel, by decide, Or.inr ⟨"GallopingRing", jm_n (i := 303) (by decide +kernel) rfl⟩⟩
theorem cb_X6_89 : jm_CB RX6 89 mX3_areOwn 1 := ⟨by decide +kernel, jm_g (i := 310) (by decide +kernel) rfl, jm_g (i := 76) (by decide +kernel) rfl, by decide +kernel, by decide, Or.inr ⟨"GallopingRing", jm_n (i := 307) (by decide +kernel) rfl⟩⟩
theorem cb_X6_92 : jm_CB RX6 92 mX1_clear 1 := ⟨by decide +kernel, jm_g (i := 317) (by decide +kernel) rfl, jm_g (i := 75) (by decide +kernel) rfl, by decide +kernel, by decide, Or.inr ⟨"GallopingRing", jm_n (i := 314) (by decide +kernel) rfl⟩⟩
theorem cb_X6_96 : jm_CB RX6 96 mX4_takeHorse 1 := ⟨by decide +kernel, jm_g (i := 321) (by decide +kernel) rfl, jm_g (i := 73) (by decide +kernel) rfl, by decide +kernel, by decide, Or.inr ⟨"GallopingRing", jm_n (i := 318) (by decide +kernel) rfl⟩⟩
theorem cb_X6_100 : jm_CB RX6 100 mX6_isRiderWeight 1 := ⟨by decide +kernel, jm_g (i := 328) (by decide +kernel) rfl, jm_g (i := 72) (by decide +kernel) rfl, by decide +kernel, by decide, Or.inl (jm_g (i := 326) (by decide +kernel) rfl)⟩
theorem cb_X6_103 : jm_CB RX6 103 mX4_mayTurnWith 2 := ⟨by decide +kernel, jm_g (i := 332) (by decide +kernel) rfl, jm_g (i := 73) (by decide +kernel) rfl, by decide +kernel, by decide, Or.inr ⟨"GallopingRing", jm_n (i := 329) (by decide +kernel) rfl⟩⟩
theorem cb_X6_107 : jm_CB RX6 107 mX4_putRider 2 := ⟨by decide +kernel, jm_g (i := 350) (by decide +kernel) rfl, jm_g (i := 73) (by decide +kernel) rfl, by decide +kernel, by decide, Or.inr ⟨"GallopingRing", jm_n (i := 347) (by decide +kernel) rfl⟩⟩
theorem cb_X6_110 : jm_CB RX6 110 mX4_shakeNow 0 := ⟨by decide +kernel, jm_g (i := 354) (by decide +kernel) rfl, jm_g (i := 73) (by decide +kernel) rfl, by decide +kernel, by decide, Or.inr ⟨"GallopingRing", jm_n (i := 351) (by decide +kernel) rfl⟩⟩
theorem cb_X6_113 : jm_CB RX6 113 mX4_takeRider 1 := ⟨by decide +kernel, jm_g (i := 362) (by decide +kernel) rfl, jm_g (i := 73) (by decide +kernel) rfl, by decide +kernel, by decide, Or.inr ⟨"GallopingRing", jm_n (i := 359) (by decide +kernel) rfl⟩⟩
theorem cb_X6_119 : jm_CB RX6 119 mX4_mayTurn 0 := ⟨by decide +kernel, jm_g (i := 378) (by decide +kernel) rfl, jm_g (i := 73) (by decide +kernel) rfl, by decide +kernel, by decide, Or.inr ⟨"GallopingRing", jm_n (i := 375) (by decide +kernel) rfl⟩⟩
theorem cb_X6_123 : jm_CB RX6 123 mX6_lawOfShaking 1 := ⟨by decide +kernel, jm_g (i := 387) (by decide +kernel) rfl, jm_g (i := 72) (by decide +kernel) rfl, by decide +kernel, by decide, Or.inl (jm_g (i := 384) (by decide +kernel) rfl)⟩
theorem cb_X6_126 : jm_CB RX6 126 mX6_lawOfLift 1 := ⟨by decide +kernel, jm_g (i := 391) (by decide +kernel) rfl, jm_g (i := 72) (by decide +kernel) rfl, by decide +kernel, by decide, Or.inl (jm_g (i := 388) (by decide +kernel) rfl)⟩
theorem cb_X6_129 : jm_CB RX6 129 mX4_bestHorse 1 := ⟨by decide +kernel, jm_g (i := 399) (by decide +kernel) rfl, jm_g (i := 73) (by decide +kernel) rfl, by decide +kernel, by decide, Or.inr ⟨"GallopingRing", jm_n (i := 396) (by decide +kernel) rfl⟩⟩
theorem cb_X6_132 : jm_CB RX6 132 mX6_isGroup 4 := ⟨by decide +kernel, jm_g (i := 413) (by decide +kernel) rfl, jm_g (i := 72) (by decide +kernel) rfl, by decide +kernel, by decide, Or.inl (jm_g (i := 411) (by decide +kernel) rfl)⟩
theorem cb_X6_136 : jm_CB RX6 136 mX4_freeHorses 0 := ⟨by decide +kernel, jm_g (i := 417) (by decide +kernel) rfl, jm_g (i := 73) (by decide +kernel) rfl, by decide +kernel, by decide, Or.inr ⟨"GallopingRing", jm_n (i := 414) (by decide +kernel) rfl⟩⟩
theorem cb_X6_139 : jm_CB RX6 139 mX5_choose 5 := ⟨by decide +kernel, jm_g (i := 426) (by decide +kernel) rfl, jm_g (i := 74) (by decide +kernel) rfl, by decide +kernel, by decide, Or.inr ⟨"GallopingRing", jm_n (i := 423) (by decide +kernel) rfl⟩⟩
theorem cb_X6_143 : jm_CB RX6 143 mX5_seatAll 1 := ⟨by decide +kernel, jm_g (i := 448) (by decide +kernel) rfl, jm_g (i := 74) (by decide +kernel) rfl, by decide +kernel, by decide, Or.inr ⟨"GallopingRing", jm_n (i := 445) (by decide +kernel) rfl⟩⟩
theorem cb_X6_154 : jm_CB RX6 154 mX1_colourAtDepth 2 := ⟨by decide +kernel, jm_g (i := 465) (by decide +kernel) rfl, jm_g (i := 75) (by decide +kernel) rfl, by decide +kernel, by decide, Or.inr ⟨"GallopingRing", jm_n (i := 462) (by decide +kernel) rfl⟩⟩
theorem cb_X6_158 : jm_CB RX6 158 mX1_depthOf 2 := ⟨by decide +kernel, jm_g (i := 474) (by decide +kernel) rfl, jm_g (i := 75) (by decide +kernel) rfl, by decide +kernel, by decide, Or.inr ⟨"GallopingRing", jm_n (i := 471) (by decide +kernel) rfl⟩⟩
theorem cb_X6_161 : jm_CB RX6 161 mX1_takeOff 2 := ⟨by decide +kernel, jm_g (i := 479) (by decide +kernel) rfl, jm_g (i := 75) (by decide +kernel) rfl, by decide +kernel, by decide, Or.inr ⟨"GallopingRing", jm_n (i := 476) (by decide +kernel) rfl⟩⟩
theorem cb_X6_164 : jm_CB RX6 164 mX6_isLegOfHorse 2 := ⟨by decide +kernel, jm_g (i := 487) (by decide +kernel) rfl, jm_g (i := 72) (by decide +kernel) rfl, by decide +kernel, by decide, Or.inl (jm_g (i := 484) (by decide +kernel) rfl)⟩
theorem cb_X6_167 : jm_CB RX6 167 mX6_legNumber 2 := ⟨by decide +kernel, jm_g (i := 313) (by decide +kernel) rfl, jm_g (i := 72) (by decide +kernel) rfl, by decide +kernel, by decide, Or.inl (jm_g (i := 491) (by decide +kernel) rfl)⟩
theorem cb_X6_170 : jm_CB RX6 170 mX3_exchange 2 := ⟨by decide +kernel, jm_g (i := 495) (by decide +kernel) rfl, jm_g (i := 76) (by decide +kernel) rfl, by decide +kernel, by decide, Or.inr ⟨"GallopingRing", jm_n (i := 492) (by decide +kernel) rfl⟩⟩
theorem cb_X6_176 : jm_CB RX6 176 mX3_fewestSwaps 0 := ⟨by decide +kernel, jm_g (i := 507) (by decide +kernel) rfl, jm_g (i := 76) (by decide +kernel) rfl, by decide +kernel, by decide, Or.inr ⟨"GallopingRing", jm_n (i := 504) (by decide +kernel) rfl⟩⟩
theorem cb_X6_179 : jm_CB RX6 179 mX6_isLeg 1 := ⟨by decide +kernel, jm_g (i := 490) (by decide +kernel) rfl, jm_g (i := 72) (by decide +kernel) rfl, by decide +kernel, by decide, Or.inl (jm_g (i := 488) (by decide +kernel) rfl)⟩
theorem cb_X6_182 : jm_CB RX6 182 mX3_whereIs 1 := ⟨by decide +kernel, jm_g (i := 521) (by decide +kernel) rfl, jm_g (i := 76) (by decide +kernel) rfl, by decide +kernel, by decide, Or.inr ⟨"GallopingRing", jm_n (i := 518) (by decide +kernel) rfl⟩⟩
theorem cb_X6_188 : jm_CB RX6 188 mX2_announce 3 := ⟨by decide +kernel, jm_g (i := 529) (by decide +kernel) rfl, jm_g (i := 77) (by decide +kernel) rfl, by decide +kernel, by decide, Or.inr ⟨"GallopingRing", jm_n (i := 526) (by decide +kernel) rfl⟩⟩
theorem cb_X6_192 : jm_CB RX6 192 mX2_isFair 1 := ⟨by decide +kernel, jm_g (i := 537) (by decide +kernel) rfl, jm_g (i := 77) (by decide +kernel) rfl, by decide +kernel, by decide, Or.inr ⟨"GallopingRing", jm_n (i := 534) (by decide +kernel) rfl⟩⟩
theorem cb_X6_195 : jm_CB RX6 195 mX2_daysBetween 2 := ⟨by decide +kernel, jm_g (i := 541) (by decide +kernel) rfl, jm_g (i := 77) (by decide +kernel) rfl, by decide +kernel, by decide, Or.inr ⟨"GallopingRing", jm_n (i := 538) (by decide +kernel) rfl⟩⟩
theorem cb_X6_198 : jm_CB RX6 198 mX2_layRoad 3 := ⟨by decide +kernel, jm_g (i := 545) (by decide +kernel) rfl, jm_g (i := 77) (by decide +kernel) rfl, by decide +kernel, by decide, Or.inr ⟨"GallopingRing", jm_n (i := 542) (by decide +kernel) rfl⟩⟩
theorem cb_X6_202 : jm_CB RX6 202 mX2_planRounds 0 := ⟨by decide +kernel, jm_g (i := 553) (by decide +kernel) rfl, jm_g (i := 77) (by decide +kernel) rfl, by decide +kernel, by decide, Or.inr ⟨"GallopingRing", jm_n (i := 550) (by decide +kernel) rfl⟩⟩
theorem cb_X6_205 : jm_CB RX6 205 mX2_bestBehind 1 := ⟨by decide +kernel, jm_g (i := 561) (by decide +kernel) rfl, jm_g (i := 77) (by decide +kernel) rfl, by decide +kernel, by decide, Or.inr ⟨"GallopingRing", jm_n (i := 580) (by decide +kernel) rfl⟩⟩
theorem cb_X6_208 : jm_CB RX6 208 mX2_gainFrom 1 := ⟨by decide +kernel, jm_g (i := 575) (by decide +kernel) rfl, jm_g (i := 77) (by decide +kernel) rfl, by decide +kernel, by decide, Or.inr ⟨"GallopingRing", jm_n (i := 581) (by decide +kernel) rfl⟩⟩
theorem cb_X6_211 : jm_CB RX6 211 mX2_fairOfBestRound 1 := ⟨by decide +kernel, jm_g (i := 589) (by decide +kernel) rfl, jm_g (i := 77) (by decide +kernel) rfl, by decide +kernel, by decide, Or.inr ⟨"GallopingRing", jm_n (i := 586) (by decide +kernel) rfl⟩⟩
theorem cb_X6_214 : jm_CB RX6 214 mX4_ridersSitting 0 := ⟨by decide +kernel, jm_g (i := 422) (by decide +kernel) rfl, jm_g (i := 73) (by decide +kernel) rfl, by decide +kernel, by decide, Or.inr ⟨"GallopingRing", jm_n (i := 594) (by decide +kernel) rfl⟩⟩
theorem cb_X6_217 : jm_CB RX6 217 mX4_takeAllRiders 0 := ⟨by decide +kernel, jm_g (i := 598) (by decide +kernel) rfl, jm_g (i := 73) (by decide +kernel) rfl, by decide +kernel, by decide, Or.inr ⟨"GallopingRing", jm_n (i := 595) (by decide +kernel) rfl⟩⟩
theorem cb_X6_223 : jm_CB RX6 223 mX0_join 1 := ⟨by decide +kernel, jm_g (i := 615) (by decide +kernel) rfl, jm_g (i := 78) (by decide +kernel) rfl, by decide +kernel, by decide, Or.inr ⟨"GallopingRing", jm_n (i := 612) (by decide +kernel) rfl⟩⟩
theorem cb_X6_229 : jm_CB RX6 229 mX0_dropFirst 0 := ⟨by decide +kernel, jm_g (i := 623) (by decide +kernel) rfl, jm_g (i := 78) (by decide +kernel) rfl, by decide +kernel, by decide, Or.inr ⟨"GallopingRing", jm_n (i := 620) (by decide +kernel) rfl⟩⟩
theorem cb_X6_238 : jm_CB RX6 238 mX6_mixPlace 2 := ⟨by decide +kernel, jm_g (i := 642) (by decide +kernel) rfl, jm_g (i := 72) (by decide +kernel) rfl, by decide +kernel, by decide, Or.inl (jm_g (i := 639) (by decide +kernel) rfl)⟩
theorem cb_X6_245 : jm_CB RX6 245 mX6_mix 2 := ⟨by decide +kernel, jm_g (i := 645) (by decide +kernel) rfl, jm_g (i := 72) (by decide +kernel) rfl, by decide +kernel, by decide, Or.inl (jm_g (i := 643) (by decide +kernel) rfl)⟩
theorem cb_X6_251 : jm_CB RX6 251 mX2_mixAll 1 := ⟨by decide +kernel, jm_g (i := 660) (by decide +kernel) rfl, jm_g (i := 77) (by decide +kernel) rfl, by decide +kernel, by decide, Or.inr ⟨"GallopingRing", jm_n (i := 657) (by decide +kernel) rfl⟩⟩
theorem cb_X6_255 : jm_CB RX6 255 mX0_mixAll 1 := ⟨by decide +kernel, jm_g (i := 665) (by decide +kernel) rfl, jm_g (i := 78) (by decide +kernel) rfl, by decide +kernel, by decide, Or.inr ⟨"GallopingRing", jm_n (i := 662) (by decide +kernel) rfl⟩⟩
theorem cb_X6_259 : jm_CB RX6 259 mX1_mixCoats 2 := ⟨by decide +kernel, jm_g (i := 650) (by decide +kernel) rfl, jm_g (i := 75) (by decide +kernel) rfl, by decide +kernel, by decide, Or.inr ⟨"GallopingRing", jm_n (i := 647) (by decide +kernel) rfl⟩⟩
theorem cb_X6_262 : jm_CB RX6 262 mX3_mixLegs 2 := ⟨by decide +kernel, jm_g (i := 655) (by decide +kernel) rfl, jm_g (i := 76) (by decide +kernel) rfl, by decide +kernel, by decide, Or.inr ⟨"GallopingRing", jm_n (i := 652) (by decide +kernel) rfl⟩⟩
theorem cb_X7_69 : jm_CB RX7 69 mX7_put 3 := ⟨by decide +kernel, jm_g (i := 676) (by decide +kernel) rfl, jm_g (i := 79) (by decide +kernel) rfl, by decide +kernel, by decide, Or.inl (jm_g (i := 673) (by decide +kernel) rfl)⟩
theorem cb_X7_75 : jm_CB RX7 75 mX7_in 3 := ⟨by decide +kernel, jm_g (i := 767) (by decide +kernel) rfl, jm_g (i := 79) (by decide +kernel) rfl, by decide +kernel, by decide, Or.inl (jm_g (i := 765) (by decide +kernel) rfl)⟩
theorem cb_X7_79 : jm_CB RX7 79 mX7_isPlace 1 := ⟨by decide +kernel, jm_g (i := 763) (by decide +kernel) rfl, jm_g (i := 79) (by decide +kernel) rfl, by decide +kernel, by decide, Or.inl (jm_g (i := 761) (by decide +kernel) rfl)⟩
theorem cb_X7_87 : jm_CB RX7 87 mX7_horses 0 := ⟨by decide +kernel, jm_g (i := 773) (by decide +kernel) rfl, jm_g (i := 79) (by decide +kernel) rfl, by decide +kernel, by decide, Or.inl (jm_g (i := 770) (by decide +kernel) rfl)⟩
theorem cb_X7_91 : jm_CB RX7 91 mX7_isHorse 1 := ⟨by decide +kernel, jm_g (i := 781) (by decide +kernel) rfl, jm_g (i := 79) (by decide +kernel) rfl, by decide +kernel, by decide, Or.inl (jm_g (i := 778) (by decide +kernel) rfl)⟩
theorem cb_X7_94 : jm_CB RX7 94 mX7_load 1 := ⟨by decide +kernel, jm_g (i := 805) (by decide +kernel) rfl, jm_g (i := 79) (by decide +kernel) rfl, by decide +kernel, by decide, Or.inl (jm_g (i := 802) (by decide +kernel) rfl)⟩
theorem cb_X7_98 : jm_CB RX7 98 mX7_risingOf 0 := ⟨by decide +kernel, jm_g (i := 801) (by decide +kernel) rfl, jm_g (i := 79) (by decide +kernel) rfl, by decide +kernel, by decide, Or.inl (jm_g (i := 798) (by decide +kernel) rfl)⟩
theorem cb_X7_101 : jm_CB RX7 101 mX7_shakeOf 0 := ⟨by decide +kernel, jm_g (i := 809) (by decide +kernel) rfl, jm_g (i := 79) (by decide +kernel) rfl, by decide +kernel, by decide, Or.inl (jm_g (i := 806) (by decide +kernel) rfl)⟩
theorem cb_X7_104 : jm_CB RX7 104 mX7_mayTurn 0 := ⟨by decide +kernel, jm_g (i := 797) (by decide +kernel) rfl, jm_g (i := 79) (by decide +kernel) rfl, by decide +kernel, by decide, Or.inl (jm_g (i := 794) (by decide +kernel) rfl)⟩
theorem cb_X7_110 : jm_CB RX7 110 mX7_isRider 1 := ⟨by decide +kernel, jm_g (i := 788) (by decide +kernel) rfl, jm_g (i := 79) (by decide +kernel) rfl, by decide +kernel, by decide, Or.inl (jm_g (i := 786) (by decide +kernel) rfl)⟩
theorem cb_X7_113 : jm_CB RX7 113 mX7_isBlocked 2 := ⟨by decide +kernel, jm_g (i := 793) (by decide +kernel) rfl, jm_g (i := 79) (by decide +kernel) rfl, by decide +kernel, by decide, Or.inl (jm_g (i := 790) (by decide +kernel) rfl)⟩
theorem cb_X7_121 : jm_CB RX7 121 mX7_isFree 1 := ⟨by decide +kernel, jm_g (i := 843) (by decide +kernel) rfl, jm_g (i := 79) (by decide +kernel) rfl, by decide +kernel, by decide, Or.inl (jm_g (i := 840) (by decide +kernel) rfl)⟩
theorem cb_X7_124 : jm_CB RX7 124 mX7_bestOf 1 := ⟨by decide +kernel, jm_g (i := 839) (by decide +kernel) rfl, jm_g (i := 79) (by decide +kernel) rfl, by decide +kernel, by decide, Or.inl (jm_g (i := 836) (by decide +kernel) rfl)⟩
theorem cb_X7_132 : jm_CB RX7 132 mX7_seat 2 := ⟨by decide +kernel, jm_g (i := 852) (by decide +kernel) rfl, jm_g (i := 79) (by decide +kernel) rfl, by decide +kernel, by decide, Or.inl (jm_g (i := 849) (by decide +kernel) rfl)⟩
theorem cb_X7_136 : jm_CB RX7 136 mX7_isLeg 2 := ⟨by decide +kernel, jm_g (i := 876) (by decide +kernel) rfl, jm_g (i := 79) (by decide +kernel) rfl, by decide +kernel, by decide, Or.inl (jm_g (i := 873) (by decide +kernel) rfl)⟩
theorem cb_X7_146 : jm_CB RX7 146 mX7_isFair 1 := ⟨by decide +kernel, jm_g (i := 902) (by decide +kernel) rfl, jm_g (i := 79) (by decide +kernel) rfl, by decide +kernel, by decide, Or.inl (jm_g (i := 899) (by decide +kernel) rfl)⟩
theorem cb_X7_157 : jm_CB RX7 157 mX7_lay 1 := ⟨by decide +kernel, jm_g (i := 915) (by decide +kernel) rfl, jm_g (i := 79) (by decide +kernel) rfl, by decide +kernel, by decide, Or.inl (jm_g (i := 912) (by decide +kernel) rfl)⟩
theorem cb_X7_160 : jm_CB RX7 160 mX7_isLess 0 := ⟨by decide +kernel, jm_g (i := 919) (by decide +kernel) rfl, jm_g (i := 79) (by decide +kernel) rfl, by decide +kernel, by decide, Or.inl (jm_g (i := 916) (by decide +kernel) rfl)⟩
theorem cb_X7_163 : jm_CB RX7 163 mX7_findRound 0 := ⟨by decide +kernel, jm_g (i := 911) (by decide +kernel) rfl, jm_g (i := 79) (by decide +kernel) rfl, by decide +kernel, by decide, Or.inl (jm_g (i := 908) (by decide +kernel) rfl)⟩
theorem cb_X7_169 : jm_CB RX7 169 mX7_riders 0 := ⟨by decide +kernel, jm_g (i := 931) (by decide +kernel) rfl, jm_g (i := 79) (by decide +kernel) rfl, by decide +kernel, by decide, Or.inl (jm_g (i := 928) (by decide +kernel) rfl)⟩
theorem cs_X4_liftOf : Cond.static yX4_liftOf ∈ jm_gw := jm_g (i := 286) (by decide +kernel) rfl
theorem cs_X4_numberAboveZero : Cond.static yX4_numberAboveZero ∈ jm_gw := jm_g (i := 297) (by decide +kernel) rfl
theorem cs_X5_tryRiders : Cond.static yX5_tryRiders ∈ jm_gw := jm_g (i := 428) (by decide +kernel) rfl
theorem cs_X6_isGroup : Cond.static yX6_isGroup ∈ jm_gw := jm_g (i := 412) (by decide +kernel) rfl
theorem cs_X6_isLeg : Cond.static yX6_isLeg ∈ jm_gw := jm_g (i := 489) (by decide +kernel) rfl
theorem cs_X6_isPlace : Cond.static yX6_isPlace ∈ jm_gw := jm_g (i := 263) (by decide +kernel) rfl
theorem cs_X6_isRiderWeight : Cond.static yX6_isRiderWeight ∈ jm_gw := jm_g (i := 327) (by decide +kernel) rfl
theorem cs_X6_isWithin : Cond.static yX6_isWithin ∈ jm_gw := jm_g (i := 266) (by decide +kernel) rfl
theorem cs_X6_legNumber : Cond.static yX6_legNumber ∈ jm_gw := jm_g (i := 312) (by decide +kernel) rfl
theorem cs_X6_mix : Cond.static yX6_mix ∈ jm_gw := jm_g (i := 644) (by decide +kernel) rfl
theorem cs_X6_shakeOf : Cond.static yX6_shakeOf ∈ jm_gw := jm_g (i := 338) (by decide +kernel) rfl
theorem cs_X7_in : Cond.static yX7_in ∈ jm_gw := jm_g (i := 766) (by decide +kernel) rfl
theorem cs_X7_isPlace : Cond.static yX7_isPlace ∈ jm_gw := jm_g (i := 762) (by decide +kernel) rfl
theorem cs_X7_isRider : Cond.static yX7_isRider ∈ jm_gw := jm_g (i := 787) (by decide +kernel) rfl
theorem ci_X0_dropFirst : Cond.instanceMethod yX0_dropFirst ∈ jm_gw := jm_g (i := 622) (by decide +kernel) rfl
theorem cv_X0_dropFirst : Cond.selects yX0_dropFirst.cls yX0_dropFirst yX0_dropFirst ∈ jm_gw := jm_g (i := 48) (by decide +kernel) rfl
theorem ci_X0_join : Cond.instanceMethod yX0_join ∈ jm_gw := jm_g (i := 614) (by decide +kernel) rfl
theorem cv_X0_join : Cond.selects yX0_join.cls yX0_join yX0_join ∈ jm_gw := jm_g (i := 47) (by decide +kernel) rfl
theorem ci_X0_mixAll : Cond.instanceMethod yX0_mixAll ∈ jm_gw := jm_g (i := 664) (by decide +kernel) rfl
theorem cv_X0_mixAll : Cond.selects yX0_mixAll.cls yX0_mixAll yX0_mixAll ∈ jm_gw := jm_g (i := 53) (by decide +kernel) rfl
theorem ci_X1_clear : Cond.instanceMethod yX1_clear ∈ jm_gw := jm_g (i := 316) (by decide +kernel) rfl
theorem cv_X1_clear : Cond.selects yX1_clear.cls yX1_clear yX1_clear ∈ jm_gw := jm_g (i := 7) (by decide +kernel) rfl
theorem ci_X1_colourAtDepth : Cond.instanceMethod yX1_colourAtDepth ∈ jm_gw := jm_g (i := 464) (by decide +kernel) rfl
theorem cv_X1_colourAtDepth : Cond.selects yX1_colourAtDepth.cls yX1_colourAtDepth yX1_colourAtDepth ∈ jm_gw := jm_g (i := 26) (by decide +kernel) rfl
theorem ci_X1_depthOf : Cond.instanceMethod yX1_depthOf ∈ jm_gw := jm_g (i := 473) (by decide +kernel) rfl
theorem cv_X1_depthOf : Cond.selects yX1_depthOf.cls yX1_depthOf yX1_depthOf ∈ jm_gw := jm_g (i := 27) (by decide +kernel) rfl
theorem ci_X1_mixCoats : Cond.instanceMethod yX1_mixCoats ∈ jm_gw := jm_g (i := 649) (by decide +kernel) rfl
theorem cv_X1_mixCoats : Cond.selects yX1_mixCoats.cls yX1_mixCoats yX1_mixCoats ∈ jm_gw := jm_g (i := 50) (by decide +kernel) rfl
theorem ci_X1_paintOver : Cond.instanceMethod yX1_paintOver ∈ jm_gw := jm_g (i := 290) (by decide +kernel) rfl
theorem cv_X1_paintOver : Cond.selects yX1_paintOver.cls yX1_paintOver yX1_paintOver ∈ jm_gw := jm_g (i := 3) (by decide +kernel) rfl
theorem ci_X1_takeOff : Cond.instanceMethod yX1_takeOff ∈ jm_gw := jm_g (i := 478) (by decide +kernel) rfl
theorem cv_X1_takeOff : Cond.selects yX1_takeOff.cls yX1_takeOff yX1_takeOff ∈ jm_gw := jm_g (i := 28) (by decide +kernel) rfl
theorem ci_X2_announce : Cond.instanceMethod yX2_announce ∈ jm_gw := jm_g (i := 528) (by decide +kernel) rfl
theorem cv_X2_announce : Cond.selects yX2_announce.cls yX2_announce yX2_announce ∈ jm_gw := jm_g (i := 34) (by decide +kernel) rfl
theorem ci_X2_bestBehind : Cond.instanceMethod yX2_bestBehind ∈ jm_gw := jm_g (i := 560) (by decide +kernel) rfl
theorem cv_X2_bestBehind : Cond.selects yX2_bestBehind.cls yX2_bestBehind yX2_bestBehind ∈ jm_gw := jm_g (i := 40) (by decide +kernel) rfl
theorem ci_X2_daysBetween : Cond.instanceMethod yX2_daysBetween ∈ jm_gw := jm_g (i := 540) (by decide +kernel) rfl
theorem cv_X2_daysBetween : Cond.selects yX2_daysBetween.cls yX2_daysBetween yX2_daysBetween ∈ jm_gw := jm_g (i := 36) (by decide +kernel) rfl
theorem ci_X2_fairOfBestRound : Cond.instanceMethod yX2_fairOfBestRound ∈ jm_gw := jm_g (i := 588) (by decide +kernel) rfl
theorem cv_X2_fairOfBestRound : Cond.selects yX2_fairOfBestRound.cls yX2_fairOfBestRound yX2_fairOfBestRound ∈ jm_gw := jm_g (i := 45) (by decide +kernel) rfl
theorem ci_X2_gainFrom : Cond.instanceMethod yX2_gainFrom ∈ jm_gw := jm_g (i := 574) (by decide +kernel) rfl
theorem cv_X2_gainFrom : Cond.selects yX2_gainFrom.cls yX2_gainFrom yX2_gainFrom ∈ jm_gw := jm_g (i := 43) (by decide +kernel) rfl
theorem ci_X2_isBetter : Cond.instanceMethod yX2_isBetter ∈ jm_gw := jm_g (i := 570) (by decide +kernel) rfl
theorem cv_X2_isBetter : Cond.selects yX2_isBetter.cls yX2_isBetter yX2_isBetter ∈ jm_gw := jm_g (i := 42) (by decide +kernel) rfl
theorem ci_X2_isFair : Cond.instanceMethod yX2_isFair ∈ jm_gw := jm_g (i := 536) (by decide +kernel) rfl
theorem cv_X2_isFair : Cond.selects yX2_isFair.cls yX2_isFair yX2_isFair ∈ jm_gw := jm_g (i := 35) (by decide +kernel) rfl
theorem ci_X2_layRoad : Cond.instanceMethod yX2_layRoad ∈ jm_gw := jm_g (i := 544) (by decide +kernel) rfl
theorem cv_X2_layRoad : Cond.selects yX2_layRoad.cls yX2_layRoad yX2_layRoad ∈ jm_gw := jm_g (i := 37) (by decide +kernel) rfl
theorem ci_X2_lengthFrom : Cond.instanceMethod yX2_lengthFrom ∈ jm_gw := jm_g (i := 578) (by decide +kernel) rfl
theorem cv_X2_lengthFrom : Cond.selects yX2_lengthFrom.cls yX2_lengthFrom yX2_lengthFrom ∈ jm_gw := jm_g (i := 44) (by decide +kernel) rfl
theorem ci_X2_mayFollow : Cond.instanceMethod yX2_mayFollow ∈ jm_gw := jm_g (i := 564) (by decide +kernel) rfl
theorem cv_X2_mayFollow : Cond.selects yX2_mayFollow.cls yX2_mayFollow yX2_mayFollow ∈ jm_gw := jm_g (i := 41) (by decide +kernel) rfl
theorem ci_X2_mixAll : Cond.instanceMethod yX2_mixAll ∈ jm_gw := jm_g (i := 659) (by decide +kernel) rfl
theorem cv_X2_mixAll : Cond.selects yX2_mixAll.cls yX2_mixAll yX2_mixAll ∈ jm_gw := jm_g (i := 52) (by decide +kernel) rfl
theorem ci_X2_planFrom : Cond.instanceMethod yX2_planFrom ∈ jm_gw := jm_g (i := 556) (by decide +kernel) rfl
theorem cv_X2_planFrom : Cond.selects yX2_planFrom.cls yX2_planFrom yX2_planFrom ∈ jm_gw := jm_g (i := 39) (by decide +kernel) rfl
theorem ci_X2_planRounds : Cond.instanceMethod yX2_planRounds ∈ jm_gw := jm_g (i := 552) (by decide +kernel) rfl
theorem cv_X2_planRounds : Cond.selects yX2_planRounds.cls yX2_planRounds yX2_planRounds ∈ jm_gw := jm_g (i := 38) (by decide +kernel) rfl
theorem ci_X3_areOwn : Cond.instanceMethod yX3_areOwn ∈ jm_gw := jm_g (i := 309) (by decide +kernel) rfl
theorem cv_X3_areOwn : Cond.selects yX3_areOwn.cls yX3_areOwn yX3_areOwn ∈ jm_gw := jm_g (i := 6) (by decide +kernel) rfl
theorem ci_X3_exchange : Cond.instanceMethod yX3_exchange ∈ jm_gw := jm_g (i := 494) (by decide +kernel) rfl
theorem cv_X3_exchange : Cond.selects yX3_exchange.cls yX3_exchange yX3_exchange ∈ jm_gw := jm_g (i := 30) (by decide +kernel) rfl
theorem ci_X3_fewestSwaps : Cond.instanceMethod yX3_fewestSwaps ∈ jm_gw := jm_g (i := 506) (by decide +kernel) rfl
theorem cv_X3_fewestSwaps : Cond.selects yX3_fewestSwaps.cls yX3_fewestSwaps yX3_fewestSwaps ∈ jm_gw := jm_g (i := 31) (by decide +kernel) rfl
theorem ci_X3_mixLegs : Cond.instanceMethod yX3_mixLegs ∈ jm_gw := jm_g (i := 654) (by decide +kernel) rfl
theorem cv_X3_mixLegs : Cond.selects yX3_mixLegs.cls yX3_mixLegs yX3_mixLegs ∈ jm_gw := jm_g (i := 51) (by decide +kernel) rfl
theorem ci_X3_walkCycle : Cond.instanceMethod yX3_walkCycle ∈ jm_gw := jm_g (i := 511) (by decide +kernel) rfl
theorem cv_X3_walkCycle : Cond.selects yX3_walkCycle.cls yX3_walkCycle yX3_walkCycle ∈ jm_gw := jm_g (i := 32) (by decide +kernel) rfl
theorem ci_X3_whereIs : Cond.instanceMethod yX3_whereIs ∈ jm_gw := jm_g (i := 520) (by decide +kernel) rfl
theorem cv_X3_whereIs : Cond.selects yX3_whereIs.cls yX3_whereIs yX3_whereIs ∈ jm_gw := jm_g (i := 33) (by decide +kernel) rfl
theorem ci_X4_addLoad : Cond.instanceMethod yX4_addLoad ∈ jm_gw := jm_g (i := 279) (by decide +kernel) rfl
theorem cv_X4_addLoad : Cond.selects yX4_addLoad.cls yX4_addLoad yX4_addLoad ∈ jm_gw := jm_g (i := 2) (by decide +kernel) rfl
theorem ci_X4_bestHorse : Cond.instanceMethod yX4_bestHorse ∈ jm_gw := jm_g (i := 398) (by decide +kernel) rfl
theorem cv_X4_bestHorse : Cond.selects yX4_bestHorse.cls yX4_bestHorse yX4_bestHorse ∈ jm_gw := jm_g (i := 18) (by decide +kernel) rfl
theorem ci_X4_freeHorses : Cond.instanceMethod yX4_freeHorses ∈ jm_gw := jm_g (i := 416) (by decide +kernel) rfl
theorem cv_X4_freeHorses : Cond.selects yX4_freeHorses.cls yX4_freeHorses yX4_freeHorses ∈ jm_gw := jm_g (i := 20) (by decide +kernel) rfl
theorem ci_X4_hasHorse : Cond.instanceMethod yX4_hasHorse ∈ jm_gw := jm_g (i := 270) (by decide +kernel) rfl
theorem cv_X4_hasHorse : Cond.selects yX4_hasHorse.cls yX4_hasHorse yX4_hasHorse ∈ jm_gw := jm_g (i := 0) (by decide +kernel) rfl
theorem ci_X4_hasRider : Cond.instanceMethod yX4_hasRider ∈ jm_gw := jm_g (i := 305) (by decide +kernel) rfl
theorem cv_X4_hasRider : Cond.selects yX4_hasRider.cls yX4_hasRider yX4_hasRider ∈ jm_gw := jm_g (i := 5) (by decide +kernel) rfl
theorem ci_X4_horsesStanding : Cond.instanceMethod yX4_horsesStanding ∈ jm_gw := jm_g (i := 294) (by decide +kernel) rfl
theorem cv_X4_horsesStanding : Cond.selects yX4_horsesStanding.cls yX4_horsesStanding yX4_horsesStanding ∈ jm_gw := jm_g (i := 4) (by decide +kernel) rfl
theorem ci_X4_isFree : Cond.instanceMethod yX4_isFree ∈ jm_gw := jm_g (i := 402) (by decide +kernel) rfl
theorem cv_X4_isFree : Cond.selects yX4_isFree.cls yX4_isFree yX4_isFree ∈ jm_gw := jm_g (i := 19) (by decide +kernel) rfl
theorem ci_X4_isLawful : Cond.instanceMethod yX4_isLawful ∈ jm_gw := jm_g (i := 342) (by decide +kernel) rfl
theorem cv_X4_isLawful : Cond.selects yX4_isLawful.cls yX4_isLawful yX4_isLawful ∈ jm_gw := jm_g (i := 11) (by decide +kernel) rfl
theorem ci_X4_mayTurn : Cond.instanceMethod yX4_mayTurn ∈ jm_gw := jm_g (i := 377) (by decide +kernel) rfl
theorem cv_X4_mayTurn : Cond.selects yX4_mayTurn.cls yX4_mayTurn yX4_mayTurn ∈ jm_gw := jm_g (i := 15) (by decide +kernel) rfl
theorem ci_X4_mayTurnWith : Cond.instanceMethod yX4_mayTurnWith ∈ jm_gw := jm_g (i := 331) (by decide +kernel) rfl
theorem cv_X4_mayTurnWith : Cond.selects yX4_mayTurnWith.cls yX4_mayTurnWith yX4_mayTurnWith ∈ jm_gw := jm_g (i := 9) (by decide +kernel) rfl
theorem ci_X4_putHorse : Cond.instanceMethod yX4_putHorse ∈ jm_gw := jm_g (i := 275) (by decide +kernel) rfl
theorem cv_X4_putHorse : Cond.selects yX4_putHorse.cls yX4_putHorse yX4_putHorse ∈ jm_gw := jm_g (i := 1) (by decide +kernel) rfl
theorem ci_X4_putRider : Cond.instanceMethod yX4_putRider ∈ jm_gw := jm_g (i := 349) (by decide +kernel) rfl
theorem cv_X4_putRider : Cond.selects yX4_putRider.cls yX4_putRider yX4_putRider ∈ jm_gw := jm_g (i := 12) (by decide +kernel) rfl
theorem ci_X4_ridersSitting : Cond.instanceMethod yX4_ridersSitting ∈ jm_gw := jm_g (i := 421) (by decide +kernel) rfl
theorem cv_X4_ridersSitting : Cond.selects yX4_ridersSitting.cls yX4_ridersSitting yX4_ridersSitting ∈ jm_gw := jm_g (i := 21) (by decide +kernel) rfl
theorem ci_X4_shakeNow : Cond.instanceMethod yX4_shakeNow ∈ jm_gw := jm_g (i := 353) (by decide +kernel) rfl
theorem cv_X4_shakeNow : Cond.selects yX4_shakeNow.cls yX4_shakeNow yX4_shakeNow ∈ jm_gw := jm_g (i := 13) (by decide +kernel) rfl
theorem ci_X4_shakeWith : Cond.instanceMethod yX4_shakeWith ∈ jm_gw := jm_g (i := 335) (by decide +kernel) rfl
theorem cv_X4_shakeWith : Cond.selects yX4_shakeWith.cls yX4_shakeWith yX4_shakeWith ∈ jm_gw := jm_g (i := 10) (by decide +kernel) rfl
theorem ci_X4_takeAllRiders : Cond.instanceMethod yX4_takeAllRiders ∈ jm_gw := jm_g (i := 597) (by decide +kernel) rfl
theorem cv_X4_takeAllRiders : Cond.selects yX4_takeAllRiders.cls yX4_takeAllRiders yX4_takeAllRiders ∈ jm_gw := jm_g (i := 46) (by decide +kernel) rfl
theorem ci_X4_takeHorse : Cond.instanceMethod yX4_takeHorse ∈ jm_gw := jm_g (i := 320) (by decide +kernel) rfl
theorem cv_X4_takeHorse : Cond.selects yX4_takeHorse.cls yX4_takeHorse yX4_takeHorse ∈ jm_gw := jm_g (i := 8) (by decide +kernel) rfl
theorem ci_X4_takeRider : Cond.instanceMethod yX4_takeRider ∈ jm_gw := jm_g (i := 361) (by decide +kernel) rfl
theorem cv_X4_takeRider : Cond.selects yX4_takeRider.cls yX4_takeRider yX4_takeRider ∈ jm_gw := jm_g (i := 14) (by decide +kernel) rfl
theorem ci_X5_choose : Cond.instanceMethod yX5_choose ∈ jm_gw := jm_g (i := 425) (by decide +kernel) rfl
theorem cv_X5_choose : Cond.selects yX5_choose.cls yX5_choose yX5_choose ∈ jm_gw := jm_g (i := 22) (by decide +kernel) rfl
theorem ci_X5_isTaken : Cond.instanceMethod yX5_isTaken ∈ jm_gw := jm_g (i := 441) (by decide +kernel) rfl
theorem cv_X5_isTaken : Cond.selects yX5_isTaken.cls yX5_isTaken yX5_isTaken ∈ jm_gw := jm_g (i := 24) (by decide +kernel) rfl
theorem ci_X5_keepIfLess : Cond.instanceMethod yX5_keepIfLess ∈ jm_gw := jm_g (i := 433) (by decide +kernel) rfl
theorem cv_X5_keepIfLess : Cond.selects yX5_keepIfLess.cls yX5_keepIfLess yX5_keepIfLess ∈ jm_gw := jm_g (i := 23) (by decide +kernel) rfl
theorem ci_X5_seatAll : Cond.instanceMethod yX5_seatAll ∈ jm_gw := jm_g (i := 447) (by decide +kernel) rfl
theorem cv_X5_seatAll : Cond.selects yX5_seatAll.cls yX5_seatAll yX5_seatAll ∈ jm_gw := jm_g (i := 25) (by decide +kernel) rfl
theorem ci_X6_best : Cond.instanceMethod yX6_best ∈ jm_gw := jm_g (i := 393) (by decide +kernel) rfl
theorem cv_X6_best : Cond.selects yX6_best.cls yX6_best yX6_best ∈ jm_gw := jm_g (i := 394) (by decide +kernel) rfl
theorem ci_X6_book : Cond.instanceMethod yX6_book ∈ jm_gw := jm_g (i := 626) (by decide +kernel) rfl
theorem cv_X6_book : Cond.selects yX6_book.cls yX6_book yX6_book ∈ jm_gw := jm_g (i := 627) (by decide +kernel) rfl
theorem ci_X6_coat : Cond.instanceMethod yX6_coat ∈ jm_gw := jm_g (i := 455) (by decide +kernel) rfl
theorem cv_X6_coat : Cond.selects yX6_coat.cls yX6_coat yX6_coat ∈ jm_gw := jm_g (i := 456) (by decide +kernel) rfl
theorem ci_X6_come : Cond.instanceMethod yX6_come ∈ jm_gw := jm_g (i := 609) (by decide +kernel) rfl
theorem cv_X6_come : Cond.selects yX6_come.cls yX6_come yX6_come ∈ jm_gw := jm_g (i := 610) (by decide +kernel) rfl
theorem ci_X6_count : Cond.instanceMethod yX6_count ∈ jm_gw := jm_g (i := 631) (by decide +kernel) rfl
theorem cv_X6_count : Cond.selects yX6_count.cls yX6_count yX6_count ∈ jm_gw := jm_g (i := 632) (by decide +kernel) rfl
theorem ci_X6_digest : Cond.instanceMethod yX6_digest ∈ jm_gw := jm_g (i := 635) (by decide +kernel) rfl
theorem cv_X6_digest : Cond.selects yX6_digest.cls yX6_digest yX6_digest ∈ jm_gw := jm_g (i := 636) (by decide +kernel) rfl
theorem ci_X6_earns : Cond.instanceMethod yX6_earns ∈ jm_gw := jm_g (i := 547) (by decide +kernel) rfl
theorem cv_X6_earns : Cond.selects yX6_earns.cls yX6_earns yX6_earns ∈ jm_gw := jm_g (i := 548) (by decide +kernel) rfl
theorem ci_X6_fair : Cond.instanceMethod yX6_fair ∈ jm_gw := jm_g (i := 523) (by decide +kernel) rfl
theorem cv_X6_fair : Cond.selects yX6_fair.cls yX6_fair yX6_fair ∈ jm_gw := jm_g (i := 524) (by decide +kernel) rfl
theorem ci_X6_find : Cond.instanceMethod yX6_find ∈ jm_gw := jm_g (i := 515) (by decide +kernel) rfl
theorem cv_X6_find : Cond.selects yX6_find.cls yX6_find yX6_find ∈ jm_gw := jm_g (i := 516) (by decide +kernel) rfl
theorem ci_X6_group : Cond.instanceMethod yX6_group ∈ jm_gw := jm_g (i := 408) (by decide +kernel) rfl
theorem cv_X6_group : Cond.selects yX6_group.cls yX6_group yX6_group ∈ jm_gw := jm_g (i := 409) (by decide +kernel) rfl
theorem ci_X6_horse : Cond.instanceMethod yX6_horse ∈ jm_gw := jm_g (i := 259) (by decide +kernel) rfl
theorem cv_X6_horse : Cond.selects yX6_horse.cls yX6_horse yX6_horse ∈ jm_gw := jm_g (i := 260) (by decide +kernel) rfl
theorem ci_X6_hours : Cond.instanceMethod yX6_hours ∈ jm_gw := jm_g (i := 605) (by decide +kernel) rfl
theorem cv_X6_hours : Cond.selects yX6_hours.cls yX6_hours yX6_hours ∈ jm_gw := jm_g (i := 606) (by decide +kernel) rfl
theorem ci_X6_isLegOfHorse : Cond.instanceMethod yX6_isLegOfHorse ∈ jm_gw := jm_g (i := 486) (by decide +kernel) rfl
theorem cv_X6_isLegOfHorse : Cond.selects yX6_isLegOfHorse.cls yX6_isLegOfHorse yX6_isLegOfHorse ∈ jm_gw := jm_g (i := 29) (by decide +kernel) rfl
theorem ci_X6_law : Cond.instanceMethod yX6_law ∈ jm_gw := jm_g (i := 381) (by decide +kernel) rfl
theorem cv_X6_law : Cond.selects yX6_law.cls yX6_law yX6_law ∈ jm_gw := jm_g (i := 382) (by decide +kernel) rfl
theorem ci_X6_lawOfLift : Cond.instanceMethod yX6_lawOfLift ∈ jm_gw := jm_g (i := 390) (by decide +kernel) rfl
theorem cv_X6_lawOfLift : Cond.selects yX6_lawOfLift.cls yX6_lawOfLift yX6_lawOfLift ∈ jm_gw := jm_g (i := 17) (by decide +kernel) rfl
theorem ci_X6_lawOfShaking : Cond.instanceMethod yX6_lawOfShaking ∈ jm_gw := jm_g (i := 386) (by decide +kernel) rfl
theorem cv_X6_lawOfShaking : Cond.selects yX6_lawOfShaking.cls yX6_lawOfShaking yX6_lawOfShaking ∈ jm_gw := jm_g (i := 16) (by decide +kernel) rfl
theorem ci_X6_leave : Cond.instanceMethod yX6_leave ∈ jm_gw := jm_g (i := 300) (by decide +kernel) rfl
theorem cv_X6_leave : Cond.selects yX6_leave.cls yX6_leave yX6_leave ∈ jm_gw := jm_g (i := 301) (by decide +kernel) rfl
theorem ci_X6_look : Cond.instanceMethod yX6_look ∈ jm_gw := jm_g (i := 601) (by decide +kernel) rfl
theorem cv_X6_look : Cond.selects yX6_look.cls yX6_look yX6_look ∈ jm_gw := jm_g (i := 602) (by decide +kernel) rfl
theorem ci_X6_mark : Cond.instanceMethod yX6_mark ∈ jm_gw := jm_g (i := 497) (by decide +kernel) rfl
theorem cv_X6_mark : Cond.selects yX6_mark.cls yX6_mark yX6_mark ∈ jm_gw := jm_g (i := 498) (by decide +kernel) rfl
theorem ci_X6_may : Cond.instanceMethod yX6_may ∈ jm_gw := jm_g (i := 372) (by decide +kernel) rfl
theorem cv_X6_may : Cond.selects yX6_may.cls yX6_may yX6_may ∈ jm_gw := jm_g (i := 373) (by decide +kernel) rfl
theorem ci_X6_mixPlace : Cond.instanceMethod yX6_mixPlace ∈ jm_gw := jm_g (i := 641) (by decide +kernel) rfl
theorem cv_X6_mixPlace : Cond.selects yX6_mixPlace.cls yX6_mixPlace yX6_mixPlace ∈ jm_gw := jm_g (i := 49) (by decide +kernel) rfl
theorem ci_X6_next : Cond.instanceMethod yX6_next ∈ jm_gw := jm_g (i := 617) (by decide +kernel) rfl
theorem cv_X6_next : Cond.selects yX6_next.cls yX6_next yX6_next ∈ jm_gw := jm_g (i := 618) (by decide +kernel) rfl
theorem ci_X6_rider : Cond.instanceMethod yX6_rider ∈ jm_gw := jm_g (i := 451) (by decide +kernel) rfl
theorem cv_X6_rider : Cond.selects yX6_rider.cls yX6_rider yX6_rider ∈ jm_gw := jm_g (i := 452) (by decide +kernel) rfl
theorem ci_X6_rise : Cond.instanceMethod yX6_rise ∈ jm_gw := jm_g (i := 356) (by decide +kernel) rfl
theorem cv_X6_rise : Cond.selects yX6_rise.cls yX6_rise yX6_rise ∈ jm_gw := jm_g (i := 357) (by decide +kernel) rfl
theorem ci_X6_rising : Cond.instanceMethod yX6_rising ∈ jm_gw := jm_g (i := 368) (by decide +kernel) rfl
theorem cv_X6_rising : Cond.selects yX6_rising.cls yX6_rising yX6_rising ∈ jm_gw := jm_g (i := 369) (by decide +kernel) rfl
theorem ci_X6_road : Cond.instanceMethod yX6_road ∈ jm_gw := jm_g (i := 531) (by decide +kernel) rfl
theorem cv_X6_road : Cond.selects yX6_road.cls yX6_road yX6_road ∈ jm_gw := jm_g (i := 532) (by decide +kernel) rfl
theorem ci_X6_round : Cond.instanceMethod yX6_round ∈ jm_gw := jm_g (i := 583) (by decide +kernel) rfl
theorem cv_X6_round : Cond.selects yX6_round.cls yX6_round yX6_round ∈ jm_gw := jm_g (i := 584) (by decide +kernel) rfl
theorem ci_X6_sample : Cond.instanceMethod yX6_sample ∈ jm_gw := jm_g (i := 459) (by decide +kernel) rfl
theorem cv_X6_sample : Cond.selects yX6_sample.cls yX6_sample yX6_sample ∈ jm_gw := jm_g (i := 460) (by decide +kernel) rfl
theorem ci_X6_shake : Cond.instanceMethod yX6_shake ∈ jm_gw := jm_g (i := 364) (by decide +kernel) rfl
theorem cv_X6_shake : Cond.selects yX6_shake.cls yX6_shake yX6_shake ∈ jm_gw := jm_g (i := 365) (by decide +kernel) rfl
theorem ci_X6_sit : Cond.instanceMethod yX6_sit ∈ jm_gw := jm_g (i := 323) (by decide +kernel) rfl
theorem cv_X6_sit : Cond.selects yX6_sit.cls yX6_sit yX6_sit ∈ jm_gw := jm_g (i := 324) (by decide +kernel) rfl
theorem ci_X6_strip : Cond.instanceMethod yX6_strip ∈ jm_gw := jm_g (i := 468) (by decide +kernel) rfl
theorem cv_X6_strip : Cond.selects yX6_strip.cls yX6_strip yX6_strip ∈ jm_gw := jm_g (i := 469) (by decide +kernel) rfl
theorem ci_X6_swap : Cond.instanceMethod yX6_swap ∈ jm_gw := jm_g (i := 481) (by decide +kernel) rfl
theorem cv_X6_swap : Cond.selects yX6_swap.cls yX6_swap yX6_swap ∈ jm_gw := jm_g (i := 482) (by decide +kernel) rfl
theorem ci_X6_swaps : Cond.instanceMethod yX6_swaps ∈ jm_gw := jm_g (i := 501) (by decide +kernel) rfl
theorem cv_X6_swaps : Cond.selects yX6_swaps.cls yX6_swaps yX6_swaps ∈ jm_gw := jm_g (i := 502) (by decide +kernel) rfl
theorem ci_X6_turn : Cond.instanceMethod yX6_turn ∈ jm_gw := jm_g (i := 591) (by decide +kernel) rfl
theorem cv_X6_turn : Cond.selects yX6_turn.cls yX6_turn yX6_turn ∈ jm_gw := jm_g (i := 592) (by decide +kernel) rfl
theorem ci_X7_best : Cond.instanceMethod yX7_best ∈ jm_gw := jm_g (i := 833) (by decide +kernel) rfl
theorem cv_X7_best : Cond.selects yX7_best.cls yX7_best yX7_best ∈ jm_gw := jm_g (i := 834) (by decide +kernel) rfl
theorem ci_X7_bestOf : Cond.instanceMethod yX7_bestOf ∈ jm_gw := jm_g (i := 838) (by decide +kernel) rfl
theorem cv_X7_bestOf : Cond.selects yX7_bestOf.cls yX7_bestOf yX7_bestOf ∈ jm_gw := jm_g (i := 62) (by decide +kernel) rfl
theorem ci_X7_book : Cond.instanceMethod yX7_book ∈ jm_gw := jm_g (i := 950) (by decide +kernel) rfl
theorem cv_X7_book : Cond.selects yX7_book.cls yX7_book yX7_book ∈ jm_gw := jm_g (i := 951) (by decide +kernel) rfl
theorem ci_X7_coat : Cond.instanceMethod yX7_coat ∈ jm_gw := jm_g (i := 858) (by decide +kernel) rfl
theorem cv_X7_coat : Cond.selects yX7_coat.cls yX7_coat yX7_coat ∈ jm_gw := jm_g (i := 859) (by decide +kernel) rfl
theorem ci_X7_come : Cond.instanceMethod yX7_come ∈ jm_gw := jm_g (i := 942) (by decide +kernel) rfl
theorem cv_X7_come : Cond.selects yX7_come.cls yX7_come yX7_come ∈ jm_gw := jm_g (i := 943) (by decide +kernel) rfl
theorem ci_X7_count : Cond.instanceMethod yX7_count ∈ jm_gw := jm_g (i := 955) (by decide +kernel) rfl
theorem cv_X7_count : Cond.selects yX7_count.cls yX7_count yX7_count ∈ jm_gw := jm_g (i := 956) (by decide +kernel) rfl
theorem ci_X7_digest : Cond.instanceMethod yX7_digest ∈ jm_gw := jm_g (i := 959) (by decide +kernel) rfl
theorem cv_X7_digest : Cond.selects yX7_digest.cls yX7_digest yX7_digest ∈ jm_gw := jm_g (i := 960) (by decide +kernel) rfl
theorem ci_X7_earns : Cond.instanceMethod yX7_earns ∈ jm_gw := jm_g (i := 905) (by decide +kernel) rfl
theorem cv_X7_earns : Cond.selects yX7_earns.cls yX7_earns yX7_earns ∈ jm_gw := jm_g (i := 906) (by decide +kernel) rfl
theorem ci_X7_fair : Cond.instanceMethod yX7_fair ∈ jm_gw := jm_g (i := 890) (by decide +kernel) rfl
theorem cv_X7_fair : Cond.selects yX7_fair.cls yX7_fair yX7_fair ∈ jm_gw := jm_g (i := 891) (by decide +kernel) rfl
theorem ci_X7_find : Cond.instanceMethod yX7_find ∈ jm_gw := jm_g (i := 886) (by decide +kernel) rfl
theorem cv_X7_find : Cond.selects yX7_find.cls yX7_find yX7_find ∈ jm_gw := jm_g (i := 887) (by decide +kernel) rfl
theorem ci_X7_findRound : Cond.instanceMethod yX7_findRound ∈ jm_gw := jm_g (i := 910) (by decide +kernel) rfl
theorem cv_X7_findRound : Cond.selects yX7_findRound.cls yX7_findRound yX7_findRound ∈ jm_gw := jm_g (i := 67) (by decide +kernel) rfl
theorem ci_X7_group : Cond.instanceMethod yX7_group ∈ jm_gw := jm_g (i := 845) (by decide +kernel) rfl
theorem cv_X7_group : Cond.selects yX7_group.cls yX7_group yX7_group ∈ jm_gw := jm_g (i := 846) (by decide +kernel) rfl
theorem ci_X7_horse : Cond.instanceMethod yX7_horse ∈ jm_gw := jm_g (i := 758) (by decide +kernel) rfl
theorem cv_X7_horse : Cond.selects yX7_horse.cls yX7_horse yX7_horse ∈ jm_gw := jm_g (i := 759) (by decide +kernel) rfl
theorem ci_X7_horses : Cond.instanceMethod yX7_horses ∈ jm_gw := jm_g (i := 772) (by decide +kernel) rfl
theorem cv_X7_horses : Cond.selects yX7_horses.cls yX7_horses yX7_horses ∈ jm_gw := jm_g (i := 55) (by decide +kernel) rfl
theorem ci_X7_hours : Cond.instanceMethod yX7_hours ∈ jm_gw := jm_g (i := 937) (by decide +kernel) rfl
theorem cv_X7_hours : Cond.selects yX7_hours.cls yX7_hours yX7_hours ∈ jm_gw := jm_g (i := 938) (by decide +kernel) rfl
theorem ci_X7_isBlocked : Cond.instanceMethod yX7_isBlocked ∈ jm_gw := jm_g (i := 792) (by decide +kernel) rfl
theorem cv_X7_isBlocked : Cond.selects yX7_isBlocked.cls yX7_isBlocked yX7_isBlocked ∈ jm_gw := jm_g (i := 57) (by decide +kernel) rfl
theorem ci_X7_isFair : Cond.instanceMethod yX7_isFair ∈ jm_gw := jm_g (i := 901) (by decide +kernel) rfl
theorem cv_X7_isFair : Cond.selects yX7_isFair.cls yX7_isFair yX7_isFair ∈ jm_gw := jm_g (i := 66) (by decide +kernel) rfl
theorem ci_X7_isFree : Cond.instanceMethod yX7_isFree ∈ jm_gw := jm_g (i := 842) (by decide +kernel) rfl
theorem cv_X7_isFree : Cond.selects yX7_isFree.cls yX7_isFree yX7_isFree ∈ jm_gw := jm_g (i := 63) (by decide +kernel) rfl
theorem ci_X7_isHorse : Cond.instanceMethod yX7_isHorse ∈ jm_gw := jm_g (i := 780) (by decide +kernel) rfl
theorem cv_X7_isHorse : Cond.selects yX7_isHorse.cls yX7_isHorse yX7_isHorse ∈ jm_gw := jm_g (i := 56) (by decide +kernel) rfl
theorem ci_X7_isLeg : Cond.instanceMethod yX7_isLeg ∈ jm_gw := jm_g (i := 875) (by decide +kernel) rfl
theorem cv_X7_isLeg : Cond.selects yX7_isLeg.cls yX7_isLeg yX7_isLeg ∈ jm_gw := jm_g (i := 65) (by decide +kernel) rfl
theorem ci_X7_isLess : Cond.instanceMethod yX7_isLess ∈ jm_gw := jm_g (i := 918) (by decide +kernel) rfl
theorem cv_X7_isLess : Cond.selects yX7_isLess.cls yX7_isLess yX7_isLess ∈ jm_gw := jm_g (i := 69) (by decide +kernel) rfl
theorem ci_X7_law : Cond.instanceMethod yX7_law ∈ jm_gw := jm_g (i := 827) (by decide +kernel) rfl
theorem cv_X7_law : Cond.selects yX7_law.cls yX7_law yX7_law ∈ jm_gw := jm_g (i := 828) (by decide +kernel) rfl
theorem ci_X7_lay : Cond.instanceMethod yX7_lay ∈ jm_gw := jm_g (i := 914) (by decide +kernel) rfl
theorem cv_X7_lay : Cond.selects yX7_lay.cls yX7_lay yX7_lay ∈ jm_gw := jm_g (i := 68) (by decide +kernel) rfl
theorem ci_X7_leave : Cond.instanceMethod yX7_leave ∈ jm_gw := jm_g (i := 775) (by decide +kernel) rfl
theorem cv_X7_leave : Cond.selects yX7_leave.cls yX7_leave yX7_leave ∈ jm_gw := jm_g (i := 776) (by decide +kernel) rfl
theorem ci_X7_load : Cond.instanceMethod yX7_load ∈ jm_gw := jm_g (i := 804) (by decide +kernel) rfl
theorem cv_X7_load : Cond.selects yX7_load.cls yX7_load yX7_load ∈ jm_gw := jm_g (i := 60) (by decide +kernel) rfl
theorem ci_X7_look : Cond.instanceMethod yX7_look ∈ jm_gw := jm_g (i := 933) (by decide +kernel) rfl
theorem cv_X7_look : Cond.selects yX7_look.cls yX7_look yX7_look ∈ jm_gw := jm_g (i := 934) (by decide +kernel) rfl
theorem ci_X7_mark : Cond.instanceMethod yX7_mark ∈ jm_gw := jm_g (i := 878) (by decide +kernel) rfl
theorem cv_X7_mark : Cond.selects yX7_mark.cls yX7_mark yX7_mark ∈ jm_gw := jm_g (i := 879) (by decide +kernel) rfl
theorem ci_X7_may : Cond.instanceMethod yX7_may ∈ jm_gw := jm_g (i := 823) (by decide +kernel) rfl
theorem cv_X7_may : Cond.selects yX7_may.cls yX7_may yX7_may ∈ jm_gw := jm_g (i := 824) (by decide +kernel) rfl
theorem ci_X7_mayTurn : Cond.instanceMethod yX7_mayTurn ∈ jm_gw := jm_g (i := 796) (by decide +kernel) rfl
theorem cv_X7_mayTurn : Cond.selects yX7_mayTurn.cls yX7_mayTurn yX7_mayTurn ∈ jm_gw := jm_g (i := 58) (by decide +kernel) rfl
theorem ci_X7_next : Cond.instanceMethod yX7_next ∈ jm_gw := jm_g (i := 946) (by decide +kernel) rfl
theorem cv_X7_next : Cond.selects yX7_next.cls yX7_next yX7_next ∈ jm_gw := jm_g (i := 947) (by decide +kernel) rfl
theorem ci_X7_put : Cond.instanceMethod yX7_put ∈ jm_gw := jm_g (i := 675) (by decide +kernel) rfl
theorem cv_X7_put : Cond.selects yX7_put.cls yX7_put yX7_put ∈ jm_gw := jm_g (i := 54) (by decide +kernel) rfl
theorem ci_X7_rider : Cond.instanceMethod yX7_rider ∈ jm_gw := jm_g (i := 854) (by decide +kernel) rfl
theorem cv_X7_rider : Cond.selects yX7_rider.cls yX7_rider yX7_rider ∈ jm_gw := jm_g (i := 855) (by decide +kernel) rfl
theorem ci_X7_riders : Cond.instanceMethod yX7_riders ∈ jm_gw := jm_g (i := 930) (by decide +kernel) rfl
theorem cv_X7_riders : Cond.selects yX7_riders.cls yX7_riders yX7_riders ∈ jm_gw := jm_g (i := 70) (by decide +kernel) rfl
theorem ci_X7_rise : Cond.instanceMethod yX7_rise ∈ jm_gw := jm_g (i := 811) (by decide +kernel) rfl
theorem cv_X7_rise : Cond.selects yX7_rise.cls yX7_rise yX7_rise ∈ jm_gw := jm_g (i := 812) (by decide +kernel) rfl
theorem ci_X7_rising : Cond.instanceMethod yX7_rising ∈ jm_gw := jm_g (i := 819) (by decide +kernel) rfl
theorem cv_X7_rising : Cond.selects yX7_rising.cls yX7_rising yX7_rising ∈ jm_gw := jm_g (i := 820) (by decide +kernel) rfl
theorem ci_X7_risingOf : Cond.instanceMethod yX7_risingOf ∈ jm_gw := jm_g (i := 800) (by decide +kernel) rfl
theorem cv_X7_risingOf : Cond.selects yX7_risingOf.cls yX7_risingOf yX7_risingOf ∈ jm_gw := jm_g (i := 59) (by decide +kernel) rfl
theorem ci_X7_road : Cond.instanceMethod yX7_road ∈ jm_gw := jm_g (i := 896) (by decide +kernel) rfl
theorem cv_X7_road : Cond.selects yX7_road.cls yX7_road yX7_road ∈ jm_gw := jm_g (i := 897) (by decide +kernel) rfl
theorem ci_X7_round : Cond.instanceMethod yX7_round ∈ jm_gw := jm_g (i := 921) (by decide +kernel) rfl
theorem cv_X7_round : Cond.selects yX7_round.cls yX7_round yX7_round ∈ jm_gw := jm_g (i := 922) (by decide +kernel) rfl
theorem ci_X7_sample : Cond.instanceMethod yX7_sample ∈ jm_gw := jm_g (i := 862) (by decide +kernel) rfl
theorem cv_X7_sample : Cond.selects yX7_sample.cls yX7_sample yX7_sample ∈ jm_gw := jm_g (i := 863) (by decide +kernel) rfl
theorem ci_X7_seat : Cond.instanceMethod yX7_seat ∈ jm_gw := jm_g (i := 851) (by decide +kernel) rfl
theorem cv_X7_seat : Cond.selects yX7_seat.cls yX7_seat yX7_seat ∈ jm_gw := jm_g (i := 64) (by decide +kernel) rfl
theorem ci_X7_shake : Cond.instanceMethod yX7_shake ∈ jm_gw := jm_g (i := 815) (by decide +kernel) rfl
theorem cv_X7_shake : Cond.selects yX7_shake.cls yX7_shake yX7_shake ∈ jm_gw := jm_g (i := 816) (by decide +kernel) rfl
theorem ci_X7_shakeOf : Cond.instanceMethod yX7_shakeOf ∈ jm_gw := jm_g (i := 808) (by decide +kernel) rfl
theorem cv_X7_shakeOf : Cond.selects yX7_shakeOf.cls yX7_shakeOf yX7_shakeOf ∈ jm_gw := jm_g (i := 61) (by decide +kernel) rfl
theorem ci_X7_sit : Cond.instanceMethod yX7_sit ∈ jm_gw := jm_g (i := 783) (by decide +kernel) rfl
theorem cv_X7_sit : Cond.selects yX7_sit.cls yX7_sit yX7_sit ∈ jm_gw := jm_g (i := 784) (by decide +kernel) rfl
theorem ci_X7_strip : Cond.instanceMethod yX7_strip ∈ jm_gw := jm_g (i := 866) (by decide +kernel) rfl
theorem cv_X7_strip : Cond.selects yX7_strip.cls yX7_strip yX7_strip ∈ jm_gw := jm_g (i := 867) (by decide +kernel) rfl
theorem ci_X7_swap : Cond.instanceMethod yX7_swap ∈ jm_gw := jm_g (i := 870) (by decide +kernel) rfl
theorem cv_X7_swap : Cond.selects yX7_swap.cls yX7_swap yX7_swap ∈ jm_gw := jm_g (i := 871) (by decide +kernel) rfl
theorem ci_X7_swaps : Cond.instanceMethod yX7_swaps ∈ jm_gw := jm_g (i := 882) (by decide +kernel) rfl
theorem cv_X7_swaps : Cond.selects yX7_swaps.cls yX7_swaps yX7_swaps ∈ jm_gw := jm_g (i := 883) (by decide +kernel) rfl
theorem ci_X7_turn : Cond.instanceMethod yX7_turn ∈ jm_gw := jm_g (i := 925) (by decide +kernel) rfl
theorem cv_X7_turn : Cond.selects yX7_turn.cls yX7_turn yX7_turn ∈ jm_gw := jm_g (i := 926) (by decide +kernel) rfl
theorem kc_X6_232 : Cond.constant RX6 232 (100000) ∈ jm_gw := jm_g (i := 629) (by decide +kernel) rfl
theorem kc_X6_236 : Cond.constantLong RX6 236 (193) ∈ jm_gw := jm_g (i := 638) (by decide +kernel) rfl
theorem kc_X6_265 : Cond.constantLong RX6 265 (31) ∈ jm_gw := jm_g (i := 646) (by decide +kernel) rfl
theorem kc_X7_73 : Cond.constantLong RX7 73 (11) ∈ jm_gw := jm_g (i := 764) (by decide +kernel) rfl
theorem kc_X7_83 : Cond.constantLong RX7 83 (200) ∈ jm_gw := jm_g (i := 768) (by decide +kernel) rfl
theorem kc_X7_85 : Cond.constantLong RX7 85 (99) ∈ jm_gw := jm_g (i := 769) (by decide +kernel) rfl
theorem kc_X7_108 : Cond.constantLong RX7 108 (150) ∈ jm_gw := jm_g (i := 789) (by decide +kernel) rfl
theorem kc_X7_117 : Cond.constantLong RX7 117 (30000) ∈ jm_gw := jm_g (i := 830) (by decide +kernel) rfl
theorem kc_X7_119 : Cond.constantLong RX7 119 (5000) ∈ jm_gw := jm_g (i := 831) (by decide +kernel) rfl
theorem kc_X7_127 : Cond.constantLong RX7 127 (3) ∈ jm_gw := jm_g (i := 848) (by decide +kernel) rfl
theorem kc_X7_139 : Cond.constantLong RX7 139 (400) ∈ jm_gw := jm_g (i := 893) (by decide +kernel) rfl
theorem kc_X7_141 : Cond.constantLong RX7 141 (10000) ∈ jm_gw := jm_g (i := 894) (by decide +kernel) rfl
theorem kc_X7_149 : Cond.constantLong RX7 149 (50) ∈ jm_gw := jm_g (i := 903) (by decide +kernel) rfl
theorem kc_X7_175 : Cond.constantLong RX7 175 (1000) ∈ jm_gw := jm_g (i := 940) (by decide +kernel) rfl
theorem kc_X7_180 : Cond.constantLong RX7 180 (100000) ∈ jm_gw := jm_g (i := 953) (by decide +kernel) rfl
theorem kc_X7_182 : Cond.constantLong RX7 182 (193) ∈ jm_gw := jm_g (i := 962) (by decide +kernel) rfl
theorem kc_X7_184 : Cond.constantLong RX7 184 (31) ∈ jm_gw := jm_g (i := 963) (by decide +kernel) rfl
