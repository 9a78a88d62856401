theorem fl_X4_9 : Cond.fieldLink RX4 9 (TX4 1).1 (TX4 1).2.1 (TX4 1).2.2.1 ∈ TBL := tm (i := 62) (by decide +kernel) (by decide +kernel)
theorem uin_X4 : ∀ w ∈ u_ws RX4 TX4 3, w ∈ TBL := of_places [64, 66, 68] (by decide +kernel) (by decide +kernel)
theorem pn_X4 : plainName RX4 = true := by decide +kernel
theorem kb_m6 : (Int8.ofInt (-6)).toInt32 = (-6 : Int32) := by decide +kernel
theorem fl_X4_19 : Cond.fieldLink RX4 19 (TX4 0).1 (TX4 0).2.1 (TX4 0).2.2.1 ∈ TBL := tm (i := 61) (by decide +kernel) (by decide +kernel)
theorem ml_X0_7 : Cond.methodLink RX0 7 yX4_size ∈ TBL := tm (i := 442) (by decide +kernel) (by decide +kernel)
theorem im_X4_size : Cond.instanceMethod yX4_size ∈ TBL := tm (i := 185) (by decide +kernel) (by decide +kernel)
theorem se_X4_size : Cond.selects RX4 yX4_size yX4_size ∈ TBL := tm (i := 186) (by decide +kernel) (by decide +kernel)
theorem ini_X4 : Cond.initialized RX4 ∈ TBL := tm (i := 40) (by decide +kernel) (by decide +kernel)
theorem cd_X4_size : Cond.code yX4_size cX4_size 1 (some .int) ∈ TBL := tm (i := 187) (by decide +kernel) (by decide +kernel)
theorem vw_X4_size : VW RX4 yX4_size cX4_size 1 (some .int) 0 2 := ⟨im_X4_size, se_X4_size, ini_X4, cd_X4_size, ⟨_, _, rfl⟩, by decide +kernel⟩
theorem ki_1 : Int32.ofInt (1) = (1 : Int32) := by decide +kernel
theorem ki_0 : Int32.ofInt (0) = (0 : Int32) := by decide +kernel
theorem ml_X0_13 : Cond.methodLink RX0 13 yX4_at ∈ TBL := tm (i := 443) (by decide +kernel) (by decide +kernel)
theorem im_X4_at : Cond.instanceMethod yX4_at ∈ TBL := tm (i := 205) (by decide +kernel) (by decide +kernel)
theorem se_X4_at : Cond.selects RX4 yX4_at yX4_at ∈ TBL := tm (i := 206) (by decide +kernel) (by decide +kernel)
theorem cd_X4_at : Cond.code yX4_at cX4_at 2 (some .int) ∈ TBL := tm (i := 207) (by decide +kernel) (by decide +kernel)
theorem vw_X4_at : VW RX4 yX4_at cX4_at 2 (some .int) 1 2 := ⟨im_X4_at, se_X4_at, ini_X4, cd_X4_at, ⟨_, _, rfl⟩, by decide +kernel⟩
theorem ml_X0_17 : Cond.methodLink RX0 17 yX4_set ∈ TBL := tm (i := 444) (by decide +kernel) (by decide +kernel)
theorem im_X4_set : Cond.instanceMethod yX4_set ∈ TBL := tm (i := 445) (by decide +kernel) (by decide +kernel)
theorem se_X4_set : Cond.selects RX4 yX4_set yX4_set ∈ TBL := tm (i := 446) (by decide +kernel) (by decide +kernel)
theorem cd_X4_set : Cond.code yX4_set cX4_set 3 none ∈ TBL := tm (i := 447) (by decide +kernel) (by decide +kernel)
theorem vw_X4_set : VW RX4 yX4_set cX4_set 3 none 2 2 := ⟨im_X4_set, se_X4_set, ini_X4, cd_X4_set, ⟨_, _, rfl⟩, by decide +kernel⟩
theorem kc_m1 (x : Int32) : x + Int32.ofInt (-1) = x + (-1 : Int32) := by rw [show Int32.ofInt (-1) = (-1 : Int32) by decide +kernel]
theorem pn_X0 : plainName RX0 = true := by decide +kernel
theorem ml_X4_34 : Cond.methodLink RX4 34 yX4_at ∈ TBL := tm (i := 291) (by decide +kernel) (by decide +kernel)
theorem ml_X4_42 : Cond.methodLink RX4 42 yX4_set ∈ TBL := tm (i := 486) (by decide +kernel) (by decide +kernel)
theorem ml_X0_21 : Cond.methodLink RX0 21 yX4_swap ∈ TBL := tm (i := 482) (by decide +kernel) (by decide +kernel)
theorem im_X4_swap : Cond.instanceMethod yX4_swap ∈ TBL := tm (i := 483) (by decide +kernel) (by decide +kernel)
theorem se_X4_swap : Cond.selects RX4 yX4_swap yX4_swap ∈ TBL := tm (i := 484) (by decide +kernel) (by decide +kernel)
theorem cd_X4_swap : Cond.code yX4_swap cX4_swap 4 none ∈ TBL := tm (i := 485) (by decide +kernel) (by decide +kernel)
theorem vw_X4_swap : VW RX4 yX4_swap cX4_swap 4 none 2 2 := ⟨im_X4_swap, se_X4_swap, ini_X4, cd_X4_swap, ⟨_, _, rfl⟩, by decide +kernel⟩
theorem kc_1 (x : Int32) : x + Int32.ofInt (1) = x + (1 : Int32) := by rw [show Int32.ofInt (1) = (1 : Int32) by decide +kernel]
theorem ki_2 : Int32.ofInt (2) = (2 : Int32) := by decide +kernel
theorem ml_X0_24 : Cond.methodLink RX0 24 yX0_reverseFrom ∈ TBL := tm (i := 487) (by decide +kernel) (by decide +kernel)
theorem sm_X0_reverseFrom : Cond.static yX0_reverseFrom ∈ TBL := tm (i := 488) (by decide +kernel) (by decide +kernel)
theorem ini_X0 : Cond.initialized RX0 ∈ TBL := tm (i := 46) (by decide +kernel) (by decide +kernel)
theorem cd_X0_reverseFrom : Cond.code yX0_reverseFrom cX0_reverseFrom 4 none ∈ TBL := tm (i := 489) (by decide +kernel) (by decide +kernel)
theorem sw_X0_reverseFrom : SW yX0_reverseFrom cX0_reverseFrom 4 none 2 := ⟨sm_X0_reverseFrom, ini_X0, cd_X0_reverseFrom, by decide +kernel⟩
theorem ki_3 : Int32.ofInt (3) = (3 : Int32) := by decide +kernel
theorem pn_X1 : plainName RX1 = true := by decide +kernel
theorem fl_X4_15 : Cond.fieldLink RX4 15 (TX4 2).1 (TX4 2).2.1 (TX4 2).2.2.1 ∈ TBL := tm (i := 63) (by decide +kernel) (by decide +kernel)
theorem ml_X2_25 : Cond.methodLink RX2 25 yX1_hasMask ∈ TBL := tm (i := 218) (by decide +kernel) (by decide +kernel)
theorem sm_X1_hasMask : Cond.static yX1_hasMask ∈ TBL := tm (i := 219) (by decide +kernel) (by decide +kernel)
theorem ini_X1 : Cond.initialized RX1 ∈ TBL := tm (i := 42) (by decide +kernel) (by decide +kernel)
theorem cd_X1_hasMask : Cond.code yX1_hasMask cX1_hasMask 1 (some .boolean) ∈ TBL := tm (i := 220) (by decide +kernel) (by decide +kernel)
theorem sw_X1_hasMask : SW yX1_hasMask cX1_hasMask 1 (some .boolean) 1 := ⟨sm_X1_hasMask, ini_X1, cd_X1_hasMask, by decide +kernel⟩
theorem pn_X2 : plainName RX2 = true := by decide +kernel
theorem ml_X1_30 : Cond.methodLink RX1 30 yX4_at ∈ TBL := tm (i := 247) (by decide +kernel) (by decide +kernel)
theorem kb_45 : (Int8.ofInt (45)).toInt32 = (45 : Int32) := by decide +kernel
theorem fl_X1_9 : Cond.fieldLink RX1 9 (TX1 0).1 (TX1 0).2.1 (TX1 0).2.2.1 ∈ TBL := tm (i := 87) (by decide +kernel) (by decide +kernel)
theorem uin_X1 : ∀ w ∈ u_ws RX1 TX1 4, w ∈ TBL := of_places [91, 93, 95, 97] (by decide +kernel) (by decide +kernel)
theorem kb_48 : (Int8.ofInt (48)).toInt32 = (48 : Int32) := by decide +kernel
theorem fl_X1_15 : Cond.fieldLink RX1 15 (TX1 1).1 (TX1 1).2.1 (TX1 1).2.2.1 ∈ TBL := tm (i := 88) (by decide +kernel) (by decide +kernel)
theorem ml_X1_34 : Cond.methodLink RX1 34 yX1_hasMask ∈ TBL := tm (i := 248) (by decide +kernel) (by decide +kernel)
theorem fl_X1_18 : Cond.fieldLink RX1 18 (TX1 2).1 (TX1 2).2.1 (TX1 2).2.2.1 ∈ TBL := tm (i := 89) (by decide +kernel) (by decide +kernel)
theorem fl_X1_26 : Cond.fieldLink RX1 26 (TX1 3).1 (TX1 3).2.1 (TX1 3).2.2.1 ∈ TBL := tm (i := 90) (by decide +kernel) (by decide +kernel)
theorem ml_X1_38 : Cond.methodLink RX1 38 yX4_clear ∈ TBL := tm (i := 249) (by decide +kernel) (by decide +kernel)
theorem im_X4_clear : Cond.instanceMethod yX4_clear ∈ TBL := tm (i := 194) (by decide +kernel) (by decide +kernel)
theorem se_X4_clear : Cond.selects RX4 yX4_clear yX4_clear ∈ TBL := tm (i := 195) (by decide +kernel) (by decide +kernel)
theorem cd_X4_clear : Cond.code yX4_clear cX4_clear 1 none ∈ TBL := tm (i := 196) (by decide +kernel) (by decide +kernel)
theorem vw_X4_clear : VW RX4 yX4_clear cX4_clear 1 none 0 2 := ⟨im_X4_clear, se_X4_clear, ini_X4, cd_X4_clear, ⟨_, _, rfl⟩, by decide +kernel⟩
theorem ml_X1_41 : Cond.methodLink RX1 41 yX2_firstHeld ∈ TBL := tm (i := 250) (by decide +kernel) (by decide +kernel)
theorem sm_X2_firstHeld : Cond.static yX2_firstHeld ∈ TBL := tm (i := 229) (by decide +kernel) (by decide +kernel)
theorem ini_X2 : Cond.initialized RX2 ∈ TBL := tm (i := 45) (by decide +kernel) (by decide +kernel)
theorem cd_X2_firstHeld : Cond.code yX2_firstHeld cX2_firstHeld 1 (some .int) ∈ TBL := tm (i := 230) (by decide +kernel) (by decide +kernel)
theorem sw_X2_firstHeld : SW yX2_firstHeld cX2_firstHeld 1 (some .int) 1 := ⟨sm_X2_firstHeld, ini_X2, cd_X2_firstHeld, by decide +kernel⟩
theorem ml_X1_46 : Cond.methodLink RX1 46 yX4_size ∈ TBL := tm (i := 251) (by decide +kernel) (by decide +kernel)
theorem ml_X1_50 : Cond.methodLink RX1 50 yX4_add ∈ TBL := tm (i := 252) (by decide +kernel) (by decide +kernel)
theorem im_X4_add : Cond.instanceMethod yX4_add ∈ TBL := tm (i := 103) (by decide +kernel) (by decide +kernel)
theorem se_X4_add : Cond.selects RX4 yX4_add yX4_add ∈ TBL := tm (i := 104) (by decide +kernel) (by decide +kernel)
theorem cd_X4_add : Cond.code yX4_add cX4_add 2 none ∈ TBL := tm (i := 105) (by decide +kernel) (by decide +kernel)
theorem vw_X4_add : VW RX4 yX4_add cX4_add 2 none 1 2 := ⟨im_X4_add, se_X4_add, ini_X4, cd_X4_add, ⟨_, _, rfl⟩, by decide +kernel⟩
theorem ml_X4_31 : Cond.methodLink RX4 31 yX4_clear ∈ TBL := tm (i := 290) (by decide +kernel) (by decide +kernel)
theorem ml_X4_23 : Cond.methodLink RX4 23 yX4_size ∈ TBL := tm (i := 285) (by decide +kernel) (by decide +kernel)
theorem ml_X4_38 : Cond.methodLink RX4 38 yX4_add ∈ TBL := tm (i := 292) (by decide +kernel) (by decide +kernel)
theorem ml_X4_27 : Cond.methodLink RX4 27 yX4_copyFirst ∈ TBL := tm (i := 286) (by decide +kernel) (by decide +kernel)
theorem im_X4_copyFirst : Cond.instanceMethod yX4_copyFirst ∈ TBL := tm (i := 287) (by decide +kernel) (by decide +kernel)
theorem se_X4_copyFirst : Cond.selects RX4 yX4_copyFirst yX4_copyFirst ∈ TBL := tm (i := 288) (by decide +kernel) (by decide +kernel)
theorem cd_X4_copyFirst : Cond.code yX4_copyFirst cX4_copyFirst 4 none ∈ TBL := tm (i := 289) (by decide +kernel) (by decide +kernel)
theorem vw_X4_copyFirst : VW RX4 yX4_copyFirst cX4_copyFirst 4 none 2 2 := ⟨im_X4_copyFirst, se_X4_copyFirst, ini_X4, cd_X4_copyFirst, ⟨_, _, rfl⟩, by decide +kernel⟩
theorem ml_X1_53 : Cond.methodLink RX1 53 yX4_copyFrom ∈ TBL := tm (i := 510) (by decide +kernel) (by decide +kernel)
theorem im_X4_copyFrom : Cond.instanceMethod yX4_copyFrom ∈ TBL := tm (i := 282) (by decide +kernel) (by decide +kernel)
theorem se_X4_copyFrom : Cond.selects RX4 yX4_copyFrom yX4_copyFrom ∈ TBL := tm (i := 283) (by decide +kernel) (by decide +kernel)
theorem cd_X4_copyFrom : Cond.code yX4_copyFrom cX4_copyFrom 2 none ∈ TBL := tm (i := 284) (by decide +kernel) (by decide +kernel)
theorem vw_X4_copyFrom : VW RX4 yX4_copyFrom cX4_copyFrom 2 none 1 2 := ⟨im_X4_copyFrom, se_X4_copyFrom, ini_X4, cd_X4_copyFrom, ⟨_, _, rfl⟩, by decide +kernel⟩
theorem kt_0 : (0 : Int32).toInt = 0 := by decide +kernel
theorem kt_1 : (1 : Int32).toInt = 1 := by decide +kernel
theorem kt_2 : (2 : Int32).toInt = 2 := by decide +kernel
theorem kb_6 : (Int8.ofInt (6)).toInt32 = (6 : Int32) := by decide +kernel
theorem ml_X1_71 : Cond.methodLink RX1 71 yX4_hasAhead ∈ TBL := tm (i := 326) (by decide +kernel) (by decide +kernel)
theorem im_X4_hasAhead : Cond.instanceMethod yX4_hasAhead ∈ TBL := tm (i := 225) (by decide +kernel) (by decide +kernel)
theorem se_X4_hasAhead : Cond.selects RX4 yX4_hasAhead yX4_hasAhead ∈ TBL := tm (i := 226) (by decide +kernel) (by decide +kernel)
theorem cd_X4_hasAhead : Cond.code yX4_hasAhead cX4_hasAhead 4 (some .boolean) ∈ TBL := tm (i := 227) (by decide +kernel) (by decide +kernel)
theorem vw_X4_hasAhead : VW RX4 yX4_hasAhead cX4_hasAhead 4 (some .boolean) 2 2 := ⟨im_X4_hasAhead, se_X4_hasAhead, ini_X4, cd_X4_hasAhead, ⟨_, _, rfl⟩, by decide +kernel⟩
theorem kb_10 : (Int8.ofInt (10)).toInt32 = (10 : Int32) := by decide +kernel
theorem kb_97 : (Int8.ofInt (97)).toInt32 = (97 : Int32) := by decide +kernel
theorem ki_4 : Int32.ofInt (4) = (4 : Int32) := by decide +kernel
theorem ml_X1_75 : Cond.methodLink RX1 75 yX1_digitOf ∈ TBL := tm (i := 331) (by decide +kernel) (by decide +kernel)
theorem sm_X1_digitOf : Cond.static yX1_digitOf ∈ TBL := tm (i := 332) (by decide +kernel) (by decide +kernel)
theorem cd_X1_digitOf : Cond.code yX1_digitOf cX1_digitOf 1 (some .int) ∈ TBL := tm (i := 333) (by decide +kernel) (by decide +kernel)
theorem sw_X1_digitOf : SW yX1_digitOf cX1_digitOf 1 (some .int) 1 := ⟨sm_X1_digitOf, ini_X1, cd_X1_digitOf, by decide +kernel⟩
theorem kb_15 : (Int8.ofInt (15)).toInt32 = (15 : Int32) := by decide +kernel
theorem ml_X1_57 : Cond.methodLink RX1 57 yX1_addMark ∈ TBL := tm (i := 318) (by decide +kernel) (by decide +kernel)
theorem im_X1_addMark : Cond.instanceMethod yX1_addMark ∈ TBL := tm (i := 320) (by decide +kernel) (by decide +kernel)
theorem se_X1_addMark : Cond.selects RX1 yX1_addMark yX1_addMark ∈ TBL := tm (i := 1) (by decide +kernel) (by decide +kernel)
theorem cd_X1_addMark : Cond.code yX1_addMark cX1_addMark 2 none ∈ TBL := tm (i := 321) (by decide +kernel) (by decide +kernel)
theorem vw_X1_addMark : VW RX1 yX1_addMark cX1_addMark 2 none 1 0 := ⟨im_X1_addMark, se_X1_addMark, ini_X1, cd_X1_addMark, ⟨_, _, rfl⟩, by decide +kernel⟩
theorem ml_X1_67 : Cond.methodLink RX1 67 yX4_isOver ∈ TBL := tm (i := 334) (by decide +kernel) (by decide +kernel)
theorem im_X4_isOver : Cond.instanceMethod yX4_isOver ∈ TBL := tm (i := 335) (by decide +kernel) (by decide +kernel)
theorem se_X4_isOver : Cond.selects RX4 yX4_isOver yX4_isOver ∈ TBL := tm (i := 336) (by decide +kernel) (by decide +kernel)
theorem cd_X4_isOver : Cond.code yX4_isOver cX4_isOver 1 (some .boolean) ∈ TBL := tm (i := 337) (by decide +kernel) (by decide +kernel)
theorem vw_X4_isOver : VW RX4 yX4_isOver cX4_isOver 1 (some .boolean) 0 2 := ⟨im_X4_isOver, se_X4_isOver, ini_X4, cd_X4_isOver, ⟨_, _, rfl⟩, by decide +kernel⟩
theorem kb_m7 : (Int8.ofInt (-7)).toInt32 = (-7 : Int32) := by decide +kernel
theorem ml_X1_63 : Cond.methodLink RX1 63 yX1_putMasked ∈ TBL := tm (i := 327) (by decide +kernel) (by decide +kernel)
theorem im_X1_putMasked : Cond.instanceMethod yX1_putMasked ∈ TBL := tm (i := 329) (by decide +kernel) (by decide +kernel)
theorem se_X1_putMasked : Cond.selects RX1 yX1_putMasked yX1_putMasked ∈ TBL := tm (i := 3) (by decide +kernel) (by decide +kernel)
theorem cd_X1_putMasked : Cond.code yX1_putMasked cX1_putMasked 3 none ∈ TBL := tm (i := 330) (by decide +kernel) (by decide +kernel)
theorem vw_X1_putMasked : VW RX1 yX1_putMasked cX1_putMasked 3 none 2 0 := ⟨im_X1_putMasked, se_X1_putMasked, ini_X1, cd_X1_putMasked, ⟨_, _, rfl⟩, by decide +kernel⟩
theorem kb_m5 : (Int8.ofInt (-5)).toInt32 = (-5 : Int32) := by decide +kernel
theorem ml_X1_60 : Cond.methodLink RX1 60 yX1_meansSomething ∈ TBL := tm (i := 322) (by decide +kernel) (by decide +kernel)
theorem im_X1_meansSomething : Cond.instanceMethod yX1_meansSomething ∈ TBL := tm (i := 324) (by decide +kernel) (by decide +kernel)
theorem se_X1_meansSomething : Cond.selects RX1 yX1_meansSomething yX1_meansSomething ∈ TBL := tm (i := 2) (by decide +kernel) (by decide +kernel)
theorem cd_X1_meansSomething : Cond.code yX1_meansSomething cX1_meansSomething 2 (some .boolean) ∈ TBL := tm (i := 325) (by decide +kernel) (by decide +kernel)
theorem vw_X1_meansSomething : VW RX1 yX1_meansSomething cX1_meansSomething 2 (some .boolean) 1 0 := ⟨im_X1_meansSomething, se_X1_meansSomething, ini_X1, cd_X1_meansSomething, ⟨_, _, rfl⟩, by decide +kernel⟩
theorem ki_m1 : Int32.ofInt (-1) = (-1 : Int32) := by decide +kernel
theorem kb_102 : (Int8.ofInt (102)).toInt32 = (102 : Int32) := by decide +kernel
theorem kb_57 : (Int8.ofInt (57)).toInt32 = (57 : Int32) := by decide +kernel
theorem kb_33 : (Int8.ofInt (33)).toInt32 = (33 : Int32) := by decide +kernel
theorem kb_126 : (Int8.ofInt (126)).toInt32 = (126 : Int32) := by decide +kernel
theorem pn_X6 : plainName RX6 = true := by decide +kernel
theorem ml_X1_89 : Cond.methodLink RX1 89 yX1_valueOfDigit ∈ TBL := tm (i := 392) (by decide +kernel) (by decide +kernel)
theorem sm_X1_valueOfDigit : Cond.static yX1_valueOfDigit ∈ TBL := tm (i := 213) (by decide +kernel) (by decide +kernel)
theorem cd_X1_valueOfDigit : Cond.code yX1_valueOfDigit cX1_valueOfDigit 1 (some .int) ∈ TBL := tm (i := 214) (by decide +kernel) (by decide +kernel)
theorem sw_X1_valueOfDigit : SW yX1_valueOfDigit cX1_valueOfDigit 1 (some .int) 1 := ⟨sm_X1_valueOfDigit, ini_X1, cd_X1_valueOfDigit, by decide +kernel⟩
theorem sm_X6_isSign : Cond.static yX6_isSign ∈ TBL := tm (i := 182) (by decide +kernel) (by decide +kernel)
theorem ini_X6 : Cond.initialized RX6 ∈ TBL := tm (i := 39) (by decide +kernel) (by decide +kernel)
theorem cd_X6_isSign : Cond.code yX6_isSign cX6_isSign 1 (some .boolean) ∈ TBL := tm (i := 183) (by decide +kernel) (by decide +kernel)
theorem sw_X6_isSign : SW yX6_isSign cX6_isSign 1 (some .boolean) 1 := ⟨sm_X6_isSign, ini_X6, cd_X6_isSign, by decide +kernel⟩
theorem kb_16 : (Int8.ofInt (16)).toInt32 = (16 : Int32) := by decide +kernel
theorem ks_400 : (Int16.ofInt (400)).toInt32 = (400 : Int32) := by decide +kernel
theorem ml_X1_78 : Cond.methodLink RX1 78 yX1_endsAt ∈ TBL := tm (i := 384) (by decide +kernel) (by decide +kernel)
theorem im_X1_endsAt : Cond.instanceMethod yX1_endsAt ∈ TBL := tm (i := 386) (by decide +kernel) (by decide +kernel)
theorem se_X1_endsAt : Cond.selects RX1 yX1_endsAt yX1_endsAt ∈ TBL := tm (i := 6) (by decide +kernel) (by decide +kernel)
theorem cd_X1_endsAt : Cond.code yX1_endsAt cX1_endsAt 3 (some .boolean) ∈ TBL := tm (i := 387) (by decide +kernel) (by decide +kernel)
theorem vw_X1_endsAt : VW RX1 yX1_endsAt cX1_endsAt 3 (some .boolean) 2 0 := ⟨im_X1_endsAt, se_X1_endsAt, ini_X1, cd_X1_endsAt, ⟨_, _, rfl⟩, by decide +kernel⟩
theorem ml_X1_82 : Cond.methodLink RX1 82 yX1_meantAt ∈ TBL := tm (i := 388) (by decide +kernel) (by decide +kernel)
theorem im_X1_meantAt : Cond.instanceMethod yX1_meantAt ∈ TBL := tm (i := 390) (by decide +kernel) (by decide +kernel)
theorem se_X1_meantAt : Cond.selects RX1 yX1_meantAt yX1_meantAt ∈ TBL := tm (i := 7) (by decide +kernel) (by decide +kernel)
theorem cd_X1_meantAt : Cond.code yX1_meantAt cX1_meantAt 7 (some .int) ∈ TBL := tm (i := 391) (by decide +kernel) (by decide +kernel)
theorem vw_X1_meantAt : VW RX1 yX1_meantAt cX1_meantAt 7 (some .int) 2 0 := ⟨im_X1_meantAt, se_X1_meantAt, ini_X1, cd_X1_meantAt, ⟨_, _, rfl⟩, by decide +kernel⟩
theorem ml_X1_86 : Cond.methodLink RX1 86 yX1_widthOf ∈ TBL := tm (i := 394) (by decide +kernel) (by decide +kernel)
theorem im_X1_widthOf : Cond.instanceMethod yX1_widthOf ∈ TBL := tm (i := 396) (by decide +kernel) (by decide +kernel)
theorem se_X1_widthOf : Cond.selects RX1 yX1_widthOf yX1_widthOf ∈ TBL := tm (i := 8) (by decide +kernel) (by decide +kernel)
theorem cd_X1_widthOf : Cond.code yX1_widthOf cX1_widthOf 2 (some .int) ∈ TBL := tm (i := 397) (by decide +kernel) (by decide +kernel)
theorem vw_X1_widthOf : VW RX1 yX1_widthOf cX1_widthOf 2 (some .int) 1 0 := ⟨im_X1_widthOf, se_X1_widthOf, ini_X1, cd_X1_widthOf, ⟨_, _, rfl⟩, by decide +kernel⟩
theorem ml_X2_44 : Cond.methodLink RX2 44 yX1_valueOfDigit ∈ TBL := tm (i := 212) (by decide +kernel) (by decide +kernel)
theorem kb_50 : (Int8.ofInt (50)).toInt32 = (50 : Int32) := by decide +kernel
theorem kb_51 : (Int8.ofInt (51)).toInt32 = (51 : Int32) := by decide +kernel
theorem ml_X2_9 : Cond.methodLink RX2 9 yX4_at ∈ TBL := tm (i := 204) (by decide +kernel) (by decide +kernel)
theorem ml_X2_15 : Cond.methodLink RX2 15 yX2_canBeMark ∈ TBL := tm (i := 208) (by decide +kernel) (by decide +kernel)
theorem sm_X2_canBeMark : Cond.static yX2_canBeMark ∈ TBL := tm (i := 209) (by decide +kernel) (by decide +kernel)
theorem cd_X2_canBeMark : Cond.code yX2_canBeMark cX2_canBeMark 1 (some .boolean) ∈ TBL := tm (i := 210) (by decide +kernel) (by decide +kernel)
theorem sw_X2_canBeMark : SW yX2_canBeMark cX2_canBeMark 1 (some .boolean) 1 := ⟨sm_X2_canBeMark, ini_X2, cd_X2_canBeMark, by decide +kernel⟩
theorem ml_X2_47 : Cond.methodLink RX2 47 yX4_hasAhead ∈ TBL := tm (i := 224) (by decide +kernel) (by decide +kernel)
theorem ml_X2_21 : Cond.methodLink RX2 21 yX2_canBeWay ∈ TBL := tm (i := 215) (by decide +kernel) (by decide +kernel)
theorem sm_X2_canBeWay : Cond.static yX2_canBeWay ∈ TBL := tm (i := 216) (by decide +kernel) (by decide +kernel)
theorem cd_X2_canBeWay : Cond.code yX2_canBeWay cX2_canBeWay 2 (some .boolean) ∈ TBL := tm (i := 217) (by decide +kernel) (by decide +kernel)
theorem sw_X2_canBeWay : SW yX2_canBeWay cX2_canBeWay 2 (some .boolean) 2 := ⟨sm_X2_canBeWay, ini_X2, cd_X2_canBeWay, by decide +kernel⟩
theorem ml_X2_34 : Cond.methodLink RX2 34 yX2_firstHeld ∈ TBL := tm (i := 228) (by decide +kernel) (by decide +kernel)
theorem ml_X2_37 : Cond.methodLink RX2 37 yX4_size ∈ TBL := tm (i := 231) (by decide +kernel) (by decide +kernel)
theorem ml_X2_30 : Cond.methodLink RX2 30 yX2_isNewSign ∈ TBL := tm (i := 221) (by decide +kernel) (by decide +kernel)
theorem sm_X2_isNewSign : Cond.static yX2_isNewSign ∈ TBL := tm (i := 222) (by decide +kernel) (by decide +kernel)
theorem cd_X2_isNewSign : Cond.code yX2_isNewSign cX2_isNewSign 3 (some .boolean) ∈ TBL := tm (i := 223) (by decide +kernel) (by decide +kernel)
theorem sw_X2_isNewSign : SW yX2_isNewSign cX2_isNewSign 3 (some .boolean) 2 := ⟨sm_X2_isNewSign, ini_X2, cd_X2_isNewSign, by decide +kernel⟩
theorem fl_X3_23 : Cond.fieldLink RX3 23 (TX3 2).1 (TX3 2).2.1 (TX3 2).2.2.1 ∈ TBL := tm (i := 135) (by decide +kernel) (by decide +kernel)
theorem uin_X3 : ∀ w ∈ u_ws RX3 TX3 5, w ∈ TBL := of_places [138, 140, 142, 144, 146] (by decide +kernel) (by decide +kernel)
theorem fl_X3_14 : Cond.fieldLink RX3 14 (TX3 0).1 (TX3 0).2.1 (TX3 0).2.2.1 ∈ TBL := tm (i := 133) (by decide +kernel) (by decide +kernel)
theorem fl_X3_20 : Cond.fieldLink RX3 20 (TX3 1).1 (TX3 1).2.1 (TX3 1).2.2.1 ∈ TBL := tm (i := 134) (by decide +kernel) (by decide +kernel)
theorem pn_X3 : plainName RX3 = true := by decide +kernel
theorem fl_X3_27 : Cond.fieldLink RX3 27 (TX3 3).1 (TX3 3).2.1 (TX3 3).2.2.1 ∈ TBL := tm (i := 136) (by decide +kernel) (by decide +kernel)
theorem fl_X3_31 : Cond.fieldLink RX3 31 (TX3 4).1 (TX3 4).2.1 (TX3 4).2.2.1 ∈ TBL := tm (i := 137) (by decide +kernel) (by decide +kernel)
theorem ml_X3_34 : Cond.methodLink RX3 34 yX3_here ∈ TBL := tm (i := 302) (by decide +kernel) (by decide +kernel)
theorem im_X3_here : Cond.instanceMethod yX3_here ∈ TBL := tm (i := 303) (by decide +kernel) (by decide +kernel)
theorem se_X3_here : Cond.selects RX3 yX3_here yX3_here ∈ TBL := tm (i := 304) (by decide +kernel) (by decide +kernel)
theorem ini_X3 : Cond.initialized RX3 ∈ TBL := tm (i := 43) (by decide +kernel) (by decide +kernel)
theorem cd_X3_here : Cond.code yX3_here cX3_here 1 (some (.object "QuotedLayers$Row")) ∈ TBL := tm (i := 305) (by decide +kernel) (by decide +kernel)
theorem vw_X3_here : VW RX3 yX3_here cX3_here 1 (some (.object "QuotedLayers$Row")) 0 1 := ⟨im_X3_here, se_X3_here, ini_X3, cd_X3_here, ⟨_, _, rfl⟩, by decide +kernel⟩
theorem ml_X3_38 : Cond.methodLink RX3 38 yX4_copyFrom ∈ TBL := tm (i := 306) (by decide +kernel) (by decide +kernel)
theorem fl_X5_18 : Cond.fieldLink RX5 18 (TX5 1).1 (TX5 1).2.1 (TX5 1).2.2.1 ∈ TBL := tm (i := 107) (by decide +kernel) (by decide +kernel)
theorem uin_X5 : ∀ w ∈ u_ws RX5 TX5 5, w ∈ TBL := of_places [114, 116, 118, 120, 122] (by decide +kernel) (by decide +kernel)
theorem fl_X5_11 : Cond.fieldLink RX5 11 (TX5 0).1 (TX5 0).2.1 (TX5 0).2.2.1 ∈ TBL := tm (i := 106) (by decide +kernel) (by decide +kernel)
theorem pn_X5 : plainName RX5 = true := by decide +kernel
theorem ml_X3_42 : Cond.methodLink RX3 42 yX4_size ∈ TBL := tm (i := 307) (by decide +kernel) (by decide +kernel)
theorem ml_X3_46 : Cond.methodLink RX3 46 yX4_at ∈ TBL := tm (i := 308) (by decide +kernel) (by decide +kernel)
theorem ml_X3_50 : Cond.methodLink RX3 50 yX5_layerAt ∈ TBL := tm (i := 309) (by decide +kernel) (by decide +kernel)
theorem im_X5_layerAt : Cond.instanceMethod yX5_layerAt ∈ TBL := tm (i := 240) (by decide +kernel) (by decide +kernel)
theorem se_X5_layerAt : Cond.selects RX5 yX5_layerAt yX5_layerAt ∈ TBL := tm (i := 241) (by decide +kernel) (by decide +kernel)
theorem ini_X5 : Cond.initialized RX5 ∈ TBL := tm (i := 41) (by decide +kernel) (by decide +kernel)
theorem cd_X5_layerAt : Cond.code yX5_layerAt cX5_layerAt 2 (some (.object "QuotedLayers$Layer")) ∈ TBL := tm (i := 242) (by decide +kernel) (by decide +kernel)
theorem vw_X5_layerAt : VW RX5 yX5_layerAt cX5_layerAt 2 (some (.object "QuotedLayers$Layer")) 1 3 := ⟨im_X5_layerAt, se_X5_layerAt, ini_X5, cd_X5_layerAt, ⟨_, _, rfl⟩, by decide +kernel⟩
theorem ml_X3_56 : Cond.methodLink RX3 56 yX3_there ∈ TBL := tm (i := 310) (by decide +kernel) (by decide +kernel)
theorem im_X3_there : Cond.instanceMethod yX3_there ∈ TBL := tm (i := 312) (by decide +kernel) (by decide +kernel)
theorem se_X3_there : Cond.selects RX3 yX3_there yX3_there ∈ TBL := tm (i := 0) (by decide +kernel) (by decide +kernel)
theorem cd_X3_there : Cond.code yX3_there cX3_there 1 (some (.object "QuotedLayers$Row")) ∈ TBL := tm (i := 313) (by decide +kernel) (by decide +kernel)
theorem vw_X3_there : VW RX3 yX3_there cX3_there 1 (some (.object "QuotedLayers$Row")) 0 1 := ⟨im_X3_there, se_X3_there, ini_X3, cd_X3_there, ⟨_, _, rfl⟩, by decide +kernel⟩
theorem ml_X3_59 : Cond.methodLink RX3 59 yX1_put ∈ TBL := tm (i := 314) (by decide +kernel) (by decide +kernel)
theorem im_X1_put : Cond.instanceMethod yX1_put ∈ TBL := tm (i := 315) (by decide +kernel) (by decide +kernel)
theorem se_X1_put : Cond.selects RX1 yX1_put yX1_put ∈ TBL := tm (i := 316) (by decide +kernel) (by decide +kernel)
theorem cd_X1_put : Cond.code yX1_put cX1_put 7 (some .int) ∈ TBL := tm (i := 317) (by decide +kernel) (by decide +kernel)
theorem vw_X1_put : VW RX1 yX1_put cX1_put 7 (some .int) 3 0 := ⟨im_X1_put, se_X1_put, ini_X1, cd_X1_put, ⟨_, _, rfl⟩, by decide +kernel⟩
theorem ml_X3_65 : Cond.methodLink RX3 65 yX3_step ∈ TBL := tm (i := 338) (by decide +kernel) (by decide +kernel)
theorem im_X3_step : Cond.instanceMethod yX3_step ∈ TBL := tm (i := 340) (by decide +kernel) (by decide +kernel)
theorem se_X3_step : Cond.selects RX3 yX3_step yX3_step ∈ TBL := tm (i := 4) (by decide +kernel) (by decide +kernel)
theorem cd_X3_step : Cond.code yX3_step cX3_step 1 none ∈ TBL := tm (i := 341) (by decide +kernel) (by decide +kernel)
theorem vw_X3_step : VW RX3 yX3_step cX3_step 1 none 0 1 := ⟨im_X3_step, se_X3_step, ini_X3, cd_X3_step, ⟨_, _, rfl⟩, by decide +kernel⟩
theorem ml_X3_68 : Cond.methodLink RX3 68 yX1_takeOff ∈ TBL := tm (i := 380) (by decide +kernel) (by decide +kernel)
theorem im_X1_takeOff : Cond.instanceMethod yX1_takeOff ∈ TBL := tm (i := 381) (by decide +kernel) (by decide +kernel)
theorem se_X1_takeOff : Cond.selects RX1 yX1_takeOff yX1_takeOff ∈ TBL := tm (i := 382) (by decide +kernel) (by decide +kernel)
theorem cd_X1_takeOff : Cond.code yX1_takeOff cX1_takeOff 6 (some .int) ∈ TBL := tm (i := 383) (by decide +kernel) (by decide +kernel)
theorem vw_X1_takeOff : VW RX1 yX1_takeOff cX1_takeOff 6 (some .int) 2 0 := ⟨im_X1_takeOff, se_X1_takeOff, ini_X1, cd_X1_takeOff, ⟨_, _, rfl⟩, by decide +kernel⟩
theorem ki_5 : Int32.ofInt (5) = (5 : Int32) := by decide +kernel
theorem fl_X5_27 : Cond.fieldLink RX5 27 (TX5 2).1 (TX5 2).2.1 (TX5 2).2.2.1 ∈ TBL := tm (i := 108) (by decide +kernel) (by decide +kernel)
theorem ml_X5_49 : Cond.methodLink RX5 49 yX4_copyFrom ∈ TBL := tm (i := 511) (by decide +kernel) (by decide +kernel)
theorem fl_X5_31 : Cond.fieldLink RX5 31 (TX5 3).1 (TX5 3).2.1 (TX5 3).2.2.1 ∈ TBL := tm (i := 110) (by decide +kernel) (by decide +kernel)
theorem ml_X5_41 : Cond.methodLink RX5 41 yX5_layerAt ∈ TBL := tm (i := 505) (by decide +kernel) (by decide +kernel)
theorem ml_X5_45 : Cond.methodLink RX5 45 yX1_copyFrom ∈ TBL := tm (i := 506) (by decide +kernel) (by decide +kernel)
theorem im_X1_copyFrom : Cond.instanceMethod yX1_copyFrom ∈ TBL := tm (i := 507) (by decide +kernel) (by decide +kernel)
theorem se_X1_copyFrom : Cond.selects RX1 yX1_copyFrom yX1_copyFrom ∈ TBL := tm (i := 508) (by decide +kernel) (by decide +kernel)
theorem cd_X1_copyFrom : Cond.code yX1_copyFrom cX1_copyFrom 2 none ∈ TBL := tm (i := 509) (by decide +kernel) (by decide +kernel)
theorem vw_X1_copyFrom : VW RX1 yX1_copyFrom cX1_copyFrom 2 none 1 0 := ⟨im_X1_copyFrom, se_X1_copyFrom, ini_X1, cd_X1_copyFrom, ⟨_, _, rfl⟩, by decide +kernel⟩
theorem ml_X6_50 : Cond.methodLink RX6 50 yX6_isSign ∈ TBL := tm (i := 181) (by decide +kernel) (by decide +kernel)
theorem fl_X6_14 : Cond.fieldLink RX6 14 (TX6 0).1 (TX6 0).2.1 (TX6 0).2.2.1 ∈ TBL := tm (i := 149) (by decide +kernel) (by decide +kernel)
theorem uin_X6 : ∀ w ∈ u_ws RX6 TX6 9, w ∈ TBL := of_places [158, 160, 162, 164, 166, 168, 170, 172, 174] (by decide +kernel) (by decide +kernel)
theorem ml_X6_54 : Cond.methodLink RX6 54 yX4_size ∈ TBL := tm (i := 184) (by decide +kernel) (by decide +kernel)
theorem kb_60 : (Int8.ofInt (60)).toInt32 = (60 : Int32) := by decide +kernel
theorem ml_X6_58 : Cond.methodLink RX6 58 yX4_add ∈ TBL := tm (i := 188) (by decide +kernel) (by decide +kernel)
theorem kb_m4 : (Int8.ofInt (-4)).toInt32 = (-4 : Int32) := by decide +kernel
theorem kb_m2 : (Int8.ofInt (-2)).toInt32 = (-2 : Int32) := by decide +kernel
theorem ml_X6_61 : Cond.methodLink RX6 61 yX4_clear ∈ TBL := tm (i := 193) (by decide +kernel) (by decide +kernel)
theorem ml_X6_64 : Cond.methodLink RX6 64 yX2_faultIn ∈ TBL := tm (i := 201) (by decide +kernel) (by decide +kernel)
theorem sm_X2_faultIn : Cond.static yX2_faultIn ∈ TBL := tm (i := 202) (by decide +kernel) (by decide +kernel)
theorem cd_X2_faultIn : Cond.code yX2_faultIn cX2_faultIn 5 (some .int) ∈ TBL := tm (i := 203) (by decide +kernel) (by decide +kernel)
theorem sw_X2_faultIn : SW yX2_faultIn cX2_faultIn 5 (some .int) 1 := ⟨sm_X2_faultIn, ini_X2, cd_X2_faultIn, by decide +kernel⟩
theorem ml_X6_70 : Cond.methodLink RX6 70 yX6_isLayer ∈ TBL := tm (i := 236) (by decide +kernel) (by decide +kernel)
theorem sm_X6_isLayer : Cond.static yX6_isLayer ∈ TBL := tm (i := 237) (by decide +kernel) (by decide +kernel)
theorem cd_X6_isLayer : Cond.code yX6_isLayer cX6_isLayer 1 (some .boolean) ∈ TBL := tm (i := 238) (by decide +kernel) (by decide +kernel)
theorem sw_X6_isLayer : SW yX6_isLayer cX6_isLayer 1 (some .boolean) 1 := ⟨sm_X6_isLayer, ini_X6, cd_X6_isLayer, by decide +kernel⟩
theorem fl_X6_21 : Cond.fieldLink RX6 21 (TX6 1).1 (TX6 1).2.1 (TX6 1).2.2.1 ∈ TBL := tm (i := 150) (by decide +kernel) (by decide +kernel)
theorem ml_X6_73 : Cond.methodLink RX6 73 yX5_layerAt ∈ TBL := tm (i := 239) (by decide +kernel) (by decide +kernel)
theorem ml_X6_77 : Cond.methodLink RX6 77 yX1_become ∈ TBL := tm (i := 243) (by decide +kernel) (by decide +kernel)
theorem im_X1_become : Cond.instanceMethod yX1_become ∈ TBL := tm (i := 244) (by decide +kernel) (by decide +kernel)
theorem se_X1_become : Cond.selects RX1 yX1_become yX1_become ∈ TBL := tm (i := 245) (by decide +kernel) (by decide +kernel)
theorem cd_X1_become : Cond.code yX1_become cX1_become 3 none ∈ TBL := tm (i := 246) (by decide +kernel) (by decide +kernel)
theorem vw_X1_become : VW RX1 yX1_become cX1_become 3 none 1 0 := ⟨im_X1_become, se_X1_become, ini_X1, cd_X1_become, ⟨_, _, rfl⟩, by decide +kernel⟩
theorem ml_X6_83 : Cond.methodLink RX6 83 yX1_heldCount ∈ TBL := tm (i := 253) (by decide +kernel) (by decide +kernel)
theorem im_X1_heldCount : Cond.instanceMethod yX1_heldCount ∈ TBL := tm (i := 254) (by decide +kernel) (by decide +kernel)
theorem se_X1_heldCount : Cond.selects RX1 yX1_heldCount yX1_heldCount ∈ TBL := tm (i := 255) (by decide +kernel) (by decide +kernel)
theorem cd_X1_heldCount : Cond.code yX1_heldCount cX1_heldCount 1 (some .int) ∈ TBL := tm (i := 256) (by decide +kernel) (by decide +kernel)
theorem vw_X1_heldCount : VW RX1 yX1_heldCount cX1_heldCount 1 (some .int) 0 0 := ⟨im_X1_heldCount, se_X1_heldCount, ini_X1, cd_X1_heldCount, ⟨_, _, rfl⟩, by decide +kernel⟩
theorem kb_8 : (Int8.ofInt (8)).toInt32 = (8 : Int32) := by decide +kernel
theorem ml_X6_86 : Cond.methodLink RX6 86 yX1_part ∈ TBL := tm (i := 261) (by decide +kernel) (by decide +kernel)
theorem im_X1_part : Cond.instanceMethod yX1_part ∈ TBL := tm (i := 262) (by decide +kernel) (by decide +kernel)
theorem se_X1_part : Cond.selects RX1 yX1_part yX1_part ∈ TBL := tm (i := 263) (by decide +kernel) (by decide +kernel)
theorem cd_X1_part : Cond.code yX1_part cX1_part 2 (some .int) ∈ TBL := tm (i := 264) (by decide +kernel) (by decide +kernel)
theorem vw_X1_part : VW RX1 yX1_part cX1_part 2 (some .int) 1 0 := ⟨im_X1_part, se_X1_part, ini_X1, cd_X1_part, ⟨_, _, rfl⟩, by decide +kernel⟩
theorem fl_X6_90 : Cond.fieldLink RX6 90 (TX5 2).1 (TX5 2).2.1 (TX5 2).2.2.1 ∈ TBL := tm (i := 109) (by decide +kernel) (by decide +kernel)
theorem ml_X6_93 : Cond.methodLink RX6 93 yX4_dropLast ∈ TBL := tm (i := 273) (by decide +kernel) (by decide +kernel)
theorem im_X4_dropLast : Cond.instanceMethod yX4_dropLast ∈ TBL := tm (i := 274) (by decide +kernel) (by decide +kernel)
theorem se_X4_dropLast : Cond.selects RX4 yX4_dropLast yX4_dropLast ∈ TBL := tm (i := 275) (by decide +kernel) (by decide +kernel)
theorem cd_X4_dropLast : Cond.code yX4_dropLast cX4_dropLast 1 none ∈ TBL := tm (i := 276) (by decide +kernel) (by decide +kernel)
theorem vw_X4_dropLast : VW RX4 yX4_dropLast cX4_dropLast 1 none 0 2 := ⟨im_X4_dropLast, se_X4_dropLast, ini_X4, cd_X4_dropLast, ⟨_, _, rfl⟩, by decide +kernel⟩
theorem kb_12 : (Int8.ofInt (12)).toInt32 = (12 : Int32) := by decide +kernel
theorem fl_X6_96 : Cond.fieldLink RX6 96 (TX5 3).1 (TX5 3).2.1 (TX5 3).2.2.1 ∈ TBL := tm (i := 111) (by decide +kernel) (by decide +kernel)
theorem ml_X6_99 : Cond.methodLink RX6 99 yX4_copyFrom ∈ TBL := tm (i := 281) (by decide +kernel) (by decide +kernel)
theorem fl_X6_41 : Cond.fieldLink RX6 41 (TX6 6).1 (TX6 6).2.1 (TX6 6).2.2.1 ∈ TBL := tm (i := 155) (by decide +kernel) (by decide +kernel)
theorem ml_X6_102 : Cond.methodLink RX6 102 yX4_copyFirst ∈ TBL := tm (i := 297) (by decide +kernel) (by decide +kernel)
theorem fl_X6_34 : Cond.fieldLink RX6 34 (TX6 4).1 (TX6 4).2.1 (TX6 4).2.2.1 ∈ TBL := tm (i := 153) (by decide +kernel) (by decide +kernel)
theorem ml_X6_106 : Cond.methodLink RX6 106 yX3_putThrough ∈ TBL := tm (i := 298) (by decide +kernel) (by decide +kernel)
theorem im_X3_putThrough : Cond.instanceMethod yX3_putThrough ∈ TBL := tm (i := 299) (by decide +kernel) (by decide +kernel)
theorem se_X3_putThrough : Cond.selects RX3 yX3_putThrough yX3_putThrough ∈ TBL := tm (i := 300) (by decide +kernel) (by decide +kernel)
theorem cd_X3_putThrough : Cond.code yX3_putThrough cX3_putThrough 7 (some .int) ∈ TBL := tm (i := 301) (by decide +kernel) (by decide +kernel)
theorem vw_X3_putThrough : VW RX3 yX3_putThrough cX3_putThrough 7 (some .int) 4 1 := ⟨im_X3_putThrough, se_X3_putThrough, ini_X3, cd_X3_putThrough, ⟨_, _, rfl⟩, by decide +kernel⟩
theorem ml_X6_110 : Cond.methodLink RX6 110 yX3_here ∈ TBL := tm (i := 342) (by decide +kernel) (by decide +kernel)
theorem ml_X6_114 : Cond.methodLink RX6 114 yX4_at ∈ TBL := tm (i := 343) (by decide +kernel) (by decide +kernel)
theorem ml_X6_117 : Cond.methodLink RX6 117 yX3_barringPlace ∈ TBL := tm (i := 348) (by decide +kernel) (by decide +kernel)
theorem im_X3_barringPlace : Cond.instanceMethod yX3_barringPlace ∈ TBL := tm (i := 349) (by decide +kernel) (by decide +kernel)
theorem se_X3_barringPlace : Cond.selects RX3 yX3_barringPlace yX3_barringPlace ∈ TBL := tm (i := 350) (by decide +kernel) (by decide +kernel)
theorem cd_X3_barringPlace : Cond.code yX3_barringPlace cX3_barringPlace 1 (some .int) ∈ TBL := tm (i := 351) (by decide +kernel) (by decide +kernel)
theorem vw_X3_barringPlace : VW RX3 yX3_barringPlace cX3_barringPlace 1 (some .int) 0 1 := ⟨im_X3_barringPlace, se_X3_barringPlace, ini_X3, cd_X3_barringPlace, ⟨_, _, rfl⟩, by decide +kernel⟩
theorem fl_X6_38 : Cond.fieldLink RX6 38 (TX6 5).1 (TX6 5).2.1 (TX6 5).2.2.1 ∈ TBL := tm (i := 154) (by decide +kernel) (by decide +kernel)
theorem kb_120 : (Int8.ofInt (120)).toInt32 = (120 : Int32) := by decide +kernel
theorem ml_X6_120 : Cond.methodLink RX6 120 yX6_lengthOfLone ∈ TBL := tm (i := 356) (by decide +kernel) (by decide +kernel)
theorem im_X6_lengthOfLone : Cond.instanceMethod yX6_lengthOfLone ∈ TBL := tm (i := 358) (by decide +kernel) (by decide +kernel)
theorem se_X6_lengthOfLone : Cond.selects RX6 yX6_lengthOfLone yX6_lengthOfLone ∈ TBL := tm (i := 5) (by decide +kernel) (by decide +kernel)
theorem cd_X6_lengthOfLone : Cond.code yX6_lengthOfLone cX6_lengthOfLone 2 (some .int) ∈ TBL := tm (i := 359) (by decide +kernel) (by decide +kernel)
theorem vw_X6_lengthOfLone : VW RX6 yX6_lengthOfLone cX6_lengthOfLone 2 (some .int) 1 4 := ⟨im_X6_lengthOfLone, se_X6_lengthOfLone, ini_X6, cd_X6_lengthOfLone, ⟨_, _, rfl⟩, by decide +kernel⟩
theorem ml_X6_123 : Cond.methodLink RX6 123 yX3_begin ∈ TBL := tm (i := 372) (by decide +kernel) (by decide +kernel)
theorem im_X3_begin : Cond.instanceMethod yX3_begin ∈ TBL := tm (i := 373) (by decide +kernel) (by decide +kernel)
theorem se_X3_begin : Cond.selects RX3 yX3_begin yX3_begin ∈ TBL := tm (i := 374) (by decide +kernel) (by decide +kernel)
theorem cd_X3_begin : Cond.code yX3_begin cX3_begin 2 none ∈ TBL := tm (i := 375) (by decide +kernel) (by decide +kernel)
theorem vw_X3_begin : VW RX3 yX3_begin cX3_begin 2 none 1 1 := ⟨im_X3_begin, se_X3_begin, ini_X3, cd_X3_begin, ⟨_, _, rfl⟩, by decide +kernel⟩
theorem ml_X6_126 : Cond.methodLink RX6 126 yX3_readBack ∈ TBL := tm (i := 376) (by decide +kernel) (by decide +kernel)
theorem im_X3_readBack : Cond.instanceMethod yX3_readBack ∈ TBL := tm (i := 377) (by decide +kernel) (by decide +kernel)
theorem se_X3_readBack : Cond.selects RX3 yX3_readBack yX3_readBack ∈ TBL := tm (i := 378) (by decide +kernel) (by decide +kernel)
theorem cd_X3_readBack : Cond.code yX3_readBack cX3_readBack 4 (some .int) ∈ TBL := tm (i := 379) (by decide +kernel) (by decide +kernel)
theorem vw_X3_readBack : VW RX3 yX3_readBack cX3_readBack 4 (some .int) 2 1 := ⟨im_X3_readBack, se_X3_readBack, ini_X3, cd_X3_readBack, ⟨_, _, rfl⟩, by decide +kernel⟩
theorem kb_m3 : (Int8.ofInt (-3)).toInt32 = (-3 : Int32) := by decide +kernel
theorem ml_X6_130 : Cond.methodLink RX6 130 yX3_badSign ∈ TBL := tm (i := 398) (by decide +kernel) (by decide +kernel)
theorem im_X3_badSign : Cond.instanceMethod yX3_badSign ∈ TBL := tm (i := 399) (by decide +kernel) (by decide +kernel)
theorem se_X3_badSign : Cond.selects RX3 yX3_badSign yX3_badSign ∈ TBL := tm (i := 400) (by decide +kernel) (by decide +kernel)
theorem cd_X3_badSign : Cond.code yX3_badSign cX3_badSign 1 (some .int) ∈ TBL := tm (i := 401) (by decide +kernel) (by decide +kernel)
theorem vw_X3_badSign : VW RX3 yX3_badSign cX3_badSign 1 (some .int) 0 1 := ⟨im_X3_badSign, se_X3_badSign, ini_X3, cd_X3_badSign, ⟨_, _, rfl⟩, by decide +kernel⟩
theorem ml_X6_180 : Cond.methodLink RX6 180 yX4_sameAs ∈ TBL := tm (i := 414) (by decide +kernel) (by decide +kernel)
theorem im_X4_sameAs : Cond.instanceMethod yX4_sameAs ∈ TBL := tm (i := 415) (by decide +kernel) (by decide +kernel)
theorem se_X4_sameAs : Cond.selects RX4 yX4_sameAs yX4_sameAs ∈ TBL := tm (i := 416) (by decide +kernel) (by decide +kernel)
theorem cd_X4_sameAs : Cond.code yX4_sameAs cX4_sameAs 3 (some .boolean) ∈ TBL := tm (i := 417) (by decide +kernel) (by decide +kernel)
theorem vw_X4_sameAs : VW RX4 yX4_sameAs cX4_sameAs 3 (some .boolean) 1 2 := ⟨im_X4_sameAs, se_X4_sameAs, ini_X4, cd_X4_sameAs, ⟨_, _, rfl⟩, by decide +kernel⟩
theorem ml_X6_133 : Cond.methodLink RX6 133 yX6_isPlace ∈ TBL := tm (i := 406) (by decide +kernel) (by decide +kernel)
theorem im_X6_isPlace : Cond.instanceMethod yX6_isPlace ∈ TBL := tm (i := 408) (by decide +kernel) (by decide +kernel)
theorem se_X6_isPlace : Cond.selects RX6 yX6_isPlace yX6_isPlace ∈ TBL := tm (i := 9) (by decide +kernel) (by decide +kernel)
theorem cd_X6_isPlace : Cond.code yX6_isPlace cX6_isPlace 2 (some .boolean) ∈ TBL := tm (i := 409) (by decide +kernel) (by decide +kernel)
theorem vw_X6_isPlace : VW RX6 yX6_isPlace cX6_isPlace 2 (some .boolean) 1 4 := ⟨im_X6_isPlace, se_X6_isPlace, ini_X6, cd_X6_isPlace, ⟨_, _, rfl⟩, by decide +kernel⟩
theorem ml_X6_136 : Cond.methodLink RX6 136 yX6_outcome ∈ TBL := tm (i := 410) (by decide +kernel) (by decide +kernel)
theorem im_X6_outcome : Cond.instanceMethod yX6_outcome ∈ TBL := tm (i := 412) (by decide +kernel) (by decide +kernel)
theorem se_X6_outcome : Cond.selects RX6 yX6_outcome yX6_outcome ∈ TBL := tm (i := 10) (by decide +kernel) (by decide +kernel)
theorem cd_X6_outcome : Cond.code yX6_outcome cX6_outcome 5 (some .int) ∈ TBL := tm (i := 413) (by decide +kernel) (by decide +kernel)
theorem vw_X6_outcome : VW RX6 yX6_outcome cX6_outcome 5 (some .int) 3 4 := ⟨im_X6_outcome, se_X6_outcome, ini_X6, cd_X6_outcome, ⟨_, _, rfl⟩, by decide +kernel⟩
theorem ml_X6_183 : Cond.methodLink RX6 183 yX4_hasAhead ∈ TBL := tm (i := 426) (by decide +kernel) (by decide +kernel)
theorem fl_X6_44 : Cond.fieldLink RX6 44 (TX6 7).1 (TX6 7).2.1 (TX6 7).2.2.1 ∈ TBL := tm (i := 156) (by decide +kernel) (by decide +kernel)
theorem ml_X6_147 : Cond.methodLink RX6 147 yX4_fillZeros ∈ TBL := tm (i := 431) (by decide +kernel) (by decide +kernel)
theorem im_X4_fillZeros : Cond.instanceMethod yX4_fillZeros ∈ TBL := tm (i := 432) (by decide +kernel) (by decide +kernel)
theorem se_X4_fillZeros : Cond.selects RX4 yX4_fillZeros yX4_fillZeros ∈ TBL := tm (i := 433) (by decide +kernel) (by decide +kernel)
theorem cd_X4_fillZeros : Cond.code yX4_fillZeros cX4_fillZeros 3 (some .boolean) ∈ TBL := tm (i := 434) (by decide +kernel) (by decide +kernel)
theorem vw_X4_fillZeros : VW RX4 yX4_fillZeros cX4_fillZeros 3 (some .boolean) 1 2 := ⟨im_X4_fillZeros, se_X4_fillZeros, ini_X4, cd_X4_fillZeros, ⟨_, _, rfl⟩, by decide +kernel⟩
theorem ks_625 : (Int16.ofInt (625)).toInt32 = (625 : Int32) := by decide +kernel
theorem ml_X6_187 : Cond.methodLink RX6 187 yX6_spellTrial ∈ TBL := tm (i := 435) (by decide +kernel) (by decide +kernel)
theorem im_X6_spellTrial : Cond.instanceMethod yX6_spellTrial ∈ TBL := tm (i := 437) (by decide +kernel) (by decide +kernel)
theorem se_X6_spellTrial : Cond.selects RX6 yX6_spellTrial yX6_spellTrial ∈ TBL := tm (i := 13) (by decide +kernel) (by decide +kernel)
theorem cd_X6_spellTrial : Cond.code yX6_spellTrial cX6_spellTrial 2 none ∈ TBL := tm (i := 438) (by decide +kernel) (by decide +kernel)
theorem vw_X6_spellTrial : VW RX6 yX6_spellTrial cX6_spellTrial 2 none 0 4 := ⟨im_X6_spellTrial, se_X6_spellTrial, ini_X6, cd_X6_spellTrial, ⟨_, _, rfl⟩, by decide +kernel⟩
theorem ml_X6_157 : Cond.methodLink RX6 157 yX0_nextDigits ∈ TBL := tm (i := 439) (by decide +kernel) (by decide +kernel)
theorem sm_X0_nextDigits : Cond.static yX0_nextDigits ∈ TBL := tm (i := 440) (by decide +kernel) (by decide +kernel)
theorem cd_X0_nextDigits : Cond.code yX0_nextDigits cX0_nextDigits 3 (some .boolean) ∈ TBL := tm (i := 441) (by decide +kernel) (by decide +kernel)
theorem sw_X0_nextDigits : SW yX0_nextDigits cX0_nextDigits 3 (some .boolean) 2 := ⟨sm_X0_nextDigits, ini_X0, cd_X0_nextDigits, by decide +kernel⟩
theorem ml_X6_140 : Cond.methodLink RX6 140 yX6_padIsSpillRow ∈ TBL := tm (i := 422) (by decide +kernel) (by decide +kernel)
theorem im_X6_padIsSpillRow : Cond.instanceMethod yX6_padIsSpillRow ∈ TBL := tm (i := 424) (by decide +kernel) (by decide +kernel)
theorem se_X6_padIsSpillRow : Cond.selects RX6 yX6_padIsSpillRow yX6_padIsSpillRow ∈ TBL := tm (i := 11) (by decide +kernel) (by decide +kernel)
theorem cd_X6_padIsSpillRow : Cond.code yX6_padIsSpillRow cX6_padIsSpillRow 2 (some .boolean) ∈ TBL := tm (i := 425) (by decide +kernel) (by decide +kernel)
theorem vw_X6_padIsSpillRow : VW RX6 yX6_padIsSpillRow cX6_padIsSpillRow 2 (some .boolean) 0 4 := ⟨im_X6_padIsSpillRow, se_X6_padIsSpillRow, ini_X6, cd_X6_padIsSpillRow, ⟨_, _, rfl⟩, by decide +kernel⟩
theorem ml_X6_144 : Cond.methodLink RX6 144 yX6_findShortestSpill ∈ TBL := tm (i := 427) (by decide +kernel) (by decide +kernel)
theorem im_X6_findShortestSpill : Cond.instanceMethod yX6_findShortestSpill ∈ TBL := tm (i := 429) (by decide +kernel) (by decide +kernel)
theorem se_X6_findShortestSpill : Cond.selects RX6 yX6_findShortestSpill yX6_findShortestSpill ∈ TBL := tm (i := 12) (by decide +kernel) (by decide +kernel)
theorem cd_X6_findShortestSpill : Cond.code yX6_findShortestSpill cX6_findShortestSpill 6 (some .boolean) ∈ TBL := tm (i := 430) (by decide +kernel) (by decide +kernel)
theorem vw_X6_findShortestSpill : VW RX6 yX6_findShortestSpill cX6_findShortestSpill 6 (some .boolean) 1 4 := ⟨im_X6_findShortestSpill, se_X6_findShortestSpill, ini_X6, cd_X6_findShortestSpill, ⟨_, _, rfl⟩, by decide +kernel⟩
theorem ml_X6_190 : Cond.methodLink RX6 190 yX1_isAsAtFirst ∈ TBL := tm (i := 460) (by decide +kernel) (by decide +kernel)
theorem im_X1_isAsAtFirst : Cond.instanceMethod yX1_isAsAtFirst ∈ TBL := tm (i := 461) (by decide +kernel) (by decide +kernel)
theorem se_X1_isAsAtFirst : Cond.selects RX1 yX1_isAsAtFirst yX1_isAsAtFirst ∈ TBL := tm (i := 462) (by decide +kernel) (by decide +kernel)
theorem cd_X1_isAsAtFirst : Cond.code yX1_isAsAtFirst cX1_isAsAtFirst 1 (some .boolean) ∈ TBL := tm (i := 463) (by decide +kernel) (by decide +kernel)
theorem vw_X1_isAsAtFirst : VW RX1 yX1_isAsAtFirst cX1_isAsAtFirst 1 (some .boolean) 0 0 := ⟨im_X1_isAsAtFirst, se_X1_isAsAtFirst, ini_X1, cd_X1_isAsAtFirst, ⟨_, _, rfl⟩, by decide +kernel⟩
theorem ml_X6_150 : Cond.methodLink RX6 150 yX6_readsPadWholly ∈ TBL := tm (i := 456) (by decide +kernel) (by decide +kernel)
theorem im_X6_readsPadWholly : Cond.instanceMethod yX6_readsPadWholly ∈ TBL := tm (i := 458) (by decide +kernel) (by decide +kernel)
theorem se_X6_readsPadWholly : Cond.selects RX6 yX6_readsPadWholly yX6_readsPadWholly ∈ TBL := tm (i := 14) (by decide +kernel) (by decide +kernel)
theorem cd_X6_readsPadWholly : Cond.code yX6_readsPadWholly cX6_readsPadWholly 3 (some .boolean) ∈ TBL := tm (i := 459) (by decide +kernel) (by decide +kernel)
theorem vw_X6_readsPadWholly : VW RX6 yX6_readsPadWholly cX6_readsPadWholly 3 (some .boolean) 1 4 := ⟨im_X6_readsPadWholly, se_X6_readsPadWholly, ini_X6, cd_X6_readsPadWholly, ⟨_, _, rfl⟩, by decide +kernel⟩
theorem ml_X6_154 : Cond.methodLink RX6 154 yX6_asDigits ∈ TBL := tm (i := 464) (by decide +kernel) (by decide +kernel)
theorem sm_X6_asDigits : Cond.static yX6_asDigits ∈ TBL := tm (i := 465) (by decide +kernel) (by decide +kernel)
theorem cd_X6_asDigits : Cond.code yX6_asDigits cX6_asDigits 3 (some .int) ∈ TBL := tm (i := 466) (by decide +kernel) (by decide +kernel)
theorem sw_X6_asDigits : SW yX6_asDigits cX6_asDigits 3 (some .int) 1 := ⟨sm_X6_asDigits, ini_X6, cd_X6_asDigits, by decide +kernel⟩
theorem fl_X6_47 : Cond.fieldLink RX6 47 (TX6 8).1 (TX6 8).2.1 (TX6 8).2.2.1 ∈ TBL := tm (i := 157) (by decide +kernel) (by decide +kernel)
theorem ml_X6_193 : Cond.methodLink RX6 193 yX6_lengthInOrder ∈ TBL := tm (i := 475) (by decide +kernel) (by decide +kernel)
theorem im_X6_lengthInOrder : Cond.instanceMethod yX6_lengthInOrder ∈ TBL := tm (i := 477) (by decide +kernel) (by decide +kernel)
theorem se_X6_lengthInOrder : Cond.selects RX6 yX6_lengthInOrder yX6_lengthInOrder ∈ TBL := tm (i := 16) (by decide +kernel) (by decide +kernel)
theorem cd_X6_lengthInOrder : Cond.code yX6_lengthInOrder cX6_lengthInOrder 3 (some .int) ∈ TBL := tm (i := 478) (by decide +kernel) (by decide +kernel)
theorem vw_X6_lengthInOrder : VW RX6 yX6_lengthInOrder cX6_lengthInOrder 3 (some .int) 1 4 := ⟨im_X6_lengthInOrder, se_X6_lengthInOrder, ini_X6, cd_X6_lengthInOrder, ⟨_, _, rfl⟩, by decide +kernel⟩
theorem ml_X6_196 : Cond.methodLink RX6 196 yX0_nextOrder ∈ TBL := tm (i := 479) (by decide +kernel) (by decide +kernel)
theorem sm_X0_nextOrder : Cond.static yX0_nextOrder ∈ TBL := tm (i := 480) (by decide +kernel) (by decide +kernel)
theorem cd_X0_nextOrder : Cond.code yX0_nextOrder cX0_nextOrder 3 (some .boolean) ∈ TBL := tm (i := 481) (by decide +kernel) (by decide +kernel)
theorem sw_X0_nextOrder : SW yX0_nextOrder cX0_nextOrder 3 (some .boolean) 1 := ⟨sm_X0_nextOrder, ini_X0, cd_X0_nextOrder, by decide +kernel⟩
theorem ml_X6_163 : Cond.methodLink RX6 163 yX6_findShortestOrder ∈ TBL := tm (i := 471) (by decide +kernel) (by decide +kernel)
theorem im_X6_findShortestOrder : Cond.instanceMethod yX6_findShortestOrder ∈ TBL := tm (i := 473) (by decide +kernel) (by decide +kernel)
theorem se_X6_findShortestOrder : Cond.selects RX6 yX6_findShortestOrder yX6_findShortestOrder ∈ TBL := tm (i := 15) (by decide +kernel) (by decide +kernel)
theorem cd_X6_findShortestOrder : Cond.code yX6_findShortestOrder cX6_findShortestOrder 5 (some .int) ∈ TBL := tm (i := 474) (by decide +kernel) (by decide +kernel)
theorem vw_X6_findShortestOrder : VW RX6 yX6_findShortestOrder cX6_findShortestOrder 5 (some .int) 0 4 := ⟨im_X6_findShortestOrder, se_X6_findShortestOrder, ini_X6, cd_X6_findShortestOrder, ⟨_, _, rfl⟩, by decide +kernel⟩
theorem fl_X6_28 : Cond.fieldLink RX6 28 (TX6 3).1 (TX6 3).2.1 (TX6 3).2.2.1 ∈ TBL := tm (i := 152) (by decide +kernel) (by decide +kernel)
theorem fl_X6_25 : Cond.fieldLink RX6 25 (TX6 2).1 (TX6 2).2.1 (TX6 2).2.2.1 ∈ TBL := tm (i := 151) (by decide +kernel) (by decide +kernel)
theorem ml_X6_166 : Cond.methodLink RX6 166 yX6_isImage ∈ TBL := tm (i := 494) (by decide +kernel) (by decide +kernel)
theorem sm_X6_isImage : Cond.static yX6_isImage ∈ TBL := tm (i := 495) (by decide +kernel) (by decide +kernel)
theorem cd_X6_isImage : Cond.code yX6_isImage cX6_isImage 1 (some .boolean) ∈ TBL := tm (i := 496) (by decide +kernel) (by decide +kernel)
theorem sw_X6_isImage : SW yX6_isImage cX6_isImage 1 (some .boolean) 1 := ⟨sm_X6_isImage, ini_X6, cd_X6_isImage, by decide +kernel⟩
theorem ml_X6_169 : Cond.methodLink RX6 169 yX6_imageAt ∈ TBL := tm (i := 497) (by decide +kernel) (by decide +kernel)
theorem im_X6_imageAt : Cond.instanceMethod yX6_imageAt ∈ TBL := tm (i := 499) (by decide +kernel) (by decide +kernel)
theorem se_X6_imageAt : Cond.selects RX6 yX6_imageAt yX6_imageAt ∈ TBL := tm (i := 17) (by decide +kernel) (by decide +kernel)
theorem cd_X6_imageAt : Cond.code yX6_imageAt cX6_imageAt 2 (some (.object "QuotedLayers$Stand")) ∈ TBL := tm (i := 500) (by decide +kernel) (by decide +kernel)
theorem vw_X6_imageAt : VW RX6 yX6_imageAt cX6_imageAt 2 (some (.object "QuotedLayers$Stand")) 1 4 := ⟨im_X6_imageAt, se_X6_imageAt, ini_X6, cd_X6_imageAt, ⟨_, _, rfl⟩, by decide +kernel⟩
theorem ml_X6_173 : Cond.methodLink RX6 173 yX5_copyFrom ∈ TBL := tm (i := 501) (by decide +kernel) (by decide +kernel)
theorem im_X5_copyFrom : Cond.instanceMethod yX5_copyFrom ∈ TBL := tm (i := 502) (by decide +kernel) (by decide +kernel)
theorem se_X5_copyFrom : Cond.selects RX5 yX5_copyFrom yX5_copyFrom ∈ TBL := tm (i := 503) (by decide +kernel) (by decide +kernel)
theorem cd_X5_copyFrom : Cond.code yX5_copyFrom cX5_copyFrom 3 none ∈ TBL := tm (i := 504) (by decide +kernel) (by decide +kernel)
theorem vw_X5_copyFrom : VW RX5 yX5_copyFrom cX5_copyFrom 3 none 1 3 := ⟨im_X5_copyFrom, se_X5_copyFrom, ini_X5, cd_X5_copyFrom, ⟨_, _, rfl⟩, by decide +kernel⟩
theorem fl_X6_176 : Cond.fieldLink RX6 176 (TX5 4).1 (TX5 4).2.1 (TX5 4).2.2.1 ∈ TBL := tm (i := 113) (by decide +kernel) (by decide +kernel)
theorem kb_20 : (Int8.ofInt (20)).toInt32 = (20 : Int32) := by decide +kernel
theorem kb_32 : (Int8.ofInt (32)).toInt32 = (32 : Int32) := by decide +kernel
theorem pn_X7 : plainName RX7 = true := by decide +kernel
theorem ml_X7_63 : Cond.methodLink RX7 63 yX7_in ∈ TBL := tm (i := 598) (by decide +kernel) (by decide +kernel)
theorem sm_X7_in : Cond.static yX7_in ∈ TBL := tm (i := 599) (by decide +kernel) (by decide +kernel)
theorem ini_X7 : Cond.initialized RX7 ∈ TBL := tm (i := 44) (by decide +kernel) (by decide +kernel)
theorem cd_X7_in : Cond.code yX7_in cX7_in 3 (some .boolean) ∈ TBL := tm (i := 600) (by decide +kernel) (by decide +kernel)
theorem sw_X7_in : SW yX7_in cX7_in 3 (some .boolean) 3 := ⟨sm_X7_in, ini_X7, cd_X7_in, by decide +kernel⟩
theorem fl_X7_67 : Cond.fieldLink RX7 67 (TX7 0).1 (TX7 0).2.1 (TX7 0).2.2.1 ∈ TBL := tm (i := 526) (by decide +kernel) (by decide +kernel)
theorem uin_X7 : ∀ w ∈ u_ws RX7 TX7 22, w ∈ TBL := of_places [548, 550, 552, 554, 556, 558, 560, 562, 564, 566, 568, 570, 572, 574, 576, 578, 580, 582, 584, 586, 588, 590] (by decide +kernel) (by decide +kernel)
theorem fl_X7_7 : Cond.fieldLink RX7 7 (TX7 1).1 (TX7 1).2.1 (TX7 1).2.2.1 ∈ TBL := tm (i := 527) (by decide +kernel) (by decide +kernel)
theorem ml_X7_70 : Cond.methodLink RX7 70 yX7_isDigit ∈ TBL := tm (i := 617) (by decide +kernel) (by decide +kernel)
theorem sm_X7_isDigit : Cond.static yX7_isDigit ∈ TBL := tm (i := 618) (by decide +kernel) (by decide +kernel)
theorem cd_X7_isDigit : Cond.code yX7_isDigit cX7_isDigit 1 (some .boolean) ∈ TBL := tm (i := 619) (by decide +kernel) (by decide +kernel)
theorem sw_X7_isDigit : SW yX7_isDigit cX7_isDigit 1 (some .boolean) 1 := ⟨sm_X7_isDigit, ini_X7, cd_X7_isDigit, by decide +kernel⟩
theorem ml_X7_74 : Cond.methodLink RX7 74 yX7_isNew ∈ TBL := tm (i := 613) (by decide +kernel) (by decide +kernel)
theorem im_X7_isNew : Cond.instanceMethod yX7_isNew ∈ TBL := tm (i := 615) (by decide +kernel) (by decide +kernel)
theorem se_X7_isNew : Cond.selects RX7 yX7_isNew yX7_isNew ∈ TBL := tm (i := 19) (by decide +kernel) (by decide +kernel)
theorem cd_X7_isNew : Cond.code yX7_isNew cX7_isNew 4 (some .boolean) ∈ TBL := tm (i := 616) (by decide +kernel) (by decide +kernel)
theorem vw_X7_isNew : VW RX7 yX7_isNew cX7_isNew 4 (some .boolean) 1 5 := ⟨im_X7_isNew, se_X7_isNew, ini_X7, cd_X7_isNew, ⟨_, _, rfl⟩, by decide +kernel⟩
theorem kb_49 : (Int8.ofInt (49)).toInt32 = (49 : Int32) := by decide +kernel
theorem ml_X7_77 : Cond.methodLink RX7 77 yX7_faultOf ∈ TBL := tm (i := 609) (by decide +kernel) (by decide +kernel)
theorem im_X7_faultOf : Cond.instanceMethod yX7_faultOf ∈ TBL := tm (i := 611) (by decide +kernel) (by decide +kernel)
theorem se_X7_faultOf : Cond.selects RX7 yX7_faultOf yX7_faultOf ∈ TBL := tm (i := 18) (by decide +kernel) (by decide +kernel)
theorem cd_X7_faultOf : Cond.code yX7_faultOf cX7_faultOf 5 (some .int) ∈ TBL := tm (i := 612) (by decide +kernel) (by decide +kernel)
theorem vw_X7_faultOf : VW RX7 yX7_faultOf cX7_faultOf 5 (some .int) 0 5 := ⟨im_X7_faultOf, se_X7_faultOf, ini_X7, cd_X7_faultOf, ⟨_, _, rfl⟩, by decide +kernel⟩
theorem ml_X7_81 : Cond.methodLink RX7 81 yX7_isLayer ∈ TBL := tm (i := 624) (by decide +kernel) (by decide +kernel)
theorem sm_X7_isLayer : Cond.static yX7_isLayer ∈ TBL := tm (i := 625) (by decide +kernel) (by decide +kernel)
theorem cd_X7_isLayer : Cond.code yX7_isLayer cX7_isLayer 1 (some .boolean) ∈ TBL := tm (i := 626) (by decide +kernel) (by decide +kernel)
theorem sw_X7_isLayer : SW yX7_isLayer cX7_isLayer 1 (some .boolean) 1 := ⟨sm_X7_isLayer, ini_X7, cd_X7_isLayer, by decide +kernel⟩
theorem fl_X7_13 : Cond.fieldLink RX7 13 (TX7 2).1 (TX7 2).2.1 (TX7 2).2.2.1 ∈ TBL := tm (i := 528) (by decide +kernel) (by decide +kernel)
theorem fl_X7_16 : Cond.fieldLink RX7 16 (TX7 3).1 (TX7 3).2.1 (TX7 3).2.2.1 ∈ TBL := tm (i := 529) (by decide +kernel) (by decide +kernel)
theorem fl_X7_19 : Cond.fieldLink RX7 19 (TX7 4).1 (TX7 4).2.1 (TX7 4).2.2.1 ∈ TBL := tm (i := 530) (by decide +kernel) (by decide +kernel)
theorem fl_X7_22 : Cond.fieldLink RX7 22 (TX7 5).1 (TX7 5).2.1 (TX7 5).2.2.1 ∈ TBL := tm (i := 531) (by decide +kernel) (by decide +kernel)
theorem fl_X7_25 : Cond.fieldLink RX7 25 (TX7 6).1 (TX7 6).2.1 (TX7 6).2.2.1 ∈ TBL := tm (i := 532) (by decide +kernel) (by decide +kernel)
theorem fl_X7_84 : Cond.fieldLink RX7 84 (TX7 7).1 (TX7 7).2.1 (TX7 7).2.2.1 ∈ TBL := tm (i := 533) (by decide +kernel) (by decide +kernel)
theorem fl_X7_28 : Cond.fieldLink RX7 28 (TX7 8).1 (TX7 8).2.1 (TX7 8).2.2.1 ∈ TBL := tm (i := 534) (by decide +kernel) (by decide +kernel)
theorem fl_X7_31 : Cond.fieldLink RX7 31 (TX7 9).1 (TX7 9).2.1 (TX7 9).2.2.1 ∈ TBL := tm (i := 535) (by decide +kernel) (by decide +kernel)
theorem fl_X7_35 : Cond.fieldLink RX7 35 (TX7 10).1 (TX7 10).2.1 (TX7 10).2.2.1 ∈ TBL := tm (i := 536) (by decide +kernel) (by decide +kernel)
theorem ml_X7_87 : Cond.methodLink RX7 87 yX7_hasMark ∈ TBL := tm (i := 659) (by decide +kernel) (by decide +kernel)
theorem im_X7_hasMark : Cond.instanceMethod yX7_hasMark ∈ TBL := tm (i := 661) (by decide +kernel) (by decide +kernel)
theorem se_X7_hasMark : Cond.selects RX7 yX7_hasMark yX7_hasMark ∈ TBL := tm (i := 23) (by decide +kernel) (by decide +kernel)
theorem cd_X7_hasMark : Cond.code yX7_hasMark cX7_hasMark 2 (some .boolean) ∈ TBL := tm (i := 662) (by decide +kernel) (by decide +kernel)
theorem vw_X7_hasMark : VW RX7 yX7_hasMark cX7_hasMark 2 (some .boolean) 1 5 := ⟨im_X7_hasMark, se_X7_hasMark, ini_X7, cd_X7_hasMark, ⟨_, _, rfl⟩, by decide +kernel⟩
theorem ml_X7_90 : Cond.methodLink RX7 90 yX7_isHeld ∈ TBL := tm (i := 667) (by decide +kernel) (by decide +kernel)
theorem im_X7_isHeld : Cond.instanceMethod yX7_isHeld ∈ TBL := tm (i := 669) (by decide +kernel) (by decide +kernel)
theorem se_X7_isHeld : Cond.selects RX7 yX7_isHeld yX7_isHeld ∈ TBL := tm (i := 25) (by decide +kernel) (by decide +kernel)
theorem cd_X7_isHeld : Cond.code yX7_isHeld cX7_isHeld 5 (some .boolean) ∈ TBL := tm (i := 670) (by decide +kernel) (by decide +kernel)
theorem vw_X7_isHeld : VW RX7 yX7_isHeld cX7_isHeld 5 (some .boolean) 2 5 := ⟨im_X7_isHeld, se_X7_isHeld, ini_X7, cd_X7_isHeld, ⟨_, _, rfl⟩, by decide +kernel⟩
theorem fl_X7_94 : Cond.fieldLink RX7 94 (TX7 11).1 (TX7 11).2.1 (TX7 11).2.2.1 ∈ TBL := tm (i := 537) (by decide +kernel) (by decide +kernel)
theorem fl_X7_38 : Cond.fieldLink RX7 38 (TX7 12).1 (TX7 12).2.1 (TX7 12).2.2.1 ∈ TBL := tm (i := 538) (by decide +kernel) (by decide +kernel)
theorem fl_X7_41 : Cond.fieldLink RX7 41 (TX7 13).1 (TX7 13).2.1 (TX7 13).2.2.1 ∈ TBL := tm (i := 539) (by decide +kernel) (by decide +kernel)
theorem ml_X7_100 : Cond.methodLink RX7 100 yX7_digit ∈ TBL := tm (i := 671) (by decide +kernel) (by decide +kernel)
theorem sm_X7_digit : Cond.static yX7_digit ∈ TBL := tm (i := 672) (by decide +kernel) (by decide +kernel)
theorem cd_X7_digit : Cond.code yX7_digit cX7_digit 1 (some .int) ∈ TBL := tm (i := 673) (by decide +kernel) (by decide +kernel)
theorem sw_X7_digit : SW yX7_digit cX7_digit 1 (some .int) 1 := ⟨sm_X7_digit, ini_X7, cd_X7_digit, by decide +kernel⟩
theorem kc_2 (x : Int32) : x + Int32.ofInt (2) = x + (2 : Int32) := by rw [show Int32.ofInt (2) = (2 : Int32) by decide +kernel]
theorem ml_X7_97 : Cond.methodLink RX7 97 yX7_isMasked ∈ TBL := tm (i := 663) (by decide +kernel) (by decide +kernel)
theorem im_X7_isMasked : Cond.instanceMethod yX7_isMasked ∈ TBL := tm (i := 665) (by decide +kernel) (by decide +kernel)
theorem se_X7_isMasked : Cond.selects RX7 yX7_isMasked yX7_isMasked ∈ TBL := tm (i := 24) (by decide +kernel) (by decide +kernel)
theorem cd_X7_isMasked : Cond.code yX7_isMasked cX7_isMasked 3 (some .boolean) ∈ TBL := tm (i := 666) (by decide +kernel) (by decide +kernel)
theorem vw_X7_isMasked : VW RX7 yX7_isMasked cX7_isMasked 3 (some .boolean) 2 5 := ⟨im_X7_isMasked, se_X7_isMasked, ini_X7, cd_X7_isMasked, ⟨_, _, rfl⟩, by decide +kernel⟩
theorem fl_X7_104 : Cond.fieldLink RX7 104 (TX7 14).1 (TX7 14).2.1 (TX7 14).2.2.1 ∈ TBL := tm (i := 540) (by decide +kernel) (by decide +kernel)
theorem ml_X7_107 : Cond.methodLink RX7 107 yX7_put ∈ TBL := tm (i := 655) (by decide +kernel) (by decide +kernel)
theorem im_X7_put : Cond.instanceMethod yX7_put ∈ TBL := tm (i := 657) (by decide +kernel) (by decide +kernel)
theorem se_X7_put : Cond.selects RX7 yX7_put yX7_put ∈ TBL := tm (i := 22) (by decide +kernel) (by decide +kernel)
theorem cd_X7_put : Cond.code yX7_put cX7_put 7 (some .int) ∈ TBL := tm (i := 658) (by decide +kernel) (by decide +kernel)
theorem vw_X7_put : VW RX7 yX7_put cX7_put 7 (some .int) 2 5 := ⟨im_X7_put, se_X7_put, ini_X7, cd_X7_put, ⟨_, _, rfl⟩, by decide +kernel⟩
theorem ml_X7_111 : Cond.methodLink RX7 111 yX7_layText ∈ TBL := tm (i := 647) (by decide +kernel) (by decide +kernel)
theorem im_X7_layText : Cond.instanceMethod yX7_layText ∈ TBL := tm (i := 649) (by decide +kernel) (by decide +kernel)
theorem se_X7_layText : Cond.selects RX7 yX7_layText yX7_layText ∈ TBL := tm (i := 20) (by decide +kernel) (by decide +kernel)
theorem cd_X7_layText : Cond.code yX7_layText cX7_layText 2 none ∈ TBL := tm (i := 650) (by decide +kernel) (by decide +kernel)
theorem vw_X7_layText : VW RX7 yX7_layText cX7_layText 2 none 0 5 := ⟨im_X7_layText, se_X7_layText, ini_X7, cd_X7_layText, ⟨_, _, rfl⟩, by decide +kernel⟩
theorem ml_X7_114 : Cond.methodLink RX7 114 yX7_goThrough ∈ TBL := tm (i := 651) (by decide +kernel) (by decide +kernel)
theorem im_X7_goThrough : Cond.instanceMethod yX7_goThrough ∈ TBL := tm (i := 653) (by decide +kernel) (by decide +kernel)
theorem se_X7_goThrough : Cond.selects RX7 yX7_goThrough yX7_goThrough ∈ TBL := tm (i := 21) (by decide +kernel) (by decide +kernel)
theorem cd_X7_goThrough : Cond.code yX7_goThrough cX7_goThrough 5 (some .int) ∈ TBL := tm (i := 654) (by decide +kernel) (by decide +kernel)
theorem vw_X7_goThrough : VW RX7 yX7_goThrough cX7_goThrough 5 (some .int) 2 5 := ⟨im_X7_goThrough, se_X7_goThrough, ini_X7, cd_X7_goThrough, ⟨_, _, rfl⟩, by decide +kernel⟩
theorem ml_X7_118 : Cond.methodLink RX7 118 yX7_lengthOf ∈ TBL := tm (i := 686) (by decide +kernel) (by decide +kernel)
theorem im_X7_lengthOf : Cond.instanceMethod yX7_lengthOf ∈ TBL := tm (i := 688) (by decide +kernel) (by decide +kernel)
theorem se_X7_lengthOf : Cond.selects RX7 yX7_lengthOf yX7_lengthOf ∈ TBL := tm (i := 27) (by decide +kernel) (by decide +kernel)
theorem cd_X7_lengthOf : Cond.code yX7_lengthOf cX7_lengthOf 2 (some .int) ∈ TBL := tm (i := 689) (by decide +kernel) (by decide +kernel)
theorem vw_X7_lengthOf : VW RX7 yX7_lengthOf cX7_lengthOf 2 (some .int) 1 5 := ⟨im_X7_lengthOf, se_X7_lengthOf, ini_X7, cd_X7_lengthOf, ⟨_, _, rfl⟩, by decide +kernel⟩
theorem ml_X7_121 : Cond.methodLink RX7 121 yX7_growsOf ∈ TBL := tm (i := 682) (by decide +kernel) (by decide +kernel)
theorem im_X7_growsOf : Cond.instanceMethod yX7_growsOf ∈ TBL := tm (i := 684) (by decide +kernel) (by decide +kernel)
theorem se_X7_growsOf : Cond.selects RX7 yX7_growsOf yX7_growsOf ∈ TBL := tm (i := 26) (by decide +kernel) (by decide +kernel)
theorem cd_X7_growsOf : Cond.code yX7_growsOf cX7_growsOf 4 (some .int) ∈ TBL := tm (i := 685) (by decide +kernel) (by decide +kernel)
theorem vw_X7_growsOf : VW RX7 yX7_growsOf cX7_growsOf 4 (some .int) 1 5 := ⟨im_X7_growsOf, se_X7_growsOf, ini_X7, cd_X7_growsOf, ⟨_, _, rfl⟩, by decide +kernel⟩
theorem kb_127 : (Int8.ofInt (127)).toInt32 = (127 : Int32) := by decide +kernel
theorem ml_X7_124 : Cond.methodLink RX7 124 yX7_valueOf ∈ TBL := tm (i := 718) (by decide +kernel) (by decide +kernel)
theorem sm_X7_valueOf : Cond.static yX7_valueOf ∈ TBL := tm (i := 719) (by decide +kernel) (by decide +kernel)
theorem cd_X7_valueOf : Cond.code yX7_valueOf cX7_valueOf 1 (some .int) ∈ TBL := tm (i := 720) (by decide +kernel) (by decide +kernel)
theorem sw_X7_valueOf : SW yX7_valueOf cX7_valueOf 1 (some .int) 1 := ⟨sm_X7_valueOf, ini_X7, cd_X7_valueOf, by decide +kernel⟩
theorem ml_X7_127 : Cond.methodLink RX7 127 yX7_codeAt ∈ TBL := tm (i := 714) (by decide +kernel) (by decide +kernel)
theorem im_X7_codeAt : Cond.instanceMethod yX7_codeAt ∈ TBL := tm (i := 716) (by decide +kernel) (by decide +kernel)
theorem se_X7_codeAt : Cond.selects RX7 yX7_codeAt yX7_codeAt ∈ TBL := tm (i := 31) (by decide +kernel) (by decide +kernel)
theorem cd_X7_codeAt : Cond.code yX7_codeAt cX7_codeAt 3 (some .int) ∈ TBL := tm (i := 717) (by decide +kernel) (by decide +kernel)
theorem vw_X7_codeAt : VW RX7 yX7_codeAt cX7_codeAt 3 (some .int) 1 5 := ⟨im_X7_codeAt, se_X7_codeAt, ini_X7, cd_X7_codeAt, ⟨_, _, rfl⟩, by decide +kernel⟩
theorem ml_X7_130 : Cond.methodLink RX7 130 yX7_readBy ∈ TBL := tm (i := 710) (by decide +kernel) (by decide +kernel)
theorem im_X7_readBy : Cond.instanceMethod yX7_readBy ∈ TBL := tm (i := 712) (by decide +kernel) (by decide +kernel)
theorem se_X7_readBy : Cond.selects RX7 yX7_readBy yX7_readBy ∈ TBL := tm (i := 30) (by decide +kernel) (by decide +kernel)
theorem cd_X7_readBy : Cond.code yX7_readBy cX7_readBy 9 (some .int) ∈ TBL := tm (i := 713) (by decide +kernel) (by decide +kernel)
theorem vw_X7_readBy : VW RX7 yX7_readBy cX7_readBy 9 (some .int) 1 5 := ⟨im_X7_readBy, se_X7_readBy, ini_X7, cd_X7_readBy, ⟨_, _, rfl⟩, by decide +kernel⟩
theorem ml_X7_133 : Cond.methodLink RX7 133 yX7_layPad ∈ TBL := tm (i := 702) (by decide +kernel) (by decide +kernel)
theorem im_X7_layPad : Cond.instanceMethod yX7_layPad ∈ TBL := tm (i := 704) (by decide +kernel) (by decide +kernel)
theorem se_X7_layPad : Cond.selects RX7 yX7_layPad yX7_layPad ∈ TBL := tm (i := 28) (by decide +kernel) (by decide +kernel)
theorem cd_X7_layPad : Cond.code yX7_layPad cX7_layPad 2 none ∈ TBL := tm (i := 705) (by decide +kernel) (by decide +kernel)
theorem vw_X7_layPad : VW RX7 yX7_layPad cX7_layPad 2 none 0 5 := ⟨im_X7_layPad, se_X7_layPad, ini_X7, cd_X7_layPad, ⟨_, _, rfl⟩, by decide +kernel⟩
theorem ml_X7_136 : Cond.methodLink RX7 136 yX7_readBack ∈ TBL := tm (i := 706) (by decide +kernel) (by decide +kernel)
theorem im_X7_readBack : Cond.instanceMethod yX7_readBack ∈ TBL := tm (i := 708) (by decide +kernel) (by decide +kernel)
theorem se_X7_readBack : Cond.selects RX7 yX7_readBack yX7_readBack ∈ TBL := tm (i := 29) (by decide +kernel) (by decide +kernel)
theorem cd_X7_readBack : Cond.code yX7_readBack cX7_readBack 3 (some .int) ∈ TBL := tm (i := 709) (by decide +kernel) (by decide +kernel)
theorem vw_X7_readBack : VW RX7 yX7_readBack cX7_readBack 3 (some .int) 0 5 := ⟨im_X7_readBack, se_X7_readBack, ini_X7, cd_X7_readBack, ⟨_, _, rfl⟩, by decide +kernel⟩
theorem fl_X7_139 : Cond.fieldLink RX7 139 (TX7 16).1 (TX7 16).2.1 (TX7 16).2.2.1 ∈ TBL := tm (i := 542) (by decide +kernel) (by decide +kernel)
theorem fl_X7_44 : Cond.fieldLink RX7 44 (TX7 15).1 (TX7 15).2.1 (TX7 15).2.2.1 ∈ TBL := tm (i := 541) (by decide +kernel) (by decide +kernel)
theorem ml_X7_142 : Cond.methodLink RX7 142 yX7_keepText ∈ TBL := tm (i := 725) (by decide +kernel) (by decide +kernel)
theorem im_X7_keepText : Cond.instanceMethod yX7_keepText ∈ TBL := tm (i := 727) (by decide +kernel) (by decide +kernel)
theorem se_X7_keepText : Cond.selects RX7 yX7_keepText yX7_keepText ∈ TBL := tm (i := 32) (by decide +kernel) (by decide +kernel)
theorem cd_X7_keepText : Cond.code yX7_keepText cX7_keepText 2 none ∈ TBL := tm (i := 728) (by decide +kernel) (by decide +kernel)
theorem vw_X7_keepText : VW RX7 yX7_keepText cX7_keepText 2 none 0 5 := ⟨im_X7_keepText, se_X7_keepText, ini_X7, cd_X7_keepText, ⟨_, _, rfl⟩, by decide +kernel⟩
theorem ml_X7_145 : Cond.methodLink RX7 145 yX7_howBack ∈ TBL := tm (i := 729) (by decide +kernel) (by decide +kernel)
theorem im_X7_howBack : Cond.instanceMethod yX7_howBack ∈ TBL := tm (i := 731) (by decide +kernel) (by decide +kernel)
theorem se_X7_howBack : Cond.selects RX7 yX7_howBack yX7_howBack ∈ TBL := tm (i := 33) (by decide +kernel) (by decide +kernel)
theorem cd_X7_howBack : Cond.code yX7_howBack cX7_howBack 3 (some .int) ∈ TBL := tm (i := 732) (by decide +kernel) (by decide +kernel)
theorem vw_X7_howBack : VW RX7 yX7_howBack cX7_howBack 3 (some .int) 0 5 := ⟨im_X7_howBack, se_X7_howBack, ini_X7, cd_X7_howBack, ⟨_, _, rfl⟩, by decide +kernel⟩
theorem ml_X7_148 : Cond.methodLink RX7 148 yX7_isRow ∈ TBL := tm (i := 737) (by decide +kernel) (by decide +kernel)
theorem im_X7_isRow : Cond.instanceMethod yX7_isRow ∈ TBL := tm (i := 739) (by decide +kernel) (by decide +kernel)
theorem se_X7_isRow : Cond.selects RX7 yX7_isRow yX7_isRow ∈ TBL := tm (i := 34) (by decide +kernel) (by decide +kernel)
theorem cd_X7_isRow : Cond.code yX7_isRow cX7_isRow 4 (some .boolean) ∈ TBL := tm (i := 740) (by decide +kernel) (by decide +kernel)
theorem vw_X7_isRow : VW RX7 yX7_isRow cX7_isRow 4 (some .boolean) 0 5 := ⟨im_X7_isRow, se_X7_isRow, ini_X7, cd_X7_isRow, ⟨_, _, rfl⟩, by decide +kernel⟩
theorem kb_125 : (Int8.ofInt (125)).toInt32 = (125 : Int32) := by decide +kernel
theorem kb_25 : (Int8.ofInt (25)).toInt32 = (25 : Int32) := by decide +kernel
theorem ml_X7_155 : Cond.methodLink RX7 155 yX7_fitsRow ∈ TBL := tm (i := 753) (by decide +kernel) (by decide +kernel)
theorem im_X7_fitsRow : Cond.instanceMethod yX7_fitsRow ∈ TBL := tm (i := 755) (by decide +kernel) (by decide +kernel)
theorem se_X7_fitsRow : Cond.selects RX7 yX7_fitsRow yX7_fitsRow ∈ TBL := tm (i := 36) (by decide +kernel) (by decide +kernel)
theorem cd_X7_fitsRow : Cond.code yX7_fitsRow cX7_fitsRow 5 (some .boolean) ∈ TBL := tm (i := 756) (by decide +kernel) (by decide +kernel)
theorem vw_X7_fitsRow : VW RX7 yX7_fitsRow cX7_fitsRow 5 (some .boolean) 3 5 := ⟨im_X7_fitsRow, se_X7_fitsRow, ini_X7, cd_X7_fitsRow, ⟨_, _, rfl⟩, by decide +kernel⟩
theorem ks_1000 : (Int16.ofInt (1000)).toInt32 = (1000 : Int32) := by decide +kernel
theorem kb_100 : (Int8.ofInt (100)).toInt32 = (100 : Int32) := by decide +kernel
theorem ml_X7_152 : Cond.methodLink RX7 152 yX7_isAsAtFirst ∈ TBL := tm (i := 749) (by decide +kernel) (by decide +kernel)
theorem im_X7_isAsAtFirst : Cond.instanceMethod yX7_isAsAtFirst ∈ TBL := tm (i := 751) (by decide +kernel) (by decide +kernel)
theorem se_X7_isAsAtFirst : Cond.selects RX7 yX7_isAsAtFirst yX7_isAsAtFirst ∈ TBL := tm (i := 35) (by decide +kernel) (by decide +kernel)
theorem cd_X7_isAsAtFirst : Cond.code yX7_isAsAtFirst cX7_isAsAtFirst 2 (some .boolean) ∈ TBL := tm (i := 752) (by decide +kernel) (by decide +kernel)
theorem vw_X7_isAsAtFirst : VW RX7 yX7_isAsAtFirst cX7_isAsAtFirst 2 (some .boolean) 1 5 := ⟨im_X7_isAsAtFirst, se_X7_isAsAtFirst, ini_X7, cd_X7_isAsAtFirst, ⟨_, _, rfl⟩, by decide +kernel⟩
theorem fl_X7_47 : Cond.fieldLink RX7 47 (TX7 17).1 (TX7 17).2.1 (TX7 17).2.2.1 ∈ TBL := tm (i := 543) (by decide +kernel) (by decide +kernel)
theorem fl_X7_50 : Cond.fieldLink RX7 50 (TX7 18).1 (TX7 18).2.1 (TX7 18).2.2.1 ∈ TBL := tm (i := 544) (by decide +kernel) (by decide +kernel)
theorem fl_X7_53 : Cond.fieldLink RX7 53 (TX7 19).1 (TX7 19).2.1 (TX7 19).2.2.1 ∈ TBL := tm (i := 545) (by decide +kernel) (by decide +kernel)
theorem ml_X7_158 : Cond.methodLink RX7 158 yX7_nextOrder ∈ TBL := tm (i := 761) (by decide +kernel) (by decide +kernel)
theorem im_X7_nextOrder : Cond.instanceMethod yX7_nextOrder ∈ TBL := tm (i := 763) (by decide +kernel) (by decide +kernel)
theorem se_X7_nextOrder : Cond.selects RX7 yX7_nextOrder yX7_nextOrder ∈ TBL := tm (i := 37) (by decide +kernel) (by decide +kernel)
theorem cd_X7_nextOrder : Cond.code yX7_nextOrder cX7_nextOrder 6 (some .boolean) ∈ TBL := tm (i := 764) (by decide +kernel) (by decide +kernel)
theorem vw_X7_nextOrder : VW RX7 yX7_nextOrder cX7_nextOrder 6 (some .boolean) 0 5 := ⟨im_X7_nextOrder, se_X7_nextOrder, ini_X7, cd_X7_nextOrder, ⟨_, _, rfl⟩, by decide +kernel⟩
theorem kb_70 : (Int8.ofInt (70)).toInt32 = (70 : Int32) := by decide +kernel
theorem kb_30 : (Int8.ofInt (30)).toInt32 = (30 : Int32) := by decide +kernel
theorem fl_X7_56 : Cond.fieldLink RX7 56 (TX7 20).1 (TX7 20).2.1 (TX7 20).2.2.1 ∈ TBL := tm (i := 546) (by decide +kernel) (by decide +kernel)
theorem kb_67 : (Int8.ofInt (67)).toInt32 = (67 : Int32) := by decide +kernel
theorem kb_68 : (Int8.ofInt (68)).toInt32 = (68 : Int32) := by decide +kernel
theorem fl_X7_59 : Cond.fieldLink RX7 59 (TX7 21).1 (TX7 21).2.1 (TX7 21).2.2.1 ∈ TBL := tm (i := 547) (by decide +kernel) (by decide +kernel)
theorem kb_55 : (Int8.ofInt (55)).toInt32 = (55 : Int32) := by decide +kernel
theorem kb_14 : (Int8.ofInt (14)).toInt32 = (14 : Int32) := by decide +kernel
theorem kb_31 : (Int8.ofInt (31)).toInt32 = (31 : Int32) := by decide +kernel
