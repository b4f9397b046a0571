/-! NAMES of the law's methods, by program (wip/p23/genlaw.py) -/
abbrev cL_up : ByteArray := method_3_code
abbrev yL_up : MethodName := ⟨"StairBowsLaw", "up", "(II)I"⟩
abbrev cL_cell : ByteArray := method_2_code
abbrev yL_cell : MethodName := ⟨"StairBowsLaw", "cell", "([II)I"⟩
abbrev cL_isStep : ByteArray := method_4_code
abbrev yL_isStep : MethodName := ⟨"StairBowsLaw", "isStep", "(LStairBows;LStairBows;II)Z"⟩
abbrev cL_areAlike : ByteArray := method_5_code
abbrev yL_areAlike : MethodName := ⟨"StairBowsLaw", "areAlike", "(LStairBows;LStairBows;I)Z"⟩
abbrev cL_isWell : ByteArray := method_6_code
abbrev yL_isWell : MethodName := ⟨"StairBowsLaw", "isWell", "(LStairBows;)Z"⟩
theorem me_L_up : MeS yL_up cL_up 2 (some .int) 2 := ⟨⟨tb_in 222 (by decide +kernel) rfl, tb_in 8 (by decide +kernel) rfl, tb_in 223 (by decide +kernel) rfl⟩, rfl, by decide +kernel, by decide +kernel, by decide +kernel⟩
theorem me_L_cell : MeS yL_cell cL_cell 2 (some .int) 2 := ⟨⟨tb_in 195 (by decide +kernel) rfl, tb_in 8 (by decide +kernel) rfl, tb_in 196 (by decide +kernel) rfl⟩, rfl, by decide +kernel, by decide +kernel, by decide +kernel⟩
set_option maxRecDepth 100000 in
theorem tbc_L_isStep : lw_tbl[200]? = some (Cond.code yL_isStep cL_isStep 12 (some .boolean)) := rfl
theorem me_L_isStep : MeS yL_isStep cL_isStep 12 (some .boolean) 4 := ⟨⟨tb_in 199 (by decide +kernel) rfl, tb_in 8 (by decide +kernel) rfl, tb_in 200 tbc_L_isStep rfl⟩, rfl, by decide +kernel, by decide +kernel, by decide +kernel⟩
set_option maxRecDepth 100000 in
theorem tbc_L_areAlike : lw_tbl[402]? = some (Cond.code yL_areAlike cL_areAlike 7 (some .boolean)) := rfl
theorem me_L_areAlike : MeS yL_areAlike cL_areAlike 7 (some .boolean) 3 := ⟨⟨tb_in 401 (by decide +kernel) rfl, tb_in 8 (by decide +kernel) rfl, tb_in 402 tbc_L_areAlike rfl⟩, rfl, by decide +kernel, by decide +kernel, by decide +kernel⟩
set_option maxRecDepth 100000 in
theorem tbc_L_isWell : lw_tbl[422]? = some (Cond.code yL_isWell cL_isWell 11 (some .boolean)) := rfl
theorem me_L_isWell : MeS yL_isWell cL_isWell 11 (some .boolean) 1 := ⟨⟨tb_in 421 (by decide +kernel) rfl, tb_in 8 (by decide +kernel) rfl, tb_in 422 tbc_L_isWell rfl⟩, rfl, by decide +kernel, by decide +kernel, by decide +kernel⟩
theorem mk_StairBowsLaw_8 : Cond.constant "StairBowsLaw" 8 (2147483647) ∈ tb_G := tb_in 224 (by decide +kernel) rfl
theorem ml_StairBowsLaw_9 : Cond.methodLink "StairBowsLaw" 9 yX4_count ∈ tb_G := tb_in 201 (by decide +kernel) rfl
theorem ml_StairBowsLaw_15 : Cond.methodLink "StairBowsLaw" 15 yL_up ∈ tb_G := tb_in 221 (by decide +kernel) rfl
theorem ml_StairBowsLaw_50 : Cond.methodLink "StairBowsLaw" 50 yX4_come ∈ tb_G := tb_in 348 (by decide +kernel) rfl
theorem ml_StairBowsLaw_53 : Cond.methodLink "StairBowsLaw" 53 yX4_wipe ∈ tb_G := tb_in 360 (by decide +kernel) rfl
theorem mk_StairBowsLaw_58 : Cond.constantLong "StairBowsLaw" 58 (100) ∈ tb_G := tb_in 365 (by decide +kernel) rfl
theorem ml_StairBowsLaw_60 : Cond.methodLink "StairBowsLaw" 60 yX4_put ∈ tb_G := tb_in 366 (by decide +kernel) rfl
theorem ml_StairBowsLaw_64 : Cond.methodLink "StairBowsLaw" 64 yX4_read ∈ tb_G := tb_in 380 (by decide +kernel) rfl
theorem ml_StairBowsLaw_31 : Cond.methodLink "StairBowsLaw" 31 yX4_person ∈ tb_G := tb_in 265 (by decide +kernel) rfl
theorem mk_StairBowsLaw_56 : Cond.constantLong "StairBowsLaw" 56 (117) ∈ tb_G := tb_in 364 (by decide +kernel) rfl
theorem ml_StairBowsLaw_24 : Cond.methodLink "StairBowsLaw" 24 yX4_set ∈ tb_G := tb_in 157 (by decide +kernel) rfl
theorem ml_StairBowsLaw_21 : Cond.methodLink "StairBowsLaw" 21 yX4_step ∈ tb_G := tb_in 225 (by decide +kernel) rfl
theorem ml_StairBowsLaw_27 : Cond.methodLink "StairBowsLaw" 27 yX4_landing ∈ tb_G := tb_in 255 (by decide +kernel) rfl
theorem ml_StairBowsLaw_34 : Cond.methodLink "StairBowsLaw" 34 yX4_turn ∈ tb_G := tb_in 274 (by decide +kernel) rfl
theorem ml_StairBowsLaw_37 : Cond.methodLink "StairBowsLaw" 37 yX4_untilEmpty ∈ tb_G := tb_in 278 (by decide +kernel) rfl
theorem ml_StairBowsLaw_44 : Cond.methodLink "StairBowsLaw" 44 yX4_restore ∈ tb_G := tb_in 340 (by decide +kernel) rfl
theorem ml_StairBowsLaw_41 : Cond.methodLink "StairBowsLaw" 41 yX4_save ∈ tb_G := tb_in 333 (by decide +kernel) rfl
theorem ml_StairBowsLaw_47 : Cond.methodLink "StairBowsLaw" 47 yX4_pass ∈ tb_G := tb_in 344 (by decide +kernel) rfl
theorem ml_StairBowsLaw_73 : Cond.methodLink "StairBowsLaw" 73 yX4_does ∈ tb_G := tb_in 411 (by decide +kernel) rfl
theorem ml_StairBowsLaw_76 : Cond.methodLink "StairBowsLaw" 76 yX4_untilArrived ∈ tb_G := tb_in 415 (by decide +kernel) rfl
theorem ml_StairBowsLaw_67 : Cond.methodLink "StairBowsLaw" 67 yX4_bestLanding ∈ tb_G := tb_in 403 (by decide +kernel) rfl
theorem ml_StairBowsLaw_70 : Cond.methodLink "StairBowsLaw" 70 yX4_ifPassed ∈ tb_G := tb_in 407 (by decide +kernel) rfl
theorem mk_StairBowsLaw_7 : Cond.constant "StairBowsLaw" 7 (2144199127) ∈ tb_G := tb_in 197 (by decide +kernel) rfl
theorem ml_StairBowsLaw_80 : Cond.methodLink "StairBowsLaw" 80 yL_cell ∈ tb_G := tb_in 194 (by decide +kernel) rfl
theorem ml_StairBowsLaw_84 : Cond.methodLink "StairBowsLaw" 84 yL_isStep ∈ tb_G := tb_in 198 (by decide +kernel) rfl
theorem ml_StairBowsLaw_88 : Cond.methodLink "StairBowsLaw" 88 yL_isWell ∈ tb_G := tb_in 420 (by decide +kernel) rfl
theorem ml_StairBowsLaw_92 : Cond.methodLink "StairBowsLaw" 92 yL_areAlike ∈ tb_G := tb_in 400 (by decide +kernel) rfl
