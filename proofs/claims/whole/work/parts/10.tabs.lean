def ocX : Nat → Nat
  | 0 => 11
  | 1 => 2
  | 2 => 5
  | 3 => 0
  | 4 => 8
  | 5 => 4
  | 6 => 1
  | 7 => 10
  | 8 => 3
  | 9 => 9
  | 10 => 7
  | 11 => 6
  | 12 => 6
  | _ => 98
def lnX : Nat → Nat
  | 13 => 14
  | 14 => 280
  | 15 => 8
  | 16 => 8
  | 17 => 56
  | 18 => 56
  | 19 => 112
  | 20 => 14
  | 21 => 14
  | 22 => 196
  | 23 => 280
  | 24 => 400
  | 25 => 400
  | 26 => 400
  | 27 => 400
  | 28 => 14
  | 29 => 14
  | 30 => 14
  | 31 => 14
  | 32 => 14
  | 33 => 112
  | 34 => 20
  | 35 => 20
  | 36 => 14
  | 37 => 7
  | 38 => 7
  | 39 => 196
  | 40 => 16384
  | 41 => 10
  | 42 => 40
  | 43 => 40
  | 44 => 320
  | 45 => 400
  | 46 => 20
  | 47 => 20
  | 48 => 20
  | 49 => 400
  | 50 => 32
  | 51 => 20
  | 52 => 20
  | 53 => 20
  | 54 => 400
  | 55 => 32
  | _ => 0
def tyX : Nat → Nat
  | 13 => 1
  | 14 => 1
  | 15 => 0
  | 16 => 0
  | 17 => 0
  | 18 => 0
  | 19 => 0
  | 20 => 0
  | 21 => 0
  | 22 => 0
  | 23 => 1
  | 24 => 0
  | 25 => 0
  | 26 => 0
  | 27 => 0
  | 28 => 0
  | 29 => 0
  | 30 => 0
  | 31 => 0
  | 32 => 0
  | 33 => 0
  | 34 => 0
  | 35 => 0
  | 36 => 0
  | 37 => 0
  | 38 => 0
  | 39 => 0
  | 40 => 0
  | 41 => 0
  | 42 => 0
  | 43 => 0
  | 44 => 0
  | 45 => 2
  | 46 => 0
  | 47 => 0
  | 48 => 0
  | 49 => 0
  | 50 => 1
  | 51 => 0
  | 52 => 0
  | 53 => 0
  | 54 => 0
  | 55 => 1
  | _ => 9
def frX : Nat → Nat → Nat
  | 0, 0 => 1
  | 0, 1 => 2
  | 0, 2 => 3
  | 0, 3 => 4
  | 0, 4 => 5
  | 0, 5 => 7
  | 0, 6 => 8
  | 0, 7 => 9
  | 0, 8 => 10
  | 1, 1 => 13
  | 1, 4 => 14
  | 2, 1 => 15
  | 2, 2 => 16
  | 2, 3 => 17
  | 2, 4 => 18
  | 2, 5 => 19
  | 2, 6 => 20
  | 2, 7 => 21
  | 2, 8 => 22
  | 2, 9 => 23
  | 3, 1 => 24
  | 3, 2 => 25
  | 3, 3 => 26
  | 3, 4 => 27
  | 4, 0 => 28
  | 4, 1 => 29
  | 4, 2 => 30
  | 4, 3 => 31
  | 4, 4 => 32
  | 4, 6 => 33
  | 4, 7 => 34
  | 4, 8 => 35
  | 4, 9 => 1
  | 4, 10 => 2
  | 4, 11 => 3
  | 5, 0 => 36
  | 5, 2 => 6
  | 5, 3 => 1
  | 5, 4 => 2
  | 5, 5 => 4
  | 6, 0 => 37
  | 6, 1 => 38
  | 6, 2 => 39
  | 6, 3 => 40
  | 7, 1 => 41
  | 7, 3 => 42
  | 7, 4 => 43
  | 7, 6 => 44
  | 9, 1 => 45
  | 10, 2 => 9
  | 11, 1 => 46
  | 11, 2 => 47
  | 11, 3 => 48
  | 11, 4 => 49
  | 11, 6 => 50
  | 12, 1 => 51
  | 12, 2 => 52
  | 12, 3 => 53
  | 12, 4 => 54
  | 12, 6 => 55
  | _, _ => 999
def wdX : WdT := (13, 56, ocX, lnX, tyX, frX)
def ocM : Nat → Nat
  | 0 => 12
  | _ => 98
def lnM : Nat → Nat
  | 1 => 14
  | 2 => 60
  | 3 => 60
  | 4 => 8
  | 5 => 8
  | 6 => 56
  | 7 => 56
  | 8 => 112
  | 9 => 400
  | 10 => 400
  | 11 => 400
  | 12 => 400
  | 13 => 400
  | 14 => 14
  | 15 => 14
  | 16 => 14
  | 17 => 14
  | 18 => 14
  | 19 => 16384
  | 20 => 14
  | 21 => 196
  | 22 => 20
  | 23 => 10
  | 24 => 40
  | 25 => 40
  | 26 => 320
  | 27 => 20
  | 28 => 21
  | 29 => 400
  | 30 => 20
  | 31 => 21
  | 32 => 400
  | 33 => 400
  | 34 => 400
  | _ => 0
def tyM : Nat → Nat
  | 1 => 1
  | 2 => 0
  | 3 => 0
  | 4 => 0
  | 5 => 0
  | 6 => 0
  | 7 => 0
  | 8 => 0
  | 9 => 0
  | 10 => 0
  | 11 => 0
  | 12 => 0
  | 13 => 0
  | 14 => 0
  | 15 => 0
  | 16 => 0
  | 17 => 0
  | 18 => 0
  | 19 => 0
  | 20 => 0
  | 21 => 0
  | 22 => 1
  | 23 => 0
  | 24 => 0
  | 25 => 0
  | 26 => 0
  | 27 => 0
  | 28 => 0
  | 29 => 0
  | 30 => 0
  | 31 => 0
  | 32 => 0
  | 33 => 0
  | 34 => 0
  | _ => 9
def frM : Nat → Nat → Nat
  | 0, 3 => 1
  | 0, 6 => 2
  | 0, 7 => 3
  | 0, 10 => 4
  | 0, 11 => 5
  | 0, 12 => 6
  | 0, 13 => 7
  | 0, 14 => 8
  | 0, 16 => 9
  | 0, 17 => 10
  | 0, 18 => 11
  | 0, 19 => 12
  | 0, 20 => 13
  | 0, 21 => 14
  | 0, 22 => 15
  | 0, 23 => 16
  | 0, 24 => 17
  | 0, 25 => 18
  | 0, 27 => 19
  | 0, 28 => 20
  | 0, 29 => 21
  | 0, 30 => 22
  | 0, 32 => 23
  | 0, 34 => 24
  | 0, 35 => 25
  | 0, 36 => 26
  | 0, 39 => 27
  | 0, 40 => 28
  | 0, 41 => 29
  | 0, 44 => 30
  | 0, 45 => 31
  | 0, 46 => 32
  | 0, 47 => 33
  | 0, 49 => 34
  | _, _ => 999
def wdM : WdT := (1, 35, ocM, lnM, tyM, frM)
def MX0_add : MtT := (yX0_add, cX0_add, 5, (some .int), false, 4)
theorem kX0_add : Mok MX0_add := ⟨⟨by decide +kernel, by decide⟩, lk_mem (b := 3173) (by decide +kernel), lk_mem (b := 1004) (by decide +kernel), ⟨by decide +kernel, by decide +kernel⟩, by decide +kernel, ⟨lk_mem (b := 3171) (by decide +kernel), lk_mem (b := 3172) (by decide +kernel)⟩⟩
def MX0_findCounting : MtT := (yX0_findCounting, cX0_findCounting, 4, (some .int), false, 2)
theorem kX0_findCounting : Mok MX0_findCounting := ⟨⟨by decide +kernel, by decide⟩, lk_mem (b := 3181) (by decide +kernel), lk_mem (b := 1004) (by decide +kernel), ⟨by decide +kernel, by decide +kernel⟩, by decide +kernel, ⟨lk_mem (b := 3179) (by decide +kernel), lk_mem (b := 3180) (by decide +kernel)⟩⟩
def MX0_fillCounting : MtT := (yX0_fillCounting, cX0_fillCounting, 4, none, false, 2)
theorem kX0_fillCounting : Mok MX0_fillCounting := ⟨⟨by decide +kernel, by decide⟩, lk_mem (b := 3003) (by decide +kernel), lk_mem (b := 1004) (by decide +kernel), ⟨by decide +kernel, by decide +kernel⟩, by decide +kernel, ⟨lk_mem (b := 3001) (by decide +kernel), lk_mem (b := 3002) (by decide +kernel)⟩⟩
def MX1_setWeight : MtT := (yX1_setWeight, cX1_setWeight, 5, none, false, 4)
theorem kX1_setWeight : Mok MX1_setWeight := ⟨⟨by decide +kernel, by decide⟩, lk_mem (b := 3081) (by decide +kernel), lk_mem (b := 1007) (by decide +kernel), ⟨by decide +kernel, by decide +kernel⟩, by decide +kernel, ⟨lk_mem (b := 3079) (by decide +kernel), lk_mem (b := 3080) (by decide +kernel)⟩⟩
def MX1_solve : MtT := (yX1_solve, cX1_solve, 6, none, false, 1)
theorem kX1_solve : Mok MX1_solve := ⟨⟨by decide +kernel, by decide⟩, lk_mem (b := 3086) (by decide +kernel), lk_mem (b := 1007) (by decide +kernel), ⟨by decide +kernel, by decide +kernel⟩, by decide +kernel, ⟨lk_mem (b := 3084) (by decide +kernel), lk_mem (b := 3085) (by decide +kernel)⟩⟩
def MX1_choosePartner : MtT := (yX1_choosePartner, cX1_choosePartner, 6, (some .int), false, 3)
theorem kX1_choosePartner : Mok MX1_choosePartner := ⟨⟨by decide +kernel, by decide⟩, lk_mem (b := 3095) (by decide +kernel), lk_mem (b := 1007) (by decide +kernel), ⟨by decide +kernel, by decide +kernel⟩, by decide +kernel, ⟨lk_mem (b := 3094) (by decide +kernel), lk_mem (b := 14) (by decide +kernel)⟩⟩
def MX1_leastWeight : MtT := (yX1_leastWeight, cX1_leastWeight, 6, (some .int), false, 2)
theorem kX1_leastWeight : Mok MX1_leastWeight := ⟨⟨by decide +kernel, by decide⟩, lk_mem (b := 3099) (by decide +kernel), lk_mem (b := 1007) (by decide +kernel), ⟨by decide +kernel, by decide +kernel⟩, by decide +kernel, ⟨lk_mem (b := 3098) (by decide +kernel), lk_mem (b := 15) (by decide +kernel)⟩⟩
def MX1_weightWith : MtT := (yX1_weightWith, cX1_weightWith, 6, (some .int), false, 4)
theorem kX1_weightWith : Mok MX1_weightWith := ⟨⟨by decide +kernel, by decide⟩, lk_mem (b := 3107) (by decide +kernel), lk_mem (b := 1007) (by decide +kernel), ⟨by decide +kernel, by decide +kernel⟩, by decide +kernel, ⟨lk_mem (b := 3106) (by decide +kernel), lk_mem (b := 16) (by decide +kernel)⟩⟩
def MX1_without : MtT := (yX1_without, cX1_without, 3, (some .int), true, 3)
theorem kX1_without : Mok MX1_without := ⟨⟨by decide +kernel, by decide⟩, lk_mem (b := 3110) (by decide +kernel), lk_mem (b := 1007) (by decide +kernel), ⟨by decide +kernel, by decide +kernel⟩, by decide +kernel, lk_mem (b := 3109) (by decide +kernel)⟩
def MX2_hasSchool : MtT := (yX2_hasSchool, cX2_hasSchool, 2, (some .boolean), false, 1)
theorem kX2_hasSchool : Mok MX2_hasSchool := ⟨⟨by decide +kernel, by decide⟩, lk_mem (b := 2188) (by decide +kernel), lk_mem (b := 1002) (by decide +kernel), ⟨by decide +kernel, by decide +kernel⟩, by decide +kernel, ⟨lk_mem (b := 2186) (by decide +kernel), lk_mem (b := 2187) (by decide +kernel)⟩⟩
def MX2_hasJudge : MtT := (yX2_hasJudge, cX2_hasJudge, 2, (some .boolean), false, 1)
theorem kX2_hasJudge : Mok MX2_hasJudge := ⟨⟨by decide +kernel, by decide⟩, lk_mem (b := 2204) (by decide +kernel), lk_mem (b := 1002) (by decide +kernel), ⟨by decide +kernel, by decide +kernel⟩, by decide +kernel, ⟨lk_mem (b := 2202) (by decide +kernel), lk_mem (b := 2203) (by decide +kernel)⟩⟩
def MX2_addSchool : MtT := (yX2_addSchool, cX2_addSchool, 2, (some .int), false, 0)
theorem kX2_addSchool : Mok MX2_addSchool := ⟨⟨by decide +kernel, by decide⟩, lk_mem (b := 2176) (by decide +kernel), lk_mem (b := 1002) (by decide +kernel), ⟨by decide +kernel, by decide +kernel⟩, by decide +kernel, ⟨lk_mem (b := 2174) (by decide +kernel), lk_mem (b := 2175) (by decide +kernel)⟩⟩
def MX2_addJudge : MtT := (yX2_addJudge, cX2_addJudge, 2, (some .int), false, 0)
theorem kX2_addJudge : Mok MX2_addJudge := ⟨⟨by decide +kernel, by decide⟩, lk_mem (b := 2196) (by decide +kernel), lk_mem (b := 1002) (by decide +kernel), ⟨by decide +kernel, by decide +kernel⟩, by decide +kernel, ⟨lk_mem (b := 2194) (by decide +kernel), lk_mem (b := 2195) (by decide +kernel)⟩⟩
def MX2_areKin : MtT := (yX2_areKin, cX2_areKin, 3, (some .boolean), false, 2)
theorem kX2_areKin : Mok MX2_areKin := ⟨⟨by decide +kernel, by decide⟩, lk_mem (b := 2208) (by decide +kernel), lk_mem (b := 1002) (by decide +kernel), ⟨by decide +kernel, by decide +kernel⟩, by decide +kernel, ⟨lk_mem (b := 2206) (by decide +kernel), lk_mem (b := 2207) (by decide +kernel)⟩⟩
def MX2_addKin : MtT := (yX2_addKin, cX2_addKin, 3, (some .int), false, 2)
theorem kX2_addKin : Mok MX2_addKin := ⟨⟨by decide +kernel, by decide⟩, lk_mem (b := 2212) (by decide +kernel), lk_mem (b := 1002) (by decide +kernel), ⟨by decide +kernel, by decide +kernel⟩, by decide +kernel, ⟨lk_mem (b := 2210) (by decide +kernel), lk_mem (b := 2211) (by decide +kernel)⟩⟩
def MX2_countThere : MtT := (yX2_countThere, cX2_countThere, 3, (some .int), false, 0)
theorem kX2_countThere : Mok MX2_countThere := ⟨⟨by decide +kernel, by decide⟩, lk_mem (b := 2228) (by decide +kernel), lk_mem (b := 1002) (by decide +kernel), ⟨by decide +kernel, by decide +kernel⟩, by decide +kernel, ⟨lk_mem (b := 2226) (by decide +kernel), lk_mem (b := 2227) (by decide +kernel)⟩⟩
def MX4_makeRound : MtT := (yX4_makeRound, cX4_makeRound, 5, (some .int), false, 0)
theorem kX4_makeRound : Mok MX4_makeRound := ⟨⟨by decide +kernel, by decide⟩, lk_mem (b := 3053) (by decide +kernel), lk_mem (b := 1006) (by decide +kernel), ⟨by decide +kernel, by decide +kernel⟩, by decide +kernel, ⟨lk_mem (b := 3051) (by decide +kernel), lk_mem (b := 3052) (by decide +kernel)⟩⟩
def MX4_chooseBye : MtT := (yX4_chooseBye, cX4_chooseBye, 2, (some .int), false, 0)
theorem kX4_chooseBye : Mok MX4_chooseBye := ⟨⟨by decide +kernel, by decide⟩, lk_mem (b := 3061) (by decide +kernel), lk_mem (b := 1006) (by decide +kernel), ⟨by decide +kernel, by decide +kernel⟩, by decide +kernel, ⟨lk_mem (b := 3060) (by decide +kernel), lk_mem (b := 11) (by decide +kernel)⟩⟩
def MX4_lineUp : MtT := (yX4_lineUp, cX4_lineUp, 3, none, false, 1)
theorem kX4_lineUp : Mok MX4_lineUp := ⟨⟨by decide +kernel, by decide⟩, lk_mem (b := 3069) (by decide +kernel), lk_mem (b := 1006) (by decide +kernel), ⟨by decide +kernel, by decide +kernel⟩, by decide +kernel, ⟨lk_mem (b := 3068) (by decide +kernel), lk_mem (b := 12) (by decide +kernel)⟩⟩
def MX4_weighPairs : MtT := (yX4_weighPairs, cX4_weighPairs, 4, none, false, 0)
theorem kX4_weighPairs : Mok MX4_weighPairs := ⟨⟨by decide +kernel, by decide⟩, lk_mem (b := 3073) (by decide +kernel), lk_mem (b := 1006) (by decide +kernel), ⟨by decide +kernel, by decide +kernel⟩, by decide +kernel, ⟨lk_mem (b := 3072) (by decide +kernel), lk_mem (b := 13) (by decide +kernel)⟩⟩
def MX4_addTrial : MtT := (yX4_addTrial, cX4_addTrial, 4, (some .int), false, 3)
theorem kX4_addTrial : Mok MX4_addTrial := ⟨⟨by decide +kernel, by decide⟩, lk_mem (b := 3115) (by decide +kernel), lk_mem (b := 1006) (by decide +kernel), ⟨by decide +kernel, by decide +kernel⟩, by decide +kernel, ⟨lk_mem (b := 3114) (by decide +kernel), lk_mem (b := 17) (by decide +kernel)⟩⟩
def MX4_seatJudges : MtT := (yX4_seatJudges, cX4_seatJudges, 5, none, false, 2)
theorem kX4_seatJudges : Mok MX4_seatJudges := ⟨⟨by decide +kernel, by decide⟩, lk_mem (b := 3123) (by decide +kernel), lk_mem (b := 1006) (by decide +kernel), ⟨by decide +kernel, by decide +kernel⟩, by decide +kernel, ⟨lk_mem (b := 3122) (by decide +kernel), lk_mem (b := 18) (by decide +kernel)⟩⟩
def MX4_isStranger : MtT := (yX4_isStranger, cX4_isStranger, 3, (some .boolean), false, 2)
theorem kX4_isStranger : Mok MX4_isStranger := ⟨⟨by decide +kernel, by decide⟩, lk_mem (b := 3135) (by decide +kernel), lk_mem (b := 1006) (by decide +kernel), ⟨by decide +kernel, by decide +kernel⟩, by decide +kernel, ⟨lk_mem (b := 3134) (by decide +kernel), lk_mem (b := 19) (by decide +kernel)⟩⟩
def MX5_addRound : MtT := (yX5_addRound, cX5_addRound, 2, (some .int), false, 0)
theorem kX5_addRound : Mok MX5_addRound := ⟨⟨by decide +kernel, by decide⟩, lk_mem (b := 3057) (by decide +kernel), lk_mem (b := 1003) (by decide +kernel), ⟨by decide +kernel, by decide +kernel⟩, by decide +kernel, ⟨lk_mem (b := 3055) (by decide +kernel), lk_mem (b := 3056) (by decide +kernel)⟩⟩
def MX5_giveBye : MtT := (yX5_giveBye, cX5_giveBye, 3, none, false, 2)
theorem kX5_giveBye : Mok MX5_giveBye := ⟨⟨by decide +kernel, by decide⟩, lk_mem (b := 3065) (by decide +kernel), lk_mem (b := 1003) (by decide +kernel), ⟨by decide +kernel, by decide +kernel⟩, by decide +kernel, ⟨lk_mem (b := 3063) (by decide +kernel), lk_mem (b := 3064) (by decide +kernel)⟩⟩
def MX5_addTrial : MtT := (yX5_addTrial, cX5_addTrial, 6, (some .int), false, 3)
theorem kX5_addTrial : Mok MX5_addTrial := ⟨⟨by decide +kernel, by decide⟩, lk_mem (b := 3119) (by decide +kernel), lk_mem (b := 1003) (by decide +kernel), ⟨by decide +kernel, by decide +kernel⟩, by decide +kernel, ⟨lk_mem (b := 3117) (by decide +kernel), lk_mem (b := 3118) (by decide +kernel)⟩⟩
def MX5_seatJudge : MtT := (yX5_seatJudge, cX5_seatJudge, 4, none, false, 3)
theorem kX5_seatJudge : Mok MX5_seatJudge := ⟨⟨by decide +kernel, by decide⟩, lk_mem (b := 3144) (by decide +kernel), lk_mem (b := 1003) (by decide +kernel), ⟨by decide +kernel, by decide +kernel⟩, by decide +kernel, ⟨lk_mem (b := 3142) (by decide +kernel), lk_mem (b := 3143) (by decide +kernel)⟩⟩
def MX5_timesMet : MtT := (yX5_timesMet, cX5_timesMet, 3, (some .int), false, 2)
theorem kX5_timesMet : Mok MX5_timesMet := ⟨⟨by decide +kernel, by decide⟩, lk_mem (b := 3077) (by decide +kernel), lk_mem (b := 1003) (by decide +kernel), ⟨by decide +kernel, by decide +kernel⟩, by decide +kernel, ⟨lk_mem (b := 3075) (by decide +kernel), lk_mem (b := 3076) (by decide +kernel)⟩⟩
def MX5_hasJudged : MtT := (yX5_hasJudged, cX5_hasJudged, 3, (some .boolean), false, 2)
theorem kX5_hasJudged : Mok MX5_hasJudged := ⟨⟨by decide +kernel, by decide⟩, lk_mem (b := 3140) (by decide +kernel), lk_mem (b := 1003) (by decide +kernel), ⟨by decide +kernel, by decide +kernel⟩, by decide +kernel, ⟨lk_mem (b := 3138) (by decide +kernel), lk_mem (b := 3139) (by decide +kernel)⟩⟩
def MX5_isBusy : MtT := (yX5_isBusy, cX5_isBusy, 4, (some .boolean), false, 2)
theorem kX5_isBusy : Mok MX5_isBusy := ⟨⟨by decide +kernel, by decide⟩, lk_mem (b := 3127) (by decide +kernel), lk_mem (b := 1003) (by decide +kernel), ⟨by decide +kernel, by decide +kernel⟩, by decide +kernel, ⟨lk_mem (b := 3125) (by decide +kernel), lk_mem (b := 3126) (by decide +kernel)⟩⟩
def MX5_findTrial : MtT := (yX5_findTrial, cX5_findTrial, 3, (some .int), false, 2)
theorem kX5_findTrial : Mok MX5_findTrial := ⟨⟨by decide +kernel, by decide⟩, lk_mem (b := 3160) (by decide +kernel), lk_mem (b := 1003) (by decide +kernel), ⟨by decide +kernel, by decide +kernel⟩, by decide +kernel, ⟨lk_mem (b := 3158) (by decide +kernel), lk_mem (b := 3159) (by decide +kernel)⟩⟩
def MX5_findSeat : MtT := (yX5_findSeat, cX5_findSeat, 5, (some .int), false, 2)
theorem kX5_findSeat : Mok MX5_findSeat := ⟨⟨by decide +kernel, by decide⟩, lk_mem (b := 3131) (by decide +kernel), lk_mem (b := 1003) (by decide +kernel), ⟨by decide +kernel, by decide +kernel⟩, by decide +kernel, ⟨lk_mem (b := 3129) (by decide +kernel), lk_mem (b := 3130) (by decide +kernel)⟩⟩
def MX5_tellRound : MtT := (yX5_tellRound, cX5_tellRound, 3, (some .int), false, 2)
theorem kX5_tellRound : Mok MX5_tellRound := ⟨⟨by decide +kernel, by decide⟩, lk_mem (b := 3152) (by decide +kernel), lk_mem (b := 1003) (by decide +kernel), ⟨by decide +kernel, by decide +kernel⟩, by decide +kernel, ⟨lk_mem (b := 3150) (by decide +kernel), lk_mem (b := 3151) (by decide +kernel)⟩⟩
def MX5_tellTrial : MtT := (yX5_tellTrial, cX5_tellTrial, 5, (some .int), false, 3)
theorem kX5_tellTrial : Mok MX5_tellTrial := ⟨⟨by decide +kernel, by decide⟩, lk_mem (b := 3156) (by decide +kernel), lk_mem (b := 1003) (by decide +kernel), ⟨by decide +kernel, by decide +kernel⟩, by decide +kernel, ⟨lk_mem (b := 3154) (by decide +kernel), lk_mem (b := 3155) (by decide +kernel)⟩⟩
def MX6_clear : MtT := (yX6_clear, cX6_clear, 1, none, false, 0)
theorem kX6_clear : Mok MX6_clear := ⟨⟨by decide +kernel, by decide⟩, lk_mem (b := 4019) (by decide +kernel), lk_mem (b := 1011) (by decide +kernel), ⟨by decide +kernel, by decide +kernel⟩, by decide +kernel, ⟨lk_mem (b := 4017) (by decide +kernel), lk_mem (b := 4018) (by decide +kernel)⟩⟩
def MX6_addRule : MtT := (yX6_addRule, cX6_addRule, 2, none, false, 1)
theorem kX6_addRule : Mok MX6_addRule := ⟨⟨by decide +kernel, by decide⟩, lk_mem (b := 4107) (by decide +kernel), lk_mem (b := 1011) (by decide +kernel), ⟨by decide +kernel, by decide +kernel⟩, by decide +kernel, ⟨lk_mem (b := 4105) (by decide +kernel), lk_mem (b := 4106) (by decide +kernel)⟩⟩
def MX6_addCode : MtT := (yX6_addCode, cX6_addCode, 2, none, false, 1)
theorem kX6_addCode : Mok MX6_addCode := ⟨⟨by decide +kernel, by decide⟩, lk_mem (b := 4131) (by decide +kernel), lk_mem (b := 1011) (by decide +kernel), ⟨by decide +kernel, by decide +kernel⟩, by decide +kernel, ⟨lk_mem (b := 4129) (by decide +kernel), lk_mem (b := 4130) (by decide +kernel)⟩⟩
def MX6_sustains : MtT := (yX6_sustains, cX6_sustains, 4, (some .boolean), false, 2)
theorem kX6_sustains : Mok MX6_sustains := ⟨⟨by decide +kernel, by decide⟩, lk_mem (b := 4167) (by decide +kernel), lk_mem (b := 1011) (by decide +kernel), ⟨by decide +kernel, by decide +kernel⟩, by decide +kernel, ⟨lk_mem (b := 4165) (by decide +kernel), lk_mem (b := 4166) (by decide +kernel)⟩⟩
def MX6_holds : MtT := (yX6_holds, cX6_holds, 4, (some .boolean), false, 2)
theorem kX6_holds : Mok MX6_holds := ⟨⟨by decide +kernel, by decide⟩, lk_mem (b := 4171) (by decide +kernel), lk_mem (b := 1011) (by decide +kernel), ⟨by decide +kernel, by decide +kernel⟩, by decide +kernel, ⟨lk_mem (b := 4170) (by decide +kernel), lk_mem (b := 32) (by decide +kernel)⟩⟩
def MX6_apply : MtT := (yX6_apply, cX6_apply, 3, none, false, 2)
theorem kX6_apply : Mok MX6_apply := ⟨⟨by decide +kernel, by decide⟩, lk_mem (b := 4175) (by decide +kernel), lk_mem (b := 1011) (by decide +kernel), ⟨by decide +kernel, by decide +kernel⟩, by decide +kernel, ⟨lk_mem (b := 4174) (by decide +kernel), lk_mem (b := 33) (by decide +kernel)⟩⟩
def MX6_push : MtT := (yX6_push, cX6_push, 2, none, false, 1)
theorem kX6_push : Mok MX6_push := ⟨⟨by decide +kernel, by decide⟩, lk_mem (b := 4179) (by decide +kernel), lk_mem (b := 1011) (by decide +kernel), ⟨by decide +kernel, by decide +kernel⟩, by decide +kernel, ⟨lk_mem (b := 4178) (by decide +kernel), lk_mem (b := 34) (by decide +kernel)⟩⟩
def MX6_pop : MtT := (yX6_pop, cX6_pop, 1, (some .boolean), false, 0)
theorem kX6_pop : Mok MX6_pop := ⟨⟨by decide +kernel, by decide⟩, lk_mem (b := 4183) (by decide +kernel), lk_mem (b := 1011) (by decide +kernel), ⟨by decide +kernel, by decide +kernel⟩, by decide +kernel, ⟨lk_mem (b := 4182) (by decide +kernel), lk_mem (b := 35) (by decide +kernel)⟩⟩
def MX7_readInto : MtT := (yX7_readInto, cX7_readInto, 3, (some .boolean), false, 1)
theorem kX7_readInto : Mok MX7_readInto := ⟨⟨by decide +kernel, by decide⟩, lk_mem (b := 4015) (by decide +kernel), lk_mem (b := 1012) (by decide +kernel), ⟨by decide +kernel, by decide +kernel⟩, by decide +kernel, ⟨lk_mem (b := 4013) (by decide +kernel), lk_mem (b := 4014) (by decide +kernel)⟩⟩
def MX7_readRule : MtT := (yX7_readRule, cX7_readRule, 2, (some .boolean), false, 0)
theorem kX7_readRule : Mok MX7_readRule := ⟨⟨by decide +kernel, by decide⟩, lk_mem (b := 4038) (by decide +kernel), lk_mem (b := 1012) (by decide +kernel), ⟨by decide +kernel, by decide +kernel⟩, by decide +kernel, ⟨lk_mem (b := 4037) (by decide +kernel), lk_mem (b := 22) (by decide +kernel)⟩⟩
def MX7_takeKind : MtT := (yX7_takeKind, cX7_takeKind, 1, (some .int), false, 0)
theorem kX7_takeKind : Mok MX7_takeKind := ⟨⟨by decide +kernel, by decide⟩, lk_mem (b := 4099) (by decide +kernel), lk_mem (b := 1012) (by decide +kernel), ⟨by decide +kernel, by decide +kernel⟩, by decide +kernel, ⟨lk_mem (b := 4098) (by decide +kernel), lk_mem (b := 25) (by decide +kernel)⟩⟩
def MX7_readOr : MtT := (yX7_readOr, cX7_readOr, 3, (some .boolean), false, 1)
theorem kX7_readOr : Mok MX7_readOr := ⟨⟨by decide +kernel, by decide⟩, lk_mem (b := 4112) (by decide +kernel), lk_mem (b := 1012) (by decide +kernel), ⟨by decide +kernel, by decide +kernel⟩, by decide +kernel, ⟨lk_mem (b := 4111) (by decide +kernel), lk_mem (b := 26) (by decide +kernel)⟩⟩
def MX7_readAnd : MtT := (yX7_readAnd, cX7_readAnd, 3, (some .boolean), false, 1)
theorem kX7_readAnd : Mok MX7_readAnd := ⟨⟨by decide +kernel, by decide⟩, lk_mem (b := 4116) (by decide +kernel), lk_mem (b := 1012) (by decide +kernel), ⟨by decide +kernel, by decide +kernel⟩, by decide +kernel, ⟨lk_mem (b := 4115) (by decide +kernel), lk_mem (b := 27) (by decide +kernel)⟩⟩
def MX7_readNot : MtT := (yX7_readNot, cX7_readNot, 3, (some .boolean), false, 1)
theorem kX7_readNot : Mok MX7_readNot := ⟨⟨by decide +kernel, by decide⟩, lk_mem (b := 4120) (by decide +kernel), lk_mem (b := 1012) (by decide +kernel), ⟨by decide +kernel, by decide +kernel⟩, by decide +kernel, ⟨lk_mem (b := 4119) (by decide +kernel), lk_mem (b := 28) (by decide +kernel)⟩⟩
def MX7_readNested : MtT := (yX7_readNested, cX7_readNested, 2, (some .boolean), false, 1)
theorem kX7_readNested : Mok MX7_readNested := ⟨⟨by decide +kernel, by decide⟩, lk_mem (b := 4126) (by decide +kernel), lk_mem (b := 1012) (by decide +kernel), ⟨by decide +kernel, by decide +kernel⟩, by decide +kernel, ⟨lk_mem (b := 4125) (by decide +kernel), lk_mem (b := 29) (by decide +kernel)⟩⟩
def MX7_takeWord : MtT := (yX7_takeWord, cX7_takeWord, 1, (some .int), false, 0)
theorem kX7_takeWord : Mok MX7_takeWord := ⟨⟨by decide +kernel, by decide⟩, lk_mem (b := 4142) (by decide +kernel), lk_mem (b := 1012) (by decide +kernel), ⟨by decide +kernel, by decide +kernel⟩, by decide +kernel, ⟨lk_mem (b := 4141) (by decide +kernel), lk_mem (b := 31) (by decide +kernel)⟩⟩
def MX7_readNumber : MtT := (yX7_readNumber, cX7_readNumber, 3, (some .boolean), false, 0)
theorem kX7_readNumber : Mok MX7_readNumber := ⟨⟨by decide +kernel, by decide⟩, lk_mem (b := 4136) (by decide +kernel), lk_mem (b := 1012) (by decide +kernel), ⟨by decide +kernel, by decide +kernel⟩, by decide +kernel, ⟨lk_mem (b := 4135) (by decide +kernel), lk_mem (b := 30) (by decide +kernel)⟩⟩
def MX7_take : MtT := (yX7_take, cX7_take, 2, (some .boolean), false, 1)
theorem kX7_take : Mok MX7_take := ⟨⟨by decide +kernel, by decide⟩, lk_mem (b := 4043) (by decide +kernel), lk_mem (b := 1012) (by decide +kernel), ⟨by decide +kernel, by decide +kernel⟩, by decide +kernel, ⟨lk_mem (b := 4042) (by decide +kernel), lk_mem (b := 23) (by decide +kernel)⟩⟩
def MX7_isAt : MtT := (yX7_isAt, cX7_isAt, 3, (some .boolean), false, 1)
theorem kX7_isAt : Mok MX7_isAt := ⟨⟨by decide +kernel, by decide⟩, lk_mem (b := 4047) (by decide +kernel), lk_mem (b := 1012) (by decide +kernel), ⟨by decide +kernel, by decide +kernel⟩, by decide +kernel, ⟨lk_mem (b := 4046) (by decide +kernel), lk_mem (b := 24) (by decide +kernel)⟩⟩
def MX7_isOver : MtT := (yX7_isOver, cX7_isOver, 1, (some .boolean), false, 0)
theorem kX7_isOver : Mok MX7_isOver := ⟨⟨by decide +kernel, by decide⟩, lk_mem (b := 4031) (by decide +kernel), lk_mem (b := 1012) (by decide +kernel), ⟨by decide +kernel, by decide +kernel⟩, by decide +kernel, ⟨lk_mem (b := 4030) (by decide +kernel), lk_mem (b := 21) (by decide +kernel)⟩⟩
def MX7_step : MtT := (yX7_step, cX7_step, 2, none, false, 0)
theorem kX7_step : Mok MX7_step := ⟨⟨by decide +kernel, by decide⟩, lk_mem (b := 4023) (by decide +kernel), lk_mem (b := 1012) (by decide +kernel), ⟨by decide +kernel, by decide +kernel⟩, by decide +kernel, ⟨lk_mem (b := 4022) (by decide +kernel), lk_mem (b := 20) (by decide +kernel)⟩⟩
def MX7_sortOf : MtT := (yX7_sortOf, cX7_sortOf, 1, (some .int), true, 1)
theorem kX7_sortOf : Mok MX7_sortOf := ⟨⟨by decide +kernel, by decide⟩, lk_mem (b := 4034) (by decide +kernel), lk_mem (b := 1012) (by decide +kernel), ⟨by decide +kernel, by decide +kernel⟩, by decide +kernel, lk_mem (b := 4033) (by decide +kernel)⟩
def MX8_reckon : MtT := (yX8_reckon, cX8_reckon, 3, none, false, 1)
theorem kX8_reckon : Mok MX8_reckon := ⟨⟨by decide +kernel, by decide⟩, lk_mem (b := 2232) (by decide +kernel), lk_mem (b := 1005) (by decide +kernel), ⟨by decide +kernel, by decide +kernel⟩, by decide +kernel, ⟨lk_mem (b := 2230) (by decide +kernel), lk_mem (b := 2231) (by decide +kernel)⟩⟩
def MX8_placeOf : MtT := (yX8_placeOf, cX8_placeOf, 3, (some .int), false, 1)
theorem kX8_placeOf : Mok MX8_placeOf := ⟨⟨by decide +kernel, by decide⟩, lk_mem (b := 3190) (by decide +kernel), lk_mem (b := 1005) (by decide +kernel), ⟨by decide +kernel, by decide +kernel⟩, by decide +kernel, ⟨lk_mem (b := 3188) (by decide +kernel), lk_mem (b := 3189) (by decide +kernel)⟩⟩
def MX8_spanOf : MtT := (yX8_spanOf, cX8_spanOf, 2, (some .int), false, 1)
theorem kX8_spanOf : Mok MX8_spanOf := ⟨⟨by decide +kernel, by decide⟩, lk_mem (b := 3030) (by decide +kernel), lk_mem (b := 1005) (by decide +kernel), ⟨by decide +kernel, by decide +kernel⟩, by decide +kernel, ⟨lk_mem (b := 3028) (by decide +kernel), lk_mem (b := 3029) (by decide +kernel)⟩⟩
def MX8_clear : MtT := (yX8_clear, cX8_clear, 1, none, false, 0)
theorem kX8_clear : Mok MX8_clear := ⟨⟨by decide +kernel, by decide⟩, lk_mem (b := 2236) (by decide +kernel), lk_mem (b := 1005) (by decide +kernel), ⟨by decide +kernel, by decide +kernel⟩, by decide +kernel, ⟨lk_mem (b := 2235) (by decide +kernel), lk_mem (b := 2) (by decide +kernel)⟩⟩
def MX8_measureJudges : MtT := (yX8_measureJudges, cX8_measureJudges, 3, none, false, 0)
theorem kX8_measureJudges : Mok MX8_measureJudges := ⟨⟨by decide +kernel, by decide⟩, lk_mem (b := 3008) (by decide +kernel), lk_mem (b := 1005) (by decide +kernel), ⟨by decide +kernel, by decide +kernel⟩, by decide +kernel, ⟨lk_mem (b := 3007) (by decide +kernel), lk_mem (b := 3) (by decide +kernel)⟩⟩
def MX8_measurePoints : MtT := (yX8_measurePoints, cX8_measurePoints, 3, none, false, 2)
theorem kX8_measurePoints : Mok MX8_measurePoints := ⟨⟨by decide +kernel, by decide⟩, lk_mem (b := 3012) (by decide +kernel), lk_mem (b := 1005) (by decide +kernel), ⟨by decide +kernel, by decide +kernel⟩, by decide +kernel, ⟨lk_mem (b := 3011) (by decide +kernel), lk_mem (b := 4) (by decide +kernel)⟩⟩
def MX8_addRound : MtT := (yX8_addRound, cX8_addRound, 4, none, false, 1)
theorem kX8_addRound : Mok MX8_addRound := ⟨⟨by decide +kernel, by decide⟩, lk_mem (b := 3022) (by decide +kernel), lk_mem (b := 1005) (by decide +kernel), ⟨by decide +kernel, by decide +kernel⟩, by decide +kernel, ⟨lk_mem (b := 3021) (by decide +kernel), lk_mem (b := 5) (by decide +kernel)⟩⟩
def MX8_addTrial : MtT := (yX8_addTrial, cX8_addTrial, 10, none, false, 1)
theorem kX8_addTrial : Mok MX8_addTrial := ⟨⟨by decide +kernel, by decide⟩, lk_mem (b := 3026) (by decide +kernel), lk_mem (b := 1005) (by decide +kernel), ⟨by decide +kernel, by decide +kernel⟩, by decide +kernel, ⟨lk_mem (b := 3025) (by decide +kernel), lk_mem (b := 6) (by decide +kernel)⟩⟩
def MX8_shareOf : MtT := (yX8_shareOf, cX8_shareOf, 1, (some .int), true, 1)
theorem kX8_shareOf : Mok MX8_shareOf := ⟨⟨by decide +kernel, by decide⟩, lk_mem (b := 3033) (by decide +kernel), lk_mem (b := 1005) (by decide +kernel), ⟨by decide +kernel, by decide +kernel⟩, by decide +kernel, lk_mem (b := 3032) (by decide +kernel)⟩
def MX8_addMetWins : MtT := (yX8_addMetWins, cX8_addMetWins, 6, none, false, 1)
theorem kX8_addMetWins : Mok MX8_addMetWins := ⟨⟨by decide +kernel, by decide⟩, lk_mem (b := 3037) (by decide +kernel), lk_mem (b := 1005) (by decide +kernel), ⟨by decide +kernel, by decide +kernel⟩, by decide +kernel, ⟨lk_mem (b := 3036) (by decide +kernel), lk_mem (b := 7) (by decide +kernel)⟩⟩
def MX8_sort : MtT := (yX8_sort, cX8_sort, 2, none, false, 0)
theorem kX8_sort : Mok MX8_sort := ⟨⟨by decide +kernel, by decide⟩, lk_mem (b := 3041) (by decide +kernel), lk_mem (b := 1005) (by decide +kernel), ⟨by decide +kernel, by decide +kernel⟩, by decide +kernel, ⟨lk_mem (b := 3040) (by decide +kernel), lk_mem (b := 8) (by decide +kernel)⟩⟩
def MX8_insert : MtT := (yX8_insert, cX8_insert, 3, none, false, 1)
theorem kX8_insert : Mok MX8_insert := ⟨⟨by decide +kernel, by decide⟩, lk_mem (b := 3045) (by decide +kernel), lk_mem (b := 1005) (by decide +kernel), ⟨by decide +kernel, by decide +kernel⟩, by decide +kernel, ⟨lk_mem (b := 3044) (by decide +kernel), lk_mem (b := 9) (by decide +kernel)⟩⟩
def MX8_isAhead : MtT := (yX8_isAhead, cX8_isAhead, 3, (some .boolean), false, 2)
theorem kX8_isAhead : Mok MX8_isAhead := ⟨⟨by decide +kernel, by decide⟩, lk_mem (b := 3049) (by decide +kernel), lk_mem (b := 1005) (by decide +kernel), ⟨by decide +kernel, by decide +kernel⟩, by decide +kernel, ⟨lk_mem (b := 3048) (by decide +kernel), lk_mem (b := 10) (by decide +kernel)⟩⟩
def MX9_addBytes : MtT := (yX9_addBytes, cX9_addBytes, 3, none, false, 1)
theorem kX9_addBytes : Mok MX9_addBytes := ⟨⟨by decide +kernel, by decide⟩, lk_mem (b := 4003) (by decide +kernel), lk_mem (b := 1010) (by decide +kernel), ⟨by decide +kernel, by decide +kernel⟩, by decide +kernel, ⟨lk_mem (b := 4001) (by decide +kernel), lk_mem (b := 4002) (by decide +kernel)⟩⟩
def MX9_byteAt : MtT := (yX9_byteAt, cX9_byteAt, 2, (some .char), false, 1)
theorem kX9_byteAt : Mok MX9_byteAt := ⟨⟨by decide +kernel, by decide⟩, lk_mem (b := 4027) (by decide +kernel), lk_mem (b := 1010) (by decide +kernel), ⟨by decide +kernel, by decide +kernel⟩, by decide +kernel, ⟨lk_mem (b := 4025) (by decide +kernel), lk_mem (b := 4026) (by decide +kernel)⟩⟩
def MX10_hasWitness : MtT := (yX10_hasWitness, cX10_hasWitness, 2, (some .boolean), false, 1)
theorem kX10_hasWitness : Mok MX10_hasWitness := ⟨⟨by decide +kernel, by decide⟩, lk_mem (b := 3231) (by decide +kernel), lk_mem (b := 1008) (by decide +kernel), ⟨by decide +kernel, by decide +kernel⟩, by decide +kernel, ⟨lk_mem (b := 3229) (by decide +kernel), lk_mem (b := 3230) (by decide +kernel)⟩⟩
def MX10_addWitness : MtT := (yX10_addWitness, cX10_addWitness, 3, (some .int), false, 1)
theorem kX10_addWitness : Mok MX10_addWitness := ⟨⟨by decide +kernel, by decide⟩, lk_mem (b := 3212) (by decide +kernel), lk_mem (b := 1008) (by decide +kernel), ⟨by decide +kernel, by decide +kernel⟩, by decide +kernel, ⟨lk_mem (b := 3210) (by decide +kernel), lk_mem (b := 3211) (by decide +kernel)⟩⟩
def MX10_addImplication : MtT := (yX10_addImplication, cX10_addImplication, 3, (some .int), false, 2)
theorem kX10_addImplication : Mok MX10_addImplication := ⟨⟨by decide +kernel, by decide⟩, lk_mem (b := 3223) (by decide +kernel), lk_mem (b := 1008) (by decide +kernel), ⟨by decide +kernel, by decide +kernel⟩, by decide +kernel, ⟨lk_mem (b := 3221) (by decide +kernel), lk_mem (b := 3222) (by decide +kernel)⟩⟩
def MX10_followAll : MtT := (yX10_followAll, cX10_followAll, 6, (some .int), false, 1)
theorem kX10_followAll : Mok MX10_followAll := ⟨⟨by decide +kernel, by decide⟩, lk_mem (b := 3235) (by decide +kernel), lk_mem (b := 1008) (by decide +kernel), ⟨by decide +kernel, by decide +kernel⟩, by decide +kernel, ⟨lk_mem (b := 3233) (by decide +kernel), lk_mem (b := 3234) (by decide +kernel)⟩⟩
def MX10_timesAsked : MtT := (yX10_timesAsked, cX10_timesAsked, 3, (some .int), false, 2)
theorem kX10_timesAsked : Mok MX10_timesAsked := ⟨⟨by decide +kernel, by decide⟩, lk_mem (b := 4163) (by decide +kernel), lk_mem (b := 1008) (by decide +kernel), ⟨by decide +kernel, by decide +kernel⟩, by decide +kernel, ⟨lk_mem (b := 4161) (by decide +kernel), lk_mem (b := 4162) (by decide +kernel)⟩⟩
def MX10_putQuestion : MtT := (yX10_putQuestion, cX10_putQuestion, 4, (some .int), false, 2)
theorem kX10_putQuestion : Mok MX10_putQuestion := ⟨⟨by decide +kernel, by decide⟩, lk_mem (b := 4191) (by decide +kernel), lk_mem (b := 1008) (by decide +kernel), ⟨by decide +kernel, by decide +kernel⟩, by decide +kernel, ⟨lk_mem (b := 4189) (by decide +kernel), lk_mem (b := 4190) (by decide +kernel)⟩⟩
def MX11_school : MtT := (yX11_school, cX11_school, 1, (some .int), false, 0)
theorem kX11_school : Mok MX11_school := ⟨⟨by decide +kernel, by decide⟩, lk_mem (b := 2168) (by decide +kernel), lk_mem (b := 1001) (by decide +kernel), ⟨by decide +kernel, by decide +kernel⟩, by decide +kernel, ⟨lk_mem (b := 2166) (by decide +kernel), lk_mem (b := 2167) (by decide +kernel)⟩⟩
def MX11_gone : MtT := (yX11_gone, cX11_gone, 3, (some .int), false, 2)
theorem kX11_gone : Mok MX11_gone := ⟨⟨by decide +kernel, by decide⟩, lk_mem (b := 2184) (by decide +kernel), lk_mem (b := 1001) (by decide +kernel), ⟨by decide +kernel, by decide +kernel⟩, by decide +kernel, ⟨lk_mem (b := 2182) (by decide +kernel), lk_mem (b := 2183) (by decide +kernel)⟩⟩
def MX11_judge : MtT := (yX11_judge, cX11_judge, 1, (some .int), false, 0)
theorem kX11_judge : Mok MX11_judge := ⟨⟨by decide +kernel, by decide⟩, lk_mem (b := 2192) (by decide +kernel), lk_mem (b := 1001) (by decide +kernel), ⟨by decide +kernel, by decide +kernel⟩, by decide +kernel, ⟨lk_mem (b := 2190) (by decide +kernel), lk_mem (b := 2191) (by decide +kernel)⟩⟩
def MX11_kin : MtT := (yX11_kin, cX11_kin, 3, (some .int), false, 2)
theorem kX11_kin : Mok MX11_kin := ⟨⟨by decide +kernel, by decide⟩, lk_mem (b := 2200) (by decide +kernel), lk_mem (b := 1001) (by decide +kernel), ⟨by decide +kernel, by decide +kernel⟩, by decide +kernel, ⟨lk_mem (b := 2198) (by decide +kernel), lk_mem (b := 2199) (by decide +kernel)⟩⟩
def MX11_rooms : MtT := (yX11_rooms, cX11_rooms, 3, (some .int), false, 1)
theorem kX11_rooms : Mok MX11_rooms := ⟨⟨by decide +kernel, by decide⟩, lk_mem (b := 2216) (by decide +kernel), lk_mem (b := 1001) (by decide +kernel), ⟨by decide +kernel, by decide +kernel⟩, by decide +kernel, ⟨lk_mem (b := 2214) (by decide +kernel), lk_mem (b := 2215) (by decide +kernel)⟩⟩
def MX11_pair : MtT := (yX11_pair, cX11_pair, 3, (some .int), false, 1)
theorem kX11_pair : Mok MX11_pair := ⟨⟨by decide +kernel, by decide⟩, lk_mem (b := 2220) (by decide +kernel), lk_mem (b := 1001) (by decide +kernel), ⟨by decide +kernel, by decide +kernel⟩, by decide +kernel, ⟨lk_mem (b := 2218) (by decide +kernel), lk_mem (b := 2219) (by decide +kernel)⟩⟩
def MX11_trial : MtT := (yX11_trial, cX11_trial, 4, (some .int), false, 3)
theorem kX11_trial : Mok MX11_trial := ⟨⟨by decide +kernel, by decide⟩, lk_mem (b := 3148) (by decide +kernel), lk_mem (b := 1001) (by decide +kernel), ⟨by decide +kernel, by decide +kernel⟩, by decide +kernel, ⟨lk_mem (b := 3146) (by decide +kernel), lk_mem (b := 3147) (by decide +kernel)⟩⟩
def MX11_ballot : MtT := (yX11_ballot, cX11_ballot, 9, (some .int), false, 6)
theorem kX11_ballot : Mok MX11_ballot := ⟨⟨by decide +kernel, by decide⟩, lk_mem (b := 3164) (by decide +kernel), lk_mem (b := 1001) (by decide +kernel), ⟨by decide +kernel, by decide +kernel⟩, by decide +kernel, ⟨lk_mem (b := 3162) (by decide +kernel), lk_mem (b := 3163) (by decide +kernel)⟩⟩
def MX11_counts : MtT := (yX11_counts, cX11_counts, 9, (some .int), false, 5)
theorem kX11_counts : Mok MX11_counts := ⟨⟨by decide +kernel, by decide⟩, lk_mem (b := 3177) (by decide +kernel), lk_mem (b := 1001) (by decide +kernel), ⟨by decide +kernel, by decide +kernel⟩, by decide +kernel, ⟨lk_mem (b := 3175) (by decide +kernel), lk_mem (b := 3176) (by decide +kernel)⟩⟩
def MX11_of : MtT := (yX11_of, cX11_of, 4, (some .int), false, 3)
theorem kX11_of : Mok MX11_of := ⟨⟨by decide +kernel, by decide⟩, lk_mem (b := 3185) (by decide +kernel), lk_mem (b := 1001) (by decide +kernel), ⟨by decide +kernel, by decide +kernel⟩, by decide +kernel, ⟨lk_mem (b := 3183) (by decide +kernel), lk_mem (b := 3184) (by decide +kernel)⟩⟩
def MX11_at : MtT := (yX11_at, cX11_at, 3, (some .int), false, 2)
theorem kX11_at : Mok MX11_at := ⟨⟨by decide +kernel, by decide⟩, lk_mem (b := 3194) (by decide +kernel), lk_mem (b := 1001) (by decide +kernel), ⟨by decide +kernel, by decide +kernel⟩, by decide +kernel, ⟨lk_mem (b := 3192) (by decide +kernel), lk_mem (b := 3193) (by decide +kernel)⟩⟩
def MX11_span : MtT := (yX11_span, cX11_span, 3, (some .int), false, 2)
theorem kX11_span : Mok MX11_span := ⟨⟨by decide +kernel, by decide⟩, lk_mem (b := 3198) (by decide +kernel), lk_mem (b := 1001) (by decide +kernel), ⟨by decide +kernel, by decide +kernel⟩, by decide +kernel, ⟨lk_mem (b := 3196) (by decide +kernel), lk_mem (b := 3197) (by decide +kernel)⟩⟩
def MX11_met : MtT := (yX11_met, cX11_met, 3, (some .int), false, 2)
theorem kX11_met : Mok MX11_met := ⟨⟨by decide +kernel, by decide⟩, lk_mem (b := 3203) (by decide +kernel), lk_mem (b := 1001) (by decide +kernel), ⟨by decide +kernel, by decide +kernel⟩, by decide +kernel, ⟨lk_mem (b := 3201) (by decide +kernel), lk_mem (b := 3202) (by decide +kernel)⟩⟩
def MX11_witness : MtT := (yX11_witness, cX11_witness, 2, (some .int), false, 1)
theorem kX11_witness : Mok MX11_witness := ⟨⟨by decide +kernel, by decide⟩, lk_mem (b := 3208) (by decide +kernel), lk_mem (b := 1001) (by decide +kernel), ⟨by decide +kernel, by decide +kernel⟩, by decide +kernel, ⟨lk_mem (b := 3206) (by decide +kernel), lk_mem (b := 3207) (by decide +kernel)⟩⟩
def MX11_implies : MtT := (yX11_implies, cX11_implies, 3, (some .int), false, 2)
theorem kX11_implies : Mok MX11_implies := ⟨⟨by decide +kernel, by decide⟩, lk_mem (b := 3216) (by decide +kernel), lk_mem (b := 1001) (by decide +kernel), ⟨by decide +kernel, by decide +kernel⟩, by decide +kernel, ⟨lk_mem (b := 3214) (by decide +kernel), lk_mem (b := 3215) (by decide +kernel)⟩⟩
def MX11_implied : MtT := (yX11_implied, cX11_implied, 2, (some .int), false, 1)
theorem kX11_implied : Mok MX11_implied := ⟨⟨by decide +kernel, by decide⟩, lk_mem (b := 3227) (by decide +kernel), lk_mem (b := 1001) (by decide +kernel), ⟨by decide +kernel, by decide +kernel⟩, by decide +kernel, ⟨lk_mem (b := 3225) (by decide +kernel), lk_mem (b := 3226) (by decide +kernel)⟩⟩
def MX11_feed : MtT := (yX11_feed, cX11_feed, 6, (some .int), false, 5)
theorem kX11_feed : Mok MX11_feed := ⟨⟨by decide +kernel, by decide⟩, lk_mem (b := 3239) (by decide +kernel), lk_mem (b := 1001) (by decide +kernel), ⟨by decide +kernel, by decide +kernel⟩, by decide +kernel, ⟨lk_mem (b := 3237) (by decide +kernel), lk_mem (b := 3238) (by decide +kernel)⟩⟩
def MX11_end : MtT := (yX11_end, cX11_end, 2, (some .int), false, 1)
theorem kX11_end : Mok MX11_end := ⟨⟨by decide +kernel, by decide⟩, lk_mem (b := 4007) (by decide +kernel), lk_mem (b := 1001) (by decide +kernel), ⟨by decide +kernel, by decide +kernel⟩, by decide +kernel, ⟨lk_mem (b := 4005) (by decide +kernel), lk_mem (b := 4006) (by decide +kernel)⟩⟩
def MX11_rules : MtT := (yX11_rules, cX11_rules, 3, (some .int), false, 0)
theorem kX11_rules : Mok MX11_rules := ⟨⟨by decide +kernel, by decide⟩, lk_mem (b := 4011) (by decide +kernel), lk_mem (b := 1001) (by decide +kernel), ⟨by decide +kernel, by decide +kernel⟩, by decide +kernel, ⟨lk_mem (b := 4009) (by decide +kernel), lk_mem (b := 4010) (by decide +kernel)⟩⟩
def MX11_fault : MtT := (yX11_fault, cX11_fault, 1, (some .int), false, 0)
theorem kX11_fault : Mok MX11_fault := ⟨⟨by decide +kernel, by decide⟩, lk_mem (b := 4154) (by decide +kernel), lk_mem (b := 1001) (by decide +kernel), ⟨by decide +kernel, by decide +kernel⟩, by decide +kernel, ⟨lk_mem (b := 4152) (by decide +kernel), lk_mem (b := 4153) (by decide +kernel)⟩⟩
def MX11_object : MtT := (yX11_object, cX11_object, 6, (some .int), false, 4)
theorem kX11_object : Mok MX11_object := ⟨⟨by decide +kernel, by decide⟩, lk_mem (b := 4158) (by decide +kernel), lk_mem (b := 1001) (by decide +kernel), ⟨by decide +kernel, by decide +kernel⟩, by decide +kernel, ⟨lk_mem (b := 4156) (by decide +kernel), lk_mem (b := 4157) (by decide +kernel)⟩⟩
def MX11_ask : MtT := (yX11_ask, cX11_ask, 3, (some .int), false, 2)
theorem kX11_ask : Mok MX11_ask := ⟨⟨by decide +kernel, by decide⟩, lk_mem (b := 4187) (by decide +kernel), lk_mem (b := 1001) (by decide +kernel), ⟨by decide +kernel, by decide +kernel⟩, by decide +kernel, ⟨lk_mem (b := 4185) (by decide +kernel), lk_mem (b := 4186) (by decide +kernel)⟩⟩
def MX11_count : MtT := (yX11_count, cX11_count, 2, (some .int), false, 1)
theorem kX11_count : Mok MX11_count := ⟨⟨by decide +kernel, by decide⟩, lk_mem (b := 4196) (by decide +kernel), lk_mem (b := 1001) (by decide +kernel), ⟨by decide +kernel, by decide +kernel⟩, by decide +kernel, ⟨lk_mem (b := 4194) (by decide +kernel), lk_mem (b := 4195) (by decide +kernel)⟩⟩
def MX11_status : MtT := (yX11_status, cX11_status, 1, (some .int), false, 0)
theorem kX11_status : Mok MX11_status := ⟨⟨by decide +kernel, by decide⟩, lk_mem (b := 4200) (by decide +kernel), lk_mem (b := 1001) (by decide +kernel), ⟨by decide +kernel, by decide +kernel⟩, by decide +kernel, ⟨lk_mem (b := 4198) (by decide +kernel), lk_mem (b := 4199) (by decide +kernel)⟩⟩
def MX11_refuse : MtT := (yX11_refuse, cX11_refuse, 2, (some .int), false, 1)
theorem kX11_refuse : Mok MX11_refuse := ⟨⟨by decide +kernel, by decide⟩, lk_mem (b := 2172) (by decide +kernel), lk_mem (b := 1001) (by decide +kernel), ⟨by decide +kernel, by decide +kernel⟩, by decide +kernel, ⟨lk_mem (b := 2171) (by decide +kernel), lk_mem (b := 0) (by decide +kernel)⟩⟩
def MX11_accept : MtT := (yX11_accept, cX11_accept, 2, (some .int), false, 1)
theorem kX11_accept : Mok MX11_accept := ⟨⟨by decide +kernel, by decide⟩, lk_mem (b := 2180) (by decide +kernel), lk_mem (b := 1001) (by decide +kernel), ⟨by decide +kernel, by decide +kernel⟩, by decide +kernel, ⟨lk_mem (b := 2179) (by decide +kernel), lk_mem (b := 1) (by decide +kernel)⟩⟩
def MX11_isHour : MtT := (yX11_isHour, cX11_isHour, 1, (some .boolean), true, 1)
theorem kX11_isHour : Mok MX11_isHour := ⟨⟨by decide +kernel, by decide⟩, lk_mem (b := 2223) (by decide +kernel), lk_mem (b := 1001) (by decide +kernel), ⟨by decide +kernel, by decide +kernel⟩, by decide +kernel, lk_mem (b := 2222) (by decide +kernel)⟩
def MX11_arePoints : MtT := (yX11_arePoints, cX11_arePoints, 1, (some .boolean), true, 1)
theorem kX11_arePoints : Mok MX11_arePoints := ⟨⟨by decide +kernel, by decide⟩, lk_mem (b := 3167) (by decide +kernel), lk_mem (b := 1001) (by decide +kernel), ⟨by decide +kernel, by decide +kernel⟩, by decide +kernel, lk_mem (b := 3166) (by decide +kernel)⟩
def MX11_isFact : MtT := (yX11_isFact, cX11_isFact, 1, (some .boolean), true, 1)
theorem kX11_isFact : Mok MX11_isFact := ⟨⟨by decide +kernel, by decide⟩, lk_mem (b := 3219) (by decide +kernel), lk_mem (b := 1001) (by decide +kernel), ⟨by decide +kernel, by decide +kernel⟩, by decide +kernel, lk_mem (b := 3218) (by decide +kernel)⟩
def MX11_hasBit : MtT := (yX11_hasBit, cX11_hasBit, 2, (some .boolean), true, 2)
theorem kX11_hasBit : Mok MX11_hasBit := ⟨⟨by decide +kernel, by decide⟩, lk_mem (b := 3103) (by decide +kernel), lk_mem (b := 1001) (by decide +kernel), ⟨by decide +kernel, by decide +kernel⟩, by decide +kernel, lk_mem (b := 3102) (by decide +kernel)⟩
def MX12_in : MtT := (yX12_in, cX12_in, 6, (some .boolean), true, 3)
theorem kX12_in : Mok MX12_in := ⟨⟨by decide +kernel, by decide⟩, lk_mem (b := 5157) (by decide +kernel), lk_mem (b := 1013) (by decide +kernel), ⟨by decide +kernel, by decide +kernel⟩, by decide +kernel, lk_mem (b := 5156) (by decide +kernel)⟩
def MX12_told : MtT := (yX12_told, cX12_told, 2, (some .int), false, 1)
theorem kX12_told : Mok MX12_told := ⟨⟨by decide +kernel, by decide⟩, lk_mem (b := 5146) (by decide +kernel), lk_mem (b := 1013) (by decide +kernel), ⟨by decide +kernel, by decide +kernel⟩, by decide +kernel, ⟨lk_mem (b := 5145) (by decide +kernel), lk_mem (b := 36) (by decide +kernel)⟩⟩
def MX12_isSchool : MtT := (yX12_isSchool, cX12_isSchool, 2, (some .boolean), false, 1)
theorem kX12_isSchool : Mok MX12_isSchool := ⟨⟨by decide +kernel, by decide⟩, lk_mem (b := 5154) (by decide +kernel), lk_mem (b := 1013) (by decide +kernel), ⟨by decide +kernel, by decide +kernel⟩, by decide +kernel, ⟨lk_mem (b := 5153) (by decide +kernel), lk_mem (b := 37) (by decide +kernel)⟩⟩
def MX12_isJudge : MtT := (yX12_isJudge, cX12_isJudge, 2, (some .boolean), false, 1)
theorem kX12_isJudge : Mok MX12_isJudge := ⟨⟨by decide +kernel, by decide⟩, lk_mem (b := 5169) (by decide +kernel), lk_mem (b := 1013) (by decide +kernel), ⟨by decide +kernel, by decide +kernel⟩, by decide +kernel, ⟨lk_mem (b := 5168) (by decide +kernel), lk_mem (b := 38) (by decide +kernel)⟩⟩
def MX12_isHour : MtT := (yX12_isHour, cX12_isHour, 1, (some .boolean), true, 1)
theorem kX12_isHour : Mok MX12_isHour := ⟨⟨by decide +kernel, by decide⟩, lk_mem (b := 5185) (by decide +kernel), lk_mem (b := 1013) (by decide +kernel), ⟨by decide +kernel, by decide +kernel⟩, by decide +kernel, lk_mem (b := 5184) (by decide +kernel)⟩
def MX12_isTrial : MtT := (yX12_isTrial, cX12_isTrial, 3, (some .boolean), false, 2)
theorem kX12_isTrial : Mok MX12_isTrial := ⟨⟨by decide +kernel, by decide⟩, lk_mem (b := 6021) (by decide +kernel), lk_mem (b := 1013) (by decide +kernel), ⟨by decide +kernel, by decide +kernel⟩, by decide +kernel, ⟨lk_mem (b := 6020) (by decide +kernel), lk_mem (b := 52) (by decide +kernel)⟩⟩
def MX12_school : MtT := (yX12_school, cX12_school, 1, (some .int), false, 0)
theorem kX12_school : Mok MX12_school := ⟨⟨by decide +kernel, by decide⟩, lk_mem (b := 5142) (by decide +kernel), lk_mem (b := 1013) (by decide +kernel), ⟨by decide +kernel, by decide +kernel⟩, by decide +kernel, ⟨lk_mem (b := 5140) (by decide +kernel), lk_mem (b := 5141) (by decide +kernel)⟩⟩
def MX12_gone : MtT := (yX12_gone, cX12_gone, 3, (some .int), false, 2)
theorem kX12_gone : Mok MX12_gone := ⟨⟨by decide +kernel, by decide⟩, lk_mem (b := 5150) (by decide +kernel), lk_mem (b := 1013) (by decide +kernel), ⟨by decide +kernel, by decide +kernel⟩, by decide +kernel, ⟨lk_mem (b := 5148) (by decide +kernel), lk_mem (b := 5149) (by decide +kernel)⟩⟩
def MX12_judge : MtT := (yX12_judge, cX12_judge, 1, (some .int), false, 0)
theorem kX12_judge : Mok MX12_judge := ⟨⟨by decide +kernel, by decide⟩, lk_mem (b := 5161) (by decide +kernel), lk_mem (b := 1013) (by decide +kernel), ⟨by decide +kernel, by decide +kernel⟩, by decide +kernel, ⟨lk_mem (b := 5159) (by decide +kernel), lk_mem (b := 5160) (by decide +kernel)⟩⟩
def MX12_areKin : MtT := (yX12_areKin, cX12_areKin, 5, (some .boolean), false, 2)
theorem kX12_areKin : Mok MX12_areKin := ⟨⟨by decide +kernel, by decide⟩, lk_mem (b := 5173) (by decide +kernel), lk_mem (b := 1013) (by decide +kernel), ⟨by decide +kernel, by decide +kernel⟩, by decide +kernel, ⟨lk_mem (b := 5172) (by decide +kernel), lk_mem (b := 39) (by decide +kernel)⟩⟩
def MX12_kin : MtT := (yX12_kin, cX12_kin, 3, (some .int), false, 2)
theorem kX12_kin : Mok MX12_kin := ⟨⟨by decide +kernel, by decide⟩, lk_mem (b := 5165) (by decide +kernel), lk_mem (b := 1013) (by decide +kernel), ⟨by decide +kernel, by decide +kernel⟩, by decide +kernel, ⟨lk_mem (b := 5163) (by decide +kernel), lk_mem (b := 5164) (by decide +kernel)⟩⟩
def MX12_rooms : MtT := (yX12_rooms, cX12_rooms, 3, (some .int), false, 1)
theorem kX12_rooms : Mok MX12_rooms := ⟨⟨by decide +kernel, by decide⟩, lk_mem (b := 5177) (by decide +kernel), lk_mem (b := 1013) (by decide +kernel), ⟨by decide +kernel, by decide +kernel⟩, by decide +kernel, ⟨lk_mem (b := 5175) (by decide +kernel), lk_mem (b := 5176) (by decide +kernel)⟩⟩
def MX12_ballotOf : MtT := (yX12_ballotOf, cX12_ballotOf, 6, (some .int), false, 3)
theorem kX12_ballotOf : Mok MX12_ballotOf := ⟨⟨by decide +kernel, by decide⟩, lk_mem (b := 5198) (by decide +kernel), lk_mem (b := 1013) (by decide +kernel), ⟨by decide +kernel, by decide +kernel⟩, by decide +kernel, ⟨lk_mem (b := 5197) (by decide +kernel), lk_mem (b := 42) (by decide +kernel)⟩⟩
def MX12_isCounted : MtT := (yX12_isCounted, cX12_isCounted, 3, (some .boolean), false, 2)
theorem kX12_isCounted : Mok MX12_isCounted := ⟨⟨by decide +kernel, by decide⟩, lk_mem (b := 5194) (by decide +kernel), lk_mem (b := 1013) (by decide +kernel), ⟨by decide +kernel, by decide +kernel⟩, by decide +kernel, ⟨lk_mem (b := 5193) (by decide +kernel), lk_mem (b := 41) (by decide +kernel)⟩⟩
def MX12_spanOf : MtT := (yX12_spanOf, cX12_spanOf, 6, (some .int), false, 2)
theorem kX12_spanOf : Mok MX12_spanOf := ⟨⟨by decide +kernel, by decide⟩, lk_mem (b := 5190) (by decide +kernel), lk_mem (b := 1013) (by decide +kernel), ⟨by decide +kernel, by decide +kernel⟩, by decide +kernel, ⟨lk_mem (b := 5189) (by decide +kernel), lk_mem (b := 40) (by decide +kernel)⟩⟩
def MX12_span : MtT := (yX12_span, cX12_span, 3, (some .int), false, 2)
theorem kX12_span : Mok MX12_span := ⟨⟨by decide +kernel, by decide⟩, lk_mem (b := 5182) (by decide +kernel), lk_mem (b := 1013) (by decide +kernel), ⟨by decide +kernel, by decide +kernel⟩, by decide +kernel, ⟨lk_mem (b := 5180) (by decide +kernel), lk_mem (b := 5181) (by decide +kernel)⟩⟩
def MX12_findStandings : MtT := (yX12_findStandings, cX12_findStandings, 4, none, false, 1)
theorem kX12_findStandings : Mok MX12_findStandings := ⟨⟨by decide +kernel, by decide⟩, lk_mem (b := 5215) (by decide +kernel), lk_mem (b := 1013) (by decide +kernel), ⟨by decide +kernel, by decide +kernel⟩, by decide +kernel, ⟨lk_mem (b := 5214) (by decide +kernel), lk_mem (b := 44) (by decide +kernel)⟩⟩
def MX12_findTrial : MtT := (yX12_findTrial, cX12_findTrial, 11, none, false, 2)
theorem kX12_findTrial : Mok MX12_findTrial := ⟨⟨by decide +kernel, by decide⟩, lk_mem (b := 5219) (by decide +kernel), lk_mem (b := 1013) (by decide +kernel), ⟨by decide +kernel, by decide +kernel⟩, by decide +kernel, ⟨lk_mem (b := 5218) (by decide +kernel), lk_mem (b := 45) (by decide +kernel)⟩⟩
def MX12_isAhead : MtT := (yX12_isAhead, cX12_isAhead, 3, (some .boolean), false, 2)
theorem kX12_isAhead : Mok MX12_isAhead := ⟨⟨by decide +kernel, by decide⟩, lk_mem (b := 5223) (by decide +kernel), lk_mem (b := 1013) (by decide +kernel), ⟨by decide +kernel, by decide +kernel⟩, by decide +kernel, ⟨lk_mem (b := 5222) (by decide +kernel), lk_mem (b := 46) (by decide +kernel)⟩⟩
def MX12_accusedBy : MtT := (yX12_accusedBy, cX12_accusedBy, 5, (some .int), false, 1)
theorem kX12_accusedBy : Mok MX12_accusedBy := ⟨⟨by decide +kernel, by decide⟩, lk_mem (b := 5227) (by decide +kernel), lk_mem (b := 1013) (by decide +kernel), ⟨by decide +kernel, by decide +kernel⟩, by decide +kernel, ⟨lk_mem (b := 5226) (by decide +kernel), lk_mem (b := 47) (by decide +kernel)⟩⟩
def MX12_byesOf : MtT := (yX12_byesOf, cX12_byesOf, 4, (some .int), false, 1)
theorem kX12_byesOf : Mok MX12_byesOf := ⟨⟨by decide +kernel, by decide⟩, lk_mem (b := 5231) (by decide +kernel), lk_mem (b := 1013) (by decide +kernel), ⟨by decide +kernel, by decide +kernel⟩, by decide +kernel, ⟨lk_mem (b := 5230) (by decide +kernel), lk_mem (b := 48) (by decide +kernel)⟩⟩
def MX12_metOf : MtT := (yX12_metOf, cX12_metOf, 7, (some .int), false, 2)
theorem kX12_metOf : Mok MX12_metOf := ⟨⟨by decide +kernel, by decide⟩, lk_mem (b := 5206) (by decide +kernel), lk_mem (b := 1013) (by decide +kernel), ⟨by decide +kernel, by decide +kernel⟩, by decide +kernel, ⟨lk_mem (b := 5205) (by decide +kernel), lk_mem (b := 43) (by decide +kernel)⟩⟩
def MX12_met : MtT := (yX12_met, cX12_met, 3, (some .int), false, 2)
theorem kX12_met : Mok MX12_met := ⟨⟨by decide +kernel, by decide⟩, lk_mem (b := 5202) (by decide +kernel), lk_mem (b := 1013) (by decide +kernel), ⟨by decide +kernel, by decide +kernel⟩, by decide +kernel, ⟨lk_mem (b := 5200) (by decide +kernel), lk_mem (b := 5201) (by decide +kernel)⟩⟩
def MX12_of : MtT := (yX12_of, cX12_of, 6, (some .int), false, 3)
theorem kX12_of : Mok MX12_of := ⟨⟨by decide +kernel, by decide⟩, lk_mem (b := 5210) (by decide +kernel), lk_mem (b := 1013) (by decide +kernel), ⟨by decide +kernel, by decide +kernel⟩, by decide +kernel, ⟨lk_mem (b := 5208) (by decide +kernel), lk_mem (b := 5209) (by decide +kernel)⟩⟩
def MX12_at : MtT := (yX12_at, cX12_at, 3, (some .int), false, 2)
theorem kX12_at : Mok MX12_at := ⟨⟨by decide +kernel, by decide⟩, lk_mem (b := 5235) (by decide +kernel), lk_mem (b := 1013) (by decide +kernel), ⟨by decide +kernel, by decide +kernel⟩, by decide +kernel, ⟨lk_mem (b := 5233) (by decide +kernel), lk_mem (b := 5234) (by decide +kernel)⟩⟩
def MX12_findLeast : MtT := (yX12_findLeast, cX12_findLeast, 7, none, false, 1)
theorem kX12_findLeast : Mok MX12_findLeast := ⟨⟨by decide +kernel, by decide⟩, lk_mem (b := 6003) (by decide +kernel), lk_mem (b := 1013) (by decide +kernel), ⟨by decide +kernel, by decide +kernel⟩, by decide +kernel, ⟨lk_mem (b := 6002) (by decide +kernel), lk_mem (b := 49) (by decide +kernel)⟩⟩
def MX12_hasJudged : MtT := (yX12_hasJudged, cX12_hasJudged, 8, (some .boolean), false, 2)
theorem kX12_hasJudged : Mok MX12_hasJudged := ⟨⟨by decide +kernel, by decide⟩, lk_mem (b := 6013) (by decide +kernel), lk_mem (b := 1013) (by decide +kernel), ⟨by decide +kernel, by decide +kernel⟩, by decide +kernel, ⟨lk_mem (b := 6012) (by decide +kernel), lk_mem (b := 51) (by decide +kernel)⟩⟩
def MX12_addTrial : MtT := (yX12_addTrial, cX12_addTrial, 7, none, false, 2)
theorem kX12_addTrial : Mok MX12_addTrial := ⟨⟨by decide +kernel, by decide⟩, lk_mem (b := 6009) (by decide +kernel), lk_mem (b := 1013) (by decide +kernel), ⟨by decide +kernel, by decide +kernel⟩, by decide +kernel, ⟨lk_mem (b := 6008) (by decide +kernel), lk_mem (b := 50) (by decide +kernel)⟩⟩
def MX12_pair : MtT := (yX12_pair, cX12_pair, 7, (some .int), false, 1)
theorem kX12_pair : Mok MX12_pair := ⟨⟨by decide +kernel, by decide⟩, lk_mem (b := 5239) (by decide +kernel), lk_mem (b := 1013) (by decide +kernel), ⟨by decide +kernel, by decide +kernel⟩, by decide +kernel, ⟨lk_mem (b := 5237) (by decide +kernel), lk_mem (b := 5238) (by decide +kernel)⟩⟩
def MX12_trial : MtT := (yX12_trial, cX12_trial, 5, (some .int), false, 3)
theorem kX12_trial : Mok MX12_trial := ⟨⟨by decide +kernel, by decide⟩, lk_mem (b := 6017) (by decide +kernel), lk_mem (b := 1013) (by decide +kernel), ⟨by decide +kernel, by decide +kernel⟩, by decide +kernel, ⟨lk_mem (b := 6015) (by decide +kernel), lk_mem (b := 6016) (by decide +kernel)⟩⟩
def MX12_ballot : MtT := (yX12_ballot, cX12_ballot, 8, (some .int), false, 6)
theorem kX12_ballot : Mok MX12_ballot := ⟨⟨by decide +kernel, by decide⟩, lk_mem (b := 6025) (by decide +kernel), lk_mem (b := 1013) (by decide +kernel), ⟨by decide +kernel, by decide +kernel⟩, by decide +kernel, ⟨lk_mem (b := 6023) (by decide +kernel), lk_mem (b := 6024) (by decide +kernel)⟩⟩
def MX12_counts : MtT := (yX12_counts, cX12_counts, 7, (some .int), false, 5)
theorem kX12_counts : Mok MX12_counts := ⟨⟨by decide +kernel, by decide⟩, lk_mem (b := 6030) (by decide +kernel), lk_mem (b := 1013) (by decide +kernel), ⟨by decide +kernel, by decide +kernel⟩, by decide +kernel, ⟨lk_mem (b := 6028) (by decide +kernel), lk_mem (b := 6029) (by decide +kernel)⟩⟩
def MX12_isWitness : MtT := (yX12_isWitness, cX12_isWitness, 2, (some .boolean), false, 1)
theorem kX12_isWitness : Mok MX12_isWitness := ⟨⟨by decide +kernel, by decide⟩, lk_mem (b := 6047) (by decide +kernel), lk_mem (b := 1013) (by decide +kernel), ⟨by decide +kernel, by decide +kernel⟩, by decide +kernel, ⟨lk_mem (b := 6046) (by decide +kernel), lk_mem (b := 53) (by decide +kernel)⟩⟩
def MX12_witness : MtT := (yX12_witness, cX12_witness, 2, (some .int), false, 1)
theorem kX12_witness : Mok MX12_witness := ⟨⟨by decide +kernel, by decide⟩, lk_mem (b := 6034) (by decide +kernel), lk_mem (b := 1013) (by decide +kernel), ⟨by decide +kernel, by decide +kernel⟩, by decide +kernel, ⟨lk_mem (b := 6032) (by decide +kernel), lk_mem (b := 6033) (by decide +kernel)⟩⟩
def MX12_implies : MtT := (yX12_implies, cX12_implies, 3, (some .int), false, 2)
theorem kX12_implies : Mok MX12_implies := ⟨⟨by decide +kernel, by decide⟩, lk_mem (b := 6038) (by decide +kernel), lk_mem (b := 1013) (by decide +kernel), ⟨by decide +kernel, by decide +kernel⟩, by decide +kernel, ⟨lk_mem (b := 6036) (by decide +kernel), lk_mem (b := 6037) (by decide +kernel)⟩⟩
def MX12_impliedOf : MtT := (yX12_impliedOf, cX12_impliedOf, 5, (some .int), false, 1)
theorem kX12_impliedOf : Mok MX12_impliedOf := ⟨⟨by decide +kernel, by decide⟩, lk_mem (b := 6051) (by decide +kernel), lk_mem (b := 1013) (by decide +kernel), ⟨by decide +kernel, by decide +kernel⟩, by decide +kernel, ⟨lk_mem (b := 6050) (by decide +kernel), lk_mem (b := 54) (by decide +kernel)⟩⟩
def MX12_implied : MtT := (yX12_implied, cX12_implied, 2, (some .int), false, 1)
theorem kX12_implied : Mok MX12_implied := ⟨⟨by decide +kernel, by decide⟩, lk_mem (b := 6043) (by decide +kernel), lk_mem (b := 1013) (by decide +kernel), ⟨by decide +kernel, by decide +kernel⟩, by decide +kernel, ⟨lk_mem (b := 6041) (by decide +kernel), lk_mem (b := 6042) (by decide +kernel)⟩⟩
def MX12_four : MtT := (yX12_four, cX12_four, 3, none, false, 1)
theorem kX12_four : Mok MX12_four := ⟨⟨by decide +kernel, by decide⟩, lk_mem (b := 6059) (by decide +kernel), lk_mem (b := 1013) (by decide +kernel), ⟨by decide +kernel, by decide +kernel⟩, by decide +kernel, ⟨lk_mem (b := 6058) (by decide +kernel), lk_mem (b := 55) (by decide +kernel)⟩⟩
def MX12_feed : MtT := (yX12_feed, cX12_feed, 6, (some .int), false, 5)
theorem kX12_feed : Mok MX12_feed := ⟨⟨by decide +kernel, by decide⟩, lk_mem (b := 6055) (by decide +kernel), lk_mem (b := 1013) (by decide +kernel), ⟨by decide +kernel, by decide +kernel⟩, by decide +kernel, ⟨lk_mem (b := 6053) (by decide +kernel), lk_mem (b := 6054) (by decide +kernel)⟩⟩
def MX12_end : MtT := (yX12_end, cX12_end, 2, (some .int), false, 1)
theorem kX12_end : Mok MX12_end := ⟨⟨by decide +kernel, by decide⟩, lk_mem (b := 6063) (by decide +kernel), lk_mem (b := 1013) (by decide +kernel), ⟨by decide +kernel, by decide +kernel⟩, by decide +kernel, ⟨lk_mem (b := 6061) (by decide +kernel), lk_mem (b := 6062) (by decide +kernel)⟩⟩
def MX12_isSmall : MtT := (yX12_isSmall, cX12_isSmall, 1, (some .boolean), true, 1)
theorem kX12_isSmall : Mok MX12_isSmall := ⟨⟨by decide +kernel, by decide⟩, lk_mem (b := 6074) (by decide +kernel), lk_mem (b := 1013) (by decide +kernel), ⟨by decide +kernel, by decide +kernel⟩, by decide +kernel, lk_mem (b := 6073) (by decide +kernel)⟩
def MX12_isDigit : MtT := (yX12_isDigit, cX12_isDigit, 1, (some .boolean), true, 1)
theorem kX12_isDigit : Mok MX12_isDigit := ⟨⟨by decide +kernel, by decide⟩, lk_mem (b := 6077) (by decide +kernel), lk_mem (b := 1013) (by decide +kernel), ⟨by decide +kernel, by decide +kernel⟩, by decide +kernel, lk_mem (b := 6076) (by decide +kernel)⟩
def MX12_next : MtT := (yX12_next, cX12_next, 1, none, false, 0)
theorem kX12_next : Mok MX12_next := ⟨⟨by decide +kernel, by decide⟩, lk_mem (b := 6071) (by decide +kernel), lk_mem (b := 1013) (by decide +kernel), ⟨by decide +kernel, by decide +kernel⟩, by decide +kernel, ⟨lk_mem (b := 6070) (by decide +kernel), lk_mem (b := 56) (by decide +kernel)⟩⟩
def MX12_word : MtT := (yX12_word, cX12_word, 7, (some .long), true, 5)
theorem kX12_word : Mok MX12_word := ⟨⟨by decide +kernel, by decide⟩, lk_mem (b := 6090) (by decide +kernel), lk_mem (b := 1013) (by decide +kernel), ⟨by decide +kernel, by decide +kernel⟩, by decide +kernel, lk_mem (b := 6089) (by decide +kernel)⟩
def MX12_isWord : MtT := (yX12_isWord, cX12_isWord, 6, (some .boolean), false, 5)
theorem kX12_isWord : Mok MX12_isWord := ⟨⟨by decide +kernel, by decide⟩, lk_mem (b := 6102) (by decide +kernel), lk_mem (b := 1013) (by decide +kernel), ⟨by decide +kernel, by decide +kernel⟩, by decide +kernel, ⟨lk_mem (b := 6101) (by decide +kernel), lk_mem (b := 60) (by decide +kernel)⟩⟩
def MX12_isLong : MtT := (yX12_isLong, cX12_isLong, 9, (some .boolean), false, 5)
theorem kX12_isLong : Mok MX12_isLong := ⟨⟨by decide +kernel, by decide⟩, lk_mem (b := 6094) (by decide +kernel), lk_mem (b := 1013) (by decide +kernel), ⟨by decide +kernel, by decide +kernel⟩, by decide +kernel, ⟨lk_mem (b := 6093) (by decide +kernel), lk_mem (b := 58) (by decide +kernel)⟩⟩
def MX12_isSign : MtT := (yX12_isSign, cX12_isSign, 2, (some .boolean), false, 1)
theorem kX12_isSign : Mok MX12_isSign := ⟨⟨by decide +kernel, by decide⟩, lk_mem (b := 6110) (by decide +kernel), lk_mem (b := 1013) (by decide +kernel), ⟨by decide +kernel, by decide +kernel⟩, by decide +kernel, ⟨lk_mem (b := 6109) (by decide +kernel), lk_mem (b := 62) (by decide +kernel)⟩⟩
def MX12_must : MtT := (yX12_must, cX12_must, 2, none, false, 1)
theorem kX12_must : Mok MX12_must := ⟨⟨by decide +kernel, by decide⟩, lk_mem (b := 6098) (by decide +kernel), lk_mem (b := 1013) (by decide +kernel), ⟨by decide +kernel, by decide +kernel⟩, by decide +kernel, ⟨lk_mem (b := 6097) (by decide +kernel), lk_mem (b := 59) (by decide +kernel)⟩⟩
def MX12_mark : MtT := (yX12_mark, cX12_mark, 2, none, false, 1)
theorem kX12_mark : Mok MX12_mark := ⟨⟨by decide +kernel, by decide⟩, lk_mem (b := 6118) (by decide +kernel), lk_mem (b := 1013) (by decide +kernel), ⟨by decide +kernel, by decide +kernel⟩, by decide +kernel, ⟨lk_mem (b := 6117) (by decide +kernel), lk_mem (b := 64) (by decide +kernel)⟩⟩
def MX12_settle : MtT := (yX12_settle, cX12_settle, 2, none, false, 1)
theorem kX12_settle : Mok MX12_settle := ⟨⟨by decide +kernel, by decide⟩, lk_mem (b := 6122) (by decide +kernel), lk_mem (b := 1013) (by decide +kernel), ⟨by decide +kernel, by decide +kernel⟩, by decide +kernel, ⟨lk_mem (b := 6121) (by decide +kernel), lk_mem (b := 65) (by decide +kernel)⟩⟩
def MX12_readLeaf : MtT := (yX12_readLeaf, cX12_readLeaf, 3, none, false, 0)
theorem kX12_readLeaf : Mok MX12_readLeaf := ⟨⟨by decide +kernel, by decide⟩, lk_mem (b := 6114) (by decide +kernel), lk_mem (b := 1013) (by decide +kernel), ⟨by decide +kernel, by decide +kernel⟩, by decide +kernel, ⟨lk_mem (b := 6113) (by decide +kernel), lk_mem (b := 63) (by decide +kernel)⟩⟩
def MX12_depthNow : MtT := (yX12_depthNow, cX12_depthNow, 4, (some .int), false, 1)
theorem kX12_depthNow : Mok MX12_depthNow := ⟨⟨by decide +kernel, by decide⟩, lk_mem (b := 6126) (by decide +kernel), lk_mem (b := 1013) (by decide +kernel), ⟨by decide +kernel, by decide +kernel⟩, by decide +kernel, ⟨lk_mem (b := 6125) (by decide +kernel), lk_mem (b := 66) (by decide +kernel)⟩⟩
def MX12_readCond : MtT := (yX12_readCond, cX12_readCond, 6, none, false, 0)
theorem kX12_readCond : Mok MX12_readCond := ⟨⟨by decide +kernel, by decide⟩, lk_mem (b := 6106) (by decide +kernel), lk_mem (b := 1013) (by decide +kernel), ⟨by decide +kernel, by decide +kernel⟩, by decide +kernel, ⟨lk_mem (b := 6105) (by decide +kernel), lk_mem (b := 61) (by decide +kernel)⟩⟩
def MX12_readRule : MtT := (yX12_readRule, cX12_readRule, 3, none, false, 0)
theorem kX12_readRule : Mok MX12_readRule := ⟨⟨by decide +kernel, by decide⟩, lk_mem (b := 6087) (by decide +kernel), lk_mem (b := 1013) (by decide +kernel), ⟨by decide +kernel, by decide +kernel⟩, by decide +kernel, ⟨lk_mem (b := 6086) (by decide +kernel), lk_mem (b := 57) (by decide +kernel)⟩⟩
def MX12_rules : MtT := (yX12_rules, cX12_rules, 2, (some .int), false, 0)
theorem kX12_rules : Mok MX12_rules := ⟨⟨by decide +kernel, by decide⟩, lk_mem (b := 6067) (by decide +kernel), lk_mem (b := 1013) (by decide +kernel), ⟨by decide +kernel, by decide +kernel⟩, by decide +kernel, ⟨lk_mem (b := 6065) (by decide +kernel), lk_mem (b := 6066) (by decide +kernel)⟩⟩
def MX12_fault : MtT := (yX12_fault, cX12_fault, 1, (some .int), false, 0)
theorem kX12_fault : Mok MX12_fault := ⟨⟨by decide +kernel, by decide⟩, lk_mem (b := 6130) (by decide +kernel), lk_mem (b := 1013) (by decide +kernel), ⟨by decide +kernel, by decide +kernel⟩, by decide +kernel, ⟨lk_mem (b := 6128) (by decide +kernel), lk_mem (b := 6129) (by decide +kernel)⟩⟩
def MX12_holds : MtT := (yX12_holds, cX12_holds, 9, (some .boolean), false, 4)
theorem kX12_holds : Mok MX12_holds := ⟨⟨by decide +kernel, by decide⟩, lk_mem (b := 6139) (by decide +kernel), lk_mem (b := 1013) (by decide +kernel), ⟨by decide +kernel, by decide +kernel⟩, by decide +kernel, ⟨lk_mem (b := 6138) (by decide +kernel), lk_mem (b := 67) (by decide +kernel)⟩⟩
def MX12_object : MtT := (yX12_object, cX12_object, 6, (some .int), false, 4)
theorem kX12_object : Mok MX12_object := ⟨⟨by decide +kernel, by decide⟩, lk_mem (b := 6134) (by decide +kernel), lk_mem (b := 1013) (by decide +kernel), ⟨by decide +kernel, by decide +kernel⟩, by decide +kernel, ⟨lk_mem (b := 6132) (by decide +kernel), lk_mem (b := 6133) (by decide +kernel)⟩⟩
def MX12_ask : MtT := (yX12_ask, cX12_ask, 4, (some .int), false, 2)
theorem kX12_ask : Mok MX12_ask := ⟨⟨by decide +kernel, by decide⟩, lk_mem (b := 6143) (by decide +kernel), lk_mem (b := 1013) (by decide +kernel), ⟨by decide +kernel, by decide +kernel⟩, by decide +kernel, ⟨lk_mem (b := 6141) (by decide +kernel), lk_mem (b := 6142) (by decide +kernel)⟩⟩
def MX12_count : MtT := (yX12_count, cX12_count, 4, (some .int), false, 1)
theorem kX12_count : Mok MX12_count := ⟨⟨by decide +kernel, by decide⟩, lk_mem (b := 6147) (by decide +kernel), lk_mem (b := 1013) (by decide +kernel), ⟨by decide +kernel, by decide +kernel⟩, by decide +kernel, ⟨lk_mem (b := 6145) (by decide +kernel), lk_mem (b := 6146) (by decide +kernel)⟩⟩
def MX12_status : MtT := (yX12_status, cX12_status, 1, (some .int), false, 0)
theorem kX12_status : Mok MX12_status := ⟨⟨by decide +kernel, by decide⟩, lk_mem (b := 6151) (by decide +kernel), lk_mem (b := 1013) (by decide +kernel), ⟨by decide +kernel, by decide +kernel⟩, by decide +kernel, ⟨lk_mem (b := 6149) (by decide +kernel), lk_mem (b := 6150) (by decide +kernel)⟩⟩
def MJ6_numberOfTrailingZeros_0f7a4 : MtT := (yJ6_numberOfTrailingZeros_0f7a4, cJ6_numberOfTrailingZeros_0f7a4, 2, (some .int), true, 1)
theorem kJ6_numberOfTrailingZeros_0f7a4 : Mok MJ6_numberOfTrailingZeros_0f7a4 := ⟨⟨by decide +kernel, by decide⟩, lk_mem (b := 3090) (by decide +kernel), lk_mem (b := 1016) (by decide +kernel), ⟨by decide +kernel, by decide +kernel⟩, by decide +kernel, lk_mem (b := 3089) (by decide +kernel)⟩
def MJ0_length_8abf5 : MtT := (yJ0_length_8abf5, cJ0_length_8abf5, 1, (some .int), false, 0)
theorem kJ0_length_8abf5 : Mok MJ0_length_8abf5 := ⟨⟨by decide +kernel, by decide⟩, lk_mem (b := 4051) (by decide +kernel), lk_mem (b := 1017) (by decide +kernel), ⟨by decide +kernel, by decide +kernel⟩, by decide +kernel, ⟨lk_mem (b := 4049) (by decide +kernel), lk_mem (b := 4050) (by decide +kernel)⟩⟩
def MJ0_charAt_5068e : MtT := (yJ0_charAt_5068e, cJ0_charAt_5068e, 2, (some .char), false, 1)
theorem kJ0_charAt_5068e : Mok MJ0_charAt_5068e := ⟨⟨by decide +kernel, by decide⟩, lk_mem (b := 4061) (by decide +kernel), lk_mem (b := 1017) (by decide +kernel), ⟨by decide +kernel, by decide +kernel⟩, by decide +kernel, ⟨lk_mem (b := 4059) (by decide +kernel), lk_mem (b := 4060) (by decide +kernel)⟩⟩
def MJ0_coder_7d493 : MtT := (yJ0_coder_7d493, cJ0_coder_7d493, 1, (some .byte), false, 0)
theorem kJ0_coder_7d493 : Mok MJ0_coder_7d493 := ⟨⟨by decide +kernel, by decide⟩, lk_mem (b := 4055) (by decide +kernel), lk_mem (b := 1017) (by decide +kernel), ⟨by decide +kernel, by decide +kernel⟩, by decide +kernel, ⟨lk_mem (b := 4053) (by decide +kernel), lk_mem (b := 4054) (by decide +kernel)⟩⟩
def MJ0_isLatin1_aae02 : MtT := (yJ0_isLatin1_aae02, cJ0_isLatin1_aae02, 1, (some .boolean), false, 0)
theorem kJ0_isLatin1_aae02 : Mok MJ0_isLatin1_aae02 := ⟨⟨by decide +kernel, by decide⟩, lk_mem (b := 4065) (by decide +kernel), lk_mem (b := 1017) (by decide +kernel), ⟨by decide +kernel, by decide +kernel⟩, by decide +kernel, ⟨lk_mem (b := 4063) (by decide +kernel), lk_mem (b := 4064) (by decide +kernel)⟩⟩
def MJ0_checkIndex_df160 : MtT := (yJ0_checkIndex_df160, cJ0_checkIndex_df160, 2, none, true, 2)
theorem kJ0_checkIndex_df160 : Mok MJ0_checkIndex_df160 := ⟨⟨by decide +kernel, by decide⟩, lk_mem (b := 4071) (by decide +kernel), lk_mem (b := 1017) (by decide +kernel), ⟨by decide +kernel, by decide +kernel⟩, by decide +kernel, lk_mem (b := 4070) (by decide +kernel)⟩
def MJ1_charAt_3b067 : MtT := (yJ1_charAt_3b067, cJ1_charAt_3b067, 2, (some .char), true, 2)
theorem kJ1_charAt_3b067 : Mok MJ1_charAt_3b067 := ⟨⟨by decide +kernel, by decide⟩, lk_mem (b := 4068) (by decide +kernel), lk_mem (b := 1018) (by decide +kernel), ⟨by decide +kernel, by decide +kernel⟩, by decide +kernel, lk_mem (b := 4067) (by decide +kernel)⟩
def MJ2_getChar_3b067 : MtT := (yJ2_getChar_3b067, cJ2_getChar_3b067, 2, (some .char), true, 2)
theorem kJ2_getChar_3b067 : Mok MJ2_getChar_3b067 := ⟨⟨by decide +kernel, by decide⟩, lk_mem (b := 4089) (by decide +kernel), lk_mem (b := 1020) (by decide +kernel), ⟨by decide +kernel, by decide +kernel⟩, by decide +kernel, lk_mem (b := 4088) (by decide +kernel)⟩
def MJ2_length_9d52b : MtT := (yJ2_length_9d52b, cJ2_length_9d52b, 1, (some .int), true, 1)
theorem kJ2_length_9d52b : Mok MJ2_length_9d52b := ⟨⟨by decide +kernel, by decide⟩, lk_mem (b := 4085) (by decide +kernel), lk_mem (b := 1020) (by decide +kernel), ⟨by decide +kernel, by decide +kernel⟩, by decide +kernel, lk_mem (b := 4084) (by decide +kernel)⟩
def MJ2_charAt_3b067 : MtT := (yJ2_charAt_3b067, cJ2_charAt_3b067, 2, (some .char), true, 2)
theorem kJ2_charAt_3b067 : Mok MJ2_charAt_3b067 := ⟨⟨by decide +kernel, by decide⟩, lk_mem (b := 4079) (by decide +kernel), lk_mem (b := 1020) (by decide +kernel), ⟨by decide +kernel, by decide +kernel⟩, by decide +kernel, lk_mem (b := 4078) (by decide +kernel)⟩
def MJ2_checkIndex_2214a : MtT := (yJ2_checkIndex_2214a, cJ2_checkIndex_2214a, 2, none, true, 2)
theorem kJ2_checkIndex_2214a : Mok MJ2_checkIndex_2214a := ⟨⟨by decide +kernel, by decide⟩, lk_mem (b := 4082) (by decide +kernel), lk_mem (b := 1020) (by decide +kernel), ⟨by decide +kernel, by decide +kernel⟩, by decide +kernel, lk_mem (b := 4081) (by decide +kernel)⟩
def MJ7_fill_53178 : MtT := (yJ7_fill_53178, cJ7_fill_53178, 4, none, true, 2)
theorem kJ7_fill_53178 : Mok MJ7_fill_53178 := ⟨⟨by decide +kernel, by decide⟩, lk_mem (b := 2239) (by decide +kernel), lk_mem (b := 1014) (by decide +kernel), ⟨by decide +kernel, by decide +kernel⟩, by decide +kernel, lk_mem (b := 2238) (by decide +kernel)⟩
def MJ3_checkIndex_8e157 : MtT := (yJ3_checkIndex_8e157, cJ3_checkIndex_8e157, 3, (some .int), true, 3)
theorem kJ3_checkIndex_8e157 : Mok MJ3_checkIndex_8e157 := ⟨⟨by decide +kernel, by decide⟩, lk_mem (b := 4076) (by decide +kernel), lk_mem (b := 1019) (by decide +kernel), ⟨by decide +kernel, by decide +kernel⟩, by decide +kernel, lk_mem (b := 4075) (by decide +kernel)⟩
