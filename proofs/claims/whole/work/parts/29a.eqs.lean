/-! THE LOOPS' TURNS -/
theorem e_X10_flawInStatement_b30 (n : Nat) (x0 : Option Nat) (x2 : Int32) (x3 : Int32) (h : AH) : f_X10_flawInStatement_b30 (n + 1) x0 x2 x3 h =
    ((if x2 < x3 then
    some ((-1), h)
    else (gR h x0 [10] 0).bind fun t10 =>
    bd (cv h t10 7 (f_X7_size t10 h)) fun r12 h11 =>
    (if x3 < r12 then
    (if x3 = x2 then
    (gR h11 x0 [10] 0).bind fun t17 =>
    bd (cv h11 t17 7 (f_X7_at t17 x3 h11)) fun r19 h18 =>
    (if r19 = 59 then
    f_X10_flawInStatement_b88 (f_X10_flawInStatement_b30 n) x0 x2 x3 1 h18
    else f_X10_flawInStatement_b88 (f_X10_flawInStatement_b30 n) x0 x2 x3 0 h18)
    else bd (cv h11 x0 10 (f_X10_digit x0 x3 h11)) fun r14 h13 =>
    bd (f_X11_isDigit r14 h13) fun r16 h15 =>
    f_X10_flawInStatement_b88 (f_X10_flawInStatement_b30 n) x0 x2 x3 r16 h15)
    else (gR h11 x0 [10] 0).bind fun t20 =>
    bd (cv h11 t20 7 (f_X7_size t20 h11)) fun r22 h21 =>
    some (r22, h21)))) := rfl
theorem e_X10_firstFlaw_b16 (n : Nat) (x0 : Option Nat) (x1 : Int32) (x2 : Int32) (h : AH) : f_X10_firstFlaw_b16 (n + 1) x0 x1 x2 h =
    ((if 100 ≤ x2 then
    some ((-1), h)
    else (gR h x0 [10] 0).bind fun t4 =>
    bd (cv h t4 7 (f_X7_size t4 h)) fun r6 h5 =>
    (if r6 ≤ x1 then
    some ((-1), h5)
    else bd (cv h5 x0 10 (f_X10_flawInStatement x0 x1 h5)) fun r8 h7 =>
    (if r8 < 0 then
    bd (cv h7 x0 10 (f_X10_lengthAt x0 x1 h7)) fun r10 h9 =>
    nm (x1 + r10) fun t11 =>
    f_X10_firstFlaw_b16 n x0 t11 (x2 + 1) h9
    else some (r8, h7))))) := rfl
theorem e_X5_passDay_b38 (n : Nat) (x0 : Option Nat) (x1 : Int32) (h : AH) : f_X5_passDay_b38 (n + 1) x0 x1 h =
    ((gI h x0 [5] 5).bind fun t4 =>
    (if t4 ≤ x1 then
    some ((), h)
    else bd (cv h x0 5 (f_X5_mayGo x0 x1 h)) fun r6 h5 =>
    (if r6 = 0 then
    f_X5_passDay_b38 n x0 (x1 + 1) h5
    else bd (cv h5 x0 5 (f_X5_goAway x0 x1 h5)) fun u8 h7 =>
    f_X5_passDay_b38 n x0 (x1 + 1) h7))) := rfl
theorem e_X5_passDay_b12 (n : Nat) (x0 : Option Nat) (x1 : Int32) (h : AH) : f_X5_passDay_b12 (n + 1) x0 x1 h =
    ((gI h x0 [5] 5).bind fun t3 =>
    (if t3 ≤ x1 then
    f_X5_passDay_b38 FU x0 0 h
    else bd (cv h x0 5 (f_X5_foodOf x0 x1 h)) fun r10 h9 =>
    bd (cv h9 x0 5 (f_X5_eatAndDance x0 x1 r10 h9)) fun u12 h11 =>
    f_X5_passDay_b12 n x0 (x1 + 1) h11)) := rfl
theorem e_X5_passDays_b2 (n : Nat) (x0 : Option Nat) (x1 : Int32) (x2 : Int32) (h : AH) : f_X5_passDays_b2 (n + 1) x0 x1 x2 h =
    ((if x1 ≤ x2 then
    some ((), h)
    else bd (cv h x0 5 (f_X5_passDay x0 h)) fun u2 h1 =>
    f_X5_passDays_b2 n x0 x1 (x2 + 1) h1)) := rfl
theorem e_X5_becomes_b10 (n : Nat) (x0 : Option Nat) (x1 : Option Nat) (x2 : Int32) (h : AH) : f_X5_becomes_b10 (n + 1) x0 x1 x2 h =
    ((gI h x0 [5] 5).bind fun t3 =>
    (if t3 ≤ x2 then
    (gI h x1 [5] 6).bind fun t4 =>
    (pI h x0 [5] 6 t4).bind fun h5 =>
    (gI h5 x1 [5] 7).bind fun t6 =>
    (pI h5 x0 [5] 7 t6).bind fun h7 =>
    (gI h7 x1 [5] 8).bind fun t8 =>
    (pI h7 x0 [5] 8 t8).bind fun h9 =>
    (gI h9 x1 [5] 9).bind fun t10 =>
    (pI h9 x0 [5] 9 t10).bind fun h11 =>
    (gI h11 x1 [5] 10).bind fun t12 =>
    (pI h11 x0 [5] 10 t12).bind fun h13 =>
    some ((), h13)
    else (gR h x0 [5] 0).bind fun t14 =>
    (gR h x1 [5] 0).bind fun t15 =>
    (rA h t15 2 x2).bind fun t16 =>
    (rS h t14 2 GF x2 t16).bind fun h17 =>
    (gR h17 x0 [5] 1).bind fun t18 =>
    (gR h17 x1 [5] 1).bind fun t19 =>
    (iA h17 t19 x2).bind fun t20 =>
    (iS h17 t18 x2 t20).bind fun h21 =>
    (gR h21 x0 [5] 2).bind fun t22 =>
    (gR h21 x1 [5] 2).bind fun t23 =>
    (iA h21 t23 x2).bind fun t24 =>
    (iS h21 t22 x2 t24).bind fun h25 =>
    (gR h25 x0 [5] 3).bind fun t26 =>
    (gR h25 x1 [5] 3).bind fun t27 =>
    (iA h25 t27 x2).bind fun t28 =>
    (iS h25 t26 x2 t28).bind fun h29 =>
    (gR h29 x0 [5] 4).bind fun t30 =>
    (gR h29 x1 [5] 4).bind fun t31 =>
    (iA h29 t31 x2).bind fun t32 =>
    (iS h29 t30 x2 t32).bind fun h33 =>
    f_X5_becomes_b10 n x0 x1 (x2 + 1) h33)) := rfl
theorem e_X11_enteredBy_b50 (n : Nat) (x0 : Option Nat) (x1 : Option Nat) (x2 : Int32) (x3 : Int32) (x4 : Int32) (x5 : Int32) (x6 : Int32) (x7 : Int32) (h : AH) : f_X11_enteredBy_b50 (n + 1) x0 x1 x2 x3 x4 x5 x6 x7 h =
    (bd (cv h x1 7 (f_X7_size x1 h)) fun r12 h11 =>
    (if r12 ≤ x7 then
    (if x3 = 0 then
    some ((mmax 0 ((x5 - x4) + 1)), h11)
    else (if x4 ≤ x5 then
    (if x3 = 1 then
    some (x4, h11)
    else some (x5, h11))
    else some ((-4), h11)))
    else bd (cv h11 x1 7 (f_X7_isSkipped x1 x7 h11)) fun r16 h15 =>
    (if r16 = 0 then
    bd (cv h15 x1 7 (f_X7_at x1 x7 h15)) fun r30 h29 =>
    (if r30 = 0 then
    nm (mmax x4 (x6 + 1)) fun t38 =>
    f_X11_enteredBy_b114 (f_X11_enteredBy_b50 n) x0 x1 x2 x3 t38 x5 x6 x7 h29
    else bd (cv h29 x1 7 (f_X7_at x1 x7 h29)) fun r32 h31 =>
    (if r32 = 1 then
    f_X11_enteredBy_b109 (f_X11_enteredBy_b50 n) x0 x1 x2 x3 x4 x6 x7 x6 x5 h31
    else f_X11_enteredBy_b109 (f_X11_enteredBy_b50 n) x0 x1 x2 x3 x4 x6 x7 (-1) x5 h31))
    else f_X11_enteredBy_b114 (f_X11_enteredBy_b50 n) x0 x1 x2 x3 x4 x5 x6 x7 h15))) := rfl
theorem e_X5_weightOfAll_b4 (n : Nat) (x0 : Option Nat) (x1 : Int32) (x2 : Int32) (h : AH) : f_X5_weightOfAll_b4 (n + 1) x0 x1 x2 h =
    ((gI h x0 [5] 5).bind fun t1 =>
    (if t1 ≤ x2 then
    some (x1, h)
    else bd (cv h x0 5 (f_X5_isIn x0 x2 h)) fun r3 h2 =>
    (if r3 = 0 then
    f_X5_weightOfAll_b31 (f_X5_weightOfAll_b4 n) x0 x2 0 x1 h2
    else (gR h2 x0 [5] 1).bind fun t5 =>
    (iA h2 t5 x2).bind fun t6 =>
    f_X5_weightOfAll_b31 (f_X5_weightOfAll_b4 n) x0 x2 t6 x1 h2))) := rfl
theorem e_X11_empty_b11 (n : Nat) (x0 : Option Nat) (x1 : Int32) (x2 : Int32) (h : AH) : f_X11_empty_b11 (n + 1) x0 x1 x2 h =
    ((if 9 < x2 then
    some ((-4), h)
    else (gR h x0 [11] 1).bind fun t3 =>
    (gR h x0 [11] 0).bind fun t4 =>
    bd (cv h t3 5 (f_X5_becomes t3 t4 h)) fun u6 h5 =>
    (gR h5 x0 [11] 1).bind fun t7 =>
    (pI h5 t7 [5] 8 x2).bind fun h8 =>
    (gR h8 x0 [11] 1).bind fun t9 =>
    bd (cv h8 t9 5 (f_X5_passDays t9 x1 h8)) fun u11 h10 =>
    (gR h10 x0 [11] 1).bind fun t12 =>
    (gI h10 t12 [5] 6).bind fun t13 =>
    (if t13 = 0 then
    some (x2, h10)
    else f_X11_empty_b11 n x0 x1 (x2 + 1) h10))) := rfl
theorem e_X11_hasLeftBehindFeasts_b14 (n : Nat) (x0 : Option Nat) (x1 : Int32) (x2 : Int32) (x3 : Int32) (x4 : Int32) (h : AH) : f_X11_hasLeftBehindFeasts_b14 (n + 1) x0 x1 x2 x3 x4 h =
    ((if x2 ≤ x4 then
    (gR h x0 [11] 1).bind fun t5 =>
    bd (cv h t5 5 (f_X5_isIn t5 x1 h)) fun r7 h6 =>
    (if r7 = 0 then
    some (1, h6)
    else some (0, h6))
    else (if ((x3 >>> (x4 &&& 31)) &&& 1) = 1 then
    f_X11_hasLeftBehindFeasts_b35 (f_X11_hasLeftBehindFeasts_b14 n) x0 x1 x2 x3 x4 1 h
    else f_X11_hasLeftBehindFeasts_b35 (f_X11_hasLeftBehindFeasts_b14 n) x0 x1 x2 x3 x4 0 h))) := rfl
theorem e_X11_power_b5 (n : Nat) (x0 : Int32) (x1 : Int32) (x2 : Int64) (x4 : Int32) (h : AH) : f_X11_power_b5 (n + 1) x0 x1 x2 x4 h =
    ((if x1 ≤ x4 then
    some (x2, h)
    else nm (x2 * (Int32.toInt64 x0)) fun t1 =>
    f_X11_power_b5 n x0 x1 t1 (x4 + 1) h)) := rfl
theorem e_X11_leastTerms_b9 (n : Nat) (x0 : Int64) (x2 : Int64) (x4 : Int32) (x5 : Int64) (x7 : Int64) (x9 : Int32) (h : AH) : f_X11_leastTerms_b9 (n + 1) x0 x2 x4 x5 x7 x9 h =
    ((if 128 ≤ x9 then
    f_X11_leastTerms_b45 x0 x2 x4 x5 h
    else (if (lg_cmp x7 0) = 0 then
    f_X11_leastTerms_b45 x0 x2 x4 x5 h
    else (if x7 = 0 then none else nm (x5 - x5 / x7 * x7) fun t1 =>
    f_X11_leastTerms_b9 n x0 x2 x4 x7 t1 (x9 + 1) h)))) := rfl
theorem e_X11_feasts_b50 (n : Nat) (x0 : Option Nat) (x1 : Int32) (x2 : Int32) (x3 : Int32) (x4 : Int32) (x5 : Int64) (x7 : Int32) (h : AH) : f_X11_feasts_b50 (n + 1) x0 x1 x2 x3 x4 x5 x7 h =
    ((if ((1 : Int32) <<< (x2 &&& 31)) ≤ x7 then
    bd (f_X11_power x3 x2 h) fun r7 h6 =>
    bd (f_X11_leastTerms x5 r7 x4 h6) fun r9 h8 =>
    some (r9, h8)
    else bd (cv h x0 11 (f_X11_hasLeftBehindFeasts x0 x1 x2 x7 h)) fun r11 h10 =>
    (if r11 = 0 then
    f_X11_feasts_b50 n x0 x1 x2 x3 x4 x5 (x7 + 1) h10
    else bd (f_J6_bitCount_0f7a4 x7 h10) fun r13 h12 =>
    bd (f_X11_power (x3 - 1) (x2 - r13) h12) fun r15 h14 =>
    nm (x5 + r15) fun t16 =>
    f_X11_feasts_b50 n x0 x1 x2 x3 x4 t16 (x7 + 1) h14))) := rfl
theorem e_X11_feed_b26 (n : Nat) (x0 : Option Nat) (x1 : Int32) (x2 : Int32) (x3 : Int32) (x4 : Int32) (x5 : Int32) (h : AH) : f_X11_feed_b26 (n + 1) x0 x1 x2 x3 x4 x5 h =
    ((if 9 < x5 then
    (if x2 = 0 then
    some (x3, h)
    else some (x4, h))
    else (gR h x0 [11] 1).bind fun t3 =>
    (gR h x0 [11] 0).bind fun t4 =>
    bd (cv h t3 5 (f_X5_becomes t3 t4 h)) fun u6 h5 =>
    (gR h5 x0 [11] 1).bind fun t7 =>
    (pI h5 t7 [5] 7 x5).bind fun h8 =>
    (gR h8 x0 [11] 1).bind fun t9 =>
    bd (cv h8 t9 5 (f_X5_passDays t9 x1 h8)) fun u11 h10 =>
    (gR h10 x0 [11] 1).bind fun t12 =>
    (gI h10 t12 [5] 9).bind fun t13 =>
    (if t13 ≤ x4 then
    f_X11_feed_b26 n x0 x1 x2 x3 x4 (x5 + 1) h10
    else (gR h10 x0 [11] 1).bind fun t14 =>
    (gI h10 t14 [5] 9).bind fun t15 =>
    f_X11_feed_b26 n x0 x1 x2 x5 t15 (x5 + 1) h10))) := rfl
theorem e_X11_weighedSoAs_b24 (n : Nat) (x0 : Option Nat) (x2 : Option Nat) (x3 : Int32) (x4 : Int32) (h : AH) : f_X11_weighedSoAs_b24 (n + 1) x0 x2 x3 x4 h =
    (bd (cv h x2 7 (f_X7_size x2 h)) fun r9 h8 =>
    (if r9 ≤ x4 then
    some (1, h8)
    else bd (cv h8 x2 7 (f_X7_isSkipped x2 x4 h8)) fun r11 h10 =>
    (if r11 = 0 then
    bd (cv h10 x2 7 (f_X7_at x2 x4 h10)) fun r16 h15 =>
    (gR h15 x0 [11] 1).bind fun t17 =>
    (gR h15 t17 [5] 1).bind fun t18 =>
    (iA h15 t18 x3).bind fun t19 =>
    (if r16 = t19 then
    f_X11_weighedSoAs_b62 (f_X11_weighedSoAs_b24 n) x0 x2 x3 x4 h15
    else some (0, h15))
    else f_X11_weighedSoAs_b62 (f_X11_weighedSoAs_b24 n) x0 x2 x3 x4 h10))) := rfl
theorem e_X11_figuresBy_b5 (n : Nat) (x0 : Option Nat) (x1 : Option Nat) (x2 : Int32) (x3 : Int32) (x4 : Int32) (h : AH) : f_X11_figuresBy_b5 (n + 1) x0 x1 x2 x3 x4 h =
    ((if 10 ≤ x4 then
    some (x3, h)
    else (gR h x0 [11] 0).bind fun t1 =>
    (gR h t1 [5] 0).bind fun t2 =>
    (rA h t2 2 x2).bind fun t3 =>
    (gI h t3 GF 0).bind fun t4 =>
    bd (f_X11_kindOf t4 x4 h) fun r6 h5 =>
    bd (cv h5 x0 11 (f_X11_weighedSoAs x0 r6 x1 x2 h5)) fun r8 h7 =>
    (if r8 = 0 then
    f_X11_figuresBy_b5 n x0 x1 x2 x3 (x4 + 1) h7
    else nm (x3 ||| ((1 : Int32) <<< (x4 &&& 31))) fun t9 =>
    f_X11_figuresBy_b5 n x0 x1 x2 t9 (x4 + 1) h7))) := rfl
theorem e_X11_lowestOf_b2 (n : Nat) (x0 : Int32) (x1 : Int32) (h : AH) : f_X11_lowestOf_b2 (n + 1) x0 x1 h =
    ((if 6 ≤ x1 then
    some (x1, h)
    else (if ((x0 >>> (x1 &&& 31)) &&& 1) = 0 then
    f_X11_lowestOf_b2 n x0 (x1 + 1) h
    else some (x1, h)))) := rfl
theorem e_X11_firstToLeave_b13 (n : Nat) (x0 : Option Nat) (x1 : Int32) (h : AH) : f_X11_firstToLeave_b13 (n + 1) x0 x1 h =
    ((if 60 < x1 then
    some ((-4), h)
    else (gR h x0 [11] 1).bind fun t5 =>
    bd (cv h t5 5 (f_X5_passDay t5 h)) fun u7 h6 =>
    (gR h6 x0 [11] 0).bind fun t8 =>
    (gI h6 t8 [5] 6).bind fun t9 =>
    (gR h6 x0 [11] 1).bind fun t10 =>
    (gI h6 t10 [5] 6).bind fun t11 =>
    nm (t9 &&& (t11 ^^^ (-1))) fun t12 =>
    (if t12 = 0 then
    f_X11_firstToLeave_b13 n x0 (x1 + 1) h6
    else bd (f_X11_lowestOf t12 h6) fun r14 h13 =>
    some (r14, h13)))) := rfl
theorem e_X11_forged_b27 (n : Nat) (x0 : Option Nat) (x2 : Option Nat) (x3 : Int32) (h : AH) : f_X11_forged_b27 (n + 1) x0 x2 x3 h =
    (bd (cv h x2 7 (f_X7_size x2 h)) fun r6 h5 =>
    (if r6 ≤ x3 then
    some ((-4), h5)
    else (gR h5 x0 [11] 0).bind fun t7 =>
    bd (cv h5 t7 5 (f_X5_knows t7 x3 h5)) fun r9 h8 =>
    (if r9 = 0 then
    some (x3, h8)
    else bd (cv h8 x2 7 (f_X7_at x2 x3 h8)) fun r11 h10 =>
    (gR h10 x0 [11] 0).bind fun t12 =>
    (gR h10 t12 [5] 2).bind fun t13 =>
    (iA h10 t13 x3).bind fun t14 =>
    (if r11 = t14 then
    f_X11_forged_b27 n x0 x2 (x3 + 1) h10
    else some (x3, h10))))) := rfl
theorem e_X11_house_b79 (n : Nat) (x0 : Option Nat) (x2 : Option Nat) (x3 : Option Nat) (x5 : Int32) (x6 : Int32) (h : AH) : f_X11_house_b79 (n + 1) x0 x2 x3 x5 x6 h =
    ((if 100 ≤ x5 then
    f_X11_house_b132 x0 x5 h
    else bd (cv h x2 7 (f_X7_size x2 h)) fun r21 h20 =>
    (if r21 ≤ x6 then
    f_X11_house_b132 x0 x5 h20
    else (gR h20 x0 [11] 1).bind fun t22 =>
    bd (cv h20 x3 10 (f_X10_follow x3 t22 x6 h20)) fun r24 h23 =>
    (if r24 = 0 then
    some (((-2000) - x6), h23)
    else bd (cv h23 x3 10 (f_X10_lengthAt x3 x6 h23)) fun r26 h25 =>
    nm (x6 + r26) fun t27 =>
    f_X11_house_b79 n x0 x2 x3 (x5 + 1) t27 h25)))) := rfl
theorem e_X5_init_b87 (n : Nat) (x0 : Option Nat) (x1 : Option Nat) (x2 : Int32) (h : AH) : f_X5_init_b87 (n + 1) x0 x1 x2 h =
    ((if 7 ≤ x2 then
    some ((), h)
    else (gR h x0 [5] 0).bind fun t28 =>
    (rS h t28 2 GF x2 x1).bind fun h29 =>
    f_X5_init_b87 n x0 x1 (x2 + 1) h29)) := rfl
theorem e_X11_judge_b38 (n : Nat) (x0 : Option Nat) (x2 : Option Nat) (x3 : Int32) (h : AH) : f_X11_judge_b38 (n + 1) x0 x2 x3 h =
    (bd (cv h x2 7 (f_X7_size x2 h)) fun r10 h9 =>
    (if r10 ≤ x3 then
    some ((-4), h9)
    else bd (cv h9 x2 7 (f_X7_isSkipped x2 x3 h9)) fun r12 h11 =>
    (if r12 = 0 then
    bd (cv h11 x2 7 (f_X7_at x2 x3 h11)) fun r17 h16 =>
    (gR h16 x0 [11] 1).bind fun t18 =>
    bd (cv h16 t18 5 (f_X5_weightOfAll t18 h16)) fun r20 h19 =>
    (if r17 = r20 then
    f_X11_judge_b71 (f_X11_judge_b38 n) x0 x2 x3 h19
    else some (x3, h19))
    else f_X11_judge_b71 (f_X11_judge_b38 n) x0 x2 x3 h11))) := rfl
theorem e_X11_kindsBy_b5 (n : Nat) (x0 : Option Nat) (x1 : Option Nat) (x2 : Int32) (x3 : Int32) (x4 : Int32) (h : AH) : f_X11_kindsBy_b5 (n + 1) x0 x1 x2 x3 x4 h =
    ((if 8 ≤ x4 then
    some (x3, h)
    else (gR h x0 [11] 0).bind fun t1 =>
    (gR h t1 [5] 0).bind fun t2 =>
    (rA h t2 2 x2).bind fun t3 =>
    (gI h t3 GF 1).bind fun t4 =>
    bd (f_X11_kindOf x4 t4 h) fun r6 h5 =>
    bd (cv h5 x0 11 (f_X11_weighedSoAs x0 r6 x1 x2 h5)) fun r8 h7 =>
    (if r8 = 0 then
    f_X11_kindsBy_b5 n x0 x1 x2 x3 (x4 + 1) h7
    else nm (x3 ||| ((1 : Int32) <<< (x4 &&& 31))) fun t9 =>
    f_X11_kindsBy_b5 n x0 x1 x2 t9 (x4 + 1) h7))) := rfl
theorem e_X11_leaves_b36 (n : Nat) (x0 : Option Nat) (x1 : Int32) (x2 : Int32) (h : AH) : f_X11_leaves_b36 (n + 1) x0 x1 x2 h =
    ((if 60 < x2 then
    some ((-4), h)
    else (gR h x0 [11] 1).bind fun t8 =>
    bd (cv h t8 5 (f_X5_isIn t8 x1 h)) fun r10 h9 =>
    (if r10 = 0 then
    some (x2, h9)
    else (gR h9 x0 [11] 1).bind fun t11 =>
    bd (cv h9 t11 5 (f_X5_passDayOf t11 x1 h9)) fun u13 h12 =>
    f_X11_leaves_b36 n x0 x1 (x2 + 1) h12))) := rfl
theorem e_X5_ledgerOfAll_b4 (n : Nat) (x0 : Option Nat) (x1 : Int32) (x2 : Int32) (h : AH) : f_X5_ledgerOfAll_b4 (n + 1) x0 x1 x2 h =
    ((gI h x0 [5] 5).bind fun t1 =>
    (if t1 ≤ x2 then
    some (x1, h)
    else bd (cv h x0 5 (f_X5_isIn x0 x2 h)) fun r3 h2 =>
    (if r3 = 0 then
    f_X5_ledgerOfAll_b38 (f_X5_ledgerOfAll_b4 n) x0 x2 0 x1 h2
    else (gR h2 x0 [5] 2).bind fun t5 =>
    (iA h2 t5 x2).bind fun t6 =>
    (gR h2 x0 [5] 1).bind fun t7 =>
    (iA h2 t7 x2).bind fun t8 =>
    f_X5_ledgerOfAll_b38 (f_X5_ledgerOfAll_b4 n) x0 x2 (t6 - t8) x1 h2))) := rfl
theorem e_X11_loan_b59 (n : Nat) (x0 : Option Nat) (x1 : Int32) (x2 : Int32) (x3 : Int32) (h : AH) : f_X11_loan_b59 (n + 1) x0 x1 x2 x3 h =
    ((if 20 < x3 then
    some ((-4), h)
    else (gR h x0 [11] 0).bind fun t15 =>
    bd (cv h t15 5 (f_X5_canLend t15 x1 x2 x3 h)) fun r17 h16 =>
    (if r17 = 0 then
    some ((-4), h16)
    else (gR h16 x0 [11] 1).bind fun t18 =>
    (gR h16 x0 [11] 0).bind fun t19 =>
    bd (cv h16 t18 5 (f_X5_becomes t18 t19 h16)) fun u21 h20 =>
    (gR h20 x0 [11] 1).bind fun t22 =>
    bd (cv h20 t22 5 (f_X5_lendPounds t22 x1 x2 x3 h20)) fun u24 h23 =>
    bd (cv h23 x0 11 (f_X11_goesNextDay x0 x1 h23)) fun r26 h25 =>
    (if r26 = 0 then
    f_X11_loan_b59 n x0 x1 x2 (x3 + 1) h25
    else some (x3, h25))))) := rfl
theorem e_X11_mean_b18 (n : Nat) (x0 : Option Nat) (x1 : Int32) (x2 : Int32) (x3 : Int32) (x4 : Int32) (h : AH) : f_X11_mean_b18 (n + 1) x0 x1 x2 x3 x4 h =
    ((gR h x0 [11] 0).bind fun t3 =>
    (gI h t3 [5] 5).bind fun t4 =>
    (if t4 ≤ x4 then
    bd (f_X11_leastTerms (Int32.toInt64 x3) (Int32.toInt64 (mmax x2 1)) x1 h) fun r8 h7 =>
    some (r8, h7)
    else (gR h x0 [11] 0).bind fun t9 =>
    bd (cv h t9 5 (f_X5_isIn t9 x4 h)) fun r11 h10 =>
    (if r11 = 0 then
    (gR h10 x0 [11] 0).bind fun t12 =>
    (gR h10 t12 [5] 2).bind fun t13 =>
    (iA h10 t13 x4).bind fun t14 =>
    (gR h10 x0 [11] 0).bind fun t15 =>
    (gR h10 t15 [5] 1).bind fun t16 =>
    (iA h10 t16 x4).bind fun t17 =>
    nm (x3 + (t14 - t17)) fun t18 =>
    f_X11_mean_b18 n x0 x1 (x2 + 1) t18 (x4 + 1) h10
    else f_X11_mean_b18 n x0 x1 x2 x3 (x4 + 1) h10))) := rfl
theorem e_X11_mostGoneOf_b38 (n : Nat) (x0 : Option Nat) (x2 : Int32) (x3 : Int32) (x4 : Int32) (x5 : Int32) (h : AH) : f_X11_mostGoneOf_b38 (n + 1) x0 x2 x3 x4 x5 h =
    ((if 7 ≤ x5 then
    some (x4, h)
    else bd (cv h x0 11 (f_X11_canPair x0 x2 x5 x3 h)) fun r11 h10 =>
    (if r11 = 0 then
    f_X11_mostGoneOf_b38 n x0 x2 x3 x4 (x5 + 1) h10
    else bd (cv h10 x0 11 (f_X11_goneWithPair x0 x2 x5 x3 h10)) fun r13 h12 =>
    nm (mmax x4 r13) fun t16 =>
    f_X11_mostGoneOf_b38 n x0 x2 x3 t16 (x5 + 1) h12))) := rfl
theorem e_X5_heaviest_b7 (n : Nat) (x0 : Option Nat) (x1 : Int32) (x2 : Int32) (x3 : Int32) (h : AH) : f_X5_heaviest_b7 (n + 1) x0 x1 x2 x3 h =
    ((gI h x0 [5] 5).bind fun t1 =>
    (if t1 ≤ x3 then
    some (x1, h)
    else bd (cv h x0 5 (f_X5_isIn x0 x3 h)) fun r3 h2 =>
    (if r3 = 0 then
    f_X5_heaviest_b7 n x0 x1 x2 (x3 + 1) h2
    else (gR h2 x0 [5] 1).bind fun t4 =>
    (iA h2 t4 x3).bind fun t5 =>
    (if t5 ≤ x2 then
    f_X5_heaviest_b7 n x0 x1 x2 (x3 + 1) h2
    else (gR h2 x0 [5] 1).bind fun t6 =>
    (iA h2 t6 x3).bind fun t7 =>
    f_X5_heaviest_b7 n x0 x3 t7 (x3 + 1) h2)))) := rfl
theorem e_X5_lighterThan_b4 (n : Nat) (x0 : Option Nat) (x1 : Int32) (x2 : Int32) (x3 : Int32) (h : AH) : f_X5_lighterThan_b4 (n + 1) x0 x1 x2 x3 h =
    ((gI h x0 [5] 5).bind fun t1 =>
    (if t1 ≤ x3 then
    some (x2, h)
    else (gR h x0 [5] 1).bind fun t2 =>
    (iA h t2 x3).bind fun t3 =>
    (gR h x0 [5] 1).bind fun t4 =>
    (iA h t4 x1).bind fun t5 =>
    (if t3 < t5 then
    f_X5_lighterThan_b47 (f_X5_lighterThan_b4 n) x0 x1 x2 x3 h
    else (gR h x0 [5] 1).bind fun t8 =>
    (iA h t8 x3).bind fun t9 =>
    (gR h x0 [5] 1).bind fun t10 =>
    (iA h t10 x1).bind fun t11 =>
    (if t9 = t11 then
    (if x1 ≤ x3 then
    f_X5_lighterThan_b51 (f_X5_lighterThan_b4 n) x0 x1 x2 x3 h
    else f_X5_lighterThan_b47 (f_X5_lighterThan_b4 n) x0 x1 x2 x3 h)
    else f_X5_lighterThan_b51 (f_X5_lighterThan_b4 n) x0 x1 x2 x3 h)))) := rfl
theorem e_X5_byWeight_b2 (n : Nat) (x0 : Option Nat) (x1 : Int32) (x2 : Int32) (h : AH) : f_X5_byWeight_b2 (n + 1) x0 x1 x2 h =
    ((gI h x0 [5] 5).bind fun t1 =>
    (if t1 ≤ x2 then
    some ((-4), h)
    else bd (cv h x0 5 (f_X5_isIn x0 x2 h)) fun r3 h2 =>
    (if r3 = 0 then
    f_X5_byWeight_b2 n x0 x1 (x2 + 1) h2
    else bd (cv h2 x0 5 (f_X5_lighterThan x0 x2 h2)) fun r5 h4 =>
    (if r5 = x1 then
    some (x2, h4)
    else f_X5_byWeight_b2 n x0 x1 (x2 + 1) h4)))) := rfl
theorem e_X11_planPairs_b96 (n : Nat) (x0 : Option Nat) (x2 : Int32) (h : AH) : f_X11_planPairs_b96 (n + 1) x0 x2 h =
    ((gR h x0 [11] 0).bind fun t7 =>
    (gI h t7 [5] 6).bind fun t8 =>
    (if t8 < x2 then
    some ((), h)
    else (gR h x0 [11] 0).bind fun t9 =>
    (gI h t9 [5] 6).bind fun t10 =>
    (if (x2 &&& (t10 ^^^ (-1))) = 0 then
    (gR h x0 [11] 7).bind fun t11 =>
    bd (cv h x0 11 (f_X11_mostGoneOf x0 x2 h)) fun r13 h12 =>
    (iS h12 t11 x2 r13).bind fun h14 =>
    f_X11_planPairs_b96 n x0 (x2 + 1) h14
    else f_X11_planPairs_b96 n x0 (x2 + 1) h))) := rfl
theorem e_X11_planPairs_b38 (k7 : Option Nat → Int32 → Int32 → AH → Option (Unit × AH)) (n : Nat) (x0 : Option Nat) (x1 : Int32) (x2 : Int32) (x3 : Int32) (h : AH) : f_X11_planPairs_b38 k7 (n + 1) x0 x1 x2 x3 h =
    ((gR h x0 [11] 0).bind fun t18 =>
    (gI h t18 [5] 5).bind fun t19 =>
    (if t19 ≤ x3 then
    k7 x0 x1 (x2 + 1) h
    else (gR h x0 [11] 6).bind fun t20 =>
    bd (cv h x0 11 (f_X11_goneIfLent x0 x2 x3 h)) fun r22 h21 =>
    bd (cv h21 x0 11 (f_X11_goneIfLent x0 x3 x2 h21)) fun r24 h23 =>
    (iS h23 t20 ((x2 * 7) + x3) (mmax r22 r24)).bind fun h27 =>
    f_X11_planPairs_b38 k7 n x0 x1 x2 (x3 + 1) h27)) := rfl
theorem e_X11_planPairs_b7 (n : Nat) (x0 : Option Nat) (x1 : Int32) (x2 : Int32) (h : AH) : f_X11_planPairs_b7 (n + 1) x0 x1 x2 h =
    ((gR h x0 [11] 0).bind fun t3 =>
    (gI h t3 [5] 5).bind fun t4 =>
    (if t4 ≤ x2 then
    (gR h x0 [11] 7).bind fun t5 =>
    (iS h t5 0 0).bind fun h6 =>
    f_X11_planPairs_b96 FU x0 1 h6
    else (gR h x0 [11] 6).bind fun t15 =>
    (iS h t15 ((x2 * 7) + x2) ((x1 >>> (x2 &&& 31)) &&& 1)).bind fun h16 =>
    nm (x2 + 1) fun t17 =>
    f_X11_planPairs_b38 (f_X11_planPairs_b7 n) FU x0 x1 x2 t17 h16)) := rfl
theorem e_X11_partnerOfLowest_b18 (n : Nat) (x0 : Option Nat) (x1 : Int32) (x2 : Int32) (x3 : Int32) (x4 : Int32) (h : AH) : f_X11_partnerOfLowest_b18 (n + 1) x0 x1 x2 x3 x4 h =
    ((if 7 ≤ x4 then
    some ((-4), h)
    else bd (cv h x0 11 (f_X11_canPair x0 x2 x4 x3 h)) fun r6 h5 =>
    (if r6 = 0 then
    f_X11_partnerOfLowest_b18 n x0 x1 x2 x3 (x4 + 1) h5
    else bd (cv h5 x0 11 (f_X11_goneWithPair x0 x2 x4 x3 h5)) fun r8 h7 =>
    (gR h7 x0 [11] 7).bind fun t9 =>
    (iA h7 t9 x1).bind fun t10 =>
    (if r8 = t10 then
    some (x4, h7)
    else f_X11_partnerOfLowest_b18 n x0 x1 x2 x3 (x4 + 1) h7)))) := rfl
theorem e_X11_partnerOf_b10 (n : Nat) (x0 : Option Nat) (x1 : Int32) (x2 : Int32) (x3 : Int32) (h : AH) : f_X11_partnerOf_b10 (n + 1) x0 x1 x2 x3 h =
    ((if 7 ≤ x3 then
    some ((-4), h)
    else (if x2 = 0 then
    some ((-4), h)
    else bd (f_X11_lowestOf x2 h) fun r4 h3 =>
    bd (cv h3 x0 11 (f_X11_partnerOfLowest x0 x2 h3)) fun r6 h5 =>
    (if r4 = x1 then
    some (r6, h5)
    else (if r6 = x1 then
    some (r4, h5)
    else nm (x2 &&& (((1 : Int32) <<< (r4 &&& 31)) ^^^ (-1))) fun t7 =>
    (if r6 < 0 then
    f_X11_partnerOf_b10 n x0 x1 t7 (x3 + 1) h5
    else nm (t7 &&& (((1 : Int32) <<< (r6 &&& 31)) ^^^ (-1))) fun t8 =>
    f_X11_partnerOf_b10 n x0 x1 t8 (x3 + 1) h5)))))) := rfl
theorem e_X11_seasons_b54 (k34 : Option Nat → Int32 → Int32 → Int32 → Int32 → Int32 → Int32 → AH → Option (Int32 × AH)) (n : Nat) (x0 : Option Nat) (x1 : Int32) (x3 : Int32) (x4 : Int32) (x5 : Int32) (x6 : Int32) (x7 : Int32) (x8 : Int32) (h : AH) : f_X11_seasons_b54 k34 (n + 1) x0 x1 x3 x4 x5 x6 x7 x8 h =
    ((gR h x0 [11] 0).bind fun t5 =>
    (gI h t5 [5] 5).bind fun t6 =>
    (if t6 ≤ x8 then
    (gR h x0 [11] 1).bind fun t7 =>
    bd (cv h t7 5 (f_X5_passDays t7 9 h)) fun u9 h8 =>
    (gR h8 x0 [11] 1).bind fun t10 =>
    (gI h8 t10 [5] 9).bind fun t11 =>
    (gR h8 x0 [11] 0).bind fun t12 =>
    (gI h8 t12 [5] 9).bind fun t13 =>
    nm (x5 + (t11 - t13)) fun t14 =>
    (gR h8 x0 [11] 1).bind fun t15 =>
    (gI h8 t15 [5] 6).bind fun t16 =>
    bd (f_J6_bitCount_0f7a4 t16 h8) fun r18 h17 =>
    nm (x6 + r18) fun t19 =>
    k34 x0 x1 x3 x4 t14 t19 (x7 + 1) h17
    else (gR h x0 [11] 0).bind fun t20 =>
    bd (cv h t20 5 (f_X5_isIn t20 x8 h)) fun r22 h21 =>
    (if r22 = 0 then
    f_X11_seasons_b54 k34 n x0 x1 x3 x4 x5 x6 x7 (x8 + 1) h21
    else bd (f_X11_nextSeed x4 h21) fun r24 h23 =>
    (gR h23 x0 [11] 1).bind fun t25 =>
    (gR h23 t25 [5] 1).bind fun t26 =>
    bd (f_X11_drawBelow 100 r24 h23) fun r28 h27 =>
    (iS h27 t26 x8 r28).bind fun h29 =>
    f_X11_seasons_b54 k34 n x0 x1 x3 r24 x5 x6 x7 (x8 + 1) h29))) := rfl
theorem e_X11_seasons_b34 (n : Nat) (x0 : Option Nat) (x1 : Int32) (x3 : Int32) (x4 : Int32) (x5 : Int32) (x6 : Int32) (x7 : Int32) (h : AH) : f_X11_seasons_b34 (n + 1) x0 x1 x3 x4 x5 x6 x7 h =
    ((if x1 ≤ x7 then
    (if x3 = 0 then
    some (x5, h)
    else some (x6, h))
    else (gR h x0 [11] 1).bind fun t1 =>
    (gR h x0 [11] 0).bind fun t2 =>
    bd (cv h t1 5 (f_X5_becomes t1 t2 h)) fun u4 h3 =>
    f_X11_seasons_b54 (f_X11_seasons_b34 n) FU x0 x1 x3 x4 x5 x6 x7 0 h3)) := rfl
theorem e_X5_secretsOfAll_b4 (n : Nat) (x0 : Option Nat) (x1 : Int32) (x2 : Int32) (h : AH) : f_X5_secretsOfAll_b4 (n + 1) x0 x1 x2 h =
    ((gI h x0 [5] 5).bind fun t1 =>
    (if t1 ≤ x2 then
    some (x1, h)
    else bd (cv h x0 5 (f_X5_isIn x0 x2 h)) fun r3 h2 =>
    (if r3 = 0 then
    f_X5_secretsOfAll_b31 (f_X5_secretsOfAll_b4 n) x0 x2 0 x1 h2
    else (gR h2 x0 [5] 3).bind fun t5 =>
    (iA h2 t5 x2).bind fun t6 =>
    f_X5_secretsOfAll_b31 (f_X5_secretsOfAll_b4 n) x0 x2 t6 x1 h2))) := rfl
theorem e_X5_alikeTwos_b16 (k4 : Option Nat → Int32 → Int32 → AH → Option (Int32 × AH)) (n : Nat) (x0 : Option Nat) (x1 : Int32) (x2 : Int32) (x3 : Int32) (h : AH) : f_X5_alikeTwos_b16 k4 (n + 1) x0 x1 x2 x3 h =
    ((gI h x0 [5] 5).bind fun t3 =>
    (if t3 ≤ x3 then
    k4 x0 x1 (x2 + 1) h
    else bd (cv h x0 5 (f_X5_isIn x0 x2 h)) fun r5 h4 =>
    (if r5 = 0 then
    f_X5_alikeTwos_b16 k4 n x0 x1 x2 (x3 + 1) h4
    else bd (cv h4 x0 5 (f_X5_isIn x0 x3 h4)) fun r7 h6 =>
    (if r7 = 0 then
    f_X5_alikeTwos_b16 k4 n x0 x1 x2 (x3 + 1) h6
    else (gR h6 x0 [5] 1).bind fun t8 =>
    (iA h6 t8 x2).bind fun t9 =>
    (gR h6 x0 [5] 1).bind fun t10 =>
    (iA h6 t10 x3).bind fun t11 =>
    (if t9 = t11 then
    f_X5_alikeTwos_b16 k4 n x0 (x1 + 1) x2 (x3 + 1) h6
    else f_X5_alikeTwos_b16 k4 n x0 x1 x2 (x3 + 1) h6))))) := rfl
theorem e_X5_alikeTwos_b4 (n : Nat) (x0 : Option Nat) (x1 : Int32) (x2 : Int32) (h : AH) : f_X5_alikeTwos_b4 (n + 1) x0 x1 x2 h =
    ((gI h x0 [5] 5).bind fun t1 =>
    (if t1 ≤ x2 then
    some (x1, h)
    else nm (x2 + 1) fun t2 =>
    f_X5_alikeTwos_b16 (f_X5_alikeTwos_b4 n) FU x0 x1 x2 t2 h)) := rfl
theorem e_X5_withoutSecrets_b4 (n : Nat) (x0 : Option Nat) (x1 : Int32) (x2 : Int32) (h : AH) : f_X5_withoutSecrets_b4 (n + 1) x0 x1 x2 h =
    ((gI h x0 [5] 5).bind fun t1 =>
    (if t1 ≤ x2 then
    some (x1, h)
    else bd (cv h x0 5 (f_X5_isIn x0 x2 h)) fun r3 h2 =>
    (if r3 = 0 then
    f_X5_withoutSecrets_b4 n x0 x1 (x2 + 1) h2
    else (gR h2 x0 [5] 3).bind fun t4 =>
    (iA h2 t4 x2).bind fun t5 =>
    (if t5 = 0 then
    nm (x1 ||| ((1 : Int32) <<< (x2 &&& 31))) fun t6 =>
    f_X5_withoutSecrets_b4 n x0 t6 (x2 + 1) h2
    else f_X5_withoutSecrets_b4 n x0 x1 (x2 + 1) h2)))) := rfl
theorem e_X11_tell_b55 (k29 : Option Nat → Int32 → Int32 → AH → Option (Int32 × AH)) (n : Nat) (x0 : Option Nat) (x1 : Int32) (x2 : Int32) (x3 : Int32) (h : AH) : f_X11_tell_b55 k29 (n + 1) x0 x1 x2 x3 h =
    ((if x2 ≤ x3 then
    bd (cv h x0 11 (f_X11_goesNextDay x0 x1 h)) fun r15 h14 =>
    (if r15 = 0 then
    k29 x0 x1 (x2 + 1) h14
    else some (x2, h14))
    else (gR h x0 [11] 1).bind fun t16 =>
    bd (cv h t16 5 (f_X5_tellSecret t16 x1 h)) fun u18 h17 =>
    f_X11_tell_b55 k29 n x0 x1 x2 (x3 + 1) h17)) := rfl
theorem e_X11_tell_b29 (n : Nat) (x0 : Option Nat) (x1 : Int32) (x2 : Int32) (h : AH) : f_X11_tell_b29 (n + 1) x0 x1 x2 h =
    ((gR h x0 [11] 0).bind fun t7 =>
    (gR h t7 [5] 3).bind fun t8 =>
    (iA h t8 x1).bind fun t9 =>
    (if t9 < x2 then
    some ((-4), h)
    else (gR h x0 [11] 1).bind fun t10 =>
    (gR h x0 [11] 0).bind fun t11 =>
    bd (cv h t10 5 (f_X5_becomes t10 t11 h)) fun u13 h12 =>
    f_X11_tell_b55 (f_X11_tell_b29 n) FU x0 x1 x2 0 h12)) := rfl
theorem e_X11_worthOfChoice_b39 (n : Nat) (x0 : Option Nat) (x1 : Int32) (x2 : Int32) (x3 : Int32) (x4 : Int32) (h : AH) : f_X11_worthOfChoice_b39 (n + 1) x0 x1 x2 x3 x4 h =
    ((if x3 ≤ x4 then
    (gR h x0 [11] 1).bind fun t11 =>
    bd (cv h t11 5 (f_X5_isIn t11 x1 h)) fun r13 h12 =>
    (if r13 = 0 then
    some ((6 - x2), h12)
    else (gR h12 x0 [11] 1).bind fun t14 =>
    (gR h12 t14 [5] 1).bind fun t15 =>
    (iA h12 t15 x1).bind fun t16 =>
    some (((t16 / 20) - x2), h12))
    else (gR h x0 [11] 1).bind fun t17 =>
    bd (cv h t17 5 (f_X5_passDayOf t17 x1 h)) fun u19 h18 =>
    f_X11_worthOfChoice_b39 n x0 x1 x2 x3 (x4 + 1) h18)) := rfl
theorem e_X11_waits_b42 (n : Nat) (x0 : Option Nat) (x1 : Int32) (x2 : Int32) (x3 : Int32) (x4 : Int32) (h : AH) : f_X11_waits_b42 (n + 1) x0 x1 x2 x3 x4 h =
    ((gR h x0 [11] 0).bind fun t12 =>
    (gI h t12 [5] 5).bind fun t13 =>
    (if t13 ≤ x4 then
    some (x3, h)
    else (gR h x0 [11] 0).bind fun t14 =>
    bd (cv h t14 5 (f_X5_isIn t14 x4 h)) fun r16 h15 =>
    (if r16 = 0 then
    f_X11_waits_b42 n x0 x1 x2 x3 (x4 + 1) h15
    else (gR h15 x0 [11] 1).bind fun t17 =>
    (gR h15 x0 [11] 0).bind fun t18 =>
    bd (cv h15 t17 5 (f_X5_becomes t17 t18 h15)) fun u20 h19 =>
    (gR h19 x0 [11] 1).bind fun t21 =>
    (gR h19 t21 [5] 4).bind fun t22 =>
    (iA h19 t22 x4).bind fun t23 =>
    (iS h19 t22 x4 (t23 + 5)).bind fun h24 =>
    (gR h24 x0 [11] 1).bind fun t25 =>
    bd (cv h24 t25 5 (f_X5_passDays t25 x1 h24)) fun u27 h26 =>
    (gR h26 x0 [11] 1).bind fun t28 =>
    (gI h26 t28 [5] 9).bind fun t29 =>
    (if t29 ≤ x2 then
    f_X11_waits_b42 n x0 x1 x2 x3 (x4 + 1) h26
    else (gR h26 x0 [11] 1).bind fun t30 =>
    (gI h26 t30 [5] 9).bind fun t31 =>
    f_X11_waits_b42 n x0 x1 t31 x4 (x4 + 1) h26)))) := rfl
theorem e_X12_leastIn_b2 (n : Nat) (x0 : Int32) (x1 : Int32) (h : AH) : f_X12_leastIn_b2 (n + 1) x0 x1 h =
    (bd (f_X12_has x0 x1 h) fun r2 h1 =>
    (if r2 = 0 then
    f_X12_leastIn_b2 n x0 (x1 + 1) h1
    else some (x1, h1))) := rfl
theorem e_X12_bestOf_b10 (n : Nat) (x0 : Option Nat) (x1 : Int32) (x2 : Int32) (x3 : Int32) (x4 : Int32) (h : AH) : f_X12_bestOf_b10 (n + 1) x0 x1 x2 x3 x4 h =
    ((gR h x0 [12] 0).bind fun t3 =>
    (iA h t3 0).bind fun t4 =>
    (if t4 ≤ x4 then
    f_X12_bestOf_b118 x3 h
    else (gR h x0 [12] 0).bind fun t5 =>
    (iA h t5 0).bind fun t6 =>
    (if t6 ≤ x2 then
    f_X12_bestOf_b118 x3 h
    else bd (f_X12_has x1 x4 h) fun r8 h7 =>
    (if r8 = 0 then
    f_X12_bestOf_b56 (f_X12_bestOf_b10 n) x0 x1 x2 x3 x4 (-1) h7
    else (gR h7 x0 [12] 9).bind fun t14 =>
    (iA h7 t14 ((7 * x2) + x4)).bind fun t15 =>
    f_X12_bestOf_b56 (f_X12_bestOf_b10 n) x0 x1 x2 x3 x4 t15 h7)))) := rfl
theorem e_X12_bits_b4 (n : Nat) (x0 : Int32) (x1 : Int32) (x2 : Int32) (h : AH) : f_X12_bits_b4 (n + 1) x0 x1 x2 h =
    ((if 7 ≤ x2 then
    some (x1, h)
    else nm (x1 + ((x0 >>> (x2 &&& 31)) &&& 1)) fun t1 =>
    f_X12_bits_b4 n x0 t1 (x2 + 1) h)) := rfl
theorem e_X12_copies_b2 (n : Nat) (x0 : Option Nat) (x1 : Option Nat) (x2 : Int32) (h : AH) : f_X12_copies_b2 (n + 1) x0 x1 x2 h =
    ((if 54 ≤ x2 then
    some ((), h)
    else (iA h x0 x2).bind fun t1 =>
    (iS h x1 x2 t1).bind fun h2 =>
    f_X12_copies_b2 n x0 x1 (x2 + 1) h2)) := rfl
theorem e_X12_day_b112 (n : Nat) (x0 : Option Nat) (x2 : Int32) (h : AH) : f_X12_day_b112 (n + 1) x0 x2 h =
    ((iA h x0 0).bind fun t4 =>
    (if t4 ≤ x2 then
    some ((), h)
    else bd (f_X12_mayGo x0 x2 h) fun r6 h5 =>
    (if r6 = 0 then
    f_X12_day_b112 n x0 (x2 + 1) h5
    else bd (f_X12_of x2 6 h5) fun r8 h7 =>
    (iS h7 x0 r8 0).bind fun h9 =>
    (iA h9 x0 2).bind fun t10 =>
    bd (f_X12_of x2 3 h9) fun r12 h11 =>
    (iA h11 x0 r12).bind fun t13 =>
    bd (f_X12_of x2 2 h11) fun r15 h14 =>
    (iA h14 x0 r15).bind fun t16 =>
    nm ((t10 + t13) - t16) fun t17 =>
    (if t17 ≤ 9999 then
    (iS h14 x0 2 t17).bind fun h18 =>
    f_X12_day_b112 n x0 (x2 + 1) h18
    else (iS h14 x0 2 9999).bind fun h19 =>
    f_X12_day_b112 n x0 (x2 + 1) h19)))) := rfl
theorem e_X12_day_b9 (n : Nat) (x0 : Option Nat) (x1 : Int32) (x2 : Int32) (h : AH) : f_X12_day_b9 (n + 1) x0 x1 x2 h =
    ((iA h x0 0).bind fun t3 =>
    (if t3 ≤ x2 then
    f_X12_day_b112 FU x0 0 h
    else bd (f_X12_isHere x0 x2 h) fun r21 h20 =>
    (if r21 = 0 then
    f_X12_day_b9 n x0 x1 (x2 + 1) h20
    else bd (f_X12_of x2 0 h20) fun r23 h22 =>
    (iA h22 x0 r23).bind fun t24 =>
    bd (f_X12_of x2 2 h22) fun r26 h25 =>
    bd (f_X12_of x2 2 h25) fun r28 h27 =>
    (iA h27 x0 r28).bind fun t29 =>
    bd (f_X12_has x1 x2 h27) fun r31 h30 =>
    (if r31 = 0 then
    (iA h30 x0 3).bind fun t32 =>
    bd (f_X12_eatsBy t24 t32 h30) fun r34 h33 =>
    f_X12_day_b67 (f_X12_day_b9 n) x0 x1 x2 t24 r34 t29 r26 x0 h33
    else f_X12_day_b67 (f_X12_day_b9 n) x0 x1 x2 t24 0 t29 r26 x0 h30)))) := rfl
theorem e_X12_hasComeSo_b25 (n : Nat) (x0 : Option Nat) (x1 : Int32) (x2 : Int32) (x4 : Int32) (h : AH) : f_X12_hasComeSo_b25 (n + 1) x0 x1 x2 x4 h =
    ((gR h x0 [12] 16).bind fun t9 =>
    (iA h t9 x1).bind fun t10 =>
    (if t10 ≤ x4 then
    some (1, h)
    else (gR h x0 [12] 1).bind fun t11 =>
    bd (f_X12_of x2 6 h) fun r13 h12 =>
    (iA h12 t11 r13).bind fun t14 =>
    bd (cv h12 x0 12 (f_X12_isTold x0 x1 x4 t14 h12)) fun r16 h15 =>
    (if r16 = 0 then
    some (0, h15)
    else (gR h15 x0 [12] 1).bind fun t17 =>
    bd (f_X12_day t17 0 h15) fun u19 h18 =>
    f_X12_hasComeSo_b25 n x0 x1 x2 (x4 + 1) h18))) := rfl
theorem e_X12_cameWith_b49 (n : Nat) (x0 : Option Nat) (x1 : Int32) (x2 : Int32) (x3 : Int32) (x5 : Int32) (x6 : Int32) (x7 : Int32) (x8 : Int32) (h : AH) : f_X12_cameWith_b49 (n + 1) x0 x1 x2 x3 x5 x6 x7 x8 h =
    ((if 120 < x8 then
    (if x3 = 0 then
    some (x5, h)
    else (if x3 = 1 then
    some (x6, h)
    else some (x7, h)))
    else bd (cv h x0 12 (f_X12_hasComeSo x0 x1 x2 x8 h)) fun r8 h7 =>
    (if r8 = 0 then
    f_X12_cameWith_b49 n x0 x1 x2 x3 x5 x6 x7 (x8 + 1) h7
    else (if x5 = 0 then
    f_X12_cameWith_b82 (f_X12_cameWith_b49 n) x0 x1 x2 x3 x5 x8 x8 h7
    else f_X12_cameWith_b82 (f_X12_cameWith_b49 n) x0 x1 x2 x3 x5 x8 x6 h7)))) := rfl
theorem e_X12_copy_b122 (n : Nat) (x0 : Option Nat) (x1 : Int32) (x2 : Int32) (x3 : Int32) (x4 : Int32) (x5 : Int32) (x6 : Int32) (h : AH) : f_X12_copy_b122 (n + 1) x0 x1 x2 x3 x4 x5 x6 h =
    ((if x5 ≤ x6 then
    some (x5, h)
    else (if x2 ≤ x4 then
    f_X12_copy_b147 (f_X12_copy_b122 n) x0 x1 x2 x3 x4 x5 x6 ((x5 - 1) - x6) h
    else f_X12_copy_b147 (f_X12_copy_b122 n) x0 x1 x2 x3 x4 x5 x6 x6 h))) := rfl
theorem e_X12_hereIn_b4 (n : Nat) (x0 : Option Nat) (x1 : Int32) (x2 : Int32) (h : AH) : f_X12_hereIn_b4 (n + 1) x0 x1 x2 h =
    ((iA h x0 0).bind fun t1 =>
    (if t1 ≤ x2 then
    some (x1, h)
    else bd (f_X12_of x2 6 h) fun r3 h2 =>
    (iA h2 x0 r3).bind fun t4 =>
    nm (x1 ||| (t4 <<< (x2 &&& 31))) fun t5 =>
    f_X12_hereIn_b4 n x0 t5 (x2 + 1) h2)) := rfl
theorem e_X12_weightIn_b4 (n : Nat) (x0 : Option Nat) (x1 : Int32) (x2 : Int32) (h : AH) : f_X12_weightIn_b4 (n + 1) x0 x1 x2 h =
    ((iA h x0 0).bind fun t1 =>
    (if t1 ≤ x2 then
    some (x1, h)
    else bd (f_X12_isHere x0 x2 h) fun r3 h2 =>
    (if r3 = 0 then
    f_X12_weightIn_b31 (f_X12_weightIn_b4 n) x0 x2 0 x1 h2
    else bd (f_X12_of x2 2 h2) fun r6 h5 =>
    (iA h5 x0 r6).bind fun t7 =>
    f_X12_weightIn_b31 (f_X12_weightIn_b4 n) x0 x2 t7 x1 h5))) := rfl
theorem e_X12_daysOn_b2 (n : Nat) (x0 : Option Nat) (x1 : Int32) (x2 : Int32) (h : AH) : f_X12_daysOn_b2 (n + 1) x0 x1 x2 h =
    ((if x1 ≤ x2 then
    some ((), h)
    else bd (f_X12_day x0 0 h) fun u2 h1 =>
    f_X12_daysOn_b2 n x0 x1 (x2 + 1) h1)) := rfl
theorem e_X12_empty_b11 (n : Nat) (x0 : Option Nat) (x1 : Int32) (x2 : Int32) (h : AH) : f_X12_empty_b11 (n + 1) x0 x1 x2 h =
    ((if 10 ≤ x2 then
    some ((-4), h)
    else (gR h x0 [12] 0).bind fun t3 =>
    (gR h x0 [12] 1).bind fun t4 =>
    bd (f_X12_copies t3 t4 h) fun u6 h5 =>
    (gR h5 x0 [12] 1).bind fun t7 =>
    (iS h5 t7 4 x2).bind fun h8 =>
    (gR h8 x0 [12] 1).bind fun t9 =>
    bd (f_X12_daysOn t9 x1 h8) fun u11 h10 =>
    (gR h10 x0 [12] 1).bind fun t12 =>
    bd (f_X12_hereIn t12 h10) fun r14 h13 =>
    (if r14 = 0 then
    some (x2, h13)
    else f_X12_empty_b11 n x0 x1 (x2 + 1) h13))) := rfl
theorem e_X12_gcd_b17 (n : Nat) (x4 : Int64) (x6 : Int64) (h : AH) : f_X12_gcd_b17 (n + 1) x4 x6 h =
    ((if (lg_cmp x6 0) = 0 then
    some (x4, h)
    else (if x6 = 0 then none else nm (x4 - x4 / x6 * x6) fun t1 =>
    f_X12_gcd_b17 n x6 t1 h))) := rfl
theorem e_X12_feasts_b98 (k73 : Option Nat → Int32 → Int32 → Int32 → Int32 → Int64 → Int64 → Int32 → AH → Option (Int64 × AH)) (n : Nat) (x0 : Option Nat) (x1 : Int32) (x2 : Int32) (x3 : Int32) (x4 : Int32) (x5 : Int64) (x7 : Int64) (x9 : Int32) (x10 : Int64) (x12 : Int32) (h : AH) : f_X12_feasts_b98 k73 (n + 1) x0 x1 x2 x3 x4 x5 x7 x9 x10 x12 h =
    ((if x2 ≤ x12 then
    (gR h x0 [12] 1).bind fun t15 =>
    bd (f_X12_isHere t15 x1 h) fun r17 h16 =>
    (if r17 = 0 then
    f_X12_feasts_b209 k73 x0 x1 x2 x3 x4 x7 x9 x10 x5 h16
    else f_X12_feasts_b209 k73 x0 x1 x2 x3 x4 x7 x9 0 x5 h16)
    else bd (f_X12_has x9 x12 h) fun r20 h19 =>
    (if r20 = 0 then
    f_X12_feasts_b124 k73 (f_X12_feasts_b98 k73 n) x0 x1 x2 x3 x4 x5 x7 x9 x12 (Int32.toInt64 (x3 - 1)) x10 h19
    else f_X12_feasts_b124 k73 (f_X12_feasts_b98 k73 n) x0 x1 x2 x3 x4 x5 x7 x9 x12 1 x10 h19))) := rfl
theorem e_X12_feasts_b73 (n : Nat) (x0 : Option Nat) (x1 : Int32) (x2 : Int32) (x3 : Int32) (x4 : Int32) (x5 : Int64) (x7 : Int64) (x9 : Int32) (h : AH) : f_X12_feasts_b73 (n + 1) x0 x1 x2 x3 x4 x5 x7 x9 h =
    ((if ((1 : Int32) <<< (x2 &&& 31)) ≤ x9 then
    bd (f_X12_partOf x5 x7 x4 h) fun r10 h9 =>
    some (r10, h9)
    else (gR h x0 [12] 0).bind fun t11 =>
    (gR h x0 [12] 1).bind fun t12 =>
    bd (f_X12_copies t11 t12 h) fun u14 h13 =>
    f_X12_feasts_b98 (f_X12_feasts_b73 n) FU x0 x1 x2 x3 x4 x5 x7 x9 1 0 h13)) := rfl
theorem e_X12_feasts_b51 (n : Nat) (x0 : Option Nat) (x1 : Int32) (x2 : Int32) (x3 : Int32) (x4 : Int32) (x5 : Int64) (x7 : Int64) (x9 : Int32) (h : AH) : f_X12_feasts_b51 (n + 1) x0 x1 x2 x3 x4 x5 x7 x9 h =
    ((if x2 ≤ x9 then
    f_X12_feasts_b73 FU x0 x1 x2 x3 x4 x5 x7 0 h
    else nm (x7 * (Int32.toInt64 x3)) fun t35 =>
    f_X12_feasts_b51 n x0 x1 x2 x3 x4 x5 t35 (x9 + 1) h)) := rfl
theorem e_X12_feed_b26 (n : Nat) (x0 : Option Nat) (x1 : Int32) (x2 : Int32) (x3 : Int32) (x4 : Int32) (x5 : Int32) (h : AH) : f_X12_feed_b26 (n + 1) x0 x1 x2 x3 x4 x5 h =
    ((if 10 ≤ x5 then
    (if x2 = 0 then
    some (x3, h)
    else some (x4, h))
    else (gR h x0 [12] 0).bind fun t5 =>
    (gR h x0 [12] 1).bind fun t6 =>
    bd (f_X12_copies t5 t6 h) fun u8 h7 =>
    (gR h7 x0 [12] 1).bind fun t9 =>
    (iS h7 t9 3 x5).bind fun h10 =>
    (gR h10 x0 [12] 1).bind fun t11 =>
    bd (f_X12_daysOn t11 x1 h10) fun u13 h12 =>
    (gR h12 x0 [12] 1).bind fun t14 =>
    (iA h12 t14 2).bind fun t15 =>
    (if x4 < t15 then
    (gR h12 x0 [12] 1).bind fun t16 =>
    (iA h12 t16 2).bind fun t17 =>
    f_X12_feed_b26 n x0 x1 x2 x5 t17 (x5 + 1) h12
    else f_X12_feed_b26 n x0 x1 x2 x3 x4 (x5 + 1) h12))) := rfl
theorem e_X12_leavesOf_b13 (n : Nat) (x0 : Option Nat) (x1 : Int32) (x2 : Int32) (h : AH) : f_X12_leavesOf_b13 (n + 1) x0 x1 x2 h =
    ((if 60 < x2 then
    some ((-4), h)
    else (gR h x0 [12] 1).bind fun t5 =>
    bd (f_X12_isHere t5 x1 h) fun r7 h6 =>
    (if r7 = 0 then
    some (x2, h6)
    else (gR h6 x0 [12] 1).bind fun t8 =>
    bd (f_X12_day t8 0 h6) fun u10 h9 =>
    f_X12_leavesOf_b13 n x0 x1 (x2 + 1) h9))) := rfl
theorem e_X12_firstLeaves_b8 (n : Nat) (x0 : Option Nat) (x1 : Int32) (x2 : Int32) (x3 : Int32) (h : AH) : f_X12_firstLeaves_b8 (n + 1) x0 x1 x2 x3 h =
    ((gR h x0 [12] 0).bind fun t1 =>
    (iA h t1 0).bind fun t2 =>
    (if t2 ≤ x3 then
    some (x1, h)
    else (gR h x0 [12] 0).bind fun t3 =>
    bd (f_X12_isHere t3 x3 h) fun r5 h4 =>
    (if r5 = 0 then
    f_X12_firstLeaves_b39 (f_X12_firstLeaves_b8 n) x0 x1 x2 x3 (-4) h4
    else bd (cv h4 x0 12 (f_X12_leavesOf x0 x3 h4)) fun r7 h6 =>
    f_X12_firstLeaves_b39 (f_X12_firstLeaves_b8 n) x0 x1 x2 x3 r7 h6))) := rfl
theorem e_X12_forged_b15 (n : Nat) (x0 : Option Nat) (x1 : Int32) (x3 : Int32) (h : AH) : f_X12_forged_b15 (n + 1) x0 x1 x3 h =
    ((gR h x0 [12] 16).bind fun t3 =>
    (iA h t3 x1).bind fun t4 =>
    (if t4 ≤ x3 then
    some ((-4), h)
    else bd (cv h x0 12 (f_X12_isGuest x0 x3 h)) fun r6 h5 =>
    (if r6 = 0 then
    some (x3, h5)
    else (gR h5 x0 [12] 17).bind fun t7 =>
    (iA h5 t7 ((100 * x1) + x3)).bind fun t8 =>
    (gR h5 x0 [12] 0).bind fun t9 =>
    bd (f_X12_of x3 3 h5) fun r11 h10 =>
    (iA h10 t9 r11).bind fun t12 =>
    (if t8 = t12 then
    f_X12_forged_b15 n x0 x1 (x3 + 1) h10
    else some (x3, h10))))) := rfl
theorem e_X12_readsNumber_b9 (n : Nat) (x0 : Option Nat) (x1 : Int32) (x2 : Int32) (x3 : Int32) (h : AH) : f_X12_readsNumber_b9 (n + 1) x0 x1 x2 x3 h =
    ((if x2 ≤ x3 then
    some (1, h)
    else bd (cv h x0 12 (f_X12_here x0 h)) fun r4 h3 =>
    bd (f_X12_isIn r4 48 57 h3) fun r6 h5 =>
    (if r6 = 0 then
    some (0, h5)
    else (gR h5 x0 [12] 8).bind fun t7 =>
    (gR h5 x0 [12] 8).bind fun t8 =>
    (iA h5 t8 x1).bind fun t9 =>
    bd (cv h5 x0 12 (f_X12_here x0 h5)) fun r11 h10 =>
    (iS h10 t7 x1 (((10 * t9) + r11) - 48)).bind fun h12 =>
    (gI h12 x0 [12] 5).bind fun t13 =>
    (pI h12 x0 [12] 5 (t13 + 1)).bind fun h14 =>
    f_X12_readsNumber_b9 n x0 x1 x2 (x3 + 1) h14))) := rfl
theorem e_X12_house_b93 (n : Nat) (x0 : Option Nat) (x3 : Int32) (x4 : Int32) (h : AH) : f_X12_house_b93 (n + 1) x0 x3 x4 h =
    ((if x4 = 0 then
    (gI h x0 [12] 5).bind fun t15 =>
    (gI h x0 [12] 7).bind fun t16 =>
    (if t16 ≤ t15 then
    f_X12_house_b161 x3 x4 h
    else (gI h x0 [12] 5).bind fun t17 =>
    bd (cv h x0 12 (f_X12_here x0 h)) fun r19 h18 =>
    bd (cv h18 x0 12 (f_X12_readsStatement x0 h18)) fun r21 h20 =>
    bd (cv h20 x0 12 (f_X12_isDone x0 r19 h20)) fun r23 h22 =>
    (if r23 = 0 then
    nm ((-2000) - t17) fun t24 =>
    (gR h22 x0 [12] 3).bind fun t25 =>
    (gR h22 x0 [12] 0).bind fun t26 =>
    bd (f_X12_copies t25 t26 h22) fun u28 h27 =>
    f_X12_house_b93 n x0 x3 t24 h27
    else f_X12_house_b93 n x0 x3 x4 h22))
    else f_X12_house_b161 x3 x4 h)) := rfl
theorem e_X12_house_b41 (n : Nat) (x0 : Option Nat) (x3 : Int32) (x4 : Int32) (h : AH) : f_X12_house_b41 (n + 1) x0 x3 x4 h =
    (bd (cv h x0 12 (f_X12_readsStatement x0 h)) fun r9 h8 =>
    (if r9 = 0 then
    (gI h8 x0 [12] 5).bind fun t31 =>
    nm ((-1000) - t31) fun t32 =>
    f_X12_house_b58 (f_X12_house_b41 n) x0 x3 t32 h8
    else f_X12_house_b58 (f_X12_house_b41 n) x0 x3 x4 h8)) := rfl
theorem e_X12_judge_b26 (n : Nat) (x0 : Option Nat) (x1 : Int32) (x3 : Int32) (h : AH) : f_X12_judge_b26 (n + 1) x0 x1 x3 h =
    ((gR h x0 [12] 16).bind fun t7 =>
    (iA h t7 x1).bind fun t8 =>
    (if t8 ≤ x3 then
    some ((-4), h)
    else (gR h x0 [12] 1).bind fun t9 =>
    bd (f_X12_weightIn t9 h) fun r11 h10 =>
    bd (cv h10 x0 12 (f_X12_isTold x0 x1 x3 r11 h10)) fun r13 h12 =>
    (if r13 = 0 then
    some (x3, h12)
    else (gR h12 x0 [12] 1).bind fun t14 =>
    bd (f_X12_day t14 0 h12) fun u16 h15 =>
    f_X12_judge_b26 n x0 x1 (x3 + 1) h15))) := rfl
theorem e_X12_ledger_b4 (n : Nat) (x0 : Option Nat) (x1 : Int32) (x2 : Int32) (h : AH) : f_X12_ledger_b4 (n + 1) x0 x1 x2 h =
    ((gR h x0 [12] 0).bind fun t1 =>
    (iA h t1 0).bind fun t2 =>
    (if t2 ≤ x2 then
    some (x1, h)
    else (gR h x0 [12] 0).bind fun t3 =>
    bd (f_X12_isHere t3 x2 h) fun r5 h4 =>
    (if r5 = 0 then
    f_X12_ledger_b51 (f_X12_ledger_b4 n) x0 x2 0 x1 h4
    else (gR h4 x0 [12] 0).bind fun t7 =>
    bd (f_X12_of x2 3 h4) fun r9 h8 =>
    (iA h8 t7 r9).bind fun t10 =>
    (gR h8 x0 [12] 0).bind fun t11 =>
    bd (f_X12_of x2 2 h8) fun r13 h12 =>
    (iA h12 t11 r13).bind fun t14 =>
    f_X12_ledger_b51 (f_X12_ledger_b4 n) x0 x2 (t10 - t14) x1 h12))) := rfl
theorem e_X12_lighterThan_b16 (n : Nat) (x0 : Option Nat) (x1 : Int32) (x2 : Int32) (x3 : Int32) (x4 : Int32) (h : AH) : f_X12_lighterThan_b16 (n + 1) x0 x1 x2 x3 x4 h =
    ((gR h x0 [12] 0).bind fun t5 =>
    (iA h t5 0).bind fun t6 =>
    (if t6 ≤ x4 then
    some (x2, h)
    else (gR h x0 [12] 0).bind fun t7 =>
    bd (f_X12_isHere t7 x4 h) fun r9 h8 =>
    (if r9 = 0 then
    f_X12_lighterThan_b80 (f_X12_lighterThan_b16 n) x0 x1 x3 x4 x2 h8
    else (gR h8 x0 [12] 0).bind fun t11 =>
    bd (f_X12_of x4 2 h8) fun r13 h12 =>
    (iA h12 t11 r13).bind fun t14 =>
    (if t14 < x3 then
    f_X12_lighterThan_b76 (f_X12_lighterThan_b16 n) x0 x1 x3 x4 x2 h12
    else (gR h12 x0 [12] 0).bind fun t15 =>
    bd (f_X12_of x4 2 h12) fun r17 h16 =>
    (iA h16 t15 r17).bind fun t18 =>
    (if t18 = x3 then
    (if x1 ≤ x4 then
    f_X12_lighterThan_b80 (f_X12_lighterThan_b16 n) x0 x1 x3 x4 x2 h16
    else f_X12_lighterThan_b76 (f_X12_lighterThan_b16 n) x0 x1 x3 x4 x2 h16)
    else f_X12_lighterThan_b80 (f_X12_lighterThan_b16 n) x0 x1 x3 x4 x2 h16))))) := rfl
theorem e_X12_loan_b50 (n : Nat) (x0 : Option Nat) (x1 : Int32) (x2 : Int32) (x3 : Int32) (h : AH) : f_X12_loan_b50 (n + 1) x0 x1 x2 x3 h =
    ((if 20 < x3 then
    some ((-4), h)
    else (gR h x0 [12] 0).bind fun t11 =>
    (gR h x0 [12] 1).bind fun t12 =>
    bd (f_X12_copies t11 t12 h) fun u14 h13 =>
    (gR h13 x0 [12] 1).bind fun t15 =>
    bd (f_X12_canLend t15 x1 x2 x3 h13) fun r17 h16 =>
    (if r17 = 0 then
    f_X12_loan_b50 n x0 x1 x2 (x3 + 1) h16
    else (gR h16 x0 [12] 1).bind fun t18 =>
    bd (f_X12_lendsIn t18 x1 x2 x3 h16) fun u20 h19 =>
    bd (cv h19 x0 12 (f_X12_hasLeftNext x0 x1 h19)) fun r22 h21 =>
    (if r22 = 0 then
    f_X12_loan_b50 n x0 x1 x2 (x3 + 1) h21
    else some (x3, h21))))) := rfl
theorem e_X12_matches_b98 (n : Nat) (x0 : Option Nat) (x2 : Int32) (h : AH) : f_X12_matches_b98 (n + 1) x0 x2 h =
    ((if 128 ≤ x2 then
    some ((), h)
    else (gR h x0 [12] 10).bind fun t6 =>
    (if x2 = 0 then
    (iS h t6 x2 0).bind fun h10 =>
    f_X12_matches_b98 n x0 (x2 + 1) h10
    else bd (cv h x0 12 (f_X12_bestOf x0 x2 h)) fun r8 h7 =>
    (iS h7 t6 x2 r8).bind fun h9 =>
    f_X12_matches_b98 n x0 (x2 + 1) h9))) := rfl
theorem e_X12_matches_b22 (k10 : Option Nat → Int32 → Int32 → AH → Option (Unit × AH)) (n : Nat) (x0 : Option Nat) (x1 : Int32) (x2 : Int32) (x3 : Int32) (h : AH) : f_X12_matches_b22 k10 (n + 1) x0 x1 x2 x3 h =
    ((gR h x0 [12] 0).bind fun t11 =>
    (iA h t11 0).bind fun t12 =>
    (if t12 ≤ x3 then
    k10 x0 x1 (x2 + 1) h
    else (gR h x0 [12] 9).bind fun t13 =>
    bd (f_X12_has x1 x2 h) fun r15 h14 =>
    (if r15 = 0 then
    f_X12_matches_b58 k10 (f_X12_matches_b22 k10 n) x0 x1 x2 x3 ((7 * x2) + x3) t13 h14
    else bd (f_X12_has x1 x3 h14) fun r18 h17 =>
    (if r18 = 0 then
    f_X12_matches_b58 k10 (f_X12_matches_b22 k10 n) x0 x1 x2 x3 ((7 * x2) + x3) t13 h17
    else (if x2 = x3 then
    bd (cv h17 x0 12 (f_X12_leftBy x0 x2 x2 0 h17)) fun r23 h22 =>
    (iS h22 t13 ((7 * x2) + x3) r23).bind fun h24 =>
    f_X12_matches_b22 k10 n x0 x1 x2 (x3 + 1) h24
    else bd (cv h17 x0 12 (f_X12_pairOf x0 x2 x3 h17)) fun r20 h19 =>
    (iS h19 t13 ((7 * x2) + x3) r20).bind fun h21 =>
    f_X12_matches_b22 k10 n x0 x1 x2 (x3 + 1) h21))))) := rfl
theorem e_X12_matches_b10 (n : Nat) (x0 : Option Nat) (x1 : Int32) (x2 : Int32) (h : AH) : f_X12_matches_b10 (n + 1) x0 x1 x2 h =
    ((gR h x0 [12] 0).bind fun t4 =>
    (iA h t4 0).bind fun t5 =>
    (if t5 ≤ x2 then
    f_X12_matches_b98 FU x0 0 h
    else f_X12_matches_b22 (f_X12_matches_b10 n) FU x0 x1 x2 0 h)) := rfl
theorem e_X12_mean_b21 (n : Nat) (x0 : Option Nat) (x1 : Int32) (x2 : Int64) (x4 : Int32) (x5 : Int32) (h : AH) : f_X12_mean_b21 (n + 1) x0 x1 x2 x4 x5 h =
    ((gR h x0 [12] 0).bind fun t3 =>
    (iA h t3 0).bind fun t4 =>
    (if t4 ≤ x5 then
    bd (f_X12_partOf x2 (Int32.toInt64 x4) x1 h) fun r6 h5 =>
    some (r6, h5)
    else (gR h x0 [12] 0).bind fun t7 =>
    bd (f_X12_isHere t7 x5 h) fun r9 h8 =>
    (if r9 = 0 then
    (gR h8 x0 [12] 0).bind fun t10 =>
    bd (f_X12_of x5 3 h8) fun r12 h11 =>
    (iA h11 t10 r12).bind fun t13 =>
    (gR h11 x0 [12] 0).bind fun t14 =>
    bd (f_X12_of x5 2 h11) fun r16 h15 =>
    (iA h15 t14 r16).bind fun t17 =>
    nm (x2 + (Int32.toInt64 (t13 - t17))) fun t18 =>
    f_X12_mean_b21 n x0 x1 t18 (x4 + 1) (x5 + 1) h15
    else f_X12_mean_b21 n x0 x1 x2 x4 (x5 + 1) h8))) := rfl
theorem e_X12_order_b12 (n : Nat) (x0 : Option Nat) (x1 : Int32) (x2 : Int32) (x3 : Int32) (h : AH) : f_X12_order_b12 (n + 1) x0 x1 x2 x3 h =
    ((gR h x0 [12] 0).bind fun t1 =>
    (iA h t1 0).bind fun t2 =>
    (if t2 ≤ x3 then
    some (x2, h)
    else (gR h x0 [12] 0).bind fun t3 =>
    bd (f_X12_isHere t3 x3 h) fun r5 h4 =>
    (if r5 = 0 then
    f_X12_order_b12 n x0 x1 x2 (x3 + 1) h4
    else (if x1 < 0 then
    (if x2 < 0 then
    f_X12_order_b79 (f_X12_order_b12 n) x0 x1 x3 h4
    else (gR h4 x0 [12] 0).bind fun t6 =>
    bd (f_X12_of x3 2 h4) fun r8 h7 =>
    (iA h7 t6 r8).bind fun t9 =>
    (gR h7 x0 [12] 0).bind fun t10 =>
    bd (f_X12_of x2 2 h7) fun r12 h11 =>
    (iA h11 t10 r12).bind fun t13 =>
    (if t9 ≤ t13 then
    f_X12_order_b12 n x0 x1 x2 (x3 + 1) h11
    else f_X12_order_b79 (f_X12_order_b12 n) x0 x1 x3 h11))
    else bd (cv h4 x0 12 (f_X12_lighterThan x0 x3 h4)) fun r15 h14 =>
    (if r15 = x1 then
    f_X12_order_b79 (f_X12_order_b12 n) x0 x1 x3 h14
    else f_X12_order_b12 n x0 x1 x2 (x3 + 1) h14))))) := rfl
theorem e_X12_partnerOf_b9 (n : Nat) (x0 : Option Nat) (x1 : Int32) (x2 : Int32) (x3 : Int32) (h : AH) : f_X12_partnerOf_b9 (n + 1) x0 x1 x2 x3 h =
    ((gR h x0 [12] 0).bind fun t4 =>
    (iA h t4 0).bind fun t5 =>
    (if t5 ≤ x3 then
    some ((-4), h)
    else bd (f_X12_has x1 x3 h) fun r7 h6 =>
    (if r7 = 0 then
    f_X12_partnerOf_b42 (f_X12_partnerOf_b9 n) x0 x1 x2 x3 (-1) h6
    else (gR h6 x0 [12] 9).bind fun t12 =>
    (iA h6 t12 ((7 * x2) + x3)).bind fun t13 =>
    f_X12_partnerOf_b42 (f_X12_partnerOf_b9 n) x0 x1 x2 x3 t13 h6))) := rfl
theorem e_X12_pairs_b38 (n : Nat) (x0 : Option Nat) (x1 : Int32) (x2 : Int32) (h : AH) : f_X12_pairs_b38 (n + 1) x0 x1 x2 h =
    ((if x2 = 0 then
    some ((-4), h)
    else bd (f_X12_leastIn x2 h) fun r7 h6 =>
    bd (cv h6 x0 12 (f_X12_partnerOf x0 x2 h6)) fun r9 h8 =>
    (if r7 = x1 then
    some (r9, h8)
    else (if r9 = x1 then
    some (r7, h8)
    else (if 0 ≤ r9 then
    nm (x2 &&& ((((1 : Int32) <<< (r7 &&& 31)) ||| ((1 : Int32) <<< (r9 &&& 31))) ^^^ (-1))) fun t10 =>
    f_X12_pairs_b38 n x0 x1 t10 h8
    else nm (x2 &&& (((1 : Int32) <<< (r7 &&& 31)) ^^^ (-1))) fun t11 =>
    f_X12_pairs_b38 n x0 x1 t11 h8))))) := rfl
theorem e_X12_row_b55 (n : Nat) (x0 : Option Nat) (x1 : Int32) (x4 : Int32) (h : AH) : f_X12_row_b55 (n + 1) x0 x1 x4 h =
    ((if 100 ≤ x4 then
    some (0, h)
    else (gR h x0 [12] 17).bind fun t11 =>
    (iS h t11 ((100 * x1) + x4) 0).bind fun h12 =>
    f_X12_row_b55 n x0 x1 (x4 + 1) h12)) := rfl
theorem e_X12_sameOnes_b18 (k4 : Option Nat → Int32 → Int32 → AH → Option (Int32 × AH)) (n : Nat) (x0 : Option Nat) (x1 : Int32) (x2 : Int32) (x3 : Int32) (h : AH) : f_X12_sameOnes_b18 k4 (n + 1) x0 x1 x2 x3 h =
    ((gR h x0 [12] 0).bind fun t4 =>
    (iA h t4 0).bind fun t5 =>
    (if t5 ≤ x3 then
    k4 x0 x1 (x2 + 1) h
    else (gR h x0 [12] 0).bind fun t6 =>
    bd (f_X12_isHere t6 x2 h) fun r8 h7 =>
    (if r8 = 0 then
    f_X12_sameOnes_b78 k4 (f_X12_sameOnes_b18 k4 n) x0 x2 x3 x1 h7
    else (gR h7 x0 [12] 0).bind fun t10 =>
    bd (f_X12_isHere t10 x3 h7) fun r12 h11 =>
    (if r12 = 0 then
    f_X12_sameOnes_b78 k4 (f_X12_sameOnes_b18 k4 n) x0 x2 x3 x1 h11
    else (gR h11 x0 [12] 0).bind fun t13 =>
    bd (f_X12_of x2 2 h11) fun r15 h14 =>
    (iA h14 t13 r15).bind fun t16 =>
    (gR h14 x0 [12] 0).bind fun t17 =>
    bd (f_X12_of x3 2 h14) fun r19 h18 =>
    (iA h18 t17 r19).bind fun t20 =>
    (if t16 = t20 then
    f_X12_sameOnes_b79 k4 (f_X12_sameOnes_b18 k4 n) x0 x2 x3 1 x1 h18
    else f_X12_sameOnes_b78 k4 (f_X12_sameOnes_b18 k4 n) x0 x2 x3 x1 h18))))) := rfl
theorem e_X12_sameOnes_b4 (n : Nat) (x0 : Option Nat) (x1 : Int32) (x2 : Int32) (h : AH) : f_X12_sameOnes_b4 (n + 1) x0 x1 x2 h =
    ((gR h x0 [12] 0).bind fun t1 =>
    (iA h t1 0).bind fun t2 =>
    (if t2 ≤ x2 then
    some (x1, h)
    else nm (x2 + 1) fun t3 =>
    f_X12_sameOnes_b18 (f_X12_sameOnes_b4 n) FU x0 x1 x2 t3 h)) := rfl
theorem e_X12_seasons_b52 (k32 : Option Nat → Int32 → Int32 → Int32 → Int32 → AH → Option (Int32 × AH)) (n : Nat) (x0 : Option Nat) (x1 : Int32) (x3 : Int32) (x4 : Int32) (x5 : Int32) (x6 : Int32) (h : AH) : f_X12_seasons_b52 k32 (n + 1) x0 x1 x3 x4 x5 x6 h =
    ((gR h x0 [12] 0).bind fun t10 =>
    (iA h t10 0).bind fun t11 =>
    (if t11 ≤ x6 then
    (gR h x0 [12] 1).bind fun t12 =>
    bd (f_X12_daysOn t12 9 h) fun u14 h13 =>
    (if x3 = 0 then
    (gR h13 x0 [12] 1).bind fun t21 =>
    (iA h13 t21 2).bind fun t22 =>
    (gR h13 x0 [12] 0).bind fun t23 =>
    (iA h13 t23 2).bind fun t24 =>
    f_X12_seasons_b139 k32 x0 x1 x3 x5 (t22 - t24) x4 h13
    else (gR h13 x0 [12] 1).bind fun t15 =>
    bd (f_X12_hereIn t15 h13) fun r17 h16 =>
    bd (f_X12_bits r17 h16) fun r19 h18 =>
    f_X12_seasons_b139 k32 x0 x1 x3 x5 r19 x4 h18)
    else (gR h x0 [12] 0).bind fun t25 =>
    bd (f_X12_isHere t25 x6 h) fun r27 h26 =>
    (if r27 = 0 then
    f_X12_seasons_b52 k32 n x0 x1 x3 x4 x5 (x6 + 1) h26
    else (gR h26 x0 [12] 1).bind fun t28 =>
    bd (f_X12_of x6 2 h26) fun r30 h29 =>
    bd (cv h29 x0 12 (f_X12_drawn x0 100 h29)) fun r32 h31 =>
    (iS h31 t28 r30 r32).bind fun h33 =>
    f_X12_seasons_b52 k32 n x0 x1 x3 x4 x5 (x6 + 1) h33))) := rfl
theorem e_X12_seasons_b32 (n : Nat) (x0 : Option Nat) (x1 : Int32) (x3 : Int32) (x4 : Int32) (x5 : Int32) (h : AH) : f_X12_seasons_b32 (n + 1) x0 x1 x3 x4 x5 h =
    ((if x1 ≤ x5 then
    some (x4, h)
    else (gR h x0 [12] 0).bind fun t6 =>
    (gR h x0 [12] 1).bind fun t7 =>
    bd (f_X12_copies t6 t7 h) fun u9 h8 =>
    f_X12_seasons_b52 (f_X12_seasons_b32 n) FU x0 x1 x3 x4 x5 0 h8)) := rfl
theorem e_X12_tears_b33 (n : Nat) (x0 : Option Nat) (x1 : Int32) (x2 : Int32) (x3 : Int32) (x4 : Int32) (h : AH) : f_X12_tears_b33 (n + 1) x0 x1 x2 x3 x4 h =
    ((gR h x0 [12] 0).bind fun t5 =>
    (iA h t5 0).bind fun t6 =>
    (if t6 ≤ x4 then
    (if x1 = 3 then
    some (x3, h)
    else some (x2, h))
    else (gR h x0 [12] 0).bind fun t7 =>
    bd (f_X12_isHere t7 x4 h) fun r9 h8 =>
    (if r9 = 0 then
    f_X12_tears_b33 n x0 x1 x2 x3 (x4 + 1) h8
    else (gR h8 x0 [12] 0).bind fun t10 =>
    bd (f_X12_of x4 4 h8) fun r12 h11 =>
    (iA h11 t10 r12).bind fun t13 =>
    nm (x3 + t13) fun t14 =>
    (if x1 = 0 then
    (gR h11 x0 [12] 0).bind fun t19 =>
    bd (f_X12_of x4 4 h11) fun r21 h20 =>
    (iA h20 t19 r21).bind fun t22 =>
    (if t22 = 0 then
    f_X12_tears_b107 (f_X12_tears_b33 n) x0 x1 t14 x4 x2 h20
    else f_X12_tears_b114 (f_X12_tears_b33 n) x0 x1 t14 x4 x2 h20)
    else (gR h11 x0 [12] 1).bind fun t15 =>
    bd (f_X12_isHere t15 x4 h11) fun r17 h16 =>
    (if r17 = 0 then
    f_X12_tears_b107 (f_X12_tears_b33 n) x0 x1 t14 x4 x2 h16
    else f_X12_tears_b114 (f_X12_tears_b33 n) x0 x1 t14 x4 x2 h16))))) := rfl
theorem e_X12_tell_b53 (k26 : Option Nat → Int32 → Int32 → AH → Option (Int32 × AH)) (n : Nat) (x0 : Option Nat) (x1 : Int32) (x2 : Int32) (x3 : Int32) (h : AH) : f_X12_tell_b53 k26 (n + 1) x0 x1 x2 x3 h =
    ((if x2 ≤ x3 then
    bd (cv h x0 12 (f_X12_hasLeftNext x0 x1 h)) fun r15 h14 =>
    (if r15 = 0 then
    k26 x0 x1 (x2 + 1) h14
    else some (x2, h14))
    else (gR h x0 [12] 1).bind fun t16 =>
    bd (f_X12_tellsIn t16 x1 h) fun u18 h17 =>
    f_X12_tell_b53 k26 n x0 x1 x2 (x3 + 1) h17)) := rfl
theorem e_X12_tell_b26 (n : Nat) (x0 : Option Nat) (x1 : Int32) (x2 : Int32) (h : AH) : f_X12_tell_b26 (n + 1) x0 x1 x2 h =
    ((gR h x0 [12] 0).bind fun t6 =>
    bd (f_X12_of x1 4 h) fun r8 h7 =>
    (iA h7 t6 r8).bind fun t9 =>
    (if t9 < x2 then
    some ((-4), h7)
    else (gR h7 x0 [12] 0).bind fun t10 =>
    (gR h7 x0 [12] 1).bind fun t11 =>
    bd (f_X12_copies t10 t11 h7) fun u13 h12 =>
    f_X12_tell_b53 (f_X12_tell_b26 n) FU x0 x1 x2 0 h12)) := rfl
theorem e_X12_two_b61 (n : Nat) (x0 : Option Nat) (x1 : Int32) (x2 : Int32) (x3 : Int32) (x4 : Int32) (h : AH) : f_X12_two_b61 (n + 1) x0 x1 x2 x3 x4 h =
    ((if 4 ≤ x4 then
    some ((-4), h)
    else nm (x4 / 2) fun t13 =>
    nm (x4 - x4 / 2 * 2) fun t14 =>
    bd (cv h x0 12 (f_X12_hasBy x0 x1 x1 (1 - t13) x2 t14 x3 h)) fun r16 h15 =>
    bd (cv h15 x0 12 (f_X12_hasBy x0 x1 x1 t13 x2 t14 x3 h15)) fun r18 h17 =>
    (if r18 < r16 then
    f_X12_two_b61 n x0 x1 x2 x3 (x4 + 1) h17
    else bd (cv h17 x0 12 (f_X12_hasBy x0 x2 x1 t13 x2 (1 - t14) x3 h17)) fun r20 h19 =>
    bd (cv h19 x0 12 (f_X12_hasBy x0 x2 x1 t13 x2 t14 x3 h19)) fun r22 h21 =>
    (if r22 < r20 then
    f_X12_two_b61 n x0 x1 x2 x3 (x4 + 1) h21
    else some (((10 * t13) + t14), h21))))) := rfl
theorem e_X12_waits_b27 (n : Nat) (x0 : Option Nat) (x1 : Int32) (x2 : Int32) (x3 : Int32) (x4 : Int32) (h : AH) : f_X12_waits_b27 (n + 1) x0 x1 x2 x3 x4 h =
    ((gR h x0 [12] 0).bind fun t7 =>
    (iA h t7 0).bind fun t8 =>
    (if t8 ≤ x4 then
    some (x3, h)
    else (gR h x0 [12] 0).bind fun t9 =>
    bd (f_X12_isHere t9 x4 h) fun r11 h10 =>
    (if r11 = 0 then
    f_X12_waits_b27 n x0 x1 x2 x3 (x4 + 1) h10
    else (gR h10 x0 [12] 0).bind fun t12 =>
    (gR h10 x0 [12] 1).bind fun t13 =>
    bd (f_X12_copies t12 t13 h10) fun u15 h14 =>
    (gR h14 x0 [12] 1).bind fun t16 =>
    bd (f_X12_of x4 5 h14) fun r18 h17 =>
    (iA h17 t16 r18).bind fun t19 =>
    (iS h17 t16 r18 (t19 + 5)).bind fun h20 =>
    (gR h20 x0 [12] 1).bind fun t21 =>
    bd (f_X12_daysOn t21 x1 h20) fun u23 h22 =>
    (gR h22 x0 [12] 1).bind fun t24 =>
    (iA h22 t24 2).bind fun t25 =>
    (if x2 < t25 then
    (gR h22 x0 [12] 1).bind fun t26 =>
    (iA h22 t26 2).bind fun t27 =>
    f_X12_waits_b27 n x0 x1 t27 x4 (x4 + 1) h22
    else f_X12_waits_b27 n x0 x1 x2 x3 (x4 + 1) h22)))) := rfl
theorem e_X12_whatIs_b86 (k41 : Option Nat → Int32 → Int32 → Int32 → Int32 → Int32 → AH → Option (Int32 × AH)) (n : Nat) (x0 : Option Nat) (x1 : Int32) (x2 : Int32) (x3 : Int32) (x5 : Int32) (x6 : Int32) (x7 : Int32) (x8 : Int32) (h : AH) : f_X12_whatIs_b86 k41 (n + 1) x0 x1 x2 x3 x5 x6 x7 x8 h =
    ((gR h x0 [12] 16).bind fun t15 =>
    (iA h t15 x1).bind fun t16 =>
    (if t16 ≤ x8 then
    (if x7 = 0 then
    f_X12_whatIs_b148 k41 x0 x1 x2 x3 x6 0 x5 h
    else f_X12_whatIs_b148 k41 x0 x1 x2 x3 x6 ((1 : Int32) <<< (x6 &&& 31)) x5 h)
    else (gR h x0 [12] 1).bind fun t18 =>
    bd (f_X12_of x2 2 h) fun r20 h19 =>
    (iA h19 t18 r20).bind fun t21 =>
    bd (cv h19 x0 12 (f_X12_isTold x0 x1 x8 t21 h19)) fun r23 h22 =>
    nm (x7 &&& r23) fun t24 =>
    (gR h22 x0 [12] 1).bind fun t25 =>
    bd (f_X12_day t25 0 h22) fun u27 h26 =>
    f_X12_whatIs_b86 k41 n x0 x1 x2 x3 x5 x6 t24 (x8 + 1) h26)) := rfl
theorem e_X12_whatIs_b41 (n : Nat) (x0 : Option Nat) (x1 : Int32) (x2 : Int32) (x3 : Int32) (x5 : Int32) (x6 : Int32) (h : AH) : f_X12_whatIs_b41 (n + 1) x0 x1 x2 x3 x5 x6 h =
    ((if x3 = 0 then
    f_X12_whatIs_b54 (f_X12_whatIs_b41 n) x0 x1 x2 x3 x5 x6 8 x6 h
    else f_X12_whatIs_b54 (f_X12_whatIs_b41 n) x0 x1 x2 x3 x5 x6 10 x6 h)) := rfl
