abbrev p_J6_bitCount_0f7a4 (X : GX) (h0 : AH) : PX Int32 := (X, rI, (0, 0, 1), h0)
def f_J6_bitCount_0f7a4 (v0 : Int32) (h : AH) : Option (Int32 × AH) :=
    nm (v0 - (((Int32.toUInt32 v0 >>> (Int32.toUInt32 1 &&& Int32.toUInt32 31)).toInt32) &&& 1431655765)) fun t1 =>
    nm ((t1 &&& 858993459) + (((Int32.toUInt32 t1 >>> (Int32.toUInt32 2 &&& Int32.toUInt32 31)).toInt32) &&& 858993459)) fun t2 =>
    nm ((t2 + ((Int32.toUInt32 t2 >>> (Int32.toUInt32 4 &&& Int32.toUInt32 31)).toInt32)) &&& 252645135) fun t3 =>
    nm (t3 + ((Int32.toUInt32 t3 >>> (Int32.toUInt32 8 &&& Int32.toUInt32 31)).toInt32)) fun t4 =>
    nm (t4 + ((Int32.toUInt32 t4 >>> (Int32.toUInt32 16 &&& Int32.toUInt32 31)).toInt32)) fun t5 =>
    some ((t5 &&& 63), h)
set_option maxRecDepth 100000 in
set_option maxHeartbeats 4000000 in
theorem s_J6_bitCount_0f7a4 {X : GX} (hX : XOK X) (v0 : Int32) (h : AH) : Snd X yJ6_bitCount_0f7a4 cJ6_bitCount_0f7a4 1 (some .int) 0 0 rI [vI v0] h (f_J6_bitCount_0f7a4 v0 h) := by
  refine snd_of hX (by decide +kernel) (Nat.le_of_ble_eq_true rfl) ?_
  show Gp (p_J6_bitCount_0f7a4 X h) RJ6 "bitCount" cJ6_bitCount_0f7a4 (some .int) 0 [(0, vI v0)] [] h _
  unfold f_J6_bitCount_0f7a4
  refine g_iload_n 0 dJ6_bitCount_0f7a4_0 rfl rfl ?_
  refine g_iload_n 0 dJ6_bitCount_0f7a4_1 rfl rfl ?_
  refine g_iconst (v := 1) dJ6_bitCount_0f7a4_2 (by decide) ?_
  refine g_iushr dJ6_bitCount_0f7a4_3 ?_
  refine g_ldcw kco_J6_265 dJ6_bitCount_0f7a4_4 ?_
  refine g_iand dJ6_bitCount_0f7a4_7 ?_
  refine g_isub dJ6_bitCount_0f7a4_8 ?_
  refine g_nmI (fun t1 => ?_)
  refine g_istore_n (ls' := [(0, vI t1)]) dJ6_bitCount_0f7a4_9 rfl (Nat.le_of_ble_eq_true rfl) rfl ?_
  refine g_iload_n 0 dJ6_bitCount_0f7a4_10 rfl rfl ?_
  refine g_ldcw kco_J6_266 dJ6_bitCount_0f7a4_11 ?_
  refine g_iand dJ6_bitCount_0f7a4_14 ?_
  refine g_iload_n 0 dJ6_bitCount_0f7a4_15 rfl rfl ?_
  refine g_iconst (v := 2) dJ6_bitCount_0f7a4_16 (by decide) ?_
  refine g_iushr dJ6_bitCount_0f7a4_17 ?_
  refine g_ldcw kco_J6_266 dJ6_bitCount_0f7a4_18 ?_
  refine g_iand dJ6_bitCount_0f7a4_21 ?_
  refine g_iadd dJ6_bitCount_0f7a4_22 ?_
  refine g_nmI (fun t2 => ?_)
  refine g_istore_n (ls' := [(0, vI t2)]) dJ6_bitCount_0f7a4_23 rfl (Nat.le_of_ble_eq_true rfl) rfl ?_
  refine g_iload_n 0 dJ6_bitCount_0f7a4_24 rfl rfl ?_
  refine g_iload_n 0 dJ6_bitCount_0f7a4_25 rfl rfl ?_
  refine g_iconst (v := 4) dJ6_bitCount_0f7a4_26 (by decide) ?_
  refine g_iushr dJ6_bitCount_0f7a4_27 ?_
  refine g_iadd dJ6_bitCount_0f7a4_28 ?_
  refine g_ldcw kco_J6_267 dJ6_bitCount_0f7a4_29 ?_
  refine g_iand dJ6_bitCount_0f7a4_32 ?_
  refine g_nmI (fun t3 => ?_)
  refine g_istore_n (ls' := [(0, vI t3)]) dJ6_bitCount_0f7a4_33 rfl (Nat.le_of_ble_eq_true rfl) rfl ?_
  refine g_iload_n 0 dJ6_bitCount_0f7a4_34 rfl rfl ?_
  refine g_iload_n 0 dJ6_bitCount_0f7a4_35 rfl rfl ?_
  refine g_bipush (v := 8) dJ6_bitCount_0f7a4_36 (by decide) ?_
  refine g_iushr dJ6_bitCount_0f7a4_38 ?_
  refine g_iadd dJ6_bitCount_0f7a4_39 ?_
  refine g_nmI (fun t4 => ?_)
  refine g_istore_n (ls' := [(0, vI t4)]) dJ6_bitCount_0f7a4_40 rfl (Nat.le_of_ble_eq_true rfl) rfl ?_
  refine g_iload_n 0 dJ6_bitCount_0f7a4_41 rfl rfl ?_
  refine g_iload_n 0 dJ6_bitCount_0f7a4_42 rfl rfl ?_
  refine g_bipush (v := 16) dJ6_bitCount_0f7a4_43 (by decide) ?_
  refine g_iushr dJ6_bitCount_0f7a4_45 ?_
  refine g_iadd dJ6_bitCount_0f7a4_46 ?_
  refine g_nmI (fun t5 => ?_)
  refine g_istore_n (ls' := [(0, vI t5)]) dJ6_bitCount_0f7a4_47 rfl (Nat.le_of_ble_eq_true rfl) rfl ?_
  refine g_iload_n 0 dJ6_bitCount_0f7a4_48 rfl rfl ?_
  refine g_bipush (v := 63) dJ6_bitCount_0f7a4_49 (by decide) ?_
  refine g_iand dJ6_bitCount_0f7a4_51 ?_
  exact g_ireturn rfl dJ6_bitCount_0f7a4_52
abbrev p_X0_danced (X : GX) (h0 : AH) : PX Int32 := (X, rI, (0, 0, 2), h0)
def f_X0_danced (v0 : Option Nat) (v1 : Int32) (h : AH) : Option (Int32 × AH) :=
    some (1, h)
set_option maxRecDepth 100000 in
set_option maxHeartbeats 4000000 in
theorem s_X0_danced {X : GX} (hX : XOK X) (v0 : Option Nat) (v1 : Int32) (h : AH) : Snd X yX0_danced cX0_danced 2 (some .int) 0 0 rI [vR v0, vI v1] h (f_X0_danced v0 v1 h) := by
  refine snd_of hX (by decide +kernel) (Nat.le_of_ble_eq_true rfl) ?_
  show Gp (p_X0_danced X h) RX0 "danced" cX0_danced (some .int) 0 [(0, vR v0), (1, vI v1)] [] h _
  unfold f_X0_danced
  refine g_iconst (v := 1) dX0_danced_0 (by decide) ?_
  exact g_ireturn rfl dX0_danced_1
abbrev p_X0_food (X : GX) (h0 : AH) : PX Int32 := (X, rI, (0, 0, 2), h0)
def f_X0_food (v0 : Option Nat) (v1 : Int32) (h : AH) : Option (Int32 × AH) :=
    some ((v1 / 2), h)
set_option maxRecDepth 100000 in
set_option maxHeartbeats 4000000 in
theorem s_X0_food {X : GX} (hX : XOK X) (v0 : Option Nat) (v1 : Int32) (h : AH) : Snd X yX0_food cX0_food 2 (some .int) 0 0 rI [vR v0, vI v1] h (f_X0_food v0 v1 h) := by
  refine snd_of hX (by decide +kernel) (Nat.le_of_ble_eq_true rfl) ?_
  show Gp (p_X0_food X h) RX0 "food" cX0_food (some .int) 0 [(0, vR v0), (1, vI v1)] [] h _
  unfold f_X0_food
  refine g_iload_n 1 dX0_food_0 rfl rfl ?_
  refine g_iconst (v := 2) dX0_food_1 (by decide) ?_
  refine g_idivK dX0_food_2 (by decide) ?_
  exact g_ireturn rfl dX0_food_3
abbrev p_X4_init (X : GX) (h0 : AH) : PX Unit := (X, rU, (1, 20, 3), h0)
def f_X4_init (v0 : Option Nat) (v1 : Int32) (v2 : Int32) (h : AH) : Option (Unit × AH) :=
    (if v0 = none then none else (pI h v0 GF 0 v1).bind fun h3 =>
    (pI h3 v0 GF 1 v2).bind fun h4 =>
    some ((), h4))
set_option maxRecDepth 100000 in
set_option maxHeartbeats 4000000 in
theorem s_X4_init {X : GX} (hX : XOK X) (v0 : Option Nat) (v1 : Int32) (v2 : Int32) (h : AH) : Snd X yX4_init cX4_init 3 none 1 20 rU [vR v0, vI v1, vI v2] h (f_X4_init v0 v1 v2 h) := by
  refine snd_of hX (by decide +kernel) (Nat.le_of_ble_eq_true rfl) ?_
  show Gp (p_X4_init X h) RX4 "<init>" cX4_init none 0 [(0, vR v0), (1, vI v1), (2, vI v2)] [] h _
  unfold f_X4_init
  refine g_aload_n 0 dX4_init_0 rfl rfl ?_
  refine g_objInit kml_X4_1 kio kco ⟨Nat.le_of_ble_eq_true rfl, Nat.le_of_ble_eq_true rfl⟩ (Nat.le_of_ble_eq_true rfl) dX4_init_1 ?_
  refine g_aload_n 0 dX4_init_4 rfl rfl ?_
  refine g_iload_n 1 dX4_init_5 rfl rfl ?_
  refine g_putIF kfl_X4_7 fo_X4_kind fw_X4_0 pd_I nI'.1 nI'.2 dX4_init_6 (fun h3 => ?_)
  refine g_aload_n 0 dX4_init_9 rfl rfl ?_
  refine g_iload_n 2 dX4_init_10 rfl rfl ?_
  refine g_putIF kfl_X4_13 fo_X4_figure fw_X4_1 pd_I nI'.1 nI'.2 dX4_init_11 (fun h4 => ?_)
  exact g_return rfl dX4_init_14
abbrev p_X0_init (X : GX) (h0 : AH) : PX Unit := (X, rU, (2, 42, 3), h0)
def f_X0_init (v0 : Option Nat) (v1 : Int32) (v2 : Int32) (h : AH) : Option (Unit × AH) :=
    bd (nn v0 (f_X4_init v0 v1 v2 h)) fun u2 h1 =>
    some ((), h1)
set_option maxRecDepth 100000 in
set_option maxHeartbeats 4000000 in
theorem s_X0_init {X : GX} (hX : XOK X) (v0 : Option Nat) (v1 : Int32) (v2 : Int32) (h : AH) : Snd X yX0_init cX0_init 3 none 2 42 rU [vR v0, vI v1, vI v2] h (f_X0_init v0 v1 v2 h) := by
  refine snd_of hX (by decide +kernel) (Nat.le_of_ble_eq_true rfl) ?_
  show Gp (p_X0_init X h) RX0 "<init>" cX0_init none 0 [(0, vR v0), (1, vI v1), (2, vI v2)] [] h _
  unfold f_X0_init
  refine g_aload_n 0 dX0_init_0 rfl rfl ?_
  refine g_iload_n 1 dX0_init_1 rfl rfl ?_
  refine g_iload_n 2 dX0_init_2 rfl rfl ?_
  refine g_callI2 (st := []) (s_X4_init hX v0 v1 v2 h) kml_X0_1 kim_X4_init kii_X4 kcd_X4_init rfl ds_X4_init rfl ⟨Nat.le_of_ble_eq_true rfl, Nat.le_of_ble_eq_true rfl⟩ (Nat.le_of_ble_eq_true rfl) rfl dX0_init_3 (fun u2 h1 => ?_)
  exact g_return rfl dX0_init_6
abbrev p_X0_lighterBySecret (X : GX) (h0 : AH) : PX Int32 := (X, rI, (0, 0, 1), h0)
def f_X0_lighterBySecret (v0 : Option Nat) (h : AH) : Option (Int32 × AH) :=
    (gI h v0 GF 1).bind fun t1 =>
    some ((t1 / 2), h)
set_option maxRecDepth 100000 in
set_option maxHeartbeats 4000000 in
theorem s_X0_lighterBySecret {X : GX} (hX : XOK X) (v0 : Option Nat) (h : AH) : Snd X yX0_lighterBySecret cX0_lighterBySecret 1 (some .int) 0 0 rI [vR v0] h (f_X0_lighterBySecret v0 h) := by
  refine snd_of hX (by decide +kernel) (Nat.le_of_ble_eq_true rfl) ?_
  show Gp (p_X0_lighterBySecret X h) RX0 "lighterBySecret" cX0_lighterBySecret (some .int) 0 [(0, vR v0)] [] h _
  unfold f_X0_lighterBySecret
  refine g_aload_n 0 dX0_lighterBySecret_0 rfl rfl ?_
  refine g_getI kfl_X0_7 fo_X0_figure dX0_lighterBySecret_1 (fun t1 => ?_)
  refine g_iconst (v := 2) dX0_lighterBySecret_4 (by decide) ?_
  refine g_idivK dX0_lighterBySecret_5 (by decide) ?_
  exact g_ireturn rfl dX0_lighterBySecret_6
abbrev p_X4_price (X : GX) (h0 : AH) : PX Int32 := (X, rI, (0, 0, 1), h0)
def f_X4_price (v0 : Option Nat) (h : AH) : Option (Int32 × AH) :=
    some (2, h)
set_option maxRecDepth 100000 in
set_option maxHeartbeats 4000000 in
theorem s_X4_price {X : GX} (hX : XOK X) (v0 : Option Nat) (h : AH) : Snd X yX4_price cX4_price 1 (some .int) 0 0 rI [vR v0] h (f_X4_price v0 h) := by
  refine snd_of hX (by decide +kernel) (Nat.le_of_ble_eq_true rfl) ?_
  show Gp (p_X4_price X h) RX4 "price" cX4_price (some .int) 0 [(0, vR v0)] [] h _
  unfold f_X4_price
  refine g_iconst (v := 2) dX4_price_0 (by decide) ?_
  exact g_ireturn rfl dX4_price_1
abbrev p_X0_price (X : GX) (h0 : AH) : PX Int32 := (X, rI, (1, 20, 1), h0)
def f_X0_price (v0 : Option Nat) (h : AH) : Option (Int32 × AH) :=
    bd (cu h GF v0 (f_X4_price v0 h)) fun r2 h1 =>
    (gI h1 v0 GF 1).bind fun t3 =>
    some ((r2 + t3), h1)
set_option maxRecDepth 100000 in
set_option maxHeartbeats 4000000 in
theorem s_X0_price {X : GX} (hX : XOK X) (v0 : Option Nat) (h : AH) : Snd X yX0_price cX0_price 1 (some .int) 1 20 rI [vR v0] h (f_X0_price v0 h) := by
  refine snd_of hX (by decide +kernel) (Nat.le_of_ble_eq_true rfl) ?_
  show Gp (p_X0_price X h) RX0 "price" cX0_price (some .int) 0 [(0, vR v0)] [] h _
  unfold f_X0_price
  refine g_aload_n 0 dX0_price_0 rfl rfl ?_
  refine g_callUI (st := []) gfCl (s_X4_price hX v0 h) kml_X0_13 ksm_X4_price ksp_X0_X4 kim_X4_price kii_X4 kcd_X4_price ⟨by decide +kernel, ds_X4_price.2.2⟩ rfl ⟨Nat.le_of_ble_eq_true rfl, Nat.le_of_ble_eq_true rfl⟩ (Nat.le_of_ble_eq_true rfl) rfl dX0_price_1 (fun r2 h1 => ?_)
  refine g_aload_n 0 dX0_price_4 rfl rfl ?_
  refine g_getI kfl_X0_7 fo_X0_figure dX0_price_5 (fun t3 => ?_)
  refine g_iadd dX0_price_8 ?_
  exact g_ireturn rfl dX0_price_9
abbrev p_X0_rings (X : GX) (h0 : AH) : PX Int32 := (X, rI, (0, 0, 1), h0)
def f_X0_rings (v0 : Option Nat) (h : AH) : Option (Int32 × AH) :=
    (gI h v0 GF 1).bind fun t1 =>
    some (t1, h)
set_option maxRecDepth 100000 in
set_option maxHeartbeats 4000000 in
theorem s_X0_rings {X : GX} (hX : XOK X) (v0 : Option Nat) (h : AH) : Snd X yX0_rings cX0_rings 1 (some .int) 0 0 rI [vR v0] h (f_X0_rings v0 h) := by
  refine snd_of hX (by decide +kernel) (Nat.le_of_ble_eq_true rfl) ?_
  show Gp (p_X0_rings X h) RX0 "rings" cX0_rings (some .int) 0 [(0, vR v0)] [] h _
  unfold f_X0_rings
  refine g_aload_n 0 dX0_rings_0 rfl rfl ?_
  refine g_getI kfl_X0_7 fo_X0_figure dX0_rings_1 (fun t1 => ?_)
  exact g_ireturn rfl dX0_rings_4
abbrev p_X7_hasPlace (X : GX) (h0 : AH) : PX Int32 := (X, rI, (0, 0, 2), h0)
def f_X7_hasPlace (v0 : Option Nat) (v1 : Int32) (h : AH) : Option (Int32 × AH) :=
    (if v1 < 0 then
    some (0, h)
    else (gR h v0 [7] 1).bind fun t1 =>
    (lenI h t1).bind fun t2 =>
    (if t2 ≤ v1 then
    some (0, h)
    else some (1, h)))
set_option maxRecDepth 100000 in
set_option maxHeartbeats 4000000 in
theorem s_X7_hasPlace {X : GX} (hX : XOK X) (v0 : Option Nat) (v1 : Int32) (h : AH) : Snd X yX7_hasPlace cX7_hasPlace 2 (some .boolean) 0 0 rI [vR v0, vI v1] h (f_X7_hasPlace v0 v1 h) := by
  refine snd_of hX (by decide +kernel) (Nat.le_of_ble_eq_true rfl) ?_
  show Gp (p_X7_hasPlace X h) RX7 "hasPlace" cX7_hasPlace (some .boolean) 0 [(0, vR v0), (1, vI v1)] [] h _
  unfold f_X7_hasPlace
  refine g_iload_n 1 dX7_hasPlace_0 rfl rfl ?_
  refine g_iflt (tgt := 17) dX7_hasPlace_1 (by decide) ?_ ?_
  · refine g_iconst (v := 0) dX7_hasPlace_17 (by decide) ?_
    exact g_zreturn (by decide +kernel) rfl dX7_hasPlace_18
  · refine g_iload_n 1 dX7_hasPlace_4 rfl rfl ?_
    refine g_aload_n 0 dX7_hasPlace_5 rfl rfl ?_
    refine g_getR kfl_X7_21 fo_X7_elements dX7_hasPlace_6 (fun t1 => ?_)
    refine g_alenI dX7_hasPlace_9 (fun t2 => ?_)
    refine g_icmpge (tgt := 17) dX7_hasPlace_10 (by decide) ?_ ?_
    · refine g_iconst (v := 0) dX7_hasPlace_17 (by decide) ?_
      exact g_zreturn (by decide +kernel) rfl dX7_hasPlace_18
    · refine g_iconst (v := 1) dX7_hasPlace_13 (by decide) ?_
      refine g_goto (tgt := 18) dX7_hasPlace_14 (by decide) ?_
      exact g_zreturn (by decide +kernel) rfl dX7_hasPlace_18
abbrev p_X7_at (X : GX) (h0 : AH) : PX Int32 := (X, rI, (1, 21, 2), h0)
def f_X7_at (v0 : Option Nat) (v1 : Int32) (h : AH) : Option (Int32 × AH) :=
    bd (cv h v0 7 (f_X7_hasPlace v0 v1 h)) fun r2 h1 =>
    (if r2 = 0 then
    some (0, h1)
    else (gR h1 v0 [7] 1).bind fun t3 =>
    (iA h1 t3 v1).bind fun t4 =>
    some (t4, h1))
set_option maxRecDepth 100000 in
set_option maxHeartbeats 4000000 in
theorem s_X7_at {X : GX} (hX : XOK X) (v0 : Option Nat) (v1 : Int32) (h : AH) : Snd X yX7_at cX7_at 2 (some .int) 1 21 rI [vR v0, vI v1] h (f_X7_at v0 v1 h) := by
  refine snd_of hX (by decide +kernel) (Nat.le_of_ble_eq_true rfl) ?_
  show Gp (p_X7_at X h) RX7 "at" cX7_at (some .int) 0 [(0, vR v0), (1, vI v1)] [] h _
  unfold f_X7_at
  refine g_aload_n 0 dX7_at_0 rfl rfl ?_
  refine g_iload_n 1 dX7_at_1 rfl rfl ?_
  refine g_callVI (st := []) (ci := 7) rfl (s_X7_hasPlace hX v0 v1 h) kml_X7_25 kim_X7_hasPlace kse_X7_hasPlace kii_X7 kcd_X7_hasPlace rfl ds_X7_hasPlace rfl ⟨Nat.le_of_ble_eq_true rfl, Nat.le_of_ble_eq_true rfl⟩ (Nat.le_of_ble_eq_true rfl) rfl dX7_at_2 (fun r2 h1 => ?_)
  refine g_ifeq (tgt := 17) dX7_at_5 (by decide) ?_ ?_
  · refine g_iconst (v := 0) dX7_at_17 (by decide) ?_
    exact g_ireturn rfl dX7_at_18
  · refine g_aload_n 0 dX7_at_8 rfl rfl ?_
    refine g_getR kfl_X7_21 fo_X7_elements dX7_at_9 (fun t3 => ?_)
    refine g_iload_n 1 dX7_at_12 rfl rfl ?_
    refine g_iaload dX7_at_13 (fun t4 => ?_)
    refine g_goto (tgt := 18) dX7_at_14 (by decide) ?_
    exact g_ireturn rfl dX7_at_18
abbrev p_X10_digit (X : GX) (h0 : AH) : PX Int32 := (X, rI, (2, 42, 2), h0)
def f_X10_digit (v0 : Option Nat) (v1 : Int32) (h : AH) : Option (Int32 × AH) :=
    (gR h v0 [10] 0).bind fun t1 =>
    bd (cv h t1 7 (f_X7_at t1 v1 h)) fun r3 h2 =>
    some ((r3 - 48), h2)
set_option maxRecDepth 100000 in
set_option maxHeartbeats 4000000 in
theorem s_X10_digit {X : GX} (hX : XOK X) (v0 : Option Nat) (v1 : Int32) (h : AH) : Snd X yX10_digit cX10_digit 2 (some .int) 2 42 rI [vR v0, vI v1] h (f_X10_digit v0 v1 h) := by
  refine snd_of hX (by decide +kernel) (Nat.le_of_ble_eq_true rfl) ?_
  show Gp (p_X10_digit X h) RX10 "digit" cX10_digit (some .int) 0 [(0, vR v0), (1, vI v1)] [] h _
  unfold f_X10_digit
  refine g_aload_n 0 dX10_digit_0 rfl rfl ?_
  refine g_getR kfl_X10_9 fo_X10_bytes dX10_digit_1 (fun t1 => ?_)
  refine g_iload_n 1 dX10_digit_4 rfl rfl ?_
  refine g_callVI (st := []) (ci := 7) rfl (s_X7_at hX t1 v1 h) kml_X10_28 kim_X7_at kse_X7_at kii_X7 kcd_X7_at rfl ds_X7_at rfl ⟨Nat.le_of_ble_eq_true rfl, Nat.le_of_ble_eq_true rfl⟩ (Nat.le_of_ble_eq_true rfl) rfl dX10_digit_5 (fun r3 h2 => ?_)
  refine g_bipush (v := 48) dX10_digit_8 (by decide) ?_
  refine g_isub dX10_digit_10 ?_
  exact g_ireturn rfl dX10_digit_11
abbrev p_X10_digitsBehind (X : GX) (h0 : AH) : PX Int32 := (X, rI, (0, 0, 1), h0)
def f_X10_digitsBehind (v0 : Int32) (h : AH) : Option (Int32 × AH) :=
    (if v0 = 98 then
    some (2, h)
    else (if v0 = 100 then
    some (2, h)
    else (if v0 = 103 then
    some (4, h)
    else (if v0 = 108 then
    some (4, h)
    else (if v0 = 115 then
    some (2, h)
    else (if v0 = 116 then
    some (1, h)
    else some (0, h)))))))
set_option maxRecDepth 100000 in
set_option maxHeartbeats 4000000 in
theorem s_X10_digitsBehind {X : GX} (hX : XOK X) (v0 : Int32) (h : AH) : Snd X yX10_digitsBehind cX10_digitsBehind 1 (some .int) 0 0 rI [vI v0] h (f_X10_digitsBehind v0 h) := by
  refine snd_of hX (by decide +kernel) (Nat.le_of_ble_eq_true rfl) ?_
  show Gp (p_X10_digitsBehind X h) RX10 "digitsBehind" cX10_digitsBehind (some .int) 0 [(0, vI v0)] [] h _
  unfold f_X10_digitsBehind
  refine g_iload_n 0 dX10_digitsBehind_0 rfl rfl ?_
  refine g_tsIn (c := 98) (off := 95) (tgt := 96) dX10_digitsBehind_1 (by decide) (by decide) (by decide) (by decide) ?_ (fun n1 => ?_)
  · refine g_iconst (v := 2) dX10_digitsBehind_96 (by decide) ?_
    exact g_ireturn rfl dX10_digitsBehind_97
  refine g_tsIn (c := 100) (off := 99) (tgt := 100) dX10_digitsBehind_1 (by decide) (by decide) (by decide) (by decide) ?_ (fun n2 => ?_)
  · refine g_iconst (v := 2) dX10_digitsBehind_100 (by decide) ?_
    exact g_ireturn rfl dX10_digitsBehind_101
  refine g_tsIn (c := 103) (off := 91) (tgt := 92) dX10_digitsBehind_1 (by decide) (by decide) (by decide) (by decide) ?_ (fun n3 => ?_)
  · refine g_iconst (v := 4) dX10_digitsBehind_92 (by decide) ?_
    exact g_ireturn rfl dX10_digitsBehind_93
  refine g_tsIn (c := 108) (off := 93) (tgt := 94) dX10_digitsBehind_1 (by decide) (by decide) (by decide) (by decide) ?_ (fun n4 => ?_)
  · refine g_iconst (v := 4) dX10_digitsBehind_94 (by decide) ?_
    exact g_ireturn rfl dX10_digitsBehind_95
  refine g_tsIn (c := 115) (off := 97) (tgt := 98) dX10_digitsBehind_1 (by decide) (by decide) (by decide) (by decide) ?_ (fun n5 => ?_)
  · refine g_iconst (v := 2) dX10_digitsBehind_98 (by decide) ?_
    exact g_ireturn rfl dX10_digitsBehind_99
  refine g_tsIn (c := 116) (off := 101) (tgt := 102) dX10_digitsBehind_1 (by decide) (by decide) (by decide) (by decide) ?_ (fun n6 => ?_)
  · refine g_iconst (v := 1) dX10_digitsBehind_102 (by decide) ?_
    exact g_ireturn rfl dX10_digitsBehind_103
  refine g_tsDef (tgt := 104) (keys := [98, 100, 103, 108, 115, 116]) (neK_cons (c := 98) (k := 98) n1 (by decide) (neK_cons (c := 100) (k := 100) n2 (by decide) (neK_cons (c := 103) (k := 103) n3 (by decide) (neK_cons (c := 108) (k := 108) n4 (by decide) (neK_cons (c := 115) (k := 115) n5 (by decide) (neK_cons (c := 116) (k := 116) n6 (by decide) neK_nil)))))) (by decide +kernel) dX10_digitsBehind_1 (by decide) ?_
  refine g_iconst (v := 0) dX10_digitsBehind_104 (by decide) ?_
  exact g_ireturn rfl dX10_digitsBehind_105
abbrev p_X7_size (X : GX) (h0 : AH) : PX Int32 := (X, rI, (0, 0, 1), h0)
def f_X7_size (v0 : Option Nat) (h : AH) : Option (Int32 × AH) :=
    (gR h v0 [7] 1).bind fun t1 =>
    (lenI h t1).bind fun t2 =>
    some (t2, h)
set_option maxRecDepth 100000 in
set_option maxHeartbeats 4000000 in
theorem s_X7_size {X : GX} (hX : XOK X) (v0 : Option Nat) (h : AH) : Snd X yX7_size cX7_size 1 (some .int) 0 0 rI [vR v0] h (f_X7_size v0 h) := by
  refine snd_of hX (by decide +kernel) (Nat.le_of_ble_eq_true rfl) ?_
  show Gp (p_X7_size X h) RX7 "size" cX7_size (some .int) 0 [(0, vR v0)] [] h _
  unfold f_X7_size
  refine g_aload_n 0 dX7_size_0 rfl rfl ?_
  refine g_getR kfl_X7_21 fo_X7_elements dX7_size_1 (fun t1 => ?_)
  refine g_alenI dX7_size_4 (fun t2 => ?_)
  exact g_ireturn rfl dX7_size_5
abbrev p_X10_lengthAt (X : GX) (h0 : AH) : PX Int32 := (X, rI, (2, 42, 2), h0)
def f_X10_lengthAt (v0 : Option Nat) (v1 : Int32) (h : AH) : Option (Int32 × AH) :=
    (gR h v0 [10] 0).bind fun t1 =>
    bd (cv h t1 7 (f_X7_at t1 v1 h)) fun r3 h2 =>
    bd (f_X10_digitsBehind r3 h2) fun r5 h4 =>
    some ((2 + r5), h4)
set_option maxRecDepth 100000 in
set_option maxHeartbeats 4000000 in
theorem s_X10_lengthAt {X : GX} (hX : XOK X) (v0 : Option Nat) (v1 : Int32) (h : AH) : Snd X yX10_lengthAt cX10_lengthAt 2 (some .int) 2 42 rI [vR v0, vI v1] h (f_X10_lengthAt v0 v1 h) := by
  refine snd_of hX (by decide +kernel) (Nat.le_of_ble_eq_true rfl) ?_
  show Gp (p_X10_lengthAt X h) RX10 "lengthAt" cX10_lengthAt (some .int) 0 [(0, vR v0), (1, vI v1)] [] h _
  unfold f_X10_lengthAt
  refine g_iconst (v := 2) dX10_lengthAt_0 (by decide) ?_
  refine g_aload_n 0 dX10_lengthAt_1 rfl rfl ?_
  refine g_getR kfl_X10_9 fo_X10_bytes dX10_lengthAt_2 (fun t1 => ?_)
  refine g_iload_n 1 dX10_lengthAt_5 rfl rfl ?_
  refine g_callVI (st := [vI 2]) (ci := 7) rfl (s_X7_at hX t1 v1 h) kml_X10_28 kim_X7_at kse_X7_at kii_X7 kcd_X7_at rfl ds_X7_at rfl ⟨Nat.le_of_ble_eq_true rfl, Nat.le_of_ble_eq_true rfl⟩ (Nat.le_of_ble_eq_true rfl) rfl dX10_lengthAt_6 (fun r3 h2 => ?_)
  refine g_callSI (st := [vI 2]) (s_X10_digitsBehind hX r3 h2) kml_X10_31 kst_X10_digitsBehind kii_X10 kcd_X10_digitsBehind ds_X10_digitsBehind rfl ⟨Nat.le_of_ble_eq_true rfl, Nat.le_of_ble_eq_true rfl⟩ (Nat.le_of_ble_eq_true rfl) rfl dX10_lengthAt_9 (fun r5 h4 => ?_)
  refine g_iadd dX10_lengthAt_12 ?_
  exact g_ireturn rfl dX10_lengthAt_13
abbrev p_X11_isDigit (X : GX) (h0 : AH) : PX Int32 := (X, rI, (0, 0, 1), h0)
def f_X11_isDigit (v0 : Int32) (h : AH) : Option (Int32 × AH) :=
    (if v0 < 0 then
    some (0, h)
    else (if 9 < v0 then
    some (0, h)
    else some (1, h)))
set_option maxRecDepth 100000 in
set_option maxHeartbeats 4000000 in
theorem s_X11_isDigit {X : GX} (hX : XOK X) (v0 : Int32) (h : AH) : Snd X yX11_isDigit cX11_isDigit 1 (some .boolean) 0 0 rI [vI v0] h (f_X11_isDigit v0 h) := by
  refine snd_of hX (by decide +kernel) (Nat.le_of_ble_eq_true rfl) ?_
  show Gp (p_X11_isDigit X h) RX11 "isDigit" cX11_isDigit (some .boolean) 0 [(0, vI v0)] [] h _
  unfold f_X11_isDigit
  refine g_iload_n 0 dX11_isDigit_0 rfl rfl ?_
  refine g_iflt (tgt := 14) dX11_isDigit_1 (by decide) ?_ ?_
  · refine g_iconst (v := 0) dX11_isDigit_14 (by decide) ?_
    exact g_zreturn (by decide +kernel) rfl dX11_isDigit_15
  · refine g_iload_n 0 dX11_isDigit_4 rfl rfl ?_
    refine g_bipush (v := 9) dX11_isDigit_5 (by decide) ?_
    refine g_icmpgt (tgt := 14) dX11_isDigit_7 (by decide) ?_ ?_
    · refine g_iconst (v := 0) dX11_isDigit_14 (by decide) ?_
      exact g_zreturn (by decide +kernel) rfl dX11_isDigit_15
    · refine g_iconst (v := 1) dX11_isDigit_10 (by decide) ?_
      refine g_goto (tgt := 15) dX11_isDigit_11 (by decide) ?_
      exact g_zreturn (by decide +kernel) rfl dX11_isDigit_15
abbrev p_X10_flawInStatement (X : GX) (h0 : AH) : PX Int32 := (X, rI, (3, 63, 5), h0)
def f_X10_flawInStatement_b88 (k30 : Option Nat → Int32 → Int32 → AH → Option (Int32 × AH)) (x0 : Option Nat) (x2 : Int32) (x3 : Int32) (y0 : Int32) (h : AH) : Option (Int32 × AH) :=
    (if y0 = 0 then
    some (x3, h)
    else k30 x0 x2 (x3 + 1) h)
set_option maxRecDepth 100000 in
set_option maxHeartbeats 4000000 in
theorem s_X10_flawInStatement_b88 {X : GX} (hX : XOK X) {h0 : AH} (k30 : Option Nat → Int32 → Int32 → AH → Option (Int32 × AH)) (hk30 : ∀ (z0 : Option Nat) (z1 : Int32) (z2 : Int32) (h : AH), Gp (p_X10_flawInStatement X h0) RX10 "flawInStatement" cX10_flawInStatement (some .int) 30 [(0, vR z0), (2, vI z1), (3, vI z2)] [] h (k30 z0 z1 z2 h)) : ∀ (x0 : Option Nat) (x2 : Int32) (x3 : Int32) (y0 : Int32) (h : AH), Gp (p_X10_flawInStatement X h0) RX10 "flawInStatement" cX10_flawInStatement (some .int) 88 [(0, vR x0), (2, vI x2), (3, vI x3)] [vI y0] h (f_X10_flawInStatement_b88 k30 x0 x2 x3 y0 h) := by
  intro x0 x2 x3 y0 h
  unfold f_X10_flawInStatement_b88
  refine g_istore (ls' := [(4, vI y0), (0, vR x0), (2, vI x2), (3, vI x3)]) dX10_flawInStatement_88 (Nat.le_of_ble_eq_true rfl) rfl ?_
  refine g_iload 0 dX10_flawInStatement_90 rfl ?_
  refine g_ifne (tgt := 97) dX10_flawInStatement_92 (by decide) ?_ ?_
  · refine g_iinc 3 (v := (x3 + 1)) (ls' := [(3, vI ((x3 + 1))), (4, vI y0), (0, vR x0), (2, vI x2)]) dX10_flawInStatement_97 rfl rfl (Nat.le_of_ble_eq_true rfl) rfl ?_
    refine g_goto (tgt := 30) dX10_flawInStatement_100 (by decide) ?_
    exact g_sub2 [2, 3, 0] rfl (hk30 x0 x2 (x3 + 1) h)
  · refine g_iload_n 3 dX10_flawInStatement_95 rfl rfl ?_
    exact g_ireturn rfl dX10_flawInStatement_96
def f_X10_flawInStatement_b30 : Nat → Option Nat → Int32 → Int32 → AH → Option (Int32 × AH)
  | 0 => fun _ _ _ _ => none
  | n + 1 => fun x0 x2 x3 h =>
    (if x2 < x3 then
    some ((-1), h)
    else (gR h x0 [10] 0).bind fun t10 =>
    bd (cv h t10 7 (f_X7_size t10 h)) fun r12 h11 =>
    (if x3 < r12 then
    (if x3 = x2 then
    (gR h11 x0 [10] 0).bind fun t17 =>
    bd (cv h11 t17 7 (f_X7_at t17 x3 h11)) fun r19 h18 =>
    (if r19 = 59 then
    f_X10_flawInStatement_b88 (f_X10_flawInStatement_b30 n) x0 x2 x3 1 h18
    else f_X10_flawInStatement_b88 (f_X10_flawInStatement_b30 n) x0 x2 x3 0 h18)
    else bd (cv h11 x0 10 (f_X10_digit x0 x3 h11)) fun r14 h13 =>
    bd (f_X11_isDigit r14 h13) fun r16 h15 =>
    f_X10_flawInStatement_b88 (f_X10_flawInStatement_b30 n) x0 x2 x3 r16 h15)
    else (gR h11 x0 [10] 0).bind fun t20 =>
    bd (cv h11 t20 7 (f_X7_size t20 h11)) fun r22 h21 =>
    some (r22, h21)))
set_option maxRecDepth 100000 in
set_option maxHeartbeats 4000000 in
theorem s_X10_flawInStatement_b30 {X : GX} (hX : XOK X) {h0 : AH} : ∀ (n : Nat) (x0 : Option Nat) (x2 : Int32) (x3 : Int32) (h : AH), Gp (p_X10_flawInStatement X h0) RX10 "flawInStatement" cX10_flawInStatement (some .int) 30 [(0, vR x0), (2, vI x2), (3, vI x3)] [] h (f_X10_flawInStatement_b30 n x0 x2 x3 h) := by
  intro n
  induction n with
  | zero => intro x0 x2 x3 h; exact g_none
  | succ n ih =>
    intro x0 x2 x3 h
    rw [f_X10_flawInStatement_b30]
    refine g_iload_n 2 dX10_flawInStatement_30 rfl rfl ?_
    refine g_iload_n 1 dX10_flawInStatement_31 rfl rfl ?_
    refine g_icmpgt (tgt := 103) dX10_flawInStatement_32 (by decide) ?_ ?_
    · refine g_iconst (v := (-1)) dX10_flawInStatement_103 (by decide) ?_
      exact g_ireturn rfl dX10_flawInStatement_104
    · refine g_iload_n 2 dX10_flawInStatement_35 rfl rfl ?_
      refine g_aload_n 0 dX10_flawInStatement_36 rfl rfl ?_
      refine g_getR kfl_X10_9 fo_X10_bytes dX10_flawInStatement_37 (fun t10 => ?_)
      refine g_callVI (st := [vI x3]) (ci := 7) rfl (s_X7_size hX t10 h) kml_X10_15 kim_X7_size kse_X7_size kii_X7 kcd_X7_size rfl ds_X7_size rfl ⟨Nat.le_of_ble_eq_true rfl, Nat.le_of_ble_eq_true rfl⟩ (Nat.le_of_ble_eq_true rfl) rfl dX10_flawInStatement_40 (fun r12 h11 => ?_)
      refine g_icmplt (tgt := 54) dX10_flawInStatement_43 (by decide) ?_ ?_
      · refine g_iload_n 2 dX10_flawInStatement_54 rfl rfl ?_
        refine g_iload_n 1 dX10_flawInStatement_55 rfl rfl ?_
        refine g_icmpne (tgt := 80) dX10_flawInStatement_56 (by decide) ?_ ?_
        · refine g_aload_n 0 dX10_flawInStatement_80 rfl rfl ?_
          refine g_iload_n 2 dX10_flawInStatement_81 rfl rfl ?_
          refine g_callVI (st := []) (ci := 10) rfl (s_X10_digit hX x0 x3 h11) kml_X10_34 kim_X10_digit kse_X10_digit kii_X10 kcd_X10_digit rfl ds_X10_digit rfl ⟨Nat.le_of_ble_eq_true rfl, Nat.le_of_ble_eq_true rfl⟩ (Nat.le_of_ble_eq_true rfl) rfl dX10_flawInStatement_82 (fun r14 h13 => ?_)
          refine g_callSNI (st := []) (s_X11_isDigit hX r14 h13) kmn_X10_37 kst_X11_isDigit kii_X11 kcd_X11_isDigit ds_X11_isDigit rfl ⟨Nat.le_of_ble_eq_true rfl, Nat.le_of_ble_eq_true rfl⟩ (Nat.le_of_ble_eq_true rfl) rfl dX10_flawInStatement_85 (fun r16 h15 => ?_)
          exact g_sub2 [0, 1, 2] rfl (s_X10_flawInStatement_b88 hX (f_X10_flawInStatement_b30 n) (fun z0 z1 z2 z3 => ih z0 z1 z2 z3) x0 x2 x3 r16 h15)
        · refine g_aload_n 0 dX10_flawInStatement_59 rfl rfl ?_
          refine g_getR kfl_X10_9 fo_X10_bytes dX10_flawInStatement_60 (fun t17 => ?_)
          refine g_iload_n 2 dX10_flawInStatement_63 rfl rfl ?_
          refine g_callVI (st := []) (ci := 7) rfl (s_X7_at hX t17 x3 h11) kml_X10_28 kim_X7_at kse_X7_at kii_X7 kcd_X7_at rfl ds_X7_at rfl ⟨Nat.le_of_ble_eq_true rfl, Nat.le_of_ble_eq_true rfl⟩ (Nat.le_of_ble_eq_true rfl) rfl dX10_flawInStatement_64 (fun r19 h18 => ?_)
          refine g_bipush (v := 59) dX10_flawInStatement_67 (by decide) ?_
          refine g_icmpne (tgt := 76) dX10_flawInStatement_69 (by decide) ?_ ?_
          · refine g_iconst (v := 0) dX10_flawInStatement_76 (by decide) ?_
            refine g_goto (tgt := 88) dX10_flawInStatement_77 (by decide) ?_
            exact g_sub2 [0, 1, 2] rfl (s_X10_flawInStatement_b88 hX (f_X10_flawInStatement_b30 n) (fun z0 z1 z2 z3 => ih z0 z1 z2 z3) x0 x2 x3 0 h18)
          · refine g_iconst (v := 1) dX10_flawInStatement_72 (by decide) ?_
            refine g_goto (tgt := 88) dX10_flawInStatement_73 (by decide) ?_
            exact g_sub2 [0, 1, 2] rfl (s_X10_flawInStatement_b88 hX (f_X10_flawInStatement_b30 n) (fun z0 z1 z2 z3 => ih z0 z1 z2 z3) x0 x2 x3 1 h18)
      · refine g_aload_n 0 dX10_flawInStatement_46 rfl rfl ?_
        refine g_getR kfl_X10_9 fo_X10_bytes dX10_flawInStatement_47 (fun t20 => ?_)
        refine g_callVI (st := []) (ci := 7) rfl (s_X7_size hX t20 h11) kml_X10_15 kim_X7_size kse_X7_size kii_X7 kcd_X7_size rfl ds_X7_size rfl ⟨Nat.le_of_ble_eq_true rfl, Nat.le_of_ble_eq_true rfl⟩ (Nat.le_of_ble_eq_true rfl) rfl dX10_flawInStatement_50 (fun r22 h21 => ?_)
        exact g_ireturn rfl dX10_flawInStatement_53
def f_X10_flawInStatement (v0 : Option Nat) (v1 : Int32) (h : AH) : Option (Int32 × AH) :=
    (gR h v0 [10] 0).bind fun t1 =>
    bd (cv h t1 7 (f_X7_at t1 v1 h)) fun r3 h2 =>
    bd (f_X10_digitsBehind r3 h2) fun r5 h4 =>
    (if r5 = 0 then
    some (v1, h4)
    else bd (cv h4 v0 10 (f_X10_lengthAt v0 v1 h4)) fun r7 h6 =>
    nm ((v1 + r7) - 1) fun t8 =>
    nm (v1 + 1) fun t9 =>
    f_X10_flawInStatement_b30 FU v0 t8 t9 h6)
set_option maxRecDepth 100000 in
set_option maxHeartbeats 4000000 in
theorem s_X10_flawInStatement {X : GX} (hX : XOK X) (v0 : Option Nat) (v1 : Int32) (h : AH) : Snd X yX10_flawInStatement cX10_flawInStatement 5 (some .int) 3 63 rI [vR v0, vI v1] h (f_X10_flawInStatement v0 v1 h) := by
  refine snd_of hX (by decide +kernel) (Nat.le_of_ble_eq_true rfl) ?_
  show Gp (p_X10_flawInStatement X h) RX10 "flawInStatement" cX10_flawInStatement (some .int) 0 [(0, vR v0), (1, vI v1)] [] h _
  unfold f_X10_flawInStatement
  refine g_aload_n 0 dX10_flawInStatement_0 rfl rfl ?_
  refine g_getR kfl_X10_9 fo_X10_bytes dX10_flawInStatement_1 (fun t1 => ?_)
  refine g_iload_n 1 dX10_flawInStatement_4 rfl rfl ?_
  refine g_callVI (st := []) (ci := 7) rfl (s_X7_at hX t1 v1 h) kml_X10_28 kim_X7_at kse_X7_at kii_X7 kcd_X7_at rfl ds_X7_at rfl ⟨Nat.le_of_ble_eq_true rfl, Nat.le_of_ble_eq_true rfl⟩ (Nat.le_of_ble_eq_true rfl) rfl dX10_flawInStatement_5 (fun r3 h2 => ?_)
  refine g_callSI (st := []) (s_X10_digitsBehind hX r3 h2) kml_X10_31 kst_X10_digitsBehind kii_X10 kcd_X10_digitsBehind ds_X10_digitsBehind rfl ⟨Nat.le_of_ble_eq_true rfl, Nat.le_of_ble_eq_true rfl⟩ (Nat.le_of_ble_eq_true rfl) rfl dX10_flawInStatement_8 (fun r5 h4 => ?_)
  refine g_ifne (tgt := 16) dX10_flawInStatement_11 (by decide) ?_ ?_
  · refine g_iload_n 1 dX10_flawInStatement_16 rfl rfl ?_
    refine g_aload_n 0 dX10_flawInStatement_17 rfl rfl ?_
    refine g_iload_n 1 dX10_flawInStatement_18 rfl rfl ?_
    refine g_callVI (st := [vI v1]) (ci := 10) rfl (s_X10_lengthAt hX v0 v1 h4) kml_X10_25 kim_X10_lengthAt kse_X10_lengthAt kii_X10 kcd_X10_lengthAt rfl ds_X10_lengthAt rfl ⟨Nat.le_of_ble_eq_true rfl, Nat.le_of_ble_eq_true rfl⟩ (Nat.le_of_ble_eq_true rfl) rfl dX10_flawInStatement_19 (fun r7 h6 => ?_)
    refine g_iadd dX10_flawInStatement_22 ?_
    refine g_iconst (v := 1) dX10_flawInStatement_23 (by decide) ?_
    refine g_isub dX10_flawInStatement_24 ?_
    refine g_nmI (fun t8 => ?_)
    refine g_istore_n (ls' := [(2, vI t8), (0, vR v0), (1, vI v1)]) dX10_flawInStatement_25 rfl (Nat.le_of_ble_eq_true rfl) rfl ?_
    refine g_iload_n 2 dX10_flawInStatement_26 rfl rfl ?_
    refine g_iconst (v := 1) dX10_flawInStatement_27 (by decide) ?_
    refine g_iadd dX10_flawInStatement_28 ?_
    refine g_nmI (fun t9 => ?_)
    refine g_istore_n (ls' := [(3, vI t9), (2, vI t8), (0, vR v0), (1, vI v1)]) dX10_flawInStatement_29 rfl (Nat.le_of_ble_eq_true rfl) rfl ?_
    exact g_sub2 [2, 1, 0] rfl (s_X10_flawInStatement_b30 hX FU v0 t8 t9 h6)
  · refine g_iload_n 1 dX10_flawInStatement_14 rfl rfl ?_
    exact g_ireturn rfl dX10_flawInStatement_15
abbrev p_X10_firstFlaw (X : GX) (h0 : AH) : PX Int32 := (X, rI, (4, 87, 3), h0)
def f_X10_firstFlaw_b14 : Nat → Option Nat → Int32 → AH → Option (Int32 × AH)
  | 0 => fun _ _ _ => none
  | n + 1 => fun x0 x1 h =>
    (gR h x0 [10] 0).bind fun t4 =>
    bd (cv h t4 7 (f_X7_size t4 h)) fun r6 h5 =>
    (if r6 ≤ x1 then
    some ((-1), h5)
    else bd (cv h5 x0 10 (f_X10_flawInStatement x0 x1 h5)) fun r8 h7 =>
    (if r8 < 0 then
    bd (cv h7 x0 10 (f_X10_lengthAt x0 x1 h7)) fun r10 h9 =>
    nm (x1 + r10) fun t11 =>
    f_X10_firstFlaw_b14 n x0 t11 h9
    else some (r8, h7)))
set_option maxRecDepth 100000 in
set_option maxHeartbeats 4000000 in
theorem s_X10_firstFlaw_b14 {X : GX} (hX : XOK X) {h0 : AH} : ∀ (n : Nat) (x0 : Option Nat) (x1 : Int32) (h : AH), Gp (p_X10_firstFlaw X h0) RX10 "firstFlaw" cX10_firstFlaw (some .int) 14 [(0, vR x0), (1, vI x1)] [] h (f_X10_firstFlaw_b14 n x0 x1 h) := by
  intro n
  induction n with
  | zero => intro x0 x1 h; exact g_none
  | succ n ih =>
    intro x0 x1 h
    rw [f_X10_firstFlaw_b14]
    refine g_iload_n 1 dX10_firstFlaw_14 rfl rfl ?_
    refine g_aload_n 0 dX10_firstFlaw_15 rfl rfl ?_
    refine g_getR kfl_X10_9 fo_X10_bytes dX10_firstFlaw_16 (fun t4 => ?_)
    refine g_callVI (st := [vI x1]) (ci := 7) rfl (s_X7_size hX t4 h) kml_X10_15 kim_X7_size kse_X7_size kii_X7 kcd_X7_size rfl ds_X7_size rfl ⟨Nat.le_of_ble_eq_true rfl, Nat.le_of_ble_eq_true rfl⟩ (Nat.le_of_ble_eq_true rfl) rfl dX10_firstFlaw_19 (fun r6 h5 => ?_)
    refine g_icmpge (tgt := 48) dX10_firstFlaw_22 (by decide) ?_ ?_
    · refine g_iconst (v := (-1)) dX10_firstFlaw_48 (by decide) ?_
      exact g_ireturn rfl dX10_firstFlaw_49
    · refine g_aload_n 0 dX10_firstFlaw_25 rfl rfl ?_
      refine g_iload_n 1 dX10_firstFlaw_26 rfl rfl ?_
      refine g_callVI (st := []) (ci := 10) rfl (s_X10_flawInStatement hX x0 x1 h5) kml_X10_21 kim_X10_flawInStatement kse_X10_flawInStatement kii_X10 kcd_X10_flawInStatement rfl ds_X10_flawInStatement rfl ⟨Nat.le_of_ble_eq_true rfl, Nat.le_of_ble_eq_true rfl⟩ (Nat.le_of_ble_eq_true rfl) rfl dX10_firstFlaw_27 (fun r8 h7 => ?_)
      refine g_istore_n (ls' := [(2, vI r8), (0, vR x0), (1, vI x1)]) dX10_firstFlaw_30 rfl (Nat.le_of_ble_eq_true rfl) rfl ?_
      refine g_iload_n 0 dX10_firstFlaw_31 rfl rfl ?_
      refine g_iflt (tgt := 37) dX10_firstFlaw_32 (by decide) ?_ ?_
      · refine g_iload_n 2 dX10_firstFlaw_37 rfl rfl ?_
        refine g_aload_n 1 dX10_firstFlaw_38 rfl rfl ?_
        refine g_iload_n 2 dX10_firstFlaw_39 rfl rfl ?_
        refine g_callVI (st := [vI x1]) (ci := 10) rfl (s_X10_lengthAt hX x0 x1 h7) kml_X10_25 kim_X10_lengthAt kse_X10_lengthAt kii_X10 kcd_X10_lengthAt rfl ds_X10_lengthAt rfl ⟨Nat.le_of_ble_eq_true rfl, Nat.le_of_ble_eq_true rfl⟩ (Nat.le_of_ble_eq_true rfl) rfl dX10_firstFlaw_40 (fun r10 h9 => ?_)
        refine g_iadd dX10_firstFlaw_43 ?_
        refine g_nmI (fun t11 => ?_)
        refine g_istore_n (ls' := [(1, vI t11), (2, vI r8), (0, vR x0)]) dX10_firstFlaw_44 rfl (Nat.le_of_ble_eq_true rfl) rfl ?_
        refine g_goto (tgt := 14) dX10_firstFlaw_45 (by decide) ?_
        exact g_sub2 [2, 0] rfl (ih x0 t11 h9)
      · refine g_iload_n 0 dX10_firstFlaw_35 rfl rfl ?_
        exact g_ireturn rfl dX10_firstFlaw_36
def f_X10_firstFlaw (v0 : Option Nat) (h : AH) : Option (Int32 × AH) :=
    (gR h v0 [10] 0).bind fun t1 =>
    bd (cv h t1 7 (f_X7_size t1 h)) fun r3 h2 =>
    (if r3 = 0 then
    some (0, h2)
    else f_X10_firstFlaw_b14 FU v0 0 h2)
set_option maxRecDepth 100000 in
set_option maxHeartbeats 4000000 in
theorem s_X10_firstFlaw {X : GX} (hX : XOK X) (v0 : Option Nat) (h : AH) : Snd X yX10_firstFlaw cX10_firstFlaw 3 (some .int) 4 87 rI [vR v0] h (f_X10_firstFlaw v0 h) := by
  refine snd_of hX (by decide +kernel) (Nat.le_of_ble_eq_true rfl) ?_
  show Gp (p_X10_firstFlaw X h) RX10 "firstFlaw" cX10_firstFlaw (some .int) 0 [(0, vR v0)] [] h _
  unfold f_X10_firstFlaw
  refine g_aload_n 0 dX10_firstFlaw_0 rfl rfl ?_
  refine g_getR kfl_X10_9 fo_X10_bytes dX10_firstFlaw_1 (fun t1 => ?_)
  refine g_callVI (st := []) (ci := 7) rfl (s_X7_size hX t1 h) kml_X10_15 kim_X7_size kse_X7_size kii_X7 kcd_X7_size rfl ds_X7_size rfl ⟨Nat.le_of_ble_eq_true rfl, Nat.le_of_ble_eq_true rfl⟩ (Nat.le_of_ble_eq_true rfl) rfl dX10_firstFlaw_4 (fun r3 h2 => ?_)
  refine g_ifne (tgt := 12) dX10_firstFlaw_7 (by decide) ?_ ?_
  · refine g_iconst (v := 0) dX10_firstFlaw_12 (by decide) ?_
    refine g_istore_n (ls' := [(1, vI 0), (0, vR v0)]) dX10_firstFlaw_13 rfl (Nat.le_of_ble_eq_true rfl) rfl ?_
    exact g_sub2 [1, 0] rfl (s_X10_firstFlaw_b14 hX FU v0 0 h2)
  · refine g_iconst (v := 0) dX10_firstFlaw_10 (by decide) ?_
    exact g_ireturn rfl dX10_firstFlaw_11
abbrev p_X5_knows (X : GX) (h0 : AH) : PX Int32 := (X, rI, (0, 0, 2), h0)
def f_X5_knows (v0 : Option Nat) (v1 : Int32) (h : AH) : Option (Int32 × AH) :=
    (if v1 < 0 then
    some (0, h)
    else (gI h v0 [5] 5).bind fun t1 =>
    (if t1 ≤ v1 then
    some (0, h)
    else some (1, h)))
set_option maxRecDepth 100000 in
set_option maxHeartbeats 4000000 in
theorem s_X5_knows {X : GX} (hX : XOK X) (v0 : Option Nat) (v1 : Int32) (h : AH) : Snd X yX5_knows cX5_knows 2 (some .boolean) 0 0 rI [vR v0, vI v1] h (f_X5_knows v0 v1 h) := by
  refine snd_of hX (by decide +kernel) (Nat.le_of_ble_eq_true rfl) ?_
  show Gp (p_X5_knows X h) RX5 "knows" cX5_knows (some .boolean) 0 [(0, vR v0), (1, vI v1)] [] h _
  unfold f_X5_knows
  refine g_iload_n 1 dX5_knows_0 rfl rfl ?_
  refine g_iflt (tgt := 16) dX5_knows_1 (by decide) ?_ ?_
  · refine g_iconst (v := 0) dX5_knows_16 (by decide) ?_
    exact g_zreturn (by decide +kernel) rfl dX5_knows_17
  · refine g_iload_n 1 dX5_knows_4 rfl rfl ?_
    refine g_aload_n 0 dX5_knows_5 rfl rfl ?_
    refine g_getI kfl_X5_30 fo_X5_guests dX5_knows_6 (fun t1 => ?_)
    refine g_icmpge (tgt := 16) dX5_knows_9 (by decide) ?_ ?_
    · refine g_iconst (v := 0) dX5_knows_16 (by decide) ?_
      exact g_zreturn (by decide +kernel) rfl dX5_knows_17
    · refine g_iconst (v := 1) dX5_knows_12 (by decide) ?_
      refine g_goto (tgt := 17) dX5_knows_13 (by decide) ?_
      exact g_zreturn (by decide +kernel) rfl dX5_knows_17
abbrev p_X5_isIn (X : GX) (h0 : AH) : PX Int32 := (X, rI, (0, 0, 2), h0)
def f_X5_isIn (v0 : Option Nat) (v1 : Int32) (h : AH) : Option (Int32 × AH) :=
    (gI h v0 [5] 6).bind fun t1 =>
    (if ((t1 >>> (v1 &&& 31)) &&& 1) = 1 then
    some (1, h)
    else some (0, h))
set_option maxRecDepth 100000 in
set_option maxHeartbeats 4000000 in
theorem s_X5_isIn {X : GX} (hX : XOK X) (v0 : Option Nat) (v1 : Int32) (h : AH) : Snd X yX5_isIn cX5_isIn 2 (some .boolean) 0 0 rI [vR v0, vI v1] h (f_X5_isIn v0 v1 h) := by
  refine snd_of hX (by decide +kernel) (Nat.le_of_ble_eq_true rfl) ?_
  show Gp (p_X5_isIn X h) RX5 "isIn" cX5_isIn (some .boolean) 0 [(0, vR v0), (1, vI v1)] [] h _
  unfold f_X5_isIn
  refine g_aload_n 0 dX5_isIn_0 rfl rfl ?_
  refine g_getI kfl_X5_34 fo_X5_inside dX5_isIn_1 (fun t1 => ?_)
  refine g_iload_n 1 dX5_isIn_4 rfl rfl ?_
  refine g_ishr dX5_isIn_5 ?_
  refine g_iconst (v := 1) dX5_isIn_6 (by decide) ?_
  refine g_iand dX5_isIn_7 ?_
  refine g_iconst (v := 1) dX5_isIn_8 (by decide) ?_
  refine g_icmpne (tgt := 16) dX5_isIn_9 (by decide) ?_ ?_
  · refine g_iconst (v := 0) dX5_isIn_16 (by decide) ?_
    exact g_zreturn (by decide +kernel) rfl dX5_isIn_17
  · refine g_iconst (v := 1) dX5_isIn_12 (by decide) ?_
    refine g_goto (tgt := 17) dX5_isIn_13 (by decide) ?_
    exact g_zreturn (by decide +kernel) rfl dX5_isIn_17
abbrev p_X5_canTell (X : GX) (h0 : AH) : PX Int32 := (X, rI, (1, 21, 2), h0)
def f_X5_canTell (v0 : Option Nat) (v1 : Int32) (h : AH) : Option (Int32 × AH) :=
    bd (cv h v0 5 (f_X5_isIn v0 v1 h)) fun r2 h1 =>
    (if r2 = 0 then
    some (0, h1)
    else (gR h1 v0 [5] 3).bind fun t3 =>
    (iA h1 t3 v1).bind fun t4 =>
    (if t4 ≤ 0 then
    some (0, h1)
    else some (1, h1)))
set_option maxRecDepth 100000 in
set_option maxHeartbeats 4000000 in
theorem s_X5_canTell {X : GX} (hX : XOK X) (v0 : Option Nat) (v1 : Int32) (h : AH) : Snd X yX5_canTell cX5_canTell 2 (some .boolean) 1 21 rI [vR v0, vI v1] h (f_X5_canTell v0 v1 h) := by
  refine snd_of hX (by decide +kernel) (Nat.le_of_ble_eq_true rfl) ?_
  show Gp (p_X5_canTell X h) RX5 "canTell" cX5_canTell (some .boolean) 0 [(0, vR v0), (1, vI v1)] [] h _
  unfold f_X5_canTell
  refine g_aload_n 0 dX5_canTell_0 rfl rfl ?_
  refine g_iload_n 1 dX5_canTell_1 rfl rfl ?_
  refine g_callVI (st := []) (ci := 5) rfl (s_X5_isIn hX v0 v1 h) kml_X5_59 kim_X5_isIn kse_X5_isIn kii_X5 kcd_X5_isIn rfl ds_X5_isIn rfl ⟨Nat.le_of_ble_eq_true rfl, Nat.le_of_ble_eq_true rfl⟩ (Nat.le_of_ble_eq_true rfl) rfl dX5_canTell_2 (fun r2 h1 => ?_)
  refine g_ifeq (tgt := 21) dX5_canTell_5 (by decide) ?_ ?_
  · refine g_iconst (v := 0) dX5_canTell_21 (by decide) ?_
    exact g_zreturn (by decide +kernel) rfl dX5_canTell_22
  · refine g_aload_n 0 dX5_canTell_8 rfl rfl ?_
    refine g_getR kfl_X5_24 fo_X5_secrets dX5_canTell_9 (fun t3 => ?_)
    refine g_iload_n 1 dX5_canTell_12 rfl rfl ?_
    refine g_iaload dX5_canTell_13 (fun t4 => ?_)
    refine g_ifle (tgt := 21) dX5_canTell_14 (by decide) ?_ ?_
    · refine g_iconst (v := 0) dX5_canTell_21 (by decide) ?_
      exact g_zreturn (by decide +kernel) rfl dX5_canTell_22
    · refine g_iconst (v := 1) dX5_canTell_17 (by decide) ?_
      refine g_goto (tgt := 22) dX5_canTell_18 (by decide) ?_
      exact g_zreturn (by decide +kernel) rfl dX5_canTell_22
abbrev p_X1_lighterBySecret (X : GX) (h0 : AH) : PX Int32 := (X, rI, (1, 20, 1), h0)
def f_X1_lighterBySecret (v0 : Option Nat) (h : AH) : Option (Int32 × AH) :=
    bd (cu h GF v0 (f_X0_lighterBySecret v0 h)) fun r2 h1 =>
    some ((r2 + 1), h1)
set_option maxRecDepth 100000 in
set_option maxHeartbeats 4000000 in
theorem s_X1_lighterBySecret {X : GX} (hX : XOK X) (v0 : Option Nat) (h : AH) : Snd X yX1_lighterBySecret cX1_lighterBySecret 1 (some .int) 1 20 rI [vR v0] h (f_X1_lighterBySecret v0 h) := by
  refine snd_of hX (by decide +kernel) (Nat.le_of_ble_eq_true rfl) ?_
  show Gp (p_X1_lighterBySecret X h) RX1 "lighterBySecret" cX1_lighterBySecret (some .int) 0 [(0, vR v0)] [] h _
  unfold f_X1_lighterBySecret
  refine g_aload_n 0 dX1_lighterBySecret_0 rfl rfl ?_
  refine g_callUI (st := []) gfCl (s_X0_lighterBySecret hX v0 h) kml_X1_15 ksm_X0_lighterBySecret ksp_X1_X0 kim_X0_lighterBySecret kii_X0 kcd_X0_lighterBySecret ⟨by decide +kernel, ds_X0_lighterBySecret.2.2⟩ rfl ⟨Nat.le_of_ble_eq_true rfl, Nat.le_of_ble_eq_true rfl⟩ (Nat.le_of_ble_eq_true rfl) rfl dX1_lighterBySecret_1 (fun r2 h1 => ?_)
  refine g_iconst (v := 1) dX1_lighterBySecret_4 (by decide) ?_
  refine g_iadd dX1_lighterBySecret_5 ?_
  exact g_ireturn rfl dX1_lighterBySecret_6
abbrev p_X2_lighterBySecret (X : GX) (h0 : AH) : PX Int32 := (X, rI, (0, 0, 1), h0)
def f_X2_lighterBySecret (v0 : Option Nat) (h : AH) : Option (Int32 × AH) :=
    some (0, h)
set_option maxRecDepth 100000 in
set_option maxHeartbeats 4000000 in
theorem s_X2_lighterBySecret {X : GX} (hX : XOK X) (v0 : Option Nat) (h : AH) : Snd X yX2_lighterBySecret cX2_lighterBySecret 1 (some .int) 0 0 rI [vR v0] h (f_X2_lighterBySecret v0 h) := by
  refine snd_of hX (by decide +kernel) (Nat.le_of_ble_eq_true rfl) ?_
  show Gp (p_X2_lighterBySecret X h) RX2 "lighterBySecret" cX2_lighterBySecret (some .int) 0 [(0, vR v0)] [] h _
  unfold f_X2_lighterBySecret
  refine g_iconst (v := 0) dX2_lighterBySecret_0 (by decide) ?_
  exact g_ireturn rfl dX2_lighterBySecret_1
abbrev p_X3_lighterBySecret (X : GX) (h0 : AH) : PX Int32 := (X, rI, (0, 0, 1), h0)
def f_X3_lighterBySecret (v0 : Option Nat) (h : AH) : Option (Int32 × AH) :=
    some (3, h)
set_option maxRecDepth 100000 in
set_option maxHeartbeats 4000000 in
theorem s_X3_lighterBySecret {X : GX} (hX : XOK X) (v0 : Option Nat) (h : AH) : Snd X yX3_lighterBySecret cX3_lighterBySecret 1 (some .int) 0 0 rI [vR v0] h (f_X3_lighterBySecret v0 h) := by
  refine snd_of hX (by decide +kernel) (Nat.le_of_ble_eq_true rfl) ?_
  show Gp (p_X3_lighterBySecret X h) RX3 "lighterBySecret" cX3_lighterBySecret (some .int) 0 [(0, vR v0)] [] h _
  unfold f_X3_lighterBySecret
  refine g_iconst (v := 3) dX3_lighterBySecret_0 (by decide) ?_
  exact g_ireturn rfl dX3_lighterBySecret_1
abbrev p_X4_lighterBySecret (X : GX) (h0 : AH) : PX Int32 := (X, rI, (0, 0, 1), h0)
def f_X4_lighterBySecret (v0 : Option Nat) (h : AH) : Option (Int32 × AH) :=
    some (1, h)
set_option maxRecDepth 100000 in
set_option maxHeartbeats 4000000 in
theorem s_X4_lighterBySecret {X : GX} (hX : XOK X) (v0 : Option Nat) (h : AH) : Snd X yX4_lighterBySecret cX4_lighterBySecret 1 (some .int) 0 0 rI [vR v0] h (f_X4_lighterBySecret v0 h) := by
  refine snd_of hX (by decide +kernel) (Nat.le_of_ble_eq_true rfl) ?_
  show Gp (p_X4_lighterBySecret X h) RX4 "lighterBySecret" cX4_lighterBySecret (some .int) 0 [(0, vR v0)] [] h _
  unfold f_X4_lighterBySecret
  refine g_iconst (v := 1) dX4_lighterBySecret_0 (by decide) ?_
  exact g_ireturn rfl dX4_lighterBySecret_1
abbrev p_X6_lighterBySecret (X : GX) (h0 : AH) : PX Int32 := (X, rI, (0, 0, 1), h0)
def f_X6_lighterBySecret (v0 : Option Nat) (h : AH) : Option (Int32 × AH) :=
    some (1, h)
set_option maxRecDepth 100000 in
set_option maxHeartbeats 4000000 in
theorem s_X6_lighterBySecret {X : GX} (hX : XOK X) (v0 : Option Nat) (h : AH) : Snd X yX6_lighterBySecret cX6_lighterBySecret 1 (some .int) 0 0 rI [vR v0] h (f_X6_lighterBySecret v0 h) := by
  refine snd_of hX (by decide +kernel) (Nat.le_of_ble_eq_true rfl) ?_
  show Gp (p_X6_lighterBySecret X h) RX6 "lighterBySecret" cX6_lighterBySecret (some .int) 0 [(0, vR v0)] [] h _
  unfold f_X6_lighterBySecret
  refine g_iconst (v := 1) dX6_lighterBySecret_0 (by decide) ?_
  exact g_ireturn rfl dX6_lighterBySecret_1
def f_dyn_lighterBySecret (v : Option Nat) (h : AH) : Option (Int32 × AH) := dsp h v (fun c => if c = 0 then f_X0_lighterBySecret v h else if c = 1 then f_X1_lighterBySecret v h else if c = 2 then f_X2_lighterBySecret v h else if c = 3 then f_X3_lighterBySecret v h else if c = 4 then f_X4_lighterBySecret v h else if c = 6 then f_X6_lighterBySecret v h else if c = 8 then f_X0_lighterBySecret v h else if c = 9 then f_X4_lighterBySecret v h else none)
theorem dyn_lighterBySecret {X : GX} (hX : XOK X) (v : Option Nat) (h : AH) : Dyn X yX4_lighterBySecret 2 40 rI [vR v] h (f_dyn_lighterBySecret v h) :=
  dyn_intro (fun c => (dynAt_if (dynAt_of (s_X0_lighterBySecret hX v h) rfl kse_X0_X4_lighterBySecret kim_X0_lighterBySecret kii_X0 kcd_X0_lighterBySecret ⟨Nat.le_of_ble_eq_true rfl, Nat.le_of_ble_eq_true rfl⟩) (dynAt_if (dynAt_of (s_X1_lighterBySecret hX v h) rfl kse_X1_X4_lighterBySecret kim_X1_lighterBySecret kii_X1 kcd_X1_lighterBySecret ⟨Nat.le_of_ble_eq_true rfl, Nat.le_of_ble_eq_true rfl⟩) (dynAt_if (dynAt_of (s_X2_lighterBySecret hX v h) rfl kse_X2_X4_lighterBySecret kim_X2_lighterBySecret kii_X2 kcd_X2_lighterBySecret ⟨Nat.le_of_ble_eq_true rfl, Nat.le_of_ble_eq_true rfl⟩) (dynAt_if (dynAt_of (s_X3_lighterBySecret hX v h) rfl kse_X3_X4_lighterBySecret kim_X3_lighterBySecret kii_X3 kcd_X3_lighterBySecret ⟨Nat.le_of_ble_eq_true rfl, Nat.le_of_ble_eq_true rfl⟩) (dynAt_if (dynAt_of (s_X4_lighterBySecret hX v h) rfl kse_X4_X4_lighterBySecret kim_X4_lighterBySecret kii_X4 kcd_X4_lighterBySecret ⟨Nat.le_of_ble_eq_true rfl, Nat.le_of_ble_eq_true rfl⟩) (dynAt_if (dynAt_of (s_X6_lighterBySecret hX v h) rfl kse_X6_X4_lighterBySecret kim_X6_lighterBySecret kii_X6 kcd_X6_lighterBySecret ⟨Nat.le_of_ble_eq_true rfl, Nat.le_of_ble_eq_true rfl⟩) (dynAt_if (dynAt_of (s_X0_lighterBySecret hX v h) rfl kse_X8_X4_lighterBySecret kim_X0_lighterBySecret kii_X0 kcd_X0_lighterBySecret ⟨Nat.le_of_ble_eq_true rfl, Nat.le_of_ble_eq_true rfl⟩) (dynAt_if (dynAt_of (s_X4_lighterBySecret hX v h) rfl kse_X9_X4_lighterBySecret kim_X4_lighterBySecret kii_X4 kcd_X4_lighterBySecret ⟨Nat.le_of_ble_eq_true rfl, Nat.le_of_ble_eq_true rfl⟩) dynAt_none)))))))))
abbrev p_X5_tellSecret (X : GX) (h0 : AH) : PX Unit := (X, rU, (2, 40, 2), h0)
def f_X5_tellSecret (v0 : Option Nat) (v1 : Int32) (h : AH) : Option (Unit × AH) :=
    (gR h v0 [5] 3).bind fun t1 =>
    (iA h t1 v1).bind fun t2 =>
    (iS h t1 v1 (t2 - 1)).bind fun h3 =>
    (gR h3 v0 [5] 1).bind fun t4 =>
    (gR h3 v0 [5] 1).bind fun t5 =>
    (iA h3 t5 v1).bind fun t6 =>
    (gR h3 v0 [5] 0).bind fun t7 =>
    (rA h3 t7 2 v1).bind fun t8 =>
    bd (f_dyn_lighterBySecret t8 h3) fun r10 h9 =>
    (iS h9 t4 v1 (mmax 0 (t6 - r10))).bind fun h13 =>
    some ((), h13)
set_option maxRecDepth 100000 in
set_option maxHeartbeats 4000000 in
theorem s_X5_tellSecret {X : GX} (hX : XOK X) (v0 : Option Nat) (v1 : Int32) (h : AH) : Snd X yX5_tellSecret cX5_tellSecret 2 none 2 40 rU [vR v0, vI v1] h (f_X5_tellSecret v0 v1 h) := by
  refine snd_of hX (by decide +kernel) (Nat.le_of_ble_eq_true rfl) ?_
  show Gp (p_X5_tellSecret X h) RX5 "tellSecret" cX5_tellSecret none 0 [(0, vR v0), (1, vI v1)] [] h _
  unfold f_X5_tellSecret
  refine g_aload_n 0 dX5_tellSecret_0 rfl rfl ?_
  refine g_getR kfl_X5_24 fo_X5_secrets dX5_tellSecret_1 (fun t1 => ?_)
  refine g_iload_n 1 dX5_tellSecret_4 rfl rfl ?_
  refine g_dup2 dX5_tellSecret_5 rfl rfl ?_
  refine g_iaload dX5_tellSecret_6 (fun t2 => ?_)
  refine g_iconst (v := 1) dX5_tellSecret_7 (by decide) ?_
  refine g_isub dX5_tellSecret_8 ?_
  refine g_iastore dX5_tellSecret_9 (fun h3 => ?_)
  refine g_aload_n 0 dX5_tellSecret_10 rfl rfl ?_
  refine g_getR kfl_X5_17 fo_X5_weight dX5_tellSecret_11 (fun t4 => ?_)
  refine g_iload_n 1 dX5_tellSecret_14 rfl rfl ?_
  refine g_iconst (v := 0) dX5_tellSecret_15 (by decide) ?_
  refine g_aload_n 0 dX5_tellSecret_16 rfl rfl ?_
  refine g_getR kfl_X5_17 fo_X5_weight dX5_tellSecret_17 (fun t5 => ?_)
  refine g_iload_n 1 dX5_tellSecret_20 rfl rfl ?_
  refine g_iaload dX5_tellSecret_21 (fun t6 => ?_)
  refine g_aload_n 0 dX5_tellSecret_22 rfl rfl ?_
  refine g_getR kfl_X5_11 fo_X5_kind dX5_tellSecret_23 (fun t7 => ?_)
  refine g_iload_n 1 dX5_tellSecret_26 rfl rfl ?_
  refine g_aaload (kd := 2) (by decide) (by decide) dX5_tellSecret_27 (fun t8 => ?_)
  refine g_callDI (st := [vI t6, vI 0, vI v1, vR t4]) (dyn_lighterBySecret hX t8 h3) kml_X5_72 ksm_X4_lighterBySecret kim_X4_lighterBySecret kcd_X4_lighterBySecret ds_X4_lighterBySecret rfl ⟨Nat.le_of_ble_eq_true rfl, Nat.le_of_ble_eq_true rfl⟩ (Nat.le_of_ble_eq_true rfl) rfl dX5_tellSecret_28 (fun r10 h9 => ?_)
  refine g_isub dX5_tellSecret_31 ?_
  refine g_mmax kml_X5_66 kst_mmax kii_Math kcd_mmax ⟨Nat.le_of_ble_eq_true rfl, Nat.le_of_ble_eq_true rfl⟩ (Nat.le_of_ble_eq_true rfl) dX5_tellSecret_32 ?_
  refine g_iastore dX5_tellSecret_35 (fun h13 => ?_)
  exact g_return rfl dX5_tellSecret_36
abbrev p_X10_tellSecret (X : GX) (h0 : AH) : PX Int32 := (X, rI, (3, 61, 2), h0)
def f_X10_tellSecret (v0 : Option Nat) (v1 : Int32) (h : AH) : Option (Int32 × AH) :=
    bd (cv h v0 5 (f_X5_knows v0 v1 h)) fun r2 h1 =>
    (if r2 = 0 then
    some (0, h1)
    else bd (cv h1 v0 5 (f_X5_canTell v0 v1 h1)) fun r4 h3 =>
    (if r4 = 0 then
    some (0, h3)
    else bd (cv h3 v0 5 (f_X5_tellSecret v0 v1 h3)) fun u6 h5 =>
    some (1, h5)))
set_option maxRecDepth 100000 in
set_option maxHeartbeats 4000000 in
theorem s_X10_tellSecret {X : GX} (hX : XOK X) (v0 : Option Nat) (v1 : Int32) (h : AH) : Snd X yX10_tellSecret cX10_tellSecret 2 (some .boolean) 3 61 rI [vR v0, vI v1] h (f_X10_tellSecret v0 v1 h) := by
  refine snd_of hX (by decide +kernel) (Nat.le_of_ble_eq_true rfl) ?_
  show Gp (p_X10_tellSecret X h) RX10 "tellSecret" cX10_tellSecret (some .boolean) 0 [(0, vR v0), (1, vI v1)] [] h _
  unfold f_X10_tellSecret
  refine g_aload_n 0 dX10_tellSecret_0 rfl rfl ?_
  refine g_iload_n 1 dX10_tellSecret_1 rfl rfl ?_
  refine g_callVI (st := []) (ci := 5) rfl (s_X5_knows hX v0 v1 h) kml_X10_85 kim_X5_knows kse_X5_knows kii_X5 kcd_X5_knows rfl ds_X5_knows rfl ⟨Nat.le_of_ble_eq_true rfl, Nat.le_of_ble_eq_true rfl⟩ (Nat.le_of_ble_eq_true rfl) rfl dX10_tellSecret_2 (fun r2 h1 => ?_)
  refine g_ifeq (tgt := 16) dX10_tellSecret_5 (by decide) ?_ ?_
  · refine g_iconst (v := 0) dX10_tellSecret_16 (by decide) ?_
    exact g_zreturn (by decide +kernel) rfl dX10_tellSecret_17
  · refine g_aload_n 0 dX10_tellSecret_8 rfl rfl ?_
    refine g_iload_n 1 dX10_tellSecret_9 rfl rfl ?_
    refine g_callVI (st := []) (ci := 5) rfl (s_X5_canTell hX v0 v1 h1) kml_X10_88 kim_X5_canTell kse_X5_canTell kii_X5 kcd_X5_canTell rfl ds_X5_canTell rfl ⟨Nat.le_of_ble_eq_true rfl, Nat.le_of_ble_eq_true rfl⟩ (Nat.le_of_ble_eq_true rfl) rfl dX10_tellSecret_10 (fun r4 h3 => ?_)
    refine g_ifne (tgt := 18) dX10_tellSecret_13 (by decide) ?_ ?_
    · refine g_aload_n 0 dX10_tellSecret_18 rfl rfl ?_
      refine g_iload_n 1 dX10_tellSecret_19 rfl rfl ?_
      refine g_callVU (st := []) (ci := 5) rfl (s_X5_tellSecret hX v0 v1 h3) kml_X10_91 kim_X5_tellSecret kse_X5_tellSecret kii_X5 kcd_X5_tellSecret rfl ds_X5_tellSecret rfl ⟨Nat.le_of_ble_eq_true rfl, Nat.le_of_ble_eq_true rfl⟩ (Nat.le_of_ble_eq_true rfl) rfl dX10_tellSecret_20 (fun u6 h5 => ?_)
      refine g_iconst (v := 1) dX10_tellSecret_23 (by decide) ?_
      exact g_zreturn (by decide +kernel) rfl dX10_tellSecret_24
    · refine g_iconst (v := 0) dX10_tellSecret_16 (by decide) ?_
      exact g_zreturn (by decide +kernel) rfl dX10_tellSecret_17
abbrev p_X10_setSecrets (X : GX) (h0 : AH) : PX Int32 := (X, rI, (1, 21, 3), h0)
def f_X10_setSecrets (v0 : Option Nat) (v1 : Int32) (v2 : Int32) (h : AH) : Option (Int32 × AH) :=
    bd (cv h v0 5 (f_X5_knows v0 v1 h)) fun r2 h1 =>
    (if r2 = 0 then
    some (0, h1)
    else (gR h1 v0 [5] 3).bind fun t3 =>
    (iS h1 t3 v1 v2).bind fun h4 =>
    some (1, h4))
set_option maxRecDepth 100000 in
set_option maxHeartbeats 4000000 in
theorem s_X10_setSecrets {X : GX} (hX : XOK X) (v0 : Option Nat) (v1 : Int32) (v2 : Int32) (h : AH) : Snd X yX10_setSecrets cX10_setSecrets 3 (some .boolean) 1 21 rI [vR v0, vI v1, vI v2] h (f_X10_setSecrets v0 v1 v2 h) := by
  refine snd_of hX (by decide +kernel) (Nat.le_of_ble_eq_true rfl) ?_
  show Gp (p_X10_setSecrets X h) RX10 "setSecrets" cX10_setSecrets (some .boolean) 0 [(0, vR v0), (1, vI v1), (2, vI v2)] [] h _
  unfold f_X10_setSecrets
  refine g_aload_n 0 dX10_setSecrets_0 rfl rfl ?_
  refine g_iload_n 1 dX10_setSecrets_1 rfl rfl ?_
  refine g_callVI (st := []) (ci := 5) rfl (s_X5_knows hX v0 v1 h) kml_X10_85 kim_X5_knows kse_X5_knows kii_X5 kcd_X5_knows rfl ds_X5_knows rfl ⟨Nat.le_of_ble_eq_true rfl, Nat.le_of_ble_eq_true rfl⟩ (Nat.le_of_ble_eq_true rfl) rfl dX10_setSecrets_2 (fun r2 h1 => ?_)
  refine g_ifne (tgt := 10) dX10_setSecrets_5 (by decide) ?_ ?_
  · refine g_aload_n 0 dX10_setSecrets_10 rfl rfl ?_
    refine g_getR kfl_X10_101 fo_X5_secrets dX10_setSecrets_11 (fun t3 => ?_)
    refine g_iload_n 1 dX10_setSecrets_14 rfl rfl ?_
    refine g_iload_n 2 dX10_setSecrets_15 rfl rfl ?_
    refine g_iastore dX10_setSecrets_16 (fun h4 => ?_)
    refine g_iconst (v := 1) dX10_setSecrets_17 (by decide) ?_
    exact g_zreturn (by decide +kernel) rfl dX10_setSecrets_18
  · refine g_iconst (v := 0) dX10_setSecrets_8 (by decide) ?_
    exact g_zreturn (by decide +kernel) rfl dX10_setSecrets_9
abbrev p_X10_twoDigits (X : GX) (h0 : AH) : PX Int32 := (X, rI, (3, 63, 2), h0)
def f_X10_twoDigits (v0 : Option Nat) (v1 : Int32) (h : AH) : Option (Int32 × AH) :=
    bd (cv h v0 10 (f_X10_digit v0 v1 h)) fun r2 h1 =>
    bd (cv h1 v0 10 (f_X10_digit v0 (v1 + 1) h1)) fun r4 h3 =>
    some (((10 * r2) + r4), h3)
set_option maxRecDepth 100000 in
set_option maxHeartbeats 4000000 in
theorem s_X10_twoDigits {X : GX} (hX : XOK X) (v0 : Option Nat) (v1 : Int32) (h : AH) : Snd X yX10_twoDigits cX10_twoDigits 2 (some .int) 3 63 rI [vR v0, vI v1] h (f_X10_twoDigits v0 v1 h) := by
  refine snd_of hX (by decide +kernel) (Nat.le_of_ble_eq_true rfl) ?_
  show Gp (p_X10_twoDigits X h) RX10 "twoDigits" cX10_twoDigits (some .int) 0 [(0, vR v0), (1, vI v1)] [] h _
  unfold f_X10_twoDigits
  refine g_bipush (v := 10) dX10_twoDigits_0 (by decide) ?_
  refine g_aload_n 0 dX10_twoDigits_2 rfl rfl ?_
  refine g_iload_n 1 dX10_twoDigits_3 rfl rfl ?_
  refine g_callVI (st := [vI 10]) (ci := 10) rfl (s_X10_digit hX v0 v1 h) kml_X10_34 kim_X10_digit kse_X10_digit kii_X10 kcd_X10_digit rfl ds_X10_digit rfl ⟨Nat.le_of_ble_eq_true rfl, Nat.le_of_ble_eq_true rfl⟩ (Nat.le_of_ble_eq_true rfl) rfl dX10_twoDigits_4 (fun r2 h1 => ?_)
  refine g_imul dX10_twoDigits_7 ?_
  refine g_aload_n 0 dX10_twoDigits_8 rfl rfl ?_
  refine g_iload_n 1 dX10_twoDigits_9 rfl rfl ?_
  refine g_iconst (v := 1) dX10_twoDigits_10 (by decide) ?_
  refine g_iadd dX10_twoDigits_11 ?_
  refine g_callVI (st := [vI ((10 * r2))]) (ci := 10) rfl (s_X10_digit hX v0 (v1 + 1) h1) kml_X10_34 kim_X10_digit kse_X10_digit kii_X10 kcd_X10_digit rfl ds_X10_digit rfl ⟨Nat.le_of_ble_eq_true rfl, Nat.le_of_ble_eq_true rfl⟩ (Nat.le_of_ble_eq_true rfl) rfl dX10_twoDigits_12 (fun r4 h3 => ?_)
  refine g_iadd dX10_twoDigits_15 ?_
  exact g_ireturn rfl dX10_twoDigits_16
abbrev p_X5_canLend (X : GX) (h0 : AH) : PX Int32 := (X, rI, (1, 21, 4), h0)
def f_X5_canLend (v0 : Option Nat) (v1 : Int32) (v2 : Int32) (v3 : Int32) (h : AH) : Option (Int32 × AH) :=
    bd (cv h v0 5 (f_X5_isIn v0 v1 h)) fun r2 h1 =>
    (if r2 = 0 then
    some (0, h1)
    else bd (cv h1 v0 5 (f_X5_isIn v0 v2 h1)) fun r4 h3 =>
    (if r4 = 0 then
    some (0, h3)
    else (gR h3 v0 [5] 1).bind fun t5 =>
    (iA h3 t5 v1).bind fun t6 =>
    (if t6 < v3 then
    some (0, h3)
    else (gR h3 v0 [5] 1).bind fun t7 =>
    (iA h3 t7 v2).bind fun t8 =>
    (if 99 < (t8 + v3) then
    some (0, h3)
    else some (1, h3)))))
set_option maxRecDepth 100000 in
set_option maxHeartbeats 4000000 in
theorem s_X5_canLend {X : GX} (hX : XOK X) (v0 : Option Nat) (v1 : Int32) (v2 : Int32) (v3 : Int32) (h : AH) : Snd X yX5_canLend cX5_canLend 4 (some .boolean) 1 21 rI [vR v0, vI v1, vI v2, vI v3] h (f_X5_canLend v0 v1 v2 v3 h) := by
  refine snd_of hX (by decide +kernel) (Nat.le_of_ble_eq_true rfl) ?_
  show Gp (p_X5_canLend X h) RX5 "canLend" cX5_canLend (some .boolean) 0 [(0, vR v0), (1, vI v1), (2, vI v2), (3, vI v3)] [] h _
  unfold f_X5_canLend
  refine g_aload_n 0 dX5_canLend_0 rfl rfl ?_
  refine g_iload_n 1 dX5_canLend_1 rfl rfl ?_
  refine g_callVI (st := []) (ci := 5) rfl (s_X5_isIn hX v0 v1 h) kml_X5_59 kim_X5_isIn kse_X5_isIn kii_X5 kcd_X5_isIn rfl ds_X5_isIn rfl ⟨Nat.le_of_ble_eq_true rfl, Nat.le_of_ble_eq_true rfl⟩ (Nat.le_of_ble_eq_true rfl) rfl dX5_canLend_2 (fun r2 h1 => ?_)
  refine g_ifeq (tgt := 43) dX5_canLend_5 (by decide) ?_ ?_
  · refine g_iconst (v := 0) dX5_canLend_43 (by decide) ?_
    exact g_zreturn (by decide +kernel) rfl dX5_canLend_44
  · refine g_aload_n 0 dX5_canLend_8 rfl rfl ?_
    refine g_iload_n 2 dX5_canLend_9 rfl rfl ?_
    refine g_callVI (st := []) (ci := 5) rfl (s_X5_isIn hX v0 v2 h1) kml_X5_59 kim_X5_isIn kse_X5_isIn kii_X5 kcd_X5_isIn rfl ds_X5_isIn rfl ⟨Nat.le_of_ble_eq_true rfl, Nat.le_of_ble_eq_true rfl⟩ (Nat.le_of_ble_eq_true rfl) rfl dX5_canLend_10 (fun r4 h3 => ?_)
    refine g_ifeq (tgt := 43) dX5_canLend_13 (by decide) ?_ ?_
    · refine g_iconst (v := 0) dX5_canLend_43 (by decide) ?_
      exact g_zreturn (by decide +kernel) rfl dX5_canLend_44
    · refine g_aload_n 0 dX5_canLend_16 rfl rfl ?_
      refine g_getR kfl_X5_17 fo_X5_weight dX5_canLend_17 (fun t5 => ?_)
      refine g_iload_n 1 dX5_canLend_20 rfl rfl ?_
      refine g_iaload dX5_canLend_21 (fun t6 => ?_)
      refine g_iload_n 3 dX5_canLend_22 rfl rfl ?_
      refine g_icmplt (tgt := 43) dX5_canLend_23 (by decide) ?_ ?_
      · refine g_iconst (v := 0) dX5_canLend_43 (by decide) ?_
        exact g_zreturn (by decide +kernel) rfl dX5_canLend_44
      · refine g_aload_n 0 dX5_canLend_26 rfl rfl ?_
        refine g_getR kfl_X5_17 fo_X5_weight dX5_canLend_27 (fun t7 => ?_)
        refine g_iload_n 2 dX5_canLend_30 rfl rfl ?_
        refine g_iaload dX5_canLend_31 (fun t8 => ?_)
        refine g_iload_n 3 dX5_canLend_32 rfl rfl ?_
        refine g_iadd dX5_canLend_33 ?_
        refine g_bipush (v := 99) dX5_canLend_34 (by decide) ?_
        refine g_icmpgt (tgt := 43) dX5_canLend_36 (by decide) ?_ ?_
        · refine g_iconst (v := 0) dX5_canLend_43 (by decide) ?_
          exact g_zreturn (by decide +kernel) rfl dX5_canLend_44
        · refine g_iconst (v := 1) dX5_canLend_39 (by decide) ?_
          refine g_goto (tgt := 44) dX5_canLend_40 (by decide) ?_
          exact g_zreturn (by decide +kernel) rfl dX5_canLend_44
abbrev p_X5_lendPounds (X : GX) (h0 : AH) : PX Unit := (X, rU, (0, 0, 4), h0)
def f_X5_lendPounds (v0 : Option Nat) (v1 : Int32) (v2 : Int32) (v3 : Int32) (h : AH) : Option (Unit × AH) :=
    (gR h v0 [5] 1).bind fun t1 =>
    (iA h t1 v1).bind fun t2 =>
    (iS h t1 v1 (t2 - v3)).bind fun h3 =>
    (gR h3 v0 [5] 1).bind fun t4 =>
    (iA h3 t4 v2).bind fun t5 =>
    (iS h3 t4 v2 (t5 + v3)).bind fun h6 =>
    some ((), h6)
set_option maxRecDepth 100000 in
set_option maxHeartbeats 4000000 in
theorem s_X5_lendPounds {X : GX} (hX : XOK X) (v0 : Option Nat) (v1 : Int32) (v2 : Int32) (v3 : Int32) (h : AH) : Snd X yX5_lendPounds cX5_lendPounds 4 none 0 0 rU [vR v0, vI v1, vI v2, vI v3] h (f_X5_lendPounds v0 v1 v2 v3 h) := by
  refine snd_of hX (by decide +kernel) (Nat.le_of_ble_eq_true rfl) ?_
  show Gp (p_X5_lendPounds X h) RX5 "lendPounds" cX5_lendPounds none 0 [(0, vR v0), (1, vI v1), (2, vI v2), (3, vI v3)] [] h _
  unfold f_X5_lendPounds
  refine g_aload_n 0 dX5_lendPounds_0 rfl rfl ?_
  refine g_getR kfl_X5_17 fo_X5_weight dX5_lendPounds_1 (fun t1 => ?_)
  refine g_iload_n 1 dX5_lendPounds_4 rfl rfl ?_
  refine g_dup2 dX5_lendPounds_5 rfl rfl ?_
  refine g_iaload dX5_lendPounds_6 (fun t2 => ?_)
  refine g_iload_n 3 dX5_lendPounds_7 rfl rfl ?_
  refine g_isub dX5_lendPounds_8 ?_
  refine g_iastore dX5_lendPounds_9 (fun h3 => ?_)
  refine g_aload_n 0 dX5_lendPounds_10 rfl rfl ?_
  refine g_getR kfl_X5_17 fo_X5_weight dX5_lendPounds_11 (fun t4 => ?_)
  refine g_iload_n 2 dX5_lendPounds_14 rfl rfl ?_
  refine g_dup2 dX5_lendPounds_15 rfl rfl ?_
  refine g_iaload dX5_lendPounds_16 (fun t5 => ?_)
  refine g_iload_n 3 dX5_lendPounds_17 rfl rfl ?_
  refine g_iadd dX5_lendPounds_18 ?_
  refine g_iastore dX5_lendPounds_19 (fun h6 => ?_)
  exact g_return rfl dX5_lendPounds_20
abbrev p_X10_lendPounds (X : GX) (h0 : AH) : PX Int32 := (X, rI, (2, 44, 5), h0)
def f_X10_lendPounds_b26 (x0 : Option Nat) (x1 : Int32) (x2 : Int32) (x3 : Int32) (y0 : Int32) (h : AH) : Option (Int32 × AH) :=
    (if y0 = 0 then
    some (0, h)
    else (if x3 < 1 then
    some (0, h)
    else (if 20 < x3 then
    some (0, h)
    else bd (cv h x0 5 (f_X5_canLend x0 x1 x2 x3 h)) fun r4 h3 =>
    (if r4 = 0 then
    some (0, h3)
    else bd (cv h3 x0 5 (f_X5_lendPounds x0 x1 x2 x3 h3)) fun u6 h5 =>
    some (1, h5)))))
set_option maxRecDepth 100000 in
set_option maxHeartbeats 4000000 in
theorem s_X10_lendPounds_b26 {X : GX} (hX : XOK X) {h0 : AH} : ∀ (x0 : Option Nat) (x1 : Int32) (x2 : Int32) (x3 : Int32) (y0 : Int32) (h : AH), Gp (p_X10_lendPounds X h0) RX10 "lendPounds" cX10_lendPounds (some .boolean) 26 [(0, vR x0), (1, vI x1), (2, vI x2), (3, vI x3)] [vI y0] h (f_X10_lendPounds_b26 x0 x1 x2 x3 y0 h) := by
  intro x0 x1 x2 x3 y0 h
  unfold f_X10_lendPounds_b26
  refine g_istore (ls' := [(4, vI y0), (0, vR x0), (1, vI x1), (2, vI x2), (3, vI x3)]) dX10_lendPounds_26 (Nat.le_of_ble_eq_true rfl) rfl ?_
  refine g_iload 0 dX10_lendPounds_28 rfl ?_
  refine g_ifeq (tgt := 54) dX10_lendPounds_30 (by decide) ?_ ?_
  · refine g_iconst (v := 0) dX10_lendPounds_54 (by decide) ?_
    exact g_zreturn (by decide +kernel) rfl dX10_lendPounds_55
  · refine g_iload_n 4 dX10_lendPounds_33 rfl rfl ?_
    refine g_iconst (v := 1) dX10_lendPounds_34 (by decide) ?_
    refine g_icmplt (tgt := 54) dX10_lendPounds_35 (by decide) ?_ ?_
    · refine g_iconst (v := 0) dX10_lendPounds_54 (by decide) ?_
      exact g_zreturn (by decide +kernel) rfl dX10_lendPounds_55
    · refine g_iload_n 4 dX10_lendPounds_38 rfl rfl ?_
      refine g_bipush (v := 20) dX10_lendPounds_39 (by decide) ?_
      refine g_icmpgt (tgt := 54) dX10_lendPounds_41 (by decide) ?_ ?_
      · refine g_iconst (v := 0) dX10_lendPounds_54 (by decide) ?_
        exact g_zreturn (by decide +kernel) rfl dX10_lendPounds_55
      · refine g_aload_n 1 dX10_lendPounds_44 rfl rfl ?_
        refine g_iload_n 2 dX10_lendPounds_45 rfl rfl ?_
        refine g_iload_n 3 dX10_lendPounds_46 rfl rfl ?_
        refine g_iload_n 4 dX10_lendPounds_47 rfl rfl ?_
        refine g_callVI (st := []) (ci := 5) rfl (s_X5_canLend hX x0 x1 x2 x3 h) kml_X10_94 kim_X5_canLend kse_X5_canLend kii_X5 kcd_X5_canLend rfl ds_X5_canLend rfl ⟨Nat.le_of_ble_eq_true rfl, Nat.le_of_ble_eq_true rfl⟩ (Nat.le_of_ble_eq_true rfl) rfl dX10_lendPounds_48 (fun r4 h3 => ?_)
        refine g_ifne (tgt := 56) dX10_lendPounds_51 (by decide) ?_ ?_
        · refine g_aload_n 1 dX10_lendPounds_56 rfl rfl ?_
          refine g_iload_n 2 dX10_lendPounds_57 rfl rfl ?_
          refine g_iload_n 3 dX10_lendPounds_58 rfl rfl ?_
          refine g_iload_n 4 dX10_lendPounds_59 rfl rfl ?_
          refine g_callVU (st := []) (ci := 5) rfl (s_X5_lendPounds hX x0 x1 x2 x3 h3) kml_X10_98 kim_X5_lendPounds kse_X5_lendPounds kii_X5 kcd_X5_lendPounds rfl ds_X5_lendPounds rfl ⟨Nat.le_of_ble_eq_true rfl, Nat.le_of_ble_eq_true rfl⟩ (Nat.le_of_ble_eq_true rfl) rfl dX10_lendPounds_60 (fun u6 h5 => ?_)
          refine g_iconst (v := 1) dX10_lendPounds_63 (by decide) ?_
          exact g_zreturn (by decide +kernel) rfl dX10_lendPounds_64
        · refine g_iconst (v := 0) dX10_lendPounds_54 (by decide) ?_
          exact g_zreturn (by decide +kernel) rfl dX10_lendPounds_55
def f_X10_lendPounds_b25 (x0 : Option Nat) (x1 : Int32) (x2 : Int32) (x3 : Int32) (h : AH) : Option (Int32 × AH) :=
    f_X10_lendPounds_b26 x0 x1 x2 x3 0 h
set_option maxRecDepth 100000 in
set_option maxHeartbeats 4000000 in
theorem s_X10_lendPounds_b25 {X : GX} (hX : XOK X) {h0 : AH} : ∀ (x0 : Option Nat) (x1 : Int32) (x2 : Int32) (x3 : Int32) (h : AH), Gp (p_X10_lendPounds X h0) RX10 "lendPounds" cX10_lendPounds (some .boolean) 25 [(0, vR x0), (1, vI x1), (2, vI x2), (3, vI x3)] [] h (f_X10_lendPounds_b25 x0 x1 x2 x3 h) := by
  intro x0 x1 x2 x3 h
  unfold f_X10_lendPounds_b25
  refine g_iconst (v := 0) dX10_lendPounds_25 (by decide) ?_
  exact g_sub2 [0, 1, 2, 3] rfl (s_X10_lendPounds_b26 hX x0 x1 x2 x3 0 h)
def f_X10_lendPounds (v0 : Option Nat) (v1 : Int32) (v2 : Int32) (v3 : Int32) (h : AH) : Option (Int32 × AH) :=
    bd (cv h v0 5 (f_X5_knows v0 v1 h)) fun r2 h1 =>
    (if r2 = 0 then
    f_X10_lendPounds_b25 v0 v1 v2 v3 h1
    else bd (cv h1 v0 5 (f_X5_knows v0 v2 h1)) fun r8 h7 =>
    (if r8 = 0 then
    f_X10_lendPounds_b25 v0 v1 v2 v3 h7
    else (if v1 = v2 then
    f_X10_lendPounds_b25 v0 v1 v2 v3 h7
    else f_X10_lendPounds_b26 v0 v1 v2 v3 1 h7)))
set_option maxRecDepth 100000 in
set_option maxHeartbeats 4000000 in
theorem s_X10_lendPounds {X : GX} (hX : XOK X) (v0 : Option Nat) (v1 : Int32) (v2 : Int32) (v3 : Int32) (h : AH) : Snd X yX10_lendPounds cX10_lendPounds 5 (some .boolean) 2 44 rI [vR v0, vI v1, vI v2, vI v3] h (f_X10_lendPounds v0 v1 v2 v3 h) := by
  refine snd_of hX (by decide +kernel) (Nat.le_of_ble_eq_true rfl) ?_
  show Gp (p_X10_lendPounds X h) RX10 "lendPounds" cX10_lendPounds (some .boolean) 0 [(0, vR v0), (1, vI v1), (2, vI v2), (3, vI v3)] [] h _
  unfold f_X10_lendPounds
  refine g_aload_n 0 dX10_lendPounds_0 rfl rfl ?_
  refine g_iload_n 1 dX10_lendPounds_1 rfl rfl ?_
  refine g_callVI (st := []) (ci := 5) rfl (s_X5_knows hX v0 v1 h) kml_X10_85 kim_X5_knows kse_X5_knows kii_X5 kcd_X5_knows rfl ds_X5_knows rfl ⟨Nat.le_of_ble_eq_true rfl, Nat.le_of_ble_eq_true rfl⟩ (Nat.le_of_ble_eq_true rfl) rfl dX10_lendPounds_2 (fun r2 h1 => ?_)
  refine g_ifeq (tgt := 25) dX10_lendPounds_5 (by decide) ?_ ?_
  · exact g_sub2 [0, 1, 2, 3] rfl (s_X10_lendPounds_b25 hX v0 v1 v2 v3 h1)
  · refine g_aload_n 0 dX10_lendPounds_8 rfl rfl ?_
    refine g_iload_n 2 dX10_lendPounds_9 rfl rfl ?_
    refine g_callVI (st := []) (ci := 5) rfl (s_X5_knows hX v0 v2 h1) kml_X10_85 kim_X5_knows kse_X5_knows kii_X5 kcd_X5_knows rfl ds_X5_knows rfl ⟨Nat.le_of_ble_eq_true rfl, Nat.le_of_ble_eq_true rfl⟩ (Nat.le_of_ble_eq_true rfl) rfl dX10_lendPounds_10 (fun r8 h7 => ?_)
    refine g_ifeq (tgt := 25) dX10_lendPounds_13 (by decide) ?_ ?_
    · exact g_sub2 [0, 1, 2, 3] rfl (s_X10_lendPounds_b25 hX v0 v1 v2 v3 h7)
    · refine g_iload_n 1 dX10_lendPounds_16 rfl rfl ?_
      refine g_iload_n 2 dX10_lendPounds_17 rfl rfl ?_
      refine g_icmpeq (tgt := 25) dX10_lendPounds_18 (by decide) ?_ ?_
      · exact g_sub2 [0, 1, 2, 3] rfl (s_X10_lendPounds_b25 hX v0 v1 v2 v3 h7)
      · refine g_iconst (v := 1) dX10_lendPounds_21 (by decide) ?_
        refine g_goto (tgt := 26) dX10_lendPounds_22 (by decide) ?_
        exact g_sub2 [0, 1, 2, 3] rfl (s_X10_lendPounds_b26 hX v0 v1 v2 v3 1 h7)
abbrev p_X5_isFull (X : GX) (h0 : AH) : PX Int32 := (X, rI, (0, 0, 1), h0)
def f_X5_isFull (v0 : Option Nat) (h : AH) : Option (Int32 × AH) :=
    (gI h v0 [5] 5).bind fun t1 =>
    (if t1 < 7 then
    some (0, h)
    else some (1, h))
set_option maxRecDepth 100000 in
set_option maxHeartbeats 4000000 in
theorem s_X5_isFull {X : GX} (hX : XOK X) (v0 : Option Nat) (h : AH) : Snd X yX5_isFull cX5_isFull 1 (some .boolean) 0 0 rI [vR v0] h (f_X5_isFull v0 h) := by
  refine snd_of hX (by decide +kernel) (Nat.le_of_ble_eq_true rfl) ?_
  show Gp (p_X5_isFull X h) RX5 "isFull" cX5_isFull (some .boolean) 0 [(0, vR v0)] [] h _
  unfold f_X5_isFull
  refine g_aload_n 0 dX5_isFull_0 rfl rfl ?_
  refine g_getI kfl_X5_30 fo_X5_guests dX5_isFull_1 (fun t1 => ?_)
  refine g_bipush (v := 7) dX5_isFull_4 (by decide) ?_
  refine g_icmplt (tgt := 13) dX5_isFull_6 (by decide) ?_ ?_
  · refine g_iconst (v := 0) dX5_isFull_13 (by decide) ?_
    exact g_zreturn (by decide +kernel) rfl dX5_isFull_14
  · refine g_iconst (v := 1) dX5_isFull_9 (by decide) ?_
    refine g_goto (tgt := 14) dX5_isFull_10 (by decide) ?_
    exact g_zreturn (by decide +kernel) rfl dX5_isFull_14
abbrev p_X8_init (X : GX) (h0 : AH) : PX Unit := (X, rU, (3, 64, 3), h0)
def f_X8_init (v0 : Option Nat) (v1 : Int32) (v2 : Int32) (h : AH) : Option (Unit × AH) :=
    bd (nn v0 (f_X0_init v0 v1 v2 h)) fun u2 h1 =>
    some ((), h1)
set_option maxRecDepth 100000 in
set_option maxHeartbeats 4000000 in
theorem s_X8_init {X : GX} (hX : XOK X) (v0 : Option Nat) (v1 : Int32) (v2 : Int32) (h : AH) : Snd X yX8_init cX8_init 3 none 3 64 rU [vR v0, vI v1, vI v2] h (f_X8_init v0 v1 v2 h) := by
  refine snd_of hX (by decide +kernel) (Nat.le_of_ble_eq_true rfl) ?_
  show Gp (p_X8_init X h) RX8 "<init>" cX8_init none 0 [(0, vR v0), (1, vI v1), (2, vI v2)] [] h _
  unfold f_X8_init
  refine g_aload_n 0 dX8_init_0 rfl rfl ?_
  refine g_iload_n 1 dX8_init_1 rfl rfl ?_
  refine g_iload_n 2 dX8_init_2 rfl rfl ?_
  refine g_callI2 (st := []) (s_X0_init hX v0 v1 v2 h) kml_X8_1 kim_X0_init kii_X0 kcd_X0_init rfl ds_X0_init rfl ⟨Nat.le_of_ble_eq_true rfl, Nat.le_of_ble_eq_true rfl⟩ (Nat.le_of_ble_eq_true rfl) rfl dX8_init_3 (fun u2 h1 => ?_)
  exact g_return rfl dX8_init_6
abbrev p_X2_init (X : GX) (h0 : AH) : PX Unit := (X, rU, (2, 42, 3), h0)
def f_X2_init (v0 : Option Nat) (v1 : Int32) (v2 : Int32) (h : AH) : Option (Unit × AH) :=
    bd (nn v0 (f_X4_init v0 v1 v2 h)) fun u2 h1 =>
    some ((), h1)
set_option maxRecDepth 100000 in
set_option maxHeartbeats 4000000 in
theorem s_X2_init {X : GX} (hX : XOK X) (v0 : Option Nat) (v1 : Int32) (v2 : Int32) (h : AH) : Snd X yX2_init cX2_init 3 none 2 42 rU [vR v0, vI v1, vI v2] h (f_X2_init v0 v1 v2 h) := by
  refine snd_of hX (by decide +kernel) (Nat.le_of_ble_eq_true rfl) ?_
  show Gp (p_X2_init X h) RX2 "<init>" cX2_init none 0 [(0, vR v0), (1, vI v1), (2, vI v2)] [] h _
  unfold f_X2_init
  refine g_aload_n 0 dX2_init_0 rfl rfl ?_
  refine g_iload_n 1 dX2_init_1 rfl rfl ?_
  refine g_iload_n 2 dX2_init_2 rfl rfl ?_
  refine g_callI2 (st := []) (s_X4_init hX v0 v1 v2 h) kml_X2_1 kim_X4_init kii_X4 kcd_X4_init rfl ds_X4_init rfl ⟨Nat.le_of_ble_eq_true rfl, Nat.le_of_ble_eq_true rfl⟩ (Nat.le_of_ble_eq_true rfl) rfl dX2_init_3 (fun u2 h1 => ?_)
  exact g_return rfl dX2_init_6
abbrev p_X6_init (X : GX) (h0 : AH) : PX Unit := (X, rU, (3, 64, 3), h0)
def f_X6_init (v0 : Option Nat) (v1 : Int32) (v2 : Int32) (h : AH) : Option (Unit × AH) :=
    bd (nn v0 (f_X2_init v0 v1 v2 h)) fun u2 h1 =>
    some ((), h1)
set_option maxRecDepth 100000 in
set_option maxHeartbeats 4000000 in
theorem s_X6_init {X : GX} (hX : XOK X) (v0 : Option Nat) (v1 : Int32) (v2 : Int32) (h : AH) : Snd X yX6_init cX6_init 3 none 3 64 rU [vR v0, vI v1, vI v2] h (f_X6_init v0 v1 v2 h) := by
  refine snd_of hX (by decide +kernel) (Nat.le_of_ble_eq_true rfl) ?_
  show Gp (p_X6_init X h) RX6 "<init>" cX6_init none 0 [(0, vR v0), (1, vI v1), (2, vI v2)] [] h _
  unfold f_X6_init
  refine g_aload_n 0 dX6_init_0 rfl rfl ?_
  refine g_iload_n 1 dX6_init_1 rfl rfl ?_
  refine g_iload_n 2 dX6_init_2 rfl rfl ?_
  refine g_callI2 (st := []) (s_X2_init hX v0 v1 v2 h) kml_X6_1 kim_X2_init kii_X2 kcd_X2_init rfl ds_X2_init rfl ⟨Nat.le_of_ble_eq_true rfl, Nat.le_of_ble_eq_true rfl⟩ (Nat.le_of_ble_eq_true rfl) rfl dX6_init_3 (fun u2 h1 => ?_)
  exact g_return rfl dX6_init_6
abbrev p_X9_init (X : GX) (h0 : AH) : PX Unit := (X, rU, (2, 42, 3), h0)
def f_X9_init (v0 : Option Nat) (v1 : Int32) (v2 : Int32) (h : AH) : Option (Unit × AH) :=
    bd (nn v0 (f_X4_init v0 v1 v2 h)) fun u2 h1 =>
    some ((), h1)
set_option maxRecDepth 100000 in
set_option maxHeartbeats 4000000 in
theorem s_X9_init {X : GX} (hX : XOK X) (v0 : Option Nat) (v1 : Int32) (v2 : Int32) (h : AH) : Snd X yX9_init cX9_init 3 none 2 42 rU [vR v0, vI v1, vI v2] h (f_X9_init v0 v1 v2 h) := by
  refine snd_of hX (by decide +kernel) (Nat.le_of_ble_eq_true rfl) ?_
  show Gp (p_X9_init X h) RX9 "<init>" cX9_init none 0 [(0, vR v0), (1, vI v1), (2, vI v2)] [] h _
  unfold f_X9_init
  refine g_aload_n 0 dX9_init_0 rfl rfl ?_
  refine g_iload_n 1 dX9_init_1 rfl rfl ?_
  refine g_iload_n 2 dX9_init_2 rfl rfl ?_
  refine g_callI2 (st := []) (s_X4_init hX v0 v1 v2 h) kml_X9_1 kim_X4_init kii_X4 kcd_X4_init rfl ds_X4_init rfl ⟨Nat.le_of_ble_eq_true rfl, Nat.le_of_ble_eq_true rfl⟩ (Nat.le_of_ble_eq_true rfl) rfl dX9_init_3 (fun u2 h1 => ?_)
  exact g_return rfl dX9_init_6
abbrev p_X3_init (X : GX) (h0 : AH) : PX Unit := (X, rU, (3, 64, 3), h0)
def f_X3_init (v0 : Option Nat) (v1 : Int32) (v2 : Int32) (h : AH) : Option (Unit × AH) :=
    bd (nn v0 (f_X9_init v0 v1 v2 h)) fun u2 h1 =>
    some ((), h1)
set_option maxRecDepth 100000 in
set_option maxHeartbeats 4000000 in
theorem s_X3_init {X : GX} (hX : XOK X) (v0 : Option Nat) (v1 : Int32) (v2 : Int32) (h : AH) : Snd X yX3_init cX3_init 3 none 3 64 rU [vR v0, vI v1, vI v2] h (f_X3_init v0 v1 v2 h) := by
  refine snd_of hX (by decide +kernel) (Nat.le_of_ble_eq_true rfl) ?_
  show Gp (p_X3_init X h) RX3 "<init>" cX3_init none 0 [(0, vR v0), (1, vI v1), (2, vI v2)] [] h _
  unfold f_X3_init
  refine g_aload_n 0 dX3_init_0 rfl rfl ?_
  refine g_iload_n 1 dX3_init_1 rfl rfl ?_
  refine g_iload_n 2 dX3_init_2 rfl rfl ?_
  refine g_callI2 (st := []) (s_X9_init hX v0 v1 v2 h) kml_X3_1 kim_X9_init kii_X9 kcd_X9_init rfl ds_X9_init rfl ⟨Nat.le_of_ble_eq_true rfl, Nat.le_of_ble_eq_true rfl⟩ (Nat.le_of_ble_eq_true rfl) rfl dX3_init_3 (fun u2 h1 => ?_)
  exact g_return rfl dX3_init_6
abbrev p_X1_init (X : GX) (h0 : AH) : PX Unit := (X, rU, (3, 64, 3), h0)
def f_X1_init (v0 : Option Nat) (v1 : Int32) (v2 : Int32) (h : AH) : Option (Unit × AH) :=
    bd (nn v0 (f_X0_init v0 v1 v2 h)) fun u2 h1 =>
    some ((), h1)
set_option maxRecDepth 100000 in
set_option maxHeartbeats 4000000 in
theorem s_X1_init {X : GX} (hX : XOK X) (v0 : Option Nat) (v1 : Int32) (v2 : Int32) (h : AH) : Snd X yX1_init cX1_init 3 none 3 64 rU [vR v0, vI v1, vI v2] h (f_X1_init v0 v1 v2 h) := by
  refine snd_of hX (by decide +kernel) (Nat.le_of_ble_eq_true rfl) ?_
  show Gp (p_X1_init X h) RX1 "<init>" cX1_init none 0 [(0, vR v0), (1, vI v1), (2, vI v2)] [] h _
  unfold f_X1_init
  refine g_aload_n 0 dX1_init_0 rfl rfl ?_
  refine g_iload_n 1 dX1_init_1 rfl rfl ?_
  refine g_iload_n 2 dX1_init_2 rfl rfl ?_
  refine g_callI2 (st := []) (s_X0_init hX v0 v1 v2 h) kml_X1_1 kim_X0_init kii_X0 kcd_X0_init rfl ds_X0_init rfl ⟨Nat.le_of_ble_eq_true rfl, Nat.le_of_ble_eq_true rfl⟩ (Nat.le_of_ble_eq_true rfl) rfl dX1_init_3 (fun u2 h1 => ?_)
  exact g_return rfl dX1_init_6
