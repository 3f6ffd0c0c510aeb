abbrev p_J6_bitCount_0f7a4 (X : GX) (h0 : AH) : PX Int32 := (X, (fun x => Sum.inl (rI x)), (0, 0, 1), h0)
def f_J6_bitCount_0f7a4 (v0 : Int32) (h : AH) : Option (Int32 × AH) :=
    nm (v0 - (((Int32.toUInt32 v0 >>> (Int32.toUInt32 1 &&& Int32.toUInt32 31)).toInt32) &&& 1431655765)) fun t1 =>
    nm ((t1 &&& 858993459) + (((Int32.toUInt32 t1 >>> (Int32.toUInt32 2 &&& Int32.toUInt32 31)).toInt32) &&& 858993459)) fun t2 =>
    nm ((t2 + ((Int32.toUInt32 t2 >>> (Int32.toUInt32 4 &&& Int32.toUInt32 31)).toInt32)) &&& 252645135) fun t3 =>
    nm (t3 + ((Int32.toUInt32 t3 >>> (Int32.toUInt32 8 &&& Int32.toUInt32 31)).toInt32)) fun t4 =>
    nm (t4 + ((Int32.toUInt32 t4 >>> (Int32.toUInt32 16 &&& Int32.toUInt32 31)).toInt32)) fun t5 =>
    some ((t5 &&& 63), h)
set_option maxRecDepth 100000 in
set_option maxHeartbeats 4000000 in
theorem s_J6_bitCount_0f7a4 {X : GX} (hX : XOK X) (v0 : Int32) (h : AH) : Snd X yJ6_bitCount_0f7a4 cJ6_bitCount_0f7a4 1 (some .int) 0 0 rI [vI v0] h (f_J6_bitCount_0f7a4 v0 h) := by
  refine snd_of hX (by decide +kernel) (Nat.le_of_ble_eq_true rfl) ?_
  show Gp (p_J6_bitCount_0f7a4 X h) RJ6 "bitCount" cJ6_bitCount_0f7a4 (some .int) 0 [(0, vI v0)] [] h _
  unfold f_J6_bitCount_0f7a4
  refine g_iload_n 0 dJ6_bitCount_0f7a4_0 rfl rfl ?_
  refine g_iload_n 0 dJ6_bitCount_0f7a4_1 rfl rfl ?_
  refine g_iconst (v := 1) dJ6_bitCount_0f7a4_2 (by decide) ?_
  refine g_iushr dJ6_bitCount_0f7a4_3 ?_
  refine g_ldcw kco_J6_265 dJ6_bitCount_0f7a4_4 ?_
  refine g_iand dJ6_bitCount_0f7a4_7 ?_
  refine g_isub dJ6_bitCount_0f7a4_8 ?_
  refine g_nmI (fun t1 => ?_)
  refine g_istore_n (ls' := [(0, vI t1)]) dJ6_bitCount_0f7a4_9 rfl (Nat.le_of_ble_eq_true rfl) rfl ?_
  refine g_iload_n 0 dJ6_bitCount_0f7a4_10 rfl rfl ?_
  refine g_ldcw kco_J6_266 dJ6_bitCount_0f7a4_11 ?_
  refine g_iand dJ6_bitCount_0f7a4_14 ?_
  refine g_iload_n 0 dJ6_bitCount_0f7a4_15 rfl rfl ?_
  refine g_iconst (v := 2) dJ6_bitCount_0f7a4_16 (by decide) ?_
  refine g_iushr dJ6_bitCount_0f7a4_17 ?_
  refine g_ldcw kco_J6_266 dJ6_bitCount_0f7a4_18 ?_
  refine g_iand dJ6_bitCount_0f7a4_21 ?_
  refine g_iadd dJ6_bitCount_0f7a4_22 ?_
  refine g_nmI (fun t2 => ?_)
  refine g_istore_n (ls' := [(0, vI t2)]) dJ6_bitCount_0f7a4_23 rfl (Nat.le_of_ble_eq_true rfl) rfl ?_
  refine g_iload_n 0 dJ6_bitCount_0f7a4_24 rfl rfl ?_
  refine g_iload_n 0 dJ6_bitCount_0f7a4_25 rfl rfl ?_
  refine g_iconst (v := 4) dJ6_bitCount_0f7a4_26 (by decide) ?_
  refine g_iushr dJ6_bitCount_0f7a4_27 ?_
  refine g_iadd dJ6_bitCount_0f7a4_28 ?_
  refine g_ldcw kco_J6_267 dJ6_bitCount_0f7a4_29 ?_
  refine g_iand dJ6_bitCount_0f7a4_32 ?_
  refine g_nmI (fun t3 => ?_)
  refine g_istore_n (ls' := [(0, vI t3)]) dJ6_bitCount_0f7a4_33 rfl (Nat.le_of_ble_eq_true rfl) rfl ?_
  refine g_iload_n 0 dJ6_bitCount_0f7a4_34 rfl rfl ?_
  refine g_iload_n 0 dJ6_bitCount_0f7a4_35 rfl rfl ?_
  refine g_bipush (v := 8) dJ6_bitCount_0f7a4_36 (by decide) ?_
  refine g_iushr dJ6_bitCount_0f7a4_38 ?_
  refine g_iadd dJ6_bitCount_0f7a4_39 ?_
  refine g_nmI (fun t4 => ?_)
  refine g_istore_n (ls' := [(0, vI t4)]) dJ6_bitCount_0f7a4_40 rfl (Nat.le_of_ble_eq_true rfl) rfl ?_
  refine g_iload_n 0 dJ6_bitCount_0f7a4_41 rfl rfl ?_
  refine g_iload_n 0 dJ6_bitCount_0f7a4_42 rfl rfl ?_
  refine g_bipush (v := 16) dJ6_bitCount_0f7a4_43 (by decide) ?_
  refine g_iushr dJ6_bitCount_0f7a4_45 ?_
  refine g_iadd dJ6_bitCount_0f7a4_46 ?_
  refine g_nmI (fun t5 => ?_)
  refine g_istore_n (ls' := [(0, vI t5)]) dJ6_bitCount_0f7a4_47 rfl (Nat.le_of_ble_eq_true rfl) rfl ?_
  refine g_iload_n 0 dJ6_bitCount_0f7a4_48 rfl rfl ?_
  refine g_bipush (v := 63) dJ6_bitCount_0f7a4_49 (by decide) ?_
  refine g_iand dJ6_bitCount_0f7a4_51 ?_
  exact g_ireturn rfl dJ6_bitCount_0f7a4_52
abbrev p_X0_danced (X : GX) (h0 : AH) : PX Int32 := (X, (fun x => Sum.inl (rI x)), (0, 0, 2), h0)
def f_X0_danced (v0 : Option Nat) (v1 : Int32) (h : AH) : Option (Int32 × AH) :=
    some (1, h)
set_option maxRecDepth 100000 in
set_option maxHeartbeats 4000000 in
theorem s_X0_danced {X : GX} (hX : XOK X) (v0 : Option Nat) (v1 : Int32) (h : AH) : Snd X yX0_danced cX0_danced 2 (some .int) 0 0 rI [vR v0, vI v1] h (f_X0_danced v0 v1 h) := by
  refine snd_of hX (by decide +kernel) (Nat.le_of_ble_eq_true rfl) ?_
  show Gp (p_X0_danced X h) RX0 "danced" cX0_danced (some .int) 0 [(0, vR v0), (1, vI v1)] [] h _
  unfold f_X0_danced
  refine g_iconst (v := 1) dX0_danced_0 (by decide) ?_
  exact g_ireturn rfl dX0_danced_1
abbrev p_X0_food (X : GX) (h0 : AH) : PX Int32 := (X, (fun x => Sum.inl (rI x)), (0, 0, 2), h0)
def f_X0_food (v0 : Option Nat) (v1 : Int32) (h : AH) : Option (Int32 × AH) :=
    some ((v1 / 2), h)
set_option maxRecDepth 100000 in
set_option maxHeartbeats 4000000 in
theorem s_X0_food {X : GX} (hX : XOK X) (v0 : Option Nat) (v1 : Int32) (h : AH) : Snd X yX0_food cX0_food 2 (some .int) 0 0 rI [vR v0, vI v1] h (f_X0_food v0 v1 h) := by
  refine snd_of hX (by decide +kernel) (Nat.le_of_ble_eq_true rfl) ?_
  show Gp (p_X0_food X h) RX0 "food" cX0_food (some .int) 0 [(0, vR v0), (1, vI v1)] [] h _
  unfold f_X0_food
  refine g_iload_n 1 dX0_food_0 rfl rfl ?_
  refine g_iconst (v := 2) dX0_food_1 (by decide) ?_
  refine g_idivK dX0_food_2 (by decide) ?_
  exact g_ireturn rfl dX0_food_3
abbrev p_X4_init (X : GX) (h0 : AH) : PX Unit := (X, (fun x => Sum.inl (rU x)), (1, 20, 3), h0)
def f_X4_init (v0 : Option Nat) (v1 : Int32) (v2 : Int32) (h : AH) : Option (Unit × AH) :=
    (if v0 = none then none else (pI h v0 GF 0 v1).bind fun h3 =>
    (pI h3 v0 GF 1 v2).bind fun h4 =>
    some ((), h4))
set_option maxRecDepth 100000 in
set_option maxHeartbeats 4000000 in
theorem s_X4_init {X : GX} (hX : XOK X) (v0 : Option Nat) (v1 : Int32) (v2 : Int32) (h : AH) : Snd X yX4_init cX4_init 3 none 1 20 rU [vR v0, vI v1, vI v2] h (f_X4_init v0 v1 v2 h) := by
  refine snd_of hX (by decide +kernel) (Nat.le_of_ble_eq_true rfl) ?_
  show Gp (p_X4_init X h) RX4 "<init>" cX4_init none 0 [(0, vR v0), (1, vI v1), (2, vI v2)] [] h _
  unfold f_X4_init
  refine g_aload_n 0 dX4_init_0 rfl rfl ?_
  refine g_objInit kml_X4_1 kio kco ⟨Nat.le_of_ble_eq_true rfl, Nat.le_of_ble_eq_true rfl⟩ (Nat.le_of_ble_eq_true rfl) dX4_init_1 ?_
  refine g_aload_n 0 dX4_init_4 rfl rfl ?_
  refine g_iload_n 1 dX4_init_5 rfl rfl ?_
  refine g_putIF kfl_X4_7 fo_X4_kind fw_X4_0 pd_I nI'.1 nI'.2 dX4_init_6 (fun h3 => ?_)
  refine g_aload_n 0 dX4_init_9 rfl rfl ?_
  refine g_iload_n 2 dX4_init_10 rfl rfl ?_
  refine g_putIF kfl_X4_13 fo_X4_figure fw_X4_1 pd_I nI'.1 nI'.2 dX4_init_11 (fun h4 => ?_)
  exact g_return rfl dX4_init_14
abbrev p_X0_init (X : GX) (h0 : AH) : PX Unit := (X, (fun x => Sum.inl (rU x)), (2, 42, 3), h0)
def f_X0_init (v0 : Option Nat) (v1 : Int32) (v2 : Int32) (h : AH) : Option (Unit × AH) :=
    bd (nn v0 (f_X4_init v0 v1 v2 h)) fun u2 h1 =>
    some ((), h1)
set_option maxRecDepth 100000 in
set_option maxHeartbeats 4000000 in
theorem s_X0_init {X : GX} (hX : XOK X) (v0 : Option Nat) (v1 : Int32) (v2 : Int32) (h : AH) : Snd X yX0_init cX0_init 3 none 2 42 rU [vR v0, vI v1, vI v2] h (f_X0_init v0 v1 v2 h) := by
  refine snd_of hX (by decide +kernel) (Nat.le_of_ble_eq_true rfl) ?_
  show Gp (p_X0_init X h) RX0 "<init>" cX0_init none 0 [(0, vR v0), (1, vI v1), (2, vI v2)] [] h _
  unfold f_X0_init
  refine g_aload_n 0 dX0_init_0 rfl rfl ?_
  refine g_iload_n 1 dX0_init_1 rfl rfl ?_
  refine g_iload_n 2 dX0_init_2 rfl rfl ?_
  refine g_callI2 (st := []) (s_X4_init hX v0 v1 v2 h) kml_X0_1 kim_X4_init kii_X4 kcd_X4_init rfl ds_X4_init rfl ⟨Nat.le_of_ble_eq_true rfl, Nat.le_of_ble_eq_true rfl⟩ (Nat.le_of_ble_eq_true rfl) rfl dX0_init_3 (fun u2 h1 => ?_)
  exact g_return rfl dX0_init_6
abbrev p_X0_lighterBySecret (X : GX) (h0 : AH) : PX Int32 := (X, (fun x => Sum.inl (rI x)), (0, 0, 1), h0)
def f_X0_lighterBySecret (v0 : Option Nat) (h : AH) : Option (Int32 × AH) :=
    (gI h v0 GF 1).bind fun t1 =>
    some ((t1 / 2), h)
set_option maxRecDepth 100000 in
set_option maxHeartbeats 4000000 in
theorem s_X0_lighterBySecret {X : GX} (hX : XOK X) (v0 : Option Nat) (h : AH) : Snd X yX0_lighterBySecret cX0_lighterBySecret 1 (some .int) 0 0 rI [vR v0] h (f_X0_lighterBySecret v0 h) := by
  refine snd_of hX (by decide +kernel) (Nat.le_of_ble_eq_true rfl) ?_
  show Gp (p_X0_lighterBySecret X h) RX0 "lighterBySecret" cX0_lighterBySecret (some .int) 0 [(0, vR v0)] [] h _
  unfold f_X0_lighterBySecret
  refine g_aload_n 0 dX0_lighterBySecret_0 rfl rfl ?_
  refine g_getI kfl_X0_7 fo_X0_figure dX0_lighterBySecret_1 (fun t1 => ?_)
  refine g_iconst (v := 2) dX0_lighterBySecret_4 (by decide) ?_
  refine g_idivK dX0_lighterBySecret_5 (by decide) ?_
  exact g_ireturn rfl dX0_lighterBySecret_6
abbrev p_X4_price (X : GX) (h0 : AH) : PX Int32 := (X, (fun x => Sum.inl (rI x)), (0, 0, 1), h0)
def f_X4_price (v0 : Option Nat) (h : AH) : Option (Int32 × AH) :=
    some (2, h)
set_option maxRecDepth 100000 in
set_option maxHeartbeats 4000000 in
theorem s_X4_price {X : GX} (hX : XOK X) (v0 : Option Nat) (h : AH) : Snd X yX4_price cX4_price 1 (some .int) 0 0 rI [vR v0] h (f_X4_price v0 h) := by
  refine snd_of hX (by decide +kernel) (Nat.le_of_ble_eq_true rfl) ?_
  show Gp (p_X4_price X h) RX4 "price" cX4_price (some .int) 0 [(0, vR v0)] [] h _
  unfold f_X4_price
  refine g_iconst (v := 2) dX4_price_0 (by decide) ?_
  exact g_ireturn rfl dX4_price_1
abbrev p_X0_price (X : GX) (h0 : AH) : PX Int32 := (X, (fun x => Sum.inl (rI x)), (1, 20, 1), h0)
def f_X0_price (v0 : Option Nat) (h : AH) : Option (Int32 × AH) :=
    bd (cu h GF v0 (f_X4_price v0 h)) fun r2 h1 =>
    (gI h1 v0 GF 1).bind fun t3 =>
    some ((r2 + t3), h1)
set_option maxRecDepth 100000 in
set_option maxHeartbeats 4000000 in
theorem s_X0_price {X : GX} (hX : XOK X) (v0 : Option Nat) (h : AH) : Snd X yX0_price cX0_price 1 (some .int) 1 20 rI [vR v0] h (f_X0_price v0 h) := by
  refine snd_of hX (by decide +kernel) (Nat.le_of_ble_eq_true rfl) ?_
  show Gp (p_X0_price X h) RX0 "price" cX0_price (some .int) 0 [(0, vR v0)] [] h _
  unfold f_X0_price
  refine g_aload_n 0 dX0_price_0 rfl rfl ?_
  refine g_callUI (st := []) gfCl (s_X4_price hX v0 h) kml_X0_13 ksm_X4_price ksp_X0_X4 kim_X4_price kii_X4 kcd_X4_price ⟨by decide +kernel, ds_X4_price.2.2⟩ rfl ⟨Nat.le_of_ble_eq_true rfl, Nat.le_of_ble_eq_true rfl⟩ (Nat.le_of_ble_eq_true rfl) rfl dX0_price_1 (fun r2 h1 => ?_)
  refine g_aload_n 0 dX0_price_4 rfl rfl ?_
  refine g_getI kfl_X0_7 fo_X0_figure dX0_price_5 (fun t3 => ?_)
  refine g_iadd dX0_price_8 ?_
  exact g_ireturn rfl dX0_price_9
abbrev p_X0_rings (X : GX) (h0 : AH) : PX Int32 := (X, (fun x => Sum.inl (rI x)), (0, 0, 1), h0)
def f_X0_rings (v0 : Option Nat) (h : AH) : Option (Int32 × AH) :=
    (gI h v0 GF 1).bind fun t1 =>
    some (t1, h)
set_option maxRecDepth 100000 in
set_option maxHeartbeats 4000000 in
theorem s_X0_rings {X : GX} (hX : XOK X) (v0 : Option Nat) (h : AH) : Snd X yX0_rings cX0_rings 1 (some .int) 0 0 rI [vR v0] h (f_X0_rings v0 h) := by
  refine snd_of hX (by decide +kernel) (Nat.le_of_ble_eq_true rfl) ?_
  show Gp (p_X0_rings X h) RX0 "rings" cX0_rings (some .int) 0 [(0, vR v0)] [] h _
  unfold f_X0_rings
  refine g_aload_n 0 dX0_rings_0 rfl rfl ?_
  refine g_getI kfl_X0_7 fo_X0_figure dX0_rings_1 (fun t1 => ?_)
  exact g_ireturn rfl dX0_rings_4
abbrev p_X7_hasPlace (X : GX) (h0 : AH) : PX Int32 := (X, (fun x => Sum.inl (rI x)), (0, 0, 2), h0)
def f_X7_hasPlace (v0 : Option Nat) (v1 : Int32) (h : AH) : Option (Int32 × AH) :=
    (if v1 < 0 then
    some (0, h)
    else (gR h v0 [7] 1).bind fun t1 =>
    (lenI h t1).bind fun t2 =>
    (if t2 ≤ v1 then
    some (0, h)
    else some (1, h)))
set_option maxRecDepth 100000 in
set_option maxHeartbeats 4000000 in
theorem s_X7_hasPlace {X : GX} (hX : XOK X) (v0 : Option Nat) (v1 : Int32) (h : AH) : Snd X yX7_hasPlace cX7_hasPlace 2 (some .boolean) 0 0 rI [vR v0, vI v1] h (f_X7_hasPlace v0 v1 h) := by
  refine snd_of hX (by decide +kernel) (Nat.le_of_ble_eq_true rfl) ?_
  show Gp (p_X7_hasPlace X h) RX7 "hasPlace" cX7_hasPlace (some .boolean) 0 [(0, vR v0), (1, vI v1)] [] h _
  unfold f_X7_hasPlace
  refine g_iload_n 1 dX7_hasPlace_0 rfl rfl ?_
  refine g_iflt (tgt := 17) dX7_hasPlace_1 (by decide) ?_ ?_
  · refine g_iconst (v := 0) dX7_hasPlace_17 (by decide) ?_
    exact g_zreturn (by decide +kernel) rfl dX7_hasPlace_18
  · refine g_iload_n 1 dX7_hasPlace_4 rfl rfl ?_
    refine g_aload_n 0 dX7_hasPlace_5 rfl rfl ?_
    refine g_getR kfl_X7_21 fo_X7_elements dX7_hasPlace_6 (fun t1 => ?_)
    refine g_alenI dX7_hasPlace_9 (fun t2 => ?_)
    refine g_icmpge (tgt := 17) dX7_hasPlace_10 (by decide) ?_ ?_
    · refine g_iconst (v := 0) dX7_hasPlace_17 (by decide) ?_
      exact g_zreturn (by decide +kernel) rfl dX7_hasPlace_18
    · refine g_iconst (v := 1) dX7_hasPlace_13 (by decide) ?_
      refine g_goto (tgt := 18) dX7_hasPlace_14 (by decide) ?_
      exact g_zreturn (by decide +kernel) rfl dX7_hasPlace_18
abbrev p_X7_at (X : GX) (h0 : AH) : PX Int32 := (X, (fun x => Sum.inl (rI x)), (1, 21, 2), h0)
def f_X7_at (v0 : Option Nat) (v1 : Int32) (h : AH) : Option (Int32 × AH) :=
    bd (cv h v0 7 (f_X7_hasPlace v0 v1 h)) fun r2 h1 =>
    (if r2 = 0 then
    some (0, h1)
    else (gR h1 v0 [7] 1).bind fun t3 =>
    (iA h1 t3 v1).bind fun t4 =>
    some (t4, h1))
set_option maxRecDepth 100000 in
set_option maxHeartbeats 4000000 in
theorem s_X7_at {X : GX} (hX : XOK X) (v0 : Option Nat) (v1 : Int32) (h : AH) : Snd X yX7_at cX7_at 2 (some .int) 1 21 rI [vR v0, vI v1] h (f_X7_at v0 v1 h) := by
  refine snd_of hX (by decide +kernel) (Nat.le_of_ble_eq_true rfl) ?_
  show Gp (p_X7_at X h) RX7 "at" cX7_at (some .int) 0 [(0, vR v0), (1, vI v1)] [] h _
  unfold f_X7_at
  refine g_aload_n 0 dX7_at_0 rfl rfl ?_
  refine g_iload_n 1 dX7_at_1 rfl rfl ?_
  refine g_callVI (st := []) (ci := 7) rfl (s_X7_hasPlace hX v0 v1 h) kml_X7_25 kim_X7_hasPlace kse_X7_hasPlace kii_X7 kcd_X7_hasPlace rfl ds_X7_hasPlace rfl ⟨Nat.le_of_ble_eq_true rfl, Nat.le_of_ble_eq_true rfl⟩ (Nat.le_of_ble_eq_true rfl) rfl dX7_at_2 (fun r2 h1 => ?_)
  refine g_ifeq (tgt := 17) dX7_at_5 (by decide) ?_ ?_
  · refine g_iconst (v := 0) dX7_at_17 (by decide) ?_
    exact g_ireturn rfl dX7_at_18
  · refine g_aload_n 0 dX7_at_8 rfl rfl ?_
    refine g_getR kfl_X7_21 fo_X7_elements dX7_at_9 (fun t3 => ?_)
    refine g_iload_n 1 dX7_at_12 rfl rfl ?_
    refine g_iaload dX7_at_13 (fun t4 => ?_)
    refine g_goto (tgt := 18) dX7_at_14 (by decide) ?_
    exact g_ireturn rfl dX7_at_18
abbrev p_X10_digit (X : GX) (h0 : AH) : PX Int32 := (X, (fun x => Sum.inl (rI x)), (2, 42, 2), h0)
def f_X10_digit (v0 : Option Nat) (v1 : Int32) (h : AH) : Option (Int32 × AH) :=
    (gR h v0 [10] 0).bind fun t1 =>
    bd (cv h t1 7 (f_X7_at t1 v1 h)) fun r3 h2 =>
    some ((r3 - 48), h2)
set_option maxRecDepth 100000 in
set_option maxHeartbeats 4000000 in
theorem s_X10_digit {X : GX} (hX : XOK X) (v0 : Option Nat) (v1 : Int32) (h : AH) : Snd X yX10_digit cX10_digit 2 (some .int) 2 42 rI [vR v0, vI v1] h (f_X10_digit v0 v1 h) := by
  refine snd_of hX (by decide +kernel) (Nat.le_of_ble_eq_true rfl) ?_
  show Gp (p_X10_digit X h) RX10 "digit" cX10_digit (some .int) 0 [(0, vR v0), (1, vI v1)] [] h _
  unfold f_X10_digit
  refine g_aload_n 0 dX10_digit_0 rfl rfl ?_
  refine g_getR kfl_X10_9 fo_X10_bytes dX10_digit_1 (fun t1 => ?_)
  refine g_iload_n 1 dX10_digit_4 rfl rfl ?_
  refine g_callVI (st := []) (ci := 7) rfl (s_X7_at hX t1 v1 h) kml_X10_28 kim_X7_at kse_X7_at kii_X7 kcd_X7_at rfl ds_X7_at rfl ⟨Nat.le_of_ble_eq_true rfl, Nat.le_of_ble_eq_true rfl⟩ (Nat.le_of_ble_eq_true rfl) rfl dX10_digit_5 (fun r3 h2 => ?_)
  refine g_bipush (v := 48) dX10_digit_8 (by decide) ?_
  refine g_isub dX10_digit_10 ?_
  exact g_ireturn rfl dX10_digit_11
abbrev p_X10_digitsBehind (X : GX) (h0 : AH) : PX Int32 := (X, (fun x => Sum.inl (rI x)), (0, 0, 1), h0)
def f_X10_digitsBehind (v0 : Int32) (h : AH) : Option (Int32 × AH) :=
    (if v0 = 98 then
    some (2, h)
    else (if v0 = 100 then
    some (2, h)
    else (if v0 = 103 then
    some (4, h)
    else (if v0 = 108 then
    some (4, h)
    else (if v0 = 115 then
    some (2, h)
    else (if v0 = 116 then
    some (1, h)
    else some (0, h)))))))
set_option maxRecDepth 100000 in
set_option maxHeartbeats 4000000 in
theorem s_X10_digitsBehind {X : GX} (hX : XOK X) (v0 : Int32) (h : AH) : Snd X yX10_digitsBehind cX10_digitsBehind 1 (some .int) 0 0 rI [vI v0] h (f_X10_digitsBehind v0 h) := by
  refine snd_of hX (by decide +kernel) (Nat.le_of_ble_eq_true rfl) ?_
  show Gp (p_X10_digitsBehind X h) RX10 "digitsBehind" cX10_digitsBehind (some .int) 0 [(0, vI v0)] [] h _
  unfold f_X10_digitsBehind
  refine g_iload_n 0 dX10_digitsBehind_0 rfl rfl ?_
  refine g_tsIn (c := 98) (off := 95) (tgt := 96) dX10_digitsBehind_1 (by decide) (by decide) (by decide) (by decide) ?_ (fun n1 => ?_)
  · refine g_iconst (v := 2) dX10_digitsBehind_96 (by decide) ?_
    exact g_ireturn rfl dX10_digitsBehind_97
  refine g_tsIn (c := 100) (off := 99) (tgt := 100) dX10_digitsBehind_1 (by decide) (by decide) (by decide) (by decide) ?_ (fun n2 => ?_)
  · refine g_iconst (v := 2) dX10_digitsBehind_100 (by decide) ?_
    exact g_ireturn rfl dX10_digitsBehind_101
  refine g_tsIn (c := 103) (off := 91) (tgt := 92) dX10_digitsBehind_1 (by decide) (by decide) (by decide) (by decide) ?_ (fun n3 => ?_)
  · refine g_iconst (v := 4) dX10_digitsBehind_92 (by decide) ?_
    exact g_ireturn rfl dX10_digitsBehind_93
  refine g_tsIn (c := 108) (off := 93) (tgt := 94) dX10_digitsBehind_1 (by decide) (by decide) (by decide) (by decide) ?_ (fun n4 => ?_)
  · refine g_iconst (v := 4) dX10_digitsBehind_94 (by decide) ?_
    exact g_ireturn rfl dX10_digitsBehind_95
  refine g_tsIn (c := 115) (off := 97) (tgt := 98) dX10_digitsBehind_1 (by decide) (by decide) (by decide) (by decide) ?_ (fun n5 => ?_)
  · refine g_iconst (v := 2) dX10_digitsBehind_98 (by decide) ?_
    exact g_ireturn rfl dX10_digitsBehind_99
  refine g_tsIn (c := 116) (off := 101) (tgt := 102) dX10_digitsBehind_1 (by decide) (by decide) (by decide) (by decide) ?_ (fun n6 => ?_)
  · refine g_iconst (v := 1) dX10_digitsBehind_102 (by decide) ?_
    exact g_ireturn rfl dX10_digitsBehind_103
  refine g_tsDef (tgt := 104) (keys := [98, 100, 103, 108, 115, 116]) (neK_cons (c := 98) (k := 98) n1 (by decide) (neK_cons (c := 100) (k := 100) n2 (by decide) (neK_cons (c := 103) (k := 103) n3 (by decide) (neK_cons (c := 108) (k := 108) n4 (by decide) (neK_cons (c := 115) (k := 115) n5 (by decide) (neK_cons (c := 116) (k := 116) n6 (by decide) neK_nil)))))) (by decide +kernel) dX10_digitsBehind_1 (by decide) ?_
  refine g_iconst (v := 0) dX10_digitsBehind_104 (by decide) ?_
  exact g_ireturn rfl dX10_digitsBehind_105
abbrev p_X7_size (X : GX) (h0 : AH) : PX Int32 := (X, (fun x => Sum.inl (rI x)), (0, 0, 1), h0)
def f_X7_size (v0 : Option Nat) (h : AH) : Option (Int32 × AH) :=
    (gR h v0 [7] 1).bind fun t1 =>
    (lenI h t1).bind fun t2 =>
    some (t2, h)
set_option maxRecDepth 100000 in
set_option maxHeartbeats 4000000 in
theorem s_X7_size {X : GX} (hX : XOK X) (v0 : Option Nat) (h : AH) : Snd X yX7_size cX7_size 1 (some .int) 0 0 rI [vR v0] h (f_X7_size v0 h) := by
  refine snd_of hX (by decide +kernel) (Nat.le_of_ble_eq_true rfl) ?_
  show Gp (p_X7_size X h) RX7 "size" cX7_size (some .int) 0 [(0, vR v0)] [] h _
  unfold f_X7_size
  refine g_aload_n 0 dX7_size_0 rfl rfl ?_
  refine g_getR kfl_X7_21 fo_X7_elements dX7_size_1 (fun t1 => ?_)
  refine g_alenI dX7_size_4 (fun t2 => ?_)
  exact g_ireturn rfl dX7_size_5
abbrev p_X10_lengthAt (X : GX) (h0 : AH) : PX Int32 := (X, (fun x => Sum.inl (rI x)), (2, 42, 2), h0)
def f_X10_lengthAt (v0 : Option Nat) (v1 : Int32) (h : AH) : Option (Int32 × AH) :=
    (gR h v0 [10] 0).bind fun t1 =>
    bd (cv h t1 7 (f_X7_at t1 v1 h)) fun r3 h2 =>
    bd (f_X10_digitsBehind r3 h2) fun r5 h4 =>
    some ((2 + r5), h4)
set_option maxRecDepth 100000 in
set_option maxHeartbeats 4000000 in
theorem s_X10_lengthAt {X : GX} (hX : XOK X) (v0 : Option Nat) (v1 : Int32) (h : AH) : Snd X yX10_lengthAt cX10_lengthAt 2 (some .int) 2 42 rI [vR v0, vI v1] h (f_X10_lengthAt v0 v1 h) := by
  refine snd_of hX (by decide +kernel) (Nat.le_of_ble_eq_true rfl) ?_
  show Gp (p_X10_lengthAt X h) RX10 "lengthAt" cX10_lengthAt (some .int) 0 [(0, vR v0), (1, vI v1)] [] h _
  unfold f_X10_lengthAt
  refine g_iconst (v := 2) dX10_lengthAt_0 (by decide) ?_
  refine g_aload_n 0 dX10_lengthAt_1 rfl rfl ?_
  refine g_getR kfl_X10_9 fo_X10_bytes dX10_lengthAt_2 (fun t1 => ?_)
  refine g_iload_n 1 dX10_lengthAt_5 rfl rfl ?_
  refine g_callVI (st := [vI 2]) (ci := 7) rfl (s_X7_at hX t1 v1 h) kml_X10_28 kim_X7_at kse_X7_at kii_X7 kcd_X7_at rfl ds_X7_at rfl ⟨Nat.le_of_ble_eq_true rfl, Nat.le_of_ble_eq_true rfl⟩ (Nat.le_of_ble_eq_true rfl) rfl dX10_lengthAt_6 (fun r3 h2 => ?_)
  refine g_callSI (st := [vI 2]) (s_X10_digitsBehind hX r3 h2) kml_X10_31 kst_X10_digitsBehind kii_X10 kcd_X10_digitsBehind ds_X10_digitsBehind rfl ⟨Nat.le_of_ble_eq_true rfl, Nat.le_of_ble_eq_true rfl⟩ (Nat.le_of_ble_eq_true rfl) rfl dX10_lengthAt_9 (fun r5 h4 => ?_)
  refine g_iadd dX10_lengthAt_12 ?_
  exact g_ireturn rfl dX10_lengthAt_13
abbrev p_X11_isDigit (X : GX) (h0 : AH) : PX Int32 := (X, (fun x => Sum.inl (rI x)), (0, 0, 1), h0)
def f_X11_isDigit (v0 : Int32) (h : AH) : Option (Int32 × AH) :=
    (if v0 < 0 then
    some (0, h)
    else (if 9 < v0 then
    some (0, h)
    else some (1, h)))
set_option maxRecDepth 100000 in
set_option maxHeartbeats 4000000 in
theorem s_X11_isDigit {X : GX} (hX : XOK X) (v0 : Int32) (h : AH) : Snd X yX11_isDigit cX11_isDigit 1 (some .boolean) 0 0 rI [vI v0] h (f_X11_isDigit v0 h) := by
  refine snd_of hX (by decide +kernel) (Nat.le_of_ble_eq_true rfl) ?_
  show Gp (p_X11_isDigit X h) RX11 "isDigit" cX11_isDigit (some .boolean) 0 [(0, vI v0)] [] h _
  unfold f_X11_isDigit
  refine g_iload_n 0 dX11_isDigit_0 rfl rfl ?_
  refine g_iflt (tgt := 14) dX11_isDigit_1 (by decide) ?_ ?_
  · refine g_iconst (v := 0) dX11_isDigit_14 (by decide) ?_
    exact g_zreturn (by decide +kernel) rfl dX11_isDigit_15
  · refine g_iload_n 0 dX11_isDigit_4 rfl rfl ?_
    refine g_bipush (v := 9) dX11_isDigit_5 (by decide) ?_
    refine g_icmpgt (tgt := 14) dX11_isDigit_7 (by decide) ?_ ?_
    · refine g_iconst (v := 0) dX11_isDigit_14 (by decide) ?_
      exact g_zreturn (by decide +kernel) rfl dX11_isDigit_15
    · refine g_iconst (v := 1) dX11_isDigit_10 (by decide) ?_
      refine g_goto (tgt := 15) dX11_isDigit_11 (by decide) ?_
      exact g_zreturn (by decide +kernel) rfl dX11_isDigit_15
abbrev p_X10_flawInStatement (X : GX) (h0 : AH) : PX Int32 := (X, (fun x => Sum.inl (rI x)), (3, 63, 5), h0)
def f_X10_flawInStatement_b88 (k30 : Option Nat → Int32 → Int32 → AH → Option (Int32 × AH)) (x0 : Option Nat) (x2 : Int32) (x3 : Int32) (y0 : Int32) (h : AH) : Option (Int32 × AH) :=
    (if y0 = 0 then
    some (x3, h)
    else k30 x0 x2 (x3 + 1) h)
set_option maxRecDepth 100000 in
set_option maxHeartbeats 4000000 in
theorem s_X10_flawInStatement_b88 {X : GX} (hX : XOK X) {h0 : AH} (k30 : Option Nat → Int32 → Int32 → AH → Option (Int32 × AH)) (hk30 : ∀ (z0 : Option Nat) (z1 : Int32) (z2 : Int32) (h : AH), Gp (p_X10_flawInStatement X h0) RX10 "flawInStatement" cX10_flawInStatement (some .int) 30 [(0, vR z0), (2, vI z1), (3, vI z2)] [] h (k30 z0 z1 z2 h)) : ∀ (x0 : Option Nat) (x2 : Int32) (x3 : Int32) (y0 : Int32) (h : AH), Gp (p_X10_flawInStatement X h0) RX10 "flawInStatement" cX10_flawInStatement (some .int) 88 [(0, vR x0), (2, vI x2), (3, vI x3)] [vI y0] h (f_X10_flawInStatement_b88 k30 x0 x2 x3 y0 h) := by
  intro x0 x2 x3 y0 h
  unfold f_X10_flawInStatement_b88
  refine g_istore (ls' := [(4, vI y0), (0, vR x0), (2, vI x2), (3, vI x3)]) dX10_flawInStatement_88 (Nat.le_of_ble_eq_true rfl) rfl ?_
  refine g_iload 0 dX10_flawInStatement_90 rfl ?_
  refine g_ifne (tgt := 97) dX10_flawInStatement_92 (by decide) ?_ ?_
  · refine g_iinc 3 (v := (x3 + 1)) (ls' := [(3, vI ((x3 + 1))), (4, vI y0), (0, vR x0), (2, vI x2)]) dX10_flawInStatement_97 rfl rfl (Nat.le_of_ble_eq_true rfl) rfl ?_
    refine g_goto (tgt := 30) dX10_flawInStatement_100 (by decide) ?_
    exact g_sub2 [2, 3, 0] rfl (hk30 x0 x2 (x3 + 1) h)
  · refine g_iload_n 3 dX10_flawInStatement_95 rfl rfl ?_
    exact g_ireturn rfl dX10_flawInStatement_96
def f_X10_flawInStatement_b30 : Nat → Option Nat → Int32 → Int32 → AH → Option (Int32 × AH)
  | 0 => fun _ _ _ _ => none
  | n + 1 => fun x0 x2 x3 h =>
    (if x2 < x3 then
    some ((-1), h)
    else (gR h x0 [10] 0).bind fun t10 =>
    bd (cv h t10 7 (f_X7_size t10 h)) fun r12 h11 =>
    (if x3 < r12 then
    (if x3 = x2 then
    (gR h11 x0 [10] 0).bind fun t17 =>
    bd (cv h11 t17 7 (f_X7_at t17 x3 h11)) fun r19 h18 =>
    (if r19 = 59 then
    f_X10_flawInStatement_b88 (f_X10_flawInStatement_b30 n) x0 x2 x3 1 h18
    else f_X10_flawInStatement_b88 (f_X10_flawInStatement_b30 n) x0 x2 x3 0 h18)
    else bd (cv h11 x0 10 (f_X10_digit x0 x3 h11)) fun r14 h13 =>
    bd (f_X11_isDigit r14 h13) fun r16 h15 =>
    f_X10_flawInStatement_b88 (f_X10_flawInStatement_b30 n) x0 x2 x3 r16 h15)
    else (gR h11 x0 [10] 0).bind fun t20 =>
    bd (cv h11 t20 7 (f_X7_size t20 h11)) fun r22 h21 =>
    some (r22, h21)))
set_option maxRecDepth 100000 in
set_option maxHeartbeats 4000000 in
theorem s_X10_flawInStatement_b30 {X : GX} (hX : XOK X) {h0 : AH} : ∀ (n : Nat) (x0 : Option Nat) (x2 : Int32) (x3 : Int32) (h : AH), Gp (p_X10_flawInStatement X h0) RX10 "flawInStatement" cX10_flawInStatement (some .int) 30 [(0, vR x0), (2, vI x2), (3, vI x3)] [] h (f_X10_flawInStatement_b30 n x0 x2 x3 h) := by
  intro n
  induction n with
  | zero => intro x0 x2 x3 h; exact g_none
  | succ n ih =>
    intro x0 x2 x3 h
    rw [f_X10_flawInStatement_b30]
    refine g_iload_n 2 dX10_flawInStatement_30 rfl rfl ?_
    refine g_iload_n 1 dX10_flawInStatement_31 rfl rfl ?_
    refine g_icmpgt (tgt := 103) dX10_flawInStatement_32 (by decide) ?_ ?_
    · refine g_iconst (v := (-1)) dX10_flawInStatement_103 (by decide) ?_
      exact g_ireturn rfl dX10_flawInStatement_104
    · refine g_iload_n 2 dX10_flawInStatement_35 rfl rfl ?_
      refine g_aload_n 0 dX10_flawInStatement_36 rfl rfl ?_
      refine g_getR kfl_X10_9 fo_X10_bytes dX10_flawInStatement_37 (fun t10 => ?_)
      refine g_callVI (st := [vI x3]) (ci := 7) rfl (s_X7_size hX t10 h) kml_X10_15 kim_X7_size kse_X7_size kii_X7 kcd_X7_size rfl ds_X7_size rfl ⟨Nat.le_of_ble_eq_true rfl, Nat.le_of_ble_eq_true rfl⟩ (Nat.le_of_ble_eq_true rfl) rfl dX10_flawInStatement_40 (fun r12 h11 => ?_)
      refine g_icmplt (tgt := 54) dX10_flawInStatement_43 (by decide) ?_ ?_
      · refine g_iload_n 2 dX10_flawInStatement_54 rfl rfl ?_
        refine g_iload_n 1 dX10_flawInStatement_55 rfl rfl ?_
        refine g_icmpne (tgt := 80) dX10_flawInStatement_56 (by decide) ?_ ?_
        · refine g_aload_n 0 dX10_flawInStatement_80 rfl rfl ?_
          refine g_iload_n 2 dX10_flawInStatement_81 rfl rfl ?_
          refine g_callVI (st := []) (ci := 10) rfl (s_X10_digit hX x0 x3 h11) kml_X10_34 kim_X10_digit kse_X10_digit kii_X10 kcd_X10_digit rfl ds_X10_digit rfl ⟨Nat.le_of_ble_eq_true rfl, Nat.le_of_ble_eq_true rfl⟩ (Nat.le_of_ble_eq_true rfl) rfl dX10_flawInStatement_82 (fun r14 h13 => ?_)
          refine g_callSNI (st := []) (s_X11_isDigit hX r14 h13) kmn_X10_37 kst_X11_isDigit kii_X11 kcd_X11_isDigit ds_X11_isDigit rfl ⟨Nat.le_of_ble_eq_true rfl, Nat.le_of_ble_eq_true rfl⟩ (Nat.le_of_ble_eq_true rfl) rfl dX10_flawInStatement_85 (fun r16 h15 => ?_)
          exact g_sub2 [0, 1, 2] rfl (s_X10_flawInStatement_b88 hX (f_X10_flawInStatement_b30 n) (fun z0 z1 z2 z3 => ih z0 z1 z2 z3) x0 x2 x3 r16 h15)
        · refine g_aload_n 0 dX10_flawInStatement_59 rfl rfl ?_
          refine g_getR kfl_X10_9 fo_X10_bytes dX10_flawInStatement_60 (fun t17 => ?_)
          refine g_iload_n 2 dX10_flawInStatement_63 rfl rfl ?_
          refine g_callVI (st := []) (ci := 7) rfl (s_X7_at hX t17 x3 h11) kml_X10_28 kim_X7_at kse_X7_at kii_X7 kcd_X7_at rfl ds_X7_at rfl ⟨Nat.le_of_ble_eq_true rfl, Nat.le_of_ble_eq_true rfl⟩ (Nat.le_of_ble_eq_true rfl) rfl dX10_flawInStatement_64 (fun r19 h18 => ?_)
          refine g_bipush (v := 59) dX10_flawInStatement_67 (by decide) ?_
          refine g_icmpne (tgt := 76) dX10_flawInStatement_69 (by decide) ?_ ?_
          · refine g_iconst (v := 0) dX10_flawInStatement_76 (by decide) ?_
            refine g_goto (tgt := 88) dX10_flawInStatement_77 (by decide) ?_
            exact g_sub2 [0, 1, 2] rfl (s_X10_flawInStatement_b88 hX (f_X10_flawInStatement_b30 n) (fun z0 z1 z2 z3 => ih z0 z1 z2 z3) x0 x2 x3 0 h18)
          · refine g_iconst (v := 1) dX10_flawInStatement_72 (by decide) ?_
            refine g_goto (tgt := 88) dX10_flawInStatement_73 (by decide) ?_
            exact g_sub2 [0, 1, 2] rfl (s_X10_flawInStatement_b88 hX (f_X10_flawInStatement_b30 n) (fun z0 z1 z2 z3 => ih z0 z1 z2 z3) x0 x2 x3 1 h18)
      · refine g_aload_n 0 dX10_flawInStatement_46 rfl rfl ?_
        refine g_getR kfl_X10_9 fo_X10_bytes dX10_flawInStatement_47 (fun t20 => ?_)
        refine g_callVI (st := []) (ci := 7) rfl (s_X7_size hX t20 h11) kml_X10_15 kim_X7_size kse_X7_size kii_X7 kcd_X7_size rfl ds_X7_size rfl ⟨Nat.le_of_ble_eq_true rfl, Nat.le_of_ble_eq_true rfl⟩ (Nat.le_of_ble_eq_true rfl) rfl dX10_flawInStatement_50 (fun r22 h21 => ?_)
        exact g_ireturn rfl dX10_flawInStatement_53
def f_X10_flawInStatement (v0 : Option Nat) (v1 : Int32) (h : AH) : Option (Int32 × AH) :=
    (gR h v0 [10] 0).bind fun t1 =>
    bd (cv h t1 7 (f_X7_at t1 v1 h)) fun r3 h2 =>
    bd (f_X10_digitsBehind r3 h2) fun r5 h4 =>
    (if r5 = 0 then
    some (v1, h4)
    else bd (cv h4 v0 10 (f_X10_lengthAt v0 v1 h4)) fun r7 h6 =>
    nm ((v1 + r7) - 1) fun t8 =>
    nm (v1 + 1) fun t9 =>
    f_X10_flawInStatement_b30 FU v0 t8 t9 h6)
set_option maxRecDepth 100000 in
set_option maxHeartbeats 4000000 in
theorem s_X10_flawInStatement {X : GX} (hX : XOK X) (v0 : Option Nat) (v1 : Int32) (h : AH) : Snd X yX10_flawInStatement cX10_flawInStatement 5 (some .int) 3 63 rI [vR v0, vI v1] h (f_X10_flawInStatement v0 v1 h) := by
  refine snd_of hX (by decide +kernel) (Nat.le_of_ble_eq_true rfl) ?_
  show Gp (p_X10_flawInStatement X h) RX10 "flawInStatement" cX10_flawInStatement (some .int) 0 [(0, vR v0), (1, vI v1)] [] h _
  unfold f_X10_flawInStatement
  refine g_aload_n 0 dX10_flawInStatement_0 rfl rfl ?_
  refine g_getR kfl_X10_9 fo_X10_bytes dX10_flawInStatement_1 (fun t1 => ?_)
  refine g_iload_n 1 dX10_flawInStatement_4 rfl rfl ?_
  refine g_callVI (st := []) (ci := 7) rfl (s_X7_at hX t1 v1 h) kml_X10_28 kim_X7_at kse_X7_at kii_X7 kcd_X7_at rfl ds_X7_at rfl ⟨Nat.le_of_ble_eq_true rfl, Nat.le_of_ble_eq_true rfl⟩ (Nat.le_of_ble_eq_true rfl) rfl dX10_flawInStatement_5 (fun r3 h2 => ?_)
  refine g_callSI (st := []) (s_X10_digitsBehind hX r3 h2) kml_X10_31 kst_X10_digitsBehind kii_X10 kcd_X10_digitsBehind ds_X10_digitsBehind rfl ⟨Nat.le_of_ble_eq_true rfl, Nat.le_of_ble_eq_true rfl⟩ (Nat.le_of_ble_eq_true rfl) rfl dX10_flawInStatement_8 (fun r5 h4 => ?_)
  refine g_ifne (tgt := 16) dX10_flawInStatement_11 (by decide) ?_ ?_
  · refine g_iload_n 1 dX10_flawInStatement_16 rfl rfl ?_
    refine g_aload_n 0 dX10_flawInStatement_17 rfl rfl ?_
    refine g_iload_n 1 dX10_flawInStatement_18 rfl rfl ?_
    refine g_callVI (st := [vI v1]) (ci := 10) rfl (s_X10_lengthAt hX v0 v1 h4) kml_X10_25 kim_X10_lengthAt kse_X10_lengthAt kii_X10 kcd_X10_lengthAt rfl ds_X10_lengthAt rfl ⟨Nat.le_of_ble_eq_true rfl, Nat.le_of_ble_eq_true rfl⟩ (Nat.le_of_ble_eq_true rfl) rfl dX10_flawInStatement_19 (fun r7 h6 => ?_)
    refine g_iadd dX10_flawInStatement_22 ?_
    refine g_iconst (v := 1) dX10_flawInStatement_23 (by decide) ?_
    refine g_isub dX10_flawInStatement_24 ?_
    refine g_nmI (fun t8 => ?_)
    refine g_istore_n (ls' := [(2, vI t8), (0, vR v0), (1, vI v1)]) dX10_flawInStatement_25 rfl (Nat.le_of_ble_eq_true rfl) rfl ?_
    refine g_iload_n 2 dX10_flawInStatement_26 rfl rfl ?_
    refine g_iconst (v := 1) dX10_flawInStatement_27 (by decide) ?_
    refine g_iadd dX10_flawInStatement_28 ?_
    refine g_nmI (fun t9 => ?_)
    refine g_istore_n (ls' := [(3, vI t9), (2, vI t8), (0, vR v0), (1, vI v1)]) dX10_flawInStatement_29 rfl (Nat.le_of_ble_eq_true rfl) rfl ?_
    exact g_sub2 [2, 1, 0] rfl (s_X10_flawInStatement_b30 hX FU v0 t8 t9 h6)
  · refine g_iload_n 1 dX10_flawInStatement_14 rfl rfl ?_
    exact g_ireturn rfl dX10_flawInStatement_15
abbrev p_X10_firstFlaw (X : GX) (h0 : AH) : PX Int32 := (X, (fun x => Sum.inl (rI x)), (4, 87, 4), h0)
def f_X10_firstFlaw_b16 : Nat → Option Nat → Int32 → Int32 → AH → Option (Int32 × AH)
  | 0 => fun _ _ _ _ => none
  | n + 1 => fun x0 x1 x2 h =>
    (if 100 ≤ x2 then
    some ((-1), h)
    else (gR h x0 [10] 0).bind fun t4 =>
    bd (cv h t4 7 (f_X7_size t4 h)) fun r6 h5 =>
    (if r6 ≤ x1 then
    some ((-1), h5)
    else bd (cv h5 x0 10 (f_X10_flawInStatement x0 x1 h5)) fun r8 h7 =>
    (if r8 < 0 then
    bd (cv h7 x0 10 (f_X10_lengthAt x0 x1 h7)) fun r10 h9 =>
    nm (x1 + r10) fun t11 =>
    f_X10_firstFlaw_b16 n x0 t11 (x2 + 1) h9
    else some (r8, h7))))
set_option maxRecDepth 100000 in
set_option maxHeartbeats 4000000 in
theorem s_X10_firstFlaw_b16 {X : GX} (hX : XOK X) {h0 : AH} : ∀ (n : Nat) (x0 : Option Nat) (x1 : Int32) (x2 : Int32) (h : AH), Gp (p_X10_firstFlaw X h0) RX10 "firstFlaw" cX10_firstFlaw (some .int) 16 [(0, vR x0), (1, vI x1), (2, vI x2)] [] h (f_X10_firstFlaw_b16 n x0 x1 x2 h) := by
  intro n
  induction n with
  | zero => intro x0 x1 x2 h; exact g_none
  | succ n ih =>
    intro x0 x1 x2 h
    rw [f_X10_firstFlaw_b16]
    refine g_iload_n 2 dX10_firstFlaw_16 rfl rfl ?_
    refine g_bipush (v := 100) dX10_firstFlaw_17 (by decide) ?_
    refine g_icmpge (tgt := 59) dX10_firstFlaw_19 (by decide) ?_ ?_
    · refine g_iconst (v := (-1)) dX10_firstFlaw_59 (by decide) ?_
      exact g_ireturn rfl dX10_firstFlaw_60
    · refine g_iload_n 1 dX10_firstFlaw_22 rfl rfl ?_
      refine g_aload_n 0 dX10_firstFlaw_23 rfl rfl ?_
      refine g_getR kfl_X10_9 fo_X10_bytes dX10_firstFlaw_24 (fun t4 => ?_)
      refine g_callVI (st := [vI x1]) (ci := 7) rfl (s_X7_size hX t4 h) kml_X10_15 kim_X7_size kse_X7_size kii_X7 kcd_X7_size rfl ds_X7_size rfl ⟨Nat.le_of_ble_eq_true rfl, Nat.le_of_ble_eq_true rfl⟩ (Nat.le_of_ble_eq_true rfl) rfl dX10_firstFlaw_27 (fun r6 h5 => ?_)
      refine g_icmpge (tgt := 59) dX10_firstFlaw_30 (by decide) ?_ ?_
      · refine g_iconst (v := (-1)) dX10_firstFlaw_59 (by decide) ?_
        exact g_ireturn rfl dX10_firstFlaw_60
      · refine g_aload_n 0 dX10_firstFlaw_33 rfl rfl ?_
        refine g_iload_n 1 dX10_firstFlaw_34 rfl rfl ?_
        refine g_callVI (st := []) (ci := 10) rfl (s_X10_flawInStatement hX x0 x1 h5) kml_X10_21 kim_X10_flawInStatement kse_X10_flawInStatement kii_X10 kcd_X10_flawInStatement rfl ds_X10_flawInStatement rfl ⟨Nat.le_of_ble_eq_true rfl, Nat.le_of_ble_eq_true rfl⟩ (Nat.le_of_ble_eq_true rfl) rfl dX10_firstFlaw_35 (fun r8 h7 => ?_)
        refine g_istore_n (ls' := [(3, vI r8), (0, vR x0), (1, vI x1), (2, vI x2)]) dX10_firstFlaw_38 rfl (Nat.le_of_ble_eq_true rfl) rfl ?_
        refine g_iload_n 0 dX10_firstFlaw_39 rfl rfl ?_
        refine g_iflt (tgt := 45) dX10_firstFlaw_40 (by decide) ?_ ?_
        · refine g_iload_n 2 dX10_firstFlaw_45 rfl rfl ?_
          refine g_aload_n 1 dX10_firstFlaw_46 rfl rfl ?_
          refine g_iload_n 2 dX10_firstFlaw_47 rfl rfl ?_
          refine g_callVI (st := [vI x1]) (ci := 10) rfl (s_X10_lengthAt hX x0 x1 h7) kml_X10_25 kim_X10_lengthAt kse_X10_lengthAt kii_X10 kcd_X10_lengthAt rfl ds_X10_lengthAt rfl ⟨Nat.le_of_ble_eq_true rfl, Nat.le_of_ble_eq_true rfl⟩ (Nat.le_of_ble_eq_true rfl) rfl dX10_firstFlaw_48 (fun r10 h9 => ?_)
          refine g_iadd dX10_firstFlaw_51 ?_
          refine g_nmI (fun t11 => ?_)
          refine g_istore_n (ls' := [(1, vI t11), (3, vI r8), (0, vR x0), (2, vI x2)]) dX10_firstFlaw_52 rfl (Nat.le_of_ble_eq_true rfl) rfl ?_
          refine g_iinc 3 (v := (x2 + 1)) (ls' := [(2, vI ((x2 + 1))), (1, vI t11), (3, vI r8), (0, vR x0)]) dX10_firstFlaw_53 rfl rfl (Nat.le_of_ble_eq_true rfl) rfl ?_
          refine g_goto (tgt := 16) dX10_firstFlaw_56 (by decide) ?_
          exact g_sub2 [3, 1, 0] rfl (ih x0 t11 (x2 + 1) h9)
        · refine g_iload_n 0 dX10_firstFlaw_43 rfl rfl ?_
          exact g_ireturn rfl dX10_firstFlaw_44
def f_X10_firstFlaw (v0 : Option Nat) (h : AH) : Option (Int32 × AH) :=
    (gR h v0 [10] 0).bind fun t1 =>
    bd (cv h t1 7 (f_X7_size t1 h)) fun r3 h2 =>
    (if r3 = 0 then
    some (0, h2)
    else f_X10_firstFlaw_b16 FU v0 0 0 h2)
set_option maxRecDepth 100000 in
set_option maxHeartbeats 4000000 in
theorem s_X10_firstFlaw {X : GX} (hX : XOK X) (v0 : Option Nat) (h : AH) : Snd X yX10_firstFlaw cX10_firstFlaw 4 (some .int) 4 87 rI [vR v0] h (f_X10_firstFlaw v0 h) := by
  refine snd_of hX (by decide +kernel) (Nat.le_of_ble_eq_true rfl) ?_
  show Gp (p_X10_firstFlaw X h) RX10 "firstFlaw" cX10_firstFlaw (some .int) 0 [(0, vR v0)] [] h _
  unfold f_X10_firstFlaw
  refine g_aload_n 0 dX10_firstFlaw_0 rfl rfl ?_
  refine g_getR kfl_X10_9 fo_X10_bytes dX10_firstFlaw_1 (fun t1 => ?_)
  refine g_callVI (st := []) (ci := 7) rfl (s_X7_size hX t1 h) kml_X10_15 kim_X7_size kse_X7_size kii_X7 kcd_X7_size rfl ds_X7_size rfl ⟨Nat.le_of_ble_eq_true rfl, Nat.le_of_ble_eq_true rfl⟩ (Nat.le_of_ble_eq_true rfl) rfl dX10_firstFlaw_4 (fun r3 h2 => ?_)
  refine g_ifne (tgt := 12) dX10_firstFlaw_7 (by decide) ?_ ?_
  · refine g_iconst (v := 0) dX10_firstFlaw_12 (by decide) ?_
    refine g_istore_n (ls' := [(1, vI 0), (0, vR v0)]) dX10_firstFlaw_13 rfl (Nat.le_of_ble_eq_true rfl) rfl ?_
    refine g_iconst (v := 0) dX10_firstFlaw_14 (by decide) ?_
    refine g_istore_n (ls' := [(2, vI 0), (1, vI 0), (0, vR v0)]) dX10_firstFlaw_15 rfl (Nat.le_of_ble_eq_true rfl) rfl ?_
    exact g_sub2 [2, 1, 0] rfl (s_X10_firstFlaw_b16 hX FU v0 0 0 h2)
  · refine g_iconst (v := 0) dX10_firstFlaw_10 (by decide) ?_
    exact g_ireturn rfl dX10_firstFlaw_11
abbrev p_X5_knows (X : GX) (h0 : AH) : PX Int32 := (X, (fun x => Sum.inl (rI x)), (0, 0, 2), h0)
def f_X5_knows (v0 : Option Nat) (v1 : Int32) (h : AH) : Option (Int32 × AH) :=
    (if v1 < 0 then
    some (0, h)
    else (gI h v0 [5] 5).bind fun t1 =>
    (if t1 ≤ v1 then
    some (0, h)
    else some (1, h)))
set_option maxRecDepth 100000 in
set_option maxHeartbeats 4000000 in
theorem s_X5_knows {X : GX} (hX : XOK X) (v0 : Option Nat) (v1 : Int32) (h : AH) : Snd X yX5_knows cX5_knows 2 (some .boolean) 0 0 rI [vR v0, vI v1] h (f_X5_knows v0 v1 h) := by
  refine snd_of hX (by decide +kernel) (Nat.le_of_ble_eq_true rfl) ?_
  show Gp (p_X5_knows X h) RX5 "knows" cX5_knows (some .boolean) 0 [(0, vR v0), (1, vI v1)] [] h _
  unfold f_X5_knows
  refine g_iload_n 1 dX5_knows_0 rfl rfl ?_
  refine g_iflt (tgt := 16) dX5_knows_1 (by decide) ?_ ?_
  · refine g_iconst (v := 0) dX5_knows_16 (by decide) ?_
    exact g_zreturn (by decide +kernel) rfl dX5_knows_17
  · refine g_iload_n 1 dX5_knows_4 rfl rfl ?_
    refine g_aload_n 0 dX5_knows_5 rfl rfl ?_
    refine g_getI kfl_X5_30 fo_X5_guests dX5_knows_6 (fun t1 => ?_)
    refine g_icmpge (tgt := 16) dX5_knows_9 (by decide) ?_ ?_
    · refine g_iconst (v := 0) dX5_knows_16 (by decide) ?_
      exact g_zreturn (by decide +kernel) rfl dX5_knows_17
    · refine g_iconst (v := 1) dX5_knows_12 (by decide) ?_
      refine g_goto (tgt := 17) dX5_knows_13 (by decide) ?_
      exact g_zreturn (by decide +kernel) rfl dX5_knows_17
abbrev p_X5_isIn (X : GX) (h0 : AH) : PX Int32 := (X, (fun x => Sum.inl (rI x)), (0, 0, 2), h0)
def f_X5_isIn (v0 : Option Nat) (v1 : Int32) (h : AH) : Option (Int32 × AH) :=
    (gI h v0 [5] 6).bind fun t1 =>
    (if ((t1 >>> (v1 &&& 31)) &&& 1) = 1 then
    some (1, h)
    else some (0, h))
set_option maxRecDepth 100000 in
set_option maxHeartbeats 4000000 in
theorem s_X5_isIn {X : GX} (hX : XOK X) (v0 : Option Nat) (v1 : Int32) (h : AH) : Snd X yX5_isIn cX5_isIn 2 (some .boolean) 0 0 rI [vR v0, vI v1] h (f_X5_isIn v0 v1 h) := by
  refine snd_of hX (by decide +kernel) (Nat.le_of_ble_eq_true rfl) ?_
  show Gp (p_X5_isIn X h) RX5 "isIn" cX5_isIn (some .boolean) 0 [(0, vR v0), (1, vI v1)] [] h _
  unfold f_X5_isIn
  refine g_aload_n 0 dX5_isIn_0 rfl rfl ?_
  refine g_getI kfl_X5_34 fo_X5_inside dX5_isIn_1 (fun t1 => ?_)
  refine g_iload_n 1 dX5_isIn_4 rfl rfl ?_
  refine g_ishr dX5_isIn_5 ?_
  refine g_iconst (v := 1) dX5_isIn_6 (by decide) ?_
  refine g_iand dX5_isIn_7 ?_
  refine g_iconst (v := 1) dX5_isIn_8 (by decide) ?_
  refine g_icmpne (tgt := 16) dX5_isIn_9 (by decide) ?_ ?_
  · refine g_iconst (v := 0) dX5_isIn_16 (by decide) ?_
    exact g_zreturn (by decide +kernel) rfl dX5_isIn_17
  · refine g_iconst (v := 1) dX5_isIn_12 (by decide) ?_
    refine g_goto (tgt := 17) dX5_isIn_13 (by decide) ?_
    exact g_zreturn (by decide +kernel) rfl dX5_isIn_17
abbrev p_X5_canTell (X : GX) (h0 : AH) : PX Int32 := (X, (fun x => Sum.inl (rI x)), (1, 21, 2), h0)
def f_X5_canTell (v0 : Option Nat) (v1 : Int32) (h : AH) : Option (Int32 × AH) :=
    bd (cv h v0 5 (f_X5_isIn v0 v1 h)) fun r2 h1 =>
    (if r2 = 0 then
    some (0, h1)
    else (gR h1 v0 [5] 3).bind fun t3 =>
    (iA h1 t3 v1).bind fun t4 =>
    (if t4 ≤ 0 then
    some (0, h1)
    else some (1, h1)))
set_option maxRecDepth 100000 in
set_option maxHeartbeats 4000000 in
theorem s_X5_canTell {X : GX} (hX : XOK X) (v0 : Option Nat) (v1 : Int32) (h : AH) : Snd X yX5_canTell cX5_canTell 2 (some .boolean) 1 21 rI [vR v0, vI v1] h (f_X5_canTell v0 v1 h) := by
  refine snd_of hX (by decide +kernel) (Nat.le_of_ble_eq_true rfl) ?_
  show Gp (p_X5_canTell X h) RX5 "canTell" cX5_canTell (some .boolean) 0 [(0, vR v0), (1, vI v1)] [] h _
  unfold f_X5_canTell
  refine g_aload_n 0 dX5_canTell_0 rfl rfl ?_
  refine g_iload_n 1 dX5_canTell_1 rfl rfl ?_
  refine g_callVI (st := []) (ci := 5) rfl (s_X5_isIn hX v0 v1 h) kml_X5_59 kim_X5_isIn kse_X5_isIn kii_X5 kcd_X5_isIn rfl ds_X5_isIn rfl ⟨Nat.le_of_ble_eq_true rfl, Nat.le_of_ble_eq_true rfl⟩ (Nat.le_of_ble_eq_true rfl) rfl dX5_canTell_2 (fun r2 h1 => ?_)
  refine g_ifeq (tgt := 21) dX5_canTell_5 (by decide) ?_ ?_
  · refine g_iconst (v := 0) dX5_canTell_21 (by decide) ?_
    exact g_zreturn (by decide +kernel) rfl dX5_canTell_22
  · refine g_aload_n 0 dX5_canTell_8 rfl rfl ?_
    refine g_getR kfl_X5_24 fo_X5_secrets dX5_canTell_9 (fun t3 => ?_)
    refine g_iload_n 1 dX5_canTell_12 rfl rfl ?_
    refine g_iaload dX5_canTell_13 (fun t4 => ?_)
    refine g_ifle (tgt := 21) dX5_canTell_14 (by decide) ?_ ?_
    · refine g_iconst (v := 0) dX5_canTell_21 (by decide) ?_
      exact g_zreturn (by decide +kernel) rfl dX5_canTell_22
    · refine g_iconst (v := 1) dX5_canTell_17 (by decide) ?_
      refine g_goto (tgt := 22) dX5_canTell_18 (by decide) ?_
      exact g_zreturn (by decide +kernel) rfl dX5_canTell_22
abbrev p_X1_lighterBySecret (X : GX) (h0 : AH) : PX Int32 := (X, (fun x => Sum.inl (rI x)), (1, 20, 1), h0)
def f_X1_lighterBySecret (v0 : Option Nat) (h : AH) : Option (Int32 × AH) :=
    bd (cu h GF v0 (f_X0_lighterBySecret v0 h)) fun r2 h1 =>
    some ((r2 + 1), h1)
set_option maxRecDepth 100000 in
set_option maxHeartbeats 4000000 in
theorem s_X1_lighterBySecret {X : GX} (hX : XOK X) (v0 : Option Nat) (h : AH) : Snd X yX1_lighterBySecret cX1_lighterBySecret 1 (some .int) 1 20 rI [vR v0] h (f_X1_lighterBySecret v0 h) := by
  refine snd_of hX (by decide +kernel) (Nat.le_of_ble_eq_true rfl) ?_
  show Gp (p_X1_lighterBySecret X h) RX1 "lighterBySecret" cX1_lighterBySecret (some .int) 0 [(0, vR v0)] [] h _
  unfold f_X1_lighterBySecret
  refine g_aload_n 0 dX1_lighterBySecret_0 rfl rfl ?_
  refine g_callUI (st := []) gfCl (s_X0_lighterBySecret hX v0 h) kml_X1_15 ksm_X0_lighterBySecret ksp_X1_X0 kim_X0_lighterBySecret kii_X0 kcd_X0_lighterBySecret ⟨by decide +kernel, ds_X0_lighterBySecret.2.2⟩ rfl ⟨Nat.le_of_ble_eq_true rfl, Nat.le_of_ble_eq_true rfl⟩ (Nat.le_of_ble_eq_true rfl) rfl dX1_lighterBySecret_1 (fun r2 h1 => ?_)
  refine g_iconst (v := 1) dX1_lighterBySecret_4 (by decide) ?_
  refine g_iadd dX1_lighterBySecret_5 ?_
  exact g_ireturn rfl dX1_lighterBySecret_6
abbrev p_X2_lighterBySecret (X : GX) (h0 : AH) : PX Int32 := (X, (fun x => Sum.inl (rI x)), (0, 0, 1), h0)
def f_X2_lighterBySecret (v0 : Option Nat) (h : AH) : Option (Int32 × AH) :=
    some (0, h)
set_option maxRecDepth 100000 in
set_option maxHeartbeats 4000000 in
theorem s_X2_lighterBySecret {X : GX} (hX : XOK X) (v0 : Option Nat) (h : AH) : Snd X yX2_lighterBySecret cX2_lighterBySecret 1 (some .int) 0 0 rI [vR v0] h (f_X2_lighterBySecret v0 h) := by
  refine snd_of hX (by decide +kernel) (Nat.le_of_ble_eq_true rfl) ?_
  show Gp (p_X2_lighterBySecret X h) RX2 "lighterBySecret" cX2_lighterBySecret (some .int) 0 [(0, vR v0)] [] h _
  unfold f_X2_lighterBySecret
  refine g_iconst (v := 0) dX2_lighterBySecret_0 (by decide) ?_
  exact g_ireturn rfl dX2_lighterBySecret_1
abbrev p_X3_lighterBySecret (X : GX) (h0 : AH) : PX Int32 := (X, (fun x => Sum.inl (rI x)), (0, 0, 1), h0)
def f_X3_lighterBySecret (v0 : Option Nat) (h : AH) : Option (Int32 × AH) :=
    some (3, h)
set_option maxRecDepth 100000 in
set_option maxHeartbeats 4000000 in
theorem s_X3_lighterBySecret {X : GX} (hX : XOK X) (v0 : Option Nat) (h : AH) : Snd X yX3_lighterBySecret cX3_lighterBySecret 1 (some .int) 0 0 rI [vR v0] h (f_X3_lighterBySecret v0 h) := by
  refine snd_of hX (by decide +kernel) (Nat.le_of_ble_eq_true rfl) ?_
  show Gp (p_X3_lighterBySecret X h) RX3 "lighterBySecret" cX3_lighterBySecret (some .int) 0 [(0, vR v0)] [] h _
  unfold f_X3_lighterBySecret
  refine g_iconst (v := 3) dX3_lighterBySecret_0 (by decide) ?_
  exact g_ireturn rfl dX3_lighterBySecret_1
abbrev p_X4_lighterBySecret (X : GX) (h0 : AH) : PX Int32 := (X, (fun x => Sum.inl (rI x)), (0, 0, 1), h0)
def f_X4_lighterBySecret (v0 : Option Nat) (h : AH) : Option (Int32 × AH) :=
    some (1, h)
set_option maxRecDepth 100000 in
set_option maxHeartbeats 4000000 in
theorem s_X4_lighterBySecret {X : GX} (hX : XOK X) (v0 : Option Nat) (h : AH) : Snd X yX4_lighterBySecret cX4_lighterBySecret 1 (some .int) 0 0 rI [vR v0] h (f_X4_lighterBySecret v0 h) := by
  refine snd_of hX (by decide +kernel) (Nat.le_of_ble_eq_true rfl) ?_
  show Gp (p_X4_lighterBySecret X h) RX4 "lighterBySecret" cX4_lighterBySecret (some .int) 0 [(0, vR v0)] [] h _
  unfold f_X4_lighterBySecret
  refine g_iconst (v := 1) dX4_lighterBySecret_0 (by decide) ?_
  exact g_ireturn rfl dX4_lighterBySecret_1
abbrev p_X6_lighterBySecret (X : GX) (h0 : AH) : PX Int32 := (X, (fun x => Sum.inl (rI x)), (0, 0, 1), h0)
def f_X6_lighterBySecret (v0 : Option Nat) (h : AH) : Option (Int32 × AH) :=
    some (1, h)
set_option maxRecDepth 100000 in
set_option maxHeartbeats 4000000 in
theorem s_X6_lighterBySecret {X : GX} (hX : XOK X) (v0 : Option Nat) (h : AH) : Snd X yX6_lighterBySecret cX6_lighterBySecret 1 (some .int) 0 0 rI [vR v0] h (f_X6_lighterBySecret v0 h) := by
  refine snd_of hX (by decide +kernel) (Nat.le_of_ble_eq_true rfl) ?_
  show Gp (p_X6_lighterBySecret X h) RX6 "lighterBySecret" cX6_lighterBySecret (some .int) 0 [(0, vR v0)] [] h _
  unfold f_X6_lighterBySecret
  refine g_iconst (v := 1) dX6_lighterBySecret_0 (by decide) ?_
  exact g_ireturn rfl dX6_lighterBySecret_1
def f_dyn_lighterBySecret (v : Option Nat) (h : AH) : Option (Int32 × AH) := dsp h v (fun c => if c = 0 then f_X0_lighterBySecret v h else if c = 1 then f_X1_lighterBySecret v h else if c = 2 then f_X2_lighterBySecret v h else if c = 3 then f_X3_lighterBySecret v h else if c = 4 then f_X4_lighterBySecret v h else if c = 6 then f_X6_lighterBySecret v h else if c = 8 then f_X0_lighterBySecret v h else if c = 9 then f_X4_lighterBySecret v h else none)
theorem dyn_lighterBySecret {X : GX} (hX : XOK X) (v : Option Nat) (h : AH) : Dyn X yX4_lighterBySecret 2 40 rI [vR v] h (f_dyn_lighterBySecret v h) :=
  dyn_intro (fun c => (dynAt_if (dynAt_of (s_X0_lighterBySecret hX v h) rfl kse_X0_X4_lighterBySecret kim_X0_lighterBySecret kii_X0 kcd_X0_lighterBySecret ⟨Nat.le_of_ble_eq_true rfl, Nat.le_of_ble_eq_true rfl⟩) (dynAt_if (dynAt_of (s_X1_lighterBySecret hX v h) rfl kse_X1_X4_lighterBySecret kim_X1_lighterBySecret kii_X1 kcd_X1_lighterBySecret ⟨Nat.le_of_ble_eq_true rfl, Nat.le_of_ble_eq_true rfl⟩) (dynAt_if (dynAt_of (s_X2_lighterBySecret hX v h) rfl kse_X2_X4_lighterBySecret kim_X2_lighterBySecret kii_X2 kcd_X2_lighterBySecret ⟨Nat.le_of_ble_eq_true rfl, Nat.le_of_ble_eq_true rfl⟩) (dynAt_if (dynAt_of (s_X3_lighterBySecret hX v h) rfl kse_X3_X4_lighterBySecret kim_X3_lighterBySecret kii_X3 kcd_X3_lighterBySecret ⟨Nat.le_of_ble_eq_true rfl, Nat.le_of_ble_eq_true rfl⟩) (dynAt_if (dynAt_of (s_X4_lighterBySecret hX v h) rfl kse_X4_X4_lighterBySecret kim_X4_lighterBySecret kii_X4 kcd_X4_lighterBySecret ⟨Nat.le_of_ble_eq_true rfl, Nat.le_of_ble_eq_true rfl⟩) (dynAt_if (dynAt_of (s_X6_lighterBySecret hX v h) rfl kse_X6_X4_lighterBySecret kim_X6_lighterBySecret kii_X6 kcd_X6_lighterBySecret ⟨Nat.le_of_ble_eq_true rfl, Nat.le_of_ble_eq_true rfl⟩) (dynAt_if (dynAt_of (s_X0_lighterBySecret hX v h) rfl kse_X8_X4_lighterBySecret kim_X0_lighterBySecret kii_X0 kcd_X0_lighterBySecret ⟨Nat.le_of_ble_eq_true rfl, Nat.le_of_ble_eq_true rfl⟩) (dynAt_if (dynAt_of (s_X4_lighterBySecret hX v h) rfl kse_X9_X4_lighterBySecret kim_X4_lighterBySecret kii_X4 kcd_X4_lighterBySecret ⟨Nat.le_of_ble_eq_true rfl, Nat.le_of_ble_eq_true rfl⟩) dynAt_none)))))))))
abbrev p_X5_tellSecret (X : GX) (h0 : AH) : PX Unit := (X, (fun x => Sum.inl (rU x)), (2, 40, 2), h0)
def f_X5_tellSecret (v0 : Option Nat) (v1 : Int32) (h : AH) : Option (Unit × AH) :=
    (gR h v0 [5] 3).bind fun t1 =>
    (iA h t1 v1).bind fun t2 =>
    (iS h t1 v1 (t2 - 1)).bind fun h3 =>
    (gR h3 v0 [5] 1).bind fun t4 =>
    (gR h3 v0 [5] 1).bind fun t5 =>
    (iA h3 t5 v1).bind fun t6 =>
    (gR h3 v0 [5] 0).bind fun t7 =>
    (rA h3 t7 2 v1).bind fun t8 =>
    bd (f_dyn_lighterBySecret t8 h3) fun r10 h9 =>
    (iS h9 t4 v1 (mmax 0 (t6 - r10))).bind fun h13 =>
    some ((), h13)
set_option maxRecDepth 100000 in
set_option maxHeartbeats 4000000 in
theorem s_X5_tellSecret {X : GX} (hX : XOK X) (v0 : Option Nat) (v1 : Int32) (h : AH) : Snd X yX5_tellSecret cX5_tellSecret 2 none 2 40 rU [vR v0, vI v1] h (f_X5_tellSecret v0 v1 h) := by
  refine snd_of hX (by decide +kernel) (Nat.le_of_ble_eq_true rfl) ?_
  show Gp (p_X5_tellSecret X h) RX5 "tellSecret" cX5_tellSecret none 0 [(0, vR v0), (1, vI v1)] [] h _
  unfold f_X5_tellSecret
  refine g_aload_n 0 dX5_tellSecret_0 rfl rfl ?_
  refine g_getR kfl_X5_24 fo_X5_secrets dX5_tellSecret_1 (fun t1 => ?_)
  refine g_iload_n 1 dX5_tellSecret_4 rfl rfl ?_
  refine g_dup2 dX5_tellSecret_5 rfl rfl ?_
  refine g_iaload dX5_tellSecret_6 (fun t2 => ?_)
  refine g_iconst (v := 1) dX5_tellSecret_7 (by decide) ?_
  refine g_isub dX5_tellSecret_8 ?_
  refine g_iastore dX5_tellSecret_9 (fun h3 => ?_)
  refine g_aload_n 0 dX5_tellSecret_10 rfl rfl ?_
  refine g_getR kfl_X5_17 fo_X5_weight dX5_tellSecret_11 (fun t4 => ?_)
  refine g_iload_n 1 dX5_tellSecret_14 rfl rfl ?_
  refine g_iconst (v := 0) dX5_tellSecret_15 (by decide) ?_
  refine g_aload_n 0 dX5_tellSecret_16 rfl rfl ?_
  refine g_getR kfl_X5_17 fo_X5_weight dX5_tellSecret_17 (fun t5 => ?_)
  refine g_iload_n 1 dX5_tellSecret_20 rfl rfl ?_
  refine g_iaload dX5_tellSecret_21 (fun t6 => ?_)
  refine g_aload_n 0 dX5_tellSecret_22 rfl rfl ?_
  refine g_getR kfl_X5_11 fo_X5_kind dX5_tellSecret_23 (fun t7 => ?_)
  refine g_iload_n 1 dX5_tellSecret_26 rfl rfl ?_
  refine g_aaload (kd := 2) (by decide) (by decide) dX5_tellSecret_27 (fun t8 => ?_)
  refine g_callDI (st := [vI t6, vI 0, vI v1, vR t4]) (dyn_lighterBySecret hX t8 h3) kml_X5_72 ksm_X4_lighterBySecret kim_X4_lighterBySecret kcd_X4_lighterBySecret ds_X4_lighterBySecret rfl ⟨Nat.le_of_ble_eq_true rfl, Nat.le_of_ble_eq_true rfl⟩ (Nat.le_of_ble_eq_true rfl) rfl dX5_tellSecret_28 (fun r10 h9 => ?_)
  refine g_isub dX5_tellSecret_31 ?_
  refine g_mmax kml_X5_66 kst_mmax kii_Math kcd_mmax ⟨Nat.le_of_ble_eq_true rfl, Nat.le_of_ble_eq_true rfl⟩ (Nat.le_of_ble_eq_true rfl) dX5_tellSecret_32 ?_
  refine g_iastore dX5_tellSecret_35 (fun h13 => ?_)
  exact g_return rfl dX5_tellSecret_36
abbrev p_X10_tellSecret (X : GX) (h0 : AH) : PX Int32 := (X, (fun x => Sum.inl (rI x)), (3, 61, 2), h0)
def f_X10_tellSecret (v0 : Option Nat) (v1 : Int32) (h : AH) : Option (Int32 × AH) :=
    bd (cv h v0 5 (f_X5_knows v0 v1 h)) fun r2 h1 =>
    (if r2 = 0 then
    some (0, h1)
    else bd (cv h1 v0 5 (f_X5_canTell v0 v1 h1)) fun r4 h3 =>
    (if r4 = 0 then
    some (0, h3)
    else bd (cv h3 v0 5 (f_X5_tellSecret v0 v1 h3)) fun u6 h5 =>
    some (1, h5)))
set_option maxRecDepth 100000 in
set_option maxHeartbeats 4000000 in
theorem s_X10_tellSecret {X : GX} (hX : XOK X) (v0 : Option Nat) (v1 : Int32) (h : AH) : Snd X yX10_tellSecret cX10_tellSecret 2 (some .boolean) 3 61 rI [vR v0, vI v1] h (f_X10_tellSecret v0 v1 h) := by
  refine snd_of hX (by decide +kernel) (Nat.le_of_ble_eq_true rfl) ?_
  show Gp (p_X10_tellSecret X h) RX10 "tellSecret" cX10_tellSecret (some .boolean) 0 [(0, vR v0), (1, vI v1)] [] h _
  unfold f_X10_tellSecret
  refine g_aload_n 0 dX10_tellSecret_0 rfl rfl ?_
  refine g_iload_n 1 dX10_tellSecret_1 rfl rfl ?_
  refine g_callVI (st := []) (ci := 5) rfl (s_X5_knows hX v0 v1 h) kml_X10_85 kim_X5_knows kse_X5_knows kii_X5 kcd_X5_knows rfl ds_X5_knows rfl ⟨Nat.le_of_ble_eq_true rfl, Nat.le_of_ble_eq_true rfl⟩ (Nat.le_of_ble_eq_true rfl) rfl dX10_tellSecret_2 (fun r2 h1 => ?_)
  refine g_ifeq (tgt := 16) dX10_tellSecret_5 (by decide) ?_ ?_
  · refine g_iconst (v := 0) dX10_tellSecret_16 (by decide) ?_
    exact g_zreturn (by decide +kernel) rfl dX10_tellSecret_17
  · refine g_aload_n 0 dX10_tellSecret_8 rfl rfl ?_
    refine g_iload_n 1 dX10_tellSecret_9 rfl rfl ?_
    refine g_callVI (st := []) (ci := 5) rfl (s_X5_canTell hX v0 v1 h1) kml_X10_88 kim_X5_canTell kse_X5_canTell kii_X5 kcd_X5_canTell rfl ds_X5_canTell rfl ⟨Nat.le_of_ble_eq_true rfl, Nat.le_of_ble_eq_true rfl⟩ (Nat.le_of_ble_eq_true rfl) rfl dX10_tellSecret_10 (fun r4 h3 => ?_)
    refine g_ifne (tgt := 18) dX10_tellSecret_13 (by decide) ?_ ?_
    · refine g_aload_n 0 dX10_tellSecret_18 rfl rfl ?_
      refine g_iload_n 1 dX10_tellSecret_19 rfl rfl ?_
      refine g_callVU (st := []) (ci := 5) rfl (s_X5_tellSecret hX v0 v1 h3) kml_X10_91 kim_X5_tellSecret kse_X5_tellSecret kii_X5 kcd_X5_tellSecret rfl ds_X5_tellSecret rfl ⟨Nat.le_of_ble_eq_true rfl, Nat.le_of_ble_eq_true rfl⟩ (Nat.le_of_ble_eq_true rfl) rfl dX10_tellSecret_20 (fun u6 h5 => ?_)
      refine g_iconst (v := 1) dX10_tellSecret_23 (by decide) ?_
      exact g_zreturn (by decide +kernel) rfl dX10_tellSecret_24
    · refine g_iconst (v := 0) dX10_tellSecret_16 (by decide) ?_
      exact g_zreturn (by decide +kernel) rfl dX10_tellSecret_17
abbrev p_X10_setSecrets (X : GX) (h0 : AH) : PX Int32 := (X, (fun x => Sum.inl (rI x)), (1, 21, 3), h0)
def f_X10_setSecrets (v0 : Option Nat) (v1 : Int32) (v2 : Int32) (h : AH) : Option (Int32 × AH) :=
    bd (cv h v0 5 (f_X5_knows v0 v1 h)) fun r2 h1 =>
    (if r2 = 0 then
    some (0, h1)
    else (gR h1 v0 [5] 3).bind fun t3 =>
    (iS h1 t3 v1 v2).bind fun h4 =>
    some (1, h4))
set_option maxRecDepth 100000 in
set_option maxHeartbeats 4000000 in
theorem s_X10_setSecrets {X : GX} (hX : XOK X) (v0 : Option Nat) (v1 : Int32) (v2 : Int32) (h : AH) : Snd X yX10_setSecrets cX10_setSecrets 3 (some .boolean) 1 21 rI [vR v0, vI v1, vI v2] h (f_X10_setSecrets v0 v1 v2 h) := by
  refine snd_of hX (by decide +kernel) (Nat.le_of_ble_eq_true rfl) ?_
  show Gp (p_X10_setSecrets X h) RX10 "setSecrets" cX10_setSecrets (some .boolean) 0 [(0, vR v0), (1, vI v1), (2, vI v2)] [] h _
  unfold f_X10_setSecrets
  refine g_aload_n 0 dX10_setSecrets_0 rfl rfl ?_
  refine g_iload_n 1 dX10_setSecrets_1 rfl rfl ?_
  refine g_callVI (st := []) (ci := 5) rfl (s_X5_knows hX v0 v1 h) kml_X10_85 kim_X5_knows kse_X5_knows kii_X5 kcd_X5_knows rfl ds_X5_knows rfl ⟨Nat.le_of_ble_eq_true rfl, Nat.le_of_ble_eq_true rfl⟩ (Nat.le_of_ble_eq_true rfl) rfl dX10_setSecrets_2 (fun r2 h1 => ?_)
  refine g_ifne (tgt := 10) dX10_setSecrets_5 (by decide) ?_ ?_
  · refine g_aload_n 0 dX10_setSecrets_10 rfl rfl ?_
    refine g_getR kfl_X10_101 fo_X5_secrets dX10_setSecrets_11 (fun t3 => ?_)
    refine g_iload_n 1 dX10_setSecrets_14 rfl rfl ?_
    refine g_iload_n 2 dX10_setSecrets_15 rfl rfl ?_
    refine g_iastore dX10_setSecrets_16 (fun h4 => ?_)
    refine g_iconst (v := 1) dX10_setSecrets_17 (by decide) ?_
    exact g_zreturn (by decide +kernel) rfl dX10_setSecrets_18
  · refine g_iconst (v := 0) dX10_setSecrets_8 (by decide) ?_
    exact g_zreturn (by decide +kernel) rfl dX10_setSecrets_9
abbrev p_X10_twoDigits (X : GX) (h0 : AH) : PX Int32 := (X, (fun x => Sum.inl (rI x)), (3, 63, 2), h0)
def f_X10_twoDigits (v0 : Option Nat) (v1 : Int32) (h : AH) : Option (Int32 × AH) :=
    bd (cv h v0 10 (f_X10_digit v0 v1 h)) fun r2 h1 =>
    bd (cv h1 v0 10 (f_X10_digit v0 (v1 + 1) h1)) fun r4 h3 =>
    some (((10 * r2) + r4), h3)
set_option maxRecDepth 100000 in
set_option maxHeartbeats 4000000 in
theorem s_X10_twoDigits {X : GX} (hX : XOK X) (v0 : Option Nat) (v1 : Int32) (h : AH) : Snd X yX10_twoDigits cX10_twoDigits 2 (some .int) 3 63 rI [vR v0, vI v1] h (f_X10_twoDigits v0 v1 h) := by
  refine snd_of hX (by decide +kernel) (Nat.le_of_ble_eq_true rfl) ?_
  show Gp (p_X10_twoDigits X h) RX10 "twoDigits" cX10_twoDigits (some .int) 0 [(0, vR v0), (1, vI v1)] [] h _
  unfold f_X10_twoDigits
  refine g_bipush (v := 10) dX10_twoDigits_0 (by decide) ?_
  refine g_aload_n 0 dX10_twoDigits_2 rfl rfl ?_
  refine g_iload_n 1 dX10_twoDigits_3 rfl rfl ?_
  refine g_callVI (st := [vI 10]) (ci := 10) rfl (s_X10_digit hX v0 v1 h) kml_X10_34 kim_X10_digit kse_X10_digit kii_X10 kcd_X10_digit rfl ds_X10_digit rfl ⟨Nat.le_of_ble_eq_true rfl, Nat.le_of_ble_eq_true rfl⟩ (Nat.le_of_ble_eq_true rfl) rfl dX10_twoDigits_4 (fun r2 h1 => ?_)
  refine g_imul dX10_twoDigits_7 ?_
  refine g_aload_n 0 dX10_twoDigits_8 rfl rfl ?_
  refine g_iload_n 1 dX10_twoDigits_9 rfl rfl ?_
  refine g_iconst (v := 1) dX10_twoDigits_10 (by decide) ?_
  refine g_iadd dX10_twoDigits_11 ?_
  refine g_callVI (st := [vI ((10 * r2))]) (ci := 10) rfl (s_X10_digit hX v0 (v1 + 1) h1) kml_X10_34 kim_X10_digit kse_X10_digit kii_X10 kcd_X10_digit rfl ds_X10_digit rfl ⟨Nat.le_of_ble_eq_true rfl, Nat.le_of_ble_eq_true rfl⟩ (Nat.le_of_ble_eq_true rfl) rfl dX10_twoDigits_12 (fun r4 h3 => ?_)
  refine g_iadd dX10_twoDigits_15 ?_
  exact g_ireturn rfl dX10_twoDigits_16
abbrev p_X5_canLend (X : GX) (h0 : AH) : PX Int32 := (X, (fun x => Sum.inl (rI x)), (1, 21, 4), h0)
def f_X5_canLend (v0 : Option Nat) (v1 : Int32) (v2 : Int32) (v3 : Int32) (h : AH) : Option (Int32 × AH) :=
    bd (cv h v0 5 (f_X5_isIn v0 v1 h)) fun r2 h1 =>
    (if r2 = 0 then
    some (0, h1)
    else bd (cv h1 v0 5 (f_X5_isIn v0 v2 h1)) fun r4 h3 =>
    (if r4 = 0 then
    some (0, h3)
    else (gR h3 v0 [5] 1).bind fun t5 =>
    (iA h3 t5 v1).bind fun t6 =>
    (if t6 < v3 then
    some (0, h3)
    else (gR h3 v0 [5] 1).bind fun t7 =>
    (iA h3 t7 v2).bind fun t8 =>
    (if 99 < (t8 + v3) then
    some (0, h3)
    else some (1, h3)))))
set_option maxRecDepth 100000 in
set_option maxHeartbeats 4000000 in
theorem s_X5_canLend {X : GX} (hX : XOK X) (v0 : Option Nat) (v1 : Int32) (v2 : Int32) (v3 : Int32) (h : AH) : Snd X yX5_canLend cX5_canLend 4 (some .boolean) 1 21 rI [vR v0, vI v1, vI v2, vI v3] h (f_X5_canLend v0 v1 v2 v3 h) := by
  refine snd_of hX (by decide +kernel) (Nat.le_of_ble_eq_true rfl) ?_
  show Gp (p_X5_canLend X h) RX5 "canLend" cX5_canLend (some .boolean) 0 [(0, vR v0), (1, vI v1), (2, vI v2), (3, vI v3)] [] h _
  unfold f_X5_canLend
  refine g_aload_n 0 dX5_canLend_0 rfl rfl ?_
  refine g_iload_n 1 dX5_canLend_1 rfl rfl ?_
  refine g_callVI (st := []) (ci := 5) rfl (s_X5_isIn hX v0 v1 h) kml_X5_59 kim_X5_isIn kse_X5_isIn kii_X5 kcd_X5_isIn rfl ds_X5_isIn rfl ⟨Nat.le_of_ble_eq_true rfl, Nat.le_of_ble_eq_true rfl⟩ (Nat.le_of_ble_eq_true rfl) rfl dX5_canLend_2 (fun r2 h1 => ?_)
  refine g_ifeq (tgt := 43) dX5_canLend_5 (by decide) ?_ ?_
  · refine g_iconst (v := 0) dX5_canLend_43 (by decide) ?_
    exact g_zreturn (by decide +kernel) rfl dX5_canLend_44
  · refine g_aload_n 0 dX5_canLend_8 rfl rfl ?_
    refine g_iload_n 2 dX5_canLend_9 rfl rfl ?_
    refine g_callVI (st := []) (ci := 5) rfl (s_X5_isIn hX v0 v2 h1) kml_X5_59 kim_X5_isIn kse_X5_isIn kii_X5 kcd_X5_isIn rfl ds_X5_isIn rfl ⟨Nat.le_of_ble_eq_true rfl, Nat.le_of_ble_eq_true rfl⟩ (Nat.le_of_ble_eq_true rfl) rfl dX5_canLend_10 (fun r4 h3 => ?_)
    refine g_ifeq (tgt := 43) dX5_canLend_13 (by decide) ?_ ?_
    · refine g_iconst (v := 0) dX5_canLend_43 (by decide) ?_
      exact g_zreturn (by decide +kernel) rfl dX5_canLend_44
    · refine g_aload_n 0 dX5_canLend_16 rfl rfl ?_
      refine g_getR kfl_X5_17 fo_X5_weight dX5_canLend_17 (fun t5 => ?_)
      refine g_iload_n 1 dX5_canLend_20 rfl rfl ?_
      refine g_iaload dX5_canLend_21 (fun t6 => ?_)
      refine g_iload_n 3 dX5_canLend_22 rfl rfl ?_
      refine g_icmplt (tgt := 43) dX5_canLend_23 (by decide) ?_ ?_
      · refine g_iconst (v := 0) dX5_canLend_43 (by decide) ?_
        exact g_zreturn (by decide +kernel) rfl dX5_canLend_44
      · refine g_aload_n 0 dX5_canLend_26 rfl rfl ?_
        refine g_getR kfl_X5_17 fo_X5_weight dX5_canLend_27 (fun t7 => ?_)
        refine g_iload_n 2 dX5_canLend_30 rfl rfl ?_
        refine g_iaload dX5_canLend_31 (fun t8 => ?_)
        refine g_iload_n 3 dX5_canLend_32 rfl rfl ?_
        refine g_iadd dX5_canLend_33 ?_
        refine g_bipush (v := 99) dX5_canLend_34 (by decide) ?_
        refine g_icmpgt (tgt := 43) dX5_canLend_36 (by decide) ?_ ?_
        · refine g_iconst (v := 0) dX5_canLend_43 (by decide) ?_
          exact g_zreturn (by decide +kernel) rfl dX5_canLend_44
        · refine g_iconst (v := 1) dX5_canLend_39 (by decide) ?_
          refine g_goto (tgt := 44) dX5_canLend_40 (by decide) ?_
          exact g_zreturn (by decide +kernel) rfl dX5_canLend_44
abbrev p_X5_lendPounds (X : GX) (h0 : AH) : PX Unit := (X, (fun x => Sum.inl (rU x)), (0, 0, 4), h0)
def f_X5_lendPounds (v0 : Option Nat) (v1 : Int32) (v2 : Int32) (v3 : Int32) (h : AH) : Option (Unit × AH) :=
    (gR h v0 [5] 1).bind fun t1 =>
    (iA h t1 v1).bind fun t2 =>
    (iS h t1 v1 (t2 - v3)).bind fun h3 =>
    (gR h3 v0 [5] 1).bind fun t4 =>
    (iA h3 t4 v2).bind fun t5 =>
    (iS h3 t4 v2 (t5 + v3)).bind fun h6 =>
    some ((), h6)
set_option maxRecDepth 100000 in
set_option maxHeartbeats 4000000 in
theorem s_X5_lendPounds {X : GX} (hX : XOK X) (v0 : Option Nat) (v1 : Int32) (v2 : Int32) (v3 : Int32) (h : AH) : Snd X yX5_lendPounds cX5_lendPounds 4 none 0 0 rU [vR v0, vI v1, vI v2, vI v3] h (f_X5_lendPounds v0 v1 v2 v3 h) := by
  refine snd_of hX (by decide +kernel) (Nat.le_of_ble_eq_true rfl) ?_
  show Gp (p_X5_lendPounds X h) RX5 "lendPounds" cX5_lendPounds none 0 [(0, vR v0), (1, vI v1), (2, vI v2), (3, vI v3)] [] h _
  unfold f_X5_lendPounds
  refine g_aload_n 0 dX5_lendPounds_0 rfl rfl ?_
  refine g_getR kfl_X5_17 fo_X5_weight dX5_lendPounds_1 (fun t1 => ?_)
  refine g_iload_n 1 dX5_lendPounds_4 rfl rfl ?_
  refine g_dup2 dX5_lendPounds_5 rfl rfl ?_
  refine g_iaload dX5_lendPounds_6 (fun t2 => ?_)
  refine g_iload_n 3 dX5_lendPounds_7 rfl rfl ?_
  refine g_isub dX5_lendPounds_8 ?_
  refine g_iastore dX5_lendPounds_9 (fun h3 => ?_)
  refine g_aload_n 0 dX5_lendPounds_10 rfl rfl ?_
  refine g_getR kfl_X5_17 fo_X5_weight dX5_lendPounds_11 (fun t4 => ?_)
  refine g_iload_n 2 dX5_lendPounds_14 rfl rfl ?_
  refine g_dup2 dX5_lendPounds_15 rfl rfl ?_
  refine g_iaload dX5_lendPounds_16 (fun t5 => ?_)
  refine g_iload_n 3 dX5_lendPounds_17 rfl rfl ?_
  refine g_iadd dX5_lendPounds_18 ?_
  refine g_iastore dX5_lendPounds_19 (fun h6 => ?_)
  exact g_return rfl dX5_lendPounds_20
abbrev p_X10_lendPounds (X : GX) (h0 : AH) : PX Int32 := (X, (fun x => Sum.inl (rI x)), (2, 44, 5), h0)
def f_X10_lendPounds_b26 (x0 : Option Nat) (x1 : Int32) (x2 : Int32) (x3 : Int32) (y0 : Int32) (h : AH) : Option (Int32 × AH) :=
    (if y0 = 0 then
    some (0, h)
    else (if x3 < 1 then
    some (0, h)
    else (if 20 < x3 then
    some (0, h)
    else bd (cv h x0 5 (f_X5_canLend x0 x1 x2 x3 h)) fun r4 h3 =>
    (if r4 = 0 then
    some (0, h3)
    else bd (cv h3 x0 5 (f_X5_lendPounds x0 x1 x2 x3 h3)) fun u6 h5 =>
    some (1, h5)))))
set_option maxRecDepth 100000 in
set_option maxHeartbeats 4000000 in
theorem s_X10_lendPounds_b26 {X : GX} (hX : XOK X) {h0 : AH} : ∀ (x0 : Option Nat) (x1 : Int32) (x2 : Int32) (x3 : Int32) (y0 : Int32) (h : AH), Gp (p_X10_lendPounds X h0) RX10 "lendPounds" cX10_lendPounds (some .boolean) 26 [(0, vR x0), (1, vI x1), (2, vI x2), (3, vI x3)] [vI y0] h (f_X10_lendPounds_b26 x0 x1 x2 x3 y0 h) := by
  intro x0 x1 x2 x3 y0 h
  unfold f_X10_lendPounds_b26
  refine g_istore (ls' := [(4, vI y0), (0, vR x0), (1, vI x1), (2, vI x2), (3, vI x3)]) dX10_lendPounds_26 (Nat.le_of_ble_eq_true rfl) rfl ?_
  refine g_iload 0 dX10_lendPounds_28 rfl ?_
  refine g_ifeq (tgt := 54) dX10_lendPounds_30 (by decide) ?_ ?_
  · refine g_iconst (v := 0) dX10_lendPounds_54 (by decide) ?_
    exact g_zreturn (by decide +kernel) rfl dX10_lendPounds_55
  · refine g_iload_n 4 dX10_lendPounds_33 rfl rfl ?_
    refine g_iconst (v := 1) dX10_lendPounds_34 (by decide) ?_
    refine g_icmplt (tgt := 54) dX10_lendPounds_35 (by decide) ?_ ?_
    · refine g_iconst (v := 0) dX10_lendPounds_54 (by decide) ?_
      exact g_zreturn (by decide +kernel) rfl dX10_lendPounds_55
    · refine g_iload_n 4 dX10_lendPounds_38 rfl rfl ?_
      refine g_bipush (v := 20) dX10_lendPounds_39 (by decide) ?_
      refine g_icmpgt (tgt := 54) dX10_lendPounds_41 (by decide) ?_ ?_
      · refine g_iconst (v := 0) dX10_lendPounds_54 (by decide) ?_
        exact g_zreturn (by decide +kernel) rfl dX10_lendPounds_55
      · refine g_aload_n 1 dX10_lendPounds_44 rfl rfl ?_
        refine g_iload_n 2 dX10_lendPounds_45 rfl rfl ?_
        refine g_iload_n 3 dX10_lendPounds_46 rfl rfl ?_
        refine g_iload_n 4 dX10_lendPounds_47 rfl rfl ?_
        refine g_callVI (st := []) (ci := 5) rfl (s_X5_canLend hX x0 x1 x2 x3 h) kml_X10_94 kim_X5_canLend kse_X5_canLend kii_X5 kcd_X5_canLend rfl ds_X5_canLend rfl ⟨Nat.le_of_ble_eq_true rfl, Nat.le_of_ble_eq_true rfl⟩ (Nat.le_of_ble_eq_true rfl) rfl dX10_lendPounds_48 (fun r4 h3 => ?_)
        refine g_ifne (tgt := 56) dX10_lendPounds_51 (by decide) ?_ ?_
        · refine g_aload_n 1 dX10_lendPounds_56 rfl rfl ?_
          refine g_iload_n 2 dX10_lendPounds_57 rfl rfl ?_
          refine g_iload_n 3 dX10_lendPounds_58 rfl rfl ?_
          refine g_iload_n 4 dX10_lendPounds_59 rfl rfl ?_
          refine g_callVU (st := []) (ci := 5) rfl (s_X5_lendPounds hX x0 x1 x2 x3 h3) kml_X10_98 kim_X5_lendPounds kse_X5_lendPounds kii_X5 kcd_X5_lendPounds rfl ds_X5_lendPounds rfl ⟨Nat.le_of_ble_eq_true rfl, Nat.le_of_ble_eq_true rfl⟩ (Nat.le_of_ble_eq_true rfl) rfl dX10_lendPounds_60 (fun u6 h5 => ?_)
          refine g_iconst (v := 1) dX10_lendPounds_63 (by decide) ?_
          exact g_zreturn (by decide +kernel) rfl dX10_lendPounds_64
        · refine g_iconst (v := 0) dX10_lendPounds_54 (by decide) ?_
          exact g_zreturn (by decide +kernel) rfl dX10_lendPounds_55
def f_X10_lendPounds_b25 (x0 : Option Nat) (x1 : Int32) (x2 : Int32) (x3 : Int32) (h : AH) : Option (Int32 × AH) :=
    f_X10_lendPounds_b26 x0 x1 x2 x3 0 h
set_option maxRecDepth 100000 in
set_option maxHeartbeats 4000000 in
theorem s_X10_lendPounds_b25 {X : GX} (hX : XOK X) {h0 : AH} : ∀ (x0 : Option Nat) (x1 : Int32) (x2 : Int32) (x3 : Int32) (h : AH), Gp (p_X10_lendPounds X h0) RX10 "lendPounds" cX10_lendPounds (some .boolean) 25 [(0, vR x0), (1, vI x1), (2, vI x2), (3, vI x3)] [] h (f_X10_lendPounds_b25 x0 x1 x2 x3 h) := by
  intro x0 x1 x2 x3 h
  unfold f_X10_lendPounds_b25
  refine g_iconst (v := 0) dX10_lendPounds_25 (by decide) ?_
  exact g_sub2 [0, 1, 2, 3] rfl (s_X10_lendPounds_b26 hX x0 x1 x2 x3 0 h)
def f_X10_lendPounds (v0 : Option Nat) (v1 : Int32) (v2 : Int32) (v3 : Int32) (h : AH) : Option (Int32 × AH) :=
    bd (cv h v0 5 (f_X5_knows v0 v1 h)) fun r2 h1 =>
    (if r2 = 0 then
    f_X10_lendPounds_b25 v0 v1 v2 v3 h1
    else bd (cv h1 v0 5 (f_X5_knows v0 v2 h1)) fun r8 h7 =>
    (if r8 = 0 then
    f_X10_lendPounds_b25 v0 v1 v2 v3 h7
    else (if v1 = v2 then
    f_X10_lendPounds_b25 v0 v1 v2 v3 h7
    else f_X10_lendPounds_b26 v0 v1 v2 v3 1 h7)))
set_option maxRecDepth 100000 in
set_option maxHeartbeats 4000000 in
theorem s_X10_lendPounds {X : GX} (hX : XOK X) (v0 : Option Nat) (v1 : Int32) (v2 : Int32) (v3 : Int32) (h : AH) : Snd X yX10_lendPounds cX10_lendPounds 5 (some .boolean) 2 44 rI [vR v0, vI v1, vI v2, vI v3] h (f_X10_lendPounds v0 v1 v2 v3 h) := by
  refine snd_of hX (by decide +kernel) (Nat.le_of_ble_eq_true rfl) ?_
  show Gp (p_X10_lendPounds X h) RX10 "lendPounds" cX10_lendPounds (some .boolean) 0 [(0, vR v0), (1, vI v1), (2, vI v2), (3, vI v3)] [] h _
  unfold f_X10_lendPounds
  refine g_aload_n 0 dX10_lendPounds_0 rfl rfl ?_
  refine g_iload_n 1 dX10_lendPounds_1 rfl rfl ?_
  refine g_callVI (st := []) (ci := 5) rfl (s_X5_knows hX v0 v1 h) kml_X10_85 kim_X5_knows kse_X5_knows kii_X5 kcd_X5_knows rfl ds_X5_knows rfl ⟨Nat.le_of_ble_eq_true rfl, Nat.le_of_ble_eq_true rfl⟩ (Nat.le_of_ble_eq_true rfl) rfl dX10_lendPounds_2 (fun r2 h1 => ?_)
  refine g_ifeq (tgt := 25) dX10_lendPounds_5 (by decide) ?_ ?_
  · exact g_sub2 [0, 1, 2, 3] rfl (s_X10_lendPounds_b25 hX v0 v1 v2 v3 h1)
  · refine g_aload_n 0 dX10_lendPounds_8 rfl rfl ?_
    refine g_iload_n 2 dX10_lendPounds_9 rfl rfl ?_
    refine g_callVI (st := []) (ci := 5) rfl (s_X5_knows hX v0 v2 h1) kml_X10_85 kim_X5_knows kse_X5_knows kii_X5 kcd_X5_knows rfl ds_X5_knows rfl ⟨Nat.le_of_ble_eq_true rfl, Nat.le_of_ble_eq_true rfl⟩ (Nat.le_of_ble_eq_true rfl) rfl dX10_lendPounds_10 (fun r8 h7 => ?_)
    refine g_ifeq (tgt := 25) dX10_lendPounds_13 (by decide) ?_ ?_
    · exact g_sub2 [0, 1, 2, 3] rfl (s_X10_lendPounds_b25 hX v0 v1 v2 v3 h7)
    · refine g_iload_n 1 dX10_lendPounds_16 rfl rfl ?_
      refine g_iload_n 2 dX10_lendPounds_17 rfl rfl ?_
      refine g_icmpeq (tgt := 25) dX10_lendPounds_18 (by decide) ?_ ?_
      · exact g_sub2 [0, 1, 2, 3] rfl (s_X10_lendPounds_b25 hX v0 v1 v2 v3 h7)
      · refine g_iconst (v := 1) dX10_lendPounds_21 (by decide) ?_
        refine g_goto (tgt := 26) dX10_lendPounds_22 (by decide) ?_
        exact g_sub2 [0, 1, 2, 3] rfl (s_X10_lendPounds_b26 hX v0 v1 v2 v3 1 h7)
abbrev p_X5_isFull (X : GX) (h0 : AH) : PX Int32 := (X, (fun x => Sum.inl (rI x)), (0, 0, 1), h0)
def f_X5_isFull (v0 : Option Nat) (h : AH) : Option (Int32 × AH) :=
    (gI h v0 [5] 5).bind fun t1 =>
    (if t1 < 7 then
    some (0, h)
    else some (1, h))
set_option maxRecDepth 100000 in
set_option maxHeartbeats 4000000 in
theorem s_X5_isFull {X : GX} (hX : XOK X) (v0 : Option Nat) (h : AH) : Snd X yX5_isFull cX5_isFull 1 (some .boolean) 0 0 rI [vR v0] h (f_X5_isFull v0 h) := by
  refine snd_of hX (by decide +kernel) (Nat.le_of_ble_eq_true rfl) ?_
  show Gp (p_X5_isFull X h) RX5 "isFull" cX5_isFull (some .boolean) 0 [(0, vR v0)] [] h _
  unfold f_X5_isFull
  refine g_aload_n 0 dX5_isFull_0 rfl rfl ?_
  refine g_getI kfl_X5_30 fo_X5_guests dX5_isFull_1 (fun t1 => ?_)
  refine g_bipush (v := 7) dX5_isFull_4 (by decide) ?_
  refine g_icmplt (tgt := 13) dX5_isFull_6 (by decide) ?_ ?_
  · refine g_iconst (v := 0) dX5_isFull_13 (by decide) ?_
    exact g_zreturn (by decide +kernel) rfl dX5_isFull_14
  · refine g_iconst (v := 1) dX5_isFull_9 (by decide) ?_
    refine g_goto (tgt := 14) dX5_isFull_10 (by decide) ?_
    exact g_zreturn (by decide +kernel) rfl dX5_isFull_14
abbrev p_X8_init (X : GX) (h0 : AH) : PX Unit := (X, (fun x => Sum.inl (rU x)), (3, 64, 3), h0)
def f_X8_init (v0 : Option Nat) (v1 : Int32) (v2 : Int32) (h : AH) : Option (Unit × AH) :=
    bd (nn v0 (f_X0_init v0 v1 v2 h)) fun u2 h1 =>
    some ((), h1)
set_option maxRecDepth 100000 in
set_option maxHeartbeats 4000000 in
theorem s_X8_init {X : GX} (hX : XOK X) (v0 : Option Nat) (v1 : Int32) (v2 : Int32) (h : AH) : Snd X yX8_init cX8_init 3 none 3 64 rU [vR v0, vI v1, vI v2] h (f_X8_init v0 v1 v2 h) := by
  refine snd_of hX (by decide +kernel) (Nat.le_of_ble_eq_true rfl) ?_
  show Gp (p_X8_init X h) RX8 "<init>" cX8_init none 0 [(0, vR v0), (1, vI v1), (2, vI v2)] [] h _
  unfold f_X8_init
  refine g_aload_n 0 dX8_init_0 rfl rfl ?_
  refine g_iload_n 1 dX8_init_1 rfl rfl ?_
  refine g_iload_n 2 dX8_init_2 rfl rfl ?_
  refine g_callI2 (st := []) (s_X0_init hX v0 v1 v2 h) kml_X8_1 kim_X0_init kii_X0 kcd_X0_init rfl ds_X0_init rfl ⟨Nat.le_of_ble_eq_true rfl, Nat.le_of_ble_eq_true rfl⟩ (Nat.le_of_ble_eq_true rfl) rfl dX8_init_3 (fun u2 h1 => ?_)
  exact g_return rfl dX8_init_6
abbrev p_X2_init (X : GX) (h0 : AH) : PX Unit := (X, (fun x => Sum.inl (rU x)), (2, 42, 3), h0)
def f_X2_init (v0 : Option Nat) (v1 : Int32) (v2 : Int32) (h : AH) : Option (Unit × AH) :=
    bd (nn v0 (f_X4_init v0 v1 v2 h)) fun u2 h1 =>
    some ((), h1)
set_option maxRecDepth 100000 in
set_option maxHeartbeats 4000000 in
theorem s_X2_init {X : GX} (hX : XOK X) (v0 : Option Nat) (v1 : Int32) (v2 : Int32) (h : AH) : Snd X yX2_init cX2_init 3 none 2 42 rU [vR v0, vI v1, vI v2] h (f_X2_init v0 v1 v2 h) := by
  refine snd_of hX (by decide +kernel) (Nat.le_of_ble_eq_true rfl) ?_
  show Gp (p_X2_init X h) RX2 "<init>" cX2_init none 0 [(0, vR v0), (1, vI v1), (2, vI v2)] [] h _
  unfold f_X2_init
  refine g_aload_n 0 dX2_init_0 rfl rfl ?_
  refine g_iload_n 1 dX2_init_1 rfl rfl ?_
  refine g_iload_n 2 dX2_init_2 rfl rfl ?_
  refine g_callI2 (st := []) (s_X4_init hX v0 v1 v2 h) kml_X2_1 kim_X4_init kii_X4 kcd_X4_init rfl ds_X4_init rfl ⟨Nat.le_of_ble_eq_true rfl, Nat.le_of_ble_eq_true rfl⟩ (Nat.le_of_ble_eq_true rfl) rfl dX2_init_3 (fun u2 h1 => ?_)
  exact g_return rfl dX2_init_6
abbrev p_X6_init (X : GX) (h0 : AH) : PX Unit := (X, (fun x => Sum.inl (rU x)), (3, 64, 3), h0)
def f_X6_init (v0 : Option Nat) (v1 : Int32) (v2 : Int32) (h : AH) : Option (Unit × AH) :=
    bd (nn v0 (f_X2_init v0 v1 v2 h)) fun u2 h1 =>
    some ((), h1)
set_option maxRecDepth 100000 in
set_option maxHeartbeats 4000000 in
theorem s_X6_init {X : GX} (hX : XOK X) (v0 : Option Nat) (v1 : Int32) (v2 : Int32) (h : AH) : Snd X yX6_init cX6_init 3 none 3 64 rU [vR v0, vI v1, vI v2] h (f_X6_init v0 v1 v2 h) := by
  refine snd_of hX (by decide +kernel) (Nat.le_of_ble_eq_true rfl) ?_
  show Gp (p_X6_init X h) RX6 "<init>" cX6_init none 0 [(0, vR v0), (1, vI v1), (2, vI v2)] [] h _
  unfold f_X6_init
  refine g_aload_n 0 dX6_init_0 rfl rfl ?_
  refine g_iload_n 1 dX6_init_1 rfl rfl ?_
  refine g_iload_n 2 dX6_init_2 rfl rfl ?_
  refine g_callI2 (st := []) (s_X2_init hX v0 v1 v2 h) kml_X6_1 kim_X2_init kii_X2 kcd_X2_init rfl ds_X2_init rfl ⟨Nat.le_of_ble_eq_true rfl, Nat.le_of_ble_eq_true rfl⟩ (Nat.le_of_ble_eq_true rfl) rfl dX6_init_3 (fun u2 h1 => ?_)
  exact g_return rfl dX6_init_6
abbrev p_X9_init (X : GX) (h0 : AH) : PX Unit := (X, (fun x => Sum.inl (rU x)), (2, 42, 3), h0)
def f_X9_init (v0 : Option Nat) (v1 : Int32) (v2 : Int32) (h : AH) : Option (Unit × AH) :=
    bd (nn v0 (f_X4_init v0 v1 v2 h)) fun u2 h1 =>
    some ((), h1)
set_option maxRecDepth 100000 in
set_option maxHeartbeats 4000000 in
theorem s_X9_init {X : GX} (hX : XOK X) (v0 : Option Nat) (v1 : Int32) (v2 : Int32) (h : AH) : Snd X yX9_init cX9_init 3 none 2 42 rU [vR v0, vI v1, vI v2] h (f_X9_init v0 v1 v2 h) := by
  refine snd_of hX (by decide +kernel) (Nat.le_of_ble_eq_true rfl) ?_
  show Gp (p_X9_init X h) RX9 "<init>" cX9_init none 0 [(0, vR v0), (1, vI v1), (2, vI v2)] [] h _
  unfold f_X9_init
  refine g_aload_n 0 dX9_init_0 rfl rfl ?_
  refine g_iload_n 1 dX9_init_1 rfl rfl ?_
  refine g_iload_n 2 dX9_init_2 rfl rfl ?_
  refine g_callI2 (st := []) (s_X4_init hX v0 v1 v2 h) kml_X9_1 kim_X4_init kii_X4 kcd_X4_init rfl ds_X4_init rfl ⟨Nat.le_of_ble_eq_true rfl, Nat.le_of_ble_eq_true rfl⟩ (Nat.le_of_ble_eq_true rfl) rfl dX9_init_3 (fun u2 h1 => ?_)
  exact g_return rfl dX9_init_6
abbrev p_X3_init (X : GX) (h0 : AH) : PX Unit := (X, (fun x => Sum.inl (rU x)), (3, 64, 3), h0)
def f_X3_init (v0 : Option Nat) (v1 : Int32) (v2 : Int32) (h : AH) : Option (Unit × AH) :=
    bd (nn v0 (f_X9_init v0 v1 v2 h)) fun u2 h1 =>
    some ((), h1)
set_option maxRecDepth 100000 in
set_option maxHeartbeats 4000000 in
theorem s_X3_init {X : GX} (hX : XOK X) (v0 : Option Nat) (v1 : Int32) (v2 : Int32) (h : AH) : Snd X yX3_init cX3_init 3 none 3 64 rU [vR v0, vI v1, vI v2] h (f_X3_init v0 v1 v2 h) := by
  refine snd_of hX (by decide +kernel) (Nat.le_of_ble_eq_true rfl) ?_
  show Gp (p_X3_init X h) RX3 "<init>" cX3_init none 0 [(0, vR v0), (1, vI v1), (2, vI v2)] [] h _
  unfold f_X3_init
  refine g_aload_n 0 dX3_init_0 rfl rfl ?_
  refine g_iload_n 1 dX3_init_1 rfl rfl ?_
  refine g_iload_n 2 dX3_init_2 rfl rfl ?_
  refine g_callI2 (st := []) (s_X9_init hX v0 v1 v2 h) kml_X3_1 kim_X9_init kii_X9 kcd_X9_init rfl ds_X9_init rfl ⟨Nat.le_of_ble_eq_true rfl, Nat.le_of_ble_eq_true rfl⟩ (Nat.le_of_ble_eq_true rfl) rfl dX3_init_3 (fun u2 h1 => ?_)
  exact g_return rfl dX3_init_6
abbrev p_X1_init (X : GX) (h0 : AH) : PX Unit := (X, (fun x => Sum.inl (rU x)), (3, 64, 3), h0)
def f_X1_init (v0 : Option Nat) (v1 : Int32) (v2 : Int32) (h : AH) : Option (Unit × AH) :=
    bd (nn v0 (f_X0_init v0 v1 v2 h)) fun u2 h1 =>
    some ((), h1)
set_option maxRecDepth 100000 in
set_option maxHeartbeats 4000000 in
theorem s_X1_init {X : GX} (hX : XOK X) (v0 : Option Nat) (v1 : Int32) (v2 : Int32) (h : AH) : Snd X yX1_init cX1_init 3 none 3 64 rU [vR v0, vI v1, vI v2] h (f_X1_init v0 v1 v2 h) := by
  refine snd_of hX (by decide +kernel) (Nat.le_of_ble_eq_true rfl) ?_
  show Gp (p_X1_init X h) RX1 "<init>" cX1_init none 0 [(0, vR v0), (1, vI v1), (2, vI v2)] [] h _
  unfold f_X1_init
  refine g_aload_n 0 dX1_init_0 rfl rfl ?_
  refine g_iload_n 1 dX1_init_1 rfl rfl ?_
  refine g_iload_n 2 dX1_init_2 rfl rfl ?_
  refine g_callI2 (st := []) (s_X0_init hX v0 v1 v2 h) kml_X1_1 kim_X0_init kii_X0 kcd_X0_init rfl ds_X0_init rfl ⟨Nat.le_of_ble_eq_true rfl, Nat.le_of_ble_eq_true rfl⟩ (Nat.le_of_ble_eq_true rfl) rfl dX1_init_3 (fun u2 h1 => ?_)
  exact g_return rfl dX1_init_6
abbrev p_X11_kindOf (X : GX) (h0 : AH) : PX (Option Nat) := (X, (fun x => Sum.inl ((rO X.2.2.2.1) x)), (4, 86, 2), h0)
def f_X11_kindOf (v0 : Int32) (v1 : Int32) (h : AH) : Option ((Option Nat) × AH) :=
    (if v0 = 1 then
    bd (nO h 0 2) fun a2 h3 =>
    bd (nn a2 (f_X0_init a2 v0 v1 h3)) fun u5 h4 =>
    some (a2, h4)
    else (if v0 = 2 then
    bd (nO h 2 2) fun a7 h8 =>
    bd (nn a7 (f_X2_init a7 v0 v1 h8)) fun u10 h9 =>
    some (a7, h9)
    else (if v0 = 3 then
    bd (nO h 9 2) fun a12 h13 =>
    bd (nn a12 (f_X9_init a12 v0 v1 h13)) fun u15 h14 =>
    some (a12, h14)
    else (if v0 = 4 then
    bd (nO h 1 2) fun a17 h18 =>
    bd (nn a17 (f_X1_init a17 v0 v1 h18)) fun u20 h19 =>
    some (a17, h19)
    else (if v0 = 5 then
    bd (nO h 3 2) fun a22 h23 =>
    bd (nn a22 (f_X3_init a22 v0 v1 h23)) fun u25 h24 =>
    some (a22, h24)
    else (if v0 = 6 then
    bd (nO h 6 2) fun a27 h28 =>
    bd (nn a27 (f_X6_init a27 v0 v1 h28)) fun u30 h29 =>
    some (a27, h29)
    else (if v0 = 7 then
    bd (nO h 8 2) fun a32 h33 =>
    bd (nn a32 (f_X8_init a32 v0 v1 h33)) fun u35 h34 =>
    some (a32, h34)
    else bd (nO h 4 2) fun a36 h37 =>
    bd (nn a36 (f_X4_init a36 0 v1 h37)) fun u39 h38 =>
    some (a36, h38))))))))
set_option maxRecDepth 100000 in
set_option maxHeartbeats 4000000 in
theorem s_X11_kindOf {X : GX} (hX : XOK X) (v0 : Int32) (v1 : Int32) (h : AH) : Snd X yX11_kindOf cX11_kindOf 2 (some (.object "GuestWeighsLess$Guest")) 4 86 (rO X.2.2.2.1) [vI v0, vI v1] h (f_X11_kindOf v0 v1 h) := by
  refine snd_of hX (by decide +kernel) (Nat.le_of_ble_eq_true rfl) ?_
  show Gp (p_X11_kindOf X h) RX11 "kindOf" cX11_kindOf (some (.object "GuestWeighsLess$Guest")) 0 [(0, vI v0), (1, vI v1)] [] h _
  unfold f_X11_kindOf
  refine g_iload_n 0 dX11_kindOf_0 rfl rfl ?_
  refine g_tsIn (c := 1) (off := 43) (tgt := 44) dX11_kindOf_1 (by decide) (by decide) (by decide) (by decide) ?_ (fun n1 => ?_)
  · refine g_new clX0 kcl_X11_362 kin_X0 kii_X0 dX11_kindOf_44 (fun a2 h3 => ?_)
    refine g_dup dX11_kindOf_47 rfl ?_
    refine g_iload_n 0 dX11_kindOf_48 rfl rfl ?_
    refine g_iload_n 1 dX11_kindOf_49 rfl rfl ?_
    refine g_callI2 (st := [vR a2]) (s_X0_init hX a2 v0 v1 h3) kml_X11_364 kim_X0_init kii_X0 kcd_X0_init rfl ds_X0_init rfl ⟨Nat.le_of_ble_eq_true rfl, Nat.le_of_ble_eq_true rfl⟩ (Nat.le_of_ble_eq_true rfl) rfl dX11_kindOf_50 (fun u5 h4 => ?_)
    exact g_areturn rfl dX11_kindOf_53
  refine g_tsIn (c := 2) (off := 53) (tgt := 54) dX11_kindOf_1 (by decide) (by decide) (by decide) (by decide) ?_ (fun n6 => ?_)
  · refine g_new clX2 kcl_X11_365 kin_X2 kii_X2 dX11_kindOf_54 (fun a7 h8 => ?_)
    refine g_dup dX11_kindOf_57 rfl ?_
    refine g_iload_n 0 dX11_kindOf_58 rfl rfl ?_
    refine g_iload_n 1 dX11_kindOf_59 rfl rfl ?_
    refine g_callI2 (st := [vR a7]) (s_X2_init hX a7 v0 v1 h8) kml_X11_367 kim_X2_init kii_X2 kcd_X2_init rfl ds_X2_init rfl ⟨Nat.le_of_ble_eq_true rfl, Nat.le_of_ble_eq_true rfl⟩ (Nat.le_of_ble_eq_true rfl) rfl dX11_kindOf_60 (fun u10 h9 => ?_)
    exact g_areturn rfl dX11_kindOf_63
  refine g_tsIn (c := 3) (off := 63) (tgt := 64) dX11_kindOf_1 (by decide) (by decide) (by decide) (by decide) ?_ (fun n11 => ?_)
  · refine g_new clX9 kcl_X11_368 kin_X9 kii_X9 dX11_kindOf_64 (fun a12 h13 => ?_)
    refine g_dup dX11_kindOf_67 rfl ?_
    refine g_iload_n 0 dX11_kindOf_68 rfl rfl ?_
    refine g_iload_n 1 dX11_kindOf_69 rfl rfl ?_
    refine g_callI2 (st := [vR a12]) (s_X9_init hX a12 v0 v1 h13) kml_X11_370 kim_X9_init kii_X9 kcd_X9_init rfl ds_X9_init rfl ⟨Nat.le_of_ble_eq_true rfl, Nat.le_of_ble_eq_true rfl⟩ (Nat.le_of_ble_eq_true rfl) rfl dX11_kindOf_70 (fun u15 h14 => ?_)
    exact g_areturn rfl dX11_kindOf_73
  refine g_tsIn (c := 4) (off := 73) (tgt := 74) dX11_kindOf_1 (by decide) (by decide) (by decide) (by decide) ?_ (fun n16 => ?_)
  · refine g_new clX1 kcl_X11_371 kin_X1 kii_X1 dX11_kindOf_74 (fun a17 h18 => ?_)
    refine g_dup dX11_kindOf_77 rfl ?_
    refine g_iload_n 0 dX11_kindOf_78 rfl rfl ?_
    refine g_iload_n 1 dX11_kindOf_79 rfl rfl ?_
    refine g_callI2 (st := [vR a17]) (s_X1_init hX a17 v0 v1 h18) kml_X11_373 kim_X1_init kii_X1 kcd_X1_init rfl ds_X1_init rfl ⟨Nat.le_of_ble_eq_true rfl, Nat.le_of_ble_eq_true rfl⟩ (Nat.le_of_ble_eq_true rfl) rfl dX11_kindOf_80 (fun u20 h19 => ?_)
    exact g_areturn rfl dX11_kindOf_83
  refine g_tsIn (c := 5) (off := 83) (tgt := 84) dX11_kindOf_1 (by decide) (by decide) (by decide) (by decide) ?_ (fun n21 => ?_)
  · refine g_new clX3 kcl_X11_374 kin_X3 kii_X3 dX11_kindOf_84 (fun a22 h23 => ?_)
    refine g_dup dX11_kindOf_87 rfl ?_
    refine g_iload_n 0 dX11_kindOf_88 rfl rfl ?_
    refine g_iload_n 1 dX11_kindOf_89 rfl rfl ?_
    refine g_callI2 (st := [vR a22]) (s_X3_init hX a22 v0 v1 h23) kml_X11_376 kim_X3_init kii_X3 kcd_X3_init rfl ds_X3_init rfl ⟨Nat.le_of_ble_eq_true rfl, Nat.le_of_ble_eq_true rfl⟩ (Nat.le_of_ble_eq_true rfl) rfl dX11_kindOf_90 (fun u25 h24 => ?_)
    exact g_areturn rfl dX11_kindOf_93
  refine g_tsIn (c := 6) (off := 93) (tgt := 94) dX11_kindOf_1 (by decide) (by decide) (by decide) (by decide) ?_ (fun n26 => ?_)
  · refine g_new clX6 kcl_X11_377 kin_X6 kii_X6 dX11_kindOf_94 (fun a27 h28 => ?_)
    refine g_dup dX11_kindOf_97 rfl ?_
    refine g_iload_n 0 dX11_kindOf_98 rfl rfl ?_
    refine g_iload_n 1 dX11_kindOf_99 rfl rfl ?_
    refine g_callI2 (st := [vR a27]) (s_X6_init hX a27 v0 v1 h28) kml_X11_379 kim_X6_init kii_X6 kcd_X6_init rfl ds_X6_init rfl ⟨Nat.le_of_ble_eq_true rfl, Nat.le_of_ble_eq_true rfl⟩ (Nat.le_of_ble_eq_true rfl) rfl dX11_kindOf_100 (fun u30 h29 => ?_)
    exact g_areturn rfl dX11_kindOf_103
  refine g_tsIn (c := 7) (off := 103) (tgt := 104) dX11_kindOf_1 (by decide) (by decide) (by decide) (by decide) ?_ (fun n31 => ?_)
  · refine g_new clX8 kcl_X11_380 kin_X8 kii_X8 dX11_kindOf_104 (fun a32 h33 => ?_)
    refine g_dup dX11_kindOf_107 rfl ?_
    refine g_iload_n 0 dX11_kindOf_108 rfl rfl ?_
    refine g_iload_n 1 dX11_kindOf_109 rfl rfl ?_
    refine g_callI2 (st := [vR a32]) (s_X8_init hX a32 v0 v1 h33) kml_X11_382 kim_X8_init kii_X8 kcd_X8_init rfl ds_X8_init rfl ⟨Nat.le_of_ble_eq_true rfl, Nat.le_of_ble_eq_true rfl⟩ (Nat.le_of_ble_eq_true rfl) rfl dX11_kindOf_110 (fun u35 h34 => ?_)
    exact g_areturn rfl dX11_kindOf_113
  refine g_tsDef (tgt := 114) (keys := [1, 2, 3, 4, 5, 6, 7]) (neK_cons (c := 1) (k := 1) n1 (by decide) (neK_cons (c := 2) (k := 2) n6 (by decide) (neK_cons (c := 3) (k := 3) n11 (by decide) (neK_cons (c := 4) (k := 4) n16 (by decide) (neK_cons (c := 5) (k := 5) n21 (by decide) (neK_cons (c := 6) (k := 6) n26 (by decide) (neK_cons (c := 7) (k := 7) n31 (by decide) neK_nil))))))) (by decide +kernel) dX11_kindOf_1 (by decide) ?_
  refine g_new clX4 kcl_X11_26 kin_X4 kii_X4 dX11_kindOf_114 (fun a36 h37 => ?_)
  refine g_dup dX11_kindOf_117 rfl ?_
  refine g_iconst (v := 0) dX11_kindOf_118 (by decide) ?_
  refine g_iload_n 1 dX11_kindOf_119 rfl rfl ?_
  refine g_callI2 (st := [vR a36]) (s_X4_init hX a36 0 v1 h37) kml_X11_383 kim_X4_init kii_X4 kcd_X4_init rfl ds_X4_init rfl ⟨Nat.le_of_ble_eq_true rfl, Nat.le_of_ble_eq_true rfl⟩ (Nat.le_of_ble_eq_true rfl) rfl dX11_kindOf_120 (fun u39 h38 => ?_)
  exact g_areturn rfl dX11_kindOf_123
abbrev p_X1_rings (X : GX) (h0 : AH) : PX Int32 := (X, (fun x => Sum.inl (rI x)), (1, 20, 1), h0)
def f_X1_rings (v0 : Option Nat) (h : AH) : Option (Int32 × AH) :=
    bd (cu h GF v0 (f_X0_rings v0 h)) fun r2 h1 =>
    some ((2 * r2), h1)
set_option maxRecDepth 100000 in
set_option maxHeartbeats 4000000 in
theorem s_X1_rings {X : GX} (hX : XOK X) (v0 : Option Nat) (h : AH) : Snd X yX1_rings cX1_rings 1 (some .int) 1 20 rI [vR v0] h (f_X1_rings v0 h) := by
  refine snd_of hX (by decide +kernel) (Nat.le_of_ble_eq_true rfl) ?_
  show Gp (p_X1_rings X h) RX1 "rings" cX1_rings (some .int) 0 [(0, vR v0)] [] h _
  unfold f_X1_rings
  refine g_iconst (v := 2) dX1_rings_0 (by decide) ?_
  refine g_aload_n 0 dX1_rings_1 rfl rfl ?_
  refine g_callUI (st := [vI 2]) gfCl (s_X0_rings hX v0 h) kml_X1_7 ksm_X0_rings ksp_X1_X0 kim_X0_rings kii_X0 kcd_X0_rings ⟨by decide +kernel, ds_X0_rings.2.2⟩ rfl ⟨Nat.le_of_ble_eq_true rfl, Nat.le_of_ble_eq_true rfl⟩ (Nat.le_of_ble_eq_true rfl) rfl dX1_rings_2 (fun r2 h1 => ?_)
  refine g_imul dX1_rings_5 ?_
  exact g_ireturn rfl dX1_rings_6
abbrev p_X4_rings (X : GX) (h0 : AH) : PX Int32 := (X, (fun x => Sum.inl (rI x)), (0, 0, 1), h0)
def f_X4_rings (v0 : Option Nat) (h : AH) : Option (Int32 × AH) :=
    some (0, h)
set_option maxRecDepth 100000 in
set_option maxHeartbeats 4000000 in
theorem s_X4_rings {X : GX} (hX : XOK X) (v0 : Option Nat) (h : AH) : Snd X yX4_rings cX4_rings 1 (some .int) 0 0 rI [vR v0] h (f_X4_rings v0 h) := by
  refine snd_of hX (by decide +kernel) (Nat.le_of_ble_eq_true rfl) ?_
  show Gp (p_X4_rings X h) RX4 "rings" cX4_rings (some .int) 0 [(0, vR v0)] [] h _
  unfold f_X4_rings
  refine g_iconst (v := 0) dX4_rings_0 (by decide) ?_
  exact g_ireturn rfl dX4_rings_1
abbrev p_X9_rings (X : GX) (h0 : AH) : PX Int32 := (X, (fun x => Sum.inl (rI x)), (0, 0, 1), h0)
def f_X9_rings (v0 : Option Nat) (h : AH) : Option (Int32 × AH) :=
    (gI h v0 GF 1).bind fun t1 =>
    some ((t1 / 2), h)
set_option maxRecDepth 100000 in
set_option maxHeartbeats 4000000 in
theorem s_X9_rings {X : GX} (hX : XOK X) (v0 : Option Nat) (h : AH) : Snd X yX9_rings cX9_rings 1 (some .int) 0 0 rI [vR v0] h (f_X9_rings v0 h) := by
  refine snd_of hX (by decide +kernel) (Nat.le_of_ble_eq_true rfl) ?_
  show Gp (p_X9_rings X h) RX9 "rings" cX9_rings (some .int) 0 [(0, vR v0)] [] h _
  unfold f_X9_rings
  refine g_aload_n 0 dX9_rings_0 rfl rfl ?_
  refine g_getI kfl_X9_7 fo_X9_figure dX9_rings_1 (fun t1 => ?_)
  refine g_iconst (v := 2) dX9_rings_4 (by decide) ?_
  refine g_idivK dX9_rings_5 (by decide) ?_
  exact g_ireturn rfl dX9_rings_6
abbrev p_X3_rings (X : GX) (h0 : AH) : PX Int32 := (X, (fun x => Sum.inl (rI x)), (1, 20, 1), h0)
def f_X3_rings (v0 : Option Nat) (h : AH) : Option (Int32 × AH) :=
    bd (cu h GF v0 (f_X9_rings v0 h)) fun r2 h1 =>
    some ((r2 + 1), h1)
set_option maxRecDepth 100000 in
set_option maxHeartbeats 4000000 in
theorem s_X3_rings {X : GX} (hX : XOK X) (v0 : Option Nat) (h : AH) : Snd X yX3_rings cX3_rings 1 (some .int) 1 20 rI [vR v0] h (f_X3_rings v0 h) := by
  refine snd_of hX (by decide +kernel) (Nat.le_of_ble_eq_true rfl) ?_
  show Gp (p_X3_rings X h) RX3 "rings" cX3_rings (some .int) 0 [(0, vR v0)] [] h _
  unfold f_X3_rings
  refine g_aload_n 0 dX3_rings_0 rfl rfl ?_
  refine g_callUI (st := []) gfCl (s_X9_rings hX v0 h) kml_X3_7 ksm_X9_rings ksp_X3_X9 kim_X9_rings kii_X9 kcd_X9_rings ⟨by decide +kernel, ds_X9_rings.2.2⟩ rfl ⟨Nat.le_of_ble_eq_true rfl, Nat.le_of_ble_eq_true rfl⟩ (Nat.le_of_ble_eq_true rfl) rfl dX3_rings_1 (fun r2 h1 => ?_)
  refine g_iconst (v := 1) dX3_rings_4 (by decide) ?_
  refine g_iadd dX3_rings_5 ?_
  exact g_ireturn rfl dX3_rings_6
def f_dyn_rings (v : Option Nat) (h : AH) : Option (Int32 × AH) := dsp h v (fun c => if c = 0 then f_X0_rings v h else if c = 1 then f_X1_rings v h else if c = 2 then f_X4_rings v h else if c = 3 then f_X3_rings v h else if c = 4 then f_X4_rings v h else if c = 6 then f_X4_rings v h else if c = 8 then f_X0_rings v h else if c = 9 then f_X9_rings v h else none)
theorem dyn_rings {X : GX} (hX : XOK X) (v : Option Nat) (h : AH) : Dyn X yX4_rings 2 40 rI [vR v] h (f_dyn_rings v h) :=
  dyn_intro (fun c => (dynAt_if (dynAt_of (s_X0_rings hX v h) rfl kse_X0_X4_rings kim_X0_rings kii_X0 kcd_X0_rings ⟨Nat.le_of_ble_eq_true rfl, Nat.le_of_ble_eq_true rfl⟩) (dynAt_if (dynAt_of (s_X1_rings hX v h) rfl kse_X1_X4_rings kim_X1_rings kii_X1 kcd_X1_rings ⟨Nat.le_of_ble_eq_true rfl, Nat.le_of_ble_eq_true rfl⟩) (dynAt_if (dynAt_of (s_X4_rings hX v h) rfl kse_X2_X4_rings kim_X4_rings kii_X4 kcd_X4_rings ⟨Nat.le_of_ble_eq_true rfl, Nat.le_of_ble_eq_true rfl⟩) (dynAt_if (dynAt_of (s_X3_rings hX v h) rfl kse_X3_X4_rings kim_X3_rings kii_X3 kcd_X3_rings ⟨Nat.le_of_ble_eq_true rfl, Nat.le_of_ble_eq_true rfl⟩) (dynAt_if (dynAt_of (s_X4_rings hX v h) rfl kse_X4_X4_rings kim_X4_rings kii_X4 kcd_X4_rings ⟨Nat.le_of_ble_eq_true rfl, Nat.le_of_ble_eq_true rfl⟩) (dynAt_if (dynAt_of (s_X4_rings hX v h) rfl kse_X6_X4_rings kim_X4_rings kii_X4 kcd_X4_rings ⟨Nat.le_of_ble_eq_true rfl, Nat.le_of_ble_eq_true rfl⟩) (dynAt_if (dynAt_of (s_X0_rings hX v h) rfl kse_X8_X4_rings kim_X0_rings kii_X0 kcd_X0_rings ⟨Nat.le_of_ble_eq_true rfl, Nat.le_of_ble_eq_true rfl⟩) (dynAt_if (dynAt_of (s_X9_rings hX v h) rfl kse_X9_X4_rings kim_X9_rings kii_X9 kcd_X9_rings ⟨Nat.le_of_ble_eq_true rfl, Nat.le_of_ble_eq_true rfl⟩) dynAt_none)))))))))
abbrev p_X5_takeIn (X : GX) (h0 : AH) : PX Unit := (X, (fun x => Sum.inl (rU x)), (2, 40, 3), h0)
def f_X5_takeIn (v0 : Option Nat) (v1 : Option Nat) (v2 : Int32) (h : AH) : Option (Unit × AH) :=
    (gR h v0 [5] 0).bind fun t1 =>
    (gI h v0 [5] 5).bind fun t2 =>
    (rS h t1 2 GF t2 v1).bind fun h3 =>
    (gR h3 v0 [5] 1).bind fun t4 =>
    (gI h3 v0 [5] 5).bind fun t5 =>
    (iS h3 t4 t5 v2).bind fun h6 =>
    (gR h6 v0 [5] 2).bind fun t7 =>
    (gI h6 v0 [5] 5).bind fun t8 =>
    bd (f_dyn_rings v1 h6) fun r10 h9 =>
    (iS h9 t7 t8 (v2 + r10)).bind fun h11 =>
    (gR h11 v0 [5] 3).bind fun t12 =>
    (gI h11 v0 [5] 5).bind fun t13 =>
    (iS h11 t12 t13 3).bind fun h14 =>
    (gR h14 v0 [5] 4).bind fun t15 =>
    (gI h14 v0 [5] 5).bind fun t16 =>
    (gI h14 v0 [5] 10).bind fun t17 =>
    (iS h14 t15 t16 t17).bind fun h18 =>
    (gI h18 v0 [5] 6).bind fun t19 =>
    (gI h18 v0 [5] 5).bind fun t20 =>
    (pI h18 v0 [5] 6 (t19 ||| ((1 : Int32) <<< (t20 &&& 31)))).bind fun h21 =>
    (gI h21 v0 [5] 5).bind fun t22 =>
    (pI h21 v0 [5] 5 (t22 + 1)).bind fun h23 =>
    some ((), h23)
set_option maxRecDepth 100000 in
set_option maxHeartbeats 4000000 in
theorem s_X5_takeIn {X : GX} (hX : XOK X) (v0 : Option Nat) (v1 : Option Nat) (v2 : Int32) (h : AH) : Snd X yX5_takeIn cX5_takeIn 3 none 2 40 rU [vR v0, vR v1, vI v2] h (f_X5_takeIn v0 v1 v2 h) := by
  refine snd_of hX (by decide +kernel) (Nat.le_of_ble_eq_true rfl) ?_
  show Gp (p_X5_takeIn X h) RX5 "takeIn" cX5_takeIn none 0 [(0, vR v0), (1, vR v1), (2, vI v2)] [] h _
  unfold f_X5_takeIn
  refine g_aload_n 0 dX5_takeIn_0 rfl rfl ?_
  refine g_getR kfl_X5_11 fo_X5_kind dX5_takeIn_1 (fun t1 => ?_)
  refine g_aload_n 0 dX5_takeIn_4 rfl rfl ?_
  refine g_getI kfl_X5_30 fo_X5_guests dX5_takeIn_5 (fun t2 => ?_)
  refine g_aload_n 1 dX5_takeIn_8 rfl rfl ?_
  refine g_aastore (kd := 2) (by decide) (by decide) asgG dX5_takeIn_9 (fun h3 => ?_)
  refine g_aload_n 0 dX5_takeIn_10 rfl rfl ?_
  refine g_getR kfl_X5_17 fo_X5_weight dX5_takeIn_11 (fun t4 => ?_)
  refine g_aload_n 0 dX5_takeIn_14 rfl rfl ?_
  refine g_getI kfl_X5_30 fo_X5_guests dX5_takeIn_15 (fun t5 => ?_)
  refine g_iload_n 2 dX5_takeIn_18 rfl rfl ?_
  refine g_iastore dX5_takeIn_19 (fun h6 => ?_)
  refine g_aload_n 0 dX5_takeIn_20 rfl rfl ?_
  refine g_getR kfl_X5_21 fo_X5_entered dX5_takeIn_21 (fun t7 => ?_)
  refine g_aload_n 0 dX5_takeIn_24 rfl rfl ?_
  refine g_getI kfl_X5_30 fo_X5_guests dX5_takeIn_25 (fun t8 => ?_)
  refine g_iload_n 2 dX5_takeIn_28 rfl rfl ?_
  refine g_aload_n 1 dX5_takeIn_29 rfl rfl ?_
  refine g_callDI (st := [vI v2, vI t8, vR t7]) (dyn_rings hX v1 h6) kml_X5_52 ksm_X4_rings kim_X4_rings kcd_X4_rings ds_X4_rings rfl ⟨Nat.le_of_ble_eq_true rfl, Nat.le_of_ble_eq_true rfl⟩ (Nat.le_of_ble_eq_true rfl) rfl dX5_takeIn_30 (fun r10 h9 => ?_)
  refine g_iadd dX5_takeIn_33 ?_
  refine g_iastore dX5_takeIn_34 (fun h11 => ?_)
  refine g_aload_n 0 dX5_takeIn_35 rfl rfl ?_
  refine g_getR kfl_X5_24 fo_X5_secrets dX5_takeIn_36 (fun t12 => ?_)
  refine g_aload_n 0 dX5_takeIn_39 rfl rfl ?_
  refine g_getI kfl_X5_30 fo_X5_guests dX5_takeIn_40 (fun t13 => ?_)
  refine g_iconst (v := 3) dX5_takeIn_43 (by decide) ?_
  refine g_iastore dX5_takeIn_44 (fun h14 => ?_)
  refine g_aload_n 0 dX5_takeIn_45 rfl rfl ?_
  refine g_getR kfl_X5_27 fo_X5_came dX5_takeIn_46 (fun t15 => ?_)
  refine g_aload_n 0 dX5_takeIn_49 rfl rfl ?_
  refine g_getI kfl_X5_30 fo_X5_guests dX5_takeIn_50 (fun t16 => ?_)
  refine g_aload_n 0 dX5_takeIn_53 rfl rfl ?_
  refine g_getI kfl_X5_46 fo_X5_day dX5_takeIn_54 (fun t17 => ?_)
  refine g_iastore dX5_takeIn_57 (fun h18 => ?_)
  refine g_aload_n 0 dX5_takeIn_58 rfl rfl ?_
  refine g_dup dX5_takeIn_59 rfl ?_
  refine g_getI kfl_X5_34 fo_X5_inside dX5_takeIn_60 (fun t19 => ?_)
  refine g_iconst (v := 1) dX5_takeIn_63 (by decide) ?_
  refine g_aload_n 0 dX5_takeIn_64 rfl rfl ?_
  refine g_getI kfl_X5_30 fo_X5_guests dX5_takeIn_65 (fun t20 => ?_)
  refine g_ishl dX5_takeIn_68 ?_
  refine g_ior dX5_takeIn_69 ?_
  refine g_putI kfl_X5_34 fo_X5_inside pd_I nI'.1 nI'.2 dX5_takeIn_70 (fun h21 => ?_)
  refine g_aload_n 0 dX5_takeIn_73 rfl rfl ?_
  refine g_dup dX5_takeIn_74 rfl ?_
  refine g_getI kfl_X5_30 fo_X5_guests dX5_takeIn_75 (fun t22 => ?_)
  refine g_iconst (v := 1) dX5_takeIn_78 (by decide) ?_
  refine g_iadd dX5_takeIn_79 ?_
  refine g_putI kfl_X5_30 fo_X5_guests pd_I nI'.1 nI'.2 dX5_takeIn_80 (fun h23 => ?_)
  exact g_return rfl dX5_takeIn_83
abbrev p_X10_takeIn (X : GX) (h0 : AH) : PX Int32 := (X, (fun x => Sum.inl (rI x)), (5, 107, 4), h0)
def f_X10_takeIn (v0 : Option Nat) (v1 : Int32) (v2 : Int32) (v3 : Int32) (h : AH) : Option (Int32 × AH) :=
    (if 8 ≤ v1 then
    some (0, h)
    else bd (cv h v0 5 (f_X5_isFull v0 h)) fun r2 h1 =>
    (if r2 = 0 then
    bd (f_X11_kindOf v1 v2 h1) fun r4 h3 =>
    bd (cv h3 v0 5 (f_X5_takeIn v0 r4 v3 h3)) fun u6 h5 =>
    some (1, h5)
    else some (0, h1)))
set_option maxRecDepth 100000 in
set_option maxHeartbeats 4000000 in
theorem s_X10_takeIn {X : GX} (hX : XOK X) (v0 : Option Nat) (v1 : Int32) (v2 : Int32) (v3 : Int32) (h : AH) : Snd X yX10_takeIn cX10_takeIn 4 (some .boolean) 5 107 rI [vR v0, vI v1, vI v2, vI v3] h (f_X10_takeIn v0 v1 v2 v3 h) := by
  refine snd_of hX (by decide +kernel) (Nat.le_of_ble_eq_true rfl) ?_
  show Gp (p_X10_takeIn X h) RX10 "takeIn" cX10_takeIn (some .boolean) 0 [(0, vR v0), (1, vI v1), (2, vI v2), (3, vI v3)] [] h _
  unfold f_X10_takeIn
  refine g_iload_n 1 dX10_takeIn_0 rfl rfl ?_
  refine g_bipush (v := 8) dX10_takeIn_1 (by decide) ?_
  refine g_icmpge (tgt := 13) dX10_takeIn_3 (by decide) ?_ ?_
  · refine g_iconst (v := 0) dX10_takeIn_13 (by decide) ?_
    exact g_zreturn (by decide +kernel) rfl dX10_takeIn_14
  · refine g_aload_n 0 dX10_takeIn_6 rfl rfl ?_
    refine g_callVI (st := []) (ci := 5) rfl (s_X5_isFull hX v0 h) kml_X10_65 kim_X5_isFull kse_X5_isFull kii_X5 kcd_X5_isFull rfl ds_X5_isFull rfl ⟨Nat.le_of_ble_eq_true rfl, Nat.le_of_ble_eq_true rfl⟩ (Nat.le_of_ble_eq_true rfl) rfl dX10_takeIn_7 (fun r2 h1 => ?_)
    refine g_ifeq (tgt := 15) dX10_takeIn_10 (by decide) ?_ ?_
    · refine g_aload_n 0 dX10_takeIn_15 rfl rfl ?_
      refine g_iload_n 1 dX10_takeIn_16 rfl rfl ?_
      refine g_iload_n 2 dX10_takeIn_17 rfl rfl ?_
      refine g_callSNR (st := [vR v0]) (s_X11_kindOf hX v1 v2 h1) kmn_X10_71 kst_X11_kindOf kii_X11 kcd_X11_kindOf ds_X11_kindOf rfl ⟨Nat.le_of_ble_eq_true rfl, Nat.le_of_ble_eq_true rfl⟩ (Nat.le_of_ble_eq_true rfl) rfl dX10_takeIn_18 (fun r4 h3 => ?_)
      refine g_iload_n 3 dX10_takeIn_21 rfl rfl ?_
      refine g_callVU (st := []) (ci := 5) rfl (s_X5_takeIn hX v0 r4 v3 h3) kml_X10_75 kim_X5_takeIn kse_X5_takeIn kii_X5 kcd_X5_takeIn rfl ds_X5_takeIn rfl ⟨Nat.le_of_ble_eq_true rfl, Nat.le_of_ble_eq_true rfl⟩ (Nat.le_of_ble_eq_true rfl) rfl dX10_takeIn_22 (fun u6 h5 => ?_)
      refine g_iconst (v := 1) dX10_takeIn_25 (by decide) ?_
      exact g_zreturn (by decide +kernel) rfl dX10_takeIn_26
    · refine g_iconst (v := 0) dX10_takeIn_13 (by decide) ?_
      exact g_zreturn (by decide +kernel) rfl dX10_takeIn_14
abbrev p_X1_food (X : GX) (h0 : AH) : PX Int32 := (X, (fun x => Sum.inl (rI x)), (1, 21, 2), h0)
def f_X1_food (v0 : Option Nat) (v1 : Int32) (h : AH) : Option (Int32 × AH) :=
    bd (cu h GF v0 (f_X0_food v0 v1 h)) fun r2 h1 =>
    some ((r2 + 2), h1)
set_option maxRecDepth 100000 in
set_option maxHeartbeats 4000000 in
theorem s_X1_food {X : GX} (hX : XOK X) (v0 : Option Nat) (v1 : Int32) (h : AH) : Snd X yX1_food cX1_food 2 (some .int) 1 21 rI [vR v0, vI v1] h (f_X1_food v0 v1 h) := by
  refine snd_of hX (by decide +kernel) (Nat.le_of_ble_eq_true rfl) ?_
  show Gp (p_X1_food X h) RX1 "food" cX1_food (some .int) 0 [(0, vR v0), (1, vI v1)] [] h _
  unfold f_X1_food
  refine g_aload_n 0 dX1_food_0 rfl rfl ?_
  refine g_iload_n 1 dX1_food_1 rfl rfl ?_
  refine g_callUI (st := []) gfCl (s_X0_food hX v0 v1 h) kml_X1_11 ksm_X0_food ksp_X1_X0 kim_X0_food kii_X0 kcd_X0_food ⟨by decide +kernel, ds_X0_food.2.2⟩ rfl ⟨Nat.le_of_ble_eq_true rfl, Nat.le_of_ble_eq_true rfl⟩ (Nat.le_of_ble_eq_true rfl) rfl dX1_food_2 (fun r2 h1 => ?_)
  refine g_iconst (v := 2) dX1_food_5 (by decide) ?_
  refine g_iadd dX1_food_6 ?_
  exact g_ireturn rfl dX1_food_7
abbrev p_X2_food (X : GX) (h0 : AH) : PX Int32 := (X, (fun x => Sum.inl (rI x)), (0, 0, 2), h0)
def f_X2_food (v0 : Option Nat) (v1 : Int32) (h : AH) : Option (Int32 × AH) :=
    some ((v1 + 1), h)
set_option maxRecDepth 100000 in
set_option maxHeartbeats 4000000 in
theorem s_X2_food {X : GX} (hX : XOK X) (v0 : Option Nat) (v1 : Int32) (h : AH) : Snd X yX2_food cX2_food 2 (some .int) 0 0 rI [vR v0, vI v1] h (f_X2_food v0 v1 h) := by
  refine snd_of hX (by decide +kernel) (Nat.le_of_ble_eq_true rfl) ?_
  show Gp (p_X2_food X h) RX2 "food" cX2_food (some .int) 0 [(0, vR v0), (1, vI v1)] [] h _
  unfold f_X2_food
  refine g_iload_n 1 dX2_food_0 rfl rfl ?_
  refine g_iconst (v := 1) dX2_food_1 (by decide) ?_
  refine g_iadd dX2_food_2 ?_
  exact g_ireturn rfl dX2_food_3
abbrev p_X4_food (X : GX) (h0 : AH) : PX Int32 := (X, (fun x => Sum.inl (rI x)), (0, 0, 2), h0)
def f_X4_food (v0 : Option Nat) (v1 : Int32) (h : AH) : Option (Int32 × AH) :=
    some (v1, h)
set_option maxRecDepth 100000 in
set_option maxHeartbeats 4000000 in
theorem s_X4_food {X : GX} (hX : XOK X) (v0 : Option Nat) (v1 : Int32) (h : AH) : Snd X yX4_food cX4_food 2 (some .int) 0 0 rI [vR v0, vI v1] h (f_X4_food v0 v1 h) := by
  refine snd_of hX (by decide +kernel) (Nat.le_of_ble_eq_true rfl) ?_
  show Gp (p_X4_food X h) RX4 "food" cX4_food (some .int) 0 [(0, vR v0), (1, vI v1)] [] h _
  unfold f_X4_food
  refine g_iload_n 1 dX4_food_0 rfl rfl ?_
  exact g_ireturn rfl dX4_food_1
abbrev p_X3_food (X : GX) (h0 : AH) : PX Int32 := (X, (fun x => Sum.inl (rI x)), (1, 21, 2), h0)
def f_X3_food (v0 : Option Nat) (v1 : Int32) (h : AH) : Option (Int32 × AH) :=
    bd (cu h GF v0 (f_X4_food v0 v1 h)) fun r2 h1 =>
    some ((2 * r2), h1)
set_option maxRecDepth 100000 in
set_option maxHeartbeats 4000000 in
theorem s_X3_food {X : GX} (hX : XOK X) (v0 : Option Nat) (v1 : Int32) (h : AH) : Snd X yX3_food cX3_food 2 (some .int) 1 21 rI [vR v0, vI v1] h (f_X3_food v0 v1 h) := by
  refine snd_of hX (by decide +kernel) (Nat.le_of_ble_eq_true rfl) ?_
  show Gp (p_X3_food X h) RX3 "food" cX3_food (some .int) 0 [(0, vR v0), (1, vI v1)] [] h _
  unfold f_X3_food
  refine g_iconst (v := 2) dX3_food_0 (by decide) ?_
  refine g_aload_n 0 dX3_food_1 rfl rfl ?_
  refine g_iload_n 1 dX3_food_2 rfl rfl ?_
  refine g_callU2I (st := [vI 2]) gfCl (s_X4_food hX v0 v1 h) kml_X3_11 ksm_X9_X4_food ksp_X3_X9 ksp_X9_X4 kim_X4_food kii_X4 kcd_X4_food ⟨by decide +kernel, ds_X4_food.2.2⟩ rfl ⟨Nat.le_of_ble_eq_true rfl, Nat.le_of_ble_eq_true rfl⟩ (Nat.le_of_ble_eq_true rfl) rfl dX3_food_3 (fun r2 h1 => ?_)
  refine g_imul dX3_food_6 ?_
  exact g_ireturn rfl dX3_food_7
abbrev p_X6_food (X : GX) (h0 : AH) : PX Int32 := (X, (fun x => Sum.inl (rI x)), (1, 21, 2), h0)
def f_X6_food (v0 : Option Nat) (v1 : Int32) (h : AH) : Option (Int32 × AH) :=
    bd (cu h GF v0 (f_X2_food v0 v1 h)) fun r2 h1 =>
    some ((mmax 0 (r2 - 2)), h1)
set_option maxRecDepth 100000 in
set_option maxHeartbeats 4000000 in
theorem s_X6_food {X : GX} (hX : XOK X) (v0 : Option Nat) (v1 : Int32) (h : AH) : Snd X yX6_food cX6_food 2 (some .int) 1 21 rI [vR v0, vI v1] h (f_X6_food v0 v1 h) := by
  refine snd_of hX (by decide +kernel) (Nat.le_of_ble_eq_true rfl) ?_
  show Gp (p_X6_food X h) RX6 "food" cX6_food (some .int) 0 [(0, vR v0), (1, vI v1)] [] h _
  unfold f_X6_food
  refine g_iconst (v := 0) dX6_food_0 (by decide) ?_
  refine g_aload_n 0 dX6_food_1 rfl rfl ?_
  refine g_iload_n 1 dX6_food_2 rfl rfl ?_
  refine g_callUI (st := [vI 0]) gfCl (s_X2_food hX v0 v1 h) kml_X6_7 ksm_X2_food ksp_X6_X2 kim_X2_food kii_X2 kcd_X2_food ⟨by decide +kernel, ds_X2_food.2.2⟩ rfl ⟨Nat.le_of_ble_eq_true rfl, Nat.le_of_ble_eq_true rfl⟩ (Nat.le_of_ble_eq_true rfl) rfl dX6_food_3 (fun r2 h1 => ?_)
  refine g_iconst (v := 2) dX6_food_6 (by decide) ?_
  refine g_isub dX6_food_7 ?_
  refine g_mmax kml_X6_11 kst_mmax kii_Math kcd_mmax ⟨Nat.le_of_ble_eq_true rfl, Nat.le_of_ble_eq_true rfl⟩ (Nat.le_of_ble_eq_true rfl) dX6_food_8 ?_
  exact g_ireturn rfl dX6_food_11
def f_dyn_food (v : Option Nat) (a0 : Int32) (h : AH) : Option (Int32 × AH) := dsp h v (fun c => if c = 0 then f_X0_food v a0 h else if c = 1 then f_X1_food v a0 h else if c = 2 then f_X2_food v a0 h else if c = 3 then f_X3_food v a0 h else if c = 4 then f_X4_food v a0 h else if c = 6 then f_X6_food v a0 h else if c = 8 then f_X0_food v a0 h else if c = 9 then f_X4_food v a0 h else none)
theorem dyn_food {X : GX} (hX : XOK X) (v : Option Nat) (a0 : Int32) (h : AH) : Dyn X yX4_food 2 42 rI [vR v, vI a0] h (f_dyn_food v a0 h) :=
  dyn_intro (fun c => (dynAt_if (dynAt_of (s_X0_food hX v a0 h) rfl kse_X0_X4_food kim_X0_food kii_X0 kcd_X0_food ⟨Nat.le_of_ble_eq_true rfl, Nat.le_of_ble_eq_true rfl⟩) (dynAt_if (dynAt_of (s_X1_food hX v a0 h) rfl kse_X1_X4_food kim_X1_food kii_X1 kcd_X1_food ⟨Nat.le_of_ble_eq_true rfl, Nat.le_of_ble_eq_true rfl⟩) (dynAt_if (dynAt_of (s_X2_food hX v a0 h) rfl kse_X2_X4_food kim_X2_food kii_X2 kcd_X2_food ⟨Nat.le_of_ble_eq_true rfl, Nat.le_of_ble_eq_true rfl⟩) (dynAt_if (dynAt_of (s_X3_food hX v a0 h) rfl kse_X3_X4_food kim_X3_food kii_X3 kcd_X3_food ⟨Nat.le_of_ble_eq_true rfl, Nat.le_of_ble_eq_true rfl⟩) (dynAt_if (dynAt_of (s_X4_food hX v a0 h) rfl kse_X4_X4_food kim_X4_food kii_X4 kcd_X4_food ⟨Nat.le_of_ble_eq_true rfl, Nat.le_of_ble_eq_true rfl⟩) (dynAt_if (dynAt_of (s_X6_food hX v a0 h) rfl kse_X6_X4_food kim_X6_food kii_X6 kcd_X6_food ⟨Nat.le_of_ble_eq_true rfl, Nat.le_of_ble_eq_true rfl⟩) (dynAt_if (dynAt_of (s_X0_food hX v a0 h) rfl kse_X8_X4_food kim_X0_food kii_X0 kcd_X0_food ⟨Nat.le_of_ble_eq_true rfl, Nat.le_of_ble_eq_true rfl⟩) (dynAt_if (dynAt_of (s_X4_food hX v a0 h) rfl kse_X9_X4_food kim_X4_food kii_X4 kcd_X4_food ⟨Nat.le_of_ble_eq_true rfl, Nat.le_of_ble_eq_true rfl⟩) dynAt_none)))))))))
abbrev p_X5_foodOf (X : GX) (h0 : AH) : PX Int32 := (X, (fun x => Sum.inl (rI x)), (2, 42, 2), h0)
def f_X5_foodOf (v0 : Option Nat) (v1 : Int32) (h : AH) : Option (Int32 × AH) :=
    (gR h v0 [5] 0).bind fun t1 =>
    (rA h t1 2 v1).bind fun t2 =>
    (gI h v0 [5] 7).bind fun t3 =>
    bd (f_dyn_food t2 t3 h) fun r5 h4 =>
    some (r5, h4)
set_option maxRecDepth 100000 in
set_option maxHeartbeats 4000000 in
theorem s_X5_foodOf {X : GX} (hX : XOK X) (v0 : Option Nat) (v1 : Int32) (h : AH) : Snd X yX5_foodOf cX5_foodOf 2 (some .int) 2 42 rI [vR v0, vI v1] h (f_X5_foodOf v0 v1 h) := by
  refine snd_of hX (by decide +kernel) (Nat.le_of_ble_eq_true rfl) ?_
  show Gp (p_X5_foodOf X h) RX5 "foodOf" cX5_foodOf (some .int) 0 [(0, vR v0), (1, vI v1)] [] h _
  unfold f_X5_foodOf
  refine g_aload_n 0 dX5_foodOf_0 rfl rfl ?_
  refine g_getR kfl_X5_11 fo_X5_kind dX5_foodOf_1 (fun t1 => ?_)
  refine g_iload_n 1 dX5_foodOf_4 rfl rfl ?_
  refine g_aaload (kd := 2) (by decide) (by decide) dX5_foodOf_5 (fun t2 => ?_)
  refine g_aload_n 0 dX5_foodOf_6 rfl rfl ?_
  refine g_getI kfl_X5_37 fo_X5_board dX5_foodOf_7 (fun t3 => ?_)
  refine g_callDI (st := []) (dyn_food hX t2 t3 h) kml_X5_75 ksm_X4_food kim_X4_food kcd_X4_food ds_X4_food rfl ⟨Nat.le_of_ble_eq_true rfl, Nat.le_of_ble_eq_true rfl⟩ (Nat.le_of_ble_eq_true rfl) rfl dX5_foodOf_10 (fun r5 h4 => ?_)
  exact g_ireturn rfl dX5_foodOf_13
abbrev p_X2_danced (X : GX) (h0 : AH) : PX Int32 := (X, (fun x => Sum.inl (rI x)), (0, 0, 2), h0)
def f_X2_danced (v0 : Option Nat) (v1 : Int32) (h : AH) : Option (Int32 × AH) :=
    (gI h v0 GF 1).bind fun t1 =>
    some ((v1 + (t1 / 3)), h)
set_option maxRecDepth 100000 in
set_option maxHeartbeats 4000000 in
theorem s_X2_danced {X : GX} (hX : XOK X) (v0 : Option Nat) (v1 : Int32) (h : AH) : Snd X yX2_danced cX2_danced 2 (some .int) 0 0 rI [vR v0, vI v1] h (f_X2_danced v0 v1 h) := by
  refine snd_of hX (by decide +kernel) (Nat.le_of_ble_eq_true rfl) ?_
  show Gp (p_X2_danced X h) RX2 "danced" cX2_danced (some .int) 0 [(0, vR v0), (1, vI v1)] [] h _
  unfold f_X2_danced
  refine g_iload_n 1 dX2_danced_0 rfl rfl ?_
  refine g_aload_n 0 dX2_danced_1 rfl rfl ?_
  refine g_getI kfl_X2_7 fo_X2_figure dX2_danced_2 (fun t1 => ?_)
  refine g_iconst (v := 3) dX2_danced_5 (by decide) ?_
  refine g_idivK dX2_danced_6 (by decide) ?_
  refine g_iadd dX2_danced_7 ?_
  exact g_ireturn rfl dX2_danced_8
abbrev p_X4_danced (X : GX) (h0 : AH) : PX Int32 := (X, (fun x => Sum.inl (rI x)), (0, 0, 2), h0)
def f_X4_danced (v0 : Option Nat) (v1 : Int32) (h : AH) : Option (Int32 × AH) :=
    some (v1, h)
set_option maxRecDepth 100000 in
set_option maxHeartbeats 4000000 in
theorem s_X4_danced {X : GX} (hX : XOK X) (v0 : Option Nat) (v1 : Int32) (h : AH) : Snd X yX4_danced cX4_danced 2 (some .int) 0 0 rI [vR v0, vI v1] h (f_X4_danced v0 v1 h) := by
  refine snd_of hX (by decide +kernel) (Nat.le_of_ble_eq_true rfl) ?_
  show Gp (p_X4_danced X h) RX4 "danced" cX4_danced (some .int) 0 [(0, vR v0), (1, vI v1)] [] h _
  unfold f_X4_danced
  refine g_iload_n 1 dX4_danced_0 rfl rfl ?_
  exact g_ireturn rfl dX4_danced_1
abbrev p_X3_danced (X : GX) (h0 : AH) : PX Int32 := (X, (fun x => Sum.inl (rI x)), (1, 21, 2), h0)
def f_X3_danced (v0 : Option Nat) (v1 : Int32) (h : AH) : Option (Int32 × AH) :=
    bd (cu h GF v0 (f_X4_danced v0 v1 h)) fun r2 h1 =>
    some ((mmax 0 (r2 - 1)), h1)
set_option maxRecDepth 100000 in
set_option maxHeartbeats 4000000 in
theorem s_X3_danced {X : GX} (hX : XOK X) (v0 : Option Nat) (v1 : Int32) (h : AH) : Snd X yX3_danced cX3_danced 2 (some .int) 1 21 rI [vR v0, vI v1] h (f_X3_danced v0 v1 h) := by
  refine snd_of hX (by decide +kernel) (Nat.le_of_ble_eq_true rfl) ?_
  show Gp (p_X3_danced X h) RX3 "danced" cX3_danced (some .int) 0 [(0, vR v0), (1, vI v1)] [] h _
  unfold f_X3_danced
  refine g_iconst (v := 0) dX3_danced_0 (by decide) ?_
  refine g_aload_n 0 dX3_danced_1 rfl rfl ?_
  refine g_iload_n 1 dX3_danced_2 rfl rfl ?_
  refine g_callU2I (st := [vI 0]) gfCl (s_X4_danced hX v0 v1 h) kml_X3_15 ksm_X9_X4_danced ksp_X3_X9 ksp_X9_X4 kim_X4_danced kii_X4 kcd_X4_danced ⟨by decide +kernel, ds_X4_danced.2.2⟩ rfl ⟨Nat.le_of_ble_eq_true rfl, Nat.le_of_ble_eq_true rfl⟩ (Nat.le_of_ble_eq_true rfl) rfl dX3_danced_3 (fun r2 h1 => ?_)
  refine g_iconst (v := 1) dX3_danced_6 (by decide) ?_
  refine g_isub dX3_danced_7 ?_
  refine g_mmax kml_X3_18 kst_mmax kii_Math kcd_mmax ⟨Nat.le_of_ble_eq_true rfl, Nat.le_of_ble_eq_true rfl⟩ (Nat.le_of_ble_eq_true rfl) dX3_danced_8 ?_
  exact g_ireturn rfl dX3_danced_11
abbrev p_X6_danced (X : GX) (h0 : AH) : PX Int32 := (X, (fun x => Sum.inl (rI x)), (1, 21, 2), h0)
def f_X6_danced (v0 : Option Nat) (v1 : Int32) (h : AH) : Option (Int32 × AH) :=
    bd (cu h GF v0 (f_X2_danced v0 v1 h)) fun r2 h1 =>
    some ((r2 / 2), h1)
set_option maxRecDepth 100000 in
set_option maxHeartbeats 4000000 in
theorem s_X6_danced {X : GX} (hX : XOK X) (v0 : Option Nat) (v1 : Int32) (h : AH) : Snd X yX6_danced cX6_danced 2 (some .int) 1 21 rI [vR v0, vI v1] h (f_X6_danced v0 v1 h) := by
  refine snd_of hX (by decide +kernel) (Nat.le_of_ble_eq_true rfl) ?_
  show Gp (p_X6_danced X h) RX6 "danced" cX6_danced (some .int) 0 [(0, vR v0), (1, vI v1)] [] h _
  unfold f_X6_danced
  refine g_aload_n 0 dX6_danced_0 rfl rfl ?_
  refine g_iload_n 1 dX6_danced_1 rfl rfl ?_
  refine g_callUI (st := []) gfCl (s_X2_danced hX v0 v1 h) kml_X6_17 ksm_X2_danced ksp_X6_X2 kim_X2_danced kii_X2 kcd_X2_danced ⟨by decide +kernel, ds_X2_danced.2.2⟩ rfl ⟨Nat.le_of_ble_eq_true rfl, Nat.le_of_ble_eq_true rfl⟩ (Nat.le_of_ble_eq_true rfl) rfl dX6_danced_2 (fun r2 h1 => ?_)
  refine g_iconst (v := 2) dX6_danced_5 (by decide) ?_
  refine g_idivK dX6_danced_6 (by decide) ?_
  exact g_ireturn rfl dX6_danced_7
abbrev p_X8_danced (X : GX) (h0 : AH) : PX Int32 := (X, (fun x => Sum.inl (rI x)), (1, 21, 2), h0)
def f_X8_danced (v0 : Option Nat) (v1 : Int32) (h : AH) : Option (Int32 × AH) :=
    bd (cu h GF v0 (f_X0_danced v0 v1 h)) fun r2 h1 =>
    some ((r2 + v1), h1)
set_option maxRecDepth 100000 in
set_option maxHeartbeats 4000000 in
theorem s_X8_danced {X : GX} (hX : XOK X) (v0 : Option Nat) (v1 : Int32) (h : AH) : Snd X yX8_danced cX8_danced 2 (some .int) 1 21 rI [vR v0, vI v1] h (f_X8_danced v0 v1 h) := by
  refine snd_of hX (by decide +kernel) (Nat.le_of_ble_eq_true rfl) ?_
  show Gp (p_X8_danced X h) RX8 "danced" cX8_danced (some .int) 0 [(0, vR v0), (1, vI v1)] [] h _
  unfold f_X8_danced
  refine g_aload_n 0 dX8_danced_0 rfl rfl ?_
  refine g_iload_n 1 dX8_danced_1 rfl rfl ?_
  refine g_callUI (st := []) gfCl (s_X0_danced hX v0 v1 h) kml_X8_7 ksm_X0_danced ksp_X8_X0 kim_X0_danced kii_X0 kcd_X0_danced ⟨by decide +kernel, ds_X0_danced.2.2⟩ rfl ⟨Nat.le_of_ble_eq_true rfl, Nat.le_of_ble_eq_true rfl⟩ (Nat.le_of_ble_eq_true rfl) rfl dX8_danced_2 (fun r2 h1 => ?_)
  refine g_iload_n 1 dX8_danced_5 rfl rfl ?_
  refine g_iadd dX8_danced_6 ?_
  exact g_ireturn rfl dX8_danced_7
def f_dyn_danced (v : Option Nat) (a0 : Int32) (h : AH) : Option (Int32 × AH) := dsp h v (fun c => if c = 0 then f_X0_danced v a0 h else if c = 1 then f_X0_danced v a0 h else if c = 2 then f_X2_danced v a0 h else if c = 3 then f_X3_danced v a0 h else if c = 4 then f_X4_danced v a0 h else if c = 6 then f_X6_danced v a0 h else if c = 8 then f_X8_danced v a0 h else if c = 9 then f_X4_danced v a0 h else none)
theorem dyn_danced {X : GX} (hX : XOK X) (v : Option Nat) (a0 : Int32) (h : AH) : Dyn X yX4_danced 2 42 rI [vR v, vI a0] h (f_dyn_danced v a0 h) :=
  dyn_intro (fun c => (dynAt_if (dynAt_of (s_X0_danced hX v a0 h) rfl kse_X0_X4_danced kim_X0_danced kii_X0 kcd_X0_danced ⟨Nat.le_of_ble_eq_true rfl, Nat.le_of_ble_eq_true rfl⟩) (dynAt_if (dynAt_of (s_X0_danced hX v a0 h) rfl kse_X1_X4_danced kim_X0_danced kii_X0 kcd_X0_danced ⟨Nat.le_of_ble_eq_true rfl, Nat.le_of_ble_eq_true rfl⟩) (dynAt_if (dynAt_of (s_X2_danced hX v a0 h) rfl kse_X2_X4_danced kim_X2_danced kii_X2 kcd_X2_danced ⟨Nat.le_of_ble_eq_true rfl, Nat.le_of_ble_eq_true rfl⟩) (dynAt_if (dynAt_of (s_X3_danced hX v a0 h) rfl kse_X3_X4_danced kim_X3_danced kii_X3 kcd_X3_danced ⟨Nat.le_of_ble_eq_true rfl, Nat.le_of_ble_eq_true rfl⟩) (dynAt_if (dynAt_of (s_X4_danced hX v a0 h) rfl kse_X4_X4_danced kim_X4_danced kii_X4 kcd_X4_danced ⟨Nat.le_of_ble_eq_true rfl, Nat.le_of_ble_eq_true rfl⟩) (dynAt_if (dynAt_of (s_X6_danced hX v a0 h) rfl kse_X6_X4_danced kim_X6_danced kii_X6 kcd_X6_danced ⟨Nat.le_of_ble_eq_true rfl, Nat.le_of_ble_eq_true rfl⟩) (dynAt_if (dynAt_of (s_X8_danced hX v a0 h) rfl kse_X8_X4_danced kim_X8_danced kii_X8 kcd_X8_danced ⟨Nat.le_of_ble_eq_true rfl, Nat.le_of_ble_eq_true rfl⟩) (dynAt_if (dynAt_of (s_X4_danced hX v a0 h) rfl kse_X9_X4_danced kim_X4_danced kii_X4 kcd_X4_danced ⟨Nat.le_of_ble_eq_true rfl, Nat.le_of_ble_eq_true rfl⟩) dynAt_none)))))))))
abbrev p_X5_eatAndDance (X : GX) (h0 : AH) : PX Unit := (X, (fun x => Sum.inl (rU x)), (2, 42, 4), h0)
def f_X5_eatAndDance (v0 : Option Nat) (v1 : Int32) (v2 : Int32) (h : AH) : Option (Unit × AH) :=
    bd (cv h v0 5 (f_X5_isIn v0 v1 h)) fun r2 h1 =>
    (if r2 = 0 then
    some ((), h1)
    else (gR h1 v0 [5] 1).bind fun t3 =>
    (iA h1 t3 v1).bind fun t4 =>
    nm (mmin 99 (t4 + v2)) fun t7 =>
    (gR h1 v0 [5] 1).bind fun t8 =>
    (gR h1 v0 [5] 0).bind fun t9 =>
    (rA h1 t9 2 v1).bind fun t10 =>
    (gI h1 v0 [5] 8).bind fun t11 =>
    bd (f_dyn_danced t10 t11 h1) fun r13 h12 =>
    (iS h12 t8 v1 (mmax 0 (t7 - r13))).bind fun h16 =>
    some ((), h16))
set_option maxRecDepth 100000 in
set_option maxHeartbeats 4000000 in
theorem s_X5_eatAndDance {X : GX} (hX : XOK X) (v0 : Option Nat) (v1 : Int32) (v2 : Int32) (h : AH) : Snd X yX5_eatAndDance cX5_eatAndDance 4 none 2 42 rU [vR v0, vI v1, vI v2] h (f_X5_eatAndDance v0 v1 v2 h) := by
  refine snd_of hX (by decide +kernel) (Nat.le_of_ble_eq_true rfl) ?_
  show Gp (p_X5_eatAndDance X h) RX5 "eatAndDance" cX5_eatAndDance none 0 [(0, vR v0), (1, vI v1), (2, vI v2)] [] h _
  unfold f_X5_eatAndDance
  refine g_aload_n 0 dX5_eatAndDance_0 rfl rfl ?_
  refine g_iload_n 1 dX5_eatAndDance_1 rfl rfl ?_
  refine g_callVI (st := []) (ci := 5) rfl (s_X5_isIn hX v0 v1 h) kml_X5_59 kim_X5_isIn kse_X5_isIn kii_X5 kcd_X5_isIn rfl ds_X5_isIn rfl ⟨Nat.le_of_ble_eq_true rfl, Nat.le_of_ble_eq_true rfl⟩ (Nat.le_of_ble_eq_true rfl) rfl dX5_eatAndDance_2 (fun r2 h1 => ?_)
  refine g_ifeq (tgt := 47) dX5_eatAndDance_5 (by decide) ?_ ?_
  · exact g_return rfl dX5_eatAndDance_47
  · refine g_bipush (v := 99) dX5_eatAndDance_8 (by decide) ?_
    refine g_aload_n 0 dX5_eatAndDance_10 rfl rfl ?_
    refine g_getR kfl_X5_17 fo_X5_weight dX5_eatAndDance_11 (fun t3 => ?_)
    refine g_iload_n 1 dX5_eatAndDance_14 rfl rfl ?_
    refine g_iaload dX5_eatAndDance_15 (fun t4 => ?_)
    refine g_iload_n 2 dX5_eatAndDance_16 rfl rfl ?_
    refine g_iadd dX5_eatAndDance_17 ?_
    refine g_mmin kml_X5_98 kst_mmin kii_Math kcd_mmin ⟨Nat.le_of_ble_eq_true rfl, Nat.le_of_ble_eq_true rfl⟩ (Nat.le_of_ble_eq_true rfl) dX5_eatAndDance_18 ?_
    refine g_nmI (fun t7 => ?_)
    refine g_istore_n (ls' := [(3, vI t7), (0, vR v0), (1, vI v1), (2, vI v2)]) dX5_eatAndDance_21 rfl (Nat.le_of_ble_eq_true rfl) rfl ?_
    refine g_aload_n 1 dX5_eatAndDance_22 rfl rfl ?_
    refine g_getR kfl_X5_17 fo_X5_weight dX5_eatAndDance_23 (fun t8 => ?_)
    refine g_iload_n 2 dX5_eatAndDance_26 rfl rfl ?_
    refine g_iconst (v := 0) dX5_eatAndDance_27 (by decide) ?_
    refine g_iload_n 0 dX5_eatAndDance_28 rfl rfl ?_
    refine g_aload_n 1 dX5_eatAndDance_29 rfl rfl ?_
    refine g_getR kfl_X5_11 fo_X5_kind dX5_eatAndDance_30 (fun t9 => ?_)
    refine g_iload_n 2 dX5_eatAndDance_33 rfl rfl ?_
    refine g_aaload (kd := 2) (by decide) (by decide) dX5_eatAndDance_34 (fun t10 => ?_)
    refine g_aload_n 1 dX5_eatAndDance_35 rfl rfl ?_
    refine g_getI kfl_X5_40 fo_X5_dance dX5_eatAndDance_36 (fun t11 => ?_)
    refine g_callDI (st := [vI t7, vI 0, vI v1, vR t8]) (dyn_danced hX t10 t11 h1) kml_X5_101 ksm_X4_danced kim_X4_danced kcd_X4_danced ds_X4_danced rfl ⟨Nat.le_of_ble_eq_true rfl, Nat.le_of_ble_eq_true rfl⟩ (Nat.le_of_ble_eq_true rfl) rfl dX5_eatAndDance_39 (fun r13 h12 => ?_)
    refine g_isub dX5_eatAndDance_42 ?_
    refine g_mmax kml_X5_66 kst_mmax kii_Math kcd_mmax ⟨Nat.le_of_ble_eq_true rfl, Nat.le_of_ble_eq_true rfl⟩ (Nat.le_of_ble_eq_true rfl) dX5_eatAndDance_43 ?_
    refine g_iastore dX5_eatAndDance_46 (fun h16 => ?_)
    exact g_return rfl dX5_eatAndDance_47
abbrev p_X4_stay (X : GX) (h0 : AH) : PX Int32 := (X, (fun x => Sum.inl (rI x)), (0, 0, 1), h0)
def f_X4_stay (v0 : Option Nat) (h : AH) : Option (Int32 × AH) :=
    some (0, h)
set_option maxRecDepth 100000 in
set_option maxHeartbeats 4000000 in
theorem s_X4_stay {X : GX} (hX : XOK X) (v0 : Option Nat) (h : AH) : Snd X yX4_stay cX4_stay 1 (some .int) 0 0 rI [vR v0] h (f_X4_stay v0 h) := by
  refine snd_of hX (by decide +kernel) (Nat.le_of_ble_eq_true rfl) ?_
  show Gp (p_X4_stay X h) RX4 "stay" cX4_stay (some .int) 0 [(0, vR v0)] [] h _
  unfold f_X4_stay
  refine g_iconst (v := 0) dX4_stay_0 (by decide) ?_
  exact g_ireturn rfl dX4_stay_1
abbrev p_X1_stay (X : GX) (h0 : AH) : PX Int32 := (X, (fun x => Sum.inl (rI x)), (0, 0, 1), h0)
def f_X1_stay (v0 : Option Nat) (h : AH) : Option (Int32 × AH) :=
    some (9, h)
set_option maxRecDepth 100000 in
set_option maxHeartbeats 4000000 in
theorem s_X1_stay {X : GX} (hX : XOK X) (v0 : Option Nat) (h : AH) : Snd X yX1_stay cX1_stay 1 (some .int) 0 0 rI [vR v0] h (f_X1_stay v0 h) := by
  refine snd_of hX (by decide +kernel) (Nat.le_of_ble_eq_true rfl) ?_
  show Gp (p_X1_stay X h) RX1 "stay" cX1_stay (some .int) 0 [(0, vR v0)] [] h _
  unfold f_X1_stay
  refine g_bipush (v := 9) dX1_stay_0 (by decide) ?_
  exact g_ireturn rfl dX1_stay_2
abbrev p_X2_stay (X : GX) (h0 : AH) : PX Int32 := (X, (fun x => Sum.inl (rI x)), (0, 0, 1), h0)
def f_X2_stay (v0 : Option Nat) (h : AH) : Option (Int32 × AH) :=
    (gI h v0 GF 1).bind fun t1 =>
    some (t1, h)
set_option maxRecDepth 100000 in
set_option maxHeartbeats 4000000 in
theorem s_X2_stay {X : GX} (hX : XOK X) (v0 : Option Nat) (h : AH) : Snd X yX2_stay cX2_stay 1 (some .int) 0 0 rI [vR v0] h (f_X2_stay v0 h) := by
  refine snd_of hX (by decide +kernel) (Nat.le_of_ble_eq_true rfl) ?_
  show Gp (p_X2_stay X h) RX2 "stay" cX2_stay (some .int) 0 [(0, vR v0)] [] h _
  unfold f_X2_stay
  refine g_aload_n 0 dX2_stay_0 rfl rfl ?_
  refine g_getI kfl_X2_7 fo_X2_figure dX2_stay_1 (fun t1 => ?_)
  exact g_ireturn rfl dX2_stay_4
def f_dyn_stay (v : Option Nat) (h : AH) : Option (Int32 × AH) := dsp h v (fun c => if c = 0 then f_X4_stay v h else if c = 1 then f_X1_stay v h else if c = 2 then f_X2_stay v h else if c = 3 then f_X4_stay v h else if c = 4 then f_X4_stay v h else if c = 6 then f_X2_stay v h else if c = 8 then f_X4_stay v h else if c = 9 then f_X4_stay v h else none)
theorem dyn_stay {X : GX} (hX : XOK X) (v : Option Nat) (h : AH) : Dyn X yX4_stay 1 20 rI [vR v] h (f_dyn_stay v h) :=
  dyn_intro (fun c => (dynAt_if (dynAt_of (s_X4_stay hX v h) rfl kse_X0_X4_stay kim_X4_stay kii_X4 kcd_X4_stay ⟨Nat.le_of_ble_eq_true rfl, Nat.le_of_ble_eq_true rfl⟩) (dynAt_if (dynAt_of (s_X1_stay hX v h) rfl kse_X1_X4_stay kim_X1_stay kii_X1 kcd_X1_stay ⟨Nat.le_of_ble_eq_true rfl, Nat.le_of_ble_eq_true rfl⟩) (dynAt_if (dynAt_of (s_X2_stay hX v h) rfl kse_X2_X4_stay kim_X2_stay kii_X2 kcd_X2_stay ⟨Nat.le_of_ble_eq_true rfl, Nat.le_of_ble_eq_true rfl⟩) (dynAt_if (dynAt_of (s_X4_stay hX v h) rfl kse_X3_X4_stay kim_X4_stay kii_X4 kcd_X4_stay ⟨Nat.le_of_ble_eq_true rfl, Nat.le_of_ble_eq_true rfl⟩) (dynAt_if (dynAt_of (s_X4_stay hX v h) rfl kse_X4_X4_stay kim_X4_stay kii_X4 kcd_X4_stay ⟨Nat.le_of_ble_eq_true rfl, Nat.le_of_ble_eq_true rfl⟩) (dynAt_if (dynAt_of (s_X2_stay hX v h) rfl kse_X6_X4_stay kim_X2_stay kii_X2 kcd_X2_stay ⟨Nat.le_of_ble_eq_true rfl, Nat.le_of_ble_eq_true rfl⟩) (dynAt_if (dynAt_of (s_X4_stay hX v h) rfl kse_X8_X4_stay kim_X4_stay kii_X4 kcd_X4_stay ⟨Nat.le_of_ble_eq_true rfl, Nat.le_of_ble_eq_true rfl⟩) (dynAt_if (dynAt_of (s_X4_stay hX v h) rfl kse_X9_X4_stay kim_X4_stay kii_X4 kcd_X4_stay ⟨Nat.le_of_ble_eq_true rfl, Nat.le_of_ble_eq_true rfl⟩) dynAt_none)))))))))
abbrev p_X5_hasStayed (X : GX) (h0 : AH) : PX Int32 := (X, (fun x => Sum.inl (rI x)), (1, 20, 2), h0)
def f_X5_hasStayed (v0 : Option Nat) (v1 : Int32) (h : AH) : Option (Int32 × AH) :=
    (gI h v0 [5] 10).bind fun t1 =>
    (gR h v0 [5] 4).bind fun t2 =>
    (iA h t2 v1).bind fun t3 =>
    (gR h v0 [5] 0).bind fun t4 =>
    (rA h t4 2 v1).bind fun t5 =>
    bd (f_dyn_stay t5 h) fun r7 h6 =>
    (if (t1 - t3) < r7 then
    some (0, h6)
    else some (1, h6))
set_option maxRecDepth 100000 in
set_option maxHeartbeats 4000000 in
theorem s_X5_hasStayed {X : GX} (hX : XOK X) (v0 : Option Nat) (v1 : Int32) (h : AH) : Snd X yX5_hasStayed cX5_hasStayed 2 (some .boolean) 1 20 rI [vR v0, vI v1] h (f_X5_hasStayed v0 v1 h) := by
  refine snd_of hX (by decide +kernel) (Nat.le_of_ble_eq_true rfl) ?_
  show Gp (p_X5_hasStayed X h) RX5 "hasStayed" cX5_hasStayed (some .boolean) 0 [(0, vR v0), (1, vI v1)] [] h _
  unfold f_X5_hasStayed
  refine g_aload_n 0 dX5_hasStayed_0 rfl rfl ?_
  refine g_getI kfl_X5_46 fo_X5_day dX5_hasStayed_1 (fun t1 => ?_)
  refine g_aload_n 0 dX5_hasStayed_4 rfl rfl ?_
  refine g_getR kfl_X5_27 fo_X5_came dX5_hasStayed_5 (fun t2 => ?_)
  refine g_iload_n 1 dX5_hasStayed_8 rfl rfl ?_
  refine g_iaload dX5_hasStayed_9 (fun t3 => ?_)
  refine g_isub dX5_hasStayed_10 ?_
  refine g_aload_n 0 dX5_hasStayed_11 rfl rfl ?_
  refine g_getR kfl_X5_11 fo_X5_kind dX5_hasStayed_12 (fun t4 => ?_)
  refine g_iload_n 1 dX5_hasStayed_15 rfl rfl ?_
  refine g_aaload (kd := 2) (by decide) (by decide) dX5_hasStayed_16 (fun t5 => ?_)
  refine g_callDI (st := [vI ((t1 - t3))]) (dyn_stay hX t5 h) kml_X5_56 ksm_X4_stay kim_X4_stay kcd_X4_stay ds_X4_stay rfl ⟨Nat.le_of_ble_eq_true rfl, Nat.le_of_ble_eq_true rfl⟩ (Nat.le_of_ble_eq_true rfl) rfl dX5_hasStayed_17 (fun r7 h6 => ?_)
  refine g_icmplt (tgt := 27) dX5_hasStayed_20 (by decide) ?_ ?_
  · refine g_iconst (v := 0) dX5_hasStayed_27 (by decide) ?_
    exact g_zreturn (by decide +kernel) rfl dX5_hasStayed_28
  · refine g_iconst (v := 1) dX5_hasStayed_23 (by decide) ?_
    refine g_goto (tgt := 28) dX5_hasStayed_24 (by decide) ?_
    exact g_zreturn (by decide +kernel) rfl dX5_hasStayed_28
abbrev p_X5_mayGo (X : GX) (h0 : AH) : PX Int32 := (X, (fun x => Sum.inl (rI x)), (2, 41, 2), h0)
def f_X5_mayGo (v0 : Option Nat) (v1 : Int32) (h : AH) : Option (Int32 × AH) :=
    bd (cv h v0 5 (f_X5_isIn v0 v1 h)) fun r2 h1 =>
    (if r2 = 0 then
    some (0, h1)
    else (gR h1 v0 [5] 1).bind fun t3 =>
    (iA h1 t3 v1).bind fun t4 =>
    (gR h1 v0 [5] 2).bind fun t5 =>
    (iA h1 t5 v1).bind fun t6 =>
    (if t6 ≤ t4 then
    some (0, h1)
    else bd (cv h1 v0 5 (f_X5_hasStayed v0 v1 h1)) fun r8 h7 =>
    (if r8 = 0 then
    some (0, h7)
    else some (1, h7))))
set_option maxRecDepth 100000 in
set_option maxHeartbeats 4000000 in
theorem s_X5_mayGo {X : GX} (hX : XOK X) (v0 : Option Nat) (v1 : Int32) (h : AH) : Snd X yX5_mayGo cX5_mayGo 2 (some .boolean) 2 41 rI [vR v0, vI v1] h (f_X5_mayGo v0 v1 h) := by
  refine snd_of hX (by decide +kernel) (Nat.le_of_ble_eq_true rfl) ?_
  show Gp (p_X5_mayGo X h) RX5 "mayGo" cX5_mayGo (some .boolean) 0 [(0, vR v0), (1, vI v1)] [] h _
  unfold f_X5_mayGo
  refine g_aload_n 0 dX5_mayGo_0 rfl rfl ?_
  refine g_iload_n 1 dX5_mayGo_1 rfl rfl ?_
  refine g_callVI (st := []) (ci := 5) rfl (s_X5_isIn hX v0 v1 h) kml_X5_59 kim_X5_isIn kse_X5_isIn kii_X5 kcd_X5_isIn rfl ds_X5_isIn rfl ⟨Nat.le_of_ble_eq_true rfl, Nat.le_of_ble_eq_true rfl⟩ (Nat.le_of_ble_eq_true rfl) rfl dX5_mayGo_2 (fun r2 h1 => ?_)
  refine g_ifeq (tgt := 35) dX5_mayGo_5 (by decide) ?_ ?_
  · refine g_iconst (v := 0) dX5_mayGo_35 (by decide) ?_
    exact g_zreturn (by decide +kernel) rfl dX5_mayGo_36
  · refine g_aload_n 0 dX5_mayGo_8 rfl rfl ?_
    refine g_getR kfl_X5_17 fo_X5_weight dX5_mayGo_9 (fun t3 => ?_)
    refine g_iload_n 1 dX5_mayGo_12 rfl rfl ?_
    refine g_iaload dX5_mayGo_13 (fun t4 => ?_)
    refine g_aload_n 0 dX5_mayGo_14 rfl rfl ?_
    refine g_getR kfl_X5_21 fo_X5_entered dX5_mayGo_15 (fun t5 => ?_)
    refine g_iload_n 1 dX5_mayGo_18 rfl rfl ?_
    refine g_iaload dX5_mayGo_19 (fun t6 => ?_)
    refine g_icmpge (tgt := 35) dX5_mayGo_20 (by decide) ?_ ?_
    · refine g_iconst (v := 0) dX5_mayGo_35 (by decide) ?_
      exact g_zreturn (by decide +kernel) rfl dX5_mayGo_36
    · refine g_aload_n 0 dX5_mayGo_23 rfl rfl ?_
      refine g_iload_n 1 dX5_mayGo_24 rfl rfl ?_
      refine g_callVI (st := []) (ci := 5) rfl (s_X5_hasStayed hX v0 v1 h1) kml_X5_63 kim_X5_hasStayed kse_X5_hasStayed kii_X5 kcd_X5_hasStayed rfl ds_X5_hasStayed rfl ⟨Nat.le_of_ble_eq_true rfl, Nat.le_of_ble_eq_true rfl⟩ (Nat.le_of_ble_eq_true rfl) rfl dX5_mayGo_25 (fun r8 h7 => ?_)
      refine g_ifeq (tgt := 35) dX5_mayGo_28 (by decide) ?_ ?_
      · refine g_iconst (v := 0) dX5_mayGo_35 (by decide) ?_
        exact g_zreturn (by decide +kernel) rfl dX5_mayGo_36
      · refine g_iconst (v := 1) dX5_mayGo_31 (by decide) ?_
        refine g_goto (tgt := 36) dX5_mayGo_32 (by decide) ?_
        exact g_zreturn (by decide +kernel) rfl dX5_mayGo_36
abbrev p_X5_goAway (X : GX) (h0 : AH) : PX Unit := (X, (fun x => Sum.inl (rU x)), (1, 21, 2), h0)
def f_X5_goAway (v0 : Option Nat) (v1 : Int32) (h : AH) : Option (Unit × AH) :=
    (gI h v0 [5] 6).bind fun t1 =>
    (pI h v0 [5] 6 (t1 &&& (((1 : Int32) <<< (v1 &&& 31)) ^^^ (-1)))).bind fun h2 =>
    (gI h2 v0 [5] 9).bind fun t3 =>
    (gR h2 v0 [5] 2).bind fun t4 =>
    (iA h2 t4 v1).bind fun t5 =>
    (gR h2 v0 [5] 1).bind fun t6 =>
    (iA h2 t6 v1).bind fun t7 =>
    (pI h2 v0 [5] 9 (mmin 9999 ((t3 + t5) - t7))).bind fun h10 =>
    some ((), h10)
set_option maxRecDepth 100000 in
set_option maxHeartbeats 4000000 in
theorem s_X5_goAway {X : GX} (hX : XOK X) (v0 : Option Nat) (v1 : Int32) (h : AH) : Snd X yX5_goAway cX5_goAway 2 none 1 21 rU [vR v0, vI v1] h (f_X5_goAway v0 v1 h) := by
  refine snd_of hX (by decide +kernel) (Nat.le_of_ble_eq_true rfl) ?_
  show Gp (p_X5_goAway X h) RX5 "goAway" cX5_goAway none 0 [(0, vR v0), (1, vI v1)] [] h _
  unfold f_X5_goAway
  refine g_aload_n 0 dX5_goAway_0 rfl rfl ?_
  refine g_dup dX5_goAway_1 rfl ?_
  refine g_getI kfl_X5_34 fo_X5_inside dX5_goAway_2 (fun t1 => ?_)
  refine g_iconst (v := 1) dX5_goAway_5 (by decide) ?_
  refine g_iload_n 1 dX5_goAway_6 rfl rfl ?_
  refine g_ishl dX5_goAway_7 ?_
  refine g_iconst (v := (-1)) dX5_goAway_8 (by decide) ?_
  refine g_ixor dX5_goAway_9 ?_
  refine g_iand dX5_goAway_10 ?_
  refine g_putI kfl_X5_34 fo_X5_inside pd_I nI'.1 nI'.2 dX5_goAway_11 (fun h2 => ?_)
  refine g_aload_n 0 dX5_goAway_14 rfl rfl ?_
  refine g_sipush (v := 9999) dX5_goAway_15 (by decide) ?_
  refine g_aload_n 0 dX5_goAway_18 rfl rfl ?_
  refine g_getI kfl_X5_43 fo_X5_relief dX5_goAway_19 (fun t3 => ?_)
  refine g_aload_n 0 dX5_goAway_22 rfl rfl ?_
  refine g_getR kfl_X5_21 fo_X5_entered dX5_goAway_23 (fun t4 => ?_)
  refine g_iload_n 1 dX5_goAway_26 rfl rfl ?_
  refine g_iaload dX5_goAway_27 (fun t5 => ?_)
  refine g_iadd dX5_goAway_28 ?_
  refine g_aload_n 0 dX5_goAway_29 rfl rfl ?_
  refine g_getR kfl_X5_17 fo_X5_weight dX5_goAway_30 (fun t6 => ?_)
  refine g_iload_n 1 dX5_goAway_33 rfl rfl ?_
  refine g_iaload dX5_goAway_34 (fun t7 => ?_)
  refine g_isub dX5_goAway_35 ?_
  refine g_mmin kml_X5_98 kst_mmin kii_Math kcd_mmin ⟨Nat.le_of_ble_eq_true rfl, Nat.le_of_ble_eq_true rfl⟩ (Nat.le_of_ble_eq_true rfl) dX5_goAway_36 ?_
  refine g_putI kfl_X5_43 fo_X5_relief pd_I nI'.1 nI'.2 dX5_goAway_39 (fun h10 => ?_)
  exact g_return rfl dX5_goAway_42
abbrev p_X5_passDay (X : GX) (h0 : AH) : PX Unit := (X, (fun x => Sum.inl (rU x)), (3, 65, 2), h0)
def f_X5_passDay_b38 : Nat → Option Nat → Int32 → AH → Option (Unit × AH)
  | 0 => fun _ _ _ => none
  | n + 1 => fun x0 x1 h =>
    (gI h x0 [5] 5).bind fun t4 =>
    (if t4 ≤ x1 then
    some ((), h)
    else bd (cv h x0 5 (f_X5_mayGo x0 x1 h)) fun r6 h5 =>
    (if r6 = 0 then
    f_X5_passDay_b38 n x0 (x1 + 1) h5
    else bd (cv h5 x0 5 (f_X5_goAway x0 x1 h5)) fun u8 h7 =>
    f_X5_passDay_b38 n x0 (x1 + 1) h7))
set_option maxRecDepth 100000 in
set_option maxHeartbeats 4000000 in
theorem s_X5_passDay_b38 {X : GX} (hX : XOK X) {h0 : AH} : ∀ (n : Nat) (x0 : Option Nat) (x1 : Int32) (h : AH), Gp (p_X5_passDay X h0) RX5 "passDay" cX5_passDay none 38 [(0, vR x0), (1, vI x1)] [] h (f_X5_passDay_b38 n x0 x1 h) := by
  intro n
  induction n with
  | zero => intro x0 x1 h; exact g_none
  | succ n ih =>
    intro x0 x1 h
    rw [f_X5_passDay_b38]
    refine g_iload_n 1 dX5_passDay_38 rfl rfl ?_
    refine g_aload_n 0 dX5_passDay_39 rfl rfl ?_
    refine g_getI kfl_X5_30 fo_X5_guests dX5_passDay_40 (fun t4 => ?_)
    refine g_icmpge (tgt := 65) dX5_passDay_43 (by decide) ?_ ?_
    · exact g_return rfl dX5_passDay_65
    · refine g_aload_n 0 dX5_passDay_46 rfl rfl ?_
      refine g_iload_n 1 dX5_passDay_47 rfl rfl ?_
      refine g_callVI (st := []) (ci := 5) rfl (s_X5_mayGo hX x0 x1 h) kml_X5_88 kim_X5_mayGo kse_X5_mayGo kii_X5 kcd_X5_mayGo rfl ds_X5_mayGo rfl ⟨Nat.le_of_ble_eq_true rfl, Nat.le_of_ble_eq_true rfl⟩ (Nat.le_of_ble_eq_true rfl) rfl dX5_passDay_48 (fun r6 h5 => ?_)
      refine g_ifeq (tgt := 59) dX5_passDay_51 (by decide) ?_ ?_
      · refine g_iinc 1 (v := (x1 + 1)) (ls' := [(1, vI ((x1 + 1))), (0, vR x0)]) dX5_passDay_59 rfl rfl (Nat.le_of_ble_eq_true rfl) rfl ?_
        refine g_goto (tgt := 38) dX5_passDay_62 (by decide) ?_
        exact g_sub2 [1, 0] rfl (ih x0 (x1 + 1) h5)
      · refine g_aload_n 0 dX5_passDay_54 rfl rfl ?_
        refine g_iload_n 1 dX5_passDay_55 rfl rfl ?_
        refine g_callVU (st := []) (ci := 5) rfl (s_X5_goAway hX x0 x1 h5) kml_X5_91 kim_X5_goAway kse_X5_goAway kii_X5 kcd_X5_goAway rfl ds_X5_goAway rfl ⟨Nat.le_of_ble_eq_true rfl, Nat.le_of_ble_eq_true rfl⟩ (Nat.le_of_ble_eq_true rfl) rfl dX5_passDay_56 (fun u8 h7 => ?_)
        refine g_iinc 1 (v := (x1 + 1)) (ls' := [(1, vI ((x1 + 1))), (0, vR x0)]) dX5_passDay_59 rfl rfl (Nat.le_of_ble_eq_true rfl) rfl ?_
        refine g_goto (tgt := 38) dX5_passDay_62 (by decide) ?_
        exact g_sub2 [1, 0] rfl (ih x0 (x1 + 1) h7)
def f_X5_passDay_b12 : Nat → Option Nat → Int32 → AH → Option (Unit × AH)
  | 0 => fun _ _ _ => none
  | n + 1 => fun x0 x1 h =>
    (gI h x0 [5] 5).bind fun t3 =>
    (if t3 ≤ x1 then
    f_X5_passDay_b38 FU x0 0 h
    else bd (cv h x0 5 (f_X5_foodOf x0 x1 h)) fun r10 h9 =>
    bd (cv h9 x0 5 (f_X5_eatAndDance x0 x1 r10 h9)) fun u12 h11 =>
    f_X5_passDay_b12 n x0 (x1 + 1) h11)
set_option maxRecDepth 100000 in
set_option maxHeartbeats 4000000 in
theorem s_X5_passDay_b12 {X : GX} (hX : XOK X) {h0 : AH} : ∀ (n : Nat) (x0 : Option Nat) (x1 : Int32) (h : AH), Gp (p_X5_passDay X h0) RX5 "passDay" cX5_passDay none 12 [(0, vR x0), (1, vI x1)] [] h (f_X5_passDay_b12 n x0 x1 h) := by
  intro n
  induction n with
  | zero => intro x0 x1 h; exact g_none
  | succ n ih =>
    intro x0 x1 h
    rw [f_X5_passDay_b12]
    refine g_iload_n 1 dX5_passDay_12 rfl rfl ?_
    refine g_aload_n 0 dX5_passDay_13 rfl rfl ?_
    refine g_getI kfl_X5_30 fo_X5_guests dX5_passDay_14 (fun t3 => ?_)
    refine g_icmpge (tgt := 36) dX5_passDay_17 (by decide) ?_ ?_
    · refine g_iconst (v := 0) dX5_passDay_36 (by decide) ?_
      refine g_istore_n (ls' := [(1, vI 0), (0, vR x0)]) dX5_passDay_37 rfl (Nat.le_of_ble_eq_true rfl) rfl ?_
      exact g_sub2 [1, 0] rfl (s_X5_passDay_b38 hX FU x0 0 h)
    · refine g_aload_n 0 dX5_passDay_20 rfl rfl ?_
      refine g_iload_n 1 dX5_passDay_21 rfl rfl ?_
      refine g_aload_n 0 dX5_passDay_22 rfl rfl ?_
      refine g_iload_n 1 dX5_passDay_23 rfl rfl ?_
      refine g_callVI (st := [vI x1, vR x0]) (ci := 5) rfl (s_X5_foodOf hX x0 x1 h) kml_X5_82 kim_X5_foodOf kse_X5_foodOf kii_X5 kcd_X5_foodOf rfl ds_X5_foodOf rfl ⟨Nat.le_of_ble_eq_true rfl, Nat.le_of_ble_eq_true rfl⟩ (Nat.le_of_ble_eq_true rfl) rfl dX5_passDay_24 (fun r10 h9 => ?_)
      refine g_callVU (st := []) (ci := 5) rfl (s_X5_eatAndDance hX x0 x1 r10 h9) kml_X5_85 kim_X5_eatAndDance kse_X5_eatAndDance kii_X5 kcd_X5_eatAndDance rfl ds_X5_eatAndDance rfl ⟨Nat.le_of_ble_eq_true rfl, Nat.le_of_ble_eq_true rfl⟩ (Nat.le_of_ble_eq_true rfl) rfl dX5_passDay_27 (fun u12 h11 => ?_)
      refine g_iinc 1 (v := (x1 + 1)) (ls' := [(1, vI ((x1 + 1))), (0, vR x0)]) dX5_passDay_30 rfl rfl (Nat.le_of_ble_eq_true rfl) rfl ?_
      refine g_goto (tgt := 12) dX5_passDay_33 (by decide) ?_
      exact g_sub2 [1, 0] rfl (ih x0 (x1 + 1) h11)
def f_X5_passDay (v0 : Option Nat) (h : AH) : Option (Unit × AH) :=
    (gI h v0 [5] 10).bind fun t1 =>
    (pI h v0 [5] 10 (t1 + 1)).bind fun h2 =>
    f_X5_passDay_b12 FU v0 0 h2
set_option maxRecDepth 100000 in
set_option maxHeartbeats 4000000 in
theorem s_X5_passDay {X : GX} (hX : XOK X) (v0 : Option Nat) (h : AH) : Snd X yX5_passDay cX5_passDay 2 none 3 65 rU [vR v0] h (f_X5_passDay v0 h) := by
  refine snd_of hX (by decide +kernel) (Nat.le_of_ble_eq_true rfl) ?_
  show Gp (p_X5_passDay X h) RX5 "passDay" cX5_passDay none 0 [(0, vR v0)] [] h _
  unfold f_X5_passDay
  refine g_aload_n 0 dX5_passDay_0 rfl rfl ?_
  refine g_dup dX5_passDay_1 rfl ?_
  refine g_getI kfl_X5_46 fo_X5_day dX5_passDay_2 (fun t1 => ?_)
  refine g_iconst (v := 1) dX5_passDay_5 (by decide) ?_
  refine g_iadd dX5_passDay_6 ?_
  refine g_putI kfl_X5_46 fo_X5_day pd_I nI'.1 nI'.2 dX5_passDay_7 (fun h2 => ?_)
  refine g_iconst (v := 0) dX5_passDay_10 (by decide) ?_
  refine g_istore_n (ls' := [(1, vI 0), (0, vR v0)]) dX5_passDay_11 rfl (Nat.le_of_ble_eq_true rfl) rfl ?_
  exact g_sub2 [1, 0] rfl (s_X5_passDay_b12 hX FU v0 0 h2)
abbrev p_X5_passDays (X : GX) (h0 : AH) : PX Unit := (X, (fun x => Sum.inl (rU x)), (4, 86, 3), h0)
def f_X5_passDays_b2 : Nat → Option Nat → Int32 → Int32 → AH → Option (Unit × AH)
  | 0 => fun _ _ _ _ => none
  | n + 1 => fun x0 x1 x2 h =>
    (if x1 ≤ x2 then
    some ((), h)
    else bd (cv h x0 5 (f_X5_passDay x0 h)) fun u2 h1 =>
    f_X5_passDays_b2 n x0 x1 (x2 + 1) h1)
set_option maxRecDepth 100000 in
set_option maxHeartbeats 4000000 in
theorem s_X5_passDays_b2 {X : GX} (hX : XOK X) {h0 : AH} : ∀ (n : Nat) (x0 : Option Nat) (x1 : Int32) (x2 : Int32) (h : AH), Gp (p_X5_passDays X h0) RX5 "passDays" cX5_passDays none 2 [(0, vR x0), (1, vI x1), (2, vI x2)] [] h (f_X5_passDays_b2 n x0 x1 x2 h) := by
  intro n
  induction n with
  | zero => intro x0 x1 x2 h; exact g_none
  | succ n ih =>
    intro x0 x1 x2 h
    rw [f_X5_passDays_b2]
    refine g_iload_n 2 dX5_passDays_2 rfl rfl ?_
    refine g_iload_n 1 dX5_passDays_3 rfl rfl ?_
    refine g_icmpge (tgt := 17) dX5_passDays_4 (by decide) ?_ ?_
    · exact g_return rfl dX5_passDays_17
    · refine g_aload_n 0 dX5_passDays_7 rfl rfl ?_
      refine g_callVU (st := []) (ci := 5) rfl (s_X5_passDay hX x0 h) kml_X5_79 kim_X5_passDay kse_X5_passDay kii_X5 kcd_X5_passDay rfl ds_X5_passDay rfl ⟨Nat.le_of_ble_eq_true rfl, Nat.le_of_ble_eq_true rfl⟩ (Nat.le_of_ble_eq_true rfl) rfl dX5_passDays_8 (fun u2 h1 => ?_)
      refine g_iinc 2 (v := (x2 + 1)) (ls' := [(2, vI ((x2 + 1))), (0, vR x0), (1, vI x1)]) dX5_passDays_11 rfl rfl (Nat.le_of_ble_eq_true rfl) rfl ?_
      refine g_goto (tgt := 2) dX5_passDays_14 (by decide) ?_
      exact g_sub2 [1, 2, 0] rfl (ih x0 x1 (x2 + 1) h1)
def f_X5_passDays (v0 : Option Nat) (v1 : Int32) (h : AH) : Option (Unit × AH) :=
    f_X5_passDays_b2 FU v0 v1 0 h
set_option maxRecDepth 100000 in
set_option maxHeartbeats 4000000 in
theorem s_X5_passDays {X : GX} (hX : XOK X) (v0 : Option Nat) (v1 : Int32) (h : AH) : Snd X yX5_passDays cX5_passDays 3 none 4 86 rU [vR v0, vI v1] h (f_X5_passDays v0 v1 h) := by
  refine snd_of hX (by decide +kernel) (Nat.le_of_ble_eq_true rfl) ?_
  show Gp (p_X5_passDays X h) RX5 "passDays" cX5_passDays none 0 [(0, vR v0), (1, vI v1)] [] h _
  unfold f_X5_passDays
  refine g_iconst (v := 0) dX5_passDays_0 (by decide) ?_
  refine g_istore_n (ls' := [(2, vI 0), (0, vR v0), (1, vI v1)]) dX5_passDays_1 rfl (Nat.le_of_ble_eq_true rfl) rfl ?_
  exact g_sub2 [1, 2, 0] rfl (s_X5_passDays_b2 hX FU v0 v1 0 h)
abbrev p_X10_passDays (X : GX) (h0 : AH) : PX Int32 := (X, (fun x => Sum.inl (rI x)), (5, 108, 2), h0)
def f_X10_passDays (v0 : Option Nat) (v1 : Int32) (h : AH) : Option (Int32 × AH) :=
    (if v1 < 1 then
    some (0, h)
    else (if 60 < v1 then
    some (0, h)
    else (gI h v0 [5] 10).bind fun t1 =>
    (if (t1 + v1) ≤ 999 then
    bd (cv h v0 5 (f_X5_passDays v0 v1 h)) fun u3 h2 =>
    some (1, h2)
    else some (0, h))))
set_option maxRecDepth 100000 in
set_option maxHeartbeats 4000000 in
theorem s_X10_passDays {X : GX} (hX : XOK X) (v0 : Option Nat) (v1 : Int32) (h : AH) : Snd X yX10_passDays cX10_passDays 2 (some .boolean) 5 108 rI [vR v0, vI v1] h (f_X10_passDays v0 v1 h) := by
  refine snd_of hX (by decide +kernel) (Nat.le_of_ble_eq_true rfl) ?_
  show Gp (p_X10_passDays X h) RX10 "passDays" cX10_passDays (some .boolean) 0 [(0, vR v0), (1, vI v1)] [] h _
  unfold f_X10_passDays
  refine g_iload_n 1 dX10_passDays_0 rfl rfl ?_
  refine g_iconst (v := 1) dX10_passDays_1 (by decide) ?_
  refine g_icmplt (tgt := 23) dX10_passDays_2 (by decide) ?_ ?_
  · refine g_iconst (v := 0) dX10_passDays_23 (by decide) ?_
    exact g_zreturn (by decide +kernel) rfl dX10_passDays_24
  · refine g_iload_n 1 dX10_passDays_5 rfl rfl ?_
    refine g_bipush (v := 60) dX10_passDays_6 (by decide) ?_
    refine g_icmpgt (tgt := 23) dX10_passDays_8 (by decide) ?_ ?_
    · refine g_iconst (v := 0) dX10_passDays_23 (by decide) ?_
      exact g_zreturn (by decide +kernel) rfl dX10_passDays_24
    · refine g_aload_n 0 dX10_passDays_11 rfl rfl ?_
      refine g_getI kfl_X10_105 fo_X5_day dX10_passDays_12 (fun t1 => ?_)
      refine g_iload_n 1 dX10_passDays_15 rfl rfl ?_
      refine g_iadd dX10_passDays_16 ?_
      refine g_sipush (v := 999) dX10_passDays_17 (by decide) ?_
      refine g_icmple (tgt := 25) dX10_passDays_20 (by decide) ?_ ?_
      · refine g_aload_n 0 dX10_passDays_25 rfl rfl ?_
        refine g_iload_n 1 dX10_passDays_26 rfl rfl ?_
        refine g_callVU (st := []) (ci := 5) rfl (s_X5_passDays hX v0 v1 h) kml_X10_108 kim_X5_passDays kse_X5_passDays kii_X5 kcd_X5_passDays rfl ds_X5_passDays rfl ⟨Nat.le_of_ble_eq_true rfl, Nat.le_of_ble_eq_true rfl⟩ (Nat.le_of_ble_eq_true rfl) rfl dX10_passDays_27 (fun u3 h2 => ?_)
        refine g_iconst (v := 1) dX10_passDays_30 (by decide) ?_
        exact g_zreturn (by decide +kernel) rfl dX10_passDays_31
      · refine g_iconst (v := 0) dX10_passDays_23 (by decide) ?_
        exact g_zreturn (by decide +kernel) rfl dX10_passDays_24
abbrev p_X10_setTable (X : GX) (h0 : AH) : PX Int32 := (X, (fun x => Sum.inl (rI x)), (0, 0, 3), h0)
def f_X10_setTable (v0 : Option Nat) (v1 : Int32) (v2 : Int32) (h : AH) : Option (Int32 × AH) :=
    (pI h v0 [5] 7 v1).bind fun h1 =>
    (pI h1 v0 [5] 8 v2).bind fun h2 =>
    some (1, h2)
set_option maxRecDepth 100000 in
set_option maxHeartbeats 4000000 in
theorem s_X10_setTable {X : GX} (hX : XOK X) (v0 : Option Nat) (v1 : Int32) (v2 : Int32) (h : AH) : Snd X yX10_setTable cX10_setTable 3 (some .boolean) 0 0 rI [vR v0, vI v1, vI v2] h (f_X10_setTable v0 v1 v2 h) := by
  refine snd_of hX (by decide +kernel) (Nat.le_of_ble_eq_true rfl) ?_
  show Gp (p_X10_setTable X h) RX10 "setTable" cX10_setTable (some .boolean) 0 [(0, vR v0), (1, vI v1), (2, vI v2)] [] h _
  unfold f_X10_setTable
  refine g_aload_n 0 dX10_setTable_0 rfl rfl ?_
  refine g_iload_n 1 dX10_setTable_1 rfl rfl ?_
  refine g_putI kfl_X10_78 fo_X5_board pd_I nI'.1 nI'.2 dX10_setTable_2 (fun h1 => ?_)
  refine g_aload_n 0 dX10_setTable_5 rfl rfl ?_
  refine g_iload_n 2 dX10_setTable_6 rfl rfl ?_
  refine g_putI kfl_X10_82 fo_X5_dance pd_I nI'.1 nI'.2 dX10_setTable_7 (fun h2 => ?_)
  refine g_iconst (v := 1) dX10_setTable_10 (by decide) ?_
  exact g_zreturn (by decide +kernel) rfl dX10_setTable_11
abbrev p_X10_follow (X : GX) (h0 : AH) : PX Int32 := (X, (fun x => Sum.inl (rI x)), (6, 130, 5), h0)
def f_X10_follow (v0 : Option Nat) (v1 : Option Nat) (v2 : Int32) (h : AH) : Option (Int32 × AH) :=
    bd (cv h v0 10 (f_X10_digit v0 (v2 + 1) h)) fun r2 h1 =>
    bd (cv h1 v0 10 (f_X10_digit v0 (v2 + 2) h1)) fun r4 h3 =>
    (gR h3 v0 [10] 0).bind fun t5 =>
    bd (cv h3 t5 7 (f_X7_at t5 v2 h3)) fun r7 h6 =>
    (if r7 = 98 then
    bd (f_X10_setTable v1 r2 r4 h6) fun r10 h9 =>
    rb r10 h9
    else (if r7 = 100 then
    bd (cv h6 v0 10 (f_X10_twoDigits v0 (v2 + 1) h6)) fun r13 h12 =>
    bd (f_X10_passDays v1 r13 h12) fun r15 h14 =>
    rb r15 h14
    else (if r7 = 103 then
    bd (cv h6 v0 10 (f_X10_twoDigits v0 (v2 + 3) h6)) fun r18 h17 =>
    bd (f_X10_takeIn v1 r2 r4 r18 h17) fun r20 h19 =>
    rb r20 h19
    else (if r7 = 108 then
    bd (cv h6 v0 10 (f_X10_twoDigits v0 (v2 + 3) h6)) fun r23 h22 =>
    bd (f_X10_lendPounds v1 r2 r4 r23 h22) fun r25 h24 =>
    rb r25 h24
    else (if r7 = 115 then
    bd (f_X10_setSecrets v1 r2 r4 h6) fun r28 h27 =>
    rb r28 h27
    else (if r7 = 116 then
    bd (f_X10_tellSecret v1 r2 h6) fun r31 h30 =>
    rb r31 h30
    else some (0, h6)))))))
set_option maxRecDepth 100000 in
set_option maxHeartbeats 4000000 in
theorem s_X10_follow {X : GX} (hX : XOK X) (v0 : Option Nat) (v1 : Option Nat) (v2 : Int32) (h : AH) : Snd X yX10_follow cX10_follow 5 (some .boolean) 6 130 rI [vR v0, vR v1, vI v2] h (f_X10_follow v0 v1 v2 h) := by
  refine snd_of hX (by decide +kernel) (Nat.le_of_ble_eq_true rfl) ?_
  show Gp (p_X10_follow X h) RX10 "follow" cX10_follow (some .boolean) 0 [(0, vR v0), (1, vR v1), (2, vI v2)] [] h _
  unfold f_X10_follow
  refine g_aload_n 0 dX10_follow_0 rfl rfl ?_
  refine g_iload_n 2 dX10_follow_1 rfl rfl ?_
  refine g_iconst (v := 1) dX10_follow_2 (by decide) ?_
  refine g_iadd dX10_follow_3 ?_
  refine g_callVI (st := []) (ci := 10) rfl (s_X10_digit hX v0 (v2 + 1) h) kml_X10_34 kim_X10_digit kse_X10_digit kii_X10 kcd_X10_digit rfl ds_X10_digit rfl ⟨Nat.le_of_ble_eq_true rfl, Nat.le_of_ble_eq_true rfl⟩ (Nat.le_of_ble_eq_true rfl) rfl dX10_follow_4 (fun r2 h1 => ?_)
  refine g_istore_n (ls' := [(3, vI r2), (0, vR v0), (1, vR v1), (2, vI v2)]) dX10_follow_7 rfl (Nat.le_of_ble_eq_true rfl) rfl ?_
  refine g_aload_n 1 dX10_follow_8 rfl rfl ?_
  refine g_iload_n 3 dX10_follow_9 rfl rfl ?_
  refine g_iconst (v := 2) dX10_follow_10 (by decide) ?_
  refine g_iadd dX10_follow_11 ?_
  refine g_callVI (st := []) (ci := 10) rfl (s_X10_digit hX v0 (v2 + 2) h1) kml_X10_34 kim_X10_digit kse_X10_digit kii_X10 kcd_X10_digit rfl ds_X10_digit rfl ⟨Nat.le_of_ble_eq_true rfl, Nat.le_of_ble_eq_true rfl⟩ (Nat.le_of_ble_eq_true rfl) rfl dX10_follow_12 (fun r4 h3 => ?_)
  refine g_istore (ls' := [(4, vI r4), (3, vI r2), (0, vR v0), (1, vR v1), (2, vI v2)]) dX10_follow_15 (Nat.le_of_ble_eq_true rfl) rfl ?_
  refine g_aload_n 2 dX10_follow_17 rfl rfl ?_
  refine g_getR kfl_X10_9 fo_X10_bytes dX10_follow_18 (fun t5 => ?_)
  refine g_iload_n 4 dX10_follow_21 rfl rfl ?_
  refine g_callVI (st := []) (ci := 7) rfl (s_X7_at hX t5 v2 h3) kml_X10_28 kim_X7_at kse_X7_at kii_X7 kcd_X7_at rfl ds_X7_at rfl ⟨Nat.le_of_ble_eq_true rfl, Nat.le_of_ble_eq_true rfl⟩ (Nat.le_of_ble_eq_true rfl) rfl dX10_follow_22 (fun r7 h6 => ?_)
  refine g_tsIn (c := 98) (off := 106) (tgt := 131) dX10_follow_25 (by decide) (by decide) (by decide) (by decide) ?_ (fun n8 => ?_)
  · refine g_aload_n 3 dX10_follow_131 rfl rfl ?_
    refine g_iload_n 1 dX10_follow_132 rfl rfl ?_
    refine g_iload 0 dX10_follow_133 rfl ?_
    refine g_callSI (st := []) (s_X10_setTable hX v1 r2 r4 h6) kml_X10_48 kst_X10_setTable kii_X10 kcd_X10_setTable ds_X10_setTable rfl ⟨Nat.le_of_ble_eq_true rfl, Nat.le_of_ble_eq_true rfl⟩ (Nat.le_of_ble_eq_true rfl) rfl dX10_follow_135 (fun r10 h9 => ?_)
    exact g_zreturnV (fun _ => rfl) dX10_follow_138
  refine g_tsIn (c := 100) (off := 143) (tgt := 168) dX10_follow_25 (by decide) (by decide) (by decide) (by decide) ?_ (fun n11 => ?_)
  · refine g_aload_n 3 dX10_follow_168 rfl rfl ?_
    refine g_aload_n 2 dX10_follow_169 rfl rfl ?_
    refine g_iload_n 4 dX10_follow_170 rfl rfl ?_
    refine g_iconst (v := 1) dX10_follow_171 (by decide) ?_
    refine g_iadd dX10_follow_172 ?_
    refine g_callVI (st := [vR v1]) (ci := 10) rfl (s_X10_twoDigits hX v0 (v2 + 1) h6) kml_X10_41 kim_X10_twoDigits kse_X10_twoDigits kii_X10 kcd_X10_twoDigits rfl ds_X10_twoDigits rfl ⟨Nat.le_of_ble_eq_true rfl, Nat.le_of_ble_eq_true rfl⟩ (Nat.le_of_ble_eq_true rfl) rfl dX10_follow_173 (fun r13 h12 => ?_)
    refine g_callSI (st := []) (s_X10_passDays hX v1 r13 h12) kml_X10_62 kst_X10_passDays kii_X10 kcd_X10_passDays ds_X10_passDays rfl ⟨Nat.le_of_ble_eq_true rfl, Nat.le_of_ble_eq_true rfl⟩ (Nat.le_of_ble_eq_true rfl) rfl dX10_follow_176 (fun r15 h14 => ?_)
    exact g_zreturnV (fun _ => rfl) dX10_follow_179
  refine g_tsIn (c := 103) (off := 91) (tgt := 116) dX10_follow_25 (by decide) (by decide) (by decide) (by decide) ?_ (fun n16 => ?_)
  · refine g_aload_n 3 dX10_follow_116 rfl rfl ?_
    refine g_iload_n 1 dX10_follow_117 rfl rfl ?_
    refine g_iload 0 dX10_follow_118 rfl ?_
    refine g_aload_n 2 dX10_follow_120 rfl rfl ?_
    refine g_iload_n 4 dX10_follow_121 rfl rfl ?_
    refine g_iconst (v := 3) dX10_follow_122 (by decide) ?_
    refine g_iadd dX10_follow_123 ?_
    refine g_callVI (st := [vI r4, vI r2, vR v1]) (ci := 10) rfl (s_X10_twoDigits hX v0 (v2 + 3) h6) kml_X10_41 kim_X10_twoDigits kse_X10_twoDigits kii_X10 kcd_X10_twoDigits rfl ds_X10_twoDigits rfl ⟨Nat.le_of_ble_eq_true rfl, Nat.le_of_ble_eq_true rfl⟩ (Nat.le_of_ble_eq_true rfl) rfl dX10_follow_124 (fun r18 h17 => ?_)
    refine g_callSI (st := []) (s_X10_takeIn hX v1 r2 r4 r18 h17) kml_X10_44 kst_X10_takeIn kii_X10 kcd_X10_takeIn ds_X10_takeIn rfl ⟨Nat.le_of_ble_eq_true rfl, Nat.le_of_ble_eq_true rfl⟩ (Nat.le_of_ble_eq_true rfl) rfl dX10_follow_127 (fun r20 h19 => ?_)
    exact g_zreturnV (fun _ => rfl) dX10_follow_130
  refine g_tsIn (c := 108) (off := 120) (tgt := 145) dX10_follow_25 (by decide) (by decide) (by decide) (by decide) ?_ (fun n21 => ?_)
  · refine g_aload_n 3 dX10_follow_145 rfl rfl ?_
    refine g_iload_n 1 dX10_follow_146 rfl rfl ?_
    refine g_iload 0 dX10_follow_147 rfl ?_
    refine g_aload_n 2 dX10_follow_149 rfl rfl ?_
    refine g_iload_n 4 dX10_follow_150 rfl rfl ?_
    refine g_iconst (v := 3) dX10_follow_151 (by decide) ?_
    refine g_iadd dX10_follow_152 ?_
    refine g_callVI (st := [vI r4, vI r2, vR v1]) (ci := 10) rfl (s_X10_twoDigits hX v0 (v2 + 3) h6) kml_X10_41 kim_X10_twoDigits kse_X10_twoDigits kii_X10 kcd_X10_twoDigits rfl ds_X10_twoDigits rfl ⟨Nat.le_of_ble_eq_true rfl, Nat.le_of_ble_eq_true rfl⟩ (Nat.le_of_ble_eq_true rfl) rfl dX10_follow_153 (fun r23 h22 => ?_)
    refine g_callSI (st := []) (s_X10_lendPounds hX v1 r2 r4 r23 h22) kml_X10_56 kst_X10_lendPounds kii_X10 kcd_X10_lendPounds ds_X10_lendPounds rfl ⟨Nat.le_of_ble_eq_true rfl, Nat.le_of_ble_eq_true rfl⟩ (Nat.le_of_ble_eq_true rfl) rfl dX10_follow_156 (fun r25 h24 => ?_)
    exact g_zreturnV (fun _ => rfl) dX10_follow_159
  refine g_tsIn (c := 115) (off := 135) (tgt := 160) dX10_follow_25 (by decide) (by decide) (by decide) (by decide) ?_ (fun n26 => ?_)
  · refine g_aload_n 3 dX10_follow_160 rfl rfl ?_
    refine g_iload_n 1 dX10_follow_161 rfl rfl ?_
    refine g_iload 0 dX10_follow_162 rfl ?_
    refine g_callSI (st := []) (s_X10_setSecrets hX v1 r2 r4 h6) kml_X10_59 kst_X10_setSecrets kii_X10 kcd_X10_setSecrets ds_X10_setSecrets rfl ⟨Nat.le_of_ble_eq_true rfl, Nat.le_of_ble_eq_true rfl⟩ (Nat.le_of_ble_eq_true rfl) rfl dX10_follow_164 (fun r28 h27 => ?_)
    exact g_zreturnV (fun _ => rfl) dX10_follow_167
  refine g_tsIn (c := 116) (off := 114) (tgt := 139) dX10_follow_25 (by decide) (by decide) (by decide) (by decide) ?_ (fun n29 => ?_)
  · refine g_aload_n 3 dX10_follow_139 rfl rfl ?_
    refine g_iload_n 1 dX10_follow_140 rfl rfl ?_
    refine g_callSI (st := []) (s_X10_tellSecret hX v1 r2 h6) kml_X10_52 kst_X10_tellSecret kii_X10 kcd_X10_tellSecret ds_X10_tellSecret rfl ⟨Nat.le_of_ble_eq_true rfl, Nat.le_of_ble_eq_true rfl⟩ (Nat.le_of_ble_eq_true rfl) rfl dX10_follow_141 (fun r31 h30 => ?_)
    exact g_zreturnV (fun _ => rfl) dX10_follow_144
  refine g_tsDef (tgt := 180) (keys := [98, 100, 103, 108, 115, 116]) (neK_cons (c := 98) (k := 98) n8 (by decide) (neK_cons (c := 100) (k := 100) n11 (by decide) (neK_cons (c := 103) (k := 103) n16 (by decide) (neK_cons (c := 108) (k := 108) n21 (by decide) (neK_cons (c := 115) (k := 115) n26 (by decide) (neK_cons (c := 116) (k := 116) n29 (by decide) neK_nil)))))) (by decide +kernel) dX10_follow_25 (by decide) ?_
  refine g_iconst (v := 0) dX10_follow_180 (by decide) ?_
  exact g_zreturn (by decide +kernel) rfl dX10_follow_181
abbrev p_X10_init (X : GX) (h0 : AH) : PX Unit := (X, (fun x => Sum.inl (rU x)), (1, 20, 2), h0)
def f_X10_init (v0 : Option Nat) (v1 : Option Nat) (h : AH) : Option (Unit × AH) :=
    (if v0 = none then none else (pR h v0 [10] 0 v1).bind fun h3 =>
    some ((), h3))
set_option maxRecDepth 100000 in
set_option maxHeartbeats 4000000 in
theorem s_X10_init {X : GX} (hX : XOK X) (v0 : Option Nat) (v1 : Option Nat) (h : AH) : Snd X yX10_init cX10_init 2 none 1 20 rU [vR v0, vR v1] h (f_X10_init v0 v1 h) := by
  refine snd_of hX (by decide +kernel) (Nat.le_of_ble_eq_true rfl) ?_
  show Gp (p_X10_init X h) RX10 "<init>" cX10_init none 0 [(0, vR v0), (1, vR v1)] [] h _
  unfold f_X10_init
  refine g_aload_n 0 dX10_init_0 rfl rfl ?_
  refine g_objInit kml_X10_3 kio kco ⟨Nat.le_of_ble_eq_true rfl, Nat.le_of_ble_eq_true rfl⟩ (Nat.le_of_ble_eq_true rfl) dX10_init_1 ?_
  refine g_aload_n 0 dX10_init_4 rfl rfl ?_
  refine g_aload_n 1 dX10_init_5 rfl rfl ?_
  refine g_putRF kfl_X10_9 fo_X10_bytes fw_X10_0 pd_LGuestWeighsLess_Row_ nro.1 nro.2 dX10_init_6 (fun h3 => ?_)
  exact g_return rfl dX10_init_9
abbrev p_X11_areTwo (X : GX) (h0 : AH) : PX Int32 := (X, (fun x => Sum.inl (rI x)), (1, 21, 3), h0)
def f_X11_areTwo (v0 : Option Nat) (v1 : Int32) (v2 : Int32) (h : AH) : Option (Int32 × AH) :=
    (gR h v0 [11] 0).bind fun t1 =>
    bd (cv h t1 5 (f_X5_knows t1 v1 h)) fun r3 h2 =>
    (if r3 = 0 then
    some (0, h2)
    else (gR h2 v0 [11] 0).bind fun t4 =>
    bd (cv h2 t4 5 (f_X5_knows t4 v2 h2)) fun r6 h5 =>
    (if r6 = 0 then
    some (0, h5)
    else (if v1 = v2 then
    some (0, h5)
    else some (1, h5))))
set_option maxRecDepth 100000 in
set_option maxHeartbeats 4000000 in
theorem s_X11_areTwo {X : GX} (hX : XOK X) (v0 : Option Nat) (v1 : Int32) (v2 : Int32) (h : AH) : Snd X yX11_areTwo cX11_areTwo 3 (some .boolean) 1 21 rI [vR v0, vI v1, vI v2] h (f_X11_areTwo v0 v1 v2 h) := by
  refine snd_of hX (by decide +kernel) (Nat.le_of_ble_eq_true rfl) ?_
  show Gp (p_X11_areTwo X h) RX11 "areTwo" cX11_areTwo (some .boolean) 0 [(0, vR v0), (1, vI v1), (2, vI v2)] [] h _
  unfold f_X11_areTwo
  refine g_aload_n 0 dX11_areTwo_0 rfl rfl ?_
  refine g_getR kfl_X11_10 fo_X11_now dX11_areTwo_1 (fun t1 => ?_)
  refine g_iload_n 1 dX11_areTwo_4 rfl rfl ?_
  refine g_callVI (st := []) (ci := 5) rfl (s_X5_knows hX t1 v1 h) kml_X11_84 kim_X5_knows kse_X5_knows kii_X5 kcd_X5_knows rfl ds_X5_knows rfl ⟨Nat.le_of_ble_eq_true rfl, Nat.le_of_ble_eq_true rfl⟩ (Nat.le_of_ble_eq_true rfl) rfl dX11_areTwo_5 (fun r3 h2 => ?_)
  refine g_ifeq (tgt := 31) dX11_areTwo_8 (by decide) ?_ ?_
  · refine g_iconst (v := 0) dX11_areTwo_31 (by decide) ?_
    exact g_zreturn (by decide +kernel) rfl dX11_areTwo_32
  · refine g_aload_n 0 dX11_areTwo_11 rfl rfl ?_
    refine g_getR kfl_X11_10 fo_X11_now dX11_areTwo_12 (fun t4 => ?_)
    refine g_iload_n 2 dX11_areTwo_15 rfl rfl ?_
    refine g_callVI (st := []) (ci := 5) rfl (s_X5_knows hX t4 v2 h2) kml_X11_84 kim_X5_knows kse_X5_knows kii_X5 kcd_X5_knows rfl ds_X5_knows rfl ⟨Nat.le_of_ble_eq_true rfl, Nat.le_of_ble_eq_true rfl⟩ (Nat.le_of_ble_eq_true rfl) rfl dX11_areTwo_16 (fun r6 h5 => ?_)
    refine g_ifeq (tgt := 31) dX11_areTwo_19 (by decide) ?_ ?_
    · refine g_iconst (v := 0) dX11_areTwo_31 (by decide) ?_
      exact g_zreturn (by decide +kernel) rfl dX11_areTwo_32
    · refine g_iload_n 1 dX11_areTwo_22 rfl rfl ?_
      refine g_iload_n 2 dX11_areTwo_23 rfl rfl ?_
      refine g_icmpeq (tgt := 31) dX11_areTwo_24 (by decide) ?_ ?_
      · refine g_iconst (v := 0) dX11_areTwo_31 (by decide) ?_
        exact g_zreturn (by decide +kernel) rfl dX11_areTwo_32
      · refine g_iconst (v := 1) dX11_areTwo_27 (by decide) ?_
        refine g_goto (tgt := 32) dX11_areTwo_28 (by decide) ?_
        exact g_zreturn (by decide +kernel) rfl dX11_areTwo_32
abbrev p_X11_isShelf (X : GX) (h0 : AH) : PX Int32 := (X, (fun x => Sum.inl (rI x)), (0, 0, 1), h0)
def f_X11_isShelf (v0 : Int32) (h : AH) : Option (Int32 × AH) :=
    (if v0 < 0 then
    some (0, h)
    else (if 8 ≤ v0 then
    some (0, h)
    else some (1, h)))
set_option maxRecDepth 100000 in
set_option maxHeartbeats 4000000 in
theorem s_X11_isShelf {X : GX} (hX : XOK X) (v0 : Int32) (h : AH) : Snd X yX11_isShelf cX11_isShelf 1 (some .boolean) 0 0 rI [vI v0] h (f_X11_isShelf v0 h) := by
  refine snd_of hX (by decide +kernel) (Nat.le_of_ble_eq_true rfl) ?_
  show Gp (p_X11_isShelf X h) RX11 "isShelf" cX11_isShelf (some .boolean) 0 [(0, vI v0)] [] h _
  unfold f_X11_isShelf
  refine g_iload_n 0 dX11_isShelf_0 rfl rfl ?_
  refine g_iflt (tgt := 14) dX11_isShelf_1 (by decide) ?_ ?_
  · refine g_iconst (v := 0) dX11_isShelf_14 (by decide) ?_
    exact g_zreturn (by decide +kernel) rfl dX11_isShelf_15
  · refine g_iload_n 0 dX11_isShelf_4 rfl rfl ?_
    refine g_bipush (v := 8) dX11_isShelf_5 (by decide) ?_
    refine g_icmpge (tgt := 14) dX11_isShelf_7 (by decide) ?_ ?_
    · refine g_iconst (v := 0) dX11_isShelf_14 (by decide) ?_
      exact g_zreturn (by decide +kernel) rfl dX11_isShelf_15
    · refine g_iconst (v := 1) dX11_isShelf_10 (by decide) ?_
      refine g_goto (tgt := 15) dX11_isShelf_11 (by decide) ?_
      exact g_zreturn (by decide +kernel) rfl dX11_isShelf_15
abbrev p_X11_rowOn (X : GX) (h0 : AH) : PX (Option Nat) := (X, (fun x => Sum.inl ((rO X.2.2.2.1) x)), (1, 20, 2), h0)
def f_X11_rowOn (v0 : Option Nat) (v1 : Int32) (h : AH) : Option ((Option Nat) × AH) :=
    bd (f_X11_isShelf v1 h) fun r2 h1 =>
    (if r2 = 0 then
    some (none, h1)
    else (gR h1 v0 [11] 5).bind fun t3 =>
    (rA h1 t3 3 v1).bind fun t4 =>
    some (t4, h1))
set_option maxRecDepth 100000 in
set_option maxHeartbeats 4000000 in
theorem s_X11_rowOn {X : GX} (hX : XOK X) (v0 : Option Nat) (v1 : Int32) (h : AH) : Snd X yX11_rowOn cX11_rowOn 2 (some (.object "GuestWeighsLess$Row")) 1 20 (rO X.2.2.2.1) [vR v0, vI v1] h (f_X11_rowOn v0 v1 h) := by
  refine snd_of hX (by decide +kernel) (Nat.le_of_ble_eq_true rfl) ?_
  show Gp (p_X11_rowOn X h) RX11 "rowOn" cX11_rowOn (some (.object "GuestWeighsLess$Row")) 0 [(0, vR v0), (1, vI v1)] [] h _
  unfold f_X11_rowOn
  refine g_iload_n 1 dX11_rowOn_0 rfl rfl ?_
  refine g_callSI (st := []) (s_X11_isShelf hX v1 h) kml_X11_45 kst_X11_isShelf kii_X11 kcd_X11_isShelf ds_X11_isShelf rfl ⟨Nat.le_of_ble_eq_true rfl, Nat.le_of_ble_eq_true rfl⟩ (Nat.le_of_ble_eq_true rfl) rfl dX11_rowOn_1 (fun r2 h1 => ?_)
  refine g_ifeq (tgt := 16) dX11_rowOn_4 (by decide) ?_ ?_
  · refine g_null dX11_rowOn_16 ?_
    exact g_areturn rfl dX11_rowOn_17
  · refine g_aload_n 0 dX11_rowOn_7 rfl rfl ?_
    refine g_getR kfl_X11_34 fo_X11_rowsHeld dX11_rowOn_8 (fun t3 => ?_)
    refine g_iload_n 1 dX11_rowOn_11 rfl rfl ?_
    refine g_aaload (kd := 3) (by decide) (by decide) dX11_rowOn_12 (fun t4 => ?_)
    refine g_goto (tgt := 17) dX11_rowOn_13 (by decide) ?_
    exact g_areturn rfl dX11_rowOn_17
abbrev p_X11_kindOn (X : GX) (h0 : AH) : PX (Option Nat) := (X, (fun x => Sum.inl ((rO X.2.2.2.1) x)), (1, 20, 2), h0)
def f_X11_kindOn (v0 : Option Nat) (v1 : Int32) (h : AH) : Option ((Option Nat) × AH) :=
    bd (f_X11_isShelf v1 h) fun r2 h1 =>
    (if r2 = 0 then
    some (none, h1)
    else (gR h1 v0 [11] 4).bind fun t3 =>
    (rA h1 t3 2 v1).bind fun t4 =>
    some (t4, h1))
set_option maxRecDepth 100000 in
set_option maxHeartbeats 4000000 in
theorem s_X11_kindOn {X : GX} (hX : XOK X) (v0 : Option Nat) (v1 : Int32) (h : AH) : Snd X yX11_kindOn cX11_kindOn 2 (some (.object "GuestWeighsLess$Guest")) 1 20 (rO X.2.2.2.1) [vR v0, vI v1] h (f_X11_kindOn v0 v1 h) := by
  refine snd_of hX (by decide +kernel) (Nat.le_of_ble_eq_true rfl) ?_
  show Gp (p_X11_kindOn X h) RX11 "kindOn" cX11_kindOn (some (.object "GuestWeighsLess$Guest")) 0 [(0, vR v0), (1, vI v1)] [] h _
  unfold f_X11_kindOn
  refine g_iload_n 1 dX11_kindOn_0 rfl rfl ?_
  refine g_callSI (st := []) (s_X11_isShelf hX v1 h) kml_X11_45 kst_X11_isShelf kii_X11 kcd_X11_isShelf ds_X11_isShelf rfl ⟨Nat.le_of_ble_eq_true rfl, Nat.le_of_ble_eq_true rfl⟩ (Nat.le_of_ble_eq_true rfl) rfl dX11_kindOn_1 (fun r2 h1 => ?_)
  refine g_ifeq (tgt := 16) dX11_kindOn_4 (by decide) ?_ ?_
  · refine g_null dX11_kindOn_16 ?_
    exact g_areturn rfl dX11_kindOn_17
  · refine g_aload_n 0 dX11_kindOn_7 rfl rfl ?_
    refine g_getR kfl_X11_28 fo_X11_kindsHeld dX11_kindOn_8 (fun t3 => ?_)
    refine g_iload_n 1 dX11_kindOn_11 rfl rfl ?_
    refine g_aaload (kd := 2) (by decide) (by decide) dX11_kindOn_12 (fun t4 => ?_)
    refine g_goto (tgt := 17) dX11_kindOn_13 (by decide) ?_
    exact g_areturn rfl dX11_kindOn_17
abbrev p_X11_whyNoRow (X : GX) (h0 : AH) : PX Int32 := (X, (fun x => Sum.inl (rI x)), (2, 41, 2), h0)
def f_X11_whyNoRow (v0 : Option Nat) (v1 : Int32) (h : AH) : Option (Int32 × AH) :=
    bd (f_X11_isShelf v1 h) fun r2 h1 =>
    (if r2 = 0 then
    some ((-1), h1)
    else bd (cv h1 v0 11 (f_X11_kindOn v0 v1 h1)) fun r4 h3 =>
    (if r4 = none then
    some ((-11), h3)
    else some ((-12), h3)))
set_option maxRecDepth 100000 in
set_option maxHeartbeats 4000000 in
theorem s_X11_whyNoRow {X : GX} (hX : XOK X) (v0 : Option Nat) (v1 : Int32) (h : AH) : Snd X yX11_whyNoRow cX11_whyNoRow 2 (some .int) 2 41 rI [vR v0, vI v1] h (f_X11_whyNoRow v0 v1 h) := by
  refine snd_of hX (by decide +kernel) (Nat.le_of_ble_eq_true rfl) ?_
  show Gp (p_X11_whyNoRow X h) RX11 "whyNoRow" cX11_whyNoRow (some .int) 0 [(0, vR v0), (1, vI v1)] [] h _
  unfold f_X11_whyNoRow
  refine g_iload_n 1 dX11_whyNoRow_0 rfl rfl ?_
  refine g_callSI (st := []) (s_X11_isShelf hX v1 h) kml_X11_45 kst_X11_isShelf kii_X11 kcd_X11_isShelf ds_X11_isShelf rfl ⟨Nat.le_of_ble_eq_true rfl, Nat.le_of_ble_eq_true rfl⟩ (Nat.le_of_ble_eq_true rfl) rfl dX11_whyNoRow_1 (fun r2 h1 => ?_)
  refine g_ifne (tgt := 9) dX11_whyNoRow_4 (by decide) ?_ ?_
  · refine g_aload_n 0 dX11_whyNoRow_9 rfl rfl ?_
    refine g_iload_n 1 dX11_whyNoRow_10 rfl rfl ?_
    refine g_callVR (st := []) (ci := 11) rfl (s_X11_kindOn hX v0 v1 h1) kml_X11_119 kim_X11_kindOn kse_X11_kindOn kii_X11 kcd_X11_kindOn rfl ds_X11_kindOn rfl ⟨Nat.le_of_ble_eq_true rfl, Nat.le_of_ble_eq_true rfl⟩ (Nat.le_of_ble_eq_true rfl) rfl dX11_whyNoRow_11 (fun r4 h3 => ?_)
    refine g_ifnonnull (tgt := 22) dX11_whyNoRow_14 (by decide) ?_ ?_
    · refine g_bipush (v := (-12)) dX11_whyNoRow_22 (by decide) ?_
      exact g_ireturn rfl dX11_whyNoRow_24
    · refine g_bipush (v := (-11)) dX11_whyNoRow_17 (by decide) ?_
      refine g_goto (tgt := 24) dX11_whyNoRow_19 (by decide) ?_
      exact g_ireturn rfl dX11_whyNoRow_24
  · refine g_iconst (v := (-1)) dX11_whyNoRow_7 (by decide) ?_
    exact g_ireturn rfl dX11_whyNoRow_8
abbrev p_X5_becomes (X : GX) (h0 : AH) : PX Unit := (X, (fun x => Sum.inl (rU x)), (0, 0, 3), h0)
def f_X5_becomes_b10 : Nat → Option Nat → Option Nat → Int32 → AH → Option (Unit × AH)
  | 0 => fun _ _ _ _ => none
  | n + 1 => fun x0 x1 x2 h =>
    (gI h x0 [5] 5).bind fun t3 =>
    (if t3 ≤ x2 then
    (gI h x1 [5] 6).bind fun t4 =>
    (pI h x0 [5] 6 t4).bind fun h5 =>
    (gI h5 x1 [5] 7).bind fun t6 =>
    (pI h5 x0 [5] 7 t6).bind fun h7 =>
    (gI h7 x1 [5] 8).bind fun t8 =>
    (pI h7 x0 [5] 8 t8).bind fun h9 =>
    (gI h9 x1 [5] 9).bind fun t10 =>
    (pI h9 x0 [5] 9 t10).bind fun h11 =>
    (gI h11 x1 [5] 10).bind fun t12 =>
    (pI h11 x0 [5] 10 t12).bind fun h13 =>
    some ((), h13)
    else (gR h x0 [5] 0).bind fun t14 =>
    (gR h x1 [5] 0).bind fun t15 =>
    (rA h t15 2 x2).bind fun t16 =>
    (rS h t14 2 GF x2 t16).bind fun h17 =>
    (gR h17 x0 [5] 1).bind fun t18 =>
    (gR h17 x1 [5] 1).bind fun t19 =>
    (iA h17 t19 x2).bind fun t20 =>
    (iS h17 t18 x2 t20).bind fun h21 =>
    (gR h21 x0 [5] 2).bind fun t22 =>
    (gR h21 x1 [5] 2).bind fun t23 =>
    (iA h21 t23 x2).bind fun t24 =>
    (iS h21 t22 x2 t24).bind fun h25 =>
    (gR h25 x0 [5] 3).bind fun t26 =>
    (gR h25 x1 [5] 3).bind fun t27 =>
    (iA h25 t27 x2).bind fun t28 =>
    (iS h25 t26 x2 t28).bind fun h29 =>
    (gR h29 x0 [5] 4).bind fun t30 =>
    (gR h29 x1 [5] 4).bind fun t31 =>
    (iA h29 t31 x2).bind fun t32 =>
    (iS h29 t30 x2 t32).bind fun h33 =>
    f_X5_becomes_b10 n x0 x1 (x2 + 1) h33)
set_option maxRecDepth 100000 in
set_option maxHeartbeats 4000000 in
theorem s_X5_becomes_b10 {X : GX} (hX : XOK X) {h0 : AH} : ∀ (n : Nat) (x0 : Option Nat) (x1 : Option Nat) (x2 : Int32) (h : AH), Gp (p_X5_becomes X h0) RX5 "becomes" cX5_becomes none 10 [(0, vR x0), (1, vR x1), (2, vI x2)] [] h (f_X5_becomes_b10 n x0 x1 x2 h) := by
  intro n
  induction n with
  | zero => intro x0 x1 x2 h; exact g_none
  | succ n ih =>
    intro x0 x1 x2 h
    rw [f_X5_becomes_b10]
    refine g_iload_n 2 dX5_becomes_10 rfl rfl ?_
    refine g_aload_n 0 dX5_becomes_11 rfl rfl ?_
    refine g_getI kfl_X5_30 fo_X5_guests dX5_becomes_12 (fun t3 => ?_)
    refine g_icmpge (tgt := 84) dX5_becomes_15 (by decide) ?_ ?_
    · refine g_aload_n 0 dX5_becomes_84 rfl rfl ?_
      refine g_aload_n 1 dX5_becomes_85 rfl rfl ?_
      refine g_getI kfl_X5_34 fo_X5_inside dX5_becomes_86 (fun t4 => ?_)
      refine g_putI kfl_X5_34 fo_X5_inside pd_I nI'.1 nI'.2 dX5_becomes_89 (fun h5 => ?_)
      refine g_aload_n 0 dX5_becomes_92 rfl rfl ?_
      refine g_aload_n 1 dX5_becomes_93 rfl rfl ?_
      refine g_getI kfl_X5_37 fo_X5_board dX5_becomes_94 (fun t6 => ?_)
      refine g_putI kfl_X5_37 fo_X5_board pd_I nI'.1 nI'.2 dX5_becomes_97 (fun h7 => ?_)
      refine g_aload_n 0 dX5_becomes_100 rfl rfl ?_
      refine g_aload_n 1 dX5_becomes_101 rfl rfl ?_
      refine g_getI kfl_X5_40 fo_X5_dance dX5_becomes_102 (fun t8 => ?_)
      refine g_putI kfl_X5_40 fo_X5_dance pd_I nI'.1 nI'.2 dX5_becomes_105 (fun h9 => ?_)
      refine g_aload_n 0 dX5_becomes_108 rfl rfl ?_
      refine g_aload_n 1 dX5_becomes_109 rfl rfl ?_
      refine g_getI kfl_X5_43 fo_X5_relief dX5_becomes_110 (fun t10 => ?_)
      refine g_putI kfl_X5_43 fo_X5_relief pd_I nI'.1 nI'.2 dX5_becomes_113 (fun h11 => ?_)
      refine g_aload_n 0 dX5_becomes_116 rfl rfl ?_
      refine g_aload_n 1 dX5_becomes_117 rfl rfl ?_
      refine g_getI kfl_X5_46 fo_X5_day dX5_becomes_118 (fun t12 => ?_)
      refine g_putI kfl_X5_46 fo_X5_day pd_I nI'.1 nI'.2 dX5_becomes_121 (fun h13 => ?_)
      exact g_return rfl dX5_becomes_124
    · refine g_aload_n 0 dX5_becomes_18 rfl rfl ?_
      refine g_getR kfl_X5_11 fo_X5_kind dX5_becomes_19 (fun t14 => ?_)
      refine g_iload_n 2 dX5_becomes_22 rfl rfl ?_
      refine g_aload_n 1 dX5_becomes_23 rfl rfl ?_
      refine g_getR kfl_X5_11 fo_X5_kind dX5_becomes_24 (fun t15 => ?_)
      refine g_iload_n 2 dX5_becomes_27 rfl rfl ?_
      refine g_aaload (kd := 2) (by decide) (by decide) dX5_becomes_28 (fun t16 => ?_)
      refine g_aastore (kd := 2) (by decide) (by decide) asgG dX5_becomes_29 (fun h17 => ?_)
      refine g_aload_n 0 dX5_becomes_30 rfl rfl ?_
      refine g_getR kfl_X5_17 fo_X5_weight dX5_becomes_31 (fun t18 => ?_)
      refine g_iload_n 2 dX5_becomes_34 rfl rfl ?_
      refine g_aload_n 1 dX5_becomes_35 rfl rfl ?_
      refine g_getR kfl_X5_17 fo_X5_weight dX5_becomes_36 (fun t19 => ?_)
      refine g_iload_n 2 dX5_becomes_39 rfl rfl ?_
      refine g_iaload dX5_becomes_40 (fun t20 => ?_)
      refine g_iastore dX5_becomes_41 (fun h21 => ?_)
      refine g_aload_n 0 dX5_becomes_42 rfl rfl ?_
      refine g_getR kfl_X5_21 fo_X5_entered dX5_becomes_43 (fun t22 => ?_)
      refine g_iload_n 2 dX5_becomes_46 rfl rfl ?_
      refine g_aload_n 1 dX5_becomes_47 rfl rfl ?_
      refine g_getR kfl_X5_21 fo_X5_entered dX5_becomes_48 (fun t23 => ?_)
      refine g_iload_n 2 dX5_becomes_51 rfl rfl ?_
      refine g_iaload dX5_becomes_52 (fun t24 => ?_)
      refine g_iastore dX5_becomes_53 (fun h25 => ?_)
      refine g_aload_n 0 dX5_becomes_54 rfl rfl ?_
      refine g_getR kfl_X5_24 fo_X5_secrets dX5_becomes_55 (fun t26 => ?_)
      refine g_iload_n 2 dX5_becomes_58 rfl rfl ?_
      refine g_aload_n 1 dX5_becomes_59 rfl rfl ?_
      refine g_getR kfl_X5_24 fo_X5_secrets dX5_becomes_60 (fun t27 => ?_)
      refine g_iload_n 2 dX5_becomes_63 rfl rfl ?_
      refine g_iaload dX5_becomes_64 (fun t28 => ?_)
      refine g_iastore dX5_becomes_65 (fun h29 => ?_)
      refine g_aload_n 0 dX5_becomes_66 rfl rfl ?_
      refine g_getR kfl_X5_27 fo_X5_came dX5_becomes_67 (fun t30 => ?_)
      refine g_iload_n 2 dX5_becomes_70 rfl rfl ?_
      refine g_aload_n 1 dX5_becomes_71 rfl rfl ?_
      refine g_getR kfl_X5_27 fo_X5_came dX5_becomes_72 (fun t31 => ?_)
      refine g_iload_n 2 dX5_becomes_75 rfl rfl ?_
      refine g_iaload dX5_becomes_76 (fun t32 => ?_)
      refine g_iastore dX5_becomes_77 (fun h33 => ?_)
      refine g_iinc 2 (v := (x2 + 1)) (ls' := [(2, vI ((x2 + 1))), (0, vR x0), (1, vR x1)]) dX5_becomes_78 rfl rfl (Nat.le_of_ble_eq_true rfl) rfl ?_
      refine g_goto (tgt := 10) dX5_becomes_81 (by decide) ?_
      exact g_sub2 [1, 2, 0] rfl (ih x0 x1 (x2 + 1) h33)
def f_X5_becomes (v0 : Option Nat) (v1 : Option Nat) (h : AH) : Option (Unit × AH) :=
    (gI h v1 [5] 5).bind fun t1 =>
    (pI h v0 [5] 5 t1).bind fun h2 =>
    f_X5_becomes_b10 FU v0 v1 0 h2
set_option maxRecDepth 100000 in
set_option maxHeartbeats 4000000 in
theorem s_X5_becomes {X : GX} (hX : XOK X) (v0 : Option Nat) (v1 : Option Nat) (h : AH) : Snd X yX5_becomes cX5_becomes 3 none 0 0 rU [vR v0, vR v1] h (f_X5_becomes v0 v1 h) := by
  refine snd_of hX (by decide +kernel) (Nat.le_of_ble_eq_true rfl) ?_
  show Gp (p_X5_becomes X h) RX5 "becomes" cX5_becomes none 0 [(0, vR v0), (1, vR v1)] [] h _
  unfold f_X5_becomes
  refine g_aload_n 0 dX5_becomes_0 rfl rfl ?_
  refine g_aload_n 1 dX5_becomes_1 rfl rfl ?_
  refine g_getI kfl_X5_30 fo_X5_guests dX5_becomes_2 (fun t1 => ?_)
  refine g_putI kfl_X5_30 fo_X5_guests pd_I nI'.1 nI'.2 dX5_becomes_5 (fun h2 => ?_)
  refine g_iconst (v := 0) dX5_becomes_8 (by decide) ?_
  refine g_istore_n (ls' := [(2, vI 0), (0, vR v0), (1, vR v1)]) dX5_becomes_9 rfl (Nat.le_of_ble_eq_true rfl) rfl ?_
  exact g_sub2 [1, 2, 0] rfl (s_X5_becomes_b10 hX FU v0 v1 0 h2)
abbrev p_X7_isSkipped (X : GX) (h0 : AH) : PX Int32 := (X, (fun x => Sum.inl (rI x)), (2, 42, 2), h0)
def f_X7_isSkipped (v0 : Option Nat) (v1 : Int32) (h : AH) : Option (Int32 × AH) :=
    (gI h v0 [7] 0).bind fun t1 =>
    (if t1 = 0 then
    bd (cv h v0 7 (f_X7_at v0 v1 h)) fun r4 h3 =>
    (if r4 = (-128) then
    some (1, h3)
    else some (0, h3))
    else (if t1 = 1 then
    bd (cv h v0 7 (f_X7_at v0 v1 h)) fun r7 h6 =>
    (if r7 = (-32768) then
    some (1, h6)
    else some (0, h6))
    else bd (cv h v0 7 (f_X7_at v0 v1 h)) fun r9 h8 =>
    (if r9 = (-2147483648) then
    some (1, h8)
    else some (0, h8))))
set_option maxRecDepth 100000 in
set_option maxHeartbeats 4000000 in
theorem s_X7_isSkipped {X : GX} (hX : XOK X) (v0 : Option Nat) (v1 : Int32) (h : AH) : Snd X yX7_isSkipped cX7_isSkipped 2 (some .boolean) 2 42 rI [vR v0, vI v1] h (f_X7_isSkipped v0 v1 h) := by
  refine snd_of hX (by decide +kernel) (Nat.le_of_ble_eq_true rfl) ?_
  show Gp (p_X7_isSkipped X h) RX7 "isSkipped" cX7_isSkipped (some .boolean) 0 [(0, vR v0), (1, vI v1)] [] h _
  unfold f_X7_isSkipped
  refine g_aload_n 0 dX7_isSkipped_0 rfl rfl ?_
  refine g_getI kfl_X7_9 fo_X7_sort dX7_isSkipped_1 (fun t1 => ?_)
  refine g_lsIn (c := 0) (off := 28) (tgt := 32) dX7_isSkipped_4 (by decide) (by decide) (by decide) ?_ (fun n2 => ?_)
  · refine g_aload_n 0 dX7_isSkipped_32 rfl rfl ?_
    refine g_iload_n 1 dX7_isSkipped_33 rfl rfl ?_
    refine g_callVI (st := []) (ci := 7) rfl (s_X7_at hX v0 v1 h) kml_X7_33 kim_X7_at kse_X7_at kii_X7 kcd_X7_at rfl ds_X7_at rfl ⟨Nat.le_of_ble_eq_true rfl, Nat.le_of_ble_eq_true rfl⟩ (Nat.le_of_ble_eq_true rfl) rfl dX7_isSkipped_34 (fun r4 h3 => ?_)
    refine g_bipush (v := (-128)) dX7_isSkipped_37 (by decide) ?_
    refine g_icmpne (tgt := 46) dX7_isSkipped_39 (by decide) ?_ ?_
    · refine g_iconst (v := 0) dX7_isSkipped_46 (by decide) ?_
      exact g_zreturn (by decide +kernel) rfl dX7_isSkipped_47
    · refine g_iconst (v := 1) dX7_isSkipped_42 (by decide) ?_
      refine g_goto (tgt := 47) dX7_isSkipped_43 (by decide) ?_
      exact g_zreturn (by decide +kernel) rfl dX7_isSkipped_47
  refine g_lsIn (c := 1) (off := 44) (tgt := 48) dX7_isSkipped_4 (by decide) (by decide) (by decide) ?_ (fun n5 => ?_)
  · refine g_aload_n 0 dX7_isSkipped_48 rfl rfl ?_
    refine g_iload_n 1 dX7_isSkipped_49 rfl rfl ?_
    refine g_callVI (st := []) (ci := 7) rfl (s_X7_at hX v0 v1 h) kml_X7_33 kim_X7_at kse_X7_at kii_X7 kcd_X7_at rfl ds_X7_at rfl ⟨Nat.le_of_ble_eq_true rfl, Nat.le_of_ble_eq_true rfl⟩ (Nat.le_of_ble_eq_true rfl) rfl dX7_isSkipped_50 (fun r7 h6 => ?_)
    refine g_sipush (v := (-32768)) dX7_isSkipped_53 (by decide) ?_
    refine g_icmpne (tgt := 63) dX7_isSkipped_56 (by decide) ?_ ?_
    · refine g_iconst (v := 0) dX7_isSkipped_63 (by decide) ?_
      exact g_zreturn (by decide +kernel) rfl dX7_isSkipped_64
    · refine g_iconst (v := 1) dX7_isSkipped_59 (by decide) ?_
      refine g_goto (tgt := 64) dX7_isSkipped_60 (by decide) ?_
      exact g_zreturn (by decide +kernel) rfl dX7_isSkipped_64
  refine g_lsOut (tgt := 65) dX7_isSkipped_4 (by decide) (by show Op.lookupswitch.offset [(0, 28), (1, 44)] _ _ = _; rw [lv_osw n2 (by decide), lv_osw n5 (by decide)]; rfl) (by decide) ?_
  refine g_aload_n 0 dX7_isSkipped_65 rfl rfl ?_
  refine g_iload_n 1 dX7_isSkipped_66 rfl rfl ?_
  refine g_callVI (st := []) (ci := 7) rfl (s_X7_at hX v0 v1 h) kml_X7_33 kim_X7_at kse_X7_at kii_X7 kcd_X7_at rfl ds_X7_at rfl ⟨Nat.le_of_ble_eq_true rfl, Nat.le_of_ble_eq_true rfl⟩ (Nat.le_of_ble_eq_true rfl) rfl dX7_isSkipped_67 (fun r9 h8 => ?_)
  refine g_ldc kco_X7_36 dX7_isSkipped_70 ?_
  refine g_icmpne (tgt := 79) dX7_isSkipped_72 (by decide) ?_ ?_
  · refine g_iconst (v := 0) dX7_isSkipped_79 (by decide) ?_
    exact g_zreturn (by decide +kernel) rfl dX7_isSkipped_80
  · refine g_iconst (v := 1) dX7_isSkipped_75 (by decide) ?_
    refine g_goto (tgt := 80) dX7_isSkipped_76 (by decide) ?_
    exact g_zreturn (by decide +kernel) rfl dX7_isSkipped_80
abbrev p_X5_passDayEating (X : GX) (h0 : AH) : PX Unit := (X, (fun x => Sum.inl (rU x)), (3, 65, 3), h0)
def f_X5_passDayEating (v0 : Option Nat) (v1 : Int32) (v2 : Int32) (h : AH) : Option (Unit × AH) :=
    (gI h v0 [5] 10).bind fun t1 =>
    (pI h v0 [5] 10 (t1 + 1)).bind fun h2 =>
    bd (cv h2 v0 5 (f_X5_eatAndDance v0 v1 v2 h2)) fun u4 h3 =>
    bd (cv h3 v0 5 (f_X5_mayGo v0 v1 h3)) fun r6 h5 =>
    (if r6 = 0 then
    some ((), h5)
    else bd (cv h5 v0 5 (f_X5_goAway v0 v1 h5)) fun u8 h7 =>
    some ((), h7))
set_option maxRecDepth 100000 in
set_option maxHeartbeats 4000000 in
theorem s_X5_passDayEating {X : GX} (hX : XOK X) (v0 : Option Nat) (v1 : Int32) (v2 : Int32) (h : AH) : Snd X yX5_passDayEating cX5_passDayEating 3 none 3 65 rU [vR v0, vI v1, vI v2] h (f_X5_passDayEating v0 v1 v2 h) := by
  refine snd_of hX (by decide +kernel) (Nat.le_of_ble_eq_true rfl) ?_
  show Gp (p_X5_passDayEating X h) RX5 "passDayEating" cX5_passDayEating none 0 [(0, vR v0), (1, vI v1), (2, vI v2)] [] h _
  unfold f_X5_passDayEating
  refine g_aload_n 0 dX5_passDayEating_0 rfl rfl ?_
  refine g_dup dX5_passDayEating_1 rfl ?_
  refine g_getI kfl_X5_46 fo_X5_day dX5_passDayEating_2 (fun t1 => ?_)
  refine g_iconst (v := 1) dX5_passDayEating_5 (by decide) ?_
  refine g_iadd dX5_passDayEating_6 ?_
  refine g_putI kfl_X5_46 fo_X5_day pd_I nI'.1 nI'.2 dX5_passDayEating_7 (fun h2 => ?_)
  refine g_aload_n 0 dX5_passDayEating_10 rfl rfl ?_
  refine g_iload_n 1 dX5_passDayEating_11 rfl rfl ?_
  refine g_iload_n 2 dX5_passDayEating_12 rfl rfl ?_
  refine g_callVU (st := []) (ci := 5) rfl (s_X5_eatAndDance hX v0 v1 v2 h2) kml_X5_85 kim_X5_eatAndDance kse_X5_eatAndDance kii_X5 kcd_X5_eatAndDance rfl ds_X5_eatAndDance rfl ⟨Nat.le_of_ble_eq_true rfl, Nat.le_of_ble_eq_true rfl⟩ (Nat.le_of_ble_eq_true rfl) rfl dX5_passDayEating_13 (fun u4 h3 => ?_)
  refine g_aload_n 0 dX5_passDayEating_16 rfl rfl ?_
  refine g_iload_n 1 dX5_passDayEating_17 rfl rfl ?_
  refine g_callVI (st := []) (ci := 5) rfl (s_X5_mayGo hX v0 v1 h3) kml_X5_88 kim_X5_mayGo kse_X5_mayGo kii_X5 kcd_X5_mayGo rfl ds_X5_mayGo rfl ⟨Nat.le_of_ble_eq_true rfl, Nat.le_of_ble_eq_true rfl⟩ (Nat.le_of_ble_eq_true rfl) rfl dX5_passDayEating_18 (fun r6 h5 => ?_)
  refine g_ifeq (tgt := 29) dX5_passDayEating_21 (by decide) ?_ ?_
  · exact g_return rfl dX5_passDayEating_29
  · refine g_aload_n 0 dX5_passDayEating_24 rfl rfl ?_
    refine g_iload_n 1 dX5_passDayEating_25 rfl rfl ?_
    refine g_callVU (st := []) (ci := 5) rfl (s_X5_goAway hX v0 v1 h5) kml_X5_91 kim_X5_goAway kse_X5_goAway kii_X5 kcd_X5_goAway rfl ds_X5_goAway rfl ⟨Nat.le_of_ble_eq_true rfl, Nat.le_of_ble_eq_true rfl⟩ (Nat.le_of_ble_eq_true rfl) rfl dX5_passDayEating_26 (fun u8 h7 => ?_)
    exact g_return rfl dX5_passDayEating_29
abbrev p_X5_passDayOf (X : GX) (h0 : AH) : PX Unit := (X, (fun x => Sum.inl (rU x)), (4, 87, 2), h0)
def f_X5_passDayOf (v0 : Option Nat) (v1 : Int32) (h : AH) : Option (Unit × AH) :=
    bd (cv h v0 5 (f_X5_foodOf v0 v1 h)) fun r2 h1 =>
    bd (cv h1 v0 5 (f_X5_passDayEating v0 v1 r2 h1)) fun u4 h3 =>
    some ((), h3)
set_option maxRecDepth 100000 in
set_option maxHeartbeats 4000000 in
theorem s_X5_passDayOf {X : GX} (hX : XOK X) (v0 : Option Nat) (v1 : Int32) (h : AH) : Snd X yX5_passDayOf cX5_passDayOf 2 none 4 87 rU [vR v0, vI v1] h (f_X5_passDayOf v0 v1 h) := by
  refine snd_of hX (by decide +kernel) (Nat.le_of_ble_eq_true rfl) ?_
  show Gp (p_X5_passDayOf X h) RX5 "passDayOf" cX5_passDayOf none 0 [(0, vR v0), (1, vI v1)] [] h _
  unfold f_X5_passDayOf
  refine g_aload_n 0 dX5_passDayOf_0 rfl rfl ?_
  refine g_iload_n 1 dX5_passDayOf_1 rfl rfl ?_
  refine g_aload_n 0 dX5_passDayOf_2 rfl rfl ?_
  refine g_iload_n 1 dX5_passDayOf_3 rfl rfl ?_
  refine g_callVI (st := [vI v1, vR v0]) (ci := 5) rfl (s_X5_foodOf hX v0 v1 h) kml_X5_82 kim_X5_foodOf kse_X5_foodOf kii_X5 kcd_X5_foodOf rfl ds_X5_foodOf rfl ⟨Nat.le_of_ble_eq_true rfl, Nat.le_of_ble_eq_true rfl⟩ (Nat.le_of_ble_eq_true rfl) rfl dX5_passDayOf_4 (fun r2 h1 => ?_)
  refine g_callVU (st := []) (ci := 5) rfl (s_X5_passDayEating hX v0 v1 r2 h1) kml_X5_95 kim_X5_passDayEating kse_X5_passDayEating kii_X5 kcd_X5_passDayEating rfl ds_X5_passDayEating rfl ⟨Nat.le_of_ble_eq_true rfl, Nat.le_of_ble_eq_true rfl⟩ (Nat.le_of_ble_eq_true rfl) rfl dX5_passDayOf_7 (fun u4 h3 => ?_)
  exact g_return rfl dX5_passDayOf_10
abbrev p_X11_enteredBy (X : GX) (h0 : AH) : PX Int32 := (X, (fun x => Sum.inl (rI x)), (5, 108, 8), h0)
def f_X11_enteredBy_b114 (k50 : Option Nat → Option Nat → Int32 → Int32 → Int32 → Int32 → Int32 → Int32 → AH → Option (Int32 × AH)) (x0 : Option Nat) (x1 : Option Nat) (x2 : Int32) (x3 : Int32) (x4 : Int32) (x5 : Int32) (x6 : Int32) (x7 : Int32) (h : AH) : Option (Int32 × AH) :=
    (gR h x0 [11] 1).bind fun t17 =>
    bd (cv h t17 5 (f_X5_passDayOf t17 x2 h)) fun u19 h18 =>
    (gR h18 x0 [11] 1).bind fun t20 =>
    bd (cv h18 t20 5 (f_X5_hasStayed t20 x2 h18)) fun r22 h21 =>
    (if r22 = 0 then
    k50 x0 x1 x2 x3 x4 x5 x6 (x7 + 1) h21
    else (gR h21 x0 [11] 1).bind fun t23 =>
    (gR h21 t23 [5] 1).bind fun t24 =>
    (iA h21 t24 x2).bind fun t25 =>
    nm (mmin x6 t25) fun t28 =>
    k50 x0 x1 x2 x3 x4 x5 t28 (x7 + 1) h21)
set_option maxRecDepth 100000 in
set_option maxHeartbeats 4000000 in
theorem s_X11_enteredBy_b114 {X : GX} (hX : XOK X) {h0 : AH} (k50 : Option Nat → Option Nat → Int32 → Int32 → Int32 → Int32 → Int32 → Int32 → AH → Option (Int32 × AH)) (hk50 : ∀ (z0 : Option Nat) (z1 : Option Nat) (z2 : Int32) (z3 : Int32) (z4 : Int32) (z5 : Int32) (z6 : Int32) (z7 : Int32) (h : AH), Gp (p_X11_enteredBy X h0) RX11 "enteredBy" cX11_enteredBy (some .int) 50 [(0, vR z0), (1, vR z1), (2, vI z2), (3, vI z3), (4, vI z4), (5, vI z5), (6, vI z6), (7, vI z7)] [] h (k50 z0 z1 z2 z3 z4 z5 z6 z7 h)) : ∀ (x0 : Option Nat) (x1 : Option Nat) (x2 : Int32) (x3 : Int32) (x4 : Int32) (x5 : Int32) (x6 : Int32) (x7 : Int32) (h : AH), Gp (p_X11_enteredBy X h0) RX11 "enteredBy" cX11_enteredBy (some .int) 114 [(0, vR x0), (1, vR x1), (2, vI x2), (3, vI x3), (4, vI x4), (5, vI x5), (6, vI x6), (7, vI x7)] [] h (f_X11_enteredBy_b114 k50 x0 x1 x2 x3 x4 x5 x6 x7 h) := by
  intro x0 x1 x2 x3 x4 x5 x6 x7 h
  unfold f_X11_enteredBy_b114
  refine g_aload_n 0 dX11_enteredBy_114 rfl rfl ?_
  refine g_getR kfl_X11_16 fo_X11_mind dX11_enteredBy_115 (fun t17 => ?_)
  refine g_iload_n 2 dX11_enteredBy_118 rfl rfl ?_
  refine g_callVU (st := []) (ci := 5) rfl (s_X5_passDayOf hX t17 x2 h) kml_X11_186 kim_X5_passDayOf kse_X5_passDayOf kii_X5 kcd_X5_passDayOf rfl ds_X5_passDayOf rfl ⟨Nat.le_of_ble_eq_true rfl, Nat.le_of_ble_eq_true rfl⟩ (Nat.le_of_ble_eq_true rfl) rfl dX11_enteredBy_119 (fun u19 h18 => ?_)
  refine g_aload_n 0 dX11_enteredBy_122 rfl rfl ?_
  refine g_getR kfl_X11_16 fo_X11_mind dX11_enteredBy_123 (fun t20 => ?_)
  refine g_iload_n 2 dX11_enteredBy_126 rfl rfl ?_
  refine g_callVI (st := []) (ci := 5) rfl (s_X5_hasStayed hX t20 x2 h18) kml_X11_299 kim_X5_hasStayed kse_X5_hasStayed kii_X5 kcd_X5_hasStayed rfl ds_X5_hasStayed rfl ⟨Nat.le_of_ble_eq_true rfl, Nat.le_of_ble_eq_true rfl⟩ (Nat.le_of_ble_eq_true rfl) rfl dX11_enteredBy_127 (fun r22 h21 => ?_)
  refine g_ifeq (tgt := 149) dX11_enteredBy_130 (by decide) ?_ ?_
  · refine g_iinc 7 (v := (x7 + 1)) (ls' := [(7, vI ((x7 + 1))), (0, vR x0), (1, vR x1), (2, vI x2), (3, vI x3), (4, vI x4), (5, vI x5), (6, vI x6)]) dX11_enteredBy_149 rfl rfl (Nat.le_of_ble_eq_true rfl) rfl ?_
    refine g_goto (tgt := 50) dX11_enteredBy_152 (by decide) ?_
    exact g_sub2 [1, 2, 3, 4, 5, 6, 7, 0] rfl (hk50 x0 x1 x2 x3 x4 x5 x6 (x7 + 1) h21)
  · refine g_iload 6 dX11_enteredBy_133 rfl ?_
    refine g_aload_n 0 dX11_enteredBy_135 rfl rfl ?_
    refine g_getR kfl_X11_16 fo_X11_mind dX11_enteredBy_136 (fun t23 => ?_)
    refine g_getR kfl_X11_95 fo_X5_weight dX11_enteredBy_139 (fun t24 => ?_)
    refine g_iload_n 2 dX11_enteredBy_142 rfl rfl ?_
    refine g_iaload dX11_enteredBy_143 (fun t25 => ?_)
    refine g_mmin kml_X11_296 kst_mmin kii_Math kcd_mmin ⟨Nat.le_of_ble_eq_true rfl, Nat.le_of_ble_eq_true rfl⟩ (Nat.le_of_ble_eq_true rfl) dX11_enteredBy_144 ?_
    refine g_nmI (fun t28 => ?_)
    refine g_istore (ls' := [(6, vI t28), (0, vR x0), (1, vR x1), (2, vI x2), (3, vI x3), (4, vI x4), (5, vI x5), (7, vI x7)]) dX11_enteredBy_147 (Nat.le_of_ble_eq_true rfl) rfl ?_
    refine g_iinc 7 (v := (x7 + 1)) (ls' := [(7, vI ((x7 + 1))), (6, vI t28), (0, vR x0), (1, vR x1), (2, vI x2), (3, vI x3), (4, vI x4), (5, vI x5)]) dX11_enteredBy_149 rfl rfl (Nat.le_of_ble_eq_true rfl) rfl ?_
    refine g_goto (tgt := 50) dX11_enteredBy_152 (by decide) ?_
    exact g_sub2 [2, 3, 4, 5, 6, 7, 1, 0] rfl (hk50 x0 x1 x2 x3 x4 x5 t28 (x7 + 1) h21)
def f_X11_enteredBy_b109 (k50 : Option Nat → Option Nat → Int32 → Int32 → Int32 → Int32 → Int32 → Int32 → AH → Option (Int32 × AH)) (x0 : Option Nat) (x1 : Option Nat) (x2 : Int32) (x3 : Int32) (x4 : Int32) (x6 : Int32) (x7 : Int32) (y1 : Int32) (y0 : Int32) (h : AH) : Option (Int32 × AH) :=
    nm (mmin y0 y1) fun t35 =>
    f_X11_enteredBy_b114 k50 x0 x1 x2 x3 x4 t35 x6 x7 h
set_option maxRecDepth 100000 in
set_option maxHeartbeats 4000000 in
theorem s_X11_enteredBy_b109 {X : GX} (hX : XOK X) {h0 : AH} (k50 : Option Nat → Option Nat → Int32 → Int32 → Int32 → Int32 → Int32 → Int32 → AH → Option (Int32 × AH)) (hk50 : ∀ (z0 : Option Nat) (z1 : Option Nat) (z2 : Int32) (z3 : Int32) (z4 : Int32) (z5 : Int32) (z6 : Int32) (z7 : Int32) (h : AH), Gp (p_X11_enteredBy X h0) RX11 "enteredBy" cX11_enteredBy (some .int) 50 [(0, vR z0), (1, vR z1), (2, vI z2), (3, vI z3), (4, vI z4), (5, vI z5), (6, vI z6), (7, vI z7)] [] h (k50 z0 z1 z2 z3 z4 z5 z6 z7 h)) : ∀ (x0 : Option Nat) (x1 : Option Nat) (x2 : Int32) (x3 : Int32) (x4 : Int32) (x6 : Int32) (x7 : Int32) (y1 : Int32) (y0 : Int32) (h : AH), Gp (p_X11_enteredBy X h0) RX11 "enteredBy" cX11_enteredBy (some .int) 109 [(0, vR x0), (1, vR x1), (2, vI x2), (3, vI x3), (4, vI x4), (6, vI x6), (7, vI x7)] [vI y1, vI y0] h (f_X11_enteredBy_b109 k50 x0 x1 x2 x3 x4 x6 x7 y1 y0 h) := by
  intro x0 x1 x2 x3 x4 x6 x7 y1 y0 h
  unfold f_X11_enteredBy_b109
  refine g_mmin kml_X11_296 kst_mmin kii_Math kcd_mmin ⟨Nat.le_of_ble_eq_true rfl, Nat.le_of_ble_eq_true rfl⟩ (Nat.le_of_ble_eq_true rfl) dX11_enteredBy_109 ?_
  refine g_nmI (fun t35 => ?_)
  refine g_istore (ls' := [(5, vI t35), (0, vR x0), (1, vR x1), (2, vI x2), (3, vI x3), (4, vI x4), (6, vI x6), (7, vI x7)]) dX11_enteredBy_112 (Nat.le_of_ble_eq_true rfl) rfl ?_
  exact g_sub2 [1, 2, 3, 4, 5, 0, 6, 7] rfl (s_X11_enteredBy_b114 hX k50 (fun z0 z1 z2 z3 z4 z5 z6 z7 z8 => hk50 z0 z1 z2 z3 z4 z5 z6 z7 z8) x0 x1 x2 x3 x4 t35 x6 x7 h)
def f_X11_enteredBy_b50 : Nat → Option Nat → Option Nat → Int32 → Int32 → Int32 → Int32 → Int32 → Int32 → AH → Option (Int32 × AH)
  | 0 => fun _ _ _ _ _ _ _ _ _ => none
  | n + 1 => fun x0 x1 x2 x3 x4 x5 x6 x7 h =>
    bd (cv h x1 7 (f_X7_size x1 h)) fun r12 h11 =>
    (if r12 ≤ x7 then
    (if x3 = 0 then
    some ((mmax 0 ((x5 - x4) + 1)), h11)
    else (if x4 ≤ x5 then
    (if x3 = 1 then
    some (x4, h11)
    else some (x5, h11))
    else some ((-4), h11)))
    else bd (cv h11 x1 7 (f_X7_isSkipped x1 x7 h11)) fun r16 h15 =>
    (if r16 = 0 then
    bd (cv h15 x1 7 (f_X7_at x1 x7 h15)) fun r30 h29 =>
    (if r30 = 0 then
    nm (mmax x4 (x6 + 1)) fun t38 =>
    f_X11_enteredBy_b114 (f_X11_enteredBy_b50 n) x0 x1 x2 x3 t38 x5 x6 x7 h29
    else bd (cv h29 x1 7 (f_X7_at x1 x7 h29)) fun r32 h31 =>
    (if r32 = 1 then
    f_X11_enteredBy_b109 (f_X11_enteredBy_b50 n) x0 x1 x2 x3 x4 x6 x7 x6 x5 h31
    else f_X11_enteredBy_b109 (f_X11_enteredBy_b50 n) x0 x1 x2 x3 x4 x6 x7 (-1) x5 h31))
    else f_X11_enteredBy_b114 (f_X11_enteredBy_b50 n) x0 x1 x2 x3 x4 x5 x6 x7 h15))
set_option maxRecDepth 100000 in
set_option maxHeartbeats 4000000 in
theorem s_X11_enteredBy_b50 {X : GX} (hX : XOK X) {h0 : AH} : ∀ (n : Nat) (x0 : Option Nat) (x1 : Option Nat) (x2 : Int32) (x3 : Int32) (x4 : Int32) (x5 : Int32) (x6 : Int32) (x7 : Int32) (h : AH), Gp (p_X11_enteredBy X h0) RX11 "enteredBy" cX11_enteredBy (some .int) 50 [(0, vR x0), (1, vR x1), (2, vI x2), (3, vI x3), (4, vI x4), (5, vI x5), (6, vI x6), (7, vI x7)] [] h (f_X11_enteredBy_b50 n x0 x1 x2 x3 x4 x5 x6 x7 h) := by
  intro n
  induction n with
  | zero => intro x0 x1 x2 x3 x4 x5 x6 x7 h; exact g_none
  | succ n ih =>
    intro x0 x1 x2 x3 x4 x5 x6 x7 h
    rw [f_X11_enteredBy_b50]
    refine g_iload 7 dX11_enteredBy_50 rfl ?_
    refine g_aload_n 1 dX11_enteredBy_52 rfl rfl ?_
    refine g_callVI (st := [vI x7]) (ci := 7) rfl (s_X7_size hX x1 h) kml_X11_74 kim_X7_size kse_X7_size kii_X7 kcd_X7_size rfl ds_X7_size rfl ⟨Nat.le_of_ble_eq_true rfl, Nat.le_of_ble_eq_true rfl⟩ (Nat.le_of_ble_eq_true rfl) rfl dX11_enteredBy_53 (fun r12 h11 => ?_)
    refine g_icmpge (tgt := 155) dX11_enteredBy_56 (by decide) ?_ ?_
    · refine g_iload_n 3 dX11_enteredBy_155 rfl rfl ?_
      refine g_ifne (tgt := 171) dX11_enteredBy_156 (by decide) ?_ ?_
      · refine g_iload 4 dX11_enteredBy_171 rfl ?_
        refine g_iload 5 dX11_enteredBy_173 rfl ?_
        refine g_icmple (tgt := 181) dX11_enteredBy_175 (by decide) ?_ ?_
        · refine g_iload_n 3 dX11_enteredBy_181 rfl rfl ?_
          refine g_iconst (v := 1) dX11_enteredBy_182 (by decide) ?_
          refine g_icmpne (tgt := 191) dX11_enteredBy_183 (by decide) ?_ ?_
          · refine g_iload 5 dX11_enteredBy_191 rfl ?_
            exact g_ireturn rfl dX11_enteredBy_193
          · refine g_iload 4 dX11_enteredBy_186 rfl ?_
            refine g_goto (tgt := 193) dX11_enteredBy_188 (by decide) ?_
            exact g_ireturn rfl dX11_enteredBy_193
        · refine g_bipush (v := (-4)) dX11_enteredBy_178 (by decide) ?_
          exact g_ireturn rfl dX11_enteredBy_180
      · refine g_iconst (v := 0) dX11_enteredBy_159 (by decide) ?_
        refine g_iload 5 dX11_enteredBy_160 rfl ?_
        refine g_iload 4 dX11_enteredBy_162 rfl ?_
        refine g_isub dX11_enteredBy_164 ?_
        refine g_iconst (v := 1) dX11_enteredBy_165 (by decide) ?_
        refine g_iadd dX11_enteredBy_166 ?_
        refine g_mmax kml_X11_229 kst_mmax kii_Math kcd_mmax ⟨Nat.le_of_ble_eq_true rfl, Nat.le_of_ble_eq_true rfl⟩ (Nat.le_of_ble_eq_true rfl) dX11_enteredBy_167 ?_
        exact g_ireturn rfl dX11_enteredBy_170
    · refine g_aload_n 1 dX11_enteredBy_59 rfl rfl ?_
      refine g_iload 7 dX11_enteredBy_60 rfl ?_
      refine g_callVI (st := []) (ci := 7) rfl (s_X7_isSkipped hX x1 x7 h11) kml_X11_290 kim_X7_isSkipped kse_X7_isSkipped kii_X7 kcd_X7_isSkipped rfl ds_X7_isSkipped rfl ⟨Nat.le_of_ble_eq_true rfl, Nat.le_of_ble_eq_true rfl⟩ (Nat.le_of_ble_eq_true rfl) rfl dX11_enteredBy_62 (fun r16 h15 => ?_)
      refine g_ifne (tgt := 114) dX11_enteredBy_65 (by decide) ?_ ?_
      · exact g_sub2 [0, 1, 2, 3, 4, 5, 6, 7] rfl (s_X11_enteredBy_b114 hX (f_X11_enteredBy_b50 n) (fun z0 z1 z2 z3 z4 z5 z6 z7 z8 => ih z0 z1 z2 z3 z4 z5 z6 z7 z8) x0 x1 x2 x3 x4 x5 x6 x7 h15)
      · refine g_aload_n 1 dX11_enteredBy_68 rfl rfl ?_
        refine g_iload 7 dX11_enteredBy_69 rfl ?_
        refine g_callVI (st := []) (ci := 7) rfl (s_X7_at hX x1 x7 h15) kml_X11_293 kim_X7_at kse_X7_at kii_X7 kcd_X7_at rfl ds_X7_at rfl ⟨Nat.le_of_ble_eq_true rfl, Nat.le_of_ble_eq_true rfl⟩ (Nat.le_of_ble_eq_true rfl) rfl dX11_enteredBy_71 (fun r30 h29 => ?_)
        refine g_ifne (tgt := 91) dX11_enteredBy_74 (by decide) ?_ ?_
        · refine g_iload 5 dX11_enteredBy_91 rfl ?_
          refine g_aload_n 1 dX11_enteredBy_93 rfl rfl ?_
          refine g_iload 7 dX11_enteredBy_94 rfl ?_
          refine g_callVI (st := [vI x5]) (ci := 7) rfl (s_X7_at hX x1 x7 h29) kml_X11_293 kim_X7_at kse_X7_at kii_X7 kcd_X7_at rfl ds_X7_at rfl ⟨Nat.le_of_ble_eq_true rfl, Nat.le_of_ble_eq_true rfl⟩ (Nat.le_of_ble_eq_true rfl) rfl dX11_enteredBy_96 (fun r32 h31 => ?_)
          refine g_iconst (v := 1) dX11_enteredBy_99 (by decide) ?_
          refine g_icmpne (tgt := 108) dX11_enteredBy_100 (by decide) ?_ ?_
          · refine g_iconst (v := (-1)) dX11_enteredBy_108 (by decide) ?_
            exact g_sub2 [0, 1, 2, 3, 4, 6, 7] rfl (s_X11_enteredBy_b109 hX (f_X11_enteredBy_b50 n) (fun z0 z1 z2 z3 z4 z5 z6 z7 z8 => ih z0 z1 z2 z3 z4 z5 z6 z7 z8) x0 x1 x2 x3 x4 x6 x7 (-1) x5 h31)
          · refine g_iload 6 dX11_enteredBy_103 rfl ?_
            refine g_goto (tgt := 109) dX11_enteredBy_105 (by decide) ?_
            exact g_sub2 [0, 1, 2, 3, 4, 6, 7] rfl (s_X11_enteredBy_b109 hX (f_X11_enteredBy_b50 n) (fun z0 z1 z2 z3 z4 z5 z6 z7 z8 => ih z0 z1 z2 z3 z4 z5 z6 z7 z8) x0 x1 x2 x3 x4 x6 x7 x6 x5 h31)
        · refine g_iload 4 dX11_enteredBy_77 rfl ?_
          refine g_iload 6 dX11_enteredBy_79 rfl ?_
          refine g_iconst (v := 1) dX11_enteredBy_81 (by decide) ?_
          refine g_iadd dX11_enteredBy_82 ?_
          refine g_mmax kml_X11_229 kst_mmax kii_Math kcd_mmax ⟨Nat.le_of_ble_eq_true rfl, Nat.le_of_ble_eq_true rfl⟩ (Nat.le_of_ble_eq_true rfl) dX11_enteredBy_83 ?_
          refine g_nmI (fun t38 => ?_)
          refine g_istore (ls' := [(4, vI t38), (0, vR x0), (1, vR x1), (2, vI x2), (3, vI x3), (5, vI x5), (6, vI x6), (7, vI x7)]) dX11_enteredBy_86 (Nat.le_of_ble_eq_true rfl) rfl ?_
          refine g_goto (tgt := 114) dX11_enteredBy_88 (by decide) ?_
          exact g_sub2 [1, 2, 3, 4, 0, 5, 6, 7] rfl (s_X11_enteredBy_b114 hX (f_X11_enteredBy_b50 n) (fun z0 z1 z2 z3 z4 z5 z6 z7 z8 => ih z0 z1 z2 z3 z4 z5 z6 z7 z8) x0 x1 x2 x3 t38 x5 x6 x7 h29)
def f_X11_enteredBy_b24 (x0 : Option Nat) (x1 : Option Nat) (x2 : Int32) (x3 : Int32) (x4 : Int32) (x5 : Int32) (y0 : Int32) (h : AH) : Option (Int32 × AH) :=
    (gR h x0 [11] 1).bind fun t4 =>
    (gR h x0 [11] 0).bind fun t5 =>
    bd (cv h t4 5 (f_X5_becomes t4 t5 h)) fun u7 h6 =>
    (gR h6 x0 [11] 1).bind fun t8 =>
    (gR h6 t8 [5] 2).bind fun t9 =>
    (iS h6 t9 x2 0).bind fun h10 =>
    f_X11_enteredBy_b50 FU x0 x1 x2 x3 x4 x5 y0 0 h10
set_option maxRecDepth 100000 in
set_option maxHeartbeats 4000000 in
theorem s_X11_enteredBy_b24 {X : GX} (hX : XOK X) {h0 : AH} : ∀ (x0 : Option Nat) (x1 : Option Nat) (x2 : Int32) (x3 : Int32) (x4 : Int32) (x5 : Int32) (y0 : Int32) (h : AH), Gp (p_X11_enteredBy X h0) RX11 "enteredBy" cX11_enteredBy (some .int) 24 [(0, vR x0), (1, vR x1), (2, vI x2), (3, vI x3), (4, vI x4), (5, vI x5)] [vI y0] h (f_X11_enteredBy_b24 x0 x1 x2 x3 x4 x5 y0 h) := by
  intro x0 x1 x2 x3 x4 x5 y0 h
  unfold f_X11_enteredBy_b24
  refine g_istore (ls' := [(6, vI y0), (0, vR x0), (1, vR x1), (2, vI x2), (3, vI x3), (4, vI x4), (5, vI x5)]) dX11_enteredBy_24 (Nat.le_of_ble_eq_true rfl) rfl ?_
  refine g_aload_n 1 dX11_enteredBy_26 rfl rfl ?_
  refine g_getR kfl_X11_16 fo_X11_mind dX11_enteredBy_27 (fun t4 => ?_)
  refine g_aload_n 1 dX11_enteredBy_30 rfl rfl ?_
  refine g_getR kfl_X11_10 fo_X11_now dX11_enteredBy_31 (fun t5 => ?_)
  refine g_callVU (st := []) (ci := 5) rfl (s_X5_becomes hX t4 t5 h) kml_X11_70 kim_X5_becomes kse_X5_becomes kii_X5 kcd_X5_becomes rfl ds_X5_becomes rfl ⟨Nat.le_of_ble_eq_true rfl, Nat.le_of_ble_eq_true rfl⟩ (Nat.le_of_ble_eq_true rfl) rfl dX11_enteredBy_34 (fun u7 h6 => ?_)
  refine g_aload_n 1 dX11_enteredBy_37 rfl rfl ?_
  refine g_getR kfl_X11_16 fo_X11_mind dX11_enteredBy_38 (fun t8 => ?_)
  refine g_getR kfl_X11_98 fo_X5_entered dX11_enteredBy_41 (fun t9 => ?_)
  refine g_iload_n 3 dX11_enteredBy_44 rfl rfl ?_
  refine g_iconst (v := 0) dX11_enteredBy_45 (by decide) ?_
  refine g_iastore dX11_enteredBy_46 (fun h10 => ?_)
  refine g_iconst (v := 0) dX11_enteredBy_47 (by decide) ?_
  refine g_istore (ls' := [(7, vI 0), (6, vI y0), (0, vR x0), (1, vR x1), (2, vI x2), (3, vI x3), (4, vI x4), (5, vI x5)]) dX11_enteredBy_48 (Nat.le_of_ble_eq_true rfl) rfl ?_
  exact g_sub2 [2, 3, 4, 5, 6, 7, 1, 0] rfl (s_X11_enteredBy_b50 hX FU x0 x1 x2 x3 x4 x5 y0 0 h10)
def f_X11_enteredBy (v0 : Option Nat) (v1 : Option Nat) (v2 : Int32) (v3 : Int32) (h : AH) : Option (Int32 × AH) :=
    (gR h v0 [11] 0).bind fun t1 =>
    bd (cv h t1 5 (f_X5_isIn t1 v2 h)) fun r3 h2 =>
    (if r3 = 0 then
    f_X11_enteredBy_b24 v0 v1 v2 v3 0 120 (-1) h2
    else f_X11_enteredBy_b24 v0 v1 v2 v3 0 120 120 h2)
set_option maxRecDepth 100000 in
set_option maxHeartbeats 4000000 in
theorem s_X11_enteredBy {X : GX} (hX : XOK X) (v0 : Option Nat) (v1 : Option Nat) (v2 : Int32) (v3 : Int32) (h : AH) : Snd X yX11_enteredBy cX11_enteredBy 8 (some .int) 5 108 rI [vR v0, vR v1, vI v2, vI v3] h (f_X11_enteredBy v0 v1 v2 v3 h) := by
  refine snd_of hX (by decide +kernel) (Nat.le_of_ble_eq_true rfl) ?_
  show Gp (p_X11_enteredBy X h) RX11 "enteredBy" cX11_enteredBy (some .int) 0 [(0, vR v0), (1, vR v1), (2, vI v2), (3, vI v3)] [] h _
  unfold f_X11_enteredBy
  refine g_iconst (v := 0) dX11_enteredBy_0 (by decide) ?_
  refine g_istore (ls' := [(4, vI 0), (0, vR v0), (1, vR v1), (2, vI v2), (3, vI v3)]) dX11_enteredBy_1 (Nat.le_of_ble_eq_true rfl) rfl ?_
  refine g_bipush (v := 120) dX11_enteredBy_3 (by decide) ?_
  refine g_istore (ls' := [(5, vI 120), (4, vI 0), (0, vR v0), (1, vR v1), (2, vI v2), (3, vI v3)]) dX11_enteredBy_5 (Nat.le_of_ble_eq_true rfl) rfl ?_
  refine g_aload_n 2 dX11_enteredBy_7 rfl rfl ?_
  refine g_getR kfl_X11_10 fo_X11_now dX11_enteredBy_8 (fun t1 => ?_)
  refine g_iload_n 4 dX11_enteredBy_11 rfl rfl ?_
  refine g_callVI (st := []) (ci := 5) rfl (s_X5_isIn hX t1 v2 h) kml_X11_107 kim_X5_isIn kse_X5_isIn kii_X5 kcd_X5_isIn rfl ds_X5_isIn rfl ⟨Nat.le_of_ble_eq_true rfl, Nat.le_of_ble_eq_true rfl⟩ (Nat.le_of_ble_eq_true rfl) rfl dX11_enteredBy_12 (fun r3 h2 => ?_)
  refine g_ifeq (tgt := 23) dX11_enteredBy_15 (by decide) ?_ ?_
  · refine g_iconst (v := (-1)) dX11_enteredBy_23 (by decide) ?_
    exact g_sub2 [2, 3, 4, 5, 1, 0] rfl (s_X11_enteredBy_b24 hX v0 v1 v2 v3 0 120 (-1) h2)
  · refine g_bipush (v := 120) dX11_enteredBy_18 (by decide) ?_
    refine g_goto (tgt := 24) dX11_enteredBy_20 (by decide) ?_
    exact g_sub2 [2, 3, 4, 5, 1, 0] rfl (s_X11_enteredBy_b24 hX v0 v1 v2 v3 0 120 120 h2)
abbrev p_X11_cameWith (X : GX) (h0 : AH) : PX Int32 := (X, (fun x => Sum.inl (rI x)), (6, 135, 5), h0)
def f_X11_cameWith (v0 : Option Nat) (v1 : Int32) (v2 : Int32) (v3 : Int32) (h : AH) : Option (Int32 × AH) :=
    bd (f_X11_isShelf v1 h) fun r2 h1 =>
    (if r2 = 0 then
    some ((-1), h1)
    else (gR h1 v0 [11] 0).bind fun t3 =>
    bd (cv h1 t3 5 (f_X5_knows t3 v2 h1)) fun r5 h4 =>
    (if r5 = 0 then
    some ((-1), h4)
    else (if v3 < 0 then
    some ((-1), h4)
    else (if v3 ≤ 2 then
    bd (cv h4 v0 11 (f_X11_rowOn v0 v1 h4)) fun r7 h6 =>
    (if r7 = none then
    bd (cv h6 v0 11 (f_X11_whyNoRow v0 v1 h6)) fun r11 h10 =>
    some (r11, h10)
    else bd (cv h6 v0 11 (f_X11_enteredBy v0 r7 v2 v3 h6)) fun r9 h8 =>
    some (r9, h8))
    else some ((-1), h4)))))
set_option maxRecDepth 100000 in
set_option maxHeartbeats 4000000 in
theorem s_X11_cameWith {X : GX} (hX : XOK X) (v0 : Option Nat) (v1 : Int32) (v2 : Int32) (v3 : Int32) (h : AH) : Snd X yX11_cameWith cX11_cameWith 5 (some .int) 6 135 rI [vR v0, vI v1, vI v2, vI v3] h (f_X11_cameWith v0 v1 v2 v3 h) := by
  refine snd_of hX (by decide +kernel) (Nat.le_of_ble_eq_true rfl) ?_
  show Gp (p_X11_cameWith X h) RX11 "cameWith" cX11_cameWith (some .int) 0 [(0, vR v0), (1, vI v1), (2, vI v2), (3, vI v3)] [] h _
  unfold f_X11_cameWith
  refine g_iload_n 1 dX11_cameWith_0 rfl rfl ?_
  refine g_callSI (st := []) (s_X11_isShelf hX v1 h) kml_X11_45 kst_X11_isShelf kii_X11 kcd_X11_isShelf ds_X11_isShelf rfl ⟨Nat.le_of_ble_eq_true rfl, Nat.le_of_ble_eq_true rfl⟩ (Nat.le_of_ble_eq_true rfl) rfl dX11_cameWith_1 (fun r2 h1 => ?_)
  refine g_ifeq (tgt := 27) dX11_cameWith_4 (by decide) ?_ ?_
  · refine g_iconst (v := (-1)) dX11_cameWith_27 (by decide) ?_
    exact g_ireturn rfl dX11_cameWith_28
  · refine g_aload_n 0 dX11_cameWith_7 rfl rfl ?_
    refine g_getR kfl_X11_10 fo_X11_now dX11_cameWith_8 (fun t3 => ?_)
    refine g_iload_n 2 dX11_cameWith_11 rfl rfl ?_
    refine g_callVI (st := []) (ci := 5) rfl (s_X5_knows hX t3 v2 h1) kml_X11_84 kim_X5_knows kse_X5_knows kii_X5 kcd_X5_knows rfl ds_X5_knows rfl ⟨Nat.le_of_ble_eq_true rfl, Nat.le_of_ble_eq_true rfl⟩ (Nat.le_of_ble_eq_true rfl) rfl dX11_cameWith_12 (fun r5 h4 => ?_)
    refine g_ifeq (tgt := 27) dX11_cameWith_15 (by decide) ?_ ?_
    · refine g_iconst (v := (-1)) dX11_cameWith_27 (by decide) ?_
      exact g_ireturn rfl dX11_cameWith_28
    · refine g_iload_n 3 dX11_cameWith_18 rfl rfl ?_
      refine g_iflt (tgt := 27) dX11_cameWith_19 (by decide) ?_ ?_
      · refine g_iconst (v := (-1)) dX11_cameWith_27 (by decide) ?_
        exact g_ireturn rfl dX11_cameWith_28
      · refine g_iload_n 3 dX11_cameWith_22 rfl rfl ?_
        refine g_iconst (v := 2) dX11_cameWith_23 (by decide) ?_
        refine g_icmple (tgt := 29) dX11_cameWith_24 (by decide) ?_ ?_
        · refine g_aload_n 0 dX11_cameWith_29 rfl rfl ?_
          refine g_iload_n 1 dX11_cameWith_30 rfl rfl ?_
          refine g_callVR (st := []) (ci := 11) rfl (s_X11_rowOn hX v0 v1 h4) kml_X11_49 kim_X11_rowOn kse_X11_rowOn kii_X11 kcd_X11_rowOn rfl ds_X11_rowOn rfl ⟨Nat.le_of_ble_eq_true rfl, Nat.le_of_ble_eq_true rfl⟩ (Nat.le_of_ble_eq_true rfl) rfl dX11_cameWith_31 (fun r7 h6 => ?_)
          refine g_astore (ls' := [(4, vR r7), (0, vR v0), (1, vI v1), (2, vI v2), (3, vI v3)]) dX11_cameWith_34 (Nat.le_of_ble_eq_true rfl) rfl ?_
          refine g_aload 0 dX11_cameWith_36 rfl ?_
          refine g_ifnonnull (tgt := 47) dX11_cameWith_38 (by decide) ?_ ?_
          · refine g_aload_n 1 dX11_cameWith_47 rfl rfl ?_
            refine g_aload 0 dX11_cameWith_48 rfl ?_
            refine g_iload_n 3 dX11_cameWith_50 rfl rfl ?_
            refine g_iload_n 4 dX11_cameWith_51 rfl rfl ?_
            refine g_callVI (st := []) (ci := 11) rfl (s_X11_enteredBy hX v0 r7 v2 v3 h6) kml_X11_254 kim_X11_enteredBy kse_X11_enteredBy kii_X11 kcd_X11_enteredBy rfl ds_X11_enteredBy rfl ⟨Nat.le_of_ble_eq_true rfl, Nat.le_of_ble_eq_true rfl⟩ (Nat.le_of_ble_eq_true rfl) rfl dX11_cameWith_52 (fun r9 h8 => ?_)
            exact g_ireturn rfl dX11_cameWith_55
          · refine g_aload_n 1 dX11_cameWith_41 rfl rfl ?_
            refine g_iload_n 2 dX11_cameWith_42 rfl rfl ?_
            refine g_callVI (st := []) (ci := 11) rfl (s_X11_whyNoRow hX v0 v1 h6) kml_X11_53 kim_X11_whyNoRow kse_X11_whyNoRow kii_X11 kcd_X11_whyNoRow rfl ds_X11_whyNoRow rfl ⟨Nat.le_of_ble_eq_true rfl, Nat.le_of_ble_eq_true rfl⟩ (Nat.le_of_ble_eq_true rfl) rfl dX11_cameWith_43 (fun r11 h10 => ?_)
            exact g_ireturn rfl dX11_cameWith_46
        · refine g_iconst (v := (-1)) dX11_cameWith_27 (by decide) ?_
          exact g_ireturn rfl dX11_cameWith_28
abbrev p_X11_canPair (X : GX) (h0 : AH) : PX Int32 := (X, (fun x => Sum.inl (rI x)), (0, 0, 4), h0)
def f_X11_canPair (v0 : Option Nat) (v1 : Int32) (v2 : Int32) (v3 : Int32) (h : AH) : Option (Int32 × AH) :=
    (if ((v3 >>> (v2 &&& 31)) &&& 1) = 1 then
    (gR h v0 [11] 6).bind fun t1 =>
    (iA h t1 ((v1 * 7) + v2)).bind fun t2 =>
    (if t2 < 0 then
    some (0, h)
    else some (1, h))
    else some (0, h))
set_option maxRecDepth 100000 in
set_option maxHeartbeats 4000000 in
theorem s_X11_canPair {X : GX} (hX : XOK X) (v0 : Option Nat) (v1 : Int32) (v2 : Int32) (v3 : Int32) (h : AH) : Snd X yX11_canPair cX11_canPair 4 (some .boolean) 0 0 rI [vR v0, vI v1, vI v2, vI v3] h (f_X11_canPair v0 v1 v2 v3 h) := by
  refine snd_of hX (by decide +kernel) (Nat.le_of_ble_eq_true rfl) ?_
  show Gp (p_X11_canPair X h) RX11 "canPair" cX11_canPair (some .boolean) 0 [(0, vR v0), (1, vI v1), (2, vI v2), (3, vI v3)] [] h _
  unfold f_X11_canPair
  refine g_iload_n 3 dX11_canPair_0 rfl rfl ?_
  refine g_iload_n 2 dX11_canPair_1 rfl rfl ?_
  refine g_ishr dX11_canPair_2 ?_
  refine g_iconst (v := 1) dX11_canPair_3 (by decide) ?_
  refine g_iand dX11_canPair_4 ?_
  refine g_iconst (v := 1) dX11_canPair_5 (by decide) ?_
  refine g_icmpne (tgt := 27) dX11_canPair_6 (by decide) ?_ ?_
  · refine g_iconst (v := 0) dX11_canPair_27 (by decide) ?_
    exact g_zreturn (by decide +kernel) rfl dX11_canPair_28
  · refine g_aload_n 0 dX11_canPair_9 rfl rfl ?_
    refine g_getR kfl_X11_38 fo_X11_pairGone dX11_canPair_10 (fun t1 => ?_)
    refine g_iload_n 1 dX11_canPair_13 rfl rfl ?_
    refine g_bipush (v := 7) dX11_canPair_14 (by decide) ?_
    refine g_imul dX11_canPair_16 ?_
    refine g_iload_n 2 dX11_canPair_17 rfl rfl ?_
    refine g_iadd dX11_canPair_18 ?_
    refine g_iaload dX11_canPair_19 (fun t2 => ?_)
    refine g_iflt (tgt := 27) dX11_canPair_20 (by decide) ?_ ?_
    · refine g_iconst (v := 0) dX11_canPair_27 (by decide) ?_
      exact g_zreturn (by decide +kernel) rfl dX11_canPair_28
    · refine g_iconst (v := 1) dX11_canPair_23 (by decide) ?_
      refine g_goto (tgt := 28) dX11_canPair_24 (by decide) ?_
      exact g_zreturn (by decide +kernel) rfl dX11_canPair_28
abbrev p_X11_isWeight (X : GX) (h0 : AH) : PX Int32 := (X, (fun x => Sum.inl (rI x)), (0, 0, 1), h0)
def f_X11_isWeight (v0 : Int32) (h : AH) : Option (Int32 × AH) :=
    (if v0 < 0 then
    some (0, h)
    else (if 99 < v0 then
    some (0, h)
    else some (1, h)))
set_option maxRecDepth 100000 in
set_option maxHeartbeats 4000000 in
theorem s_X11_isWeight {X : GX} (hX : XOK X) (v0 : Int32) (h : AH) : Snd X yX11_isWeight cX11_isWeight 1 (some .boolean) 0 0 rI [vI v0] h (f_X11_isWeight v0 h) := by
  refine snd_of hX (by decide +kernel) (Nat.le_of_ble_eq_true rfl) ?_
  show Gp (p_X11_isWeight X h) RX11 "isWeight" cX11_isWeight (some .boolean) 0 [(0, vI v0)] [] h _
  unfold f_X11_isWeight
  refine g_iload_n 0 dX11_isWeight_0 rfl rfl ?_
  refine g_iflt (tgt := 14) dX11_isWeight_1 (by decide) ?_ ?_
  · refine g_iconst (v := 0) dX11_isWeight_14 (by decide) ?_
    exact g_zreturn (by decide +kernel) rfl dX11_isWeight_15
  · refine g_iload_n 0 dX11_isWeight_4 rfl rfl ?_
    refine g_bipush (v := 99) dX11_isWeight_5 (by decide) ?_
    refine g_icmpgt (tgt := 14) dX11_isWeight_7 (by decide) ?_ ?_
    · refine g_iconst (v := 0) dX11_isWeight_14 (by decide) ?_
      exact g_zreturn (by decide +kernel) rfl dX11_isWeight_15
    · refine g_iconst (v := 1) dX11_isWeight_10 (by decide) ?_
      refine g_goto (tgt := 15) dX11_isWeight_11 (by decide) ?_
      exact g_zreturn (by decide +kernel) rfl dX11_isWeight_15
abbrev p_X11_whyNoKind (X : GX) (h0 : AH) : PX Int32 := (X, (fun x => Sum.inl (rI x)), (2, 41, 2), h0)
def f_X11_whyNoKind (v0 : Option Nat) (v1 : Int32) (h : AH) : Option (Int32 × AH) :=
    bd (f_X11_isShelf v1 h) fun r2 h1 =>
    (if r2 = 0 then
    some ((-1), h1)
    else bd (cv h1 v0 11 (f_X11_rowOn v0 v1 h1)) fun r4 h3 =>
    (if r4 = none then
    some ((-11), h3)
    else some ((-12), h3)))
set_option maxRecDepth 100000 in
set_option maxHeartbeats 4000000 in
theorem s_X11_whyNoKind {X : GX} (hX : XOK X) (v0 : Option Nat) (v1 : Int32) (h : AH) : Snd X yX11_whyNoKind cX11_whyNoKind 2 (some .int) 2 41 rI [vR v0, vI v1] h (f_X11_whyNoKind v0 v1 h) := by
  refine snd_of hX (by decide +kernel) (Nat.le_of_ble_eq_true rfl) ?_
  show Gp (p_X11_whyNoKind X h) RX11 "whyNoKind" cX11_whyNoKind (some .int) 0 [(0, vR v0), (1, vI v1)] [] h _
  unfold f_X11_whyNoKind
  refine g_iload_n 1 dX11_whyNoKind_0 rfl rfl ?_
  refine g_callSI (st := []) (s_X11_isShelf hX v1 h) kml_X11_45 kst_X11_isShelf kii_X11 kcd_X11_isShelf ds_X11_isShelf rfl ⟨Nat.le_of_ble_eq_true rfl, Nat.le_of_ble_eq_true rfl⟩ (Nat.le_of_ble_eq_true rfl) rfl dX11_whyNoKind_1 (fun r2 h1 => ?_)
  refine g_ifne (tgt := 9) dX11_whyNoKind_4 (by decide) ?_ ?_
  · refine g_aload_n 0 dX11_whyNoKind_9 rfl rfl ?_
    refine g_iload_n 1 dX11_whyNoKind_10 rfl rfl ?_
    refine g_callVR (st := []) (ci := 11) rfl (s_X11_rowOn hX v0 v1 h1) kml_X11_49 kim_X11_rowOn kse_X11_rowOn kii_X11 kcd_X11_rowOn rfl ds_X11_rowOn rfl ⟨Nat.le_of_ble_eq_true rfl, Nat.le_of_ble_eq_true rfl⟩ (Nat.le_of_ble_eq_true rfl) rfl dX11_whyNoKind_11 (fun r4 h3 => ?_)
    refine g_ifnonnull (tgt := 22) dX11_whyNoKind_14 (by decide) ?_ ?_
    · refine g_bipush (v := (-12)) dX11_whyNoKind_22 (by decide) ?_
      exact g_ireturn rfl dX11_whyNoKind_24
    · refine g_bipush (v := (-11)) dX11_whyNoKind_17 (by decide) ?_
      refine g_goto (tgt := 24) dX11_whyNoKind_19 (by decide) ?_
      exact g_ireturn rfl dX11_whyNoKind_24
  · refine g_iconst (v := (-1)) dX11_whyNoKind_7 (by decide) ?_
    exact g_ireturn rfl dX11_whyNoKind_8
abbrev p_X11_comes (X : GX) (h0 : AH) : PX Int32 := (X, (fun x => Sum.inl (rI x)), (3, 62, 4), h0)
def f_X11_comes (v0 : Option Nat) (v1 : Int32) (v2 : Int32) (h : AH) : Option (Int32 × AH) :=
    bd (f_X11_isShelf v1 h) fun r2 h1 =>
    (if r2 = 0 then
    some ((-1), h1)
    else bd (f_X11_isWeight v2 h1) fun r4 h3 =>
    (if r4 = 0 then
    some ((-1), h3)
    else bd (cv h3 v0 11 (f_X11_kindOn v0 v1 h3)) fun r6 h5 =>
    (if r6 = none then
    bd (cv h5 v0 11 (f_X11_whyNoKind v0 v1 h5)) fun r16 h15 =>
    some (r16, h15)
    else (gR h5 v0 [11] 0).bind fun t7 =>
    bd (cv h5 t7 5 (f_X5_isFull t7 h5)) fun r9 h8 =>
    (if r9 = 0 then
    (gR h8 v0 [11] 0).bind fun t10 =>
    bd (cv h8 t10 5 (f_X5_takeIn t10 r6 v2 h8)) fun u12 h11 =>
    (gR h11 v0 [11] 0).bind fun t13 =>
    (gI h11 t13 [5] 5).bind fun t14 =>
    some ((t14 - 1), h11)
    else some ((-2), h8)))))
set_option maxRecDepth 100000 in
set_option maxHeartbeats 4000000 in
theorem s_X11_comes {X : GX} (hX : XOK X) (v0 : Option Nat) (v1 : Int32) (v2 : Int32) (h : AH) : Snd X yX11_comes cX11_comes 4 (some .int) 3 62 rI [vR v0, vI v1, vI v2] h (f_X11_comes v0 v1 v2 h) := by
  refine snd_of hX (by decide +kernel) (Nat.le_of_ble_eq_true rfl) ?_
  show Gp (p_X11_comes X h) RX11 "comes" cX11_comes (some .int) 0 [(0, vR v0), (1, vI v1), (2, vI v2)] [] h _
  unfold f_X11_comes
  refine g_iload_n 1 dX11_comes_0 rfl rfl ?_
  refine g_callSI (st := []) (s_X11_isShelf hX v1 h) kml_X11_45 kst_X11_isShelf kii_X11 kcd_X11_isShelf ds_X11_isShelf rfl ⟨Nat.le_of_ble_eq_true rfl, Nat.le_of_ble_eq_true rfl⟩ (Nat.le_of_ble_eq_true rfl) rfl dX11_comes_1 (fun r2 h1 => ?_)
  refine g_ifeq (tgt := 14) dX11_comes_4 (by decide) ?_ ?_
  · refine g_iconst (v := (-1)) dX11_comes_14 (by decide) ?_
    exact g_ireturn rfl dX11_comes_15
  · refine g_iload_n 2 dX11_comes_7 rfl rfl ?_
    refine g_callSI (st := []) (s_X11_isWeight hX v2 h1) kml_X11_116 kst_X11_isWeight kii_X11 kcd_X11_isWeight ds_X11_isWeight rfl ⟨Nat.le_of_ble_eq_true rfl, Nat.le_of_ble_eq_true rfl⟩ (Nat.le_of_ble_eq_true rfl) rfl dX11_comes_8 (fun r4 h3 => ?_)
    refine g_ifne (tgt := 16) dX11_comes_11 (by decide) ?_ ?_
    · refine g_aload_n 0 dX11_comes_16 rfl rfl ?_
      refine g_iload_n 1 dX11_comes_17 rfl rfl ?_
      refine g_callVR (st := []) (ci := 11) rfl (s_X11_kindOn hX v0 v1 h3) kml_X11_119 kim_X11_kindOn kse_X11_kindOn kii_X11 kcd_X11_kindOn rfl ds_X11_kindOn rfl ⟨Nat.le_of_ble_eq_true rfl, Nat.le_of_ble_eq_true rfl⟩ (Nat.le_of_ble_eq_true rfl) rfl dX11_comes_18 (fun r6 h5 => ?_)
      refine g_astore_n (ls' := [(3, vR r6), (0, vR v0), (1, vI v1), (2, vI v2)]) dX11_comes_21 rfl (Nat.le_of_ble_eq_true rfl) rfl ?_
      refine g_aload_n 0 dX11_comes_22 rfl rfl ?_
      refine g_ifnonnull (tgt := 32) dX11_comes_23 (by decide) ?_ ?_
      · refine g_aload_n 1 dX11_comes_32 rfl rfl ?_
        refine g_getR kfl_X11_10 fo_X11_now dX11_comes_33 (fun t7 => ?_)
        refine g_callVI (st := []) (ci := 5) rfl (s_X5_isFull hX t7 h5) kml_X11_126 kim_X5_isFull kse_X5_isFull kii_X5 kcd_X5_isFull rfl ds_X5_isFull rfl ⟨Nat.le_of_ble_eq_true rfl, Nat.le_of_ble_eq_true rfl⟩ (Nat.le_of_ble_eq_true rfl) rfl dX11_comes_36 (fun r9 h8 => ?_)
        refine g_ifeq (tgt := 45) dX11_comes_39 (by decide) ?_ ?_
        · refine g_aload_n 1 dX11_comes_45 rfl rfl ?_
          refine g_getR kfl_X11_10 fo_X11_now dX11_comes_46 (fun t10 => ?_)
          refine g_aload_n 0 dX11_comes_49 rfl rfl ?_
          refine g_iload_n 3 dX11_comes_50 rfl rfl ?_
          refine g_callVU (st := []) (ci := 5) rfl (s_X5_takeIn hX t10 r6 v2 h8) kml_X11_130 kim_X5_takeIn kse_X5_takeIn kii_X5 kcd_X5_takeIn rfl ds_X5_takeIn rfl ⟨Nat.le_of_ble_eq_true rfl, Nat.le_of_ble_eq_true rfl⟩ (Nat.le_of_ble_eq_true rfl) rfl dX11_comes_51 (fun u12 h11 => ?_)
          refine g_aload_n 1 dX11_comes_54 rfl rfl ?_
          refine g_getR kfl_X11_10 fo_X11_now dX11_comes_55 (fun t13 => ?_)
          refine g_getI kfl_X11_134 fo_X5_guests dX11_comes_58 (fun t14 => ?_)
          refine g_iconst (v := 1) dX11_comes_61 (by decide) ?_
          refine g_isub dX11_comes_62 ?_
          exact g_ireturn rfl dX11_comes_63
        · refine g_bipush (v := (-2)) dX11_comes_42 (by decide) ?_
          exact g_ireturn rfl dX11_comes_44
      · refine g_aload_n 1 dX11_comes_26 rfl rfl ?_
        refine g_iload_n 2 dX11_comes_27 rfl rfl ?_
        refine g_callVI (st := []) (ci := 11) rfl (s_X11_whyNoKind hX v0 v1 h5) kml_X11_123 kim_X11_whyNoKind kse_X11_whyNoKind kii_X11 kcd_X11_whyNoKind rfl ds_X11_whyNoKind rfl ⟨Nat.le_of_ble_eq_true rfl, Nat.le_of_ble_eq_true rfl⟩ (Nat.le_of_ble_eq_true rfl) rfl dX11_comes_28 (fun r16 h15 => ?_)
        exact g_ireturn rfl dX11_comes_31
    · refine g_iconst (v := (-1)) dX11_comes_14 (by decide) ?_
      exact g_ireturn rfl dX11_comes_15
abbrev p_X11_holdsNothing (X : GX) (h0 : AH) : PX Int32 := (X, (fun x => Sum.inl (rI x)), (2, 41, 2), h0)
def f_X11_holdsNothing (v0 : Option Nat) (v1 : Int32) (h : AH) : Option (Int32 × AH) :=
    bd (cv h v0 11 (f_X11_kindOn v0 v1 h)) fun r2 h1 =>
    (if r2 = none then
    bd (cv h1 v0 11 (f_X11_rowOn v0 v1 h1)) fun r4 h3 =>
    (if r4 = none then
    some (1, h3)
    else some (0, h3))
    else some (0, h1))
set_option maxRecDepth 100000 in
set_option maxHeartbeats 4000000 in
theorem s_X11_holdsNothing {X : GX} (hX : XOK X) (v0 : Option Nat) (v1 : Int32) (h : AH) : Snd X yX11_holdsNothing cX11_holdsNothing 2 (some .boolean) 2 41 rI [vR v0, vI v1] h (f_X11_holdsNothing v0 v1 h) := by
  refine snd_of hX (by decide +kernel) (Nat.le_of_ble_eq_true rfl) ?_
  show Gp (p_X11_holdsNothing X h) RX11 "holdsNothing" cX11_holdsNothing (some .boolean) 0 [(0, vR v0), (1, vI v1)] [] h _
  unfold f_X11_holdsNothing
  refine g_aload_n 0 dX11_holdsNothing_0 rfl rfl ?_
  refine g_iload_n 1 dX11_holdsNothing_1 rfl rfl ?_
  refine g_callVR (st := []) (ci := 11) rfl (s_X11_kindOn hX v0 v1 h) kml_X11_119 kim_X11_kindOn kse_X11_kindOn kii_X11 kcd_X11_kindOn rfl ds_X11_kindOn rfl ⟨Nat.le_of_ble_eq_true rfl, Nat.le_of_ble_eq_true rfl⟩ (Nat.le_of_ble_eq_true rfl) rfl dX11_holdsNothing_2 (fun r2 h1 => ?_)
  refine g_ifnonnull (tgt := 20) dX11_holdsNothing_5 (by decide) ?_ ?_
  · refine g_iconst (v := 0) dX11_holdsNothing_20 (by decide) ?_
    exact g_zreturn (by decide +kernel) rfl dX11_holdsNothing_21
  · refine g_aload_n 0 dX11_holdsNothing_8 rfl rfl ?_
    refine g_iload_n 1 dX11_holdsNothing_9 rfl rfl ?_
    refine g_callVR (st := []) (ci := 11) rfl (s_X11_rowOn hX v0 v1 h1) kml_X11_49 kim_X11_rowOn kse_X11_rowOn kii_X11 kcd_X11_rowOn rfl ds_X11_rowOn rfl ⟨Nat.le_of_ble_eq_true rfl, Nat.le_of_ble_eq_true rfl⟩ (Nat.le_of_ble_eq_true rfl) rfl dX11_holdsNothing_10 (fun r4 h3 => ?_)
    refine g_ifnonnull (tgt := 20) dX11_holdsNothing_13 (by decide) ?_ ?_
    · refine g_iconst (v := 0) dX11_holdsNothing_20 (by decide) ?_
      exact g_zreturn (by decide +kernel) rfl dX11_holdsNothing_21
    · refine g_iconst (v := 1) dX11_holdsNothing_16 (by decide) ?_
      refine g_goto (tgt := 21) dX11_holdsNothing_17 (by decide) ?_
      exact g_zreturn (by decide +kernel) rfl dX11_holdsNothing_21
abbrev p_X7_hasPart (X : GX) (h0 : AH) : PX Int32 := (X, (fun x => Sum.inl (rI x)), (0, 0, 3), h0)
def f_X7_hasPart (v0 : Option Nat) (v1 : Int32) (v2 : Int32) (h : AH) : Option (Int32 × AH) :=
    (if v1 < 0 then
    some (0, h)
    else (if v2 < 0 then
    some (0, h)
    else (gR h v0 [7] 1).bind fun t1 =>
    (lenI h t1).bind fun t2 =>
    (if t2 < v2 then
    some (0, h)
    else (gR h v0 [7] 1).bind fun t3 =>
    (lenI h t3).bind fun t4 =>
    (if (t4 - v2) < v1 then
    some (0, h)
    else some (1, h)))))
set_option maxRecDepth 100000 in
set_option maxHeartbeats 4000000 in
theorem s_X7_hasPart {X : GX} (hX : XOK X) (v0 : Option Nat) (v1 : Int32) (v2 : Int32) (h : AH) : Snd X yX7_hasPart cX7_hasPart 3 (some .boolean) 0 0 rI [vR v0, vI v1, vI v2] h (f_X7_hasPart v0 v1 v2 h) := by
  refine snd_of hX (by decide +kernel) (Nat.le_of_ble_eq_true rfl) ?_
  show Gp (p_X7_hasPart X h) RX7 "hasPart" cX7_hasPart (some .boolean) 0 [(0, vR v0), (1, vI v1), (2, vI v2)] [] h _
  unfold f_X7_hasPart
  refine g_iload_n 1 dX7_hasPart_0 rfl rfl ?_
  refine g_iflt (tgt := 32) dX7_hasPart_1 (by decide) ?_ ?_
  · refine g_iconst (v := 0) dX7_hasPart_32 (by decide) ?_
    exact g_zreturn (by decide +kernel) rfl dX7_hasPart_33
  · refine g_iload_n 2 dX7_hasPart_4 rfl rfl ?_
    refine g_iflt (tgt := 32) dX7_hasPart_5 (by decide) ?_ ?_
    · refine g_iconst (v := 0) dX7_hasPart_32 (by decide) ?_
      exact g_zreturn (by decide +kernel) rfl dX7_hasPart_33
    · refine g_iload_n 2 dX7_hasPart_8 rfl rfl ?_
      refine g_aload_n 0 dX7_hasPart_9 rfl rfl ?_
      refine g_getR kfl_X7_21 fo_X7_elements dX7_hasPart_10 (fun t1 => ?_)
      refine g_alenI dX7_hasPart_13 (fun t2 => ?_)
      refine g_icmpgt (tgt := 32) dX7_hasPart_14 (by decide) ?_ ?_
      · refine g_iconst (v := 0) dX7_hasPart_32 (by decide) ?_
        exact g_zreturn (by decide +kernel) rfl dX7_hasPart_33
      · refine g_iload_n 1 dX7_hasPart_17 rfl rfl ?_
        refine g_aload_n 0 dX7_hasPart_18 rfl rfl ?_
        refine g_getR kfl_X7_21 fo_X7_elements dX7_hasPart_19 (fun t3 => ?_)
        refine g_alenI dX7_hasPart_22 (fun t4 => ?_)
        refine g_iload_n 2 dX7_hasPart_23 rfl rfl ?_
        refine g_isub dX7_hasPart_24 ?_
        refine g_icmpgt (tgt := 32) dX7_hasPart_25 (by decide) ?_ ?_
        · refine g_iconst (v := 0) dX7_hasPart_32 (by decide) ?_
          exact g_zreturn (by decide +kernel) rfl dX7_hasPart_33
        · refine g_iconst (v := 1) dX7_hasPart_28 (by decide) ?_
          refine g_goto (tgt := 33) dX7_hasPart_29 (by decide) ?_
          exact g_zreturn (by decide +kernel) rfl dX7_hasPart_33
abbrev p_X7_take (X : GX) (h0 : AH) : PX Unit := (X, (fun x => Sum.inl (rU x)), (1, 26, 5), h0)
def f_X7_take (v0 : Option Nat) (v1 : Int32) (v2 : Option Nat) (v3 : Int32) (v4 : Int32) (h : AH) : Option (Unit × AH) :=
    bd (cv h v0 7 (f_X7_hasPart v0 v1 v4 h)) fun r2 h1 =>
    (if r2 = 0 then
    some ((), h1)
    else bd (cv h1 v2 7 (f_X7_hasPart v2 v3 v4 h1)) fun r4 h3 =>
    (if r4 = 0 then
    some ((), h3)
    else (gR h3 v2 [7] 1).bind fun t5 =>
    (gR h3 v0 [7] 1).bind fun t6 =>
    (cpI h3 t5 v3 t6 v1 v4).bind fun h7 =>
    some ((), h7)))
set_option maxRecDepth 100000 in
set_option maxHeartbeats 4000000 in
theorem s_X7_take {X : GX} (hX : XOK X) (v0 : Option Nat) (v1 : Int32) (v2 : Option Nat) (v3 : Int32) (v4 : Int32) (h : AH) : Snd X yX7_take cX7_take 5 none 1 26 rU [vR v0, vI v1, vR v2, vI v3, vI v4] h (f_X7_take v0 v1 v2 v3 v4 h) := by
  refine snd_of hX (by decide +kernel) (Nat.le_of_ble_eq_true rfl) ?_
  show Gp (p_X7_take X h) RX7 "take" cX7_take none 0 [(0, vR v0), (1, vI v1), (2, vR v2), (3, vI v3), (4, vI v4)] [] h _
  unfold f_X7_take
  refine g_aload_n 0 dX7_take_0 rfl rfl ?_
  refine g_iload_n 1 dX7_take_1 rfl rfl ?_
  refine g_iload 4 dX7_take_2 rfl ?_
  refine g_callVI (st := []) (ci := 7) rfl (s_X7_hasPart hX v0 v1 v4 h) kml_X7_37 kim_X7_hasPart kse_X7_hasPart kii_X7 kcd_X7_hasPart rfl ds_X7_hasPart rfl ⟨Nat.le_of_ble_eq_true rfl, Nat.le_of_ble_eq_true rfl⟩ (Nat.le_of_ble_eq_true rfl) rfl dX7_take_4 (fun r2 h1 => ?_)
  refine g_ifeq (tgt := 35) dX7_take_7 (by decide) ?_ ?_
  · exact g_return rfl dX7_take_35
  · refine g_aload_n 2 dX7_take_10 rfl rfl ?_
    refine g_iload_n 3 dX7_take_11 rfl rfl ?_
    refine g_iload 4 dX7_take_12 rfl ?_
    refine g_callVI (st := []) (ci := 7) rfl (s_X7_hasPart hX v2 v3 v4 h1) kml_X7_37 kim_X7_hasPart kse_X7_hasPart kii_X7 kcd_X7_hasPart rfl ds_X7_hasPart rfl ⟨Nat.le_of_ble_eq_true rfl, Nat.le_of_ble_eq_true rfl⟩ (Nat.le_of_ble_eq_true rfl) rfl dX7_take_14 (fun r4 h3 => ?_)
    refine g_ifeq (tgt := 35) dX7_take_17 (by decide) ?_ ?_
    · exact g_return rfl dX7_take_35
    · refine g_aload_n 2 dX7_take_20 rfl rfl ?_
      refine g_getR kfl_X7_21 fo_X7_elements dX7_take_21 (fun t5 => ?_)
      refine g_iload_n 3 dX7_take_24 rfl rfl ?_
      refine g_aload_n 0 dX7_take_25 rfl rfl ?_
      refine g_getR kfl_X7_21 fo_X7_elements dX7_take_26 (fun t6 => ?_)
      refine g_iload_n 1 dX7_take_29 rfl rfl ?_
      refine g_iload 4 dX7_take_30 rfl ?_
      refine g_acopy kml_X7_41 kna_copy kst_copy kii_System ⟨Nat.le_of_ble_eq_true rfl, Nat.le_trans nfw (Nat.le_of_ble_eq_true rfl)⟩ (Nat.le_of_ble_eq_true rfl) dX7_take_32 (fun h7 => ?_)
      exact g_return rfl dX7_take_35
abbrev p_X11_copy (X : GX) (h0 : AH) : PX Int32 := (X, (fun x => Sum.inl (rI x)), (3, 62, 8), h0)
def f_X11_copy (v0 : Option Nat) (v1 : Int32) (v2 : Int32) (v3 : Int32) (v4 : Int32) (v5 : Int32) (h : AH) : Option (Int32 × AH) :=
    bd (f_X11_isShelf v1 h) fun r2 h1 =>
    (if r2 = 0 then
    some ((-1), h1)
    else bd (f_X11_isShelf v3 h1) fun r4 h3 =>
    (if r4 = 0 then
    some ((-1), h3)
    else bd (cv h3 v0 11 (f_X11_holdsNothing v0 v1 h3)) fun r6 h5 =>
    (if r6 = 0 then
    bd (cv h5 v0 11 (f_X11_holdsNothing v0 v3 h5)) fun r8 h7 =>
    (if r8 = 0 then
    bd (cv h7 v0 11 (f_X11_rowOn v0 v1 h7)) fun r10 h9 =>
    bd (cv h9 v0 11 (f_X11_rowOn v0 v3 h9)) fun r12 h11 =>
    (if r10 = none then
    some ((-12), h11)
    else (if r12 = none then
    some ((-12), h11)
    else (gI h11 r10 [7] 0).bind fun t13 =>
    (gI h11 r12 [7] 0).bind fun t14 =>
    (if t13 = t14 then
    bd (cv h11 r10 7 (f_X7_hasPart r10 v2 v5 h11)) fun r16 h15 =>
    (if r16 = 0 then
    some ((-13), h15)
    else bd (cv h15 r12 7 (f_X7_hasPart r12 v4 v5 h15)) fun r18 h17 =>
    (if r18 = 0 then
    some ((-13), h17)
    else bd (cv h17 r12 7 (f_X7_take r12 v4 r10 v2 v5 h17)) fun u20 h19 =>
    some (v5, h19)))
    else some ((-12), h11))))
    else some ((-11), h7))
    else some ((-11), h5))))
set_option maxRecDepth 100000 in
set_option maxHeartbeats 4000000 in
theorem s_X11_copy {X : GX} (hX : XOK X) (v0 : Option Nat) (v1 : Int32) (v2 : Int32) (v3 : Int32) (v4 : Int32) (v5 : Int32) (h : AH) : Snd X yX11_copy cX11_copy 8 (some .int) 3 62 rI [vR v0, vI v1, vI v2, vI v3, vI v4, vI v5] h (f_X11_copy v0 v1 v2 v3 v4 v5 h) := by
  refine snd_of hX (by decide +kernel) (Nat.le_of_ble_eq_true rfl) ?_
  show Gp (p_X11_copy X h) RX11 "copy" cX11_copy (some .int) 0 [(0, vR v0), (1, vI v1), (2, vI v2), (3, vI v3), (4, vI v4), (5, vI v5)] [] h _
  unfold f_X11_copy
  refine g_iload_n 1 dX11_copy_0 rfl rfl ?_
  refine g_callSI (st := []) (s_X11_isShelf hX v1 h) kml_X11_45 kst_X11_isShelf kii_X11 kcd_X11_isShelf ds_X11_isShelf rfl ⟨Nat.le_of_ble_eq_true rfl, Nat.le_of_ble_eq_true rfl⟩ (Nat.le_of_ble_eq_true rfl) rfl dX11_copy_1 (fun r2 h1 => ?_)
  refine g_ifeq (tgt := 14) dX11_copy_4 (by decide) ?_ ?_
  · refine g_iconst (v := (-1)) dX11_copy_14 (by decide) ?_
    exact g_ireturn rfl dX11_copy_15
  · refine g_iload_n 3 dX11_copy_7 rfl rfl ?_
    refine g_callSI (st := []) (s_X11_isShelf hX v3 h1) kml_X11_45 kst_X11_isShelf kii_X11 kcd_X11_isShelf ds_X11_isShelf rfl ⟨Nat.le_of_ble_eq_true rfl, Nat.le_of_ble_eq_true rfl⟩ (Nat.le_of_ble_eq_true rfl) rfl dX11_copy_8 (fun r4 h3 => ?_)
    refine g_ifne (tgt := 16) dX11_copy_11 (by decide) ?_ ?_
    · refine g_aload_n 0 dX11_copy_16 rfl rfl ?_
      refine g_iload_n 1 dX11_copy_17 rfl rfl ?_
      refine g_callVI (st := []) (ci := 11) rfl (s_X11_holdsNothing hX v0 v1 h3) kml_X11_340 kim_X11_holdsNothing kse_X11_holdsNothing kii_X11 kcd_X11_holdsNothing rfl ds_X11_holdsNothing rfl ⟨Nat.le_of_ble_eq_true rfl, Nat.le_of_ble_eq_true rfl⟩ (Nat.le_of_ble_eq_true rfl) rfl dX11_copy_18 (fun r6 h5 => ?_)
      refine g_ifne (tgt := 32) dX11_copy_21 (by decide) ?_ ?_
      · refine g_bipush (v := (-11)) dX11_copy_32 (by decide) ?_
        exact g_ireturn rfl dX11_copy_34
      · refine g_aload_n 0 dX11_copy_24 rfl rfl ?_
        refine g_iload_n 3 dX11_copy_25 rfl rfl ?_
        refine g_callVI (st := []) (ci := 11) rfl (s_X11_holdsNothing hX v0 v3 h5) kml_X11_340 kim_X11_holdsNothing kse_X11_holdsNothing kii_X11 kcd_X11_holdsNothing rfl ds_X11_holdsNothing rfl ⟨Nat.le_of_ble_eq_true rfl, Nat.le_of_ble_eq_true rfl⟩ (Nat.le_of_ble_eq_true rfl) rfl dX11_copy_26 (fun r8 h7 => ?_)
        refine g_ifeq (tgt := 35) dX11_copy_29 (by decide) ?_ ?_
        · refine g_aload_n 0 dX11_copy_35 rfl rfl ?_
          refine g_iload_n 1 dX11_copy_36 rfl rfl ?_
          refine g_callVR (st := []) (ci := 11) rfl (s_X11_rowOn hX v0 v1 h7) kml_X11_49 kim_X11_rowOn kse_X11_rowOn kii_X11 kcd_X11_rowOn rfl ds_X11_rowOn rfl ⟨Nat.le_of_ble_eq_true rfl, Nat.le_of_ble_eq_true rfl⟩ (Nat.le_of_ble_eq_true rfl) rfl dX11_copy_37 (fun r10 h9 => ?_)
          refine g_astore (ls' := [(6, vR r10), (0, vR v0), (1, vI v1), (2, vI v2), (3, vI v3), (4, vI v4), (5, vI v5)]) dX11_copy_40 (Nat.le_of_ble_eq_true rfl) rfl ?_
          refine g_aload_n 1 dX11_copy_42 rfl rfl ?_
          refine g_iload_n 4 dX11_copy_43 rfl rfl ?_
          refine g_callVR (st := []) (ci := 11) rfl (s_X11_rowOn hX v0 v3 h9) kml_X11_49 kim_X11_rowOn kse_X11_rowOn kii_X11 kcd_X11_rowOn rfl ds_X11_rowOn rfl ⟨Nat.le_of_ble_eq_true rfl, Nat.le_of_ble_eq_true rfl⟩ (Nat.le_of_ble_eq_true rfl) rfl dX11_copy_44 (fun r12 h11 => ?_)
          refine g_astore (ls' := [(7, vR r12), (6, vR r10), (0, vR v0), (1, vI v1), (2, vI v2), (3, vI v3), (4, vI v4), (5, vI v5)]) dX11_copy_47 (Nat.le_of_ble_eq_true rfl) rfl ?_
          refine g_aload 1 dX11_copy_49 rfl ?_
          refine g_ifnull (tgt := 72) dX11_copy_51 (by decide) ?_ ?_
          · refine g_bipush (v := (-12)) dX11_copy_72 (by decide) ?_
            exact g_ireturn rfl dX11_copy_74
          · refine g_aload 0 dX11_copy_54 rfl ?_
            refine g_ifnull (tgt := 72) dX11_copy_56 (by decide) ?_ ?_
            · refine g_bipush (v := (-12)) dX11_copy_72 (by decide) ?_
              exact g_ireturn rfl dX11_copy_74
            · refine g_aload 1 dX11_copy_59 rfl ?_
              refine g_getI kfl_X11_57 fo_X7_sort dX11_copy_61 (fun t13 => ?_)
              refine g_aload 0 dX11_copy_64 rfl ?_
              refine g_getI kfl_X11_57 fo_X7_sort dX11_copy_66 (fun t14 => ?_)
              refine g_icmpeq (tgt := 75) dX11_copy_69 (by decide) ?_ ?_
              · refine g_aload 1 dX11_copy_75 rfl ?_
                refine g_iload_n 4 dX11_copy_77 rfl rfl ?_
                refine g_iload 7 dX11_copy_78 rfl ?_
                refine g_callVI (st := []) (ci := 7) rfl (s_X7_hasPart hX r10 v2 v5 h11) kml_X11_343 kim_X7_hasPart kse_X7_hasPart kii_X7 kcd_X7_hasPart rfl ds_X7_hasPart rfl ⟨Nat.le_of_ble_eq_true rfl, Nat.le_of_ble_eq_true rfl⟩ (Nat.le_of_ble_eq_true rfl) rfl dX11_copy_80 (fun r16 h15 => ?_)
                refine g_ifeq (tgt := 98) dX11_copy_83 (by decide) ?_ ?_
                · refine g_bipush (v := (-13)) dX11_copy_98 (by decide) ?_
                  exact g_ireturn rfl dX11_copy_100
                · refine g_aload 0 dX11_copy_86 rfl ?_
                  refine g_iload 6 dX11_copy_88 rfl ?_
                  refine g_iload 7 dX11_copy_90 rfl ?_
                  refine g_callVI (st := []) (ci := 7) rfl (s_X7_hasPart hX r12 v4 v5 h15) kml_X11_343 kim_X7_hasPart kse_X7_hasPart kii_X7 kcd_X7_hasPart rfl ds_X7_hasPart rfl ⟨Nat.le_of_ble_eq_true rfl, Nat.le_of_ble_eq_true rfl⟩ (Nat.le_of_ble_eq_true rfl) rfl dX11_copy_92 (fun r18 h17 => ?_)
                  refine g_ifne (tgt := 101) dX11_copy_95 (by decide) ?_ ?_
                  · refine g_aload 0 dX11_copy_101 rfl ?_
                    refine g_iload 6 dX11_copy_103 rfl ?_
                    refine g_aload 1 dX11_copy_105 rfl ?_
                    refine g_iload_n 4 dX11_copy_107 rfl rfl ?_
                    refine g_iload 7 dX11_copy_108 rfl ?_
                    refine g_callVU (st := []) (ci := 7) rfl (s_X7_take hX r12 v4 r10 v2 v5 h17) kml_X11_346 kim_X7_take kse_X7_take kii_X7 kcd_X7_take rfl ds_X7_take rfl ⟨Nat.le_of_ble_eq_true rfl, Nat.le_of_ble_eq_true rfl⟩ (Nat.le_of_ble_eq_true rfl) rfl dX11_copy_110 (fun u20 h19 => ?_)
                    refine g_iload 7 dX11_copy_113 rfl ?_
                    exact g_ireturn rfl dX11_copy_115
                  · refine g_bipush (v := (-13)) dX11_copy_98 (by decide) ?_
                    exact g_ireturn rfl dX11_copy_100
              · refine g_bipush (v := (-12)) dX11_copy_72 (by decide) ?_
                exact g_ireturn rfl dX11_copy_74
        · refine g_bipush (v := (-11)) dX11_copy_32 (by decide) ?_
          exact g_ireturn rfl dX11_copy_34
    · refine g_iconst (v := (-1)) dX11_copy_14 (by decide) ?_
      exact g_ireturn rfl dX11_copy_15
abbrev p_X1_price (X : GX) (h0 : AH) : PX Int32 := (X, (fun x => Sum.inl (rI x)), (2, 40, 1), h0)
def f_X1_price (v0 : Option Nat) (h : AH) : Option (Int32 × AH) :=
    bd (cu h GF v0 (f_X0_price v0 h)) fun r2 h1 =>
    some ((2 * r2), h1)
set_option maxRecDepth 100000 in
set_option maxHeartbeats 4000000 in
theorem s_X1_price {X : GX} (hX : XOK X) (v0 : Option Nat) (h : AH) : Snd X yX1_price cX1_price 1 (some .int) 2 40 rI [vR v0] h (f_X1_price v0 h) := by
  refine snd_of hX (by decide +kernel) (Nat.le_of_ble_eq_true rfl) ?_
  show Gp (p_X1_price X h) RX1 "price" cX1_price (some .int) 0 [(0, vR v0)] [] h _
  unfold f_X1_price
  refine g_iconst (v := 2) dX1_price_0 (by decide) ?_
  refine g_aload_n 0 dX1_price_1 rfl rfl ?_
  refine g_callUI (st := [vI 2]) gfCl (s_X0_price hX v0 h) kml_X1_18 ksm_X0_price ksp_X1_X0 kim_X0_price kii_X0 kcd_X0_price ⟨by decide +kernel, ds_X0_price.2.2⟩ rfl ⟨Nat.le_of_ble_eq_true rfl, Nat.le_of_ble_eq_true rfl⟩ (Nat.le_of_ble_eq_true rfl) rfl dX1_price_2 (fun r2 h1 => ?_)
  refine g_imul dX1_price_5 ?_
  exact g_ireturn rfl dX1_price_6
abbrev p_X2_price (X : GX) (h0 : AH) : PX Int32 := (X, (fun x => Sum.inl (rI x)), (0, 0, 1), h0)
def f_X2_price (v0 : Option Nat) (h : AH) : Option (Int32 × AH) :=
    some (1, h)
set_option maxRecDepth 100000 in
set_option maxHeartbeats 4000000 in
theorem s_X2_price {X : GX} (hX : XOK X) (v0 : Option Nat) (h : AH) : Snd X yX2_price cX2_price 1 (some .int) 0 0 rI [vR v0] h (f_X2_price v0 h) := by
  refine snd_of hX (by decide +kernel) (Nat.le_of_ble_eq_true rfl) ?_
  show Gp (p_X2_price X h) RX2 "price" cX2_price (some .int) 0 [(0, vR v0)] [] h _
  unfold f_X2_price
  refine g_iconst (v := 1) dX2_price_0 (by decide) ?_
  exact g_ireturn rfl dX2_price_1
abbrev p_X3_price (X : GX) (h0 : AH) : PX Int32 := (X, (fun x => Sum.inl (rI x)), (0, 0, 1), h0)
def f_X3_price (v0 : Option Nat) (h : AH) : Option (Int32 × AH) :=
    some (0, h)
set_option maxRecDepth 100000 in
set_option maxHeartbeats 4000000 in
theorem s_X3_price {X : GX} (hX : XOK X) (v0 : Option Nat) (h : AH) : Snd X yX3_price cX3_price 1 (some .int) 0 0 rI [vR v0] h (f_X3_price v0 h) := by
  refine snd_of hX (by decide +kernel) (Nat.le_of_ble_eq_true rfl) ?_
  show Gp (p_X3_price X h) RX3 "price" cX3_price (some .int) 0 [(0, vR v0)] [] h _
  unfold f_X3_price
  refine g_iconst (v := 0) dX3_price_0 (by decide) ?_
  exact g_ireturn rfl dX3_price_1
abbrev p_X6_price (X : GX) (h0 : AH) : PX Int32 := (X, (fun x => Sum.inl (rI x)), (1, 20, 1), h0)
def f_X6_price (v0 : Option Nat) (h : AH) : Option (Int32 × AH) :=
    bd (cu h GF v0 (f_X2_price v0 h)) fun r2 h1 =>
    some ((r2 / 2), h1)
set_option maxRecDepth 100000 in
set_option maxHeartbeats 4000000 in
theorem s_X6_price {X : GX} (hX : XOK X) (v0 : Option Nat) (h : AH) : Snd X yX6_price cX6_price 1 (some .int) 1 20 rI [vR v0] h (f_X6_price v0 h) := by
  refine snd_of hX (by decide +kernel) (Nat.le_of_ble_eq_true rfl) ?_
  show Gp (p_X6_price X h) RX6 "price" cX6_price (some .int) 0 [(0, vR v0)] [] h _
  unfold f_X6_price
  refine g_aload_n 0 dX6_price_0 rfl rfl ?_
  refine g_callUI (st := []) gfCl (s_X2_price hX v0 h) kml_X6_20 ksm_X2_price ksp_X6_X2 kim_X2_price kii_X2 kcd_X2_price ⟨by decide +kernel, ds_X2_price.2.2⟩ rfl ⟨Nat.le_of_ble_eq_true rfl, Nat.le_of_ble_eq_true rfl⟩ (Nat.le_of_ble_eq_true rfl) rfl dX6_price_1 (fun r2 h1 => ?_)
  refine g_iconst (v := 2) dX6_price_4 (by decide) ?_
  refine g_idivK dX6_price_5 (by decide) ?_
  exact g_ireturn rfl dX6_price_6
abbrev p_X8_price (X : GX) (h0 : AH) : PX Int32 := (X, (fun x => Sum.inl (rI x)), (2, 40, 1), h0)
def f_X8_price (v0 : Option Nat) (h : AH) : Option (Int32 × AH) :=
    bd (cu h GF v0 (f_X0_price v0 h)) fun r2 h1 =>
    some ((r2 - 1), h1)
set_option maxRecDepth 100000 in
set_option maxHeartbeats 4000000 in
theorem s_X8_price {X : GX} (hX : XOK X) (v0 : Option Nat) (h : AH) : Snd X yX8_price cX8_price 1 (some .int) 2 40 rI [vR v0] h (f_X8_price v0 h) := by
  refine snd_of hX (by decide +kernel) (Nat.le_of_ble_eq_true rfl) ?_
  show Gp (p_X8_price X h) RX8 "price" cX8_price (some .int) 0 [(0, vR v0)] [] h _
  unfold f_X8_price
  refine g_aload_n 0 dX8_price_0 rfl rfl ?_
  refine g_callUI (st := []) gfCl (s_X0_price hX v0 h) kml_X8_11 ksm_X0_price ksp_X8_X0 kim_X0_price kii_X0 kcd_X0_price ⟨by decide +kernel, ds_X0_price.2.2⟩ rfl ⟨Nat.le_of_ble_eq_true rfl, Nat.le_of_ble_eq_true rfl⟩ (Nat.le_of_ble_eq_true rfl) rfl dX8_price_1 (fun r2 h1 => ?_)
  refine g_iconst (v := 1) dX8_price_4 (by decide) ?_
  refine g_isub dX8_price_5 ?_
  exact g_ireturn rfl dX8_price_6
abbrev p_X9_price (X : GX) (h0 : AH) : PX Int32 := (X, (fun x => Sum.inl (rI x)), (1, 20, 1), h0)
def f_X9_price (v0 : Option Nat) (h : AH) : Option (Int32 × AH) :=
    bd (cu h GF v0 (f_X4_price v0 h)) fun r2 h1 =>
    some ((r2 + 3), h1)
set_option maxRecDepth 100000 in
set_option maxHeartbeats 4000000 in
theorem s_X9_price {X : GX} (hX : XOK X) (v0 : Option Nat) (h : AH) : Snd X yX9_price cX9_price 1 (some .int) 1 20 rI [vR v0] h (f_X9_price v0 h) := by
  refine snd_of hX (by decide +kernel) (Nat.le_of_ble_eq_true rfl) ?_
  show Gp (p_X9_price X h) RX9 "price" cX9_price (some .int) 0 [(0, vR v0)] [] h _
  unfold f_X9_price
  refine g_aload_n 0 dX9_price_0 rfl rfl ?_
  refine g_callUI (st := []) gfCl (s_X4_price hX v0 h) kml_X9_13 ksm_X4_price ksp_X9_X4 kim_X4_price kii_X4 kcd_X4_price ⟨by decide +kernel, ds_X4_price.2.2⟩ rfl ⟨Nat.le_of_ble_eq_true rfl, Nat.le_of_ble_eq_true rfl⟩ (Nat.le_of_ble_eq_true rfl) rfl dX9_price_1 (fun r2 h1 => ?_)
  refine g_iconst (v := 3) dX9_price_4 (by decide) ?_
  refine g_iadd dX9_price_5 ?_
  exact g_ireturn rfl dX9_price_6
def f_dyn_price (v : Option Nat) (h : AH) : Option (Int32 × AH) := dsp h v (fun c => if c = 0 then f_X0_price v h else if c = 1 then f_X1_price v h else if c = 2 then f_X2_price v h else if c = 3 then f_X3_price v h else if c = 4 then f_X4_price v h else if c = 6 then f_X6_price v h else if c = 8 then f_X8_price v h else if c = 9 then f_X9_price v h else none)
theorem dyn_price {X : GX} (hX : XOK X) (v : Option Nat) (h : AH) : Dyn X yX4_price 3 60 rI [vR v] h (f_dyn_price v h) :=
  dyn_intro (fun c => (dynAt_if (dynAt_of (s_X0_price hX v h) rfl kse_X0_X4_price kim_X0_price kii_X0 kcd_X0_price ⟨Nat.le_of_ble_eq_true rfl, Nat.le_of_ble_eq_true rfl⟩) (dynAt_if (dynAt_of (s_X1_price hX v h) rfl kse_X1_X4_price kim_X1_price kii_X1 kcd_X1_price ⟨Nat.le_of_ble_eq_true rfl, Nat.le_of_ble_eq_true rfl⟩) (dynAt_if (dynAt_of (s_X2_price hX v h) rfl kse_X2_X4_price kim_X2_price kii_X2 kcd_X2_price ⟨Nat.le_of_ble_eq_true rfl, Nat.le_of_ble_eq_true rfl⟩) (dynAt_if (dynAt_of (s_X3_price hX v h) rfl kse_X3_X4_price kim_X3_price kii_X3 kcd_X3_price ⟨Nat.le_of_ble_eq_true rfl, Nat.le_of_ble_eq_true rfl⟩) (dynAt_if (dynAt_of (s_X4_price hX v h) rfl kse_X4_X4_price kim_X4_price kii_X4 kcd_X4_price ⟨Nat.le_of_ble_eq_true rfl, Nat.le_of_ble_eq_true rfl⟩) (dynAt_if (dynAt_of (s_X6_price hX v h) rfl kse_X6_X4_price kim_X6_price kii_X6 kcd_X6_price ⟨Nat.le_of_ble_eq_true rfl, Nat.le_of_ble_eq_true rfl⟩) (dynAt_if (dynAt_of (s_X8_price hX v h) rfl kse_X8_X4_price kim_X8_price kii_X8 kcd_X8_price ⟨Nat.le_of_ble_eq_true rfl, Nat.le_of_ble_eq_true rfl⟩) (dynAt_if (dynAt_of (s_X9_price hX v h) rfl kse_X9_X4_price kim_X9_price kii_X9 kcd_X9_price ⟨Nat.le_of_ble_eq_true rfl, Nat.le_of_ble_eq_true rfl⟩) dynAt_none)))))))))
abbrev p_X11_cost (X : GX) (h0 : AH) : PX Int32 := (X, (fun x => Sum.inl (rI x)), (3, 62, 3), h0)
def f_X11_cost (v0 : Option Nat) (v1 : Int32) (h : AH) : Option (Int32 × AH) :=
    bd (cv h v0 11 (f_X11_kindOn v0 v1 h)) fun r2 h1 =>
    (if r2 = none then
    bd (cv h1 v0 11 (f_X11_whyNoKind v0 v1 h1)) fun r6 h5 =>
    some (r6, h5)
    else bd (f_dyn_price r2 h1) fun r4 h3 =>
    some (r4, h3))
set_option maxRecDepth 100000 in
set_option maxHeartbeats 4000000 in
theorem s_X11_cost {X : GX} (hX : XOK X) (v0 : Option Nat) (v1 : Int32) (h : AH) : Snd X yX11_cost cX11_cost 3 (some .int) 3 62 rI [vR v0, vI v1] h (f_X11_cost v0 v1 h) := by
  refine snd_of hX (by decide +kernel) (Nat.le_of_ble_eq_true rfl) ?_
  show Gp (p_X11_cost X h) RX11 "cost" cX11_cost (some .int) 0 [(0, vR v0), (1, vI v1)] [] h _
  unfold f_X11_cost
  refine g_aload_n 0 dX11_cost_0 rfl rfl ?_
  refine g_iload_n 1 dX11_cost_1 rfl rfl ?_
  refine g_callVR (st := []) (ci := 11) rfl (s_X11_kindOn hX v0 v1 h) kml_X11_119 kim_X11_kindOn kse_X11_kindOn kii_X11 kcd_X11_kindOn rfl ds_X11_kindOn rfl ⟨Nat.le_of_ble_eq_true rfl, Nat.le_of_ble_eq_true rfl⟩ (Nat.le_of_ble_eq_true rfl) rfl dX11_cost_2 (fun r2 h1 => ?_)
  refine g_astore_n (ls' := [(2, vR r2), (0, vR v0), (1, vI v1)]) dX11_cost_5 rfl (Nat.le_of_ble_eq_true rfl) rfl ?_
  refine g_aload_n 0 dX11_cost_6 rfl rfl ?_
  refine g_ifnonnull (tgt := 18) dX11_cost_7 (by decide) ?_ ?_
  · refine g_aload_n 0 dX11_cost_18 rfl rfl ?_
    refine g_callDI (st := []) (dyn_price hX r2 h1) kml_X11_350 ksm_X4_price kim_X4_price kcd_X4_price ds_X4_price rfl ⟨Nat.le_of_ble_eq_true rfl, Nat.le_of_ble_eq_true rfl⟩ (Nat.le_of_ble_eq_true rfl) rfl dX11_cost_19 (fun r4 h3 => ?_)
    exact g_ireturn rfl dX11_cost_22
  · refine g_aload_n 1 dX11_cost_10 rfl rfl ?_
    refine g_iload_n 2 dX11_cost_11 rfl rfl ?_
    refine g_callVI (st := []) (ci := 11) rfl (s_X11_whyNoKind hX v0 v1 h1) kml_X11_123 kim_X11_whyNoKind kse_X11_whyNoKind kii_X11 kcd_X11_whyNoKind rfl ds_X11_whyNoKind rfl ⟨Nat.le_of_ble_eq_true rfl, Nat.le_of_ble_eq_true rfl⟩ (Nat.le_of_ble_eq_true rfl) rfl dX11_cost_12 (fun r6 h5 => ?_)
    refine g_goto (tgt := 22) dX11_cost_15 (by decide) ?_
    exact g_ireturn rfl dX11_cost_22
abbrev p_X5_weightOfAll (X : GX) (h0 : AH) : PX Int32 := (X, (fun x => Sum.inl (rI x)), (1, 21, 3), h0)
def f_X5_weightOfAll_b31 (k4 : Option Nat → Int32 → Int32 → AH → Option (Int32 × AH)) (x0 : Option Nat) (x2 : Int32) (y1 : Int32) (y0 : Int32) (h : AH) : Option (Int32 × AH) :=
    nm (y0 + y1) fun t4 =>
    k4 x0 t4 (x2 + 1) h
set_option maxRecDepth 100000 in
set_option maxHeartbeats 4000000 in
theorem s_X5_weightOfAll_b31 {X : GX} (hX : XOK X) {h0 : AH} (k4 : Option Nat → Int32 → Int32 → AH → Option (Int32 × AH)) (hk4 : ∀ (z0 : Option Nat) (z1 : Int32) (z2 : Int32) (h : AH), Gp (p_X5_weightOfAll X h0) RX5 "weightOfAll" cX5_weightOfAll (some .int) 4 [(0, vR z0), (1, vI z1), (2, vI z2)] [] h (k4 z0 z1 z2 h)) : ∀ (x0 : Option Nat) (x2 : Int32) (y1 : Int32) (y0 : Int32) (h : AH), Gp (p_X5_weightOfAll X h0) RX5 "weightOfAll" cX5_weightOfAll (some .int) 31 [(0, vR x0), (2, vI x2)] [vI y1, vI y0] h (f_X5_weightOfAll_b31 k4 x0 x2 y1 y0 h) := by
  intro x0 x2 y1 y0 h
  unfold f_X5_weightOfAll_b31
  refine g_iadd dX5_weightOfAll_31 ?_
  refine g_nmI (fun t4 => ?_)
  refine g_istore_n (ls' := [(1, vI t4), (0, vR x0), (2, vI x2)]) dX5_weightOfAll_32 rfl (Nat.le_of_ble_eq_true rfl) rfl ?_
  refine g_iinc 2 (v := (x2 + 1)) (ls' := [(2, vI ((x2 + 1))), (1, vI t4), (0, vR x0)]) dX5_weightOfAll_33 rfl rfl (Nat.le_of_ble_eq_true rfl) rfl ?_
  refine g_goto (tgt := 4) dX5_weightOfAll_36 (by decide) ?_
  exact g_sub2 [2, 1, 0] rfl (hk4 x0 t4 (x2 + 1) h)
def f_X5_weightOfAll_b4 : Nat → Option Nat → Int32 → Int32 → AH → Option (Int32 × AH)
  | 0 => fun _ _ _ _ => none
  | n + 1 => fun x0 x1 x2 h =>
    (gI h x0 [5] 5).bind fun t1 =>
    (if t1 ≤ x2 then
    some (x1, h)
    else bd (cv h x0 5 (f_X5_isIn x0 x2 h)) fun r3 h2 =>
    (if r3 = 0 then
    f_X5_weightOfAll_b31 (f_X5_weightOfAll_b4 n) x0 x2 0 x1 h2
    else (gR h2 x0 [5] 1).bind fun t5 =>
    (iA h2 t5 x2).bind fun t6 =>
    f_X5_weightOfAll_b31 (f_X5_weightOfAll_b4 n) x0 x2 t6 x1 h2))
set_option maxRecDepth 100000 in
set_option maxHeartbeats 4000000 in
theorem s_X5_weightOfAll_b4 {X : GX} (hX : XOK X) {h0 : AH} : ∀ (n : Nat) (x0 : Option Nat) (x1 : Int32) (x2 : Int32) (h : AH), Gp (p_X5_weightOfAll X h0) RX5 "weightOfAll" cX5_weightOfAll (some .int) 4 [(0, vR x0), (1, vI x1), (2, vI x2)] [] h (f_X5_weightOfAll_b4 n x0 x1 x2 h) := by
  intro n
  induction n with
  | zero => intro x0 x1 x2 h; exact g_none
  | succ n ih =>
    intro x0 x1 x2 h
    rw [f_X5_weightOfAll_b4]
    refine g_iload_n 2 dX5_weightOfAll_4 rfl rfl ?_
    refine g_aload_n 0 dX5_weightOfAll_5 rfl rfl ?_
    refine g_getI kfl_X5_30 fo_X5_guests dX5_weightOfAll_6 (fun t1 => ?_)
    refine g_icmpge (tgt := 39) dX5_weightOfAll_9 (by decide) ?_ ?_
    · refine g_iload_n 1 dX5_weightOfAll_39 rfl rfl ?_
      exact g_ireturn rfl dX5_weightOfAll_40
    · refine g_iload_n 1 dX5_weightOfAll_12 rfl rfl ?_
      refine g_aload_n 0 dX5_weightOfAll_13 rfl rfl ?_
      refine g_iload_n 2 dX5_weightOfAll_14 rfl rfl ?_
      refine g_callVI (st := [vI x1]) (ci := 5) rfl (s_X5_isIn hX x0 x2 h) kml_X5_59 kim_X5_isIn kse_X5_isIn kii_X5 kcd_X5_isIn rfl ds_X5_isIn rfl ⟨Nat.le_of_ble_eq_true rfl, Nat.le_of_ble_eq_true rfl⟩ (Nat.le_of_ble_eq_true rfl) rfl dX5_weightOfAll_15 (fun r3 h2 => ?_)
      refine g_ifeq (tgt := 30) dX5_weightOfAll_18 (by decide) ?_ ?_
      · refine g_iconst (v := 0) dX5_weightOfAll_30 (by decide) ?_
        exact g_sub2 [0, 2] rfl (s_X5_weightOfAll_b31 hX (f_X5_weightOfAll_b4 n) (fun z0 z1 z2 z3 => ih z0 z1 z2 z3) x0 x2 0 x1 h2)
      · refine g_aload_n 0 dX5_weightOfAll_21 rfl rfl ?_
        refine g_getR kfl_X5_17 fo_X5_weight dX5_weightOfAll_22 (fun t5 => ?_)
        refine g_iload_n 2 dX5_weightOfAll_25 rfl rfl ?_
        refine g_iaload dX5_weightOfAll_26 (fun t6 => ?_)
        refine g_goto (tgt := 31) dX5_weightOfAll_27 (by decide) ?_
        exact g_sub2 [0, 2] rfl (s_X5_weightOfAll_b31 hX (f_X5_weightOfAll_b4 n) (fun z0 z1 z2 z3 => ih z0 z1 z2 z3) x0 x2 t6 x1 h2)
def f_X5_weightOfAll (v0 : Option Nat) (h : AH) : Option (Int32 × AH) :=
    f_X5_weightOfAll_b4 FU v0 0 0 h
set_option maxRecDepth 100000 in
set_option maxHeartbeats 4000000 in
theorem s_X5_weightOfAll {X : GX} (hX : XOK X) (v0 : Option Nat) (h : AH) : Snd X yX5_weightOfAll cX5_weightOfAll 3 (some .int) 1 21 rI [vR v0] h (f_X5_weightOfAll v0 h) := by
  refine snd_of hX (by decide +kernel) (Nat.le_of_ble_eq_true rfl) ?_
  show Gp (p_X5_weightOfAll X h) RX5 "weightOfAll" cX5_weightOfAll (some .int) 0 [(0, vR v0)] [] h _
  unfold f_X5_weightOfAll
  refine g_iconst (v := 0) dX5_weightOfAll_0 (by decide) ?_
  refine g_istore_n (ls' := [(1, vI 0), (0, vR v0)]) dX5_weightOfAll_1 rfl (Nat.le_of_ble_eq_true rfl) rfl ?_
  refine g_iconst (v := 0) dX5_weightOfAll_2 (by decide) ?_
  refine g_istore_n (ls' := [(2, vI 0), (1, vI 0), (0, vR v0)]) dX5_weightOfAll_3 rfl (Nat.le_of_ble_eq_true rfl) rfl ?_
  exact g_sub2 [2, 1, 0] rfl (s_X5_weightOfAll_b4 hX FU v0 0 0 h)
abbrev p_X11_count (X : GX) (h0 : AH) : PX Int32 := (X, (fun x => Sum.inl (rI x)), (2, 43, 2), h0)
def f_X11_count (v0 : Option Nat) (v1 : Int32) (h : AH) : Option (Int32 × AH) :=
    (if v1 = 0 then
    (gR h v0 [11] 0).bind fun t2 =>
    (gI h t2 [5] 5).bind fun t3 =>
    some (t3, h)
    else (if v1 = 1 then
    (gR h v0 [11] 0).bind fun t5 =>
    (gI h t5 [5] 10).bind fun t6 =>
    some (t6, h)
    else (if v1 = 2 then
    (gR h v0 [11] 0).bind fun t8 =>
    (gI h t8 [5] 9).bind fun t9 =>
    some (t9, h)
    else (if v1 = 3 then
    (gR h v0 [11] 0).bind fun t11 =>
    (gI h t11 [5] 7).bind fun t12 =>
    some (t12, h)
    else (if v1 = 4 then
    (gR h v0 [11] 0).bind fun t14 =>
    (gI h t14 [5] 8).bind fun t15 =>
    some (t15, h)
    else (if v1 = 5 then
    (gR h v0 [11] 0).bind fun t17 =>
    (gI h t17 [5] 6).bind fun t18 =>
    some (t18, h)
    else (if v1 = 6 then
    (gR h v0 [11] 0).bind fun t20 =>
    bd (cv h t20 5 (f_X5_weightOfAll t20 h)) fun r22 h21 =>
    some (r22, h21)
    else some ((-1), h))))))))
set_option maxRecDepth 100000 in
set_option maxHeartbeats 4000000 in
theorem s_X11_count {X : GX} (hX : XOK X) (v0 : Option Nat) (v1 : Int32) (h : AH) : Snd X yX11_count cX11_count 2 (some .int) 2 43 rI [vR v0, vI v1] h (f_X11_count v0 v1 h) := by
  refine snd_of hX (by decide +kernel) (Nat.le_of_ble_eq_true rfl) ?_
  show Gp (p_X11_count X h) RX11 "count" cX11_count (some .int) 0 [(0, vR v0), (1, vI v1)] [] h _
  unfold f_X11_count
  refine g_iload_n 1 dX11_count_0 rfl rfl ?_
  refine g_tsIn (c := 0) (off := 43) (tgt := 44) dX11_count_1 (by decide) (by decide) (by decide) (by decide) ?_ (fun n1 => ?_)
  · refine g_aload_n 0 dX11_count_44 rfl rfl ?_
    refine g_getR kfl_X11_10 fo_X11_now dX11_count_45 (fun t2 => ?_)
    refine g_getI kfl_X11_134 fo_X5_guests dX11_count_48 (fun t3 => ?_)
    exact g_ireturn rfl dX11_count_51
  refine g_tsIn (c := 1) (off := 51) (tgt := 52) dX11_count_1 (by decide) (by decide) (by decide) (by decide) ?_ (fun n4 => ?_)
  · refine g_aload_n 0 dX11_count_52 rfl rfl ?_
    refine g_getR kfl_X11_10 fo_X11_now dX11_count_53 (fun t5 => ?_)
    refine g_getI kfl_X11_165 fo_X5_day dX11_count_56 (fun t6 => ?_)
    exact g_ireturn rfl dX11_count_59
  refine g_tsIn (c := 2) (off := 59) (tgt := 60) dX11_count_1 (by decide) (by decide) (by decide) (by decide) ?_ (fun n7 => ?_)
  · refine g_aload_n 0 dX11_count_60 rfl rfl ?_
    refine g_getR kfl_X11_10 fo_X11_now dX11_count_61 (fun t8 => ?_)
    refine g_getI kfl_X11_171 fo_X5_relief dX11_count_64 (fun t9 => ?_)
    exact g_ireturn rfl dX11_count_67
  refine g_tsIn (c := 3) (off := 67) (tgt := 68) dX11_count_1 (by decide) (by decide) (by decide) (by decide) ?_ (fun n10 => ?_)
  · refine g_aload_n 0 dX11_count_68 rfl rfl ?_
    refine g_getR kfl_X11_10 fo_X11_now dX11_count_69 (fun t11 => ?_)
    refine g_getI kfl_X11_159 fo_X5_board dX11_count_72 (fun t12 => ?_)
    exact g_ireturn rfl dX11_count_75
  refine g_tsIn (c := 4) (off := 75) (tgt := 76) dX11_count_1 (by decide) (by decide) (by decide) (by decide) ?_ (fun n13 => ?_)
  · refine g_aload_n 0 dX11_count_76 rfl rfl ?_
    refine g_getR kfl_X11_10 fo_X11_now dX11_count_77 (fun t14 => ?_)
    refine g_getI kfl_X11_162 fo_X5_dance dX11_count_80 (fun t15 => ?_)
    exact g_ireturn rfl dX11_count_83
  refine g_tsIn (c := 5) (off := 83) (tgt := 84) dX11_count_1 (by decide) (by decide) (by decide) (by decide) ?_ (fun n16 => ?_)
  · refine g_aload_n 0 dX11_count_84 rfl rfl ?_
    refine g_getR kfl_X11_10 fo_X11_now dX11_count_85 (fun t17 => ?_)
    refine g_getI kfl_X11_177 fo_X5_inside dX11_count_88 (fun t18 => ?_)
    exact g_ireturn rfl dX11_count_91
  refine g_tsIn (c := 6) (off := 91) (tgt := 92) dX11_count_1 (by decide) (by decide) (by decide) (by decide) ?_ (fun n19 => ?_)
  · refine g_aload_n 0 dX11_count_92 rfl rfl ?_
    refine g_getR kfl_X11_10 fo_X11_now dX11_count_93 (fun t20 => ?_)
    refine g_callVI (st := []) (ci := 5) rfl (s_X5_weightOfAll hX t20 h) kml_X11_180 kim_X5_weightOfAll kse_X5_weightOfAll kii_X5 kcd_X5_weightOfAll rfl ds_X5_weightOfAll rfl ⟨Nat.le_of_ble_eq_true rfl, Nat.le_of_ble_eq_true rfl⟩ (Nat.le_of_ble_eq_true rfl) rfl dX11_count_96 (fun r22 h21 => ?_)
    exact g_ireturn rfl dX11_count_99
  refine g_tsDef (tgt := 100) (keys := [0, 1, 2, 3, 4, 5, 6]) (neK_cons (c := 0) (k := 0) n1 (by decide) (neK_cons (c := 1) (k := 1) n4 (by decide) (neK_cons (c := 2) (k := 2) n7 (by decide) (neK_cons (c := 3) (k := 3) n10 (by decide) (neK_cons (c := 4) (k := 4) n13 (by decide) (neK_cons (c := 5) (k := 5) n16 (by decide) (neK_cons (c := 6) (k := 6) n19 (by decide) neK_nil))))))) (by decide +kernel) dX11_count_1 (by decide) ?_
  refine g_iconst (v := (-1)) dX11_count_100 (by decide) ?_
  exact g_ireturn rfl dX11_count_101
abbrev p_X11_days (X : GX) (h0 : AH) : PX Int32 := (X, (fun x => Sum.inl (rI x)), (5, 108, 2), h0)
def f_X11_days (v0 : Option Nat) (v1 : Int32) (h : AH) : Option (Int32 × AH) :=
    (if v1 < 1 then
    some ((-1), h)
    else (if v1 ≤ 60 then
    (gR h v0 [11] 0).bind fun t1 =>
    (gI h t1 [5] 10).bind fun t2 =>
    (if (t2 + v1) ≤ 999 then
    (gR h v0 [11] 0).bind fun t3 =>
    bd (cv h t3 5 (f_X5_passDays t3 v1 h)) fun u5 h4 =>
    (gR h4 v0 [11] 0).bind fun t6 =>
    (gI h4 t6 [5] 9).bind fun t7 =>
    some (t7, h4)
    else some ((-3), h))
    else some ((-1), h)))
set_option maxRecDepth 100000 in
set_option maxHeartbeats 4000000 in
theorem s_X11_days {X : GX} (hX : XOK X) (v0 : Option Nat) (v1 : Int32) (h : AH) : Snd X yX11_days cX11_days 2 (some .int) 5 108 rI [vR v0, vI v1] h (f_X11_days v0 v1 h) := by
  refine snd_of hX (by decide +kernel) (Nat.le_of_ble_eq_true rfl) ?_
  show Gp (p_X11_days X h) RX11 "days" cX11_days (some .int) 0 [(0, vR v0), (1, vI v1)] [] h _
  unfold f_X11_days
  refine g_iload_n 1 dX11_days_0 rfl rfl ?_
  refine g_iconst (v := 1) dX11_days_1 (by decide) ?_
  refine g_icmplt (tgt := 11) dX11_days_2 (by decide) ?_ ?_
  · refine g_iconst (v := (-1)) dX11_days_11 (by decide) ?_
    exact g_ireturn rfl dX11_days_12
  · refine g_iload_n 1 dX11_days_5 rfl rfl ?_
    refine g_bipush (v := 60) dX11_days_6 (by decide) ?_
    refine g_icmple (tgt := 13) dX11_days_8 (by decide) ?_ ?_
    · refine g_aload_n 0 dX11_days_13 rfl rfl ?_
      refine g_getR kfl_X11_10 fo_X11_now dX11_days_14 (fun t1 => ?_)
      refine g_getI kfl_X11_165 fo_X5_day dX11_days_17 (fun t2 => ?_)
      refine g_iload_n 1 dX11_days_20 rfl rfl ?_
      refine g_iadd dX11_days_21 ?_
      refine g_sipush (v := 999) dX11_days_22 (by decide) ?_
      refine g_icmple (tgt := 31) dX11_days_25 (by decide) ?_ ?_
      · refine g_aload_n 0 dX11_days_31 rfl rfl ?_
        refine g_getR kfl_X11_10 fo_X11_now dX11_days_32 (fun t3 => ?_)
        refine g_iload_n 1 dX11_days_35 rfl rfl ?_
        refine g_callVU (st := []) (ci := 5) rfl (s_X5_passDays hX t3 v1 h) kml_X11_168 kim_X5_passDays kse_X5_passDays kii_X5 kcd_X5_passDays rfl ds_X5_passDays rfl ⟨Nat.le_of_ble_eq_true rfl, Nat.le_of_ble_eq_true rfl⟩ (Nat.le_of_ble_eq_true rfl) rfl dX11_days_36 (fun u5 h4 => ?_)
        refine g_aload_n 0 dX11_days_39 rfl rfl ?_
        refine g_getR kfl_X11_10 fo_X11_now dX11_days_40 (fun t6 => ?_)
        refine g_getI kfl_X11_171 fo_X5_relief dX11_days_43 (fun t7 => ?_)
        exact g_ireturn rfl dX11_days_46
      · refine g_bipush (v := (-3)) dX11_days_28 (by decide) ?_
        exact g_ireturn rfl dX11_days_30
    · refine g_iconst (v := (-1)) dX11_days_11 (by decide) ?_
      exact g_ireturn rfl dX11_days_12
abbrev p_X11_drawBelow (X : GX) (h0 : AH) : PX Int32 := (X, (fun x => Sum.inl (rI x)), (0, 0, 3), h0)
def f_X11_drawBelow (v0 : Int32) (v1 : Int32) (h : AH) : Option (Int32 × AH) :=
    nm ((v1 &&& 2147483647) / 65536) fun t1 =>
    (if v0 ≤ 0 then
    some (0, h)
    else (if v0 = 0 then none else some ((t1 - t1 / v0 * v0), h)))
set_option maxRecDepth 100000 in
set_option maxHeartbeats 4000000 in
theorem s_X11_drawBelow {X : GX} (hX : XOK X) (v0 : Int32) (v1 : Int32) (h : AH) : Snd X yX11_drawBelow cX11_drawBelow 3 (some .int) 0 0 rI [vI v0, vI v1] h (f_X11_drawBelow v0 v1 h) := by
  refine snd_of hX (by decide +kernel) (Nat.le_of_ble_eq_true rfl) ?_
  show Gp (p_X11_drawBelow X h) RX11 "drawBelow" cX11_drawBelow (some .int) 0 [(0, vI v0), (1, vI v1)] [] h _
  unfold f_X11_drawBelow
  refine g_iload_n 1 dX11_drawBelow_0 rfl rfl ?_
  refine g_ldcw kco_X11_316 dX11_drawBelow_1 ?_
  refine g_iand dX11_drawBelow_4 ?_
  refine g_ldcw kco_X11_317 dX11_drawBelow_5 ?_
  refine g_idivK dX11_drawBelow_8 (by decide) ?_
  refine g_nmI (fun t1 => ?_)
  refine g_istore_n (ls' := [(2, vI t1), (0, vI v0), (1, vI v1)]) dX11_drawBelow_9 rfl (Nat.le_of_ble_eq_true rfl) rfl ?_
  refine g_iload_n 1 dX11_drawBelow_10 rfl rfl ?_
  refine g_ifle (tgt := 20) dX11_drawBelow_11 (by decide) ?_ ?_
  · refine g_iconst (v := 0) dX11_drawBelow_20 (by decide) ?_
    exact g_ireturn rfl dX11_drawBelow_21
  · refine g_iload_n 0 dX11_drawBelow_14 rfl rfl ?_
    refine g_iload_n 1 dX11_drawBelow_15 rfl rfl ?_
    refine g_irem dX11_drawBelow_16 ?_
    refine g_goto (tgt := 21) dX11_drawBelow_17 (by decide) ?_
    exact g_ireturn rfl dX11_drawBelow_21
abbrev p_X11_isDaysOn (X : GX) (h0 : AH) : PX Int32 := (X, (fun x => Sum.inl (rI x)), (0, 0, 1), h0)
def f_X11_isDaysOn (v0 : Int32) (h : AH) : Option (Int32 × AH) :=
    (if v0 < 0 then
    some (0, h)
    else (if 60 < v0 then
    some (0, h)
    else some (1, h)))
set_option maxRecDepth 100000 in
set_option maxHeartbeats 4000000 in
theorem s_X11_isDaysOn {X : GX} (hX : XOK X) (v0 : Int32) (h : AH) : Snd X yX11_isDaysOn cX11_isDaysOn 1 (some .boolean) 0 0 rI [vI v0] h (f_X11_isDaysOn v0 h) := by
  refine snd_of hX (by decide +kernel) (Nat.le_of_ble_eq_true rfl) ?_
  show Gp (p_X11_isDaysOn X h) RX11 "isDaysOn" cX11_isDaysOn (some .boolean) 0 [(0, vI v0)] [] h _
  unfold f_X11_isDaysOn
  refine g_iload_n 0 dX11_isDaysOn_0 rfl rfl ?_
  refine g_iflt (tgt := 14) dX11_isDaysOn_1 (by decide) ?_ ?_
  · refine g_iconst (v := 0) dX11_isDaysOn_14 (by decide) ?_
    exact g_zreturn (by decide +kernel) rfl dX11_isDaysOn_15
  · refine g_iload_n 0 dX11_isDaysOn_4 rfl rfl ?_
    refine g_bipush (v := 60) dX11_isDaysOn_5 (by decide) ?_
    refine g_icmpgt (tgt := 14) dX11_isDaysOn_7 (by decide) ?_ ?_
    · refine g_iconst (v := 0) dX11_isDaysOn_14 (by decide) ?_
      exact g_zreturn (by decide +kernel) rfl dX11_isDaysOn_15
    · refine g_iconst (v := 1) dX11_isDaysOn_10 (by decide) ?_
      refine g_goto (tgt := 15) dX11_isDaysOn_11 (by decide) ?_
      exact g_zreturn (by decide +kernel) rfl dX11_isDaysOn_15
abbrev p_X11_empty (X : GX) (h0 : AH) : PX Int32 := (X, (fun x => Sum.inl (rI x)), (5, 108, 3), h0)
def f_X11_empty_b11 : Nat → Option Nat → Int32 → Int32 → AH → Option (Int32 × AH)
  | 0 => fun _ _ _ _ => none
  | n + 1 => fun x0 x1 x2 h =>
    (if 9 < x2 then
    some ((-4), h)
    else (gR h x0 [11] 1).bind fun t3 =>
    (gR h x0 [11] 0).bind fun t4 =>
    bd (cv h t3 5 (f_X5_becomes t3 t4 h)) fun u6 h5 =>
    (gR h5 x0 [11] 1).bind fun t7 =>
    (pI h5 t7 [5] 8 x2).bind fun h8 =>
    (gR h8 x0 [11] 1).bind fun t9 =>
    bd (cv h8 t9 5 (f_X5_passDays t9 x1 h8)) fun u11 h10 =>
    (gR h10 x0 [11] 1).bind fun t12 =>
    (gI h10 t12 [5] 6).bind fun t13 =>
    (if t13 = 0 then
    some (x2, h10)
    else f_X11_empty_b11 n x0 x1 (x2 + 1) h10))
set_option maxRecDepth 100000 in
set_option maxHeartbeats 4000000 in
theorem s_X11_empty_b11 {X : GX} (hX : XOK X) {h0 : AH} : ∀ (n : Nat) (x0 : Option Nat) (x1 : Int32) (x2 : Int32) (h : AH), Gp (p_X11_empty X h0) RX11 "empty" cX11_empty (some .int) 11 [(0, vR x0), (1, vI x1), (2, vI x2)] [] h (f_X11_empty_b11 n x0 x1 x2 h) := by
  intro n
  induction n with
  | zero => intro x0 x1 x2 h; exact g_none
  | succ n ih =>
    intro x0 x1 x2 h
    rw [f_X11_empty_b11]
    refine g_iload_n 2 dX11_empty_11 rfl rfl ?_
    refine g_bipush (v := 9) dX11_empty_12 (by decide) ?_
    refine g_icmpgt (tgt := 62) dX11_empty_14 (by decide) ?_ ?_
    · refine g_bipush (v := (-4)) dX11_empty_62 (by decide) ?_
      exact g_ireturn rfl dX11_empty_64
    · refine g_aload_n 0 dX11_empty_17 rfl rfl ?_
      refine g_getR kfl_X11_16 fo_X11_mind dX11_empty_18 (fun t3 => ?_)
      refine g_aload_n 0 dX11_empty_21 rfl rfl ?_
      refine g_getR kfl_X11_10 fo_X11_now dX11_empty_22 (fun t4 => ?_)
      refine g_callVU (st := []) (ci := 5) rfl (s_X5_becomes hX t3 t4 h) kml_X11_70 kim_X5_becomes kse_X5_becomes kii_X5 kcd_X5_becomes rfl ds_X5_becomes rfl ⟨Nat.le_of_ble_eq_true rfl, Nat.le_of_ble_eq_true rfl⟩ (Nat.le_of_ble_eq_true rfl) rfl dX11_empty_25 (fun u6 h5 => ?_)
      refine g_aload_n 0 dX11_empty_28 rfl rfl ?_
      refine g_getR kfl_X11_16 fo_X11_mind dX11_empty_29 (fun t7 => ?_)
      refine g_iload_n 2 dX11_empty_32 rfl rfl ?_
      refine g_putI kfl_X11_162 fo_X5_dance pd_I nI'.1 nI'.2 dX11_empty_33 (fun h8 => ?_)
      refine g_aload_n 0 dX11_empty_36 rfl rfl ?_
      refine g_getR kfl_X11_16 fo_X11_mind dX11_empty_37 (fun t9 => ?_)
      refine g_iload_n 1 dX11_empty_40 rfl rfl ?_
      refine g_callVU (st := []) (ci := 5) rfl (s_X5_passDays hX t9 x1 h8) kml_X11_168 kim_X5_passDays kse_X5_passDays kii_X5 kcd_X5_passDays rfl ds_X5_passDays rfl ⟨Nat.le_of_ble_eq_true rfl, Nat.le_of_ble_eq_true rfl⟩ (Nat.le_of_ble_eq_true rfl) rfl dX11_empty_41 (fun u11 h10 => ?_)
      refine g_aload_n 0 dX11_empty_44 rfl rfl ?_
      refine g_getR kfl_X11_16 fo_X11_mind dX11_empty_45 (fun t12 => ?_)
      refine g_getI kfl_X11_177 fo_X5_inside dX11_empty_48 (fun t13 => ?_)
      refine g_ifne (tgt := 56) dX11_empty_51 (by decide) ?_ ?_
      · refine g_iinc 2 (v := (x2 + 1)) (ls' := [(2, vI ((x2 + 1))), (0, vR x0), (1, vI x1)]) dX11_empty_56 rfl rfl (Nat.le_of_ble_eq_true rfl) rfl ?_
        refine g_goto (tgt := 11) dX11_empty_59 (by decide) ?_
        exact g_sub2 [1, 2, 0] rfl (ih x0 x1 (x2 + 1) h10)
      · refine g_iload_n 2 dX11_empty_54 rfl rfl ?_
        exact g_ireturn rfl dX11_empty_55
def f_X11_empty (v0 : Option Nat) (v1 : Int32) (h : AH) : Option (Int32 × AH) :=
    bd (f_X11_isDaysOn v1 h) fun r2 h1 =>
    (if r2 = 0 then
    some ((-1), h1)
    else f_X11_empty_b11 FU v0 v1 0 h1)
set_option maxRecDepth 100000 in
set_option maxHeartbeats 4000000 in
theorem s_X11_empty {X : GX} (hX : XOK X) (v0 : Option Nat) (v1 : Int32) (h : AH) : Snd X yX11_empty cX11_empty 3 (some .int) 5 108 rI [vR v0, vI v1] h (f_X11_empty v0 v1 h) := by
  refine snd_of hX (by decide +kernel) (Nat.le_of_ble_eq_true rfl) ?_
  show Gp (p_X11_empty X h) RX11 "empty" cX11_empty (some .int) 0 [(0, vR v0), (1, vI v1)] [] h _
  unfold f_X11_empty
  refine g_iload_n 1 dX11_empty_0 rfl rfl ?_
  refine g_callSI (st := []) (s_X11_isDaysOn hX v1 h) kml_X11_174 kst_X11_isDaysOn kii_X11 kcd_X11_isDaysOn ds_X11_isDaysOn rfl ⟨Nat.le_of_ble_eq_true rfl, Nat.le_of_ble_eq_true rfl⟩ (Nat.le_of_ble_eq_true rfl) rfl dX11_empty_1 (fun r2 h1 => ?_)
  refine g_ifne (tgt := 9) dX11_empty_4 (by decide) ?_ ?_
  · refine g_iconst (v := 0) dX11_empty_9 (by decide) ?_
    refine g_istore_n (ls' := [(2, vI 0), (0, vR v0), (1, vI v1)]) dX11_empty_10 rfl (Nat.le_of_ble_eq_true rfl) rfl ?_
    exact g_sub2 [1, 2, 0] rfl (s_X11_empty_b11 hX FU v0 v1 0 h1)
  · refine g_iconst (v := (-1)) dX11_empty_7 (by decide) ?_
    exact g_ireturn rfl dX11_empty_8
