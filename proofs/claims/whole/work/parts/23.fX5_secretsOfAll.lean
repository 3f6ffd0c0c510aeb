abbrev p_X11_isPart (X : GX) (h0 : AH) : PX Int32 := (X, (fun x => Sum.inl (rI x)), (0, 0, 1), h0)
def f_X11_isPart (v0 : Int32) (h : AH) : Option (Int32 × AH) :=
    (if v0 = 0 then
    some (1, h)
    else (if v0 = 1 then
    some (1, h)
    else some (0, h)))
set_option maxRecDepth 100000 in
set_option maxHeartbeats 4000000 in
theorem s_X11_isPart {X : GX} (hX : XOK X) (v0 : Int32) (h : AH) : Snd X yX11_isPart cX11_isPart 1 (some .boolean) 0 0 rI [vI v0] h (f_X11_isPart v0 h) := by
  refine snd_of hX (by decide +kernel) (Nat.le_of_ble_eq_true rfl) ?_
  show Gp (p_X11_isPart X h) RX11 "isPart" cX11_isPart (some .boolean) 0 [(0, vI v0)] [] h _
  unfold f_X11_isPart
  refine g_iload_n 0 dX11_isPart_0 rfl rfl ?_
  refine g_ifeq (tgt := 9) dX11_isPart_1 (by decide) ?_ ?_
  · refine g_iconst (v := 1) dX11_isPart_9 (by decide) ?_
    refine g_goto (tgt := 14) dX11_isPart_10 (by decide) ?_
    exact g_zreturn (by decide +kernel) rfl dX11_isPart_14
  · refine g_iload_n 0 dX11_isPart_4 rfl rfl ?_
    refine g_iconst (v := 1) dX11_isPart_5 (by decide) ?_
    refine g_icmpne (tgt := 13) dX11_isPart_6 (by decide) ?_ ?_
    · refine g_iconst (v := 0) dX11_isPart_13 (by decide) ?_
      exact g_zreturn (by decide +kernel) rfl dX11_isPart_14
    · refine g_iconst (v := 1) dX11_isPart_9 (by decide) ?_
      refine g_goto (tgt := 14) dX11_isPart_10 (by decide) ?_
      exact g_zreturn (by decide +kernel) rfl dX11_isPart_14
abbrev p_X11_hasLeftBehindFeasts (X : GX) (h0 : AH) : PX Int32 := (X, (fun x => Sum.inl (rI x)), (5, 108, 6), h0)
def f_X11_hasLeftBehindFeasts_b70 (k14 : Option Nat → Int32 → Int32 → Int32 → Int32 → AH → Option (Int32 × AH)) (x0 : Option Nat) (x1 : Int32) (x2 : Int32) (x3 : Int32) (x4 : Int32) (y1 : Int32) (y0 : Option Nat) (h : AH) : Option (Int32 × AH) :=
    (pI h y0 [5] 7 y1).bind fun h11 =>
    (gR h11 x0 [11] 1).bind fun t12 =>
    bd (cv h11 t12 5 (f_X5_passDayOf t12 x1 h11)) fun u14 h13 =>
    k14 x0 x1 x2 x3 (x4 + 1) h13
set_option maxRecDepth 100000 in
set_option maxHeartbeats 4000000 in
theorem s_X11_hasLeftBehindFeasts_b70 {X : GX} (hX : XOK X) {h0 : AH} (k14 : Option Nat → Int32 → Int32 → Int32 → Int32 → AH → Option (Int32 × AH)) (hk14 : ∀ (z0 : Option Nat) (z1 : Int32) (z2 : Int32) (z3 : Int32) (z4 : Int32) (h : AH), Gp (p_X11_hasLeftBehindFeasts X h0) RX11 "hasLeftBehindFeasts" cX11_hasLeftBehindFeasts (some .boolean) 14 [(0, vR z0), (1, vI z1), (2, vI z2), (3, vI z3), (4, vI z4)] [] h (k14 z0 z1 z2 z3 z4 h)) : ∀ (x0 : Option Nat) (x1 : Int32) (x2 : Int32) (x3 : Int32) (x4 : Int32) (y1 : Int32) (y0 : Option Nat) (h : AH), Gp (p_X11_hasLeftBehindFeasts X h0) RX11 "hasLeftBehindFeasts" cX11_hasLeftBehindFeasts (some .boolean) 70 [(0, vR x0), (1, vI x1), (2, vI x2), (3, vI x3), (4, vI x4)] [vI y1, vR y0] h (f_X11_hasLeftBehindFeasts_b70 k14 x0 x1 x2 x3 x4 y1 y0 h) := by
  intro x0 x1 x2 x3 x4 y1 y0 h
  unfold f_X11_hasLeftBehindFeasts_b70
  refine g_putI kfl_X11_159 fo_X5_board pd_I nI'.1 nI'.2 dX11_hasLeftBehindFeasts_70 (fun h11 => ?_)
  refine g_aload_n 0 dX11_hasLeftBehindFeasts_73 rfl rfl ?_
  refine g_getR kfl_X11_16 fo_X11_mind dX11_hasLeftBehindFeasts_74 (fun t12 => ?_)
  refine g_iload_n 1 dX11_hasLeftBehindFeasts_77 rfl rfl ?_
  refine g_callVU (st := []) (ci := 5) rfl (s_X5_passDayOf hX t12 x1 h11) kml_X11_186 kim_X5_passDayOf kse_X5_passDayOf kii_X5 kcd_X5_passDayOf rfl ds_X5_passDayOf rfl ⟨Nat.le_of_ble_eq_true rfl, Nat.le_of_ble_eq_true rfl⟩ (Nat.le_of_ble_eq_true rfl) rfl dX11_hasLeftBehindFeasts_78 (fun u14 h13 => ?_)
  refine g_iinc 4 (v := (x4 + 1)) (ls' := [(4, vI ((x4 + 1))), (0, vR x0), (1, vI x1), (2, vI x2), (3, vI x3)]) dX11_hasLeftBehindFeasts_81 rfl rfl (Nat.le_of_ble_eq_true rfl) rfl ?_
  refine g_goto (tgt := 14) dX11_hasLeftBehindFeasts_84 (by decide) ?_
  exact g_sub2 [1, 2, 3, 4, 0] rfl (hk14 x0 x1 x2 x3 (x4 + 1) h13)
def f_X11_hasLeftBehindFeasts_b35 (k14 : Option Nat → Int32 → Int32 → Int32 → Int32 → AH → Option (Int32 × AH)) (x0 : Option Nat) (x1 : Int32) (x2 : Int32) (x3 : Int32) (x4 : Int32) (y0 : Int32) (h : AH) : Option (Int32 × AH) :=
    (gR h x0 [11] 1).bind fun t8 =>
    (if y0 = 0 then
    (gR h x0 [11] 0).bind fun t9 =>
    (gI h t9 [5] 7).bind fun t10 =>
    f_X11_hasLeftBehindFeasts_b70 k14 x0 x1 x2 x3 x4 t10 t8 h
    else (gR h x0 [11] 0).bind fun t15 =>
    (gI h t15 [5] 7).bind fun t16 =>
    f_X11_hasLeftBehindFeasts_b70 k14 x0 x1 x2 x3 x4 (mmin 9 (t16 + 3)) t8 h)
set_option maxRecDepth 100000 in
set_option maxHeartbeats 4000000 in
theorem s_X11_hasLeftBehindFeasts_b35 {X : GX} (hX : XOK X) {h0 : AH} (k14 : Option Nat → Int32 → Int32 → Int32 → Int32 → AH → Option (Int32 × AH)) (hk14 : ∀ (z0 : Option Nat) (z1 : Int32) (z2 : Int32) (z3 : Int32) (z4 : Int32) (h : AH), Gp (p_X11_hasLeftBehindFeasts X h0) RX11 "hasLeftBehindFeasts" cX11_hasLeftBehindFeasts (some .boolean) 14 [(0, vR z0), (1, vI z1), (2, vI z2), (3, vI z3), (4, vI z4)] [] h (k14 z0 z1 z2 z3 z4 h)) : ∀ (x0 : Option Nat) (x1 : Int32) (x2 : Int32) (x3 : Int32) (x4 : Int32) (y0 : Int32) (h : AH), Gp (p_X11_hasLeftBehindFeasts X h0) RX11 "hasLeftBehindFeasts" cX11_hasLeftBehindFeasts (some .boolean) 35 [(0, vR x0), (1, vI x1), (2, vI x2), (3, vI x3), (4, vI x4)] [vI y0] h (f_X11_hasLeftBehindFeasts_b35 k14 x0 x1 x2 x3 x4 y0 h) := by
  intro x0 x1 x2 x3 x4 y0 h
  unfold f_X11_hasLeftBehindFeasts_b35
  refine g_istore (ls' := [(5, vI y0), (0, vR x0), (1, vI x1), (2, vI x2), (3, vI x3), (4, vI x4)]) dX11_hasLeftBehindFeasts_35 (Nat.le_of_ble_eq_true rfl) rfl ?_
  refine g_aload_n 1 dX11_hasLeftBehindFeasts_37 rfl rfl ?_
  refine g_getR kfl_X11_16 fo_X11_mind dX11_hasLeftBehindFeasts_38 (fun t8 => ?_)
  refine g_iload 0 dX11_hasLeftBehindFeasts_41 rfl ?_
  refine g_ifeq (tgt := 63) dX11_hasLeftBehindFeasts_43 (by decide) ?_ ?_
  · refine g_aload_n 1 dX11_hasLeftBehindFeasts_63 rfl rfl ?_
    refine g_getR kfl_X11_10 fo_X11_now dX11_hasLeftBehindFeasts_64 (fun t9 => ?_)
    refine g_getI kfl_X11_159 fo_X5_board dX11_hasLeftBehindFeasts_67 (fun t10 => ?_)
    exact g_sub2 [1, 2, 3, 4, 5] rfl (s_X11_hasLeftBehindFeasts_b70 hX k14 (fun z0 z1 z2 z3 z4 z5 => hk14 z0 z1 z2 z3 z4 z5) x0 x1 x2 x3 x4 t10 t8 h)
  · refine g_bipush (v := 9) dX11_hasLeftBehindFeasts_46 (by decide) ?_
    refine g_aload_n 1 dX11_hasLeftBehindFeasts_48 rfl rfl ?_
    refine g_getR kfl_X11_10 fo_X11_now dX11_hasLeftBehindFeasts_49 (fun t15 => ?_)
    refine g_getI kfl_X11_159 fo_X5_board dX11_hasLeftBehindFeasts_52 (fun t16 => ?_)
    refine g_iconst (v := 3) dX11_hasLeftBehindFeasts_55 (by decide) ?_
    refine g_iadd dX11_hasLeftBehindFeasts_56 ?_
    refine g_mmin kml_X11_296 kst_mmin kii_Math kcd_mmin ⟨Nat.le_of_ble_eq_true rfl, Nat.le_of_ble_eq_true rfl⟩ (Nat.le_of_ble_eq_true rfl) dX11_hasLeftBehindFeasts_57 ?_
    refine g_goto (tgt := 70) dX11_hasLeftBehindFeasts_60 (by decide) ?_
    exact g_sub2 [1, 2, 3, 4, 5] rfl (s_X11_hasLeftBehindFeasts_b70 hX k14 (fun z0 z1 z2 z3 z4 z5 => hk14 z0 z1 z2 z3 z4 z5) x0 x1 x2 x3 x4 (mmin 9 (t16 + 3)) t8 h)
def f_X11_hasLeftBehindFeasts_b14 : Nat → Option Nat → Int32 → Int32 → Int32 → Int32 → AH → Option (Int32 × AH)
  | 0 => fun _ _ _ _ _ _ => none
  | n + 1 => fun x0 x1 x2 x3 x4 h =>
    (if x2 ≤ x4 then
    (gR h x0 [11] 1).bind fun t5 =>
    bd (cv h t5 5 (f_X5_isIn t5 x1 h)) fun r7 h6 =>
    (if r7 = 0 then
    some (1, h6)
    else some (0, h6))
    else (if ((x3 >>> (x4 &&& 31)) &&& 1) = 1 then
    f_X11_hasLeftBehindFeasts_b35 (f_X11_hasLeftBehindFeasts_b14 n) x0 x1 x2 x3 x4 1 h
    else f_X11_hasLeftBehindFeasts_b35 (f_X11_hasLeftBehindFeasts_b14 n) x0 x1 x2 x3 x4 0 h))
set_option maxRecDepth 100000 in
set_option maxHeartbeats 4000000 in
theorem s_X11_hasLeftBehindFeasts_b14 {X : GX} (hX : XOK X) {h0 : AH} : ∀ (n : Nat) (x0 : Option Nat) (x1 : Int32) (x2 : Int32) (x3 : Int32) (x4 : Int32) (h : AH), Gp (p_X11_hasLeftBehindFeasts X h0) RX11 "hasLeftBehindFeasts" cX11_hasLeftBehindFeasts (some .boolean) 14 [(0, vR x0), (1, vI x1), (2, vI x2), (3, vI x3), (4, vI x4)] [] h (f_X11_hasLeftBehindFeasts_b14 n x0 x1 x2 x3 x4 h) := by
  intro n
  induction n with
  | zero => intro x0 x1 x2 x3 x4 h; exact g_none
  | succ n ih =>
    intro x0 x1 x2 x3 x4 h
    rw [f_X11_hasLeftBehindFeasts_b14]
    refine g_iload 4 dX11_hasLeftBehindFeasts_14 rfl ?_
    refine g_iload_n 2 dX11_hasLeftBehindFeasts_16 rfl rfl ?_
    refine g_icmpge (tgt := 87) dX11_hasLeftBehindFeasts_17 (by decide) ?_ ?_
    · refine g_aload_n 0 dX11_hasLeftBehindFeasts_87 rfl rfl ?_
      refine g_getR kfl_X11_16 fo_X11_mind dX11_hasLeftBehindFeasts_88 (fun t5 => ?_)
      refine g_iload_n 1 dX11_hasLeftBehindFeasts_91 rfl rfl ?_
      refine g_callVI (st := []) (ci := 5) rfl (s_X5_isIn hX t5 x1 h) kml_X11_107 kim_X5_isIn kse_X5_isIn kii_X5 kcd_X5_isIn rfl ds_X5_isIn rfl ⟨Nat.le_of_ble_eq_true rfl, Nat.le_of_ble_eq_true rfl⟩ (Nat.le_of_ble_eq_true rfl) rfl dX11_hasLeftBehindFeasts_92 (fun r7 h6 => ?_)
      refine g_ifne (tgt := 102) dX11_hasLeftBehindFeasts_95 (by decide) ?_ ?_
      · refine g_iconst (v := 0) dX11_hasLeftBehindFeasts_102 (by decide) ?_
        exact g_zreturn (by decide +kernel) rfl dX11_hasLeftBehindFeasts_103
      · refine g_iconst (v := 1) dX11_hasLeftBehindFeasts_98 (by decide) ?_
        refine g_goto (tgt := 103) dX11_hasLeftBehindFeasts_99 (by decide) ?_
        exact g_zreturn (by decide +kernel) rfl dX11_hasLeftBehindFeasts_103
    · refine g_iload_n 3 dX11_hasLeftBehindFeasts_20 rfl rfl ?_
      refine g_iload 4 dX11_hasLeftBehindFeasts_21 rfl ?_
      refine g_ishr dX11_hasLeftBehindFeasts_23 ?_
      refine g_iconst (v := 1) dX11_hasLeftBehindFeasts_24 (by decide) ?_
      refine g_iand dX11_hasLeftBehindFeasts_25 ?_
      refine g_iconst (v := 1) dX11_hasLeftBehindFeasts_26 (by decide) ?_
      refine g_icmpne (tgt := 34) dX11_hasLeftBehindFeasts_27 (by decide) ?_ ?_
      · refine g_iconst (v := 0) dX11_hasLeftBehindFeasts_34 (by decide) ?_
        exact g_sub2 [0, 1, 2, 3, 4] rfl (s_X11_hasLeftBehindFeasts_b35 hX (f_X11_hasLeftBehindFeasts_b14 n) (fun z0 z1 z2 z3 z4 z5 => ih z0 z1 z2 z3 z4 z5) x0 x1 x2 x3 x4 0 h)
      · refine g_iconst (v := 1) dX11_hasLeftBehindFeasts_30 (by decide) ?_
        refine g_goto (tgt := 35) dX11_hasLeftBehindFeasts_31 (by decide) ?_
        exact g_sub2 [0, 1, 2, 3, 4] rfl (s_X11_hasLeftBehindFeasts_b35 hX (f_X11_hasLeftBehindFeasts_b14 n) (fun z0 z1 z2 z3 z4 z5 => ih z0 z1 z2 z3 z4 z5) x0 x1 x2 x3 x4 1 h)
def f_X11_hasLeftBehindFeasts (v0 : Option Nat) (v1 : Int32) (v2 : Int32) (v3 : Int32) (h : AH) : Option (Int32 × AH) :=
    (gR h v0 [11] 1).bind fun t1 =>
    (gR h v0 [11] 0).bind fun t2 =>
    bd (cv h t1 5 (f_X5_becomes t1 t2 h)) fun u4 h3 =>
    f_X11_hasLeftBehindFeasts_b14 FU v0 v1 v2 v3 0 h3
set_option maxRecDepth 100000 in
set_option maxHeartbeats 4000000 in
theorem s_X11_hasLeftBehindFeasts {X : GX} (hX : XOK X) (v0 : Option Nat) (v1 : Int32) (v2 : Int32) (v3 : Int32) (h : AH) : Snd X yX11_hasLeftBehindFeasts cX11_hasLeftBehindFeasts 6 (some .boolean) 5 108 rI [vR v0, vI v1, vI v2, vI v3] h (f_X11_hasLeftBehindFeasts v0 v1 v2 v3 h) := by
  refine snd_of hX (by decide +kernel) (Nat.le_of_ble_eq_true rfl) ?_
  show Gp (p_X11_hasLeftBehindFeasts X h) RX11 "hasLeftBehindFeasts" cX11_hasLeftBehindFeasts (some .boolean) 0 [(0, vR v0), (1, vI v1), (2, vI v2), (3, vI v3)] [] h _
  unfold f_X11_hasLeftBehindFeasts
  refine g_aload_n 0 dX11_hasLeftBehindFeasts_0 rfl rfl ?_
  refine g_getR kfl_X11_16 fo_X11_mind dX11_hasLeftBehindFeasts_1 (fun t1 => ?_)
  refine g_aload_n 0 dX11_hasLeftBehindFeasts_4 rfl rfl ?_
  refine g_getR kfl_X11_10 fo_X11_now dX11_hasLeftBehindFeasts_5 (fun t2 => ?_)
  refine g_callVU (st := []) (ci := 5) rfl (s_X5_becomes hX t1 t2 h) kml_X11_70 kim_X5_becomes kse_X5_becomes kii_X5 kcd_X5_becomes rfl ds_X5_becomes rfl ⟨Nat.le_of_ble_eq_true rfl, Nat.le_of_ble_eq_true rfl⟩ (Nat.le_of_ble_eq_true rfl) rfl dX11_hasLeftBehindFeasts_8 (fun u4 h3 => ?_)
  refine g_iconst (v := 0) dX11_hasLeftBehindFeasts_11 (by decide) ?_
  refine g_istore (ls' := [(4, vI 0), (0, vR v0), (1, vI v1), (2, vI v2), (3, vI v3)]) dX11_hasLeftBehindFeasts_12 (Nat.le_of_ble_eq_true rfl) rfl ?_
  exact g_sub2 [1, 2, 3, 4, 0] rfl (s_X11_hasLeftBehindFeasts_b14 hX FU v0 v1 v2 v3 0 h3)
abbrev p_X11_power (X : GX) (h0 : AH) : PX Int64 := (X, (fun x => Sum.inl (rJ x)), (0, 0, 5), h0)
def f_X11_power_b5 : Nat → Int32 → Int32 → Int64 → Int32 → AH → Option (Int64 × AH)
  | 0 => fun _ _ _ _ _ => none
  | n + 1 => fun x0 x1 x2 x4 h =>
    (if x1 ≤ x4 then
    some (x2, h)
    else nm (x2 * (Int32.toInt64 x0)) fun t1 =>
    f_X11_power_b5 n x0 x1 t1 (x4 + 1) h)
set_option maxRecDepth 100000 in
set_option maxHeartbeats 4000000 in
theorem s_X11_power_b5 {X : GX} (hX : XOK X) {h0 : AH} : ∀ (n : Nat) (x0 : Int32) (x1 : Int32) (x2 : Int64) (x4 : Int32) (h : AH), Gp (p_X11_power X h0) RX11 "power" cX11_power (some .long) 5 [(0, vI x0), (1, vI x1), (2, vJ x2), (4, vI x4)] [] h (f_X11_power_b5 n x0 x1 x2 x4 h) := by
  intro n
  induction n with
  | zero => intro x0 x1 x2 x4 h; exact g_none
  | succ n ih =>
    intro x0 x1 x2 x4 h
    rw [f_X11_power_b5]
    refine g_iload 3 dX11_power_5 rfl ?_
    refine g_iload_n 1 dX11_power_7 rfl rfl ?_
    refine g_icmpge (tgt := 22) dX11_power_8 (by decide) ?_ ?_
    · refine g_lload_n 2 dX11_power_22 rfl rfl ?_
      exact g_lreturn rfl dX11_power_23
    · refine g_lload_n 2 dX11_power_11 rfl rfl ?_
      refine g_iload_n 0 dX11_power_12 rfl rfl ?_
      refine g_i2l dX11_power_13 ?_
      refine g_lmul dX11_power_14 ?_
      refine g_nmJ (fun t1 => ?_)
      refine g_lstore_n (ls' := [(2, vJ t1), (0, vI x0), (1, vI x1), (4, vI x4)]) dX11_power_15 rfl (Nat.le_of_ble_eq_true rfl) rfl ?_
      refine g_iinc 3 (v := (x4 + 1)) (ls' := [(4, vI ((x4 + 1))), (2, vJ t1), (0, vI x0), (1, vI x1)]) dX11_power_16 rfl rfl (Nat.le_of_ble_eq_true rfl) rfl ?_
      refine g_goto (tgt := 5) dX11_power_19 (by decide) ?_
      exact g_sub2 [2, 3, 1, 0] rfl (ih x0 x1 t1 (x4 + 1) h)
def f_X11_power (v0 : Int32) (v1 : Int32) (h : AH) : Option (Int64 × AH) :=
    f_X11_power_b5 FU v0 v1 1 0 h
set_option maxRecDepth 100000 in
set_option maxHeartbeats 4000000 in
theorem s_X11_power {X : GX} (hX : XOK X) (v0 : Int32) (v1 : Int32) (h : AH) : Snd X yX11_power cX11_power 5 (some .long) 0 0 rJ [vI v0, vI v1] h (f_X11_power v0 v1 h) := by
  refine snd_of hX (by decide +kernel) (Nat.le_of_ble_eq_true rfl) ?_
  show Gp (p_X11_power X h) RX11 "power" cX11_power (some .long) 0 [(0, vI v0), (1, vI v1)] [] h _
  unfold f_X11_power
  refine g_lconst (v := 1) dX11_power_0 (by decide) ?_
  refine g_lstore_n (ls' := [(2, vJ 1), (0, vI v0), (1, vI v1)]) dX11_power_1 rfl (Nat.le_of_ble_eq_true rfl) rfl ?_
  refine g_iconst (v := 0) dX11_power_2 (by decide) ?_
  refine g_istore (ls' := [(4, vI 0), (2, vJ 1), (0, vI v0), (1, vI v1)]) dX11_power_3 (Nat.le_of_ble_eq_true rfl) rfl ?_
  exact g_sub2 [2, 3, 1, 0] rfl (s_X11_power_b5 hX FU v0 v1 1 0 h)
abbrev p_X11_leastTerms (X : GX) (h0 : AH) : PX Int64 := (X, (fun x => Sum.inl (rJ x)), (0, 0, 12), h0)
def f_X11_leastTerms_b45 (x0 : Int64) (x2 : Int64) (x4 : Int32) (x5 : Int64) (h : AH) : Option (Int64 × AH) :=
    (if (lg_cmp x5 0) = 0 then
    some (0, h)
    else (if x4 = 0 then
    (if x5 = 0 then none else some ((x0 / x5), h))
    else (if x5 = 0 then none else some ((x2 / x5), h))))
set_option maxRecDepth 100000 in
set_option maxHeartbeats 4000000 in
theorem s_X11_leastTerms_b45 {X : GX} (hX : XOK X) {h0 : AH} : ∀ (x0 : Int64) (x2 : Int64) (x4 : Int32) (x5 : Int64) (h : AH), Gp (p_X11_leastTerms X h0) RX11 "leastTerms" cX11_leastTerms (some .long) 45 [(0, vJ x0), (2, vJ x2), (4, vI x4), (5, vJ x5)] [] h (f_X11_leastTerms_b45 x0 x2 x4 x5 h) := by
  intro x0 x2 x4 x5 h
  unfold f_X11_leastTerms_b45
  refine g_lload 3 dX11_leastTerms_45 rfl ?_
  refine g_lconst (v := 0) dX11_leastTerms_47 (by decide) ?_
  refine g_lcmp dX11_leastTerms_48 ?_
  refine g_ifne (tgt := 54) dX11_leastTerms_49 (by decide) ?_ ?_
  · refine g_iload 2 dX11_leastTerms_54 rfl ?_
    refine g_ifne (tgt := 66) dX11_leastTerms_56 (by decide) ?_ ?_
    · refine g_lload_n 1 dX11_leastTerms_66 rfl rfl ?_
      refine g_lload 3 dX11_leastTerms_67 rfl ?_
      refine g_ldiv dX11_leastTerms_69 ?_
      exact g_lreturn rfl dX11_leastTerms_70
    · refine g_lload_n 0 dX11_leastTerms_59 rfl rfl ?_
      refine g_lload 3 dX11_leastTerms_60 rfl ?_
      refine g_ldiv dX11_leastTerms_62 ?_
      refine g_goto (tgt := 70) dX11_leastTerms_63 (by decide) ?_
      exact g_lreturn rfl dX11_leastTerms_70
  · refine g_lconst (v := 0) dX11_leastTerms_52 (by decide) ?_
    exact g_lreturn rfl dX11_leastTerms_53
def f_X11_leastTerms_b9 : Nat → Int64 → Int64 → Int32 → Int64 → Int64 → Int32 → AH → Option (Int64 × AH)
  | 0 => fun _ _ _ _ _ _ _ => none
  | n + 1 => fun x0 x2 x4 x5 x7 x9 h =>
    (if 128 ≤ x9 then
    f_X11_leastTerms_b45 x0 x2 x4 x5 h
    else (if (lg_cmp x7 0) = 0 then
    f_X11_leastTerms_b45 x0 x2 x4 x5 h
    else (if x7 = 0 then none else nm (x5 - x5 / x7 * x7) fun t1 =>
    f_X11_leastTerms_b9 n x0 x2 x4 x7 t1 (x9 + 1) h)))
set_option maxRecDepth 100000 in
set_option maxHeartbeats 4000000 in
theorem s_X11_leastTerms_b9 {X : GX} (hX : XOK X) {h0 : AH} : ∀ (n : Nat) (x0 : Int64) (x2 : Int64) (x4 : Int32) (x5 : Int64) (x7 : Int64) (x9 : Int32) (h : AH), Gp (p_X11_leastTerms X h0) RX11 "leastTerms" cX11_leastTerms (some .long) 9 [(0, vJ x0), (2, vJ x2), (4, vI x4), (5, vJ x5), (7, vJ x7), (9, vI x9)] [] h (f_X11_leastTerms_b9 n x0 x2 x4 x5 x7 x9 h) := by
  intro n
  induction n with
  | zero => intro x0 x2 x4 x5 x7 x9 h; exact g_none
  | succ n ih =>
    intro x0 x2 x4 x5 x7 x9 h
    rw [f_X11_leastTerms_b9]
    refine g_iload 5 dX11_leastTerms_9 rfl ?_
    refine g_sipush (v := 128) dX11_leastTerms_11 (by decide) ?_
    refine g_icmpge (tgt := 45) dX11_leastTerms_14 (by decide) ?_ ?_
    · exact g_sub2 [0, 1, 2, 3] rfl (s_X11_leastTerms_b45 hX x0 x2 x4 x5 h)
    · refine g_lload 4 dX11_leastTerms_17 rfl ?_
      refine g_lconst (v := 0) dX11_leastTerms_19 (by decide) ?_
      refine g_lcmp dX11_leastTerms_20 ?_
      refine g_ifeq (tgt := 45) dX11_leastTerms_21 (by decide) ?_ ?_
      · exact g_sub2 [0, 1, 2, 3] rfl (s_X11_leastTerms_b45 hX x0 x2 x4 x5 h)
      · refine g_lload 3 dX11_leastTerms_24 rfl ?_
        refine g_lload 4 dX11_leastTerms_26 rfl ?_
        refine g_lrem dX11_leastTerms_28 ?_
        refine g_nmJ (fun t1 => ?_)
        refine g_lstore (ls' := [(10, vJ t1), (0, vJ x0), (2, vJ x2), (4, vI x4), (5, vJ x5), (7, vJ x7), (9, vI x9)]) dX11_leastTerms_29 (Nat.le_of_ble_eq_true rfl) rfl ?_
        refine g_lload 5 dX11_leastTerms_31 rfl ?_
        refine g_lstore (ls' := [(5, vJ x7), (10, vJ t1), (0, vJ x0), (2, vJ x2), (4, vI x4), (7, vJ x7), (9, vI x9)]) dX11_leastTerms_33 (Nat.le_of_ble_eq_true rfl) rfl ?_
        refine g_lload 1 dX11_leastTerms_35 rfl ?_
        refine g_lstore (ls' := [(7, vJ t1), (5, vJ x7), (10, vJ t1), (0, vJ x0), (2, vJ x2), (4, vI x4), (9, vI x9)]) dX11_leastTerms_37 (Nat.le_of_ble_eq_true rfl) rfl ?_
        refine g_iinc 6 (v := (x9 + 1)) (ls' := [(9, vI ((x9 + 1))), (7, vJ t1), (5, vJ x7), (10, vJ t1), (0, vJ x0), (2, vJ x2), (4, vI x4)]) dX11_leastTerms_39 rfl rfl (Nat.le_of_ble_eq_true rfl) rfl ?_
        refine g_goto (tgt := 9) dX11_leastTerms_42 (by decide) ?_
        exact g_sub2 [4, 5, 6, 2, 1, 0] rfl (ih x0 x2 x4 x7 t1 (x9 + 1) h)
def f_X11_leastTerms (v0 : Int64) (v1 : Int64) (v2 : Int32) (h : AH) : Option (Int64 × AH) :=
    f_X11_leastTerms_b9 FU v0 v1 v2 v1 v0 0 h
set_option maxRecDepth 100000 in
set_option maxHeartbeats 4000000 in
theorem s_X11_leastTerms {X : GX} (hX : XOK X) (v0 : Int64) (v1 : Int64) (v2 : Int32) (h : AH) : Snd X yX11_leastTerms cX11_leastTerms 12 (some .long) 0 0 rJ [vJ v0, vJ v1, vI v2] h (f_X11_leastTerms v0 v1 v2 h) := by
  refine snd_of hX (by decide +kernel) (Nat.le_of_ble_eq_true rfl) ?_
  show Gp (p_X11_leastTerms X h) RX11 "leastTerms" cX11_leastTerms (some .long) 0 [(0, vJ v0), (2, vJ v1), (4, vI v2)] [] h _
  unfold f_X11_leastTerms
  refine g_lload_n 1 dX11_leastTerms_0 rfl rfl ?_
  refine g_lstore (ls' := [(5, vJ v1), (0, vJ v0), (2, vJ v1), (4, vI v2)]) dX11_leastTerms_1 (Nat.le_of_ble_eq_true rfl) rfl ?_
  refine g_lload_n 1 dX11_leastTerms_3 rfl rfl ?_
  refine g_lstore (ls' := [(7, vJ v0), (5, vJ v1), (0, vJ v0), (2, vJ v1), (4, vI v2)]) dX11_leastTerms_4 (Nat.le_of_ble_eq_true rfl) rfl ?_
  refine g_iconst (v := 0) dX11_leastTerms_6 (by decide) ?_
  refine g_istore (ls' := [(9, vI 0), (7, vJ v0), (5, vJ v1), (0, vJ v0), (2, vJ v1), (4, vI v2)]) dX11_leastTerms_7 (Nat.le_of_ble_eq_true rfl) rfl ?_
  exact g_sub2 [3, 4, 5, 2, 1, 0] rfl (s_X11_leastTerms_b9 hX FU v0 v1 v2 v1 v0 0 h)
abbrev p_X11_feasts (X : GX) (h0 : AH) : PX Int64 := (X, (fun x => Sum.inl (rJ x)), (6, 133, 8), h0)
def f_X11_feasts_b50 : Nat → Option Nat → Int32 → Int32 → Int32 → Int32 → Int64 → Int32 → AH → Option (Int64 × AH)
  | 0 => fun _ _ _ _ _ _ _ _ => none
  | n + 1 => fun x0 x1 x2 x3 x4 x5 x7 h =>
    (if ((1 : Int32) <<< (x2 &&& 31)) ≤ x7 then
    bd (f_X11_power x3 x2 h) fun r7 h6 =>
    bd (f_X11_leastTerms x5 r7 x4 h6) fun r9 h8 =>
    some (r9, h8)
    else bd (cv h x0 11 (f_X11_hasLeftBehindFeasts x0 x1 x2 x7 h)) fun r11 h10 =>
    (if r11 = 0 then
    f_X11_feasts_b50 n x0 x1 x2 x3 x4 x5 (x7 + 1) h10
    else bd (f_J6_bitCount_0f7a4 x7 h10) fun r13 h12 =>
    bd (f_X11_power (x3 - 1) (x2 - r13) h12) fun r15 h14 =>
    nm (x5 + r15) fun t16 =>
    f_X11_feasts_b50 n x0 x1 x2 x3 x4 t16 (x7 + 1) h14))
set_option maxRecDepth 100000 in
set_option maxHeartbeats 4000000 in
theorem s_X11_feasts_b50 {X : GX} (hX : XOK X) {h0 : AH} : ∀ (n : Nat) (x0 : Option Nat) (x1 : Int32) (x2 : Int32) (x3 : Int32) (x4 : Int32) (x5 : Int64) (x7 : Int32) (h : AH), Gp (p_X11_feasts X h0) RX11 "feasts" cX11_feasts (some .long) 50 [(0, vR x0), (1, vI x1), (2, vI x2), (3, vI x3), (4, vI x4), (5, vJ x5), (7, vI x7)] [] h (f_X11_feasts_b50 n x0 x1 x2 x3 x4 x5 x7 h) := by
  intro n
  induction n with
  | zero => intro x0 x1 x2 x3 x4 x5 x7 h; exact g_none
  | succ n ih =>
    intro x0 x1 x2 x3 x4 x5 x7 h
    rw [f_X11_feasts_b50]
    refine g_iload 6 dX11_feasts_50 rfl ?_
    refine g_iconst (v := 1) dX11_feasts_52 (by decide) ?_
    refine g_iload_n 2 dX11_feasts_53 rfl rfl ?_
    refine g_ishl dX11_feasts_54 ?_
    refine g_icmpge (tgt := 93) dX11_feasts_55 (by decide) ?_ ?_
    · refine g_lload 5 dX11_feasts_93 rfl ?_
      refine g_iload_n 3 dX11_feasts_95 rfl rfl ?_
      refine g_iload_n 2 dX11_feasts_96 rfl rfl ?_
      refine g_callSJ (st := [vJ x5]) (s_X11_power hX x3 x2 h) kml_X11_274 kst_X11_power kii_X11 kcd_X11_power ds_X11_power rfl ⟨Nat.le_of_ble_eq_true rfl, Nat.le_of_ble_eq_true rfl⟩ (Nat.le_of_ble_eq_true rfl) rfl dX11_feasts_97 (fun r7 h6 => ?_)
      refine g_iload 4 dX11_feasts_100 rfl ?_
      refine g_callSJ (st := []) (s_X11_leastTerms hX x5 r7 x4 h6) kml_X11_278 kst_X11_leastTerms kii_X11 kcd_X11_leastTerms ds_X11_leastTerms rfl ⟨Nat.le_of_ble_eq_true rfl, Nat.le_of_ble_eq_true rfl⟩ (Nat.le_of_ble_eq_true rfl) rfl dX11_feasts_102 (fun r9 h8 => ?_)
      exact g_lreturn rfl dX11_feasts_105
    · refine g_aload_n 0 dX11_feasts_58 rfl rfl ?_
      refine g_iload_n 1 dX11_feasts_59 rfl rfl ?_
      refine g_iload_n 2 dX11_feasts_60 rfl rfl ?_
      refine g_iload 6 dX11_feasts_61 rfl ?_
      refine g_callVI (st := []) (ci := 11) rfl (s_X11_hasLeftBehindFeasts hX x0 x1 x2 x7 h) kml_X11_266 kim_X11_hasLeftBehindFeasts kse_X11_hasLeftBehindFeasts kii_X11 kcd_X11_hasLeftBehindFeasts rfl ds_X11_hasLeftBehindFeasts rfl ⟨Nat.le_of_ble_eq_true rfl, Nat.le_of_ble_eq_true rfl⟩ (Nat.le_of_ble_eq_true rfl) rfl dX11_feasts_63 (fun r11 h10 => ?_)
      refine g_ifeq (tgt := 87) dX11_feasts_66 (by decide) ?_ ?_
      · refine g_iinc 6 (v := (x7 + 1)) (ls' := [(7, vI ((x7 + 1))), (0, vR x0), (1, vI x1), (2, vI x2), (3, vI x3), (4, vI x4), (5, vJ x5)]) dX11_feasts_87 rfl rfl (Nat.le_of_ble_eq_true rfl) rfl ?_
        refine g_goto (tgt := 50) dX11_feasts_90 (by decide) ?_
        exact g_sub2 [1, 2, 3, 4, 5, 6, 0] rfl (ih x0 x1 x2 x3 x4 x5 (x7 + 1) h10)
      · refine g_lload 5 dX11_feasts_69 rfl ?_
        refine g_iload_n 3 dX11_feasts_71 rfl rfl ?_
        refine g_iconst (v := 1) dX11_feasts_72 (by decide) ?_
        refine g_isub dX11_feasts_73 ?_
        refine g_iload_n 2 dX11_feasts_74 rfl rfl ?_
        refine g_iload 6 dX11_feasts_75 rfl ?_
        refine g_callSI (st := [vI x2, vI ((x3 - 1)), vJ x5]) (s_J6_bitCount_0f7a4 hX x7 h10) kml_X11_269 kst_J6_bitCount_0f7a4 kii_J6 kcd_J6_bitCount_0f7a4 ds_J6_bitCount_0f7a4 rfl ⟨Nat.le_of_ble_eq_true rfl, Nat.le_of_ble_eq_true rfl⟩ (Nat.le_of_ble_eq_true rfl) rfl dX11_feasts_77 (fun r13 h12 => ?_)
        refine g_isub dX11_feasts_80 ?_
        refine g_callSJ (st := [vJ x5]) (s_X11_power hX (x3 - 1) (x2 - r13) h12) kml_X11_274 kst_X11_power kii_X11 kcd_X11_power ds_X11_power rfl ⟨Nat.le_of_ble_eq_true rfl, Nat.le_of_ble_eq_true rfl⟩ (Nat.le_of_ble_eq_true rfl) rfl dX11_feasts_81 (fun r15 h14 => ?_)
        refine g_ladd dX11_feasts_84 ?_
        refine g_nmJ (fun t16 => ?_)
        refine g_lstore (ls' := [(5, vJ t16), (0, vR x0), (1, vI x1), (2, vI x2), (3, vI x3), (4, vI x4), (7, vI x7)]) dX11_feasts_85 (Nat.le_of_ble_eq_true rfl) rfl ?_
        refine g_iinc 6 (v := (x7 + 1)) (ls' := [(7, vI ((x7 + 1))), (5, vJ t16), (0, vR x0), (1, vI x1), (2, vI x2), (3, vI x3), (4, vI x4)]) dX11_feasts_87 rfl rfl (Nat.le_of_ble_eq_true rfl) rfl ?_
        refine g_goto (tgt := 50) dX11_feasts_90 (by decide) ?_
        exact g_sub2 [2, 3, 4, 5, 6, 1, 0] rfl (ih x0 x1 x2 x3 x4 t16 (x7 + 1) h14)
def f_X11_feasts (v0 : Option Nat) (v1 : Int32) (v2 : Int32) (v3 : Int32) (v4 : Int32) (h : AH) : Option (Int64 × AH) :=
    (gR h v0 [11] 0).bind fun t1 =>
    bd (cv h t1 5 (f_X5_knows t1 v1 h)) fun r3 h2 =>
    (if r3 = 0 then
    some (1000000001, h2)
    else (if v2 < 0 then
    some (1000000001, h2)
    else (if 7 < v2 then
    some (1000000001, h2)
    else (if v3 < 2 then
    some (1000000001, h2)
    else (if 20 < v3 then
    some (1000000001, h2)
    else bd (f_X11_isPart v4 h2) fun r5 h4 =>
    (if r5 = 0 then
    some (1000000001, h4)
    else f_X11_feasts_b50 FU v0 v1 v2 v3 v4 0 0 h4))))))
set_option maxRecDepth 100000 in
set_option maxHeartbeats 4000000 in
theorem s_X11_feasts {X : GX} (hX : XOK X) (v0 : Option Nat) (v1 : Int32) (v2 : Int32) (v3 : Int32) (v4 : Int32) (h : AH) : Snd X yX11_feasts cX11_feasts 8 (some .long) 6 133 rJ [vR v0, vI v1, vI v2, vI v3, vI v4] h (f_X11_feasts v0 v1 v2 v3 v4 h) := by
  refine snd_of hX (by decide +kernel) (Nat.le_of_ble_eq_true rfl) ?_
  show Gp (p_X11_feasts X h) RX11 "feasts" cX11_feasts (some .long) 0 [(0, vR v0), (1, vI v1), (2, vI v2), (3, vI v3), (4, vI v4)] [] h _
  unfold f_X11_feasts
  refine g_aload_n 0 dX11_feasts_0 rfl rfl ?_
  refine g_getR kfl_X11_10 fo_X11_now dX11_feasts_1 (fun t1 => ?_)
  refine g_iload_n 1 dX11_feasts_4 rfl rfl ?_
  refine g_callVI (st := []) (ci := 5) rfl (s_X5_knows hX t1 v1 h) kml_X11_84 kim_X5_knows kse_X5_knows kii_X5 kcd_X5_knows rfl ds_X5_knows rfl ⟨Nat.le_of_ble_eq_true rfl, Nat.le_of_ble_eq_true rfl⟩ (Nat.le_of_ble_eq_true rfl) rfl dX11_feasts_5 (fun r3 h2 => ?_)
  refine g_ifeq (tgt := 40) dX11_feasts_8 (by decide) ?_ ?_
  · refine g_ldc2 kco_X11_264 dX11_feasts_40 ?_
    exact g_lreturn rfl dX11_feasts_43
  · refine g_iload_n 2 dX11_feasts_11 rfl rfl ?_
    refine g_iflt (tgt := 40) dX11_feasts_12 (by decide) ?_ ?_
    · refine g_ldc2 kco_X11_264 dX11_feasts_40 ?_
      exact g_lreturn rfl dX11_feasts_43
    · refine g_iload_n 2 dX11_feasts_15 rfl rfl ?_
      refine g_bipush (v := 7) dX11_feasts_16 (by decide) ?_
      refine g_icmpgt (tgt := 40) dX11_feasts_18 (by decide) ?_ ?_
      · refine g_ldc2 kco_X11_264 dX11_feasts_40 ?_
        exact g_lreturn rfl dX11_feasts_43
      · refine g_iload_n 3 dX11_feasts_21 rfl rfl ?_
        refine g_iconst (v := 2) dX11_feasts_22 (by decide) ?_
        refine g_icmplt (tgt := 40) dX11_feasts_23 (by decide) ?_ ?_
        · refine g_ldc2 kco_X11_264 dX11_feasts_40 ?_
          exact g_lreturn rfl dX11_feasts_43
        · refine g_iload_n 3 dX11_feasts_26 rfl rfl ?_
          refine g_bipush (v := 20) dX11_feasts_27 (by decide) ?_
          refine g_icmpgt (tgt := 40) dX11_feasts_29 (by decide) ?_ ?_
          · refine g_ldc2 kco_X11_264 dX11_feasts_40 ?_
            exact g_lreturn rfl dX11_feasts_43
          · refine g_iload 4 dX11_feasts_32 rfl ?_
            refine g_callSI (st := []) (s_X11_isPart hX v4 h2) kml_X11_261 kst_X11_isPart kii_X11 kcd_X11_isPart ds_X11_isPart rfl ⟨Nat.le_of_ble_eq_true rfl, Nat.le_of_ble_eq_true rfl⟩ (Nat.le_of_ble_eq_true rfl) rfl dX11_feasts_34 (fun r5 h4 => ?_)
            refine g_ifne (tgt := 44) dX11_feasts_37 (by decide) ?_ ?_
            · refine g_lconst (v := 0) dX11_feasts_44 (by decide) ?_
              refine g_lstore (ls' := [(5, vJ 0), (0, vR v0), (1, vI v1), (2, vI v2), (3, vI v3), (4, vI v4)]) dX11_feasts_45 (Nat.le_of_ble_eq_true rfl) rfl ?_
              refine g_iconst (v := 0) dX11_feasts_47 (by decide) ?_
              refine g_istore (ls' := [(7, vI 0), (5, vJ 0), (0, vR v0), (1, vI v1), (2, vI v2), (3, vI v3), (4, vI v4)]) dX11_feasts_48 (Nat.le_of_ble_eq_true rfl) rfl ?_
              exact g_sub2 [2, 3, 4, 5, 6, 1, 0] rfl (s_X11_feasts_b50 hX FU v0 v1 v2 v3 v4 0 0 h4)
            · refine g_ldc2 kco_X11_264 dX11_feasts_40 ?_
              exact g_lreturn rfl dX11_feasts_43
abbrev p_X11_feed (X : GX) (h0 : AH) : PX Int32 := (X, (fun x => Sum.inl (rI x)), (5, 108, 6), h0)
def f_X11_feed_b26 : Nat → Option Nat → Int32 → Int32 → Int32 → Int32 → Int32 → AH → Option (Int32 × AH)
  | 0 => fun _ _ _ _ _ _ _ => none
  | n + 1 => fun x0 x1 x2 x3 x4 x5 h =>
    (if 9 < x5 then
    (if x2 = 0 then
    some (x3, h)
    else some (x4, h))
    else (gR h x0 [11] 1).bind fun t3 =>
    (gR h x0 [11] 0).bind fun t4 =>
    bd (cv h t3 5 (f_X5_becomes t3 t4 h)) fun u6 h5 =>
    (gR h5 x0 [11] 1).bind fun t7 =>
    (pI h5 t7 [5] 7 x5).bind fun h8 =>
    (gR h8 x0 [11] 1).bind fun t9 =>
    bd (cv h8 t9 5 (f_X5_passDays t9 x1 h8)) fun u11 h10 =>
    (gR h10 x0 [11] 1).bind fun t12 =>
    (gI h10 t12 [5] 9).bind fun t13 =>
    (if t13 ≤ x4 then
    f_X11_feed_b26 n x0 x1 x2 x3 x4 (x5 + 1) h10
    else (gR h10 x0 [11] 1).bind fun t14 =>
    (gI h10 t14 [5] 9).bind fun t15 =>
    f_X11_feed_b26 n x0 x1 x2 x5 t15 (x5 + 1) h10))
set_option maxRecDepth 100000 in
set_option maxHeartbeats 4000000 in
theorem s_X11_feed_b26 {X : GX} (hX : XOK X) {h0 : AH} : ∀ (n : Nat) (x0 : Option Nat) (x1 : Int32) (x2 : Int32) (x3 : Int32) (x4 : Int32) (x5 : Int32) (h : AH), Gp (p_X11_feed X h0) RX11 "feed" cX11_feed (some .int) 26 [(0, vR x0), (1, vI x1), (2, vI x2), (3, vI x3), (4, vI x4), (5, vI x5)] [] h (f_X11_feed_b26 n x0 x1 x2 x3 x4 x5 h) := by
  intro n
  induction n with
  | zero => intro x0 x1 x2 x3 x4 x5 h; exact g_none
  | succ n ih =>
    intro x0 x1 x2 x3 x4 x5 h
    rw [f_X11_feed_b26]
    refine g_iload 5 dX11_feed_26 rfl ?_
    refine g_bipush (v := 9) dX11_feed_28 (by decide) ?_
    refine g_icmpgt (tgt := 91) dX11_feed_30 (by decide) ?_ ?_
    · refine g_iload_n 2 dX11_feed_91 rfl rfl ?_
      refine g_ifne (tgt := 99) dX11_feed_92 (by decide) ?_ ?_
      · refine g_iload 4 dX11_feed_99 rfl ?_
        exact g_ireturn rfl dX11_feed_101
      · refine g_iload_n 3 dX11_feed_95 rfl rfl ?_
        refine g_goto (tgt := 101) dX11_feed_96 (by decide) ?_
        exact g_ireturn rfl dX11_feed_101
    · refine g_aload_n 0 dX11_feed_33 rfl rfl ?_
      refine g_getR kfl_X11_16 fo_X11_mind dX11_feed_34 (fun t3 => ?_)
      refine g_aload_n 0 dX11_feed_37 rfl rfl ?_
      refine g_getR kfl_X11_10 fo_X11_now dX11_feed_38 (fun t4 => ?_)
      refine g_callVU (st := []) (ci := 5) rfl (s_X5_becomes hX t3 t4 h) kml_X11_70 kim_X5_becomes kse_X5_becomes kii_X5 kcd_X5_becomes rfl ds_X5_becomes rfl ⟨Nat.le_of_ble_eq_true rfl, Nat.le_of_ble_eq_true rfl⟩ (Nat.le_of_ble_eq_true rfl) rfl dX11_feed_41 (fun u6 h5 => ?_)
      refine g_aload_n 0 dX11_feed_44 rfl rfl ?_
      refine g_getR kfl_X11_16 fo_X11_mind dX11_feed_45 (fun t7 => ?_)
      refine g_iload 5 dX11_feed_48 rfl ?_
      refine g_putI kfl_X11_159 fo_X5_board pd_I nI'.1 nI'.2 dX11_feed_50 (fun h8 => ?_)
      refine g_aload_n 0 dX11_feed_53 rfl rfl ?_
      refine g_getR kfl_X11_16 fo_X11_mind dX11_feed_54 (fun t9 => ?_)
      refine g_iload_n 1 dX11_feed_57 rfl rfl ?_
      refine g_callVU (st := []) (ci := 5) rfl (s_X5_passDays hX t9 x1 h8) kml_X11_168 kim_X5_passDays kse_X5_passDays kii_X5 kcd_X5_passDays rfl ds_X5_passDays rfl ⟨Nat.le_of_ble_eq_true rfl, Nat.le_of_ble_eq_true rfl⟩ (Nat.le_of_ble_eq_true rfl) rfl dX11_feed_58 (fun u11 h10 => ?_)
      refine g_aload_n 0 dX11_feed_61 rfl rfl ?_
      refine g_getR kfl_X11_16 fo_X11_mind dX11_feed_62 (fun t12 => ?_)
      refine g_getI kfl_X11_171 fo_X5_relief dX11_feed_65 (fun t13 => ?_)
      refine g_iload 4 dX11_feed_68 rfl ?_
      refine g_icmple (tgt := 85) dX11_feed_70 (by decide) ?_ ?_
      · refine g_iinc 5 (v := (x5 + 1)) (ls' := [(5, vI ((x5 + 1))), (0, vR x0), (1, vI x1), (2, vI x2), (3, vI x3), (4, vI x4)]) dX11_feed_85 rfl rfl (Nat.le_of_ble_eq_true rfl) rfl ?_
        refine g_goto (tgt := 26) dX11_feed_88 (by decide) ?_
        exact g_sub2 [1, 2, 3, 4, 5, 0] rfl (ih x0 x1 x2 x3 x4 (x5 + 1) h10)
      · refine g_iload 5 dX11_feed_73 rfl ?_
        refine g_istore_n (ls' := [(3, vI x5), (0, vR x0), (1, vI x1), (2, vI x2), (4, vI x4), (5, vI x5)]) dX11_feed_75 rfl (Nat.le_of_ble_eq_true rfl) rfl ?_
        refine g_aload_n 1 dX11_feed_76 rfl rfl ?_
        refine g_getR kfl_X11_16 fo_X11_mind dX11_feed_77 (fun t14 => ?_)
        refine g_getI kfl_X11_171 fo_X5_relief dX11_feed_80 (fun t15 => ?_)
        refine g_istore (ls' := [(4, vI t15), (3, vI x5), (0, vR x0), (1, vI x1), (2, vI x2), (5, vI x5)]) dX11_feed_83 (Nat.le_of_ble_eq_true rfl) rfl ?_
        refine g_iinc 5 (v := (x5 + 1)) (ls' := [(5, vI ((x5 + 1))), (4, vI t15), (3, vI x5), (0, vR x0), (1, vI x1), (2, vI x2)]) dX11_feed_85 rfl rfl (Nat.le_of_ble_eq_true rfl) rfl ?_
        refine g_goto (tgt := 26) dX11_feed_88 (by decide) ?_
        exact g_sub2 [3, 4, 5, 2, 1, 0] rfl (ih x0 x1 x2 x5 t15 (x5 + 1) h10)
def f_X11_feed (v0 : Option Nat) (v1 : Int32) (v2 : Int32) (h : AH) : Option (Int32 × AH) :=
    bd (f_X11_isDaysOn v1 h) fun r2 h1 =>
    (if r2 = 0 then
    some ((-1), h1)
    else (if v2 < 0 then
    some ((-1), h1)
    else (if v2 ≤ 1 then
    f_X11_feed_b26 FU v0 v1 v2 0 (-1) 0 h1
    else some ((-1), h1))))
set_option maxRecDepth 100000 in
set_option maxHeartbeats 4000000 in
theorem s_X11_feed {X : GX} (hX : XOK X) (v0 : Option Nat) (v1 : Int32) (v2 : Int32) (h : AH) : Snd X yX11_feed cX11_feed 6 (some .int) 5 108 rI [vR v0, vI v1, vI v2] h (f_X11_feed v0 v1 v2 h) := by
  refine snd_of hX (by decide +kernel) (Nat.le_of_ble_eq_true rfl) ?_
  show Gp (p_X11_feed X h) RX11 "feed" cX11_feed (some .int) 0 [(0, vR v0), (1, vI v1), (2, vI v2)] [] h _
  unfold f_X11_feed
  refine g_iload_n 1 dX11_feed_0 rfl rfl ?_
  refine g_callSI (st := []) (s_X11_isDaysOn hX v1 h) kml_X11_174 kst_X11_isDaysOn kii_X11 kcd_X11_isDaysOn ds_X11_isDaysOn rfl ⟨Nat.le_of_ble_eq_true rfl, Nat.le_of_ble_eq_true rfl⟩ (Nat.le_of_ble_eq_true rfl) rfl dX11_feed_1 (fun r2 h1 => ?_)
  refine g_ifeq (tgt := 16) dX11_feed_4 (by decide) ?_ ?_
  · refine g_iconst (v := (-1)) dX11_feed_16 (by decide) ?_
    exact g_ireturn rfl dX11_feed_17
  · refine g_iload_n 2 dX11_feed_7 rfl rfl ?_
    refine g_iflt (tgt := 16) dX11_feed_8 (by decide) ?_ ?_
    · refine g_iconst (v := (-1)) dX11_feed_16 (by decide) ?_
      exact g_ireturn rfl dX11_feed_17
    · refine g_iload_n 2 dX11_feed_11 rfl rfl ?_
      refine g_iconst (v := 1) dX11_feed_12 (by decide) ?_
      refine g_icmple (tgt := 18) dX11_feed_13 (by decide) ?_ ?_
      · refine g_iconst (v := 0) dX11_feed_18 (by decide) ?_
        refine g_istore_n (ls' := [(3, vI 0), (0, vR v0), (1, vI v1), (2, vI v2)]) dX11_feed_19 rfl (Nat.le_of_ble_eq_true rfl) rfl ?_
        refine g_iconst (v := (-1)) dX11_feed_20 (by decide) ?_
        refine g_istore (ls' := [(4, vI ((-1))), (3, vI 0), (0, vR v0), (1, vI v1), (2, vI v2)]) dX11_feed_21 (Nat.le_of_ble_eq_true rfl) rfl ?_
        refine g_iconst (v := 0) dX11_feed_23 (by decide) ?_
        refine g_istore (ls' := [(5, vI 0), (4, vI ((-1))), (3, vI 0), (0, vR v0), (1, vI v1), (2, vI v2)]) dX11_feed_24 (Nat.le_of_ble_eq_true rfl) rfl ?_
        exact g_sub2 [3, 4, 5, 2, 1, 0] rfl (s_X11_feed_b26 hX FU v0 v1 v2 0 (-1) 0 h1)
      · refine g_iconst (v := (-1)) dX11_feed_16 (by decide) ?_
        exact g_ireturn rfl dX11_feed_17
abbrev p_X11_weighedSoAs (X : GX) (h0 : AH) : PX Int32 := (X, (fun x => Sum.inl (rI x)), (5, 108, 5), h0)
def f_X11_weighedSoAs_b62 (k24 : Option Nat → Option Nat → Int32 → Int32 → AH → Option (Int32 × AH)) (x0 : Option Nat) (x2 : Option Nat) (x3 : Int32) (x4 : Int32) (h : AH) : Option (Int32 × AH) :=
    (gR h x0 [11] 1).bind fun t12 =>
    bd (cv h t12 5 (f_X5_passDayOf t12 x3 h)) fun u14 h13 =>
    k24 x0 x2 x3 (x4 + 1) h13
set_option maxRecDepth 100000 in
set_option maxHeartbeats 4000000 in
theorem s_X11_weighedSoAs_b62 {X : GX} (hX : XOK X) {h0 : AH} (k24 : Option Nat → Option Nat → Int32 → Int32 → AH → Option (Int32 × AH)) (hk24 : ∀ (z0 : Option Nat) (z1 : Option Nat) (z2 : Int32) (z3 : Int32) (h : AH), Gp (p_X11_weighedSoAs X h0) RX11 "weighedSoAs" cX11_weighedSoAs (some .boolean) 24 [(0, vR z0), (2, vR z1), (3, vI z2), (4, vI z3)] [] h (k24 z0 z1 z2 z3 h)) : ∀ (x0 : Option Nat) (x2 : Option Nat) (x3 : Int32) (x4 : Int32) (h : AH), Gp (p_X11_weighedSoAs X h0) RX11 "weighedSoAs" cX11_weighedSoAs (some .boolean) 62 [(0, vR x0), (2, vR x2), (3, vI x3), (4, vI x4)] [] h (f_X11_weighedSoAs_b62 k24 x0 x2 x3 x4 h) := by
  intro x0 x2 x3 x4 h
  unfold f_X11_weighedSoAs_b62
  refine g_aload_n 0 dX11_weighedSoAs_62 rfl rfl ?_
  refine g_getR kfl_X11_16 fo_X11_mind dX11_weighedSoAs_63 (fun t12 => ?_)
  refine g_iload_n 2 dX11_weighedSoAs_66 rfl rfl ?_
  refine g_callVU (st := []) (ci := 5) rfl (s_X5_passDayOf hX t12 x3 h) kml_X11_186 kim_X5_passDayOf kse_X5_passDayOf kii_X5 kcd_X5_passDayOf rfl ds_X5_passDayOf rfl ⟨Nat.le_of_ble_eq_true rfl, Nat.le_of_ble_eq_true rfl⟩ (Nat.le_of_ble_eq_true rfl) rfl dX11_weighedSoAs_67 (fun u14 h13 => ?_)
  refine g_iinc 3 (v := (x4 + 1)) (ls' := [(4, vI ((x4 + 1))), (0, vR x0), (2, vR x2), (3, vI x3)]) dX11_weighedSoAs_70 rfl rfl (Nat.le_of_ble_eq_true rfl) rfl ?_
  refine g_goto (tgt := 24) dX11_weighedSoAs_73 (by decide) ?_
  exact g_sub2 [1, 2, 3, 0] rfl (hk24 x0 x2 x3 (x4 + 1) h13)
def f_X11_weighedSoAs_b24 : Nat → Option Nat → Option Nat → Int32 → Int32 → AH → Option (Int32 × AH)
  | 0 => fun _ _ _ _ _ => none
  | n + 1 => fun x0 x2 x3 x4 h =>
    bd (cv h x2 7 (f_X7_size x2 h)) fun r9 h8 =>
    (if r9 ≤ x4 then
    some (1, h8)
    else bd (cv h8 x2 7 (f_X7_isSkipped x2 x4 h8)) fun r11 h10 =>
    (if r11 = 0 then
    bd (cv h10 x2 7 (f_X7_at x2 x4 h10)) fun r16 h15 =>
    (gR h15 x0 [11] 1).bind fun t17 =>
    (gR h15 t17 [5] 1).bind fun t18 =>
    (iA h15 t18 x3).bind fun t19 =>
    (if r16 = t19 then
    f_X11_weighedSoAs_b62 (f_X11_weighedSoAs_b24 n) x0 x2 x3 x4 h15
    else some (0, h15))
    else f_X11_weighedSoAs_b62 (f_X11_weighedSoAs_b24 n) x0 x2 x3 x4 h10))
set_option maxRecDepth 100000 in
set_option maxHeartbeats 4000000 in
theorem s_X11_weighedSoAs_b24 {X : GX} (hX : XOK X) {h0 : AH} : ∀ (n : Nat) (x0 : Option Nat) (x2 : Option Nat) (x3 : Int32) (x4 : Int32) (h : AH), Gp (p_X11_weighedSoAs X h0) RX11 "weighedSoAs" cX11_weighedSoAs (some .boolean) 24 [(0, vR x0), (2, vR x2), (3, vI x3), (4, vI x4)] [] h (f_X11_weighedSoAs_b24 n x0 x2 x3 x4 h) := by
  intro n
  induction n with
  | zero => intro x0 x2 x3 x4 h; exact g_none
  | succ n ih =>
    intro x0 x2 x3 x4 h
    rw [f_X11_weighedSoAs_b24]
    refine g_iload 3 dX11_weighedSoAs_24 rfl ?_
    refine g_aload_n 1 dX11_weighedSoAs_26 rfl rfl ?_
    refine g_callVI (st := [vI x4]) (ci := 7) rfl (s_X7_size hX x2 h) kml_X11_74 kim_X7_size kse_X7_size kii_X7 kcd_X7_size rfl ds_X7_size rfl ⟨Nat.le_of_ble_eq_true rfl, Nat.le_of_ble_eq_true rfl⟩ (Nat.le_of_ble_eq_true rfl) rfl dX11_weighedSoAs_27 (fun r9 h8 => ?_)
    refine g_icmpge (tgt := 76) dX11_weighedSoAs_30 (by decide) ?_ ?_
    · refine g_iconst (v := 1) dX11_weighedSoAs_76 (by decide) ?_
      exact g_zreturn (by decide +kernel) rfl dX11_weighedSoAs_77
    · refine g_aload_n 1 dX11_weighedSoAs_33 rfl rfl ?_
      refine g_iload 3 dX11_weighedSoAs_34 rfl ?_
      refine g_callVI (st := []) (ci := 7) rfl (s_X7_isSkipped hX x2 x4 h8) kml_X11_290 kim_X7_isSkipped kse_X7_isSkipped kii_X7 kcd_X7_isSkipped rfl ds_X7_isSkipped rfl ⟨Nat.le_of_ble_eq_true rfl, Nat.le_of_ble_eq_true rfl⟩ (Nat.le_of_ble_eq_true rfl) rfl dX11_weighedSoAs_36 (fun r11 h10 => ?_)
      refine g_ifne (tgt := 62) dX11_weighedSoAs_39 (by decide) ?_ ?_
      · exact g_sub2 [0, 1, 2, 3] rfl (s_X11_weighedSoAs_b62 hX (f_X11_weighedSoAs_b24 n) (fun z0 z1 z2 z3 z4 => ih z0 z1 z2 z3 z4) x0 x2 x3 x4 h10)
      · refine g_aload_n 1 dX11_weighedSoAs_42 rfl rfl ?_
        refine g_iload 3 dX11_weighedSoAs_43 rfl ?_
        refine g_callVI (st := []) (ci := 7) rfl (s_X7_at hX x2 x4 h10) kml_X11_293 kim_X7_at kse_X7_at kii_X7 kcd_X7_at rfl ds_X7_at rfl ⟨Nat.le_of_ble_eq_true rfl, Nat.le_of_ble_eq_true rfl⟩ (Nat.le_of_ble_eq_true rfl) rfl dX11_weighedSoAs_45 (fun r16 h15 => ?_)
        refine g_aload_n 0 dX11_weighedSoAs_48 rfl rfl ?_
        refine g_getR kfl_X11_16 fo_X11_mind dX11_weighedSoAs_49 (fun t17 => ?_)
        refine g_getR kfl_X11_95 fo_X5_weight dX11_weighedSoAs_52 (fun t18 => ?_)
        refine g_iload_n 2 dX11_weighedSoAs_55 rfl rfl ?_
        refine g_iaload dX11_weighedSoAs_56 (fun t19 => ?_)
        refine g_icmpeq (tgt := 62) dX11_weighedSoAs_57 (by decide) ?_ ?_
        · exact g_sub2 [0, 1, 2, 3] rfl (s_X11_weighedSoAs_b62 hX (f_X11_weighedSoAs_b24 n) (fun z0 z1 z2 z3 z4 => ih z0 z1 z2 z3 z4) x0 x2 x3 x4 h15)
        · refine g_iconst (v := 0) dX11_weighedSoAs_60 (by decide) ?_
          exact g_zreturn (by decide +kernel) rfl dX11_weighedSoAs_61
def f_X11_weighedSoAs (v0 : Option Nat) (v1 : Option Nat) (v2 : Option Nat) (v3 : Int32) (h : AH) : Option (Int32 × AH) :=
    (gR h v0 [11] 1).bind fun t1 =>
    (gR h v0 [11] 0).bind fun t2 =>
    bd (cv h t1 5 (f_X5_becomes t1 t2 h)) fun u4 h3 =>
    (gR h3 v0 [11] 1).bind fun t5 =>
    (gR h3 t5 [5] 0).bind fun t6 =>
    (rS h3 t6 2 GF v3 v1).bind fun h7 =>
    f_X11_weighedSoAs_b24 FU v0 v2 v3 0 h7
set_option maxRecDepth 100000 in
set_option maxHeartbeats 4000000 in
theorem s_X11_weighedSoAs {X : GX} (hX : XOK X) (v0 : Option Nat) (v1 : Option Nat) (v2 : Option Nat) (v3 : Int32) (h : AH) : Snd X yX11_weighedSoAs cX11_weighedSoAs 5 (some .boolean) 5 108 rI [vR v0, vR v1, vR v2, vI v3] h (f_X11_weighedSoAs v0 v1 v2 v3 h) := by
  refine snd_of hX (by decide +kernel) (Nat.le_of_ble_eq_true rfl) ?_
  show Gp (p_X11_weighedSoAs X h) RX11 "weighedSoAs" cX11_weighedSoAs (some .boolean) 0 [(0, vR v0), (1, vR v1), (2, vR v2), (3, vI v3)] [] h _
  unfold f_X11_weighedSoAs
  refine g_aload_n 0 dX11_weighedSoAs_0 rfl rfl ?_
  refine g_getR kfl_X11_16 fo_X11_mind dX11_weighedSoAs_1 (fun t1 => ?_)
  refine g_aload_n 0 dX11_weighedSoAs_4 rfl rfl ?_
  refine g_getR kfl_X11_10 fo_X11_now dX11_weighedSoAs_5 (fun t2 => ?_)
  refine g_callVU (st := []) (ci := 5) rfl (s_X5_becomes hX t1 t2 h) kml_X11_70 kim_X5_becomes kse_X5_becomes kii_X5 kcd_X5_becomes rfl ds_X5_becomes rfl ⟨Nat.le_of_ble_eq_true rfl, Nat.le_of_ble_eq_true rfl⟩ (Nat.le_of_ble_eq_true rfl) rfl dX11_weighedSoAs_8 (fun u4 h3 => ?_)
  refine g_aload_n 0 dX11_weighedSoAs_11 rfl rfl ?_
  refine g_getR kfl_X11_16 fo_X11_mind dX11_weighedSoAs_12 (fun t5 => ?_)
  refine g_getR kfl_X11_87 fo_X5_kind dX11_weighedSoAs_15 (fun t6 => ?_)
  refine g_iload_n 3 dX11_weighedSoAs_18 rfl rfl ?_
  refine g_aload_n 1 dX11_weighedSoAs_19 rfl rfl ?_
  refine g_aastore (kd := 2) (by decide) (by decide) asgG dX11_weighedSoAs_20 (fun h7 => ?_)
  refine g_iconst (v := 0) dX11_weighedSoAs_21 (by decide) ?_
  refine g_istore (ls' := [(4, vI 0), (0, vR v0), (1, vR v1), (2, vR v2), (3, vI v3)]) dX11_weighedSoAs_22 (Nat.le_of_ble_eq_true rfl) rfl ?_
  exact g_sub2 [1, 3, 4, 0] rfl (s_X11_weighedSoAs_b24 hX FU v0 v2 v3 0 h7)
abbrev p_X11_figuresBy (X : GX) (h0 : AH) : PX Int32 := (X, (fun x => Sum.inl (rI x)), (6, 132, 5), h0)
def f_X11_figuresBy_b5 : Nat → Option Nat → Option Nat → Int32 → Int32 → Int32 → AH → Option (Int32 × AH)
  | 0 => fun _ _ _ _ _ _ => none
  | n + 1 => fun x0 x1 x2 x3 x4 h =>
    (if 10 ≤ x4 then
    some (x3, h)
    else (gR h x0 [11] 0).bind fun t1 =>
    (gR h t1 [5] 0).bind fun t2 =>
    (rA h t2 2 x2).bind fun t3 =>
    (gI h t3 GF 0).bind fun t4 =>
    bd (f_X11_kindOf t4 x4 h) fun r6 h5 =>
    bd (cv h5 x0 11 (f_X11_weighedSoAs x0 r6 x1 x2 h5)) fun r8 h7 =>
    (if r8 = 0 then
    f_X11_figuresBy_b5 n x0 x1 x2 x3 (x4 + 1) h7
    else nm (x3 ||| ((1 : Int32) <<< (x4 &&& 31))) fun t9 =>
    f_X11_figuresBy_b5 n x0 x1 x2 t9 (x4 + 1) h7))
set_option maxRecDepth 100000 in
set_option maxHeartbeats 4000000 in
theorem s_X11_figuresBy_b5 {X : GX} (hX : XOK X) {h0 : AH} : ∀ (n : Nat) (x0 : Option Nat) (x1 : Option Nat) (x2 : Int32) (x3 : Int32) (x4 : Int32) (h : AH), Gp (p_X11_figuresBy X h0) RX11 "figuresBy" cX11_figuresBy (some .int) 5 [(0, vR x0), (1, vR x1), (2, vI x2), (3, vI x3), (4, vI x4)] [] h (f_X11_figuresBy_b5 n x0 x1 x2 x3 x4 h) := by
  intro n
  induction n with
  | zero => intro x0 x1 x2 x3 x4 h; exact g_none
  | succ n ih =>
    intro x0 x1 x2 x3 x4 h
    rw [f_X11_figuresBy_b5]
    refine g_iload 4 dX11_figuresBy_5 rfl ?_
    refine g_bipush (v := 10) dX11_figuresBy_7 (by decide) ?_
    refine g_icmpge (tgt := 51) dX11_figuresBy_9 (by decide) ?_ ?_
    · refine g_iload_n 3 dX11_figuresBy_51 rfl rfl ?_
      exact g_ireturn rfl dX11_figuresBy_52
    · refine g_aload_n 0 dX11_figuresBy_12 rfl rfl ?_
      refine g_aload_n 0 dX11_figuresBy_13 rfl rfl ?_
      refine g_getR kfl_X11_10 fo_X11_now dX11_figuresBy_14 (fun t1 => ?_)
      refine g_getR kfl_X11_87 fo_X5_kind dX11_figuresBy_17 (fun t2 => ?_)
      refine g_iload_n 2 dX11_figuresBy_20 rfl rfl ?_
      refine g_aaload (kd := 2) (by decide) (by decide) dX11_figuresBy_21 (fun t3 => ?_)
      refine g_getI kfl_X11_90 fo_X4_kind dX11_figuresBy_22 (fun t4 => ?_)
      refine g_iload 4 dX11_figuresBy_25 rfl ?_
      refine g_callSR (st := [vR x0]) (s_X11_kindOf hX t4 x4 h) kml_X11_282 kst_X11_kindOf kii_X11 kcd_X11_kindOf ds_X11_kindOf rfl ⟨Nat.le_of_ble_eq_true rfl, Nat.le_of_ble_eq_true rfl⟩ (Nat.le_of_ble_eq_true rfl) rfl dX11_figuresBy_27 (fun r6 h5 => ?_)
      refine g_aload_n 1 dX11_figuresBy_30 rfl rfl ?_
      refine g_iload_n 2 dX11_figuresBy_31 rfl rfl ?_
      refine g_callVI (st := []) (ci := 11) rfl (s_X11_weighedSoAs hX x0 r6 x1 x2 h5) kml_X11_286 kim_X11_weighedSoAs kse_X11_weighedSoAs kii_X11 kcd_X11_weighedSoAs rfl ds_X11_weighedSoAs rfl ⟨Nat.le_of_ble_eq_true rfl, Nat.le_of_ble_eq_true rfl⟩ (Nat.le_of_ble_eq_true rfl) rfl dX11_figuresBy_32 (fun r8 h7 => ?_)
      refine g_ifeq (tgt := 45) dX11_figuresBy_35 (by decide) ?_ ?_
      · refine g_iinc 4 (v := (x4 + 1)) (ls' := [(4, vI ((x4 + 1))), (0, vR x0), (1, vR x1), (2, vI x2), (3, vI x3)]) dX11_figuresBy_45 rfl rfl (Nat.le_of_ble_eq_true rfl) rfl ?_
        refine g_goto (tgt := 5) dX11_figuresBy_48 (by decide) ?_
        exact g_sub2 [1, 2, 3, 4, 0] rfl (ih x0 x1 x2 x3 (x4 + 1) h7)
      · refine g_iload_n 3 dX11_figuresBy_38 rfl rfl ?_
        refine g_iconst (v := 1) dX11_figuresBy_39 (by decide) ?_
        refine g_iload 4 dX11_figuresBy_40 rfl ?_
        refine g_ishl dX11_figuresBy_42 ?_
        refine g_ior dX11_figuresBy_43 ?_
        refine g_nmI (fun t9 => ?_)
        refine g_istore_n (ls' := [(3, vI t9), (0, vR x0), (1, vR x1), (2, vI x2), (4, vI x4)]) dX11_figuresBy_44 rfl (Nat.le_of_ble_eq_true rfl) rfl ?_
        refine g_iinc 4 (v := (x4 + 1)) (ls' := [(4, vI ((x4 + 1))), (3, vI t9), (0, vR x0), (1, vR x1), (2, vI x2)]) dX11_figuresBy_45 rfl rfl (Nat.le_of_ble_eq_true rfl) rfl ?_
        refine g_goto (tgt := 5) dX11_figuresBy_48 (by decide) ?_
        exact g_sub2 [2, 3, 4, 1, 0] rfl (ih x0 x1 x2 t9 (x4 + 1) h7)
def f_X11_figuresBy (v0 : Option Nat) (v1 : Option Nat) (v2 : Int32) (h : AH) : Option (Int32 × AH) :=
    f_X11_figuresBy_b5 FU v0 v1 v2 0 0 h
set_option maxRecDepth 100000 in
set_option maxHeartbeats 4000000 in
theorem s_X11_figuresBy {X : GX} (hX : XOK X) (v0 : Option Nat) (v1 : Option Nat) (v2 : Int32) (h : AH) : Snd X yX11_figuresBy cX11_figuresBy 5 (some .int) 6 132 rI [vR v0, vR v1, vI v2] h (f_X11_figuresBy v0 v1 v2 h) := by
  refine snd_of hX (by decide +kernel) (Nat.le_of_ble_eq_true rfl) ?_
  show Gp (p_X11_figuresBy X h) RX11 "figuresBy" cX11_figuresBy (some .int) 0 [(0, vR v0), (1, vR v1), (2, vI v2)] [] h _
  unfold f_X11_figuresBy
  refine g_iconst (v := 0) dX11_figuresBy_0 (by decide) ?_
  refine g_istore_n (ls' := [(3, vI 0), (0, vR v0), (1, vR v1), (2, vI v2)]) dX11_figuresBy_1 rfl (Nat.le_of_ble_eq_true rfl) rfl ?_
  refine g_iconst (v := 0) dX11_figuresBy_2 (by decide) ?_
  refine g_istore (ls' := [(4, vI 0), (3, vI 0), (0, vR v0), (1, vR v1), (2, vI v2)]) dX11_figuresBy_3 (Nat.le_of_ble_eq_true rfl) rfl ?_
  exact g_sub2 [2, 3, 4, 1, 0] rfl (s_X11_figuresBy_b5 hX FU v0 v1 v2 0 0 h)
abbrev p_X11_lowestOf (X : GX) (h0 : AH) : PX Int32 := (X, (fun x => Sum.inl (rI x)), (0, 0, 2), h0)
def f_X11_lowestOf_b2 : Nat → Int32 → Int32 → AH → Option (Int32 × AH)
  | 0 => fun _ _ _ => none
  | n + 1 => fun x0 x1 h =>
    (if 6 ≤ x1 then
    some (x1, h)
    else (if ((x0 >>> (x1 &&& 31)) &&& 1) = 0 then
    f_X11_lowestOf_b2 n x0 (x1 + 1) h
    else some (x1, h)))
set_option maxRecDepth 100000 in
set_option maxHeartbeats 4000000 in
theorem s_X11_lowestOf_b2 {X : GX} (hX : XOK X) {h0 : AH} : ∀ (n : Nat) (x0 : Int32) (x1 : Int32) (h : AH), Gp (p_X11_lowestOf X h0) RX11 "lowestOf" cX11_lowestOf (some .int) 2 [(0, vI x0), (1, vI x1)] [] h (f_X11_lowestOf_b2 n x0 x1 h) := by
  intro n
  induction n with
  | zero => intro x0 x1 h; exact g_none
  | succ n ih =>
    intro x0 x1 h
    rw [f_X11_lowestOf_b2]
    refine g_iload_n 1 dX11_lowestOf_2 rfl rfl ?_
    refine g_bipush (v := 6) dX11_lowestOf_3 (by decide) ?_
    refine g_icmpge (tgt := 22) dX11_lowestOf_5 (by decide) ?_ ?_
    · refine g_iload_n 1 dX11_lowestOf_22 rfl rfl ?_
      exact g_ireturn rfl dX11_lowestOf_23
    · refine g_iload_n 0 dX11_lowestOf_8 rfl rfl ?_
      refine g_iload_n 1 dX11_lowestOf_9 rfl rfl ?_
      refine g_ishr dX11_lowestOf_10 ?_
      refine g_iconst (v := 1) dX11_lowestOf_11 (by decide) ?_
      refine g_iand dX11_lowestOf_12 ?_
      refine g_ifne (tgt := 22) dX11_lowestOf_13 (by decide) ?_ ?_
      · refine g_iload_n 1 dX11_lowestOf_22 rfl rfl ?_
        exact g_ireturn rfl dX11_lowestOf_23
      · refine g_iinc 1 (v := (x1 + 1)) (ls' := [(1, vI ((x1 + 1))), (0, vI x0)]) dX11_lowestOf_16 rfl rfl (Nat.le_of_ble_eq_true rfl) rfl ?_
        refine g_goto (tgt := 2) dX11_lowestOf_19 (by decide) ?_
        exact g_sub2 [1, 0] rfl (ih x0 (x1 + 1) h)
def f_X11_lowestOf (v0 : Int32) (h : AH) : Option (Int32 × AH) :=
    f_X11_lowestOf_b2 FU v0 0 h
set_option maxRecDepth 100000 in
set_option maxHeartbeats 4000000 in
theorem s_X11_lowestOf {X : GX} (hX : XOK X) (v0 : Int32) (h : AH) : Snd X yX11_lowestOf cX11_lowestOf 2 (some .int) 0 0 rI [vI v0] h (f_X11_lowestOf v0 h) := by
  refine snd_of hX (by decide +kernel) (Nat.le_of_ble_eq_true rfl) ?_
  show Gp (p_X11_lowestOf X h) RX11 "lowestOf" cX11_lowestOf (some .int) 0 [(0, vI v0)] [] h _
  unfold f_X11_lowestOf
  refine g_iconst (v := 0) dX11_lowestOf_0 (by decide) ?_
  refine g_istore_n (ls' := [(1, vI 0), (0, vI v0)]) dX11_lowestOf_1 rfl (Nat.le_of_ble_eq_true rfl) rfl ?_
  exact g_sub2 [1, 0] rfl (s_X11_lowestOf_b2 hX FU v0 0 h)
abbrev p_X11_firstToLeave (X : GX) (h0 : AH) : PX Int32 := (X, (fun x => Sum.inl (rI x)), (4, 86, 3), h0)
def f_X11_firstToLeave_b13 : Nat → Option Nat → Int32 → AH → Option (Int32 × AH)
  | 0 => fun _ _ _ => none
  | n + 1 => fun x0 x1 h =>
    (if 60 < x1 then
    some ((-4), h)
    else (gR h x0 [11] 1).bind fun t5 =>
    bd (cv h t5 5 (f_X5_passDay t5 h)) fun u7 h6 =>
    (gR h6 x0 [11] 0).bind fun t8 =>
    (gI h6 t8 [5] 6).bind fun t9 =>
    (gR h6 x0 [11] 1).bind fun t10 =>
    (gI h6 t10 [5] 6).bind fun t11 =>
    nm (t9 &&& (t11 ^^^ (-1))) fun t12 =>
    (if t12 = 0 then
    f_X11_firstToLeave_b13 n x0 (x1 + 1) h6
    else bd (f_X11_lowestOf t12 h6) fun r14 h13 =>
    some (r14, h13)))
set_option maxRecDepth 100000 in
set_option maxHeartbeats 4000000 in
theorem s_X11_firstToLeave_b13 {X : GX} (hX : XOK X) {h0 : AH} : ∀ (n : Nat) (x0 : Option Nat) (x1 : Int32) (h : AH), Gp (p_X11_firstToLeave X h0) RX11 "firstToLeave" cX11_firstToLeave (some .int) 13 [(0, vR x0), (1, vI x1)] [] h (f_X11_firstToLeave_b13 n x0 x1 h) := by
  intro n
  induction n with
  | zero => intro x0 x1 h; exact g_none
  | succ n ih =>
    intro x0 x1 h
    rw [f_X11_firstToLeave_b13]
    refine g_iload_n 1 dX11_firstToLeave_13 rfl rfl ?_
    refine g_bipush (v := 60) dX11_firstToLeave_14 (by decide) ?_
    refine g_icmpgt (tgt := 59) dX11_firstToLeave_16 (by decide) ?_ ?_
    · refine g_bipush (v := (-4)) dX11_firstToLeave_59 (by decide) ?_
      exact g_ireturn rfl dX11_firstToLeave_61
    · refine g_aload_n 0 dX11_firstToLeave_19 rfl rfl ?_
      refine g_getR kfl_X11_16 fo_X11_mind dX11_firstToLeave_20 (fun t5 => ?_)
      refine g_callVU (st := []) (ci := 5) rfl (s_X5_passDay hX t5 h) kml_X11_195 kim_X5_passDay kse_X5_passDay kii_X5 kcd_X5_passDay rfl ds_X5_passDay rfl ⟨Nat.le_of_ble_eq_true rfl, Nat.le_of_ble_eq_true rfl⟩ (Nat.le_of_ble_eq_true rfl) rfl dX11_firstToLeave_23 (fun u7 h6 => ?_)
      refine g_aload_n 0 dX11_firstToLeave_26 rfl rfl ?_
      refine g_getR kfl_X11_10 fo_X11_now dX11_firstToLeave_27 (fun t8 => ?_)
      refine g_getI kfl_X11_177 fo_X5_inside dX11_firstToLeave_30 (fun t9 => ?_)
      refine g_aload_n 0 dX11_firstToLeave_33 rfl rfl ?_
      refine g_getR kfl_X11_16 fo_X11_mind dX11_firstToLeave_34 (fun t10 => ?_)
      refine g_getI kfl_X11_177 fo_X5_inside dX11_firstToLeave_37 (fun t11 => ?_)
      refine g_iconst (v := (-1)) dX11_firstToLeave_40 (by decide) ?_
      refine g_ixor dX11_firstToLeave_41 ?_
      refine g_iand dX11_firstToLeave_42 ?_
      refine g_nmI (fun t12 => ?_)
      refine g_istore_n (ls' := [(2, vI t12), (0, vR x0), (1, vI x1)]) dX11_firstToLeave_43 rfl (Nat.le_of_ble_eq_true rfl) rfl ?_
      refine g_iload_n 0 dX11_firstToLeave_44 rfl rfl ?_
      refine g_ifeq (tgt := 53) dX11_firstToLeave_45 (by decide) ?_ ?_
      · refine g_iinc 2 (v := (x1 + 1)) (ls' := [(1, vI ((x1 + 1))), (2, vI t12), (0, vR x0)]) dX11_firstToLeave_53 rfl rfl (Nat.le_of_ble_eq_true rfl) rfl ?_
        refine g_goto (tgt := 13) dX11_firstToLeave_56 (by decide) ?_
        exact g_sub2 [2, 0] rfl (ih x0 (x1 + 1) h6)
      · refine g_iload_n 0 dX11_firstToLeave_48 rfl rfl ?_
        refine g_callSI (st := []) (s_X11_lowestOf hX t12 h6) kml_X11_198 kst_X11_lowestOf kii_X11 kcd_X11_lowestOf ds_X11_lowestOf rfl ⟨Nat.le_of_ble_eq_true rfl, Nat.le_of_ble_eq_true rfl⟩ (Nat.le_of_ble_eq_true rfl) rfl dX11_firstToLeave_49 (fun r14 h13 => ?_)
        exact g_ireturn rfl dX11_firstToLeave_52
def f_X11_firstToLeave (v0 : Option Nat) (h : AH) : Option (Int32 × AH) :=
    (gR h v0 [11] 1).bind fun t1 =>
    (gR h v0 [11] 0).bind fun t2 =>
    bd (cv h t1 5 (f_X5_becomes t1 t2 h)) fun u4 h3 =>
    f_X11_firstToLeave_b13 FU v0 1 h3
set_option maxRecDepth 100000 in
set_option maxHeartbeats 4000000 in
theorem s_X11_firstToLeave {X : GX} (hX : XOK X) (v0 : Option Nat) (h : AH) : Snd X yX11_firstToLeave cX11_firstToLeave 3 (some .int) 4 86 rI [vR v0] h (f_X11_firstToLeave v0 h) := by
  refine snd_of hX (by decide +kernel) (Nat.le_of_ble_eq_true rfl) ?_
  show Gp (p_X11_firstToLeave X h) RX11 "firstToLeave" cX11_firstToLeave (some .int) 0 [(0, vR v0)] [] h _
  unfold f_X11_firstToLeave
  refine g_aload_n 0 dX11_firstToLeave_0 rfl rfl ?_
  refine g_getR kfl_X11_16 fo_X11_mind dX11_firstToLeave_1 (fun t1 => ?_)
  refine g_aload_n 0 dX11_firstToLeave_4 rfl rfl ?_
  refine g_getR kfl_X11_10 fo_X11_now dX11_firstToLeave_5 (fun t2 => ?_)
  refine g_callVU (st := []) (ci := 5) rfl (s_X5_becomes hX t1 t2 h) kml_X11_70 kim_X5_becomes kse_X5_becomes kii_X5 kcd_X5_becomes rfl ds_X5_becomes rfl ⟨Nat.le_of_ble_eq_true rfl, Nat.le_of_ble_eq_true rfl⟩ (Nat.le_of_ble_eq_true rfl) rfl dX11_firstToLeave_8 (fun u4 h3 => ?_)
  refine g_iconst (v := 1) dX11_firstToLeave_11 (by decide) ?_
  refine g_istore_n (ls' := [(1, vI 1), (0, vR v0)]) dX11_firstToLeave_12 rfl (Nat.le_of_ble_eq_true rfl) rfl ?_
  exact g_sub2 [1, 0] rfl (s_X11_firstToLeave_b13 hX FU v0 1 h3)
abbrev p_X11_forged (X : GX) (h0 : AH) : PX Int32 := (X, (fun x => Sum.inl (rI x)), (3, 62, 4), h0)
def f_X11_forged_b27 : Nat → Option Nat → Option Nat → Int32 → AH → Option (Int32 × AH)
  | 0 => fun _ _ _ _ => none
  | n + 1 => fun x0 x2 x3 h =>
    bd (cv h x2 7 (f_X7_size x2 h)) fun r6 h5 =>
    (if r6 ≤ x3 then
    some ((-4), h5)
    else (gR h5 x0 [11] 0).bind fun t7 =>
    bd (cv h5 t7 5 (f_X5_knows t7 x3 h5)) fun r9 h8 =>
    (if r9 = 0 then
    some (x3, h8)
    else bd (cv h8 x2 7 (f_X7_at x2 x3 h8)) fun r11 h10 =>
    (gR h10 x0 [11] 0).bind fun t12 =>
    (gR h10 t12 [5] 2).bind fun t13 =>
    (iA h10 t13 x3).bind fun t14 =>
    (if r11 = t14 then
    f_X11_forged_b27 n x0 x2 (x3 + 1) h10
    else some (x3, h10))))
set_option maxRecDepth 100000 in
set_option maxHeartbeats 4000000 in
theorem s_X11_forged_b27 {X : GX} (hX : XOK X) {h0 : AH} : ∀ (n : Nat) (x0 : Option Nat) (x2 : Option Nat) (x3 : Int32) (h : AH), Gp (p_X11_forged X h0) RX11 "forged" cX11_forged (some .int) 27 [(0, vR x0), (2, vR x2), (3, vI x3)] [] h (f_X11_forged_b27 n x0 x2 x3 h) := by
  intro n
  induction n with
  | zero => intro x0 x2 x3 h; exact g_none
  | succ n ih =>
    intro x0 x2 x3 h
    rw [f_X11_forged_b27]
    refine g_iload_n 2 dX11_forged_27 rfl rfl ?_
    refine g_aload_n 1 dX11_forged_28 rfl rfl ?_
    refine g_callVI (st := [vI x3]) (ci := 7) rfl (s_X7_size hX x2 h) kml_X11_74 kim_X7_size kse_X7_size kii_X7 kcd_X7_size rfl ds_X7_size rfl ⟨Nat.le_of_ble_eq_true rfl, Nat.le_of_ble_eq_true rfl⟩ (Nat.le_of_ble_eq_true rfl) rfl dX11_forged_29 (fun r6 h5 => ?_)
    refine g_icmpge (tgt := 71) dX11_forged_32 (by decide) ?_ ?_
    · refine g_bipush (v := (-4)) dX11_forged_71 (by decide) ?_
      exact g_ireturn rfl dX11_forged_73
    · refine g_aload_n 0 dX11_forged_35 rfl rfl ?_
      refine g_getR kfl_X11_10 fo_X11_now dX11_forged_36 (fun t7 => ?_)
      refine g_iload_n 2 dX11_forged_39 rfl rfl ?_
      refine g_callVI (st := []) (ci := 5) rfl (s_X5_knows hX t7 x3 h5) kml_X11_84 kim_X5_knows kse_X5_knows kii_X5 kcd_X5_knows rfl ds_X5_knows rfl ⟨Nat.le_of_ble_eq_true rfl, Nat.le_of_ble_eq_true rfl⟩ (Nat.le_of_ble_eq_true rfl) rfl dX11_forged_40 (fun r9 h8 => ?_)
      refine g_ifeq (tgt := 63) dX11_forged_43 (by decide) ?_ ?_
      · refine g_iload_n 2 dX11_forged_63 rfl rfl ?_
        exact g_ireturn rfl dX11_forged_64
      · refine g_aload_n 1 dX11_forged_46 rfl rfl ?_
        refine g_iload_n 2 dX11_forged_47 rfl rfl ?_
        refine g_callVI (st := []) (ci := 7) rfl (s_X7_at hX x2 x3 h8) kml_X11_293 kim_X7_at kse_X7_at kii_X7 kcd_X7_at rfl ds_X7_at rfl ⟨Nat.le_of_ble_eq_true rfl, Nat.le_of_ble_eq_true rfl⟩ (Nat.le_of_ble_eq_true rfl) rfl dX11_forged_48 (fun r11 h10 => ?_)
        refine g_aload_n 0 dX11_forged_51 rfl rfl ?_
        refine g_getR kfl_X11_10 fo_X11_now dX11_forged_52 (fun t12 => ?_)
        refine g_getR kfl_X11_98 fo_X5_entered dX11_forged_55 (fun t13 => ?_)
        refine g_iload_n 2 dX11_forged_58 rfl rfl ?_
        refine g_iaload dX11_forged_59 (fun t14 => ?_)
        refine g_icmpeq (tgt := 65) dX11_forged_60 (by decide) ?_ ?_
        · refine g_iinc 2 (v := (x3 + 1)) (ls' := [(3, vI ((x3 + 1))), (0, vR x0), (2, vR x2)]) dX11_forged_65 rfl rfl (Nat.le_of_ble_eq_true rfl) rfl ?_
          refine g_goto (tgt := 27) dX11_forged_68 (by decide) ?_
          exact g_sub2 [1, 2, 0] rfl (ih x0 x2 (x3 + 1) h10)
        · refine g_iload_n 2 dX11_forged_63 rfl rfl ?_
          exact g_ireturn rfl dX11_forged_64
def f_X11_forged (v0 : Option Nat) (v1 : Int32) (h : AH) : Option (Int32 × AH) :=
    bd (f_X11_isShelf v1 h) fun r2 h1 =>
    (if r2 = 0 then
    some ((-1), h1)
    else bd (cv h1 v0 11 (f_X11_rowOn v0 v1 h1)) fun r4 h3 =>
    (if r4 = none then
    bd (cv h3 v0 11 (f_X11_whyNoRow v0 v1 h3)) fun r16 h15 =>
    some (r16, h15)
    else f_X11_forged_b27 FU v0 r4 0 h3))
set_option maxRecDepth 100000 in
set_option maxHeartbeats 4000000 in
theorem s_X11_forged {X : GX} (hX : XOK X) (v0 : Option Nat) (v1 : Int32) (h : AH) : Snd X yX11_forged cX11_forged 4 (some .int) 3 62 rI [vR v0, vI v1] h (f_X11_forged v0 v1 h) := by
  refine snd_of hX (by decide +kernel) (Nat.le_of_ble_eq_true rfl) ?_
  show Gp (p_X11_forged X h) RX11 "forged" cX11_forged (some .int) 0 [(0, vR v0), (1, vI v1)] [] h _
  unfold f_X11_forged
  refine g_iload_n 1 dX11_forged_0 rfl rfl ?_
  refine g_callSI (st := []) (s_X11_isShelf hX v1 h) kml_X11_45 kst_X11_isShelf kii_X11 kcd_X11_isShelf ds_X11_isShelf rfl ⟨Nat.le_of_ble_eq_true rfl, Nat.le_of_ble_eq_true rfl⟩ (Nat.le_of_ble_eq_true rfl) rfl dX11_forged_1 (fun r2 h1 => ?_)
  refine g_ifne (tgt := 9) dX11_forged_4 (by decide) ?_ ?_
  · refine g_aload_n 0 dX11_forged_9 rfl rfl ?_
    refine g_iload_n 1 dX11_forged_10 rfl rfl ?_
    refine g_callVR (st := []) (ci := 11) rfl (s_X11_rowOn hX v0 v1 h1) kml_X11_49 kim_X11_rowOn kse_X11_rowOn kii_X11 kcd_X11_rowOn rfl ds_X11_rowOn rfl ⟨Nat.le_of_ble_eq_true rfl, Nat.le_of_ble_eq_true rfl⟩ (Nat.le_of_ble_eq_true rfl) rfl dX11_forged_11 (fun r4 h3 => ?_)
    refine g_astore_n (ls' := [(2, vR r4), (0, vR v0), (1, vI v1)]) dX11_forged_14 rfl (Nat.le_of_ble_eq_true rfl) rfl ?_
    refine g_aload_n 0 dX11_forged_15 rfl rfl ?_
    refine g_ifnonnull (tgt := 25) dX11_forged_16 (by decide) ?_ ?_
    · refine g_iconst (v := 0) dX11_forged_25 (by decide) ?_
      refine g_istore_n (ls' := [(3, vI 0), (2, vR r4), (0, vR v0), (1, vI v1)]) dX11_forged_26 rfl (Nat.le_of_ble_eq_true rfl) rfl ?_
      exact g_sub2 [2, 1, 0] rfl (s_X11_forged_b27 hX FU v0 r4 0 h3)
    · refine g_aload_n 1 dX11_forged_19 rfl rfl ?_
      refine g_iload_n 2 dX11_forged_20 rfl rfl ?_
      refine g_callVI (st := []) (ci := 11) rfl (s_X11_whyNoRow hX v0 v1 h3) kml_X11_53 kim_X11_whyNoRow kse_X11_whyNoRow kii_X11 kcd_X11_whyNoRow rfl ds_X11_whyNoRow rfl ⟨Nat.le_of_ble_eq_true rfl, Nat.le_of_ble_eq_true rfl⟩ (Nat.le_of_ble_eq_true rfl) rfl dX11_forged_21 (fun r16 h15 => ?_)
      exact g_ireturn rfl dX11_forged_24
  · refine g_iconst (v := (-1)) dX11_forged_7 (by decide) ?_
    exact g_ireturn rfl dX11_forged_8
abbrev p_X11_goesNextDay (X : GX) (h0 : AH) : PX Int32 := (X, (fun x => Sum.inl (rI x)), (5, 108, 2), h0)
def f_X11_goesNextDay (v0 : Option Nat) (v1 : Int32) (h : AH) : Option (Int32 × AH) :=
    (gR h v0 [11] 1).bind fun t1 =>
    bd (cv h t1 5 (f_X5_passDayOf t1 v1 h)) fun u3 h2 =>
    (gR h2 v0 [11] 1).bind fun t4 =>
    bd (cv h2 t4 5 (f_X5_isIn t4 v1 h2)) fun r6 h5 =>
    (if r6 = 0 then
    some (1, h5)
    else some (0, h5))
set_option maxRecDepth 100000 in
set_option maxHeartbeats 4000000 in
theorem s_X11_goesNextDay {X : GX} (hX : XOK X) (v0 : Option Nat) (v1 : Int32) (h : AH) : Snd X yX11_goesNextDay cX11_goesNextDay 2 (some .boolean) 5 108 rI [vR v0, vI v1] h (f_X11_goesNextDay v0 v1 h) := by
  refine snd_of hX (by decide +kernel) (Nat.le_of_ble_eq_true rfl) ?_
  show Gp (p_X11_goesNextDay X h) RX11 "goesNextDay" cX11_goesNextDay (some .boolean) 0 [(0, vR v0), (1, vI v1)] [] h _
  unfold f_X11_goesNextDay
  refine g_aload_n 0 dX11_goesNextDay_0 rfl rfl ?_
  refine g_getR kfl_X11_16 fo_X11_mind dX11_goesNextDay_1 (fun t1 => ?_)
  refine g_iload_n 1 dX11_goesNextDay_4 rfl rfl ?_
  refine g_callVU (st := []) (ci := 5) rfl (s_X5_passDayOf hX t1 v1 h) kml_X11_186 kim_X5_passDayOf kse_X5_passDayOf kii_X5 kcd_X5_passDayOf rfl ds_X5_passDayOf rfl ⟨Nat.le_of_ble_eq_true rfl, Nat.le_of_ble_eq_true rfl⟩ (Nat.le_of_ble_eq_true rfl) rfl dX11_goesNextDay_5 (fun u3 h2 => ?_)
  refine g_aload_n 0 dX11_goesNextDay_8 rfl rfl ?_
  refine g_getR kfl_X11_16 fo_X11_mind dX11_goesNextDay_9 (fun t4 => ?_)
  refine g_iload_n 1 dX11_goesNextDay_12 rfl rfl ?_
  refine g_callVI (st := []) (ci := 5) rfl (s_X5_isIn hX t4 v1 h2) kml_X11_107 kim_X5_isIn kse_X5_isIn kii_X5 kcd_X5_isIn rfl ds_X5_isIn rfl ⟨Nat.le_of_ble_eq_true rfl, Nat.le_of_ble_eq_true rfl⟩ (Nat.le_of_ble_eq_true rfl) rfl dX11_goesNextDay_13 (fun r6 h5 => ?_)
  refine g_ifne (tgt := 23) dX11_goesNextDay_16 (by decide) ?_ ?_
  · refine g_iconst (v := 0) dX11_goesNextDay_23 (by decide) ?_
    exact g_zreturn (by decide +kernel) rfl dX11_goesNextDay_24
  · refine g_iconst (v := 1) dX11_goesNextDay_19 (by decide) ?_
    refine g_goto (tgt := 24) dX11_goesNextDay_20 (by decide) ?_
    exact g_zreturn (by decide +kernel) rfl dX11_goesNextDay_24
abbrev p_X11_goneIfLent (X : GX) (h0 : AH) : PX Int32 := (X, (fun x => Sum.inl (rI x)), (4, 86, 3), h0)
def f_X11_goneIfLent_b59 (x0 : Option Nat) (x2 : Int32) (y0 : Int32) (h : AH) : Option (Int32 × AH) :=
    (gR h x0 [11] 1).bind fun t17 =>
    bd (cv h t17 5 (f_X5_isIn t17 x2 h)) fun r19 h18 =>
    (if r19 = 0 then
    some ((y0 + 1), h18)
    else some ((y0 + 0), h18))
set_option maxRecDepth 100000 in
set_option maxHeartbeats 4000000 in
theorem s_X11_goneIfLent_b59 {X : GX} (hX : XOK X) {h0 : AH} : ∀ (x0 : Option Nat) (x2 : Int32) (y0 : Int32) (h : AH), Gp (p_X11_goneIfLent X h0) RX11 "goneIfLent" cX11_goneIfLent (some .int) 59 [(0, vR x0), (2, vI x2)] [vI y0] h (f_X11_goneIfLent_b59 x0 x2 y0 h) := by
  intro x0 x2 y0 h
  unfold f_X11_goneIfLent_b59
  refine g_aload_n 0 dX11_goneIfLent_59 rfl rfl ?_
  refine g_getR kfl_X11_16 fo_X11_mind dX11_goneIfLent_60 (fun t17 => ?_)
  refine g_iload_n 1 dX11_goneIfLent_63 rfl rfl ?_
  refine g_callVI (st := [vI y0]) (ci := 5) rfl (s_X5_isIn hX t17 x2 h) kml_X11_107 kim_X5_isIn kse_X5_isIn kii_X5 kcd_X5_isIn rfl ds_X5_isIn rfl ⟨Nat.le_of_ble_eq_true rfl, Nat.le_of_ble_eq_true rfl⟩ (Nat.le_of_ble_eq_true rfl) rfl dX11_goneIfLent_64 (fun r19 h18 => ?_)
  refine g_ifeq (tgt := 74) dX11_goneIfLent_67 (by decide) ?_ ?_
  · refine g_iconst (v := 1) dX11_goneIfLent_74 (by decide) ?_
    refine g_iadd dX11_goneIfLent_75 ?_
    exact g_ireturn rfl dX11_goneIfLent_76
  · refine g_iconst (v := 0) dX11_goneIfLent_70 (by decide) ?_
    refine g_goto (tgt := 75) dX11_goneIfLent_71 (by decide) ?_
    refine g_iadd dX11_goneIfLent_75 ?_
    exact g_ireturn rfl dX11_goneIfLent_76
def f_X11_goneIfLent (v0 : Option Nat) (v1 : Int32) (v2 : Int32) (h : AH) : Option (Int32 × AH) :=
    (gR h v0 [11] 0).bind fun t1 =>
    bd (cv h t1 5 (f_X5_canLend t1 v1 v2 5 h)) fun r3 h2 =>
    (if r3 = 0 then
    some ((-1), h2)
    else (gR h2 v0 [11] 1).bind fun t4 =>
    (gR h2 v0 [11] 0).bind fun t5 =>
    bd (cv h2 t4 5 (f_X5_becomes t4 t5 h2)) fun u7 h6 =>
    (gR h6 v0 [11] 1).bind fun t8 =>
    bd (cv h6 t8 5 (f_X5_lendPounds t8 v1 v2 5 h6)) fun u10 h9 =>
    (gR h9 v0 [11] 1).bind fun t11 =>
    bd (cv h9 t11 5 (f_X5_passDay t11 h9)) fun u13 h12 =>
    (gR h12 v0 [11] 1).bind fun t14 =>
    bd (cv h12 t14 5 (f_X5_isIn t14 v1 h12)) fun r16 h15 =>
    (if r16 = 0 then
    f_X11_goneIfLent_b59 v0 v2 1 h15
    else f_X11_goneIfLent_b59 v0 v2 0 h15))
set_option maxRecDepth 100000 in
set_option maxHeartbeats 4000000 in
theorem s_X11_goneIfLent {X : GX} (hX : XOK X) (v0 : Option Nat) (v1 : Int32) (v2 : Int32) (h : AH) : Snd X yX11_goneIfLent cX11_goneIfLent 3 (some .int) 4 86 rI [vR v0, vI v1, vI v2] h (f_X11_goneIfLent v0 v1 v2 h) := by
  refine snd_of hX (by decide +kernel) (Nat.le_of_ble_eq_true rfl) ?_
  show Gp (p_X11_goneIfLent X h) RX11 "goneIfLent" cX11_goneIfLent (some .int) 0 [(0, vR v0), (1, vI v1), (2, vI v2)] [] h _
  unfold f_X11_goneIfLent
  refine g_aload_n 0 dX11_goneIfLent_0 rfl rfl ?_
  refine g_getR kfl_X11_10 fo_X11_now dX11_goneIfLent_1 (fun t1 => ?_)
  refine g_iload_n 1 dX11_goneIfLent_4 rfl rfl ?_
  refine g_iload_n 2 dX11_goneIfLent_5 rfl rfl ?_
  refine g_iconst (v := 5) dX11_goneIfLent_6 (by decide) ?_
  refine g_callVI (st := []) (ci := 5) rfl (s_X5_canLend hX t1 v1 v2 5 h) kml_X11_148 kim_X5_canLend kse_X5_canLend kii_X5 kcd_X5_canLend rfl ds_X5_canLend rfl ⟨Nat.le_of_ble_eq_true rfl, Nat.le_of_ble_eq_true rfl⟩ (Nat.le_of_ble_eq_true rfl) rfl dX11_goneIfLent_7 (fun r3 h2 => ?_)
  refine g_ifne (tgt := 15) dX11_goneIfLent_10 (by decide) ?_ ?_
  · refine g_aload_n 0 dX11_goneIfLent_15 rfl rfl ?_
    refine g_getR kfl_X11_16 fo_X11_mind dX11_goneIfLent_16 (fun t4 => ?_)
    refine g_aload_n 0 dX11_goneIfLent_19 rfl rfl ?_
    refine g_getR kfl_X11_10 fo_X11_now dX11_goneIfLent_20 (fun t5 => ?_)
    refine g_callVU (st := []) (ci := 5) rfl (s_X5_becomes hX t4 t5 h2) kml_X11_70 kim_X5_becomes kse_X5_becomes kii_X5 kcd_X5_becomes rfl ds_X5_becomes rfl ⟨Nat.le_of_ble_eq_true rfl, Nat.le_of_ble_eq_true rfl⟩ (Nat.le_of_ble_eq_true rfl) rfl dX11_goneIfLent_23 (fun u7 h6 => ?_)
    refine g_aload_n 0 dX11_goneIfLent_26 rfl rfl ?_
    refine g_getR kfl_X11_16 fo_X11_mind dX11_goneIfLent_27 (fun t8 => ?_)
    refine g_iload_n 1 dX11_goneIfLent_30 rfl rfl ?_
    refine g_iload_n 2 dX11_goneIfLent_31 rfl rfl ?_
    refine g_iconst (v := 5) dX11_goneIfLent_32 (by decide) ?_
    refine g_callVU (st := []) (ci := 5) rfl (s_X5_lendPounds hX t8 v1 v2 5 h6) kml_X11_152 kim_X5_lendPounds kse_X5_lendPounds kii_X5 kcd_X5_lendPounds rfl ds_X5_lendPounds rfl ⟨Nat.le_of_ble_eq_true rfl, Nat.le_of_ble_eq_true rfl⟩ (Nat.le_of_ble_eq_true rfl) rfl dX11_goneIfLent_33 (fun u10 h9 => ?_)
    refine g_aload_n 0 dX11_goneIfLent_36 rfl rfl ?_
    refine g_getR kfl_X11_16 fo_X11_mind dX11_goneIfLent_37 (fun t11 => ?_)
    refine g_callVU (st := []) (ci := 5) rfl (s_X5_passDay hX t11 h9) kml_X11_195 kim_X5_passDay kse_X5_passDay kii_X5 kcd_X5_passDay rfl ds_X5_passDay rfl ⟨Nat.le_of_ble_eq_true rfl, Nat.le_of_ble_eq_true rfl⟩ (Nat.le_of_ble_eq_true rfl) rfl dX11_goneIfLent_40 (fun u13 h12 => ?_)
    refine g_aload_n 0 dX11_goneIfLent_43 rfl rfl ?_
    refine g_getR kfl_X11_16 fo_X11_mind dX11_goneIfLent_44 (fun t14 => ?_)
    refine g_iload_n 1 dX11_goneIfLent_47 rfl rfl ?_
    refine g_callVI (st := []) (ci := 5) rfl (s_X5_isIn hX t14 v1 h12) kml_X11_107 kim_X5_isIn kse_X5_isIn kii_X5 kcd_X5_isIn rfl ds_X5_isIn rfl ⟨Nat.le_of_ble_eq_true rfl, Nat.le_of_ble_eq_true rfl⟩ (Nat.le_of_ble_eq_true rfl) rfl dX11_goneIfLent_48 (fun r16 h15 => ?_)
    refine g_ifeq (tgt := 58) dX11_goneIfLent_51 (by decide) ?_ ?_
    · refine g_iconst (v := 1) dX11_goneIfLent_58 (by decide) ?_
      exact g_sub2 [0, 2] rfl (s_X11_goneIfLent_b59 hX v0 v2 1 h15)
    · refine g_iconst (v := 0) dX11_goneIfLent_54 (by decide) ?_
      refine g_goto (tgt := 59) dX11_goneIfLent_55 (by decide) ?_
      exact g_sub2 [0, 2] rfl (s_X11_goneIfLent_b59 hX v0 v2 0 h15)
  · refine g_iconst (v := (-1)) dX11_goneIfLent_13 (by decide) ?_
    exact g_ireturn rfl dX11_goneIfLent_14
abbrev p_X11_goneNextDay (X : GX) (h0 : AH) : PX Int32 := (X, (fun x => Sum.inl (rI x)), (4, 86, 1), h0)
def f_X11_goneNextDay (v0 : Option Nat) (h : AH) : Option (Int32 × AH) :=
    (gR h v0 [11] 1).bind fun t1 =>
    (gR h v0 [11] 0).bind fun t2 =>
    bd (cv h t1 5 (f_X5_becomes t1 t2 h)) fun u4 h3 =>
    (gR h3 v0 [11] 1).bind fun t5 =>
    bd (cv h3 t5 5 (f_X5_passDay t5 h3)) fun u7 h6 =>
    (gR h6 v0 [11] 0).bind fun t8 =>
    (gI h6 t8 [5] 6).bind fun t9 =>
    (gR h6 v0 [11] 1).bind fun t10 =>
    (gI h6 t10 [5] 6).bind fun t11 =>
    some ((t9 &&& (t11 ^^^ (-1))), h6)
set_option maxRecDepth 100000 in
set_option maxHeartbeats 4000000 in
theorem s_X11_goneNextDay {X : GX} (hX : XOK X) (v0 : Option Nat) (h : AH) : Snd X yX11_goneNextDay cX11_goneNextDay 1 (some .int) 4 86 rI [vR v0] h (f_X11_goneNextDay v0 h) := by
  refine snd_of hX (by decide +kernel) (Nat.le_of_ble_eq_true rfl) ?_
  show Gp (p_X11_goneNextDay X h) RX11 "goneNextDay" cX11_goneNextDay (some .int) 0 [(0, vR v0)] [] h _
  unfold f_X11_goneNextDay
  refine g_aload_n 0 dX11_goneNextDay_0 rfl rfl ?_
  refine g_getR kfl_X11_16 fo_X11_mind dX11_goneNextDay_1 (fun t1 => ?_)
  refine g_aload_n 0 dX11_goneNextDay_4 rfl rfl ?_
  refine g_getR kfl_X11_10 fo_X11_now dX11_goneNextDay_5 (fun t2 => ?_)
  refine g_callVU (st := []) (ci := 5) rfl (s_X5_becomes hX t1 t2 h) kml_X11_70 kim_X5_becomes kse_X5_becomes kii_X5 kcd_X5_becomes rfl ds_X5_becomes rfl ⟨Nat.le_of_ble_eq_true rfl, Nat.le_of_ble_eq_true rfl⟩ (Nat.le_of_ble_eq_true rfl) rfl dX11_goneNextDay_8 (fun u4 h3 => ?_)
  refine g_aload_n 0 dX11_goneNextDay_11 rfl rfl ?_
  refine g_getR kfl_X11_16 fo_X11_mind dX11_goneNextDay_12 (fun t5 => ?_)
  refine g_callVU (st := []) (ci := 5) rfl (s_X5_passDay hX t5 h3) kml_X11_195 kim_X5_passDay kse_X5_passDay kii_X5 kcd_X5_passDay rfl ds_X5_passDay rfl ⟨Nat.le_of_ble_eq_true rfl, Nat.le_of_ble_eq_true rfl⟩ (Nat.le_of_ble_eq_true rfl) rfl dX11_goneNextDay_15 (fun u7 h6 => ?_)
  refine g_aload_n 0 dX11_goneNextDay_18 rfl rfl ?_
  refine g_getR kfl_X11_10 fo_X11_now dX11_goneNextDay_19 (fun t8 => ?_)
  refine g_getI kfl_X11_177 fo_X5_inside dX11_goneNextDay_22 (fun t9 => ?_)
  refine g_aload_n 0 dX11_goneNextDay_25 rfl rfl ?_
  refine g_getR kfl_X11_16 fo_X11_mind dX11_goneNextDay_26 (fun t10 => ?_)
  refine g_getI kfl_X11_177 fo_X5_inside dX11_goneNextDay_29 (fun t11 => ?_)
  refine g_iconst (v := (-1)) dX11_goneNextDay_32 (by decide) ?_
  refine g_ixor dX11_goneNextDay_33 ?_
  refine g_iand dX11_goneNextDay_34 ?_
  exact g_ireturn rfl dX11_goneNextDay_35
abbrev p_X11_goneWithPair (X : GX) (h0 : AH) : PX Int32 := (X, (fun x => Sum.inl (rI x)), (0, 0, 4), h0)
def f_X11_goneWithPair (v0 : Option Nat) (v1 : Int32) (v2 : Int32) (v3 : Int32) (h : AH) : Option (Int32 × AH) :=
    (gR h v0 [11] 6).bind fun t1 =>
    (iA h t1 ((v1 * 7) + v2)).bind fun t2 =>
    (gR h v0 [11] 7).bind fun t3 =>
    (iA h t3 (v3 &&& (((1 : Int32) <<< (v2 &&& 31)) ^^^ (-1)))).bind fun t4 =>
    some ((t2 + t4), h)
set_option maxRecDepth 100000 in
set_option maxHeartbeats 4000000 in
theorem s_X11_goneWithPair {X : GX} (hX : XOK X) (v0 : Option Nat) (v1 : Int32) (v2 : Int32) (v3 : Int32) (h : AH) : Snd X yX11_goneWithPair cX11_goneWithPair 4 (some .int) 0 0 rI [vR v0, vI v1, vI v2, vI v3] h (f_X11_goneWithPair v0 v1 v2 v3 h) := by
  refine snd_of hX (by decide +kernel) (Nat.le_of_ble_eq_true rfl) ?_
  show Gp (p_X11_goneWithPair X h) RX11 "goneWithPair" cX11_goneWithPair (some .int) 0 [(0, vR v0), (1, vI v1), (2, vI v2), (3, vI v3)] [] h _
  unfold f_X11_goneWithPair
  refine g_aload_n 0 dX11_goneWithPair_0 rfl rfl ?_
  refine g_getR kfl_X11_38 fo_X11_pairGone dX11_goneWithPair_1 (fun t1 => ?_)
  refine g_iload_n 1 dX11_goneWithPair_4 rfl rfl ?_
  refine g_bipush (v := 7) dX11_goneWithPair_5 (by decide) ?_
  refine g_imul dX11_goneWithPair_7 ?_
  refine g_iload_n 2 dX11_goneWithPair_8 rfl rfl ?_
  refine g_iadd dX11_goneWithPair_9 ?_
  refine g_iaload dX11_goneWithPair_10 (fun t2 => ?_)
  refine g_aload_n 0 dX11_goneWithPair_11 rfl rfl ?_
  refine g_getR kfl_X11_42 fo_X11_mostGone dX11_goneWithPair_12 (fun t3 => ?_)
  refine g_iload_n 3 dX11_goneWithPair_15 rfl rfl ?_
  refine g_iconst (v := 1) dX11_goneWithPair_16 (by decide) ?_
  refine g_iload_n 2 dX11_goneWithPair_17 rfl rfl ?_
  refine g_ishl dX11_goneWithPair_18 ?_
  refine g_iconst (v := (-1)) dX11_goneWithPair_19 (by decide) ?_
  refine g_ixor dX11_goneWithPair_20 ?_
  refine g_iand dX11_goneWithPair_21 ?_
  refine g_iaload dX11_goneWithPair_22 (fun t4 => ?_)
  refine g_iadd dX11_goneWithPair_23 ?_
  exact g_ireturn rfl dX11_goneWithPair_24
abbrev p_X5_lacks (X : GX) (h0 : AH) : PX Int32 := (X, (fun x => Sum.inl (rI x)), (1, 21, 2), h0)
def f_X5_lacks (v0 : Option Nat) (v1 : Int32) (h : AH) : Option (Int32 × AH) :=
    bd (cv h v0 5 (f_X5_isIn v0 v1 h)) fun r2 h1 =>
    (if r2 = 0 then
    some (0, h1)
    else (gR h1 v0 [5] 1).bind fun t3 =>
    (iA h1 t3 v1).bind fun t4 =>
    (gR h1 v0 [5] 2).bind fun t5 =>
    (iA h1 t5 v1).bind fun t6 =>
    some ((mmax 0 ((t4 - t6) + 1)), h1))
set_option maxRecDepth 100000 in
set_option maxHeartbeats 4000000 in
theorem s_X5_lacks {X : GX} (hX : XOK X) (v0 : Option Nat) (v1 : Int32) (h : AH) : Snd X yX5_lacks cX5_lacks 2 (some .int) 1 21 rI [vR v0, vI v1] h (f_X5_lacks v0 v1 h) := by
  refine snd_of hX (by decide +kernel) (Nat.le_of_ble_eq_true rfl) ?_
  show Gp (p_X5_lacks X h) RX5 "lacks" cX5_lacks (some .int) 0 [(0, vR v0), (1, vI v1)] [] h _
  unfold f_X5_lacks
  refine g_aload_n 0 dX5_lacks_0 rfl rfl ?_
  refine g_iload_n 1 dX5_lacks_1 rfl rfl ?_
  refine g_callVI (st := []) (ci := 5) rfl (s_X5_isIn hX v0 v1 h) kml_X5_59 kim_X5_isIn kse_X5_isIn kii_X5 kcd_X5_isIn rfl ds_X5_isIn rfl ⟨Nat.le_of_ble_eq_true rfl, Nat.le_of_ble_eq_true rfl⟩ (Nat.le_of_ble_eq_true rfl) rfl dX5_lacks_2 (fun r2 h1 => ?_)
  refine g_ifeq (tgt := 30) dX5_lacks_5 (by decide) ?_ ?_
  · refine g_iconst (v := 0) dX5_lacks_30 (by decide) ?_
    exact g_ireturn rfl dX5_lacks_31
  · refine g_iconst (v := 0) dX5_lacks_8 (by decide) ?_
    refine g_aload_n 0 dX5_lacks_9 rfl rfl ?_
    refine g_getR kfl_X5_17 fo_X5_weight dX5_lacks_10 (fun t3 => ?_)
    refine g_iload_n 1 dX5_lacks_13 rfl rfl ?_
    refine g_iaload dX5_lacks_14 (fun t4 => ?_)
    refine g_aload_n 0 dX5_lacks_15 rfl rfl ?_
    refine g_getR kfl_X5_21 fo_X5_entered dX5_lacks_16 (fun t5 => ?_)
    refine g_iload_n 1 dX5_lacks_19 rfl rfl ?_
    refine g_iaload dX5_lacks_20 (fun t6 => ?_)
    refine g_isub dX5_lacks_21 ?_
    refine g_iconst (v := 1) dX5_lacks_22 (by decide) ?_
    refine g_iadd dX5_lacks_23 ?_
    refine g_mmax kml_X5_66 kst_mmax kii_Math kcd_mmax ⟨Nat.le_of_ble_eq_true rfl, Nat.le_of_ble_eq_true rfl⟩ (Nat.le_of_ble_eq_true rfl) dX5_lacks_24 ?_
    refine g_goto (tgt := 31) dX5_lacks_27 (by decide) ?_
    exact g_ireturn rfl dX5_lacks_31
abbrev p_X11_guest (X : GX) (h0 : AH) : PX Int32 := (X, (fun x => Sum.inl (rI x)), (3, 62, 3), h0)
def f_X11_guest (v0 : Option Nat) (v1 : Int32) (v2 : Int32) (h : AH) : Option (Int32 × AH) :=
    (gR h v0 [11] 0).bind fun t1 =>
    bd (cv h t1 5 (f_X5_knows t1 v1 h)) fun r3 h2 =>
    (if r3 = 0 then
    some ((-1), h2)
    else (if v2 = 0 then
    (gR h2 v0 [11] 0).bind fun t5 =>
    (gR h2 t5 [5] 0).bind fun t6 =>
    (rA h2 t6 2 v1).bind fun t7 =>
    (gI h2 t7 GF 0).bind fun t8 =>
    some (t8, h2)
    else (if v2 = 1 then
    (gR h2 v0 [11] 0).bind fun t10 =>
    (gR h2 t10 [5] 0).bind fun t11 =>
    (rA h2 t11 2 v1).bind fun t12 =>
    (gI h2 t12 GF 1).bind fun t13 =>
    some (t13, h2)
    else (if v2 = 2 then
    (gR h2 v0 [11] 0).bind fun t15 =>
    (gR h2 t15 [5] 1).bind fun t16 =>
    (iA h2 t16 v1).bind fun t17 =>
    some (t17, h2)
    else (if v2 = 3 then
    (gR h2 v0 [11] 0).bind fun t19 =>
    (gR h2 t19 [5] 2).bind fun t20 =>
    (iA h2 t20 v1).bind fun t21 =>
    some (t21, h2)
    else (if v2 = 4 then
    (gR h2 v0 [11] 0).bind fun t23 =>
    (gR h2 t23 [5] 3).bind fun t24 =>
    (iA h2 t24 v1).bind fun t25 =>
    some (t25, h2)
    else (if v2 = 5 then
    (gR h2 v0 [11] 0).bind fun t27 =>
    (gR h2 t27 [5] 4).bind fun t28 =>
    (iA h2 t28 v1).bind fun t29 =>
    some (t29, h2)
    else (if v2 = 6 then
    (gR h2 v0 [11] 0).bind fun t31 =>
    bd (cv h2 t31 5 (f_X5_isIn t31 v1 h2)) fun r33 h32 =>
    (if r33 = 0 then
    some (0, h32)
    else some (1, h32))
    else (if v2 = 7 then
    (gR h2 v0 [11] 0).bind fun t35 =>
    bd (cv h2 t35 5 (f_X5_mayGo t35 v1 h2)) fun r37 h36 =>
    (if r37 = 0 then
    some (0, h36)
    else some (1, h36))
    else (if v2 = 8 then
    (gR h2 v0 [11] 0).bind fun t39 =>
    bd (cv h2 t39 5 (f_X5_lacks t39 v1 h2)) fun r41 h40 =>
    some (r41, h40)
    else some ((-1), h2)))))))))))
set_option maxRecDepth 100000 in
set_option maxHeartbeats 4000000 in
theorem s_X11_guest {X : GX} (hX : XOK X) (v0 : Option Nat) (v1 : Int32) (v2 : Int32) (h : AH) : Snd X yX11_guest cX11_guest 3 (some .int) 3 62 rI [vR v0, vI v1, vI v2] h (f_X11_guest v0 v1 v2 h) := by
  refine snd_of hX (by decide +kernel) (Nat.le_of_ble_eq_true rfl) ?_
  show Gp (p_X11_guest X h) RX11 "guest" cX11_guest (some .int) 0 [(0, vR v0), (1, vI v1), (2, vI v2)] [] h _
  unfold f_X11_guest
  refine g_aload_n 0 dX11_guest_0 rfl rfl ?_
  refine g_getR kfl_X11_10 fo_X11_now dX11_guest_1 (fun t1 => ?_)
  refine g_iload_n 1 dX11_guest_4 rfl rfl ?_
  refine g_callVI (st := []) (ci := 5) rfl (s_X5_knows hX t1 v1 h) kml_X11_84 kim_X5_knows kse_X5_knows kii_X5 kcd_X5_knows rfl ds_X5_knows rfl ⟨Nat.le_of_ble_eq_true rfl, Nat.le_of_ble_eq_true rfl⟩ (Nat.le_of_ble_eq_true rfl) rfl dX11_guest_5 (fun r3 h2 => ?_)
  refine g_ifne (tgt := 13) dX11_guest_8 (by decide) ?_ ?_
  · refine g_iload_n 2 dX11_guest_13 rfl rfl ?_
    refine g_tsIn (c := 0) (off := 50) (tgt := 64) dX11_guest_14 (by decide) (by decide) (by decide) (by decide) ?_ (fun n4 => ?_)
    · refine g_aload_n 0 dX11_guest_64 rfl rfl ?_
      refine g_getR kfl_X11_10 fo_X11_now dX11_guest_65 (fun t5 => ?_)
      refine g_getR kfl_X11_87 fo_X5_kind dX11_guest_68 (fun t6 => ?_)
      refine g_iload_n 1 dX11_guest_71 rfl rfl ?_
      refine g_aaload (kd := 2) (by decide) (by decide) dX11_guest_72 (fun t7 => ?_)
      refine g_getI kfl_X11_90 fo_X4_kind dX11_guest_73 (fun t8 => ?_)
      exact g_ireturn rfl dX11_guest_76
    refine g_tsIn (c := 1) (off := 63) (tgt := 77) dX11_guest_14 (by decide) (by decide) (by decide) (by decide) ?_ (fun n9 => ?_)
    · refine g_aload_n 0 dX11_guest_77 rfl rfl ?_
      refine g_getR kfl_X11_10 fo_X11_now dX11_guest_78 (fun t10 => ?_)
      refine g_getR kfl_X11_87 fo_X5_kind dX11_guest_81 (fun t11 => ?_)
      refine g_iload_n 1 dX11_guest_84 rfl rfl ?_
      refine g_aaload (kd := 2) (by decide) (by decide) dX11_guest_85 (fun t12 => ?_)
      refine g_getI kfl_X11_92 fo_X4_figure dX11_guest_86 (fun t13 => ?_)
      exact g_ireturn rfl dX11_guest_89
    refine g_tsIn (c := 2) (off := 76) (tgt := 90) dX11_guest_14 (by decide) (by decide) (by decide) (by decide) ?_ (fun n14 => ?_)
    · refine g_aload_n 0 dX11_guest_90 rfl rfl ?_
      refine g_getR kfl_X11_10 fo_X11_now dX11_guest_91 (fun t15 => ?_)
      refine g_getR kfl_X11_95 fo_X5_weight dX11_guest_94 (fun t16 => ?_)
      refine g_iload_n 1 dX11_guest_97 rfl rfl ?_
      refine g_iaload dX11_guest_98 (fun t17 => ?_)
      exact g_ireturn rfl dX11_guest_99
    refine g_tsIn (c := 3) (off := 86) (tgt := 100) dX11_guest_14 (by decide) (by decide) (by decide) (by decide) ?_ (fun n18 => ?_)
    · refine g_aload_n 0 dX11_guest_100 rfl rfl ?_
      refine g_getR kfl_X11_10 fo_X11_now dX11_guest_101 (fun t19 => ?_)
      refine g_getR kfl_X11_98 fo_X5_entered dX11_guest_104 (fun t20 => ?_)
      refine g_iload_n 1 dX11_guest_107 rfl rfl ?_
      refine g_iaload dX11_guest_108 (fun t21 => ?_)
      exact g_ireturn rfl dX11_guest_109
    refine g_tsIn (c := 4) (off := 96) (tgt := 110) dX11_guest_14 (by decide) (by decide) (by decide) (by decide) ?_ (fun n22 => ?_)
    · refine g_aload_n 0 dX11_guest_110 rfl rfl ?_
      refine g_getR kfl_X11_10 fo_X11_now dX11_guest_111 (fun t23 => ?_)
      refine g_getR kfl_X11_101 fo_X5_secrets dX11_guest_114 (fun t24 => ?_)
      refine g_iload_n 1 dX11_guest_117 rfl rfl ?_
      refine g_iaload dX11_guest_118 (fun t25 => ?_)
      exact g_ireturn rfl dX11_guest_119
    refine g_tsIn (c := 5) (off := 106) (tgt := 120) dX11_guest_14 (by decide) (by decide) (by decide) (by decide) ?_ (fun n26 => ?_)
    · refine g_aload_n 0 dX11_guest_120 rfl rfl ?_
      refine g_getR kfl_X11_10 fo_X11_now dX11_guest_121 (fun t27 => ?_)
      refine g_getR kfl_X11_104 fo_X5_came dX11_guest_124 (fun t28 => ?_)
      refine g_iload_n 1 dX11_guest_127 rfl rfl ?_
      refine g_iaload dX11_guest_128 (fun t29 => ?_)
      exact g_ireturn rfl dX11_guest_129
    refine g_tsIn (c := 6) (off := 116) (tgt := 130) dX11_guest_14 (by decide) (by decide) (by decide) (by decide) ?_ (fun n30 => ?_)
    · refine g_aload_n 0 dX11_guest_130 rfl rfl ?_
      refine g_getR kfl_X11_10 fo_X11_now dX11_guest_131 (fun t31 => ?_)
      refine g_iload_n 1 dX11_guest_134 rfl rfl ?_
      refine g_callVI (st := []) (ci := 5) rfl (s_X5_isIn hX t31 v1 h2) kml_X11_107 kim_X5_isIn kse_X5_isIn kii_X5 kcd_X5_isIn rfl ds_X5_isIn rfl ⟨Nat.le_of_ble_eq_true rfl, Nat.le_of_ble_eq_true rfl⟩ (Nat.le_of_ble_eq_true rfl) rfl dX11_guest_135 (fun r33 h32 => ?_)
      refine g_ifeq (tgt := 145) dX11_guest_138 (by decide) ?_ ?_
      · refine g_iconst (v := 0) dX11_guest_145 (by decide) ?_
        exact g_ireturn rfl dX11_guest_146
      · refine g_iconst (v := 1) dX11_guest_141 (by decide) ?_
        refine g_goto (tgt := 146) dX11_guest_142 (by decide) ?_
        exact g_ireturn rfl dX11_guest_146
    refine g_tsIn (c := 7) (off := 133) (tgt := 147) dX11_guest_14 (by decide) (by decide) (by decide) (by decide) ?_ (fun n34 => ?_)
    · refine g_aload_n 0 dX11_guest_147 rfl rfl ?_
      refine g_getR kfl_X11_10 fo_X11_now dX11_guest_148 (fun t35 => ?_)
      refine g_iload_n 1 dX11_guest_151 rfl rfl ?_
      refine g_callVI (st := []) (ci := 5) rfl (s_X5_mayGo hX t35 v1 h2) kml_X11_110 kim_X5_mayGo kse_X5_mayGo kii_X5 kcd_X5_mayGo rfl ds_X5_mayGo rfl ⟨Nat.le_of_ble_eq_true rfl, Nat.le_of_ble_eq_true rfl⟩ (Nat.le_of_ble_eq_true rfl) rfl dX11_guest_152 (fun r37 h36 => ?_)
      refine g_ifeq (tgt := 162) dX11_guest_155 (by decide) ?_ ?_
      · refine g_iconst (v := 0) dX11_guest_162 (by decide) ?_
        exact g_ireturn rfl dX11_guest_163
      · refine g_iconst (v := 1) dX11_guest_158 (by decide) ?_
        refine g_goto (tgt := 163) dX11_guest_159 (by decide) ?_
        exact g_ireturn rfl dX11_guest_163
    refine g_tsIn (c := 8) (off := 150) (tgt := 164) dX11_guest_14 (by decide) (by decide) (by decide) (by decide) ?_ (fun n38 => ?_)
    · refine g_aload_n 0 dX11_guest_164 rfl rfl ?_
      refine g_getR kfl_X11_10 fo_X11_now dX11_guest_165 (fun t39 => ?_)
      refine g_iload_n 1 dX11_guest_168 rfl rfl ?_
      refine g_callVI (st := []) (ci := 5) rfl (s_X5_lacks hX t39 v1 h2) kml_X11_113 kim_X5_lacks kse_X5_lacks kii_X5 kcd_X5_lacks rfl ds_X5_lacks rfl ⟨Nat.le_of_ble_eq_true rfl, Nat.le_of_ble_eq_true rfl⟩ (Nat.le_of_ble_eq_true rfl) rfl dX11_guest_169 (fun r41 h40 => ?_)
      exact g_ireturn rfl dX11_guest_172
    refine g_tsDef (tgt := 173) (keys := [0, 1, 2, 3, 4, 5, 6, 7, 8]) (neK_cons (c := 0) (k := 0) n4 (by decide) (neK_cons (c := 1) (k := 1) n9 (by decide) (neK_cons (c := 2) (k := 2) n14 (by decide) (neK_cons (c := 3) (k := 3) n18 (by decide) (neK_cons (c := 4) (k := 4) n22 (by decide) (neK_cons (c := 5) (k := 5) n26 (by decide) (neK_cons (c := 6) (k := 6) n30 (by decide) (neK_cons (c := 7) (k := 7) n34 (by decide) (neK_cons (c := 8) (k := 8) n38 (by decide) neK_nil))))))))) (by decide +kernel) dX11_guest_14 (by decide) ?_
    refine g_iconst (v := (-1)) dX11_guest_173 (by decide) ?_
    exact g_ireturn rfl dX11_guest_174
  · refine g_iconst (v := (-1)) dX11_guest_11 (by decide) ?_
    exact g_ireturn rfl dX11_guest_12
abbrev p_X11_house (X : GX) (h0 : AH) : PX Int32 := (X, (fun x => Sum.inl (rI x)), (7, 154, 7), h0)
def f_X11_house_b132 (x0 : Option Nat) (x5 : Int32) (h : AH) : Option (Int32 × AH) :=
    (gR h x0 [11] 0).bind fun t16 =>
    (gR h x0 [11] 1).bind fun t17 =>
    bd (cv h t16 5 (f_X5_becomes t16 t17 h)) fun u19 h18 =>
    some (x5, h18)
set_option maxRecDepth 100000 in
set_option maxHeartbeats 4000000 in
theorem s_X11_house_b132 {X : GX} (hX : XOK X) {h0 : AH} : ∀ (x0 : Option Nat) (x5 : Int32) (h : AH), Gp (p_X11_house X h0) RX11 "house" cX11_house (some .int) 132 [(0, vR x0), (5, vI x5)] [] h (f_X11_house_b132 x0 x5 h) := by
  intro x0 x5 h
  unfold f_X11_house_b132
  refine g_aload_n 0 dX11_house_132 rfl rfl ?_
  refine g_getR kfl_X11_10 fo_X11_now dX11_house_133 (fun t16 => ?_)
  refine g_aload_n 0 dX11_house_136 rfl rfl ?_
  refine g_getR kfl_X11_16 fo_X11_mind dX11_house_137 (fun t17 => ?_)
  refine g_callVU (st := []) (ci := 5) rfl (s_X5_becomes hX t16 t17 h) kml_X11_70 kim_X5_becomes kse_X5_becomes kii_X5 kcd_X5_becomes rfl ds_X5_becomes rfl ⟨Nat.le_of_ble_eq_true rfl, Nat.le_of_ble_eq_true rfl⟩ (Nat.le_of_ble_eq_true rfl) rfl dX11_house_140 (fun u19 h18 => ?_)
  refine g_iload 1 dX11_house_143 rfl ?_
  exact g_ireturn rfl dX11_house_145
def f_X11_house_b79 : Nat → Option Nat → Option Nat → Option Nat → Int32 → Int32 → AH → Option (Int32 × AH)
  | 0 => fun _ _ _ _ _ _ => none
  | n + 1 => fun x0 x2 x3 x5 x6 h =>
    (if 100 ≤ x5 then
    f_X11_house_b132 x0 x5 h
    else bd (cv h x2 7 (f_X7_size x2 h)) fun r21 h20 =>
    (if r21 ≤ x6 then
    f_X11_house_b132 x0 x5 h20
    else (gR h20 x0 [11] 1).bind fun t22 =>
    bd (cv h20 x3 10 (f_X10_follow x3 t22 x6 h20)) fun r24 h23 =>
    (if r24 = 0 then
    some (((-2000) - x6), h23)
    else bd (cv h23 x3 10 (f_X10_lengthAt x3 x6 h23)) fun r26 h25 =>
    nm (x6 + r26) fun t27 =>
    f_X11_house_b79 n x0 x2 x3 (x5 + 1) t27 h25)))
set_option maxRecDepth 100000 in
set_option maxHeartbeats 4000000 in
theorem s_X11_house_b79 {X : GX} (hX : XOK X) {h0 : AH} : ∀ (n : Nat) (x0 : Option Nat) (x2 : Option Nat) (x3 : Option Nat) (x5 : Int32) (x6 : Int32) (h : AH), Gp (p_X11_house X h0) RX11 "house" cX11_house (some .int) 79 [(0, vR x0), (2, vR x2), (3, vR x3), (5, vI x5), (6, vI x6)] [] h (f_X11_house_b79 n x0 x2 x3 x5 x6 h) := by
  intro n
  induction n with
  | zero => intro x0 x2 x3 x5 x6 h; exact g_none
  | succ n ih =>
    intro x0 x2 x3 x5 x6 h
    rw [f_X11_house_b79]
    refine g_iload 3 dX11_house_79 rfl ?_
    refine g_bipush (v := 100) dX11_house_81 (by decide) ?_
    refine g_icmpge (tgt := 132) dX11_house_83 (by decide) ?_ ?_
    · exact g_sub2 [0, 3] rfl (s_X11_house_b132 hX x0 x5 h)
    · refine g_iload 4 dX11_house_86 rfl ?_
      refine g_aload_n 1 dX11_house_88 rfl rfl ?_
      refine g_callVI (st := [vI x6]) (ci := 7) rfl (s_X7_size hX x2 h) kml_X11_74 kim_X7_size kse_X7_size kii_X7 kcd_X7_size rfl ds_X7_size rfl ⟨Nat.le_of_ble_eq_true rfl, Nat.le_of_ble_eq_true rfl⟩ (Nat.le_of_ble_eq_true rfl) rfl dX11_house_89 (fun r21 h20 => ?_)
      refine g_icmpge (tgt := 132) dX11_house_92 (by decide) ?_ ?_
      · exact g_sub2 [0, 3] rfl (s_X11_house_b132 hX x0 x5 h20)
      · refine g_aload_n 2 dX11_house_95 rfl rfl ?_
        refine g_aload_n 0 dX11_house_96 rfl rfl ?_
        refine g_getR kfl_X11_16 fo_X11_mind dX11_house_97 (fun t22 => ?_)
        refine g_iload 4 dX11_house_100 rfl ?_
        refine g_callVI (st := []) (ci := 10) rfl (s_X10_follow hX x3 t22 x6 h20) kml_X11_77 kim_X10_follow kse_X10_follow kii_X10 kcd_X10_follow rfl ds_X10_follow rfl ⟨Nat.le_of_ble_eq_true rfl, Nat.le_of_ble_eq_true rfl⟩ (Nat.le_of_ble_eq_true rfl) rfl dX11_house_102 (fun r24 h23 => ?_)
        refine g_ifne (tgt := 115) dX11_house_105 (by decide) ?_ ?_
        · refine g_iload 4 dX11_house_115 rfl ?_
          refine g_aload_n 2 dX11_house_117 rfl rfl ?_
          refine g_iload 4 dX11_house_118 rfl ?_
          refine g_callVI (st := [vI x6]) (ci := 10) rfl (s_X10_lengthAt hX x3 x6 h23) kml_X11_81 kim_X10_lengthAt kse_X10_lengthAt kii_X10 kcd_X10_lengthAt rfl ds_X10_lengthAt rfl ⟨Nat.le_of_ble_eq_true rfl, Nat.le_of_ble_eq_true rfl⟩ (Nat.le_of_ble_eq_true rfl) rfl dX11_house_120 (fun r26 h25 => ?_)
          refine g_iadd dX11_house_123 ?_
          refine g_nmI (fun t27 => ?_)
          refine g_istore (ls' := [(6, vI t27), (0, vR x0), (2, vR x2), (3, vR x3), (5, vI x5)]) dX11_house_124 (Nat.le_of_ble_eq_true rfl) rfl ?_
          refine g_iinc 4 (v := (x5 + 1)) (ls' := [(5, vI ((x5 + 1))), (6, vI t27), (0, vR x0), (2, vR x2), (3, vR x3)]) dX11_house_126 rfl rfl (Nat.le_of_ble_eq_true rfl) rfl ?_
          refine g_goto (tgt := 79) dX11_house_129 (by decide) ?_
          exact g_sub2 [2, 3, 4, 0, 1] rfl (ih x0 x2 x3 (x5 + 1) t27 h25)
        · refine g_sipush (v := (-2000)) dX11_house_108 (by decide) ?_
          refine g_iload 4 dX11_house_111 rfl ?_
          refine g_isub dX11_house_113 ?_
          exact g_ireturn rfl dX11_house_114
def f_X11_house (v0 : Option Nat) (v1 : Int32) (h : AH) : Option (Int32 × AH) :=
    bd (f_X11_isShelf v1 h) fun r2 h1 =>
    (if r2 = 0 then
    some ((-1), h1)
    else bd (cv h1 v0 11 (f_X11_rowOn v0 v1 h1)) fun r4 h3 =>
    (if r4 = none then
    bd (cv h3 v0 11 (f_X11_whyNoRow v0 v1 h3)) fun r29 h28 =>
    some (r29, h28)
    else (gI h3 r4 [7] 0).bind fun t5 =>
    (if t5 = 0 then
    bd (nO h3 10 1) fun a6 h7 =>
    bd (nn a6 (f_X10_init a6 r4 h7)) fun u9 h8 =>
    bd (cv h8 a6 10 (f_X10_firstFlaw a6 h8)) fun r11 h10 =>
    (if r11 < 0 then
    (gR h10 v0 [11] 1).bind fun t12 =>
    (gR h10 v0 [11] 0).bind fun t13 =>
    bd (cv h10 t12 5 (f_X5_becomes t12 t13 h10)) fun u15 h14 =>
    f_X11_house_b79 FU v0 r4 a6 0 0 h14
    else some (((-1000) - r11), h10))
    else some ((-12), h3))))
set_option maxRecDepth 100000 in
set_option maxHeartbeats 4000000 in
theorem s_X11_house {X : GX} (hX : XOK X) (v0 : Option Nat) (v1 : Int32) (h : AH) : Snd X yX11_house cX11_house 7 (some .int) 7 154 rI [vR v0, vI v1] h (f_X11_house v0 v1 h) := by
  refine snd_of hX (by decide +kernel) (Nat.le_of_ble_eq_true rfl) ?_
  show Gp (p_X11_house X h) RX11 "house" cX11_house (some .int) 0 [(0, vR v0), (1, vI v1)] [] h _
  unfold f_X11_house
  refine g_iload_n 1 dX11_house_0 rfl rfl ?_
  refine g_callSI (st := []) (s_X11_isShelf hX v1 h) kml_X11_45 kst_X11_isShelf kii_X11 kcd_X11_isShelf ds_X11_isShelf rfl ⟨Nat.le_of_ble_eq_true rfl, Nat.le_of_ble_eq_true rfl⟩ (Nat.le_of_ble_eq_true rfl) rfl dX11_house_1 (fun r2 h1 => ?_)
  refine g_ifne (tgt := 9) dX11_house_4 (by decide) ?_ ?_
  · refine g_aload_n 0 dX11_house_9 rfl rfl ?_
    refine g_iload_n 1 dX11_house_10 rfl rfl ?_
    refine g_callVR (st := []) (ci := 11) rfl (s_X11_rowOn hX v0 v1 h1) kml_X11_49 kim_X11_rowOn kse_X11_rowOn kii_X11 kcd_X11_rowOn rfl ds_X11_rowOn rfl ⟨Nat.le_of_ble_eq_true rfl, Nat.le_of_ble_eq_true rfl⟩ (Nat.le_of_ble_eq_true rfl) rfl dX11_house_11 (fun r4 h3 => ?_)
    refine g_astore_n (ls' := [(2, vR r4), (0, vR v0), (1, vI v1)]) dX11_house_14 rfl (Nat.le_of_ble_eq_true rfl) rfl ?_
    refine g_aload_n 0 dX11_house_15 rfl rfl ?_
    refine g_ifnonnull (tgt := 25) dX11_house_16 (by decide) ?_ ?_
    · refine g_aload_n 0 dX11_house_25 rfl rfl ?_
      refine g_getI kfl_X11_57 fo_X7_sort dX11_house_26 (fun t5 => ?_)
      refine g_ifeq (tgt := 35) dX11_house_29 (by decide) ?_ ?_
      · refine g_new clX10 kcl_X11_61 kin_X10 kii_X10 dX11_house_35 (fun a6 h7 => ?_)
        refine g_dup dX11_house_38 rfl ?_
        refine g_aload_n 0 dX11_house_39 rfl rfl ?_
        refine g_callI2 (st := [vR a6]) (s_X10_init hX a6 r4 h7) kml_X11_63 kim_X10_init kii_X10 kcd_X10_init rfl ds_X10_init rfl ⟨Nat.le_of_ble_eq_true rfl, Nat.le_of_ble_eq_true rfl⟩ (Nat.le_of_ble_eq_true rfl) rfl dX11_house_40 (fun u9 h8 => ?_)
        refine g_astore_n (ls' := [(3, vR a6), (2, vR r4), (0, vR v0), (1, vI v1)]) dX11_house_43 rfl (Nat.le_of_ble_eq_true rfl) rfl ?_
        refine g_aload_n 0 dX11_house_44 rfl rfl ?_
        refine g_callVI (st := []) (ci := 10) rfl (s_X10_firstFlaw hX a6 h8) kml_X11_66 kim_X10_firstFlaw kse_X10_firstFlaw kii_X10 kcd_X10_firstFlaw rfl ds_X10_firstFlaw rfl ⟨Nat.le_of_ble_eq_true rfl, Nat.le_of_ble_eq_true rfl⟩ (Nat.le_of_ble_eq_true rfl) rfl dX11_house_45 (fun r11 h10 => ?_)
        refine g_istore (ls' := [(4, vI r11), (3, vR a6), (2, vR r4), (0, vR v0), (1, vI v1)]) dX11_house_48 (Nat.le_of_ble_eq_true rfl) rfl ?_
        refine g_iload 0 dX11_house_50 rfl ?_
        refine g_iflt (tgt := 62) dX11_house_52 (by decide) ?_ ?_
        · refine g_aload_n 3 dX11_house_62 rfl rfl ?_
          refine g_getR kfl_X11_16 fo_X11_mind dX11_house_63 (fun t12 => ?_)
          refine g_aload_n 3 dX11_house_66 rfl rfl ?_
          refine g_getR kfl_X11_10 fo_X11_now dX11_house_67 (fun t13 => ?_)
          refine g_callVU (st := []) (ci := 5) rfl (s_X5_becomes hX t12 t13 h10) kml_X11_70 kim_X5_becomes kse_X5_becomes kii_X5 kcd_X5_becomes rfl ds_X5_becomes rfl ⟨Nat.le_of_ble_eq_true rfl, Nat.le_of_ble_eq_true rfl⟩ (Nat.le_of_ble_eq_true rfl) rfl dX11_house_70 (fun u15 h14 => ?_)
          refine g_iconst (v := 0) dX11_house_73 (by decide) ?_
          refine g_istore (ls' := [(5, vI 0), (4, vI r11), (3, vR a6), (2, vR r4), (0, vR v0), (1, vI v1)]) dX11_house_74 (Nat.le_of_ble_eq_true rfl) rfl ?_
          refine g_iconst (v := 0) dX11_house_76 (by decide) ?_
          refine g_istore (ls' := [(6, vI 0), (5, vI 0), (4, vI r11), (3, vR a6), (2, vR r4), (0, vR v0), (1, vI v1)]) dX11_house_77 (Nat.le_of_ble_eq_true rfl) rfl ?_
          exact g_sub2 [5, 4, 3, 1, 0] rfl (s_X11_house_b79 hX FU v0 r4 a6 0 0 h14)
        · refine g_sipush (v := (-1000)) dX11_house_55 (by decide) ?_
          refine g_iload 0 dX11_house_58 rfl ?_
          refine g_isub dX11_house_60 ?_
          exact g_ireturn rfl dX11_house_61
      · refine g_bipush (v := (-12)) dX11_house_32 (by decide) ?_
        exact g_ireturn rfl dX11_house_34
    · refine g_aload_n 1 dX11_house_19 rfl rfl ?_
      refine g_iload_n 2 dX11_house_20 rfl rfl ?_
      refine g_callVI (st := []) (ci := 11) rfl (s_X11_whyNoRow hX v0 v1 h3) kml_X11_53 kim_X11_whyNoRow kse_X11_whyNoRow kii_X11 kcd_X11_whyNoRow rfl ds_X11_whyNoRow rfl ⟨Nat.le_of_ble_eq_true rfl, Nat.le_of_ble_eq_true rfl⟩ (Nat.le_of_ble_eq_true rfl) rfl dX11_house_21 (fun r29 h28 => ?_)
      exact g_ireturn rfl dX11_house_24
  · refine g_iconst (v := (-1)) dX11_house_7 (by decide) ?_
    exact g_ireturn rfl dX11_house_8
abbrev p_X11_image (X : GX) (h0 : AH) : PX Int32 := (X, (fun x => Sum.inl (rI x)), (1, 22, 1), h0)
def f_X11_image (v0 : Option Nat) (h : AH) : Option (Int32 × AH) :=
    (gR h v0 [11] 2).bind fun t1 =>
    (gR h v0 [11] 0).bind fun t2 =>
    bd (cv h t1 5 (f_X5_becomes t1 t2 h)) fun u4 h3 =>
    (pI h3 v0 [11] 3 1).bind fun h5 =>
    (gR h5 v0 [11] 0).bind fun t6 =>
    (gI h5 t6 [5] 10).bind fun t7 =>
    some (t7, h5)
set_option maxRecDepth 100000 in
set_option maxHeartbeats 4000000 in
theorem s_X11_image {X : GX} (hX : XOK X) (v0 : Option Nat) (h : AH) : Snd X yX11_image cX11_image 1 (some .int) 1 22 rI [vR v0] h (f_X11_image v0 h) := by
  refine snd_of hX (by decide +kernel) (Nat.le_of_ble_eq_true rfl) ?_
  show Gp (p_X11_image X h) RX11 "image" cX11_image (some .int) 0 [(0, vR v0)] [] h _
  unfold f_X11_image
  refine g_aload_n 0 dX11_image_0 rfl rfl ?_
  refine g_getR kfl_X11_19 fo_X11_kept dX11_image_1 (fun t1 => ?_)
  refine g_aload_n 0 dX11_image_4 rfl rfl ?_
  refine g_getR kfl_X11_10 fo_X11_now dX11_image_5 (fun t2 => ?_)
  refine g_callVU (st := []) (ci := 5) rfl (s_X5_becomes hX t1 t2 h) kml_X11_70 kim_X5_becomes kse_X5_becomes kii_X5 kcd_X5_becomes rfl ds_X5_becomes rfl ⟨Nat.le_of_ble_eq_true rfl, Nat.le_of_ble_eq_true rfl⟩ (Nat.le_of_ble_eq_true rfl) rfl dX11_image_8 (fun u4 h3 => ?_)
  refine g_aload_n 0 dX11_image_11 rfl rfl ?_
  refine g_iconst (v := 1) dX11_image_12 (by decide) ?_
  refine g_putI kfl_X11_22 fo_X11_imageTaken pd_Z nZ1.1 nZ1.2 dX11_image_13 (fun h5 => ?_)
  refine g_aload_n 0 dX11_image_16 rfl rfl ?_
  refine g_getR kfl_X11_10 fo_X11_now dX11_image_17 (fun t6 => ?_)
  refine g_getI kfl_X11_165 fo_X5_day dX11_image_20 (fun t7 => ?_)
  exact g_ireturn rfl dX11_image_23
abbrev p_X5_init (X : GX) (h0 : AH) : PX Unit := (X, (fun x => Sum.inl (rU x)), (2, 42, 3), h0)
def f_X5_init_b87 : Nat → Option Nat → Option Nat → Int32 → AH → Option (Unit × AH)
  | 0 => fun _ _ _ _ => none
  | n + 1 => fun x0 x1 x2 h =>
    (if 7 ≤ x2 then
    some ((), h)
    else (gR h x0 [5] 0).bind fun t28 =>
    (rS h t28 2 GF x2 x1).bind fun h29 =>
    f_X5_init_b87 n x0 x1 (x2 + 1) h29)
set_option maxRecDepth 100000 in
set_option maxHeartbeats 4000000 in
theorem s_X5_init_b87 {X : GX} (hX : XOK X) {h0 : AH} : ∀ (n : Nat) (x0 : Option Nat) (x1 : Option Nat) (x2 : Int32) (h : AH), Gp (p_X5_init X h0) RX5 "<init>" cX5_init none 87 [(0, vR x0), (1, vR x1), (2, vI x2)] [] h (f_X5_init_b87 n x0 x1 x2 h) := by
  intro n
  induction n with
  | zero => intro x0 x1 x2 h; exact g_none
  | succ n ih =>
    intro x0 x1 x2 h
    rw [f_X5_init_b87]
    refine g_iload_n 2 dX5_init_87 rfl rfl ?_
    refine g_bipush (v := 7) dX5_init_88 (by decide) ?_
    refine g_icmpge (tgt := 106) dX5_init_90 (by decide) ?_ ?_
    · exact g_return rfl dX5_init_106
    · refine g_aload_n 0 dX5_init_93 rfl rfl ?_
      refine g_getR kfl_X5_11 fo_X5_kind dX5_init_94 (fun t28 => ?_)
      refine g_iload_n 2 dX5_init_97 rfl rfl ?_
      refine g_aload_n 1 dX5_init_98 rfl rfl ?_
      refine g_aastore (kd := 2) (by decide) (by decide) asgG dX5_init_99 (fun h29 => ?_)
      refine g_iinc 2 (v := (x2 + 1)) (ls' := [(2, vI ((x2 + 1))), (0, vR x0), (1, vR x1)]) dX5_init_100 rfl rfl (Nat.le_of_ble_eq_true rfl) rfl ?_
      refine g_goto (tgt := 87) dX5_init_103 (by decide) ?_
      exact g_sub2 [1, 2, 0] rfl (ih x0 x1 (x2 + 1) h29)
def f_X5_init (v0 : Option Nat) (h : AH) : Option (Unit × AH) :=
    (if v0 = none then none else bd (nA h 2 7) fun a3 h4 =>
    (pR h4 v0 [5] 0 a3).bind fun h5 =>
    bd (nA h5 0 7) fun a6 h7 =>
    (pR h7 v0 [5] 1 a6).bind fun h8 =>
    bd (nA h8 0 7) fun a9 h10 =>
    (pR h10 v0 [5] 2 a9).bind fun h11 =>
    bd (nA h11 0 7) fun a12 h13 =>
    (pR h13 v0 [5] 3 a12).bind fun h14 =>
    bd (nA h14 0 7) fun a15 h16 =>
    (pR h16 v0 [5] 4 a15).bind fun h17 =>
    (pI h17 v0 [5] 5 0).bind fun h18 =>
    (pI h18 v0 [5] 6 0).bind fun h19 =>
    (pI h19 v0 [5] 7 2).bind fun h20 =>
    (pI h20 v0 [5] 8 3).bind fun h21 =>
    (pI h21 v0 [5] 9 0).bind fun h22 =>
    (pI h22 v0 [5] 10 0).bind fun h23 =>
    bd (nO h23 4 2) fun a24 h25 =>
    bd (nn a24 (f_X4_init a24 0 0 h25)) fun u27 h26 =>
    f_X5_init_b87 FU v0 a24 0 h26)
set_option maxRecDepth 100000 in
set_option maxHeartbeats 4000000 in
theorem s_X5_init {X : GX} (hX : XOK X) (v0 : Option Nat) (h : AH) : Snd X yX5_init cX5_init 3 none 2 42 rU [vR v0] h (f_X5_init v0 h) := by
  refine snd_of hX (by decide +kernel) (Nat.le_of_ble_eq_true rfl) ?_
  show Gp (p_X5_init X h) RX5 "<init>" cX5_init none 0 [(0, vR v0)] [] h _
  unfold f_X5_init
  refine g_aload_n 0 dX5_init_0 rfl rfl ?_
  refine g_objInit kml_X5_3 kio kco ⟨Nat.le_of_ble_eq_true rfl, Nat.le_of_ble_eq_true rfl⟩ (Nat.le_of_ble_eq_true rfl) dX5_init_1 ?_
  refine g_aload_n 0 dX5_init_4 rfl rfl ?_
  refine g_bipush (v := 7) dX5_init_5 (by decide) ?_
  refine g_anewarray (kd := 2) (C := RX4) (by decide) (by decide) rfl kcl_X5_9 kao_X4 dX5_init_7 (fun a3 h4 => ?_)
  refine g_putRF kfl_X5_11 fo_X5_kind fw_X5_0 pd__LGuestWeighsLess_Guest_ nrv.1 nrv.2 dX5_init_10 (fun h5 => ?_)
  refine g_aload_n 0 dX5_init_13 rfl rfl ?_
  refine g_bipush (v := 7) dX5_init_14 (by decide) ?_
  refine g_newarrayI kac_int dX5_init_16 (fun a6 h7 => ?_)
  refine g_putRF kfl_X5_17 fo_X5_weight fw_X5_1 pd__I nrv.1 nrv.2 dX5_init_18 (fun h8 => ?_)
  refine g_aload_n 0 dX5_init_21 rfl rfl ?_
  refine g_bipush (v := 7) dX5_init_22 (by decide) ?_
  refine g_newarrayI kac_int dX5_init_24 (fun a9 h10 => ?_)
  refine g_putRF kfl_X5_21 fo_X5_entered fw_X5_2 pd__I nrv.1 nrv.2 dX5_init_26 (fun h11 => ?_)
  refine g_aload_n 0 dX5_init_29 rfl rfl ?_
  refine g_bipush (v := 7) dX5_init_30 (by decide) ?_
  refine g_newarrayI kac_int dX5_init_32 (fun a12 h13 => ?_)
  refine g_putRF kfl_X5_24 fo_X5_secrets fw_X5_3 pd__I nrv.1 nrv.2 dX5_init_34 (fun h14 => ?_)
  refine g_aload_n 0 dX5_init_37 rfl rfl ?_
  refine g_bipush (v := 7) dX5_init_38 (by decide) ?_
  refine g_newarrayI kac_int dX5_init_40 (fun a15 h16 => ?_)
  refine g_putRF kfl_X5_27 fo_X5_came fw_X5_4 pd__I nrv.1 nrv.2 dX5_init_42 (fun h17 => ?_)
  refine g_aload_n 0 dX5_init_45 rfl rfl ?_
  refine g_iconst (v := 0) dX5_init_46 (by decide) ?_
  refine g_putI kfl_X5_30 fo_X5_guests pd_I nI'.1 nI'.2 dX5_init_47 (fun h18 => ?_)
  refine g_aload_n 0 dX5_init_50 rfl rfl ?_
  refine g_iconst (v := 0) dX5_init_51 (by decide) ?_
  refine g_putI kfl_X5_34 fo_X5_inside pd_I nI'.1 nI'.2 dX5_init_52 (fun h19 => ?_)
  refine g_aload_n 0 dX5_init_55 rfl rfl ?_
  refine g_iconst (v := 2) dX5_init_56 (by decide) ?_
  refine g_putI kfl_X5_37 fo_X5_board pd_I nI'.1 nI'.2 dX5_init_57 (fun h20 => ?_)
  refine g_aload_n 0 dX5_init_60 rfl rfl ?_
  refine g_iconst (v := 3) dX5_init_61 (by decide) ?_
  refine g_putI kfl_X5_40 fo_X5_dance pd_I nI'.1 nI'.2 dX5_init_62 (fun h21 => ?_)
  refine g_aload_n 0 dX5_init_65 rfl rfl ?_
  refine g_iconst (v := 0) dX5_init_66 (by decide) ?_
  refine g_putI kfl_X5_43 fo_X5_relief pd_I nI'.1 nI'.2 dX5_init_67 (fun h22 => ?_)
  refine g_aload_n 0 dX5_init_70 rfl rfl ?_
  refine g_iconst (v := 0) dX5_init_71 (by decide) ?_
  refine g_putI kfl_X5_46 fo_X5_day pd_I nI'.1 nI'.2 dX5_init_72 (fun h23 => ?_)
  refine g_new clX4 kcl_X5_9 kin_X4 kii_X4 dX5_init_75 (fun a24 h25 => ?_)
  refine g_dup dX5_init_78 rfl ?_
  refine g_iconst (v := 0) dX5_init_79 (by decide) ?_
  refine g_iconst (v := 0) dX5_init_80 (by decide) ?_
  refine g_callI2 (st := [vR a24]) (s_X4_init hX a24 0 0 h25) kml_X5_49 kim_X4_init kii_X4 kcd_X4_init rfl ds_X4_init rfl ⟨Nat.le_of_ble_eq_true rfl, Nat.le_of_ble_eq_true rfl⟩ (Nat.le_of_ble_eq_true rfl) rfl dX5_init_81 (fun u27 h26 => ?_)
  refine g_astore_n (ls' := [(1, vR a24), (0, vR v0)]) dX5_init_84 rfl (Nat.le_of_ble_eq_true rfl) rfl ?_
  refine g_iconst (v := 0) dX5_init_85 (by decide) ?_
  refine g_istore_n (ls' := [(2, vI 0), (1, vR a24), (0, vR v0)]) dX5_init_86 rfl (Nat.le_of_ble_eq_true rfl) rfl ?_
  exact g_sub2 [2, 1, 0] rfl (s_X5_init_b87 hX FU v0 a24 0 h26)
abbrev p_X11_init (X : GX) (h0 : AH) : PX Unit := (X, (fun x => Sum.inl (rU x)), (3, 64, 1), h0)
def f_X11_init (v0 : Option Nat) (h : AH) : Option (Unit × AH) :=
    (if v0 = none then none else bd (nO h 5 11) fun a3 h4 =>
    bd (nn a3 (f_X5_init a3 h4)) fun u6 h5 =>
    (pR h5 v0 [11] 0 a3).bind fun h7 =>
    bd (nO h7 5 11) fun a8 h9 =>
    bd (nn a8 (f_X5_init a8 h9)) fun u11 h10 =>
    (pR h10 v0 [11] 1 a8).bind fun h12 =>
    bd (nO h12 5 11) fun a13 h14 =>
    bd (nn a13 (f_X5_init a13 h14)) fun u16 h15 =>
    (pR h15 v0 [11] 2 a13).bind fun h17 =>
    (pI h17 v0 [11] 3 0).bind fun h18 =>
    bd (nA h18 2 8) fun a19 h20 =>
    (pR h20 v0 [11] 4 a19).bind fun h21 =>
    bd (nA h21 3 8) fun a22 h23 =>
    (pR h23 v0 [11] 5 a22).bind fun h24 =>
    bd (nA h24 0 49) fun a25 h26 =>
    (pR h26 v0 [11] 6 a25).bind fun h27 =>
    bd (nA h27 0 128) fun a28 h29 =>
    (pR h29 v0 [11] 7 a28).bind fun h30 =>
    some ((), h30))
set_option maxRecDepth 100000 in
set_option maxHeartbeats 4000000 in
theorem s_X11_init {X : GX} (hX : XOK X) (v0 : Option Nat) (h : AH) : Snd X yX11_init cX11_init 1 none 3 64 rU [vR v0] h (f_X11_init v0 h) := by
  refine snd_of hX (by decide +kernel) (Nat.le_of_ble_eq_true rfl) ?_
  show Gp (p_X11_init X h) RX11 "<init>" cX11_init none 0 [(0, vR v0)] [] h _
  unfold f_X11_init
  refine g_aload_n 0 dX11_init_0 rfl rfl ?_
  refine g_objInit kml_X11_1 kio kco ⟨Nat.le_of_ble_eq_true rfl, Nat.le_of_ble_eq_true rfl⟩ (Nat.le_of_ble_eq_true rfl) dX11_init_1 ?_
  refine g_aload_n 0 dX11_init_4 rfl rfl ?_
  refine g_new clX5 kcl_X11_7 kin_X5 kii_X5 dX11_init_5 (fun a3 h4 => ?_)
  refine g_dup dX11_init_8 rfl ?_
  refine g_callI2 (st := [vR a3, vR v0]) (s_X5_init hX a3 h4) kml_X11_9 kim_X5_init kii_X5 kcd_X5_init rfl ds_X5_init rfl ⟨Nat.le_of_ble_eq_true rfl, Nat.le_of_ble_eq_true rfl⟩ (Nat.le_of_ble_eq_true rfl) rfl dX11_init_9 (fun u6 h5 => ?_)
  refine g_putRF kfl_X11_10 fo_X11_now fw_X11_0 pd_LGuestWeighsLess_House_ nro.1 nro.2 dX11_init_12 (fun h7 => ?_)
  refine g_aload_n 0 dX11_init_15 rfl rfl ?_
  refine g_new clX5 kcl_X11_7 kin_X5 kii_X5 dX11_init_16 (fun a8 h9 => ?_)
  refine g_dup dX11_init_19 rfl ?_
  refine g_callI2 (st := [vR a8, vR v0]) (s_X5_init hX a8 h9) kml_X11_9 kim_X5_init kii_X5 kcd_X5_init rfl ds_X5_init rfl ⟨Nat.le_of_ble_eq_true rfl, Nat.le_of_ble_eq_true rfl⟩ (Nat.le_of_ble_eq_true rfl) rfl dX11_init_20 (fun u11 h10 => ?_)
  refine g_putRF kfl_X11_16 fo_X11_mind fw_X11_1 pd_LGuestWeighsLess_House_ nro.1 nro.2 dX11_init_23 (fun h12 => ?_)
  refine g_aload_n 0 dX11_init_26 rfl rfl ?_
  refine g_new clX5 kcl_X11_7 kin_X5 kii_X5 dX11_init_27 (fun a13 h14 => ?_)
  refine g_dup dX11_init_30 rfl ?_
  refine g_callI2 (st := [vR a13, vR v0]) (s_X5_init hX a13 h14) kml_X11_9 kim_X5_init kii_X5 kcd_X5_init rfl ds_X5_init rfl ⟨Nat.le_of_ble_eq_true rfl, Nat.le_of_ble_eq_true rfl⟩ (Nat.le_of_ble_eq_true rfl) rfl dX11_init_31 (fun u16 h15 => ?_)
  refine g_putRF kfl_X11_19 fo_X11_kept fw_X11_2 pd_LGuestWeighsLess_House_ nro.1 nro.2 dX11_init_34 (fun h17 => ?_)
  refine g_aload_n 0 dX11_init_37 rfl rfl ?_
  refine g_iconst (v := 0) dX11_init_38 (by decide) ?_
  refine g_putI kfl_X11_22 fo_X11_imageTaken pd_Z nZ0.1 nZ0.2 dX11_init_39 (fun h18 => ?_)
  refine g_aload_n 0 dX11_init_42 rfl rfl ?_
  refine g_bipush (v := 8) dX11_init_43 (by decide) ?_
  refine g_anewarray (kd := 2) (C := RX4) (by decide) (by decide) rfl kcl_X11_26 kao_X4 dX11_init_45 (fun a19 h20 => ?_)
  refine g_putRF kfl_X11_28 fo_X11_kindsHeld fw_X11_4 pd__LGuestWeighsLess_Guest_ nrv.1 nrv.2 dX11_init_48 (fun h21 => ?_)
  refine g_aload_n 0 dX11_init_51 rfl rfl ?_
  refine g_bipush (v := 8) dX11_init_52 (by decide) ?_
  refine g_anewarray (kd := 3) (C := RX7) (by decide) (by decide) rfl kcl_X11_32 kao_X7 dX11_init_54 (fun a22 h23 => ?_)
  refine g_putRF kfl_X11_34 fo_X11_rowsHeld fw_X11_5 pd__LGuestWeighsLess_Row_ nrv.1 nrv.2 dX11_init_57 (fun h24 => ?_)
  refine g_aload_n 0 dX11_init_60 rfl rfl ?_
  refine g_bipush (v := 49) dX11_init_61 (by decide) ?_
  refine g_newarrayI kac_int dX11_init_63 (fun a25 h26 => ?_)
  refine g_putRF kfl_X11_38 fo_X11_pairGone fw_X11_6 pd__I nrv.1 nrv.2 dX11_init_65 (fun h27 => ?_)
  refine g_aload_n 0 dX11_init_68 rfl rfl ?_
  refine g_sipush (v := 128) dX11_init_69 (by decide) ?_
  refine g_newarrayI kac_int dX11_init_72 (fun a28 h29 => ?_)
  refine g_putRF kfl_X11_42 fo_X11_mostGone fw_X11_7 pd__I nrv.1 nrv.2 dX11_init_74 (fun h30 => ?_)
  exact g_return rfl dX11_init_77
abbrev p_X11_judge (X : GX) (h0 : AH) : PX Int32 := (X, (fun x => Sum.inl (rI x)), (4, 86, 4), h0)
def f_X11_judge_b71 (k38 : Option Nat → Option Nat → Int32 → AH → Option (Int32 × AH)) (x0 : Option Nat) (x2 : Option Nat) (x3 : Int32) (h : AH) : Option (Int32 × AH) :=
    (gR h x0 [11] 1).bind fun t13 =>
    bd (cv h t13 5 (f_X5_passDay t13 h)) fun u15 h14 =>
    k38 x0 x2 (x3 + 1) h14
set_option maxRecDepth 100000 in
set_option maxHeartbeats 4000000 in
theorem s_X11_judge_b71 {X : GX} (hX : XOK X) {h0 : AH} (k38 : Option Nat → Option Nat → Int32 → AH → Option (Int32 × AH)) (hk38 : ∀ (z0 : Option Nat) (z1 : Option Nat) (z2 : Int32) (h : AH), Gp (p_X11_judge X h0) RX11 "judge" cX11_judge (some .int) 38 [(0, vR z0), (2, vR z1), (3, vI z2)] [] h (k38 z0 z1 z2 h)) : ∀ (x0 : Option Nat) (x2 : Option Nat) (x3 : Int32) (h : AH), Gp (p_X11_judge X h0) RX11 "judge" cX11_judge (some .int) 71 [(0, vR x0), (2, vR x2), (3, vI x3)] [] h (f_X11_judge_b71 k38 x0 x2 x3 h) := by
  intro x0 x2 x3 h
  unfold f_X11_judge_b71
  refine g_aload_n 0 dX11_judge_71 rfl rfl ?_
  refine g_getR kfl_X11_16 fo_X11_mind dX11_judge_72 (fun t13 => ?_)
  refine g_callVU (st := []) (ci := 5) rfl (s_X5_passDay hX t13 h) kml_X11_195 kim_X5_passDay kse_X5_passDay kii_X5 kcd_X5_passDay rfl ds_X5_passDay rfl ⟨Nat.le_of_ble_eq_true rfl, Nat.le_of_ble_eq_true rfl⟩ (Nat.le_of_ble_eq_true rfl) rfl dX11_judge_75 (fun u15 h14 => ?_)
  refine g_iinc 2 (v := (x3 + 1)) (ls' := [(3, vI ((x3 + 1))), (0, vR x0), (2, vR x2)]) dX11_judge_78 rfl rfl (Nat.le_of_ble_eq_true rfl) rfl ?_
  refine g_goto (tgt := 38) dX11_judge_81 (by decide) ?_
  exact g_sub2 [1, 2, 0] rfl (hk38 x0 x2 (x3 + 1) h14)
def f_X11_judge_b38 : Nat → Option Nat → Option Nat → Int32 → AH → Option (Int32 × AH)
  | 0 => fun _ _ _ _ => none
  | n + 1 => fun x0 x2 x3 h =>
    bd (cv h x2 7 (f_X7_size x2 h)) fun r10 h9 =>
    (if r10 ≤ x3 then
    some ((-4), h9)
    else bd (cv h9 x2 7 (f_X7_isSkipped x2 x3 h9)) fun r12 h11 =>
    (if r12 = 0 then
    bd (cv h11 x2 7 (f_X7_at x2 x3 h11)) fun r17 h16 =>
    (gR h16 x0 [11] 1).bind fun t18 =>
    bd (cv h16 t18 5 (f_X5_weightOfAll t18 h16)) fun r20 h19 =>
    (if r17 = r20 then
    f_X11_judge_b71 (f_X11_judge_b38 n) x0 x2 x3 h19
    else some (x3, h19))
    else f_X11_judge_b71 (f_X11_judge_b38 n) x0 x2 x3 h11))
set_option maxRecDepth 100000 in
set_option maxHeartbeats 4000000 in
theorem s_X11_judge_b38 {X : GX} (hX : XOK X) {h0 : AH} : ∀ (n : Nat) (x0 : Option Nat) (x2 : Option Nat) (x3 : Int32) (h : AH), Gp (p_X11_judge X h0) RX11 "judge" cX11_judge (some .int) 38 [(0, vR x0), (2, vR x2), (3, vI x3)] [] h (f_X11_judge_b38 n x0 x2 x3 h) := by
  intro n
  induction n with
  | zero => intro x0 x2 x3 h; exact g_none
  | succ n ih =>
    intro x0 x2 x3 h
    rw [f_X11_judge_b38]
    refine g_iload_n 2 dX11_judge_38 rfl rfl ?_
    refine g_aload_n 1 dX11_judge_39 rfl rfl ?_
    refine g_callVI (st := [vI x3]) (ci := 7) rfl (s_X7_size hX x2 h) kml_X11_74 kim_X7_size kse_X7_size kii_X7 kcd_X7_size rfl ds_X7_size rfl ⟨Nat.le_of_ble_eq_true rfl, Nat.le_of_ble_eq_true rfl⟩ (Nat.le_of_ble_eq_true rfl) rfl dX11_judge_40 (fun r10 h9 => ?_)
    refine g_icmpge (tgt := 84) dX11_judge_43 (by decide) ?_ ?_
    · refine g_bipush (v := (-4)) dX11_judge_84 (by decide) ?_
      exact g_ireturn rfl dX11_judge_86
    · refine g_aload_n 1 dX11_judge_46 rfl rfl ?_
      refine g_iload_n 2 dX11_judge_47 rfl rfl ?_
      refine g_callVI (st := []) (ci := 7) rfl (s_X7_isSkipped hX x2 x3 h9) kml_X11_290 kim_X7_isSkipped kse_X7_isSkipped kii_X7 kcd_X7_isSkipped rfl ds_X7_isSkipped rfl ⟨Nat.le_of_ble_eq_true rfl, Nat.le_of_ble_eq_true rfl⟩ (Nat.le_of_ble_eq_true rfl) rfl dX11_judge_48 (fun r12 h11 => ?_)
      refine g_ifne (tgt := 71) dX11_judge_51 (by decide) ?_ ?_
      · exact g_sub2 [0, 1, 2] rfl (s_X11_judge_b71 hX (f_X11_judge_b38 n) (fun z0 z1 z2 z3 => ih z0 z1 z2 z3) x0 x2 x3 h11)
      · refine g_aload_n 1 dX11_judge_54 rfl rfl ?_
        refine g_iload_n 2 dX11_judge_55 rfl rfl ?_
        refine g_callVI (st := []) (ci := 7) rfl (s_X7_at hX x2 x3 h11) kml_X11_293 kim_X7_at kse_X7_at kii_X7 kcd_X7_at rfl ds_X7_at rfl ⟨Nat.le_of_ble_eq_true rfl, Nat.le_of_ble_eq_true rfl⟩ (Nat.le_of_ble_eq_true rfl) rfl dX11_judge_56 (fun r17 h16 => ?_)
        refine g_aload_n 0 dX11_judge_59 rfl rfl ?_
        refine g_getR kfl_X11_16 fo_X11_mind dX11_judge_60 (fun t18 => ?_)
        refine g_callVI (st := [vI r17]) (ci := 5) rfl (s_X5_weightOfAll hX t18 h16) kml_X11_180 kim_X5_weightOfAll kse_X5_weightOfAll kii_X5 kcd_X5_weightOfAll rfl ds_X5_weightOfAll rfl ⟨Nat.le_of_ble_eq_true rfl, Nat.le_of_ble_eq_true rfl⟩ (Nat.le_of_ble_eq_true rfl) rfl dX11_judge_63 (fun r20 h19 => ?_)
        refine g_icmpeq (tgt := 71) dX11_judge_66 (by decide) ?_ ?_
        · exact g_sub2 [0, 1, 2] rfl (s_X11_judge_b71 hX (f_X11_judge_b38 n) (fun z0 z1 z2 z3 => ih z0 z1 z2 z3) x0 x2 x3 h19)
        · refine g_iload_n 2 dX11_judge_69 rfl rfl ?_
          exact g_ireturn rfl dX11_judge_70
def f_X11_judge (v0 : Option Nat) (v1 : Int32) (h : AH) : Option (Int32 × AH) :=
    bd (f_X11_isShelf v1 h) fun r2 h1 =>
    (if r2 = 0 then
    some ((-1), h1)
    else bd (cv h1 v0 11 (f_X11_rowOn v0 v1 h1)) fun r4 h3 =>
    (if r4 = none then
    bd (cv h3 v0 11 (f_X11_whyNoRow v0 v1 h3)) fun r22 h21 =>
    some (r22, h21)
    else (gR h3 v0 [11] 1).bind fun t5 =>
    (gR h3 v0 [11] 0).bind fun t6 =>
    bd (cv h3 t5 5 (f_X5_becomes t5 t6 h3)) fun u8 h7 =>
    f_X11_judge_b38 FU v0 r4 0 h7))
set_option maxRecDepth 100000 in
set_option maxHeartbeats 4000000 in
theorem s_X11_judge {X : GX} (hX : XOK X) (v0 : Option Nat) (v1 : Int32) (h : AH) : Snd X yX11_judge cX11_judge 4 (some .int) 4 86 rI [vR v0, vI v1] h (f_X11_judge v0 v1 h) := by
  refine snd_of hX (by decide +kernel) (Nat.le_of_ble_eq_true rfl) ?_
  show Gp (p_X11_judge X h) RX11 "judge" cX11_judge (some .int) 0 [(0, vR v0), (1, vI v1)] [] h _
  unfold f_X11_judge
  refine g_iload_n 1 dX11_judge_0 rfl rfl ?_
  refine g_callSI (st := []) (s_X11_isShelf hX v1 h) kml_X11_45 kst_X11_isShelf kii_X11 kcd_X11_isShelf ds_X11_isShelf rfl ⟨Nat.le_of_ble_eq_true rfl, Nat.le_of_ble_eq_true rfl⟩ (Nat.le_of_ble_eq_true rfl) rfl dX11_judge_1 (fun r2 h1 => ?_)
  refine g_ifne (tgt := 9) dX11_judge_4 (by decide) ?_ ?_
  · refine g_aload_n 0 dX11_judge_9 rfl rfl ?_
    refine g_iload_n 1 dX11_judge_10 rfl rfl ?_
    refine g_callVR (st := []) (ci := 11) rfl (s_X11_rowOn hX v0 v1 h1) kml_X11_49 kim_X11_rowOn kse_X11_rowOn kii_X11 kcd_X11_rowOn rfl ds_X11_rowOn rfl ⟨Nat.le_of_ble_eq_true rfl, Nat.le_of_ble_eq_true rfl⟩ (Nat.le_of_ble_eq_true rfl) rfl dX11_judge_11 (fun r4 h3 => ?_)
    refine g_astore_n (ls' := [(2, vR r4), (0, vR v0), (1, vI v1)]) dX11_judge_14 rfl (Nat.le_of_ble_eq_true rfl) rfl ?_
    refine g_aload_n 0 dX11_judge_15 rfl rfl ?_
    refine g_ifnonnull (tgt := 25) dX11_judge_16 (by decide) ?_ ?_
    · refine g_aload_n 1 dX11_judge_25 rfl rfl ?_
      refine g_getR kfl_X11_16 fo_X11_mind dX11_judge_26 (fun t5 => ?_)
      refine g_aload_n 1 dX11_judge_29 rfl rfl ?_
      refine g_getR kfl_X11_10 fo_X11_now dX11_judge_30 (fun t6 => ?_)
      refine g_callVU (st := []) (ci := 5) rfl (s_X5_becomes hX t5 t6 h3) kml_X11_70 kim_X5_becomes kse_X5_becomes kii_X5 kcd_X5_becomes rfl ds_X5_becomes rfl ⟨Nat.le_of_ble_eq_true rfl, Nat.le_of_ble_eq_true rfl⟩ (Nat.le_of_ble_eq_true rfl) rfl dX11_judge_33 (fun u8 h7 => ?_)
      refine g_iconst (v := 0) dX11_judge_36 (by decide) ?_
      refine g_istore_n (ls' := [(3, vI 0), (2, vR r4), (0, vR v0), (1, vI v1)]) dX11_judge_37 rfl (Nat.le_of_ble_eq_true rfl) rfl ?_
      exact g_sub2 [2, 1, 0] rfl (s_X11_judge_b38 hX FU v0 r4 0 h7)
    · refine g_aload_n 1 dX11_judge_19 rfl rfl ?_
      refine g_iload_n 2 dX11_judge_20 rfl rfl ?_
      refine g_callVI (st := []) (ci := 11) rfl (s_X11_whyNoRow hX v0 v1 h3) kml_X11_53 kim_X11_whyNoRow kse_X11_whyNoRow kii_X11 kcd_X11_whyNoRow rfl ds_X11_whyNoRow rfl ⟨Nat.le_of_ble_eq_true rfl, Nat.le_of_ble_eq_true rfl⟩ (Nat.le_of_ble_eq_true rfl) rfl dX11_judge_21 (fun r22 h21 => ?_)
      exact g_ireturn rfl dX11_judge_24
  · refine g_iconst (v := (-1)) dX11_judge_7 (by decide) ?_
    exact g_ireturn rfl dX11_judge_8
abbrev p_X11_keep (X : GX) (h0 : AH) : PX Int32 := (X, (fun x => Sum.inl (rI x)), (5, 107, 5), h0)
def f_X11_keep_b63 (x0 : Option Nat) (x1 : Int32) (y2 : Option Nat) (y1 : Int32) (y0 : Option Nat) (h : AH) : Option (Int32 × AH) :=
    (rS h y0 2 GF y1 y2).bind fun h4 =>
    (gR h4 x0 [11] 5).bind fun t5 =>
    (rS h4 t5 3 [7] x1 none).bind fun h6 =>
    some (0, h6)
set_option maxRecDepth 100000 in
set_option maxHeartbeats 4000000 in
theorem s_X11_keep_b63 {X : GX} (hX : XOK X) {h0 : AH} : ∀ (x0 : Option Nat) (x1 : Int32) (y2 : Option Nat) (y1 : Int32) (y0 : Option Nat) (h : AH), Gp (p_X11_keep X h0) RX11 "keep" cX11_keep (some .int) 63 [(0, vR x0), (1, vI x1)] [vR y2, vI y1, vR y0] h (f_X11_keep_b63 x0 x1 y2 y1 y0 h) := by
  intro x0 x1 y2 y1 y0 h
  unfold f_X11_keep_b63
  refine g_aastore (kd := 2) (by decide) (by decide) asgG dX11_keep_63 (fun h4 => ?_)
  refine g_aload_n 0 dX11_keep_64 rfl rfl ?_
  refine g_getR kfl_X11_34 fo_X11_rowsHeld dX11_keep_65 (fun t5 => ?_)
  refine g_iload_n 1 dX11_keep_68 rfl rfl ?_
  refine g_null dX11_keep_69 ?_
  refine g_aastore (kd := 3) (by decide) (by decide) asgR dX11_keep_70 (fun h6 => ?_)
  refine g_iconst (v := 0) dX11_keep_71 (by decide) ?_
  exact g_ireturn rfl dX11_keep_72
def f_X11_keep_b43 (x0 : Option Nat) (x1 : Int32) (x2 : Int32) (x3 : Int32) (x4 : Int32) (h : AH) : Option (Int32 × AH) :=
    (gR h x0 [11] 4).bind fun t3 =>
    (if x2 = 1 then
    bd (f_X11_kindOf x3 x4 h) fun r8 h7 =>
    f_X11_keep_b63 x0 x1 r8 x1 t3 h7
    else f_X11_keep_b63 x0 x1 none x1 t3 h)
set_option maxRecDepth 100000 in
set_option maxHeartbeats 4000000 in
theorem s_X11_keep_b43 {X : GX} (hX : XOK X) {h0 : AH} : ∀ (x0 : Option Nat) (x1 : Int32) (x2 : Int32) (x3 : Int32) (x4 : Int32) (h : AH), Gp (p_X11_keep X h0) RX11 "keep" cX11_keep (some .int) 43 [(0, vR x0), (1, vI x1), (2, vI x2), (3, vI x3), (4, vI x4)] [] h (f_X11_keep_b43 x0 x1 x2 x3 x4 h) := by
  intro x0 x1 x2 x3 x4 h
  unfold f_X11_keep_b43
  refine g_aload_n 0 dX11_keep_43 rfl rfl ?_
  refine g_getR kfl_X11_28 fo_X11_kindsHeld dX11_keep_44 (fun t3 => ?_)
  refine g_iload_n 1 dX11_keep_47 rfl rfl ?_
  refine g_iload_n 2 dX11_keep_48 rfl rfl ?_
  refine g_iconst (v := 1) dX11_keep_49 (by decide) ?_
  refine g_icmpne (tgt := 62) dX11_keep_50 (by decide) ?_ ?_
  · refine g_null dX11_keep_62 ?_
    exact g_sub2 [0, 1] rfl (s_X11_keep_b63 hX x0 x1 none x1 t3 h)
  · refine g_iload_n 3 dX11_keep_53 rfl rfl ?_
    refine g_iload 4 dX11_keep_54 rfl ?_
    refine g_callSR (st := [vI x1, vR t3]) (s_X11_kindOf hX x3 x4 h) kml_X11_282 kst_X11_kindOf kii_X11 kcd_X11_kindOf ds_X11_kindOf rfl ⟨Nat.le_of_ble_eq_true rfl, Nat.le_of_ble_eq_true rfl⟩ (Nat.le_of_ble_eq_true rfl) rfl dX11_keep_56 (fun r8 h7 => ?_)
    refine g_goto (tgt := 63) dX11_keep_59 (by decide) ?_
    exact g_sub2 [0, 1] rfl (s_X11_keep_b63 hX x0 x1 r8 x1 t3 h7)
def f_X11_keep (v0 : Option Nat) (v1 : Int32) (v2 : Int32) (v3 : Int32) (v4 : Int32) (h : AH) : Option (Int32 × AH) :=
    bd (f_X11_isShelf v1 h) fun r2 h1 =>
    (if r2 = 0 then
    some ((-1), h1)
    else (if v2 < 0 then
    some ((-1), h1)
    else (if v2 ≤ 1 then
    (if v2 = 1 then
    (if v3 < 0 then
    some ((-1), h1)
    else (if 8 ≤ v3 then
    some ((-1), h1)
    else bd (f_X11_isDigit v4 h1) fun r10 h9 =>
    (if r10 = 0 then
    some ((-1), h9)
    else f_X11_keep_b43 v0 v1 v2 v3 v4 h9)))
    else f_X11_keep_b43 v0 v1 v2 v3 v4 h1)
    else some ((-1), h1))))
set_option maxRecDepth 100000 in
set_option maxHeartbeats 4000000 in
theorem s_X11_keep {X : GX} (hX : XOK X) (v0 : Option Nat) (v1 : Int32) (v2 : Int32) (v3 : Int32) (v4 : Int32) (h : AH) : Snd X yX11_keep cX11_keep 5 (some .int) 5 107 rI [vR v0, vI v1, vI v2, vI v3, vI v4] h (f_X11_keep v0 v1 v2 v3 v4 h) := by
  refine snd_of hX (by decide +kernel) (Nat.le_of_ble_eq_true rfl) ?_
  show Gp (p_X11_keep X h) RX11 "keep" cX11_keep (some .int) 0 [(0, vR v0), (1, vI v1), (2, vI v2), (3, vI v3), (4, vI v4)] [] h _
  unfold f_X11_keep
  refine g_iload_n 1 dX11_keep_0 rfl rfl ?_
  refine g_callSI (st := []) (s_X11_isShelf hX v1 h) kml_X11_45 kst_X11_isShelf kii_X11 kcd_X11_isShelf ds_X11_isShelf rfl ⟨Nat.le_of_ble_eq_true rfl, Nat.le_of_ble_eq_true rfl⟩ (Nat.le_of_ble_eq_true rfl) rfl dX11_keep_1 (fun r2 h1 => ?_)
  refine g_ifeq (tgt := 16) dX11_keep_4 (by decide) ?_ ?_
  · refine g_iconst (v := (-1)) dX11_keep_16 (by decide) ?_
    exact g_ireturn rfl dX11_keep_17
  · refine g_iload_n 2 dX11_keep_7 rfl rfl ?_
    refine g_iflt (tgt := 16) dX11_keep_8 (by decide) ?_ ?_
    · refine g_iconst (v := (-1)) dX11_keep_16 (by decide) ?_
      exact g_ireturn rfl dX11_keep_17
    · refine g_iload_n 2 dX11_keep_11 rfl rfl ?_
      refine g_iconst (v := 1) dX11_keep_12 (by decide) ?_
      refine g_icmple (tgt := 18) dX11_keep_13 (by decide) ?_ ?_
      · refine g_iload_n 2 dX11_keep_18 rfl rfl ?_
        refine g_iconst (v := 1) dX11_keep_19 (by decide) ?_
        refine g_icmpne (tgt := 43) dX11_keep_20 (by decide) ?_ ?_
        · exact g_sub2 [0, 1, 2, 3, 4] rfl (s_X11_keep_b43 hX v0 v1 v2 v3 v4 h1)
        · refine g_iload_n 3 dX11_keep_23 rfl rfl ?_
          refine g_iflt (tgt := 41) dX11_keep_24 (by decide) ?_ ?_
          · refine g_iconst (v := (-1)) dX11_keep_41 (by decide) ?_
            exact g_ireturn rfl dX11_keep_42
          · refine g_iload_n 3 dX11_keep_27 rfl rfl ?_
            refine g_bipush (v := 8) dX11_keep_28 (by decide) ?_
            refine g_icmpge (tgt := 41) dX11_keep_30 (by decide) ?_ ?_
            · refine g_iconst (v := (-1)) dX11_keep_41 (by decide) ?_
              exact g_ireturn rfl dX11_keep_42
            · refine g_iload 4 dX11_keep_33 rfl ?_
              refine g_callSI (st := []) (s_X11_isDigit hX v4 h1) kml_X11_156 kst_X11_isDigit kii_X11 kcd_X11_isDigit ds_X11_isDigit rfl ⟨Nat.le_of_ble_eq_true rfl, Nat.le_of_ble_eq_true rfl⟩ (Nat.le_of_ble_eq_true rfl) rfl dX11_keep_35 (fun r10 h9 => ?_)
              refine g_ifne (tgt := 43) dX11_keep_38 (by decide) ?_ ?_
              · exact g_sub2 [0, 1, 2, 3, 4] rfl (s_X11_keep_b43 hX v0 v1 v2 v3 v4 h9)
              · refine g_iconst (v := (-1)) dX11_keep_41 (by decide) ?_
                exact g_ireturn rfl dX11_keep_42
      · refine g_iconst (v := (-1)) dX11_keep_16 (by decide) ?_
        exact g_ireturn rfl dX11_keep_17
abbrev p_X11_kindsBy (X : GX) (h0 : AH) : PX Int32 := (X, (fun x => Sum.inl (rI x)), (6, 132, 5), h0)
def f_X11_kindsBy_b5 : Nat → Option Nat → Option Nat → Int32 → Int32 → Int32 → AH → Option (Int32 × AH)
  | 0 => fun _ _ _ _ _ _ => none
  | n + 1 => fun x0 x1 x2 x3 x4 h =>
    (if 8 ≤ x4 then
    some (x3, h)
    else (gR h x0 [11] 0).bind fun t1 =>
    (gR h t1 [5] 0).bind fun t2 =>
    (rA h t2 2 x2).bind fun t3 =>
    (gI h t3 GF 1).bind fun t4 =>
    bd (f_X11_kindOf x4 t4 h) fun r6 h5 =>
    bd (cv h5 x0 11 (f_X11_weighedSoAs x0 r6 x1 x2 h5)) fun r8 h7 =>
    (if r8 = 0 then
    f_X11_kindsBy_b5 n x0 x1 x2 x3 (x4 + 1) h7
    else nm (x3 ||| ((1 : Int32) <<< (x4 &&& 31))) fun t9 =>
    f_X11_kindsBy_b5 n x0 x1 x2 t9 (x4 + 1) h7))
set_option maxRecDepth 100000 in
set_option maxHeartbeats 4000000 in
theorem s_X11_kindsBy_b5 {X : GX} (hX : XOK X) {h0 : AH} : ∀ (n : Nat) (x0 : Option Nat) (x1 : Option Nat) (x2 : Int32) (x3 : Int32) (x4 : Int32) (h : AH), Gp (p_X11_kindsBy X h0) RX11 "kindsBy" cX11_kindsBy (some .int) 5 [(0, vR x0), (1, vR x1), (2, vI x2), (3, vI x3), (4, vI x4)] [] h (f_X11_kindsBy_b5 n x0 x1 x2 x3 x4 h) := by
  intro n
  induction n with
  | zero => intro x0 x1 x2 x3 x4 h; exact g_none
  | succ n ih =>
    intro x0 x1 x2 x3 x4 h
    rw [f_X11_kindsBy_b5]
    refine g_iload 4 dX11_kindsBy_5 rfl ?_
    refine g_bipush (v := 8) dX11_kindsBy_7 (by decide) ?_
    refine g_icmpge (tgt := 51) dX11_kindsBy_9 (by decide) ?_ ?_
    · refine g_iload_n 3 dX11_kindsBy_51 rfl rfl ?_
      exact g_ireturn rfl dX11_kindsBy_52
    · refine g_aload_n 0 dX11_kindsBy_12 rfl rfl ?_
      refine g_iload 4 dX11_kindsBy_13 rfl ?_
      refine g_aload_n 0 dX11_kindsBy_15 rfl rfl ?_
      refine g_getR kfl_X11_10 fo_X11_now dX11_kindsBy_16 (fun t1 => ?_)
      refine g_getR kfl_X11_87 fo_X5_kind dX11_kindsBy_19 (fun t2 => ?_)
      refine g_iload_n 2 dX11_kindsBy_22 rfl rfl ?_
      refine g_aaload (kd := 2) (by decide) (by decide) dX11_kindsBy_23 (fun t3 => ?_)
      refine g_getI kfl_X11_92 fo_X4_figure dX11_kindsBy_24 (fun t4 => ?_)
      refine g_callSR (st := [vR x0]) (s_X11_kindOf hX x4 t4 h) kml_X11_282 kst_X11_kindOf kii_X11 kcd_X11_kindOf ds_X11_kindOf rfl ⟨Nat.le_of_ble_eq_true rfl, Nat.le_of_ble_eq_true rfl⟩ (Nat.le_of_ble_eq_true rfl) rfl dX11_kindsBy_27 (fun r6 h5 => ?_)
      refine g_aload_n 1 dX11_kindsBy_30 rfl rfl ?_
      refine g_iload_n 2 dX11_kindsBy_31 rfl rfl ?_
      refine g_callVI (st := []) (ci := 11) rfl (s_X11_weighedSoAs hX x0 r6 x1 x2 h5) kml_X11_286 kim_X11_weighedSoAs kse_X11_weighedSoAs kii_X11 kcd_X11_weighedSoAs rfl ds_X11_weighedSoAs rfl ⟨Nat.le_of_ble_eq_true rfl, Nat.le_of_ble_eq_true rfl⟩ (Nat.le_of_ble_eq_true rfl) rfl dX11_kindsBy_32 (fun r8 h7 => ?_)
      refine g_ifeq (tgt := 45) dX11_kindsBy_35 (by decide) ?_ ?_
      · refine g_iinc 4 (v := (x4 + 1)) (ls' := [(4, vI ((x4 + 1))), (0, vR x0), (1, vR x1), (2, vI x2), (3, vI x3)]) dX11_kindsBy_45 rfl rfl (Nat.le_of_ble_eq_true rfl) rfl ?_
        refine g_goto (tgt := 5) dX11_kindsBy_48 (by decide) ?_
        exact g_sub2 [1, 2, 3, 4, 0] rfl (ih x0 x1 x2 x3 (x4 + 1) h7)
      · refine g_iload_n 3 dX11_kindsBy_38 rfl rfl ?_
        refine g_iconst (v := 1) dX11_kindsBy_39 (by decide) ?_
        refine g_iload 4 dX11_kindsBy_40 rfl ?_
        refine g_ishl dX11_kindsBy_42 ?_
        refine g_ior dX11_kindsBy_43 ?_
        refine g_nmI (fun t9 => ?_)
        refine g_istore_n (ls' := [(3, vI t9), (0, vR x0), (1, vR x1), (2, vI x2), (4, vI x4)]) dX11_kindsBy_44 rfl (Nat.le_of_ble_eq_true rfl) rfl ?_
        refine g_iinc 4 (v := (x4 + 1)) (ls' := [(4, vI ((x4 + 1))), (3, vI t9), (0, vR x0), (1, vR x1), (2, vI x2)]) dX11_kindsBy_45 rfl rfl (Nat.le_of_ble_eq_true rfl) rfl ?_
        refine g_goto (tgt := 5) dX11_kindsBy_48 (by decide) ?_
        exact g_sub2 [2, 3, 4, 1, 0] rfl (ih x0 x1 x2 t9 (x4 + 1) h7)
def f_X11_kindsBy (v0 : Option Nat) (v1 : Option Nat) (v2 : Int32) (h : AH) : Option (Int32 × AH) :=
    f_X11_kindsBy_b5 FU v0 v1 v2 0 0 h
set_option maxRecDepth 100000 in
set_option maxHeartbeats 4000000 in
theorem s_X11_kindsBy {X : GX} (hX : XOK X) (v0 : Option Nat) (v1 : Option Nat) (v2 : Int32) (h : AH) : Snd X yX11_kindsBy cX11_kindsBy 5 (some .int) 6 132 rI [vR v0, vR v1, vI v2] h (f_X11_kindsBy v0 v1 v2 h) := by
  refine snd_of hX (by decide +kernel) (Nat.le_of_ble_eq_true rfl) ?_
  show Gp (p_X11_kindsBy X h) RX11 "kindsBy" cX11_kindsBy (some .int) 0 [(0, vR v0), (1, vR v1), (2, vI v2)] [] h _
  unfold f_X11_kindsBy
  refine g_iconst (v := 0) dX11_kindsBy_0 (by decide) ?_
  refine g_istore_n (ls' := [(3, vI 0), (0, vR v0), (1, vR v1), (2, vI v2)]) dX11_kindsBy_1 rfl (Nat.le_of_ble_eq_true rfl) rfl ?_
  refine g_iconst (v := 0) dX11_kindsBy_2 (by decide) ?_
  refine g_istore (ls' := [(4, vI 0), (3, vI 0), (0, vR v0), (1, vR v1), (2, vI v2)]) dX11_kindsBy_3 (Nat.le_of_ble_eq_true rfl) rfl ?_
  exact g_sub2 [2, 3, 4, 1, 0] rfl (s_X11_kindsBy_b5 hX FU v0 v1 v2 0 0 h)
abbrev p_X11_leaves (X : GX) (h0 : AH) : PX Int32 := (X, (fun x => Sum.inl (rI x)), (5, 108, 3), h0)
def f_X11_leaves_b36 : Nat → Option Nat → Int32 → Int32 → AH → Option (Int32 × AH)
  | 0 => fun _ _ _ _ => none
  | n + 1 => fun x0 x1 x2 h =>
    (if 60 < x2 then
    some ((-4), h)
    else (gR h x0 [11] 1).bind fun t8 =>
    bd (cv h t8 5 (f_X5_isIn t8 x1 h)) fun r10 h9 =>
    (if r10 = 0 then
    some (x2, h9)
    else (gR h9 x0 [11] 1).bind fun t11 =>
    bd (cv h9 t11 5 (f_X5_passDayOf t11 x1 h9)) fun u13 h12 =>
    f_X11_leaves_b36 n x0 x1 (x2 + 1) h12))
set_option maxRecDepth 100000 in
set_option maxHeartbeats 4000000 in
theorem s_X11_leaves_b36 {X : GX} (hX : XOK X) {h0 : AH} : ∀ (n : Nat) (x0 : Option Nat) (x1 : Int32) (x2 : Int32) (h : AH), Gp (p_X11_leaves X h0) RX11 "leaves" cX11_leaves (some .int) 36 [(0, vR x0), (1, vI x1), (2, vI x2)] [] h (f_X11_leaves_b36 n x0 x1 x2 h) := by
  intro n
  induction n with
  | zero => intro x0 x1 x2 h; exact g_none
  | succ n ih =>
    intro x0 x1 x2 h
    rw [f_X11_leaves_b36]
    refine g_iload_n 2 dX11_leaves_36 rfl rfl ?_
    refine g_bipush (v := 60) dX11_leaves_37 (by decide) ?_
    refine g_icmpgt (tgt := 69) dX11_leaves_39 (by decide) ?_ ?_
    · refine g_bipush (v := (-4)) dX11_leaves_69 (by decide) ?_
      exact g_ireturn rfl dX11_leaves_71
    · refine g_aload_n 0 dX11_leaves_42 rfl rfl ?_
      refine g_getR kfl_X11_16 fo_X11_mind dX11_leaves_43 (fun t8 => ?_)
      refine g_iload_n 1 dX11_leaves_46 rfl rfl ?_
      refine g_callVI (st := []) (ci := 5) rfl (s_X5_isIn hX t8 x1 h) kml_X11_107 kim_X5_isIn kse_X5_isIn kii_X5 kcd_X5_isIn rfl ds_X5_isIn rfl ⟨Nat.le_of_ble_eq_true rfl, Nat.le_of_ble_eq_true rfl⟩ (Nat.le_of_ble_eq_true rfl) rfl dX11_leaves_47 (fun r10 h9 => ?_)
      refine g_ifne (tgt := 55) dX11_leaves_50 (by decide) ?_ ?_
      · refine g_aload_n 0 dX11_leaves_55 rfl rfl ?_
        refine g_getR kfl_X11_16 fo_X11_mind dX11_leaves_56 (fun t11 => ?_)
        refine g_iload_n 1 dX11_leaves_59 rfl rfl ?_
        refine g_callVU (st := []) (ci := 5) rfl (s_X5_passDayOf hX t11 x1 h9) kml_X11_186 kim_X5_passDayOf kse_X5_passDayOf kii_X5 kcd_X5_passDayOf rfl ds_X5_passDayOf rfl ⟨Nat.le_of_ble_eq_true rfl, Nat.le_of_ble_eq_true rfl⟩ (Nat.le_of_ble_eq_true rfl) rfl dX11_leaves_60 (fun u13 h12 => ?_)
        refine g_iinc 2 (v := (x2 + 1)) (ls' := [(2, vI ((x2 + 1))), (0, vR x0), (1, vI x1)]) dX11_leaves_63 rfl rfl (Nat.le_of_ble_eq_true rfl) rfl ?_
        refine g_goto (tgt := 36) dX11_leaves_66 (by decide) ?_
        exact g_sub2 [1, 2, 0] rfl (ih x0 x1 (x2 + 1) h12)
      · refine g_iload_n 2 dX11_leaves_53 rfl rfl ?_
        exact g_ireturn rfl dX11_leaves_54
def f_X11_leaves (v0 : Option Nat) (v1 : Int32) (h : AH) : Option (Int32 × AH) :=
    (if v1 = (-1) then
    bd (cv h v0 11 (f_X11_firstToLeave v0 h)) fun r15 h14 =>
    some (r15, h14)
    else (gR h v0 [11] 0).bind fun t1 =>
    bd (cv h t1 5 (f_X5_knows t1 v1 h)) fun r3 h2 =>
    (if r3 = 0 then
    some ((-1), h2)
    else (gR h2 v0 [11] 1).bind fun t4 =>
    (gR h2 v0 [11] 0).bind fun t5 =>
    bd (cv h2 t4 5 (f_X5_becomes t4 t5 h2)) fun u7 h6 =>
    f_X11_leaves_b36 FU v0 v1 0 h6))
set_option maxRecDepth 100000 in
set_option maxHeartbeats 4000000 in
theorem s_X11_leaves {X : GX} (hX : XOK X) (v0 : Option Nat) (v1 : Int32) (h : AH) : Snd X yX11_leaves cX11_leaves 3 (some .int) 5 108 rI [vR v0, vI v1] h (f_X11_leaves v0 v1 h) := by
  refine snd_of hX (by decide +kernel) (Nat.le_of_ble_eq_true rfl) ?_
  show Gp (p_X11_leaves X h) RX11 "leaves" cX11_leaves (some .int) 0 [(0, vR v0), (1, vI v1)] [] h _
  unfold f_X11_leaves
  refine g_iload_n 1 dX11_leaves_0 rfl rfl ?_
  refine g_iconst (v := (-1)) dX11_leaves_1 (by decide) ?_
  refine g_icmpne (tgt := 10) dX11_leaves_2 (by decide) ?_ ?_
  · refine g_aload_n 0 dX11_leaves_10 rfl rfl ?_
    refine g_getR kfl_X11_10 fo_X11_now dX11_leaves_11 (fun t1 => ?_)
    refine g_iload_n 1 dX11_leaves_14 rfl rfl ?_
    refine g_callVI (st := []) (ci := 5) rfl (s_X5_knows hX t1 v1 h) kml_X11_84 kim_X5_knows kse_X5_knows kii_X5 kcd_X5_knows rfl ds_X5_knows rfl ⟨Nat.le_of_ble_eq_true rfl, Nat.le_of_ble_eq_true rfl⟩ (Nat.le_of_ble_eq_true rfl) rfl dX11_leaves_15 (fun r3 h2 => ?_)
    refine g_ifne (tgt := 23) dX11_leaves_18 (by decide) ?_ ?_
    · refine g_aload_n 0 dX11_leaves_23 rfl rfl ?_
      refine g_getR kfl_X11_16 fo_X11_mind dX11_leaves_24 (fun t4 => ?_)
      refine g_aload_n 0 dX11_leaves_27 rfl rfl ?_
      refine g_getR kfl_X11_10 fo_X11_now dX11_leaves_28 (fun t5 => ?_)
      refine g_callVU (st := []) (ci := 5) rfl (s_X5_becomes hX t4 t5 h2) kml_X11_70 kim_X5_becomes kse_X5_becomes kii_X5 kcd_X5_becomes rfl ds_X5_becomes rfl ⟨Nat.le_of_ble_eq_true rfl, Nat.le_of_ble_eq_true rfl⟩ (Nat.le_of_ble_eq_true rfl) rfl dX11_leaves_31 (fun u7 h6 => ?_)
      refine g_iconst (v := 0) dX11_leaves_34 (by decide) ?_
      refine g_istore_n (ls' := [(2, vI 0), (0, vR v0), (1, vI v1)]) dX11_leaves_35 rfl (Nat.le_of_ble_eq_true rfl) rfl ?_
      exact g_sub2 [1, 2, 0] rfl (s_X11_leaves_b36 hX FU v0 v1 0 h6)
    · refine g_iconst (v := (-1)) dX11_leaves_21 (by decide) ?_
      exact g_ireturn rfl dX11_leaves_22
  · refine g_aload_n 0 dX11_leaves_5 rfl rfl ?_
    refine g_callVI (st := []) (ci := 11) rfl (s_X11_firstToLeave hX v0 h) kml_X11_183 kim_X11_firstToLeave kse_X11_firstToLeave kii_X11 kcd_X11_firstToLeave rfl ds_X11_firstToLeave rfl ⟨Nat.le_of_ble_eq_true rfl, Nat.le_of_ble_eq_true rfl⟩ (Nat.le_of_ble_eq_true rfl) rfl dX11_leaves_6 (fun r15 h14 => ?_)
    exact g_ireturn rfl dX11_leaves_9
abbrev p_X5_ledgerOfAll (X : GX) (h0 : AH) : PX Int32 := (X, (fun x => Sum.inl (rI x)), (1, 21, 3), h0)
def f_X5_ledgerOfAll_b38 (k4 : Option Nat → Int32 → Int32 → AH → Option (Int32 × AH)) (x0 : Option Nat) (x2 : Int32) (y1 : Int32) (y0 : Int32) (h : AH) : Option (Int32 × AH) :=
    nm (y0 + y1) fun t4 =>
    k4 x0 t4 (x2 + 1) h
set_option maxRecDepth 100000 in
set_option maxHeartbeats 4000000 in
theorem s_X5_ledgerOfAll_b38 {X : GX} (hX : XOK X) {h0 : AH} (k4 : Option Nat → Int32 → Int32 → AH → Option (Int32 × AH)) (hk4 : ∀ (z0 : Option Nat) (z1 : Int32) (z2 : Int32) (h : AH), Gp (p_X5_ledgerOfAll X h0) RX5 "ledgerOfAll" cX5_ledgerOfAll (some .int) 4 [(0, vR z0), (1, vI z1), (2, vI z2)] [] h (k4 z0 z1 z2 h)) : ∀ (x0 : Option Nat) (x2 : Int32) (y1 : Int32) (y0 : Int32) (h : AH), Gp (p_X5_ledgerOfAll X h0) RX5 "ledgerOfAll" cX5_ledgerOfAll (some .int) 38 [(0, vR x0), (2, vI x2)] [vI y1, vI y0] h (f_X5_ledgerOfAll_b38 k4 x0 x2 y1 y0 h) := by
  intro x0 x2 y1 y0 h
  unfold f_X5_ledgerOfAll_b38
  refine g_iadd dX5_ledgerOfAll_38 ?_
  refine g_nmI (fun t4 => ?_)
  refine g_istore_n (ls' := [(1, vI t4), (0, vR x0), (2, vI x2)]) dX5_ledgerOfAll_39 rfl (Nat.le_of_ble_eq_true rfl) rfl ?_
  refine g_iinc 2 (v := (x2 + 1)) (ls' := [(2, vI ((x2 + 1))), (1, vI t4), (0, vR x0)]) dX5_ledgerOfAll_40 rfl rfl (Nat.le_of_ble_eq_true rfl) rfl ?_
  refine g_goto (tgt := 4) dX5_ledgerOfAll_43 (by decide) ?_
  exact g_sub2 [2, 1, 0] rfl (hk4 x0 t4 (x2 + 1) h)
def f_X5_ledgerOfAll_b4 : Nat → Option Nat → Int32 → Int32 → AH → Option (Int32 × AH)
  | 0 => fun _ _ _ _ => none
  | n + 1 => fun x0 x1 x2 h =>
    (gI h x0 [5] 5).bind fun t1 =>
    (if t1 ≤ x2 then
    some (x1, h)
    else bd (cv h x0 5 (f_X5_isIn x0 x2 h)) fun r3 h2 =>
    (if r3 = 0 then
    f_X5_ledgerOfAll_b38 (f_X5_ledgerOfAll_b4 n) x0 x2 0 x1 h2
    else (gR h2 x0 [5] 2).bind fun t5 =>
    (iA h2 t5 x2).bind fun t6 =>
    (gR h2 x0 [5] 1).bind fun t7 =>
    (iA h2 t7 x2).bind fun t8 =>
    f_X5_ledgerOfAll_b38 (f_X5_ledgerOfAll_b4 n) x0 x2 (t6 - t8) x1 h2))
set_option maxRecDepth 100000 in
set_option maxHeartbeats 4000000 in
theorem s_X5_ledgerOfAll_b4 {X : GX} (hX : XOK X) {h0 : AH} : ∀ (n : Nat) (x0 : Option Nat) (x1 : Int32) (x2 : Int32) (h : AH), Gp (p_X5_ledgerOfAll X h0) RX5 "ledgerOfAll" cX5_ledgerOfAll (some .int) 4 [(0, vR x0), (1, vI x1), (2, vI x2)] [] h (f_X5_ledgerOfAll_b4 n x0 x1 x2 h) := by
  intro n
  induction n with
  | zero => intro x0 x1 x2 h; exact g_none
  | succ n ih =>
    intro x0 x1 x2 h
    rw [f_X5_ledgerOfAll_b4]
    refine g_iload_n 2 dX5_ledgerOfAll_4 rfl rfl ?_
    refine g_aload_n 0 dX5_ledgerOfAll_5 rfl rfl ?_
    refine g_getI kfl_X5_30 fo_X5_guests dX5_ledgerOfAll_6 (fun t1 => ?_)
    refine g_icmpge (tgt := 46) dX5_ledgerOfAll_9 (by decide) ?_ ?_
    · refine g_iload_n 1 dX5_ledgerOfAll_46 rfl rfl ?_
      exact g_ireturn rfl dX5_ledgerOfAll_47
    · refine g_iload_n 1 dX5_ledgerOfAll_12 rfl rfl ?_
      refine g_aload_n 0 dX5_ledgerOfAll_13 rfl rfl ?_
      refine g_iload_n 2 dX5_ledgerOfAll_14 rfl rfl ?_
      refine g_callVI (st := [vI x1]) (ci := 5) rfl (s_X5_isIn hX x0 x2 h) kml_X5_59 kim_X5_isIn kse_X5_isIn kii_X5 kcd_X5_isIn rfl ds_X5_isIn rfl ⟨Nat.le_of_ble_eq_true rfl, Nat.le_of_ble_eq_true rfl⟩ (Nat.le_of_ble_eq_true rfl) rfl dX5_ledgerOfAll_15 (fun r3 h2 => ?_)
      refine g_ifeq (tgt := 37) dX5_ledgerOfAll_18 (by decide) ?_ ?_
      · refine g_iconst (v := 0) dX5_ledgerOfAll_37 (by decide) ?_
        exact g_sub2 [0, 2] rfl (s_X5_ledgerOfAll_b38 hX (f_X5_ledgerOfAll_b4 n) (fun z0 z1 z2 z3 => ih z0 z1 z2 z3) x0 x2 0 x1 h2)
      · refine g_aload_n 0 dX5_ledgerOfAll_21 rfl rfl ?_
        refine g_getR kfl_X5_21 fo_X5_entered dX5_ledgerOfAll_22 (fun t5 => ?_)
        refine g_iload_n 2 dX5_ledgerOfAll_25 rfl rfl ?_
        refine g_iaload dX5_ledgerOfAll_26 (fun t6 => ?_)
        refine g_aload_n 0 dX5_ledgerOfAll_27 rfl rfl ?_
        refine g_getR kfl_X5_17 fo_X5_weight dX5_ledgerOfAll_28 (fun t7 => ?_)
        refine g_iload_n 2 dX5_ledgerOfAll_31 rfl rfl ?_
        refine g_iaload dX5_ledgerOfAll_32 (fun t8 => ?_)
        refine g_isub dX5_ledgerOfAll_33 ?_
        refine g_goto (tgt := 38) dX5_ledgerOfAll_34 (by decide) ?_
        exact g_sub2 [0, 2] rfl (s_X5_ledgerOfAll_b38 hX (f_X5_ledgerOfAll_b4 n) (fun z0 z1 z2 z3 => ih z0 z1 z2 z3) x0 x2 (t6 - t8) x1 h2)
def f_X5_ledgerOfAll (v0 : Option Nat) (h : AH) : Option (Int32 × AH) :=
    f_X5_ledgerOfAll_b4 FU v0 0 0 h
set_option maxRecDepth 100000 in
set_option maxHeartbeats 4000000 in
theorem s_X5_ledgerOfAll {X : GX} (hX : XOK X) (v0 : Option Nat) (h : AH) : Snd X yX5_ledgerOfAll cX5_ledgerOfAll 3 (some .int) 1 21 rI [vR v0] h (f_X5_ledgerOfAll v0 h) := by
  refine snd_of hX (by decide +kernel) (Nat.le_of_ble_eq_true rfl) ?_
  show Gp (p_X5_ledgerOfAll X h) RX5 "ledgerOfAll" cX5_ledgerOfAll (some .int) 0 [(0, vR v0)] [] h _
  unfold f_X5_ledgerOfAll
  refine g_iconst (v := 0) dX5_ledgerOfAll_0 (by decide) ?_
  refine g_istore_n (ls' := [(1, vI 0), (0, vR v0)]) dX5_ledgerOfAll_1 rfl (Nat.le_of_ble_eq_true rfl) rfl ?_
  refine g_iconst (v := 0) dX5_ledgerOfAll_2 (by decide) ?_
  refine g_istore_n (ls' := [(2, vI 0), (1, vI 0), (0, vR v0)]) dX5_ledgerOfAll_3 rfl (Nat.le_of_ble_eq_true rfl) rfl ?_
  exact g_sub2 [2, 1, 0] rfl (s_X5_ledgerOfAll_b4 hX FU v0 0 0 h)
abbrev p_X11_ledger (X : GX) (h0 : AH) : PX Int32 := (X, (fun x => Sum.inl (rI x)), (2, 43, 1), h0)
def f_X11_ledger (v0 : Option Nat) (h : AH) : Option (Int32 × AH) :=
    (gR h v0 [11] 0).bind fun t1 =>
    bd (cv h t1 5 (f_X5_ledgerOfAll t1 h)) fun r3 h2 =>
    some (r3, h2)
set_option maxRecDepth 100000 in
set_option maxHeartbeats 4000000 in
theorem s_X11_ledger {X : GX} (hX : XOK X) (v0 : Option Nat) (h : AH) : Snd X yX11_ledger cX11_ledger 1 (some .int) 2 43 rI [vR v0] h (f_X11_ledger v0 h) := by
  refine snd_of hX (by decide +kernel) (Nat.le_of_ble_eq_true rfl) ?_
  show Gp (p_X11_ledger X h) RX11 "ledger" cX11_ledger (some .int) 0 [(0, vR v0)] [] h _
  unfold f_X11_ledger
  refine g_aload_n 0 dX11_ledger_0 rfl rfl ?_
  refine g_getR kfl_X11_10 fo_X11_now dX11_ledger_1 (fun t1 => ?_)
  refine g_callVI (st := []) (ci := 5) rfl (s_X5_ledgerOfAll hX t1 h) kml_X11_210 kim_X5_ledgerOfAll kse_X5_ledgerOfAll kii_X5 kcd_X5_ledgerOfAll rfl ds_X5_ledgerOfAll rfl ⟨Nat.le_of_ble_eq_true rfl, Nat.le_of_ble_eq_true rfl⟩ (Nat.le_of_ble_eq_true rfl) rfl dX11_ledger_4 (fun r3 h2 => ?_)
  exact g_ireturn rfl dX11_ledger_7
abbrev p_X11_lends (X : GX) (h0 : AH) : PX Int32 := (X, (fun x => Sum.inl (rI x)), (2, 44, 4), h0)
def f_X11_lends (v0 : Option Nat) (v1 : Int32) (v2 : Int32) (v3 : Int32) (h : AH) : Option (Int32 × AH) :=
    bd (cv h v0 11 (f_X11_areTwo v0 v1 v2 h)) fun r2 h1 =>
    (if r2 = 0 then
    some ((-1), h1)
    else (if v3 < 1 then
    some ((-1), h1)
    else (if v3 ≤ 20 then
    (gR h1 v0 [11] 0).bind fun t3 =>
    bd (cv h1 t3 5 (f_X5_canLend t3 v1 v2 v3 h1)) fun r5 h4 =>
    (if r5 = 0 then
    some ((-3), h4)
    else (gR h4 v0 [11] 0).bind fun t6 =>
    bd (cv h4 t6 5 (f_X5_lendPounds t6 v1 v2 v3 h4)) fun u8 h7 =>
    (gR h7 v0 [11] 0).bind fun t9 =>
    (gR h7 t9 [5] 1).bind fun t10 =>
    (iA h7 t10 v1).bind fun t11 =>
    some (t11, h7))
    else some ((-1), h1))))
set_option maxRecDepth 100000 in
set_option maxHeartbeats 4000000 in
theorem s_X11_lends {X : GX} (hX : XOK X) (v0 : Option Nat) (v1 : Int32) (v2 : Int32) (v3 : Int32) (h : AH) : Snd X yX11_lends cX11_lends 4 (some .int) 2 44 rI [vR v0, vI v1, vI v2, vI v3] h (f_X11_lends v0 v1 v2 v3 h) := by
  refine snd_of hX (by decide +kernel) (Nat.le_of_ble_eq_true rfl) ?_
  show Gp (p_X11_lends X h) RX11 "lends" cX11_lends (some .int) 0 [(0, vR v0), (1, vI v1), (2, vI v2), (3, vI v3)] [] h _
  unfold f_X11_lends
  refine g_aload_n 0 dX11_lends_0 rfl rfl ?_
  refine g_iload_n 1 dX11_lends_1 rfl rfl ?_
  refine g_iload_n 2 dX11_lends_2 rfl rfl ?_
  refine g_callVI (st := []) (ci := 11) rfl (s_X11_areTwo hX v0 v1 v2 h) kml_X11_144 kim_X11_areTwo kse_X11_areTwo kii_X11 kcd_X11_areTwo rfl ds_X11_areTwo rfl ⟨Nat.le_of_ble_eq_true rfl, Nat.le_of_ble_eq_true rfl⟩ (Nat.le_of_ble_eq_true rfl) rfl dX11_lends_3 (fun r2 h1 => ?_)
  refine g_ifeq (tgt := 20) dX11_lends_6 (by decide) ?_ ?_
  · refine g_iconst (v := (-1)) dX11_lends_20 (by decide) ?_
    exact g_ireturn rfl dX11_lends_21
  · refine g_iload_n 3 dX11_lends_9 rfl rfl ?_
    refine g_iconst (v := 1) dX11_lends_10 (by decide) ?_
    refine g_icmplt (tgt := 20) dX11_lends_11 (by decide) ?_ ?_
    · refine g_iconst (v := (-1)) dX11_lends_20 (by decide) ?_
      exact g_ireturn rfl dX11_lends_21
    · refine g_iload_n 3 dX11_lends_14 rfl rfl ?_
      refine g_bipush (v := 20) dX11_lends_15 (by decide) ?_
      refine g_icmple (tgt := 22) dX11_lends_17 (by decide) ?_ ?_
      · refine g_aload_n 0 dX11_lends_22 rfl rfl ?_
        refine g_getR kfl_X11_10 fo_X11_now dX11_lends_23 (fun t3 => ?_)
        refine g_iload_n 1 dX11_lends_26 rfl rfl ?_
        refine g_iload_n 2 dX11_lends_27 rfl rfl ?_
        refine g_iload_n 3 dX11_lends_28 rfl rfl ?_
        refine g_callVI (st := []) (ci := 5) rfl (s_X5_canLend hX t3 v1 v2 v3 h1) kml_X11_148 kim_X5_canLend kse_X5_canLend kii_X5 kcd_X5_canLend rfl ds_X5_canLend rfl ⟨Nat.le_of_ble_eq_true rfl, Nat.le_of_ble_eq_true rfl⟩ (Nat.le_of_ble_eq_true rfl) rfl dX11_lends_29 (fun r5 h4 => ?_)
        refine g_ifne (tgt := 38) dX11_lends_32 (by decide) ?_ ?_
        · refine g_aload_n 0 dX11_lends_38 rfl rfl ?_
          refine g_getR kfl_X11_10 fo_X11_now dX11_lends_39 (fun t6 => ?_)
          refine g_iload_n 1 dX11_lends_42 rfl rfl ?_
          refine g_iload_n 2 dX11_lends_43 rfl rfl ?_
          refine g_iload_n 3 dX11_lends_44 rfl rfl ?_
          refine g_callVU (st := []) (ci := 5) rfl (s_X5_lendPounds hX t6 v1 v2 v3 h4) kml_X11_152 kim_X5_lendPounds kse_X5_lendPounds kii_X5 kcd_X5_lendPounds rfl ds_X5_lendPounds rfl ⟨Nat.le_of_ble_eq_true rfl, Nat.le_of_ble_eq_true rfl⟩ (Nat.le_of_ble_eq_true rfl) rfl dX11_lends_45 (fun u8 h7 => ?_)
          refine g_aload_n 0 dX11_lends_48 rfl rfl ?_
          refine g_getR kfl_X11_10 fo_X11_now dX11_lends_49 (fun t9 => ?_)
          refine g_getR kfl_X11_95 fo_X5_weight dX11_lends_52 (fun t10 => ?_)
          refine g_iload_n 1 dX11_lends_55 rfl rfl ?_
          refine g_iaload dX11_lends_56 (fun t11 => ?_)
          exact g_ireturn rfl dX11_lends_57
        · refine g_bipush (v := (-3)) dX11_lends_35 (by decide) ?_
          exact g_ireturn rfl dX11_lends_37
      · refine g_iconst (v := (-1)) dX11_lends_20 (by decide) ?_
        exact g_ireturn rfl dX11_lends_21
abbrev p_X11_loan (X : GX) (h0 : AH) : PX Int32 := (X, (fun x => Sum.inl (rI x)), (6, 129, 4), h0)
def f_X11_loan_b59 : Nat → Option Nat → Int32 → Int32 → Int32 → AH → Option (Int32 × AH)
  | 0 => fun _ _ _ _ _ => none
  | n + 1 => fun x0 x1 x2 x3 h =>
    (if 20 < x3 then
    some ((-4), h)
    else (gR h x0 [11] 0).bind fun t15 =>
    bd (cv h t15 5 (f_X5_canLend t15 x1 x2 x3 h)) fun r17 h16 =>
    (if r17 = 0 then
    some ((-4), h16)
    else (gR h16 x0 [11] 1).bind fun t18 =>
    (gR h16 x0 [11] 0).bind fun t19 =>
    bd (cv h16 t18 5 (f_X5_becomes t18 t19 h16)) fun u21 h20 =>
    (gR h20 x0 [11] 1).bind fun t22 =>
    bd (cv h20 t22 5 (f_X5_lendPounds t22 x1 x2 x3 h20)) fun u24 h23 =>
    bd (cv h23 x0 11 (f_X11_goesNextDay x0 x1 h23)) fun r26 h25 =>
    (if r26 = 0 then
    f_X11_loan_b59 n x0 x1 x2 (x3 + 1) h25
    else some (x3, h25))))
set_option maxRecDepth 100000 in
set_option maxHeartbeats 4000000 in
theorem s_X11_loan_b59 {X : GX} (hX : XOK X) {h0 : AH} : ∀ (n : Nat) (x0 : Option Nat) (x1 : Int32) (x2 : Int32) (x3 : Int32) (h : AH), Gp (p_X11_loan X h0) RX11 "loan" cX11_loan (some .int) 59 [(0, vR x0), (1, vI x1), (2, vI x2), (3, vI x3)] [] h (f_X11_loan_b59 n x0 x1 x2 x3 h) := by
  intro n
  induction n with
  | zero => intro x0 x1 x2 x3 h; exact g_none
  | succ n ih =>
    intro x0 x1 x2 x3 h
    rw [f_X11_loan_b59]
    refine g_iload_n 3 dX11_loan_59 rfl rfl ?_
    refine g_bipush (v := 20) dX11_loan_60 (by decide) ?_
    refine g_icmpgt (tgt := 115) dX11_loan_62 (by decide) ?_ ?_
    · refine g_bipush (v := (-4)) dX11_loan_115 (by decide) ?_
      exact g_ireturn rfl dX11_loan_117
    · refine g_aload_n 0 dX11_loan_65 rfl rfl ?_
      refine g_getR kfl_X11_10 fo_X11_now dX11_loan_66 (fun t15 => ?_)
      refine g_iload_n 1 dX11_loan_69 rfl rfl ?_
      refine g_iload_n 2 dX11_loan_70 rfl rfl ?_
      refine g_iload_n 3 dX11_loan_71 rfl rfl ?_
      refine g_callVI (st := []) (ci := 5) rfl (s_X5_canLend hX t15 x1 x2 x3 h) kml_X11_148 kim_X5_canLend kse_X5_canLend kii_X5 kcd_X5_canLend rfl ds_X5_canLend rfl ⟨Nat.le_of_ble_eq_true rfl, Nat.le_of_ble_eq_true rfl⟩ (Nat.le_of_ble_eq_true rfl) rfl dX11_loan_72 (fun r17 h16 => ?_)
      refine g_ifeq (tgt := 115) dX11_loan_75 (by decide) ?_ ?_
      · refine g_bipush (v := (-4)) dX11_loan_115 (by decide) ?_
        exact g_ireturn rfl dX11_loan_117
      · refine g_aload_n 0 dX11_loan_78 rfl rfl ?_
        refine g_getR kfl_X11_16 fo_X11_mind dX11_loan_79 (fun t18 => ?_)
        refine g_aload_n 0 dX11_loan_82 rfl rfl ?_
        refine g_getR kfl_X11_10 fo_X11_now dX11_loan_83 (fun t19 => ?_)
        refine g_callVU (st := []) (ci := 5) rfl (s_X5_becomes hX t18 t19 h16) kml_X11_70 kim_X5_becomes kse_X5_becomes kii_X5 kcd_X5_becomes rfl ds_X5_becomes rfl ⟨Nat.le_of_ble_eq_true rfl, Nat.le_of_ble_eq_true rfl⟩ (Nat.le_of_ble_eq_true rfl) rfl dX11_loan_86 (fun u21 h20 => ?_)
        refine g_aload_n 0 dX11_loan_89 rfl rfl ?_
        refine g_getR kfl_X11_16 fo_X11_mind dX11_loan_90 (fun t22 => ?_)
        refine g_iload_n 1 dX11_loan_93 rfl rfl ?_
        refine g_iload_n 2 dX11_loan_94 rfl rfl ?_
        refine g_iload_n 3 dX11_loan_95 rfl rfl ?_
        refine g_callVU (st := []) (ci := 5) rfl (s_X5_lendPounds hX t22 x1 x2 x3 h20) kml_X11_152 kim_X5_lendPounds kse_X5_lendPounds kii_X5 kcd_X5_lendPounds rfl ds_X5_lendPounds rfl ⟨Nat.le_of_ble_eq_true rfl, Nat.le_of_ble_eq_true rfl⟩ (Nat.le_of_ble_eq_true rfl) rfl dX11_loan_96 (fun u24 h23 => ?_)
        refine g_aload_n 0 dX11_loan_99 rfl rfl ?_
        refine g_iload_n 1 dX11_loan_100 rfl rfl ?_
        refine g_callVI (st := []) (ci := 11) rfl (s_X11_goesNextDay hX x0 x1 h23) kml_X11_201 kim_X11_goesNextDay kse_X11_goesNextDay kii_X11 kcd_X11_goesNextDay rfl ds_X11_goesNextDay rfl ⟨Nat.le_of_ble_eq_true rfl, Nat.le_of_ble_eq_true rfl⟩ (Nat.le_of_ble_eq_true rfl) rfl dX11_loan_101 (fun r26 h25 => ?_)
        refine g_ifeq (tgt := 109) dX11_loan_104 (by decide) ?_ ?_
        · refine g_iinc 3 (v := (x3 + 1)) (ls' := [(3, vI ((x3 + 1))), (0, vR x0), (1, vI x1), (2, vI x2)]) dX11_loan_109 rfl rfl (Nat.le_of_ble_eq_true rfl) rfl ?_
          refine g_goto (tgt := 59) dX11_loan_112 (by decide) ?_
          exact g_sub2 [1, 2, 3, 0] rfl (ih x0 x1 x2 (x3 + 1) h25)
        · refine g_iload_n 3 dX11_loan_107 rfl rfl ?_
          exact g_ireturn rfl dX11_loan_108
def f_X11_loan (v0 : Option Nat) (v1 : Int32) (v2 : Int32) (h : AH) : Option (Int32 × AH) :=
    bd (cv h v0 11 (f_X11_areTwo v0 v1 v2 h)) fun r2 h1 =>
    (if r2 = 0 then
    some ((-1), h1)
    else (gR h1 v0 [11] 0).bind fun t3 =>
    bd (cv h1 t3 5 (f_X5_isIn t3 v1 h1)) fun r5 h4 =>
    (if r5 = 0 then
    some ((-3), h4)
    else (gR h4 v0 [11] 0).bind fun t6 =>
    bd (cv h4 t6 5 (f_X5_isIn t6 v2 h4)) fun r8 h7 =>
    (if r8 = 0 then
    some ((-3), h7)
    else (gR h7 v0 [11] 1).bind fun t9 =>
    (gR h7 v0 [11] 0).bind fun t10 =>
    bd (cv h7 t9 5 (f_X5_becomes t9 t10 h7)) fun u12 h11 =>
    bd (cv h11 v0 11 (f_X11_goesNextDay v0 v1 h11)) fun r14 h13 =>
    (if r14 = 0 then
    f_X11_loan_b59 FU v0 v1 v2 1 h13
    else some (0, h13)))))
set_option maxRecDepth 100000 in
set_option maxHeartbeats 4000000 in
theorem s_X11_loan {X : GX} (hX : XOK X) (v0 : Option Nat) (v1 : Int32) (v2 : Int32) (h : AH) : Snd X yX11_loan cX11_loan 4 (some .int) 6 129 rI [vR v0, vI v1, vI v2] h (f_X11_loan v0 v1 v2 h) := by
  refine snd_of hX (by decide +kernel) (Nat.le_of_ble_eq_true rfl) ?_
  show Gp (p_X11_loan X h) RX11 "loan" cX11_loan (some .int) 0 [(0, vR v0), (1, vI v1), (2, vI v2)] [] h _
  unfold f_X11_loan
  refine g_aload_n 0 dX11_loan_0 rfl rfl ?_
  refine g_iload_n 1 dX11_loan_1 rfl rfl ?_
  refine g_iload_n 2 dX11_loan_2 rfl rfl ?_
  refine g_callVI (st := []) (ci := 11) rfl (s_X11_areTwo hX v0 v1 v2 h) kml_X11_144 kim_X11_areTwo kse_X11_areTwo kii_X11 kcd_X11_areTwo rfl ds_X11_areTwo rfl ⟨Nat.le_of_ble_eq_true rfl, Nat.le_of_ble_eq_true rfl⟩ (Nat.le_of_ble_eq_true rfl) rfl dX11_loan_3 (fun r2 h1 => ?_)
  refine g_ifne (tgt := 11) dX11_loan_6 (by decide) ?_ ?_
  · refine g_aload_n 0 dX11_loan_11 rfl rfl ?_
    refine g_getR kfl_X11_10 fo_X11_now dX11_loan_12 (fun t3 => ?_)
    refine g_iload_n 1 dX11_loan_15 rfl rfl ?_
    refine g_callVI (st := []) (ci := 5) rfl (s_X5_isIn hX t3 v1 h1) kml_X11_107 kim_X5_isIn kse_X5_isIn kii_X5 kcd_X5_isIn rfl ds_X5_isIn rfl ⟨Nat.le_of_ble_eq_true rfl, Nat.le_of_ble_eq_true rfl⟩ (Nat.le_of_ble_eq_true rfl) rfl dX11_loan_16 (fun r5 h4 => ?_)
    refine g_ifeq (tgt := 33) dX11_loan_19 (by decide) ?_ ?_
    · refine g_bipush (v := (-3)) dX11_loan_33 (by decide) ?_
      exact g_ireturn rfl dX11_loan_35
    · refine g_aload_n 0 dX11_loan_22 rfl rfl ?_
      refine g_getR kfl_X11_10 fo_X11_now dX11_loan_23 (fun t6 => ?_)
      refine g_iload_n 2 dX11_loan_26 rfl rfl ?_
      refine g_callVI (st := []) (ci := 5) rfl (s_X5_isIn hX t6 v2 h4) kml_X11_107 kim_X5_isIn kse_X5_isIn kii_X5 kcd_X5_isIn rfl ds_X5_isIn rfl ⟨Nat.le_of_ble_eq_true rfl, Nat.le_of_ble_eq_true rfl⟩ (Nat.le_of_ble_eq_true rfl) rfl dX11_loan_27 (fun r8 h7 => ?_)
      refine g_ifne (tgt := 36) dX11_loan_30 (by decide) ?_ ?_
      · refine g_aload_n 0 dX11_loan_36 rfl rfl ?_
        refine g_getR kfl_X11_16 fo_X11_mind dX11_loan_37 (fun t9 => ?_)
        refine g_aload_n 0 dX11_loan_40 rfl rfl ?_
        refine g_getR kfl_X11_10 fo_X11_now dX11_loan_41 (fun t10 => ?_)
        refine g_callVU (st := []) (ci := 5) rfl (s_X5_becomes hX t9 t10 h7) kml_X11_70 kim_X5_becomes kse_X5_becomes kii_X5 kcd_X5_becomes rfl ds_X5_becomes rfl ⟨Nat.le_of_ble_eq_true rfl, Nat.le_of_ble_eq_true rfl⟩ (Nat.le_of_ble_eq_true rfl) rfl dX11_loan_44 (fun u12 h11 => ?_)
        refine g_aload_n 0 dX11_loan_47 rfl rfl ?_
        refine g_iload_n 1 dX11_loan_48 rfl rfl ?_
        refine g_callVI (st := []) (ci := 11) rfl (s_X11_goesNextDay hX v0 v1 h11) kml_X11_201 kim_X11_goesNextDay kse_X11_goesNextDay kii_X11 kcd_X11_goesNextDay rfl ds_X11_goesNextDay rfl ⟨Nat.le_of_ble_eq_true rfl, Nat.le_of_ble_eq_true rfl⟩ (Nat.le_of_ble_eq_true rfl) rfl dX11_loan_49 (fun r14 h13 => ?_)
        refine g_ifeq (tgt := 57) dX11_loan_52 (by decide) ?_ ?_
        · refine g_iconst (v := 1) dX11_loan_57 (by decide) ?_
          refine g_istore_n (ls' := [(3, vI 1), (0, vR v0), (1, vI v1), (2, vI v2)]) dX11_loan_58 rfl (Nat.le_of_ble_eq_true rfl) rfl ?_
          exact g_sub2 [1, 2, 3, 0] rfl (s_X11_loan_b59 hX FU v0 v1 v2 1 h13)
        · refine g_iconst (v := 0) dX11_loan_55 (by decide) ?_
          exact g_ireturn rfl dX11_loan_56
      · refine g_bipush (v := (-3)) dX11_loan_33 (by decide) ?_
        exact g_ireturn rfl dX11_loan_35
  · refine g_iconst (v := (-1)) dX11_loan_9 (by decide) ?_
    exact g_ireturn rfl dX11_loan_10
abbrev p_X11_mean (X : GX) (h0 : AH) : PX Int64 := (X, (fun x => Sum.inl (rJ x)), (1, 31, 5), h0)
def f_X11_mean_b18 : Nat → Option Nat → Int32 → Int32 → Int32 → Int32 → AH → Option (Int64 × AH)
  | 0 => fun _ _ _ _ _ _ => none
  | n + 1 => fun x0 x1 x2 x3 x4 h =>
    (gR h x0 [11] 0).bind fun t3 =>
    (gI h t3 [5] 5).bind fun t4 =>
    (if t4 ≤ x4 then
    bd (f_X11_leastTerms (Int32.toInt64 x3) (Int32.toInt64 (mmax x2 1)) x1 h) fun r8 h7 =>
    some (r8, h7)
    else (gR h x0 [11] 0).bind fun t9 =>
    bd (cv h t9 5 (f_X5_isIn t9 x4 h)) fun r11 h10 =>
    (if r11 = 0 then
    (gR h10 x0 [11] 0).bind fun t12 =>
    (gR h10 t12 [5] 2).bind fun t13 =>
    (iA h10 t13 x4).bind fun t14 =>
    (gR h10 x0 [11] 0).bind fun t15 =>
    (gR h10 t15 [5] 1).bind fun t16 =>
    (iA h10 t16 x4).bind fun t17 =>
    nm (x3 + (t14 - t17)) fun t18 =>
    f_X11_mean_b18 n x0 x1 (x2 + 1) t18 (x4 + 1) h10
    else f_X11_mean_b18 n x0 x1 x2 x3 (x4 + 1) h10))
set_option maxRecDepth 100000 in
set_option maxHeartbeats 4000000 in
theorem s_X11_mean_b18 {X : GX} (hX : XOK X) {h0 : AH} : ∀ (n : Nat) (x0 : Option Nat) (x1 : Int32) (x2 : Int32) (x3 : Int32) (x4 : Int32) (h : AH), Gp (p_X11_mean X h0) RX11 "mean" cX11_mean (some .long) 18 [(0, vR x0), (1, vI x1), (2, vI x2), (3, vI x3), (4, vI x4)] [] h (f_X11_mean_b18 n x0 x1 x2 x3 x4 h) := by
  intro n
  induction n with
  | zero => intro x0 x1 x2 x3 x4 h; exact g_none
  | succ n ih =>
    intro x0 x1 x2 x3 x4 h
    rw [f_X11_mean_b18]
    refine g_iload 4 dX11_mean_18 rfl ?_
    refine g_aload_n 0 dX11_mean_20 rfl rfl ?_
    refine g_getR kfl_X11_10 fo_X11_now dX11_mean_21 (fun t3 => ?_)
    refine g_getI kfl_X11_134 fo_X5_guests dX11_mean_24 (fun t4 => ?_)
    refine g_icmpge (tgt := 75) dX11_mean_27 (by decide) ?_ ?_
    · refine g_iload_n 3 dX11_mean_75 rfl rfl ?_
      refine g_i2l dX11_mean_76 ?_
      refine g_iload_n 2 dX11_mean_77 rfl rfl ?_
      refine g_iconst (v := 1) dX11_mean_78 (by decide) ?_
      refine g_mmax kml_X11_229 kst_mmax kii_Math kcd_mmax ⟨Nat.le_of_ble_eq_true rfl, Nat.le_of_ble_eq_true rfl⟩ (Nat.le_of_ble_eq_true rfl) dX11_mean_79 ?_
      refine g_i2l dX11_mean_82 ?_
      refine g_iload_n 1 dX11_mean_83 rfl rfl ?_
      refine g_callSJ (st := []) (s_X11_leastTerms hX (Int32.toInt64 x3) (Int32.toInt64 (mmax x2 1)) x1 h) kml_X11_278 kst_X11_leastTerms kii_X11 kcd_X11_leastTerms ds_X11_leastTerms rfl ⟨Nat.le_of_ble_eq_true rfl, Nat.le_of_ble_eq_true rfl⟩ (Nat.le_of_ble_eq_true rfl) rfl dX11_mean_84 (fun r8 h7 => ?_)
      exact g_lreturn rfl dX11_mean_87
    · refine g_aload_n 0 dX11_mean_30 rfl rfl ?_
      refine g_getR kfl_X11_10 fo_X11_now dX11_mean_31 (fun t9 => ?_)
      refine g_iload 4 dX11_mean_34 rfl ?_
      refine g_callVI (st := []) (ci := 5) rfl (s_X5_isIn hX t9 x4 h) kml_X11_107 kim_X5_isIn kse_X5_isIn kii_X5 kcd_X5_isIn rfl ds_X5_isIn rfl ⟨Nat.le_of_ble_eq_true rfl, Nat.le_of_ble_eq_true rfl⟩ (Nat.le_of_ble_eq_true rfl) rfl dX11_mean_36 (fun r11 h10 => ?_)
      refine g_ifne (tgt := 69) dX11_mean_39 (by decide) ?_ ?_
      · refine g_iinc 4 (v := (x4 + 1)) (ls' := [(4, vI ((x4 + 1))), (0, vR x0), (1, vI x1), (2, vI x2), (3, vI x3)]) dX11_mean_69 rfl rfl (Nat.le_of_ble_eq_true rfl) rfl ?_
        refine g_goto (tgt := 18) dX11_mean_72 (by decide) ?_
        exact g_sub2 [1, 2, 3, 4, 0] rfl (ih x0 x1 x2 x3 (x4 + 1) h10)
      · refine g_iinc 2 (v := (x2 + 1)) (ls' := [(2, vI ((x2 + 1))), (0, vR x0), (1, vI x1), (3, vI x3), (4, vI x4)]) dX11_mean_42 rfl rfl (Nat.le_of_ble_eq_true rfl) rfl ?_
        refine g_iload_n 3 dX11_mean_45 rfl rfl ?_
        refine g_aload_n 1 dX11_mean_46 rfl rfl ?_
        refine g_getR kfl_X11_10 fo_X11_now dX11_mean_47 (fun t12 => ?_)
        refine g_getR kfl_X11_98 fo_X5_entered dX11_mean_50 (fun t13 => ?_)
        refine g_iload 4 dX11_mean_53 rfl ?_
        refine g_iaload dX11_mean_55 (fun t14 => ?_)
        refine g_aload_n 1 dX11_mean_56 rfl rfl ?_
        refine g_getR kfl_X11_10 fo_X11_now dX11_mean_57 (fun t15 => ?_)
        refine g_getR kfl_X11_95 fo_X5_weight dX11_mean_60 (fun t16 => ?_)
        refine g_iload 4 dX11_mean_63 rfl ?_
        refine g_iaload dX11_mean_65 (fun t17 => ?_)
        refine g_isub dX11_mean_66 ?_
        refine g_iadd dX11_mean_67 ?_
        refine g_nmI (fun t18 => ?_)
        refine g_istore_n (ls' := [(3, vI t18), (2, vI ((x2 + 1))), (0, vR x0), (1, vI x1), (4, vI x4)]) dX11_mean_68 rfl (Nat.le_of_ble_eq_true rfl) rfl ?_
        refine g_iinc 4 (v := (x4 + 1)) (ls' := [(4, vI ((x4 + 1))), (3, vI t18), (2, vI ((x2 + 1))), (0, vR x0), (1, vI x1)]) dX11_mean_69 rfl rfl (Nat.le_of_ble_eq_true rfl) rfl ?_
        refine g_goto (tgt := 18) dX11_mean_72 (by decide) ?_
        exact g_sub2 [3, 4, 2, 1, 0] rfl (ih x0 x1 (x2 + 1) t18 (x4 + 1) h10)
def f_X11_mean (v0 : Option Nat) (v1 : Int32) (h : AH) : Option (Int64 × AH) :=
    bd (f_X11_isPart v1 h) fun r2 h1 =>
    (if r2 = 0 then
    some (1000000001, h1)
    else f_X11_mean_b18 FU v0 v1 0 0 0 h1)
set_option maxRecDepth 100000 in
set_option maxHeartbeats 4000000 in
theorem s_X11_mean {X : GX} (hX : XOK X) (v0 : Option Nat) (v1 : Int32) (h : AH) : Snd X yX11_mean cX11_mean 5 (some .long) 1 31 rJ [vR v0, vI v1] h (f_X11_mean v0 v1 h) := by
  refine snd_of hX (by decide +kernel) (Nat.le_of_ble_eq_true rfl) ?_
  show Gp (p_X11_mean X h) RX11 "mean" cX11_mean (some .long) 0 [(0, vR v0), (1, vI v1)] [] h _
  unfold f_X11_mean
  refine g_iload_n 1 dX11_mean_0 rfl rfl ?_
  refine g_callSI (st := []) (s_X11_isPart hX v1 h) kml_X11_261 kst_X11_isPart kii_X11 kcd_X11_isPart ds_X11_isPart rfl ⟨Nat.le_of_ble_eq_true rfl, Nat.le_of_ble_eq_true rfl⟩ (Nat.le_of_ble_eq_true rfl) rfl dX11_mean_1 (fun r2 h1 => ?_)
  refine g_ifne (tgt := 11) dX11_mean_4 (by decide) ?_ ?_
  · refine g_iconst (v := 0) dX11_mean_11 (by decide) ?_
    refine g_istore_n (ls' := [(2, vI 0), (0, vR v0), (1, vI v1)]) dX11_mean_12 rfl (Nat.le_of_ble_eq_true rfl) rfl ?_
    refine g_iconst (v := 0) dX11_mean_13 (by decide) ?_
    refine g_istore_n (ls' := [(3, vI 0), (2, vI 0), (0, vR v0), (1, vI v1)]) dX11_mean_14 rfl (Nat.le_of_ble_eq_true rfl) rfl ?_
    refine g_iconst (v := 0) dX11_mean_15 (by decide) ?_
    refine g_istore (ls' := [(4, vI 0), (3, vI 0), (2, vI 0), (0, vR v0), (1, vI v1)]) dX11_mean_16 (Nat.le_of_ble_eq_true rfl) rfl ?_
    exact g_sub2 [3, 4, 2, 1, 0] rfl (s_X11_mean_b18 hX FU v0 v1 0 0 0 h1)
  · refine g_ldc2 kco_X11_264 dX11_mean_7 ?_
    exact g_lreturn rfl dX11_mean_10
abbrev p_X11_mostGoneOf (X : GX) (h0 : AH) : PX Int32 := (X, (fun x => Sum.inl (rI x)), (1, 23, 6), h0)
def f_X11_mostGoneOf_b38 : Nat → Option Nat → Int32 → Int32 → Int32 → Int32 → AH → Option (Int32 × AH)
  | 0 => fun _ _ _ _ _ _ => none
  | n + 1 => fun x0 x2 x3 x4 x5 h =>
    (if 7 ≤ x5 then
    some (x4, h)
    else bd (cv h x0 11 (f_X11_canPair x0 x2 x5 x3 h)) fun r11 h10 =>
    (if r11 = 0 then
    f_X11_mostGoneOf_b38 n x0 x2 x3 x4 (x5 + 1) h10
    else bd (cv h10 x0 11 (f_X11_goneWithPair x0 x2 x5 x3 h10)) fun r13 h12 =>
    nm (mmax x4 r13) fun t16 =>
    f_X11_mostGoneOf_b38 n x0 x2 x3 t16 (x5 + 1) h12))
set_option maxRecDepth 100000 in
set_option maxHeartbeats 4000000 in
theorem s_X11_mostGoneOf_b38 {X : GX} (hX : XOK X) {h0 : AH} : ∀ (n : Nat) (x0 : Option Nat) (x2 : Int32) (x3 : Int32) (x4 : Int32) (x5 : Int32) (h : AH), Gp (p_X11_mostGoneOf X h0) RX11 "mostGoneOf" cX11_mostGoneOf (some .int) 38 [(0, vR x0), (2, vI x2), (3, vI x3), (4, vI x4), (5, vI x5)] [] h (f_X11_mostGoneOf_b38 n x0 x2 x3 x4 x5 h) := by
  intro n
  induction n with
  | zero => intro x0 x2 x3 x4 x5 h; exact g_none
  | succ n ih =>
    intro x0 x2 x3 x4 x5 h
    rw [f_X11_mostGoneOf_b38]
    refine g_iload 4 dX11_mostGoneOf_38 rfl ?_
    refine g_bipush (v := 7) dX11_mostGoneOf_40 (by decide) ?_
    refine g_icmpge (tgt := 77) dX11_mostGoneOf_42 (by decide) ?_ ?_
    · refine g_iload 3 dX11_mostGoneOf_77 rfl ?_
      exact g_ireturn rfl dX11_mostGoneOf_79
    · refine g_aload_n 0 dX11_mostGoneOf_45 rfl rfl ?_
      refine g_iload_n 1 dX11_mostGoneOf_46 rfl rfl ?_
      refine g_iload 4 dX11_mostGoneOf_47 rfl ?_
      refine g_iload_n 2 dX11_mostGoneOf_49 rfl rfl ?_
      refine g_callVI (st := []) (ci := 11) rfl (s_X11_canPair hX x0 x2 x5 x3 h) kml_X11_237 kim_X11_canPair kse_X11_canPair kii_X11 kcd_X11_canPair rfl ds_X11_canPair rfl ⟨Nat.le_of_ble_eq_true rfl, Nat.le_of_ble_eq_true rfl⟩ (Nat.le_of_ble_eq_true rfl) rfl dX11_mostGoneOf_50 (fun r11 h10 => ?_)
      refine g_ifeq (tgt := 71) dX11_mostGoneOf_53 (by decide) ?_ ?_
      · refine g_iinc 4 (v := (x5 + 1)) (ls' := [(5, vI ((x5 + 1))), (0, vR x0), (2, vI x2), (3, vI x3), (4, vI x4)]) dX11_mostGoneOf_71 rfl rfl (Nat.le_of_ble_eq_true rfl) rfl ?_
        refine g_goto (tgt := 38) dX11_mostGoneOf_74 (by decide) ?_
        exact g_sub2 [1, 2, 3, 4, 0] rfl (ih x0 x2 x3 x4 (x5 + 1) h10)
      · refine g_iload 3 dX11_mostGoneOf_56 rfl ?_
        refine g_aload_n 0 dX11_mostGoneOf_58 rfl rfl ?_
        refine g_iload_n 1 dX11_mostGoneOf_59 rfl rfl ?_
        refine g_iload 4 dX11_mostGoneOf_60 rfl ?_
        refine g_iload_n 2 dX11_mostGoneOf_62 rfl rfl ?_
        refine g_callVI (st := [vI x4]) (ci := 11) rfl (s_X11_goneWithPair hX x0 x2 x5 x3 h10) kml_X11_240 kim_X11_goneWithPair kse_X11_goneWithPair kii_X11 kcd_X11_goneWithPair rfl ds_X11_goneWithPair rfl ⟨Nat.le_of_ble_eq_true rfl, Nat.le_of_ble_eq_true rfl⟩ (Nat.le_of_ble_eq_true rfl) rfl dX11_mostGoneOf_63 (fun r13 h12 => ?_)
        refine g_mmax kml_X11_229 kst_mmax kii_Math kcd_mmax ⟨Nat.le_of_ble_eq_true rfl, Nat.le_of_ble_eq_true rfl⟩ (Nat.le_of_ble_eq_true rfl) dX11_mostGoneOf_66 ?_
        refine g_nmI (fun t16 => ?_)
        refine g_istore (ls' := [(4, vI t16), (0, vR x0), (2, vI x2), (3, vI x3), (5, vI x5)]) dX11_mostGoneOf_69 (Nat.le_of_ble_eq_true rfl) rfl ?_
        refine g_iinc 4 (v := (x5 + 1)) (ls' := [(5, vI ((x5 + 1))), (4, vI t16), (0, vR x0), (2, vI x2), (3, vI x3)]) dX11_mostGoneOf_71 rfl rfl (Nat.le_of_ble_eq_true rfl) rfl ?_
        refine g_goto (tgt := 38) dX11_mostGoneOf_74 (by decide) ?_
        exact g_sub2 [2, 3, 4, 1, 0] rfl (ih x0 x2 x3 t16 (x5 + 1) h12)
def f_X11_mostGoneOf (v0 : Option Nat) (v1 : Int32) (h : AH) : Option (Int32 × AH) :=
    bd (f_X11_lowestOf v1 h) fun r2 h1 =>
    nm (v1 &&& (((1 : Int32) <<< (r2 &&& 31)) ^^^ (-1))) fun t3 =>
    (gR h1 v0 [11] 6).bind fun t4 =>
    (iA h1 t4 ((r2 * 7) + r2)).bind fun t5 =>
    (gR h1 v0 [11] 7).bind fun t6 =>
    (iA h1 t6 t3).bind fun t7 =>
    nm (t5 + t7) fun t8 =>
    nm (r2 + 1) fun t9 =>
    f_X11_mostGoneOf_b38 FU v0 r2 t3 t8 t9 h1
set_option maxRecDepth 100000 in
set_option maxHeartbeats 4000000 in
theorem s_X11_mostGoneOf {X : GX} (hX : XOK X) (v0 : Option Nat) (v1 : Int32) (h : AH) : Snd X yX11_mostGoneOf cX11_mostGoneOf 6 (some .int) 1 23 rI [vR v0, vI v1] h (f_X11_mostGoneOf v0 v1 h) := by
  refine snd_of hX (by decide +kernel) (Nat.le_of_ble_eq_true rfl) ?_
  show Gp (p_X11_mostGoneOf X h) RX11 "mostGoneOf" cX11_mostGoneOf (some .int) 0 [(0, vR v0), (1, vI v1)] [] h _
  unfold f_X11_mostGoneOf
  refine g_iload_n 1 dX11_mostGoneOf_0 rfl rfl ?_
  refine g_callSI (st := []) (s_X11_lowestOf hX v1 h) kml_X11_198 kst_X11_lowestOf kii_X11 kcd_X11_lowestOf ds_X11_lowestOf rfl ⟨Nat.le_of_ble_eq_true rfl, Nat.le_of_ble_eq_true rfl⟩ (Nat.le_of_ble_eq_true rfl) rfl dX11_mostGoneOf_1 (fun r2 h1 => ?_)
  refine g_istore_n (ls' := [(2, vI r2), (0, vR v0), (1, vI v1)]) dX11_mostGoneOf_4 rfl (Nat.le_of_ble_eq_true rfl) rfl ?_
  refine g_iload_n 2 dX11_mostGoneOf_5 rfl rfl ?_
  refine g_iconst (v := 1) dX11_mostGoneOf_6 (by decide) ?_
  refine g_iload_n 0 dX11_mostGoneOf_7 rfl rfl ?_
  refine g_ishl dX11_mostGoneOf_8 ?_
  refine g_iconst (v := (-1)) dX11_mostGoneOf_9 (by decide) ?_
  refine g_ixor dX11_mostGoneOf_10 ?_
  refine g_iand dX11_mostGoneOf_11 ?_
  refine g_nmI (fun t3 => ?_)
  refine g_istore_n (ls' := [(3, vI t3), (2, vI r2), (0, vR v0), (1, vI v1)]) dX11_mostGoneOf_12 rfl (Nat.le_of_ble_eq_true rfl) rfl ?_
  refine g_aload_n 2 dX11_mostGoneOf_13 rfl rfl ?_
  refine g_getR kfl_X11_38 fo_X11_pairGone dX11_mostGoneOf_14 (fun t4 => ?_)
  refine g_iload_n 1 dX11_mostGoneOf_17 rfl rfl ?_
  refine g_bipush (v := 7) dX11_mostGoneOf_18 (by decide) ?_
  refine g_imul dX11_mostGoneOf_20 ?_
  refine g_iload_n 1 dX11_mostGoneOf_21 rfl rfl ?_
  refine g_iadd dX11_mostGoneOf_22 ?_
  refine g_iaload dX11_mostGoneOf_23 (fun t5 => ?_)
  refine g_aload_n 2 dX11_mostGoneOf_24 rfl rfl ?_
  refine g_getR kfl_X11_42 fo_X11_mostGone dX11_mostGoneOf_25 (fun t6 => ?_)
  refine g_iload_n 0 dX11_mostGoneOf_28 rfl rfl ?_
  refine g_iaload dX11_mostGoneOf_29 (fun t7 => ?_)
  refine g_iadd dX11_mostGoneOf_30 ?_
  refine g_nmI (fun t8 => ?_)
  refine g_istore (ls' := [(4, vI t8), (3, vI t3), (2, vI r2), (0, vR v0), (1, vI v1)]) dX11_mostGoneOf_31 (Nat.le_of_ble_eq_true rfl) rfl ?_
  refine g_iload_n 2 dX11_mostGoneOf_33 rfl rfl ?_
  refine g_iconst (v := 1) dX11_mostGoneOf_34 (by decide) ?_
  refine g_iadd dX11_mostGoneOf_35 ?_
  refine g_nmI (fun t9 => ?_)
  refine g_istore (ls' := [(5, vI t9), (4, vI t8), (3, vI t3), (2, vI r2), (0, vR v0), (1, vI v1)]) dX11_mostGoneOf_36 (Nat.le_of_ble_eq_true rfl) rfl ?_
  exact g_sub2 [4, 3, 2, 1, 0] rfl (s_X11_mostGoneOf_b38 hX FU v0 r2 t3 t8 t9 h1)
abbrev p_X11_nextSeed (X : GX) (h0 : AH) : PX Int32 := (X, (fun x => Sum.inl (rI x)), (0, 0, 1), h0)
def f_X11_nextSeed (v0 : Int32) (h : AH) : Option (Int32 × AH) :=
    some (((v0 * 1103515245) + 12345), h)
set_option maxRecDepth 100000 in
set_option maxHeartbeats 4000000 in
theorem s_X11_nextSeed {X : GX} (hX : XOK X) (v0 : Int32) (h : AH) : Snd X yX11_nextSeed cX11_nextSeed 1 (some .int) 0 0 rI [vI v0] h (f_X11_nextSeed v0 h) := by
  refine snd_of hX (by decide +kernel) (Nat.le_of_ble_eq_true rfl) ?_
  show Gp (p_X11_nextSeed X h) RX11 "nextSeed" cX11_nextSeed (some .int) 0 [(0, vI v0)] [] h _
  unfold f_X11_nextSeed
  refine g_iload_n 0 dX11_nextSeed_0 rfl rfl ?_
  refine g_ldcw kco_X11_315 dX11_nextSeed_1 ?_
  refine g_imul dX11_nextSeed_4 ?_
  refine g_sipush (v := 12345) dX11_nextSeed_5 (by decide) ?_
  refine g_iadd dX11_nextSeed_8 ?_
  exact g_ireturn rfl dX11_nextSeed_9
abbrev p_X5_heaviest (X : GX) (h0 : AH) : PX Int32 := (X, (fun x => Sum.inl (rI x)), (1, 21, 4), h0)
def f_X5_heaviest_b7 : Nat → Option Nat → Int32 → Int32 → Int32 → AH → Option (Int32 × AH)
  | 0 => fun _ _ _ _ _ => none
  | n + 1 => fun x0 x1 x2 x3 h =>
    (gI h x0 [5] 5).bind fun t1 =>
    (if t1 ≤ x3 then
    some (x1, h)
    else bd (cv h x0 5 (f_X5_isIn x0 x3 h)) fun r3 h2 =>
    (if r3 = 0 then
    f_X5_heaviest_b7 n x0 x1 x2 (x3 + 1) h2
    else (gR h2 x0 [5] 1).bind fun t4 =>
    (iA h2 t4 x3).bind fun t5 =>
    (if t5 ≤ x2 then
    f_X5_heaviest_b7 n x0 x1 x2 (x3 + 1) h2
    else (gR h2 x0 [5] 1).bind fun t6 =>
    (iA h2 t6 x3).bind fun t7 =>
    f_X5_heaviest_b7 n x0 x3 t7 (x3 + 1) h2)))
set_option maxRecDepth 100000 in
set_option maxHeartbeats 4000000 in
theorem s_X5_heaviest_b7 {X : GX} (hX : XOK X) {h0 : AH} : ∀ (n : Nat) (x0 : Option Nat) (x1 : Int32) (x2 : Int32) (x3 : Int32) (h : AH), Gp (p_X5_heaviest X h0) RX5 "heaviest" cX5_heaviest (some .int) 7 [(0, vR x0), (1, vI x1), (2, vI x2), (3, vI x3)] [] h (f_X5_heaviest_b7 n x0 x1 x2 x3 h) := by
  intro n
  induction n with
  | zero => intro x0 x1 x2 x3 h; exact g_none
  | succ n ih =>
    intro x0 x1 x2 x3 h
    rw [f_X5_heaviest_b7]
    refine g_iload_n 3 dX5_heaviest_7 rfl rfl ?_
    refine g_aload_n 0 dX5_heaviest_8 rfl rfl ?_
    refine g_getI kfl_X5_30 fo_X5_guests dX5_heaviest_9 (fun t1 => ?_)
    refine g_icmpge (tgt := 48) dX5_heaviest_12 (by decide) ?_ ?_
    · refine g_iload_n 1 dX5_heaviest_48 rfl rfl ?_
      exact g_ireturn rfl dX5_heaviest_49
    · refine g_aload_n 0 dX5_heaviest_15 rfl rfl ?_
      refine g_iload_n 3 dX5_heaviest_16 rfl rfl ?_
      refine g_callVI (st := []) (ci := 5) rfl (s_X5_isIn hX x0 x3 h) kml_X5_59 kim_X5_isIn kse_X5_isIn kii_X5 kcd_X5_isIn rfl ds_X5_isIn rfl ⟨Nat.le_of_ble_eq_true rfl, Nat.le_of_ble_eq_true rfl⟩ (Nat.le_of_ble_eq_true rfl) rfl dX5_heaviest_17 (fun r3 h2 => ?_)
      refine g_ifeq (tgt := 42) dX5_heaviest_20 (by decide) ?_ ?_
      · refine g_iinc 3 (v := (x3 + 1)) (ls' := [(3, vI ((x3 + 1))), (0, vR x0), (1, vI x1), (2, vI x2)]) dX5_heaviest_42 rfl rfl (Nat.le_of_ble_eq_true rfl) rfl ?_
        refine g_goto (tgt := 7) dX5_heaviest_45 (by decide) ?_
        exact g_sub2 [1, 2, 3, 0] rfl (ih x0 x1 x2 (x3 + 1) h2)
      · refine g_aload_n 0 dX5_heaviest_23 rfl rfl ?_
        refine g_getR kfl_X5_17 fo_X5_weight dX5_heaviest_24 (fun t4 => ?_)
        refine g_iload_n 3 dX5_heaviest_27 rfl rfl ?_
        refine g_iaload dX5_heaviest_28 (fun t5 => ?_)
        refine g_iload_n 2 dX5_heaviest_29 rfl rfl ?_
        refine g_icmple (tgt := 42) dX5_heaviest_30 (by decide) ?_ ?_
        · refine g_iinc 3 (v := (x3 + 1)) (ls' := [(3, vI ((x3 + 1))), (0, vR x0), (1, vI x1), (2, vI x2)]) dX5_heaviest_42 rfl rfl (Nat.le_of_ble_eq_true rfl) rfl ?_
          refine g_goto (tgt := 7) dX5_heaviest_45 (by decide) ?_
          exact g_sub2 [1, 2, 3, 0] rfl (ih x0 x1 x2 (x3 + 1) h2)
        · refine g_iload_n 3 dX5_heaviest_33 rfl rfl ?_
          refine g_istore_n (ls' := [(1, vI x3), (0, vR x0), (2, vI x2), (3, vI x3)]) dX5_heaviest_34 rfl (Nat.le_of_ble_eq_true rfl) rfl ?_
          refine g_aload_n 1 dX5_heaviest_35 rfl rfl ?_
          refine g_getR kfl_X5_17 fo_X5_weight dX5_heaviest_36 (fun t6 => ?_)
          refine g_iload_n 3 dX5_heaviest_39 rfl rfl ?_
          refine g_iaload dX5_heaviest_40 (fun t7 => ?_)
          refine g_istore_n (ls' := [(2, vI t7), (1, vI x3), (0, vR x0), (3, vI x3)]) dX5_heaviest_41 rfl (Nat.le_of_ble_eq_true rfl) rfl ?_
          refine g_iinc 3 (v := (x3 + 1)) (ls' := [(3, vI ((x3 + 1))), (2, vI t7), (1, vI x3), (0, vR x0)]) dX5_heaviest_42 rfl rfl (Nat.le_of_ble_eq_true rfl) rfl ?_
          refine g_goto (tgt := 7) dX5_heaviest_45 (by decide) ?_
          exact g_sub2 [3, 2, 1, 0] rfl (ih x0 x3 t7 (x3 + 1) h2)
def f_X5_heaviest (v0 : Option Nat) (h : AH) : Option (Int32 × AH) :=
    f_X5_heaviest_b7 FU v0 (-4) (-1) 0 h
set_option maxRecDepth 100000 in
set_option maxHeartbeats 4000000 in
theorem s_X5_heaviest {X : GX} (hX : XOK X) (v0 : Option Nat) (h : AH) : Snd X yX5_heaviest cX5_heaviest 4 (some .int) 1 21 rI [vR v0] h (f_X5_heaviest v0 h) := by
  refine snd_of hX (by decide +kernel) (Nat.le_of_ble_eq_true rfl) ?_
  show Gp (p_X5_heaviest X h) RX5 "heaviest" cX5_heaviest (some .int) 0 [(0, vR v0)] [] h _
  unfold f_X5_heaviest
  refine g_bipush (v := (-4)) dX5_heaviest_0 (by decide) ?_
  refine g_istore_n (ls' := [(1, vI ((-4))), (0, vR v0)]) dX5_heaviest_2 rfl (Nat.le_of_ble_eq_true rfl) rfl ?_
  refine g_iconst (v := (-1)) dX5_heaviest_3 (by decide) ?_
  refine g_istore_n (ls' := [(2, vI ((-1))), (1, vI ((-4))), (0, vR v0)]) dX5_heaviest_4 rfl (Nat.le_of_ble_eq_true rfl) rfl ?_
  refine g_iconst (v := 0) dX5_heaviest_5 (by decide) ?_
  refine g_istore_n (ls' := [(3, vI 0), (2, vI ((-1))), (1, vI ((-4))), (0, vR v0)]) dX5_heaviest_6 rfl (Nat.le_of_ble_eq_true rfl) rfl ?_
  exact g_sub2 [3, 2, 1, 0] rfl (s_X5_heaviest_b7 hX FU v0 (-4) (-1) 0 h)
abbrev p_X5_lighterThan (X : GX) (h0 : AH) : PX Int32 := (X, (fun x => Sum.inl (rI x)), (1, 21, 5), h0)
def f_X5_lighterThan_b52 (k4 : Option Nat → Int32 → Int32 → Int32 → AH → Option (Int32 × AH)) (x0 : Option Nat) (x1 : Int32) (x2 : Int32) (x3 : Int32) (y0 : Int32) (h : AH) : Option (Int32 × AH) :=
    bd (cv h x0 5 (f_X5_isIn x0 x3 h)) fun r7 h6 =>
    (if r7 = 0 then
    k4 x0 x1 x2 (x3 + 1) h6
    else (if y0 = 0 then
    k4 x0 x1 x2 (x3 + 1) h6
    else k4 x0 x1 (x2 + 1) (x3 + 1) h6))
set_option maxRecDepth 100000 in
set_option maxHeartbeats 4000000 in
theorem s_X5_lighterThan_b52 {X : GX} (hX : XOK X) {h0 : AH} (k4 : Option Nat → Int32 → Int32 → Int32 → AH → Option (Int32 × AH)) (hk4 : ∀ (z0 : Option Nat) (z1 : Int32) (z2 : Int32) (z3 : Int32) (h : AH), Gp (p_X5_lighterThan X h0) RX5 "lighterThan" cX5_lighterThan (some .int) 4 [(0, vR z0), (1, vI z1), (2, vI z2), (3, vI z3)] [] h (k4 z0 z1 z2 z3 h)) : ∀ (x0 : Option Nat) (x1 : Int32) (x2 : Int32) (x3 : Int32) (y0 : Int32) (h : AH), Gp (p_X5_lighterThan X h0) RX5 "lighterThan" cX5_lighterThan (some .int) 52 [(0, vR x0), (1, vI x1), (2, vI x2), (3, vI x3)] [vI y0] h (f_X5_lighterThan_b52 k4 x0 x1 x2 x3 y0 h) := by
  intro x0 x1 x2 x3 y0 h
  unfold f_X5_lighterThan_b52
  refine g_istore (ls' := [(4, vI y0), (0, vR x0), (1, vI x1), (2, vI x2), (3, vI x3)]) dX5_lighterThan_52 (Nat.le_of_ble_eq_true rfl) rfl ?_
  refine g_aload_n 1 dX5_lighterThan_54 rfl rfl ?_
  refine g_iload_n 4 dX5_lighterThan_55 rfl rfl ?_
  refine g_callVI (st := []) (ci := 5) rfl (s_X5_isIn hX x0 x3 h) kml_X5_59 kim_X5_isIn kse_X5_isIn kii_X5 kcd_X5_isIn rfl ds_X5_isIn rfl ⟨Nat.le_of_ble_eq_true rfl, Nat.le_of_ble_eq_true rfl⟩ (Nat.le_of_ble_eq_true rfl) rfl dX5_lighterThan_56 (fun r7 h6 => ?_)
  refine g_ifeq (tgt := 70) dX5_lighterThan_59 (by decide) ?_ ?_
  · refine g_iinc 4 (v := (x3 + 1)) (ls' := [(3, vI ((x3 + 1))), (4, vI y0), (0, vR x0), (1, vI x1), (2, vI x2)]) dX5_lighterThan_70 rfl rfl (Nat.le_of_ble_eq_true rfl) rfl ?_
    refine g_goto (tgt := 4) dX5_lighterThan_73 (by decide) ?_
    exact g_sub2 [2, 3, 4, 0] rfl (hk4 x0 x1 x2 (x3 + 1) h6)
  · refine g_iload 0 dX5_lighterThan_62 rfl ?_
    refine g_ifeq (tgt := 70) dX5_lighterThan_64 (by decide) ?_ ?_
    · refine g_iinc 4 (v := (x3 + 1)) (ls' := [(3, vI ((x3 + 1))), (4, vI y0), (0, vR x0), (1, vI x1), (2, vI x2)]) dX5_lighterThan_70 rfl rfl (Nat.le_of_ble_eq_true rfl) rfl ?_
      refine g_goto (tgt := 4) dX5_lighterThan_73 (by decide) ?_
      exact g_sub2 [2, 3, 4, 0] rfl (hk4 x0 x1 x2 (x3 + 1) h6)
    · refine g_iinc 3 (v := (x2 + 1)) (ls' := [(2, vI ((x2 + 1))), (4, vI y0), (0, vR x0), (1, vI x1), (3, vI x3)]) dX5_lighterThan_67 rfl rfl (Nat.le_of_ble_eq_true rfl) rfl ?_
      refine g_iinc 4 (v := (x3 + 1)) (ls' := [(3, vI ((x3 + 1))), (2, vI ((x2 + 1))), (4, vI y0), (0, vR x0), (1, vI x1)]) dX5_lighterThan_70 rfl rfl (Nat.le_of_ble_eq_true rfl) rfl ?_
      refine g_goto (tgt := 4) dX5_lighterThan_73 (by decide) ?_
      exact g_sub2 [3, 4, 1, 0] rfl (hk4 x0 x1 (x2 + 1) (x3 + 1) h6)
def f_X5_lighterThan_b47 (k4 : Option Nat → Int32 → Int32 → Int32 → AH → Option (Int32 × AH)) (x0 : Option Nat) (x1 : Int32) (x2 : Int32) (x3 : Int32) (h : AH) : Option (Int32 × AH) :=
    f_X5_lighterThan_b52 k4 x0 x1 x2 x3 1 h
set_option maxRecDepth 100000 in
set_option maxHeartbeats 4000000 in
theorem s_X5_lighterThan_b47 {X : GX} (hX : XOK X) {h0 : AH} (k4 : Option Nat → Int32 → Int32 → Int32 → AH → Option (Int32 × AH)) (hk4 : ∀ (z0 : Option Nat) (z1 : Int32) (z2 : Int32) (z3 : Int32) (h : AH), Gp (p_X5_lighterThan X h0) RX5 "lighterThan" cX5_lighterThan (some .int) 4 [(0, vR z0), (1, vI z1), (2, vI z2), (3, vI z3)] [] h (k4 z0 z1 z2 z3 h)) : ∀ (x0 : Option Nat) (x1 : Int32) (x2 : Int32) (x3 : Int32) (h : AH), Gp (p_X5_lighterThan X h0) RX5 "lighterThan" cX5_lighterThan (some .int) 47 [(0, vR x0), (1, vI x1), (2, vI x2), (3, vI x3)] [] h (f_X5_lighterThan_b47 k4 x0 x1 x2 x3 h) := by
  intro x0 x1 x2 x3 h
  unfold f_X5_lighterThan_b47
  refine g_iconst (v := 1) dX5_lighterThan_47 (by decide) ?_
  refine g_goto (tgt := 52) dX5_lighterThan_48 (by decide) ?_
  exact g_sub2 [0, 1, 2, 3] rfl (s_X5_lighterThan_b52 hX k4 (fun z0 z1 z2 z3 z4 => hk4 z0 z1 z2 z3 z4) x0 x1 x2 x3 1 h)
def f_X5_lighterThan_b51 (k4 : Option Nat → Int32 → Int32 → Int32 → AH → Option (Int32 × AH)) (x0 : Option Nat) (x1 : Int32) (x2 : Int32) (x3 : Int32) (h : AH) : Option (Int32 × AH) :=
    f_X5_lighterThan_b52 k4 x0 x1 x2 x3 0 h
set_option maxRecDepth 100000 in
set_option maxHeartbeats 4000000 in
theorem s_X5_lighterThan_b51 {X : GX} (hX : XOK X) {h0 : AH} (k4 : Option Nat → Int32 → Int32 → Int32 → AH → Option (Int32 × AH)) (hk4 : ∀ (z0 : Option Nat) (z1 : Int32) (z2 : Int32) (z3 : Int32) (h : AH), Gp (p_X5_lighterThan X h0) RX5 "lighterThan" cX5_lighterThan (some .int) 4 [(0, vR z0), (1, vI z1), (2, vI z2), (3, vI z3)] [] h (k4 z0 z1 z2 z3 h)) : ∀ (x0 : Option Nat) (x1 : Int32) (x2 : Int32) (x3 : Int32) (h : AH), Gp (p_X5_lighterThan X h0) RX5 "lighterThan" cX5_lighterThan (some .int) 51 [(0, vR x0), (1, vI x1), (2, vI x2), (3, vI x3)] [] h (f_X5_lighterThan_b51 k4 x0 x1 x2 x3 h) := by
  intro x0 x1 x2 x3 h
  unfold f_X5_lighterThan_b51
  refine g_iconst (v := 0) dX5_lighterThan_51 (by decide) ?_
  exact g_sub2 [0, 1, 2, 3] rfl (s_X5_lighterThan_b52 hX k4 (fun z0 z1 z2 z3 z4 => hk4 z0 z1 z2 z3 z4) x0 x1 x2 x3 0 h)
def f_X5_lighterThan_b4 : Nat → Option Nat → Int32 → Int32 → Int32 → AH → Option (Int32 × AH)
  | 0 => fun _ _ _ _ _ => none
  | n + 1 => fun x0 x1 x2 x3 h =>
    (gI h x0 [5] 5).bind fun t1 =>
    (if t1 ≤ x3 then
    some (x2, h)
    else (gR h x0 [5] 1).bind fun t2 =>
    (iA h t2 x3).bind fun t3 =>
    (gR h x0 [5] 1).bind fun t4 =>
    (iA h t4 x1).bind fun t5 =>
    (if t3 < t5 then
    f_X5_lighterThan_b47 (f_X5_lighterThan_b4 n) x0 x1 x2 x3 h
    else (gR h x0 [5] 1).bind fun t8 =>
    (iA h t8 x3).bind fun t9 =>
    (gR h x0 [5] 1).bind fun t10 =>
    (iA h t10 x1).bind fun t11 =>
    (if t9 = t11 then
    (if x1 ≤ x3 then
    f_X5_lighterThan_b51 (f_X5_lighterThan_b4 n) x0 x1 x2 x3 h
    else f_X5_lighterThan_b47 (f_X5_lighterThan_b4 n) x0 x1 x2 x3 h)
    else f_X5_lighterThan_b51 (f_X5_lighterThan_b4 n) x0 x1 x2 x3 h)))
set_option maxRecDepth 100000 in
set_option maxHeartbeats 4000000 in
theorem s_X5_lighterThan_b4 {X : GX} (hX : XOK X) {h0 : AH} : ∀ (n : Nat) (x0 : Option Nat) (x1 : Int32) (x2 : Int32) (x3 : Int32) (h : AH), Gp (p_X5_lighterThan X h0) RX5 "lighterThan" cX5_lighterThan (some .int) 4 [(0, vR x0), (1, vI x1), (2, vI x2), (3, vI x3)] [] h (f_X5_lighterThan_b4 n x0 x1 x2 x3 h) := by
  intro n
  induction n with
  | zero => intro x0 x1 x2 x3 h; exact g_none
  | succ n ih =>
    intro x0 x1 x2 x3 h
    rw [f_X5_lighterThan_b4]
    refine g_iload_n 3 dX5_lighterThan_4 rfl rfl ?_
    refine g_aload_n 0 dX5_lighterThan_5 rfl rfl ?_
    refine g_getI kfl_X5_30 fo_X5_guests dX5_lighterThan_6 (fun t1 => ?_)
    refine g_icmpge (tgt := 76) dX5_lighterThan_9 (by decide) ?_ ?_
    · refine g_iload_n 2 dX5_lighterThan_76 rfl rfl ?_
      exact g_ireturn rfl dX5_lighterThan_77
    · refine g_aload_n 0 dX5_lighterThan_12 rfl rfl ?_
      refine g_getR kfl_X5_17 fo_X5_weight dX5_lighterThan_13 (fun t2 => ?_)
      refine g_iload_n 3 dX5_lighterThan_16 rfl rfl ?_
      refine g_iaload dX5_lighterThan_17 (fun t3 => ?_)
      refine g_aload_n 0 dX5_lighterThan_18 rfl rfl ?_
      refine g_getR kfl_X5_17 fo_X5_weight dX5_lighterThan_19 (fun t4 => ?_)
      refine g_iload_n 1 dX5_lighterThan_22 rfl rfl ?_
      refine g_iaload dX5_lighterThan_23 (fun t5 => ?_)
      refine g_icmplt (tgt := 47) dX5_lighterThan_24 (by decide) ?_ ?_
      · exact g_sub2 [0, 1, 2, 3] rfl (s_X5_lighterThan_b47 hX (f_X5_lighterThan_b4 n) (fun z0 z1 z2 z3 z4 => ih z0 z1 z2 z3 z4) x0 x1 x2 x3 h)
      · refine g_aload_n 0 dX5_lighterThan_27 rfl rfl ?_
        refine g_getR kfl_X5_17 fo_X5_weight dX5_lighterThan_28 (fun t8 => ?_)
        refine g_iload_n 3 dX5_lighterThan_31 rfl rfl ?_
        refine g_iaload dX5_lighterThan_32 (fun t9 => ?_)
        refine g_aload_n 0 dX5_lighterThan_33 rfl rfl ?_
        refine g_getR kfl_X5_17 fo_X5_weight dX5_lighterThan_34 (fun t10 => ?_)
        refine g_iload_n 1 dX5_lighterThan_37 rfl rfl ?_
        refine g_iaload dX5_lighterThan_38 (fun t11 => ?_)
        refine g_icmpne (tgt := 51) dX5_lighterThan_39 (by decide) ?_ ?_
        · exact g_sub2 [0, 1, 2, 3] rfl (s_X5_lighterThan_b51 hX (f_X5_lighterThan_b4 n) (fun z0 z1 z2 z3 z4 => ih z0 z1 z2 z3 z4) x0 x1 x2 x3 h)
        · refine g_iload_n 3 dX5_lighterThan_42 rfl rfl ?_
          refine g_iload_n 1 dX5_lighterThan_43 rfl rfl ?_
          refine g_icmpge (tgt := 51) dX5_lighterThan_44 (by decide) ?_ ?_
          · exact g_sub2 [0, 1, 2, 3] rfl (s_X5_lighterThan_b51 hX (f_X5_lighterThan_b4 n) (fun z0 z1 z2 z3 z4 => ih z0 z1 z2 z3 z4) x0 x1 x2 x3 h)
          · exact g_sub2 [0, 1, 2, 3] rfl (s_X5_lighterThan_b47 hX (f_X5_lighterThan_b4 n) (fun z0 z1 z2 z3 z4 => ih z0 z1 z2 z3 z4) x0 x1 x2 x3 h)
def f_X5_lighterThan (v0 : Option Nat) (v1 : Int32) (h : AH) : Option (Int32 × AH) :=
    f_X5_lighterThan_b4 FU v0 v1 0 0 h
set_option maxRecDepth 100000 in
set_option maxHeartbeats 4000000 in
theorem s_X5_lighterThan {X : GX} (hX : XOK X) (v0 : Option Nat) (v1 : Int32) (h : AH) : Snd X yX5_lighterThan cX5_lighterThan 5 (some .int) 1 21 rI [vR v0, vI v1] h (f_X5_lighterThan v0 v1 h) := by
  refine snd_of hX (by decide +kernel) (Nat.le_of_ble_eq_true rfl) ?_
  show Gp (p_X5_lighterThan X h) RX5 "lighterThan" cX5_lighterThan (some .int) 0 [(0, vR v0), (1, vI v1)] [] h _
  unfold f_X5_lighterThan
  refine g_iconst (v := 0) dX5_lighterThan_0 (by decide) ?_
  refine g_istore_n (ls' := [(2, vI 0), (0, vR v0), (1, vI v1)]) dX5_lighterThan_1 rfl (Nat.le_of_ble_eq_true rfl) rfl ?_
  refine g_iconst (v := 0) dX5_lighterThan_2 (by decide) ?_
  refine g_istore_n (ls' := [(3, vI 0), (2, vI 0), (0, vR v0), (1, vI v1)]) dX5_lighterThan_3 rfl (Nat.le_of_ble_eq_true rfl) rfl ?_
  exact g_sub2 [2, 3, 1, 0] rfl (s_X5_lighterThan_b4 hX FU v0 v1 0 0 h)
abbrev p_X5_byWeight (X : GX) (h0 : AH) : PX Int32 := (X, (fun x => Sum.inl (rI x)), (2, 45, 3), h0)
def f_X5_byWeight_b2 : Nat → Option Nat → Int32 → Int32 → AH → Option (Int32 × AH)
  | 0 => fun _ _ _ _ => none
  | n + 1 => fun x0 x1 x2 h =>
    (gI h x0 [5] 5).bind fun t1 =>
    (if t1 ≤ x2 then
    some ((-4), h)
    else bd (cv h x0 5 (f_X5_isIn x0 x2 h)) fun r3 h2 =>
    (if r3 = 0 then
    f_X5_byWeight_b2 n x0 x1 (x2 + 1) h2
    else bd (cv h2 x0 5 (f_X5_lighterThan x0 x2 h2)) fun r5 h4 =>
    (if r5 = x1 then
    some (x2, h4)
    else f_X5_byWeight_b2 n x0 x1 (x2 + 1) h4)))
set_option maxRecDepth 100000 in
set_option maxHeartbeats 4000000 in
theorem s_X5_byWeight_b2 {X : GX} (hX : XOK X) {h0 : AH} : ∀ (n : Nat) (x0 : Option Nat) (x1 : Int32) (x2 : Int32) (h : AH), Gp (p_X5_byWeight X h0) RX5 "byWeight" cX5_byWeight (some .int) 2 [(0, vR x0), (1, vI x1), (2, vI x2)] [] h (f_X5_byWeight_b2 n x0 x1 x2 h) := by
  intro n
  induction n with
  | zero => intro x0 x1 x2 h; exact g_none
  | succ n ih =>
    intro x0 x1 x2 h
    rw [f_X5_byWeight_b2]
    refine g_iload_n 2 dX5_byWeight_2 rfl rfl ?_
    refine g_aload_n 0 dX5_byWeight_3 rfl rfl ?_
    refine g_getI kfl_X5_30 fo_X5_guests dX5_byWeight_4 (fun t1 => ?_)
    refine g_icmpge (tgt := 35) dX5_byWeight_7 (by decide) ?_ ?_
    · refine g_bipush (v := (-4)) dX5_byWeight_35 (by decide) ?_
      exact g_ireturn rfl dX5_byWeight_37
    · refine g_aload_n 0 dX5_byWeight_10 rfl rfl ?_
      refine g_iload_n 2 dX5_byWeight_11 rfl rfl ?_
      refine g_callVI (st := []) (ci := 5) rfl (s_X5_isIn hX x0 x2 h) kml_X5_59 kim_X5_isIn kse_X5_isIn kii_X5 kcd_X5_isIn rfl ds_X5_isIn rfl ⟨Nat.le_of_ble_eq_true rfl, Nat.le_of_ble_eq_true rfl⟩ (Nat.le_of_ble_eq_true rfl) rfl dX5_byWeight_12 (fun r3 h2 => ?_)
      refine g_ifeq (tgt := 29) dX5_byWeight_15 (by decide) ?_ ?_
      · refine g_iinc 2 (v := (x2 + 1)) (ls' := [(2, vI ((x2 + 1))), (0, vR x0), (1, vI x1)]) dX5_byWeight_29 rfl rfl (Nat.le_of_ble_eq_true rfl) rfl ?_
        refine g_goto (tgt := 2) dX5_byWeight_32 (by decide) ?_
        exact g_sub2 [1, 2, 0] rfl (ih x0 x1 (x2 + 1) h2)
      · refine g_aload_n 0 dX5_byWeight_18 rfl rfl ?_
        refine g_iload_n 2 dX5_byWeight_19 rfl rfl ?_
        refine g_callVI (st := []) (ci := 5) rfl (s_X5_lighterThan hX x0 x2 h2) kml_X5_104 kim_X5_lighterThan kse_X5_lighterThan kii_X5 kcd_X5_lighterThan rfl ds_X5_lighterThan rfl ⟨Nat.le_of_ble_eq_true rfl, Nat.le_of_ble_eq_true rfl⟩ (Nat.le_of_ble_eq_true rfl) rfl dX5_byWeight_20 (fun r5 h4 => ?_)
        refine g_iload_n 1 dX5_byWeight_23 rfl rfl ?_
        refine g_icmpne (tgt := 29) dX5_byWeight_24 (by decide) ?_ ?_
        · refine g_iinc 2 (v := (x2 + 1)) (ls' := [(2, vI ((x2 + 1))), (0, vR x0), (1, vI x1)]) dX5_byWeight_29 rfl rfl (Nat.le_of_ble_eq_true rfl) rfl ?_
          refine g_goto (tgt := 2) dX5_byWeight_32 (by decide) ?_
          exact g_sub2 [1, 2, 0] rfl (ih x0 x1 (x2 + 1) h4)
        · refine g_iload_n 2 dX5_byWeight_27 rfl rfl ?_
          exact g_ireturn rfl dX5_byWeight_28
def f_X5_byWeight (v0 : Option Nat) (v1 : Int32) (h : AH) : Option (Int32 × AH) :=
    f_X5_byWeight_b2 FU v0 v1 0 h
set_option maxRecDepth 100000 in
set_option maxHeartbeats 4000000 in
theorem s_X5_byWeight {X : GX} (hX : XOK X) (v0 : Option Nat) (v1 : Int32) (h : AH) : Snd X yX5_byWeight cX5_byWeight 3 (some .int) 2 45 rI [vR v0, vI v1] h (f_X5_byWeight v0 v1 h) := by
  refine snd_of hX (by decide +kernel) (Nat.le_of_ble_eq_true rfl) ?_
  show Gp (p_X5_byWeight X h) RX5 "byWeight" cX5_byWeight (some .int) 0 [(0, vR v0), (1, vI v1)] [] h _
  unfold f_X5_byWeight
  refine g_iconst (v := 0) dX5_byWeight_0 (by decide) ?_
  refine g_istore_n (ls' := [(2, vI 0), (0, vR v0), (1, vI v1)]) dX5_byWeight_1 rfl (Nat.le_of_ble_eq_true rfl) rfl ?_
  exact g_sub2 [1, 2, 0] rfl (s_X5_byWeight_b2 hX FU v0 v1 0 h)
abbrev p_X11_order (X : GX) (h0 : AH) : PX Int32 := (X, (fun x => Sum.inl (rI x)), (3, 67, 2), h0)
def f_X11_order (v0 : Option Nat) (v1 : Int32) (h : AH) : Option (Int32 × AH) :=
    (if (-1) ≤ v1 then
    (if v1 = (-1) then
    (gR h v0 [11] 0).bind fun t4 =>
    bd (cv h t4 5 (f_X5_heaviest t4 h)) fun r6 h5 =>
    some (r6, h5)
    else (gR h v0 [11] 0).bind fun t1 =>
    bd (cv h t1 5 (f_X5_byWeight t1 v1 h)) fun r3 h2 =>
    some (r3, h2))
    else some ((-1), h))
set_option maxRecDepth 100000 in
set_option maxHeartbeats 4000000 in
theorem s_X11_order {X : GX} (hX : XOK X) (v0 : Option Nat) (v1 : Int32) (h : AH) : Snd X yX11_order cX11_order 2 (some .int) 3 67 rI [vR v0, vI v1] h (f_X11_order v0 v1 h) := by
  refine snd_of hX (by decide +kernel) (Nat.le_of_ble_eq_true rfl) ?_
  show Gp (p_X11_order X h) RX11 "order" cX11_order (some .int) 0 [(0, vR v0), (1, vI v1)] [] h _
  unfold f_X11_order
  refine g_iload_n 1 dX11_order_0 rfl rfl ?_
  refine g_iconst (v := (-1)) dX11_order_1 (by decide) ?_
  refine g_icmpge (tgt := 7) dX11_order_2 (by decide) ?_ ?_
  · refine g_iload_n 1 dX11_order_7 rfl rfl ?_
    refine g_iconst (v := (-1)) dX11_order_8 (by decide) ?_
    refine g_icmpne (tgt := 22) dX11_order_9 (by decide) ?_ ?_
    · refine g_aload_n 0 dX11_order_22 rfl rfl ?_
      refine g_getR kfl_X11_10 fo_X11_now dX11_order_23 (fun t1 => ?_)
      refine g_iload_n 1 dX11_order_26 rfl rfl ?_
      refine g_callVI (st := []) (ci := 5) rfl (s_X5_byWeight hX t1 v1 h) kml_X11_192 kim_X5_byWeight kse_X5_byWeight kii_X5 kcd_X5_byWeight rfl ds_X5_byWeight rfl ⟨Nat.le_of_ble_eq_true rfl, Nat.le_of_ble_eq_true rfl⟩ (Nat.le_of_ble_eq_true rfl) rfl dX11_order_27 (fun r3 h2 => ?_)
      exact g_ireturn rfl dX11_order_30
    · refine g_aload_n 0 dX11_order_12 rfl rfl ?_
      refine g_getR kfl_X11_10 fo_X11_now dX11_order_13 (fun t4 => ?_)
      refine g_callVI (st := []) (ci := 5) rfl (s_X5_heaviest hX t4 h) kml_X11_189 kim_X5_heaviest kse_X5_heaviest kii_X5 kcd_X5_heaviest rfl ds_X5_heaviest rfl ⟨Nat.le_of_ble_eq_true rfl, Nat.le_of_ble_eq_true rfl⟩ (Nat.le_of_ble_eq_true rfl) rfl dX11_order_16 (fun r6 h5 => ?_)
      refine g_goto (tgt := 30) dX11_order_19 (by decide) ?_
      exact g_ireturn rfl dX11_order_30
  · refine g_iconst (v := (-1)) dX11_order_5 (by decide) ?_
    exact g_ireturn rfl dX11_order_6
abbrev p_X11_planPairs (X : GX) (h0 : AH) : PX Unit := (X, (fun x => Sum.inl (rU x)), (5, 108, 4), h0)
def f_X11_planPairs_b96 : Nat → Option Nat → Int32 → AH → Option (Unit × AH)
  | 0 => fun _ _ _ => none
  | n + 1 => fun x0 x2 h =>
    (gR h x0 [11] 0).bind fun t7 =>
    (gI h t7 [5] 6).bind fun t8 =>
    (if t8 < x2 then
    some ((), h)
    else (gR h x0 [11] 0).bind fun t9 =>
    (gI h t9 [5] 6).bind fun t10 =>
    (if (x2 &&& (t10 ^^^ (-1))) = 0 then
    (gR h x0 [11] 7).bind fun t11 =>
    bd (cv h x0 11 (f_X11_mostGoneOf x0 x2 h)) fun r13 h12 =>
    (iS h12 t11 x2 r13).bind fun h14 =>
    f_X11_planPairs_b96 n x0 (x2 + 1) h14
    else f_X11_planPairs_b96 n x0 (x2 + 1) h))
set_option maxRecDepth 100000 in
set_option maxHeartbeats 4000000 in
theorem s_X11_planPairs_b96 {X : GX} (hX : XOK X) {h0 : AH} : ∀ (n : Nat) (x0 : Option Nat) (x2 : Int32) (h : AH), Gp (p_X11_planPairs X h0) RX11 "planPairs" cX11_planPairs none 96 [(0, vR x0), (2, vI x2)] [] h (f_X11_planPairs_b96 n x0 x2 h) := by
  intro n
  induction n with
  | zero => intro x0 x2 h; exact g_none
  | succ n ih =>
    intro x0 x2 h
    rw [f_X11_planPairs_b96]
    refine g_iload_n 1 dX11_planPairs_96 rfl rfl ?_
    refine g_aload_n 0 dX11_planPairs_97 rfl rfl ?_
    refine g_getR kfl_X11_10 fo_X11_now dX11_planPairs_98 (fun t7 => ?_)
    refine g_getI kfl_X11_177 fo_X5_inside dX11_planPairs_101 (fun t8 => ?_)
    refine g_icmpgt (tgt := 138) dX11_planPairs_104 (by decide) ?_ ?_
    · exact g_return rfl dX11_planPairs_138
    · refine g_iload_n 1 dX11_planPairs_107 rfl rfl ?_
      refine g_aload_n 0 dX11_planPairs_108 rfl rfl ?_
      refine g_getR kfl_X11_10 fo_X11_now dX11_planPairs_109 (fun t9 => ?_)
      refine g_getI kfl_X11_177 fo_X5_inside dX11_planPairs_112 (fun t10 => ?_)
      refine g_iconst (v := (-1)) dX11_planPairs_115 (by decide) ?_
      refine g_ixor dX11_planPairs_116 ?_
      refine g_iand dX11_planPairs_117 ?_
      refine g_ifne (tgt := 132) dX11_planPairs_118 (by decide) ?_ ?_
      · refine g_iinc 1 (v := (x2 + 1)) (ls' := [(2, vI ((x2 + 1))), (0, vR x0)]) dX11_planPairs_132 rfl rfl (Nat.le_of_ble_eq_true rfl) rfl ?_
        refine g_goto (tgt := 96) dX11_planPairs_135 (by decide) ?_
        exact g_sub2 [1, 0] rfl (ih x0 (x2 + 1) h)
      · refine g_aload_n 0 dX11_planPairs_121 rfl rfl ?_
        refine g_getR kfl_X11_42 fo_X11_mostGone dX11_planPairs_122 (fun t11 => ?_)
        refine g_iload_n 1 dX11_planPairs_125 rfl rfl ?_
        refine g_aload_n 0 dX11_planPairs_126 rfl rfl ?_
        refine g_iload_n 1 dX11_planPairs_127 rfl rfl ?_
        refine g_callVI (st := [vI x2, vR t11]) (ci := 11) rfl (s_X11_mostGoneOf hX x0 x2 h) kml_X11_234 kim_X11_mostGoneOf kse_X11_mostGoneOf kii_X11 kcd_X11_mostGoneOf rfl ds_X11_mostGoneOf rfl ⟨Nat.le_of_ble_eq_true rfl, Nat.le_of_ble_eq_true rfl⟩ (Nat.le_of_ble_eq_true rfl) rfl dX11_planPairs_128 (fun r13 h12 => ?_)
        refine g_iastore dX11_planPairs_131 (fun h14 => ?_)
        refine g_iinc 1 (v := (x2 + 1)) (ls' := [(2, vI ((x2 + 1))), (0, vR x0)]) dX11_planPairs_132 rfl rfl (Nat.le_of_ble_eq_true rfl) rfl ?_
        refine g_goto (tgt := 96) dX11_planPairs_135 (by decide) ?_
        exact g_sub2 [1, 0] rfl (ih x0 (x2 + 1) h14)
def f_X11_planPairs_b38 (k7 : Option Nat → Int32 → Int32 → AH → Option (Unit × AH)) : Nat → Option Nat → Int32 → Int32 → Int32 → AH → Option (Unit × AH)
  | 0 => fun _ _ _ _ _ => none
  | n + 1 => fun x0 x1 x2 x3 h =>
    (gR h x0 [11] 0).bind fun t18 =>
    (gI h t18 [5] 5).bind fun t19 =>
    (if t19 ≤ x3 then
    k7 x0 x1 (x2 + 1) h
    else (gR h x0 [11] 6).bind fun t20 =>
    bd (cv h x0 11 (f_X11_goneIfLent x0 x2 x3 h)) fun r22 h21 =>
    bd (cv h21 x0 11 (f_X11_goneIfLent x0 x3 x2 h21)) fun r24 h23 =>
    (iS h23 t20 ((x2 * 7) + x3) (mmax r22 r24)).bind fun h27 =>
    f_X11_planPairs_b38 k7 n x0 x1 x2 (x3 + 1) h27)
set_option maxRecDepth 100000 in
set_option maxHeartbeats 4000000 in
theorem s_X11_planPairs_b38 {X : GX} (hX : XOK X) {h0 : AH} (k7 : Option Nat → Int32 → Int32 → AH → Option (Unit × AH)) (hk7 : ∀ (z0 : Option Nat) (z1 : Int32) (z2 : Int32) (h : AH), Gp (p_X11_planPairs X h0) RX11 "planPairs" cX11_planPairs none 7 [(0, vR z0), (1, vI z1), (2, vI z2)] [] h (k7 z0 z1 z2 h)) : ∀ (n : Nat) (x0 : Option Nat) (x1 : Int32) (x2 : Int32) (x3 : Int32) (h : AH), Gp (p_X11_planPairs X h0) RX11 "planPairs" cX11_planPairs none 38 [(0, vR x0), (1, vI x1), (2, vI x2), (3, vI x3)] [] h (f_X11_planPairs_b38 k7 n x0 x1 x2 x3 h) := by
  intro n
  induction n with
  | zero => intro x0 x1 x2 x3 h; exact g_none
  | succ n ih =>
    intro x0 x1 x2 x3 h
    rw [f_X11_planPairs_b38]
    refine g_iload_n 3 dX11_planPairs_38 rfl rfl ?_
    refine g_aload_n 0 dX11_planPairs_39 rfl rfl ?_
    refine g_getR kfl_X11_10 fo_X11_now dX11_planPairs_40 (fun t18 => ?_)
    refine g_getI kfl_X11_134 fo_X5_guests dX11_planPairs_43 (fun t19 => ?_)
    refine g_icmpge (tgt := 81) dX11_planPairs_46 (by decide) ?_ ?_
    · refine g_iinc 2 (v := (x2 + 1)) (ls' := [(2, vI ((x2 + 1))), (0, vR x0), (1, vI x1), (3, vI x3)]) dX11_planPairs_81 rfl rfl (Nat.le_of_ble_eq_true rfl) rfl ?_
      refine g_goto (tgt := 7) dX11_planPairs_84 (by decide) ?_
      exact g_sub2 [1, 2, 0] rfl (hk7 x0 x1 (x2 + 1) h)
    · refine g_aload_n 0 dX11_planPairs_49 rfl rfl ?_
      refine g_getR kfl_X11_38 fo_X11_pairGone dX11_planPairs_50 (fun t20 => ?_)
      refine g_iload_n 2 dX11_planPairs_53 rfl rfl ?_
      refine g_bipush (v := 7) dX11_planPairs_54 (by decide) ?_
      refine g_imul dX11_planPairs_56 ?_
      refine g_iload_n 3 dX11_planPairs_57 rfl rfl ?_
      refine g_iadd dX11_planPairs_58 ?_
      refine g_aload_n 0 dX11_planPairs_59 rfl rfl ?_
      refine g_iload_n 2 dX11_planPairs_60 rfl rfl ?_
      refine g_iload_n 3 dX11_planPairs_61 rfl rfl ?_
      refine g_callVI (st := [vI (((x2 * 7) + x3)), vR t20]) (ci := 11) rfl (s_X11_goneIfLent hX x0 x2 x3 h) kml_X11_225 kim_X11_goneIfLent kse_X11_goneIfLent kii_X11 kcd_X11_goneIfLent rfl ds_X11_goneIfLent rfl ⟨Nat.le_of_ble_eq_true rfl, Nat.le_of_ble_eq_true rfl⟩ (Nat.le_of_ble_eq_true rfl) rfl dX11_planPairs_62 (fun r22 h21 => ?_)
      refine g_aload_n 0 dX11_planPairs_65 rfl rfl ?_
      refine g_iload_n 3 dX11_planPairs_66 rfl rfl ?_
      refine g_iload_n 2 dX11_planPairs_67 rfl rfl ?_
      refine g_callVI (st := [vI r22, vI (((x2 * 7) + x3)), vR t20]) (ci := 11) rfl (s_X11_goneIfLent hX x0 x3 x2 h21) kml_X11_225 kim_X11_goneIfLent kse_X11_goneIfLent kii_X11 kcd_X11_goneIfLent rfl ds_X11_goneIfLent rfl ⟨Nat.le_of_ble_eq_true rfl, Nat.le_of_ble_eq_true rfl⟩ (Nat.le_of_ble_eq_true rfl) rfl dX11_planPairs_68 (fun r24 h23 => ?_)
      refine g_mmax kml_X11_229 kst_mmax kii_Math kcd_mmax ⟨Nat.le_of_ble_eq_true rfl, Nat.le_of_ble_eq_true rfl⟩ (Nat.le_of_ble_eq_true rfl) dX11_planPairs_71 ?_
      refine g_iastore dX11_planPairs_74 (fun h27 => ?_)
      refine g_iinc 3 (v := (x3 + 1)) (ls' := [(3, vI ((x3 + 1))), (0, vR x0), (1, vI x1), (2, vI x2)]) dX11_planPairs_75 rfl rfl (Nat.le_of_ble_eq_true rfl) rfl ?_
      refine g_goto (tgt := 38) dX11_planPairs_78 (by decide) ?_
      exact g_sub2 [1, 2, 3, 0] rfl (ih x0 x1 x2 (x3 + 1) h27)
def f_X11_planPairs_b7 : Nat → Option Nat → Int32 → Int32 → AH → Option (Unit × AH)
  | 0 => fun _ _ _ _ => none
  | n + 1 => fun x0 x1 x2 h =>
    (gR h x0 [11] 0).bind fun t3 =>
    (gI h t3 [5] 5).bind fun t4 =>
    (if t4 ≤ x2 then
    (gR h x0 [11] 7).bind fun t5 =>
    (iS h t5 0 0).bind fun h6 =>
    f_X11_planPairs_b96 FU x0 1 h6
    else (gR h x0 [11] 6).bind fun t15 =>
    (iS h t15 ((x2 * 7) + x2) ((x1 >>> (x2 &&& 31)) &&& 1)).bind fun h16 =>
    nm (x2 + 1) fun t17 =>
    f_X11_planPairs_b38 (f_X11_planPairs_b7 n) FU x0 x1 x2 t17 h16)
set_option maxRecDepth 100000 in
set_option maxHeartbeats 4000000 in
theorem s_X11_planPairs_b7 {X : GX} (hX : XOK X) {h0 : AH} : ∀ (n : Nat) (x0 : Option Nat) (x1 : Int32) (x2 : Int32) (h : AH), Gp (p_X11_planPairs X h0) RX11 "planPairs" cX11_planPairs none 7 [(0, vR x0), (1, vI x1), (2, vI x2)] [] h (f_X11_planPairs_b7 n x0 x1 x2 h) := by
  intro n
  induction n with
  | zero => intro x0 x1 x2 h; exact g_none
  | succ n ih =>
    intro x0 x1 x2 h
    rw [f_X11_planPairs_b7]
    refine g_iload_n 2 dX11_planPairs_7 rfl rfl ?_
    refine g_aload_n 0 dX11_planPairs_8 rfl rfl ?_
    refine g_getR kfl_X11_10 fo_X11_now dX11_planPairs_9 (fun t3 => ?_)
    refine g_getI kfl_X11_134 fo_X5_guests dX11_planPairs_12 (fun t4 => ?_)
    refine g_icmpge (tgt := 87) dX11_planPairs_15 (by decide) ?_ ?_
    · refine g_aload_n 0 dX11_planPairs_87 rfl rfl ?_
      refine g_getR kfl_X11_42 fo_X11_mostGone dX11_planPairs_88 (fun t5 => ?_)
      refine g_iconst (v := 0) dX11_planPairs_91 (by decide) ?_
      refine g_iconst (v := 0) dX11_planPairs_92 (by decide) ?_
      refine g_iastore dX11_planPairs_93 (fun h6 => ?_)
      refine g_iconst (v := 1) dX11_planPairs_94 (by decide) ?_
      refine g_istore_n (ls' := [(2, vI 1), (0, vR x0), (1, vI x1)]) dX11_planPairs_95 rfl (Nat.le_of_ble_eq_true rfl) rfl ?_
      exact g_sub2 [1, 0] rfl (s_X11_planPairs_b96 hX FU x0 1 h6)
    · refine g_aload_n 0 dX11_planPairs_18 rfl rfl ?_
      refine g_getR kfl_X11_38 fo_X11_pairGone dX11_planPairs_19 (fun t15 => ?_)
      refine g_iload_n 2 dX11_planPairs_22 rfl rfl ?_
      refine g_bipush (v := 7) dX11_planPairs_23 (by decide) ?_
      refine g_imul dX11_planPairs_25 ?_
      refine g_iload_n 2 dX11_planPairs_26 rfl rfl ?_
      refine g_iadd dX11_planPairs_27 ?_
      refine g_iload_n 1 dX11_planPairs_28 rfl rfl ?_
      refine g_iload_n 2 dX11_planPairs_29 rfl rfl ?_
      refine g_ishr dX11_planPairs_30 ?_
      refine g_iconst (v := 1) dX11_planPairs_31 (by decide) ?_
      refine g_iand dX11_planPairs_32 ?_
      refine g_iastore dX11_planPairs_33 (fun h16 => ?_)
      refine g_iload_n 2 dX11_planPairs_34 rfl rfl ?_
      refine g_iconst (v := 1) dX11_planPairs_35 (by decide) ?_
      refine g_iadd dX11_planPairs_36 ?_
      refine g_nmI (fun t17 => ?_)
      refine g_istore_n (ls' := [(3, vI t17), (0, vR x0), (1, vI x1), (2, vI x2)]) dX11_planPairs_37 rfl (Nat.le_of_ble_eq_true rfl) rfl ?_
      exact g_sub2 [1, 2, 3, 0] rfl (s_X11_planPairs_b38 hX (f_X11_planPairs_b7 n) (fun z0 z1 z2 z3 => ih z0 z1 z2 z3) FU x0 x1 x2 t17 h16)
def f_X11_planPairs (v0 : Option Nat) (h : AH) : Option (Unit × AH) :=
    bd (cv h v0 11 (f_X11_goneNextDay v0 h)) fun r2 h1 =>
    f_X11_planPairs_b7 FU v0 r2 0 h1
set_option maxRecDepth 100000 in
set_option maxHeartbeats 4000000 in
theorem s_X11_planPairs {X : GX} (hX : XOK X) (v0 : Option Nat) (h : AH) : Snd X yX11_planPairs cX11_planPairs 4 none 5 108 rU [vR v0] h (f_X11_planPairs v0 h) := by
  refine snd_of hX (by decide +kernel) (Nat.le_of_ble_eq_true rfl) ?_
  show Gp (p_X11_planPairs X h) RX11 "planPairs" cX11_planPairs none 0 [(0, vR v0)] [] h _
  unfold f_X11_planPairs
  refine g_aload_n 0 dX11_planPairs_0 rfl rfl ?_
  refine g_callVI (st := []) (ci := 11) rfl (s_X11_goneNextDay hX v0 h) kml_X11_219 kim_X11_goneNextDay kse_X11_goneNextDay kii_X11 kcd_X11_goneNextDay rfl ds_X11_goneNextDay rfl ⟨Nat.le_of_ble_eq_true rfl, Nat.le_of_ble_eq_true rfl⟩ (Nat.le_of_ble_eq_true rfl) rfl dX11_planPairs_1 (fun r2 h1 => ?_)
  refine g_istore_n (ls' := [(1, vI r2), (0, vR v0)]) dX11_planPairs_4 rfl (Nat.le_of_ble_eq_true rfl) rfl ?_
  refine g_iconst (v := 0) dX11_planPairs_5 (by decide) ?_
  refine g_istore_n (ls' := [(2, vI 0), (1, vI r2), (0, vR v0)]) dX11_planPairs_6 rfl (Nat.le_of_ble_eq_true rfl) rfl ?_
  exact g_sub2 [2, 1, 0] rfl (s_X11_planPairs_b7 hX FU v0 r2 0 h1)
abbrev p_X11_partnerOfLowest (X : GX) (h0 : AH) : PX Int32 := (X, (fun x => Sum.inl (rI x)), (1, 23, 5), h0)
def f_X11_partnerOfLowest_b18 : Nat → Option Nat → Int32 → Int32 → Int32 → Int32 → AH → Option (Int32 × AH)
  | 0 => fun _ _ _ _ _ _ => none
  | n + 1 => fun x0 x1 x2 x3 x4 h =>
    (if 7 ≤ x4 then
    some ((-4), h)
    else bd (cv h x0 11 (f_X11_canPair x0 x2 x4 x3 h)) fun r6 h5 =>
    (if r6 = 0 then
    f_X11_partnerOfLowest_b18 n x0 x1 x2 x3 (x4 + 1) h5
    else bd (cv h5 x0 11 (f_X11_goneWithPair x0 x2 x4 x3 h5)) fun r8 h7 =>
    (gR h7 x0 [11] 7).bind fun t9 =>
    (iA h7 t9 x1).bind fun t10 =>
    (if r8 = t10 then
    some (x4, h7)
    else f_X11_partnerOfLowest_b18 n x0 x1 x2 x3 (x4 + 1) h7)))
set_option maxRecDepth 100000 in
set_option maxHeartbeats 4000000 in
theorem s_X11_partnerOfLowest_b18 {X : GX} (hX : XOK X) {h0 : AH} : ∀ (n : Nat) (x0 : Option Nat) (x1 : Int32) (x2 : Int32) (x3 : Int32) (x4 : Int32) (h : AH), Gp (p_X11_partnerOfLowest X h0) RX11 "partnerOfLowest" cX11_partnerOfLowest (some .int) 18 [(0, vR x0), (1, vI x1), (2, vI x2), (3, vI x3), (4, vI x4)] [] h (f_X11_partnerOfLowest_b18 n x0 x1 x2 x3 x4 h) := by
  intro n
  induction n with
  | zero => intro x0 x1 x2 x3 x4 h; exact g_none
  | succ n ih =>
    intro x0 x1 x2 x3 x4 h
    rw [f_X11_partnerOfLowest_b18]
    refine g_iload 4 dX11_partnerOfLowest_18 rfl ?_
    refine g_bipush (v := 7) dX11_partnerOfLowest_20 (by decide) ?_
    refine g_icmpge (tgt := 62) dX11_partnerOfLowest_22 (by decide) ?_ ?_
    · refine g_bipush (v := (-4)) dX11_partnerOfLowest_62 (by decide) ?_
      exact g_ireturn rfl dX11_partnerOfLowest_64
    · refine g_aload_n 0 dX11_partnerOfLowest_25 rfl rfl ?_
      refine g_iload_n 2 dX11_partnerOfLowest_26 rfl rfl ?_
      refine g_iload 4 dX11_partnerOfLowest_27 rfl ?_
      refine g_iload_n 3 dX11_partnerOfLowest_29 rfl rfl ?_
      refine g_callVI (st := []) (ci := 11) rfl (s_X11_canPair hX x0 x2 x4 x3 h) kml_X11_237 kim_X11_canPair kse_X11_canPair kii_X11 kcd_X11_canPair rfl ds_X11_canPair rfl ⟨Nat.le_of_ble_eq_true rfl, Nat.le_of_ble_eq_true rfl⟩ (Nat.le_of_ble_eq_true rfl) rfl dX11_partnerOfLowest_30 (fun r6 h5 => ?_)
      refine g_ifeq (tgt := 56) dX11_partnerOfLowest_33 (by decide) ?_ ?_
      · refine g_iinc 4 (v := (x4 + 1)) (ls' := [(4, vI ((x4 + 1))), (0, vR x0), (1, vI x1), (2, vI x2), (3, vI x3)]) dX11_partnerOfLowest_56 rfl rfl (Nat.le_of_ble_eq_true rfl) rfl ?_
        refine g_goto (tgt := 18) dX11_partnerOfLowest_59 (by decide) ?_
        exact g_sub2 [1, 2, 3, 4, 0] rfl (ih x0 x1 x2 x3 (x4 + 1) h5)
      · refine g_aload_n 0 dX11_partnerOfLowest_36 rfl rfl ?_
        refine g_iload_n 2 dX11_partnerOfLowest_37 rfl rfl ?_
        refine g_iload 4 dX11_partnerOfLowest_38 rfl ?_
        refine g_iload_n 3 dX11_partnerOfLowest_40 rfl rfl ?_
        refine g_callVI (st := []) (ci := 11) rfl (s_X11_goneWithPair hX x0 x2 x4 x3 h5) kml_X11_240 kim_X11_goneWithPair kse_X11_goneWithPair kii_X11 kcd_X11_goneWithPair rfl ds_X11_goneWithPair rfl ⟨Nat.le_of_ble_eq_true rfl, Nat.le_of_ble_eq_true rfl⟩ (Nat.le_of_ble_eq_true rfl) rfl dX11_partnerOfLowest_41 (fun r8 h7 => ?_)
        refine g_aload_n 0 dX11_partnerOfLowest_44 rfl rfl ?_
        refine g_getR kfl_X11_42 fo_X11_mostGone dX11_partnerOfLowest_45 (fun t9 => ?_)
        refine g_iload_n 1 dX11_partnerOfLowest_48 rfl rfl ?_
        refine g_iaload dX11_partnerOfLowest_49 (fun t10 => ?_)
        refine g_icmpne (tgt := 56) dX11_partnerOfLowest_50 (by decide) ?_ ?_
        · refine g_iinc 4 (v := (x4 + 1)) (ls' := [(4, vI ((x4 + 1))), (0, vR x0), (1, vI x1), (2, vI x2), (3, vI x3)]) dX11_partnerOfLowest_56 rfl rfl (Nat.le_of_ble_eq_true rfl) rfl ?_
          refine g_goto (tgt := 18) dX11_partnerOfLowest_59 (by decide) ?_
          exact g_sub2 [1, 2, 3, 4, 0] rfl (ih x0 x1 x2 x3 (x4 + 1) h7)
        · refine g_iload 4 dX11_partnerOfLowest_53 rfl ?_
          exact g_ireturn rfl dX11_partnerOfLowest_55
def f_X11_partnerOfLowest (v0 : Option Nat) (v1 : Int32) (h : AH) : Option (Int32 × AH) :=
    bd (f_X11_lowestOf v1 h) fun r2 h1 =>
    nm (v1 &&& (((1 : Int32) <<< (r2 &&& 31)) ^^^ (-1))) fun t3 =>
    nm (r2 + 1) fun t4 =>
    f_X11_partnerOfLowest_b18 FU v0 v1 r2 t3 t4 h1
set_option maxRecDepth 100000 in
set_option maxHeartbeats 4000000 in
theorem s_X11_partnerOfLowest {X : GX} (hX : XOK X) (v0 : Option Nat) (v1 : Int32) (h : AH) : Snd X yX11_partnerOfLowest cX11_partnerOfLowest 5 (some .int) 1 23 rI [vR v0, vI v1] h (f_X11_partnerOfLowest v0 v1 h) := by
  refine snd_of hX (by decide +kernel) (Nat.le_of_ble_eq_true rfl) ?_
  show Gp (p_X11_partnerOfLowest X h) RX11 "partnerOfLowest" cX11_partnerOfLowest (some .int) 0 [(0, vR v0), (1, vI v1)] [] h _
  unfold f_X11_partnerOfLowest
  refine g_iload_n 1 dX11_partnerOfLowest_0 rfl rfl ?_
  refine g_callSI (st := []) (s_X11_lowestOf hX v1 h) kml_X11_198 kst_X11_lowestOf kii_X11 kcd_X11_lowestOf ds_X11_lowestOf rfl ⟨Nat.le_of_ble_eq_true rfl, Nat.le_of_ble_eq_true rfl⟩ (Nat.le_of_ble_eq_true rfl) rfl dX11_partnerOfLowest_1 (fun r2 h1 => ?_)
  refine g_istore_n (ls' := [(2, vI r2), (0, vR v0), (1, vI v1)]) dX11_partnerOfLowest_4 rfl (Nat.le_of_ble_eq_true rfl) rfl ?_
  refine g_iload_n 2 dX11_partnerOfLowest_5 rfl rfl ?_
  refine g_iconst (v := 1) dX11_partnerOfLowest_6 (by decide) ?_
  refine g_iload_n 0 dX11_partnerOfLowest_7 rfl rfl ?_
  refine g_ishl dX11_partnerOfLowest_8 ?_
  refine g_iconst (v := (-1)) dX11_partnerOfLowest_9 (by decide) ?_
  refine g_ixor dX11_partnerOfLowest_10 ?_
  refine g_iand dX11_partnerOfLowest_11 ?_
  refine g_nmI (fun t3 => ?_)
  refine g_istore_n (ls' := [(3, vI t3), (2, vI r2), (0, vR v0), (1, vI v1)]) dX11_partnerOfLowest_12 rfl (Nat.le_of_ble_eq_true rfl) rfl ?_
  refine g_iload_n 1 dX11_partnerOfLowest_13 rfl rfl ?_
  refine g_iconst (v := 1) dX11_partnerOfLowest_14 (by decide) ?_
  refine g_iadd dX11_partnerOfLowest_15 ?_
  refine g_nmI (fun t4 => ?_)
  refine g_istore (ls' := [(4, vI t4), (3, vI t3), (2, vI r2), (0, vR v0), (1, vI v1)]) dX11_partnerOfLowest_16 (Nat.le_of_ble_eq_true rfl) rfl ?_
  exact g_sub2 [3, 4, 2, 1, 0] rfl (s_X11_partnerOfLowest_b18 hX FU v0 v1 r2 t3 t4 h1)
abbrev p_X11_partnerOf (X : GX) (h0 : AH) : PX Int32 := (X, (fun x => Sum.inl (rI x)), (2, 47, 6), h0)
def f_X11_partnerOf_b10 : Nat → Option Nat → Int32 → Int32 → Int32 → AH → Option (Int32 × AH)
  | 0 => fun _ _ _ _ _ => none
  | n + 1 => fun x0 x1 x2 x3 h =>
    (if 7 ≤ x3 then
    some ((-4), h)
    else (if x2 = 0 then
    some ((-4), h)
    else bd (f_X11_lowestOf x2 h) fun r4 h3 =>
    bd (cv h3 x0 11 (f_X11_partnerOfLowest x0 x2 h3)) fun r6 h5 =>
    (if r4 = x1 then
    some (r6, h5)
    else (if r6 = x1 then
    some (r4, h5)
    else nm (x2 &&& (((1 : Int32) <<< (r4 &&& 31)) ^^^ (-1))) fun t7 =>
    (if r6 < 0 then
    f_X11_partnerOf_b10 n x0 x1 t7 (x3 + 1) h5
    else nm (t7 &&& (((1 : Int32) <<< (r6 &&& 31)) ^^^ (-1))) fun t8 =>
    f_X11_partnerOf_b10 n x0 x1 t8 (x3 + 1) h5)))))
set_option maxRecDepth 100000 in
set_option maxHeartbeats 4000000 in
theorem s_X11_partnerOf_b10 {X : GX} (hX : XOK X) {h0 : AH} : ∀ (n : Nat) (x0 : Option Nat) (x1 : Int32) (x2 : Int32) (x3 : Int32) (h : AH), Gp (p_X11_partnerOf X h0) RX11 "partnerOf" cX11_partnerOf (some .int) 10 [(0, vR x0), (1, vI x1), (2, vI x2), (3, vI x3)] [] h (f_X11_partnerOf_b10 n x0 x1 x2 x3 h) := by
  intro n
  induction n with
  | zero => intro x0 x1 x2 x3 h; exact g_none
  | succ n ih =>
    intro x0 x1 x2 x3 h
    rw [f_X11_partnerOf_b10]
    refine g_iload_n 3 dX11_partnerOf_10 rfl rfl ?_
    refine g_bipush (v := 7) dX11_partnerOf_11 (by decide) ?_
    refine g_icmpge (tgt := 80) dX11_partnerOf_13 (by decide) ?_ ?_
    · refine g_bipush (v := (-4)) dX11_partnerOf_80 (by decide) ?_
      exact g_ireturn rfl dX11_partnerOf_82
    · refine g_iload_n 2 dX11_partnerOf_16 rfl rfl ?_
      refine g_ifeq (tgt := 80) dX11_partnerOf_17 (by decide) ?_ ?_
      · refine g_bipush (v := (-4)) dX11_partnerOf_80 (by decide) ?_
        exact g_ireturn rfl dX11_partnerOf_82
      · refine g_iload_n 2 dX11_partnerOf_20 rfl rfl ?_
        refine g_callSI (st := []) (s_X11_lowestOf hX x2 h) kml_X11_198 kst_X11_lowestOf kii_X11 kcd_X11_lowestOf ds_X11_lowestOf rfl ⟨Nat.le_of_ble_eq_true rfl, Nat.le_of_ble_eq_true rfl⟩ (Nat.le_of_ble_eq_true rfl) rfl dX11_partnerOf_21 (fun r4 h3 => ?_)
        refine g_istore (ls' := [(4, vI r4), (0, vR x0), (1, vI x1), (2, vI x2), (3, vI x3)]) dX11_partnerOf_24 (Nat.le_of_ble_eq_true rfl) rfl ?_
        refine g_aload_n 1 dX11_partnerOf_26 rfl rfl ?_
        refine g_iload_n 3 dX11_partnerOf_27 rfl rfl ?_
        refine g_callVI (st := []) (ci := 11) rfl (s_X11_partnerOfLowest hX x0 x2 h3) kml_X11_244 kim_X11_partnerOfLowest kse_X11_partnerOfLowest kii_X11 kcd_X11_partnerOfLowest rfl ds_X11_partnerOfLowest rfl ⟨Nat.le_of_ble_eq_true rfl, Nat.le_of_ble_eq_true rfl⟩ (Nat.le_of_ble_eq_true rfl) rfl dX11_partnerOf_28 (fun r6 h5 => ?_)
        refine g_istore (ls' := [(5, vI r6), (4, vI r4), (0, vR x0), (1, vI x1), (2, vI x2), (3, vI x3)]) dX11_partnerOf_31 (Nat.le_of_ble_eq_true rfl) rfl ?_
        refine g_iload 1 dX11_partnerOf_33 rfl ?_
        refine g_iload_n 3 dX11_partnerOf_35 rfl rfl ?_
        refine g_icmpne (tgt := 42) dX11_partnerOf_36 (by decide) ?_ ?_
        · refine g_iload 0 dX11_partnerOf_42 rfl ?_
          refine g_iload_n 3 dX11_partnerOf_44 rfl rfl ?_
          refine g_icmpne (tgt := 51) dX11_partnerOf_45 (by decide) ?_ ?_
          · refine g_iload_n 4 dX11_partnerOf_51 rfl rfl ?_
            refine g_iconst (v := 1) dX11_partnerOf_52 (by decide) ?_
            refine g_iload 1 dX11_partnerOf_53 rfl ?_
            refine g_ishl dX11_partnerOf_55 ?_
            refine g_iconst (v := (-1)) dX11_partnerOf_56 (by decide) ?_
            refine g_ixor dX11_partnerOf_57 ?_
            refine g_iand dX11_partnerOf_58 ?_
            refine g_nmI (fun t7 => ?_)
            refine g_istore_n (ls' := [(2, vI t7), (5, vI r6), (4, vI r4), (0, vR x0), (1, vI x1), (3, vI x3)]) dX11_partnerOf_59 rfl (Nat.le_of_ble_eq_true rfl) rfl ?_
            refine g_iload 1 dX11_partnerOf_60 rfl ?_
            refine g_iflt (tgt := 74) dX11_partnerOf_62 (by decide) ?_ ?_
            · refine g_iinc 5 (v := (x3 + 1)) (ls' := [(3, vI ((x3 + 1))), (2, vI t7), (5, vI r6), (4, vI r4), (0, vR x0), (1, vI x1)]) dX11_partnerOf_74 rfl rfl (Nat.le_of_ble_eq_true rfl) rfl ?_
              refine g_goto (tgt := 10) dX11_partnerOf_77 (by decide) ?_
              exact g_sub2 [4, 5, 1, 0] rfl (ih x0 x1 t7 (x3 + 1) h5)
            · refine g_iload_n 0 dX11_partnerOf_65 rfl rfl ?_
              refine g_iconst (v := 1) dX11_partnerOf_66 (by decide) ?_
              refine g_iload 1 dX11_partnerOf_67 rfl ?_
              refine g_ishl dX11_partnerOf_69 ?_
              refine g_iconst (v := (-1)) dX11_partnerOf_70 (by decide) ?_
              refine g_ixor dX11_partnerOf_71 ?_
              refine g_iand dX11_partnerOf_72 ?_
              refine g_nmI (fun t8 => ?_)
              refine g_istore_n (ls' := [(2, vI t8), (5, vI r6), (4, vI r4), (0, vR x0), (1, vI x1), (3, vI x3)]) dX11_partnerOf_73 rfl (Nat.le_of_ble_eq_true rfl) rfl ?_
              refine g_iinc 5 (v := (x3 + 1)) (ls' := [(3, vI ((x3 + 1))), (2, vI t8), (5, vI r6), (4, vI r4), (0, vR x0), (1, vI x1)]) dX11_partnerOf_74 rfl rfl (Nat.le_of_ble_eq_true rfl) rfl ?_
              refine g_goto (tgt := 10) dX11_partnerOf_77 (by decide) ?_
              exact g_sub2 [4, 5, 1, 0] rfl (ih x0 x1 t8 (x3 + 1) h5)
          · refine g_iload 1 dX11_partnerOf_48 rfl ?_
            exact g_ireturn rfl dX11_partnerOf_50
        · refine g_iload 0 dX11_partnerOf_39 rfl ?_
          exact g_ireturn rfl dX11_partnerOf_41
def f_X11_partnerOf (v0 : Option Nat) (v1 : Int32) (h : AH) : Option (Int32 × AH) :=
    (gR h v0 [11] 0).bind fun t1 =>
    (gI h t1 [5] 6).bind fun t2 =>
    f_X11_partnerOf_b10 FU v0 v1 t2 0 h
set_option maxRecDepth 100000 in
set_option maxHeartbeats 4000000 in
theorem s_X11_partnerOf {X : GX} (hX : XOK X) (v0 : Option Nat) (v1 : Int32) (h : AH) : Snd X yX11_partnerOf cX11_partnerOf 6 (some .int) 2 47 rI [vR v0, vI v1] h (f_X11_partnerOf v0 v1 h) := by
  refine snd_of hX (by decide +kernel) (Nat.le_of_ble_eq_true rfl) ?_
  show Gp (p_X11_partnerOf X h) RX11 "partnerOf" cX11_partnerOf (some .int) 0 [(0, vR v0), (1, vI v1)] [] h _
  unfold f_X11_partnerOf
  refine g_aload_n 0 dX11_partnerOf_0 rfl rfl ?_
  refine g_getR kfl_X11_10 fo_X11_now dX11_partnerOf_1 (fun t1 => ?_)
  refine g_getI kfl_X11_177 fo_X5_inside dX11_partnerOf_4 (fun t2 => ?_)
  refine g_istore_n (ls' := [(2, vI t2), (0, vR v0), (1, vI v1)]) dX11_partnerOf_7 rfl (Nat.le_of_ble_eq_true rfl) rfl ?_
  refine g_iconst (v := 0) dX11_partnerOf_8 (by decide) ?_
  refine g_istore_n (ls' := [(3, vI 0), (2, vI t2), (0, vR v0), (1, vI v1)]) dX11_partnerOf_9 rfl (Nat.le_of_ble_eq_true rfl) rfl ?_
  exact g_sub2 [2, 3, 1, 0] rfl (s_X11_partnerOf_b10 hX FU v0 v1 t2 0 h)
abbrev p_X11_pairs (X : GX) (h0 : AH) : PX Int32 := (X, (fun x => Sum.inl (rI x)), (6, 131, 2), h0)
def f_X11_pairs_b18 (x0 : Option Nat) (x1 : Int32) (h : AH) : Option (Int32 × AH) :=
    bd (cv h x0 11 (f_X11_planPairs x0 h)) fun u2 h1 =>
    (if x1 = (-1) then
    (gR h1 x0 [11] 7).bind fun t5 =>
    (gR h1 x0 [11] 0).bind fun t6 =>
    (gI h1 t6 [5] 6).bind fun t7 =>
    (iA h1 t5 t7).bind fun t8 =>
    some (t8, h1)
    else bd (cv h1 x0 11 (f_X11_partnerOf x0 x1 h1)) fun r4 h3 =>
    some (r4, h3))
set_option maxRecDepth 100000 in
set_option maxHeartbeats 4000000 in
theorem s_X11_pairs_b18 {X : GX} (hX : XOK X) {h0 : AH} : ∀ (x0 : Option Nat) (x1 : Int32) (h : AH), Gp (p_X11_pairs X h0) RX11 "pairs" cX11_pairs (some .int) 18 [(0, vR x0), (1, vI x1)] [] h (f_X11_pairs_b18 x0 x1 h) := by
  intro x0 x1 h
  unfold f_X11_pairs_b18
  refine g_aload_n 0 dX11_pairs_18 rfl rfl ?_
  refine g_callVU (st := []) (ci := 11) rfl (s_X11_planPairs hX x0 h) kml_X11_204 kim_X11_planPairs kse_X11_planPairs kii_X11 kcd_X11_planPairs rfl ds_X11_planPairs rfl ⟨Nat.le_of_ble_eq_true rfl, Nat.le_of_ble_eq_true rfl⟩ (Nat.le_of_ble_eq_true rfl) rfl dX11_pairs_19 (fun u2 h1 => ?_)
  refine g_iload_n 1 dX11_pairs_22 rfl rfl ?_
  refine g_iconst (v := (-1)) dX11_pairs_23 (by decide) ?_
  refine g_icmpne (tgt := 42) dX11_pairs_24 (by decide) ?_ ?_
  · refine g_aload_n 0 dX11_pairs_42 rfl rfl ?_
    refine g_iload_n 1 dX11_pairs_43 rfl rfl ?_
    refine g_callVI (st := []) (ci := 11) rfl (s_X11_partnerOf hX x0 x1 h1) kml_X11_207 kim_X11_partnerOf kse_X11_partnerOf kii_X11 kcd_X11_partnerOf rfl ds_X11_partnerOf rfl ⟨Nat.le_of_ble_eq_true rfl, Nat.le_of_ble_eq_true rfl⟩ (Nat.le_of_ble_eq_true rfl) rfl dX11_pairs_44 (fun r4 h3 => ?_)
    exact g_ireturn rfl dX11_pairs_47
  · refine g_aload_n 0 dX11_pairs_27 rfl rfl ?_
    refine g_getR kfl_X11_42 fo_X11_mostGone dX11_pairs_28 (fun t5 => ?_)
    refine g_aload_n 0 dX11_pairs_31 rfl rfl ?_
    refine g_getR kfl_X11_10 fo_X11_now dX11_pairs_32 (fun t6 => ?_)
    refine g_getI kfl_X11_177 fo_X5_inside dX11_pairs_35 (fun t7 => ?_)
    refine g_iaload dX11_pairs_38 (fun t8 => ?_)
    refine g_goto (tgt := 47) dX11_pairs_39 (by decide) ?_
    exact g_ireturn rfl dX11_pairs_47
def f_X11_pairs (v0 : Option Nat) (v1 : Int32) (h : AH) : Option (Int32 × AH) :=
    (if v1 = (-1) then
    f_X11_pairs_b18 v0 v1 h
    else (gR h v0 [11] 0).bind fun t9 =>
    bd (cv h t9 5 (f_X5_knows t9 v1 h)) fun r11 h10 =>
    (if r11 = 0 then
    some ((-1), h10)
    else f_X11_pairs_b18 v0 v1 h10))
set_option maxRecDepth 100000 in
set_option maxHeartbeats 4000000 in
theorem s_X11_pairs {X : GX} (hX : XOK X) (v0 : Option Nat) (v1 : Int32) (h : AH) : Snd X yX11_pairs cX11_pairs 2 (some .int) 6 131 rI [vR v0, vI v1] h (f_X11_pairs v0 v1 h) := by
  refine snd_of hX (by decide +kernel) (Nat.le_of_ble_eq_true rfl) ?_
  show Gp (p_X11_pairs X h) RX11 "pairs" cX11_pairs (some .int) 0 [(0, vR v0), (1, vI v1)] [] h _
  unfold f_X11_pairs
  refine g_iload_n 1 dX11_pairs_0 rfl rfl ?_
  refine g_iconst (v := (-1)) dX11_pairs_1 (by decide) ?_
  refine g_icmpeq (tgt := 18) dX11_pairs_2 (by decide) ?_ ?_
  · exact g_sub2 [0, 1] rfl (s_X11_pairs_b18 hX v0 v1 h)
  · refine g_aload_n 0 dX11_pairs_5 rfl rfl ?_
    refine g_getR kfl_X11_10 fo_X11_now dX11_pairs_6 (fun t9 => ?_)
    refine g_iload_n 1 dX11_pairs_9 rfl rfl ?_
    refine g_callVI (st := []) (ci := 5) rfl (s_X5_knows hX t9 v1 h) kml_X11_84 kim_X5_knows kse_X5_knows kii_X5 kcd_X5_knows rfl ds_X5_knows rfl ⟨Nat.le_of_ble_eq_true rfl, Nat.le_of_ble_eq_true rfl⟩ (Nat.le_of_ble_eq_true rfl) rfl dX11_pairs_10 (fun r11 h10 => ?_)
    refine g_ifne (tgt := 18) dX11_pairs_13 (by decide) ?_ ?_
    · exact g_sub2 [0, 1] rfl (s_X11_pairs_b18 hX v0 v1 h10)
    · refine g_iconst (v := (-1)) dX11_pairs_16 (by decide) ?_
      exact g_ireturn rfl dX11_pairs_17
abbrev p_X7_lowestBits (X : GX) (h0 : AH) : PX Int32 := (X, (fun x => Sum.inl (rI x)), (0, 0, 2), h0)
def f_X7_lowestBits (v0 : Option Nat) (v1 : Int32) (h : AH) : Option (Int32 × AH) :=
    (gI h v0 [7] 0).bind fun t1 =>
    (if t1 = 0 then
    some ((Int8.toInt32 (Int32.toInt8 v1)), h)
    else (if t1 = 1 then
    some ((Int16.toInt32 (Int32.toInt16 v1)), h)
    else some (v1, h)))
set_option maxRecDepth 100000 in
set_option maxHeartbeats 4000000 in
theorem s_X7_lowestBits {X : GX} (hX : XOK X) (v0 : Option Nat) (v1 : Int32) (h : AH) : Snd X yX7_lowestBits cX7_lowestBits 2 (some .int) 0 0 rI [vR v0, vI v1] h (f_X7_lowestBits v0 v1 h) := by
  refine snd_of hX (by decide +kernel) (Nat.le_of_ble_eq_true rfl) ?_
  show Gp (p_X7_lowestBits X h) RX7 "lowestBits" cX7_lowestBits (some .int) 0 [(0, vR v0), (1, vI v1)] [] h _
  unfold f_X7_lowestBits
  refine g_aload_n 0 dX7_lowestBits_0 rfl rfl ?_
  refine g_getI kfl_X7_9 fo_X7_sort dX7_lowestBits_1 (fun t1 => ?_)
  refine g_lsIn (c := 0) (off := 28) (tgt := 32) dX7_lowestBits_4 (by decide) (by decide) (by decide) ?_ (fun n2 => ?_)
  · refine g_iload_n 1 dX7_lowestBits_32 rfl rfl ?_
    refine g_i2b dX7_lowestBits_33 ?_
    exact g_ireturn rfl dX7_lowestBits_34
  refine g_lsIn (c := 1) (off := 31) (tgt := 35) dX7_lowestBits_4 (by decide) (by decide) (by decide) ?_ (fun n3 => ?_)
  · refine g_iload_n 1 dX7_lowestBits_35 rfl rfl ?_
    refine g_i2s dX7_lowestBits_36 ?_
    exact g_ireturn rfl dX7_lowestBits_37
  refine g_lsOut (tgt := 38) dX7_lowestBits_4 (by decide) (by show Op.lookupswitch.offset [(0, 28), (1, 31)] _ _ = _; rw [lv_osw n2 (by decide), lv_osw n3 (by decide)]; rfl) (by decide) ?_
  refine g_iload_n 1 dX7_lowestBits_38 rfl rfl ?_
  exact g_ireturn rfl dX7_lowestBits_39
abbrev p_X7_set (X : GX) (h0 : AH) : PX Unit := (X, (fun x => Sum.inl (rU x)), (1, 21, 3), h0)
def f_X7_set (v0 : Option Nat) (v1 : Int32) (v2 : Int32) (h : AH) : Option (Unit × AH) :=
    bd (cv h v0 7 (f_X7_hasPlace v0 v1 h)) fun r2 h1 =>
    (if r2 = 0 then
    some ((), h1)
    else (gR h1 v0 [7] 1).bind fun t3 =>
    bd (cv h1 v0 7 (f_X7_lowestBits v0 v2 h1)) fun r5 h4 =>
    (iS h4 t3 v1 r5).bind fun h6 =>
    some ((), h6))
set_option maxRecDepth 100000 in
set_option maxHeartbeats 4000000 in
theorem s_X7_set {X : GX} (hX : XOK X) (v0 : Option Nat) (v1 : Int32) (v2 : Int32) (h : AH) : Snd X yX7_set cX7_set 3 none 1 21 rU [vR v0, vI v1, vI v2] h (f_X7_set v0 v1 v2 h) := by
  refine snd_of hX (by decide +kernel) (Nat.le_of_ble_eq_true rfl) ?_
  show Gp (p_X7_set X h) RX7 "set" cX7_set none 0 [(0, vR v0), (1, vI v1), (2, vI v2)] [] h _
  unfold f_X7_set
  refine g_aload_n 0 dX7_set_0 rfl rfl ?_
  refine g_iload_n 1 dX7_set_1 rfl rfl ?_
  refine g_callVI (st := []) (ci := 7) rfl (s_X7_hasPlace hX v0 v1 h) kml_X7_25 kim_X7_hasPlace kse_X7_hasPlace kii_X7 kcd_X7_hasPlace rfl ds_X7_hasPlace rfl ⟨Nat.le_of_ble_eq_true rfl, Nat.le_of_ble_eq_true rfl⟩ (Nat.le_of_ble_eq_true rfl) rfl dX7_set_2 (fun r2 h1 => ?_)
  refine g_ifeq (tgt := 19) dX7_set_5 (by decide) ?_ ?_
  · exact g_return rfl dX7_set_19
  · refine g_aload_n 0 dX7_set_8 rfl rfl ?_
    refine g_getR kfl_X7_21 fo_X7_elements dX7_set_9 (fun t3 => ?_)
    refine g_iload_n 1 dX7_set_12 rfl rfl ?_
    refine g_aload_n 0 dX7_set_13 rfl rfl ?_
    refine g_iload_n 2 dX7_set_14 rfl rfl ?_
    refine g_callVI (st := [vI v1, vR t3]) (ci := 7) rfl (s_X7_lowestBits hX v0 v2 h1) kml_X7_29 kim_X7_lowestBits kse_X7_lowestBits kii_X7 kcd_X7_lowestBits rfl ds_X7_lowestBits rfl ⟨Nat.le_of_ble_eq_true rfl, Nat.le_of_ble_eq_true rfl⟩ (Nat.le_of_ble_eq_true rfl) rfl dX7_set_15 (fun r5 h4 => ?_)
    refine g_iastore dX7_set_18 (fun h6 => ?_)
    exact g_return rfl dX7_set_19
abbrev p_X11_put (X : GX) (h0 : AH) : PX Int32 := (X, (fun x => Sum.inl (rI x)), (3, 62, 5), h0)
def f_X11_put (v0 : Option Nat) (v1 : Int32) (v2 : Int32) (v3 : Int32) (h : AH) : Option (Int32 × AH) :=
    bd (cv h v0 11 (f_X11_rowOn v0 v1 h)) fun r2 h1 =>
    (if r2 = none then
    bd (cv h1 v0 11 (f_X11_whyNoRow v0 v1 h1)) fun r8 h7 =>
    some (r8, h7)
    else bd (cv h1 r2 7 (f_X7_hasPlace r2 v2 h1)) fun r4 h3 =>
    (if r4 = 0 then
    some ((-13), h3)
    else bd (cv h3 r2 7 (f_X7_set r2 v2 v3 h3)) fun u6 h5 =>
    some (0, h5)))
set_option maxRecDepth 100000 in
set_option maxHeartbeats 4000000 in
theorem s_X11_put {X : GX} (hX : XOK X) (v0 : Option Nat) (v1 : Int32) (v2 : Int32) (v3 : Int32) (h : AH) : Snd X yX11_put cX11_put 5 (some .int) 3 62 rI [vR v0, vI v1, vI v2, vI v3] h (f_X11_put v0 v1 v2 v3 h) := by
  refine snd_of hX (by decide +kernel) (Nat.le_of_ble_eq_true rfl) ?_
  show Gp (p_X11_put X h) RX11 "put" cX11_put (some .int) 0 [(0, vR v0), (1, vI v1), (2, vI v2), (3, vI v3)] [] h _
  unfold f_X11_put
  refine g_aload_n 0 dX11_put_0 rfl rfl ?_
  refine g_iload_n 1 dX11_put_1 rfl rfl ?_
  refine g_callVR (st := []) (ci := 11) rfl (s_X11_rowOn hX v0 v1 h) kml_X11_49 kim_X11_rowOn kse_X11_rowOn kii_X11 kcd_X11_rowOn rfl ds_X11_rowOn rfl ⟨Nat.le_of_ble_eq_true rfl, Nat.le_of_ble_eq_true rfl⟩ (Nat.le_of_ble_eq_true rfl) rfl dX11_put_2 (fun r2 h1 => ?_)
  refine g_astore (ls' := [(4, vR r2), (0, vR v0), (1, vI v1), (2, vI v2), (3, vI v3)]) dX11_put_5 (Nat.le_of_ble_eq_true rfl) rfl ?_
  refine g_aload 0 dX11_put_7 rfl ?_
  refine g_ifnonnull (tgt := 18) dX11_put_9 (by decide) ?_ ?_
  · refine g_aload 0 dX11_put_18 rfl ?_
    refine g_iload_n 3 dX11_put_20 rfl rfl ?_
    refine g_callVI (st := []) (ci := 7) rfl (s_X7_hasPlace hX r2 v2 h1) kml_X11_320 kim_X7_hasPlace kse_X7_hasPlace kii_X7 kcd_X7_hasPlace rfl ds_X7_hasPlace rfl ⟨Nat.le_of_ble_eq_true rfl, Nat.le_of_ble_eq_true rfl⟩ (Nat.le_of_ble_eq_true rfl) rfl dX11_put_21 (fun r4 h3 => ?_)
    refine g_ifne (tgt := 30) dX11_put_24 (by decide) ?_ ?_
    · refine g_aload 0 dX11_put_30 rfl ?_
      refine g_iload_n 3 dX11_put_32 rfl rfl ?_
      refine g_iload_n 4 dX11_put_33 rfl rfl ?_
      refine g_callVU (st := []) (ci := 7) rfl (s_X7_set hX r2 v2 v3 h3) kml_X11_323 kim_X7_set kse_X7_set kii_X7 kcd_X7_set rfl ds_X7_set rfl ⟨Nat.le_of_ble_eq_true rfl, Nat.le_of_ble_eq_true rfl⟩ (Nat.le_of_ble_eq_true rfl) rfl dX11_put_34 (fun u6 h5 => ?_)
      refine g_iconst (v := 0) dX11_put_37 (by decide) ?_
      exact g_ireturn rfl dX11_put_38
    · refine g_bipush (v := (-13)) dX11_put_27 (by decide) ?_
      exact g_ireturn rfl dX11_put_29
  · refine g_aload_n 1 dX11_put_12 rfl rfl ?_
    refine g_iload_n 2 dX11_put_13 rfl rfl ?_
    refine g_callVI (st := []) (ci := 11) rfl (s_X11_whyNoRow hX v0 v1 h1) kml_X11_53 kim_X11_whyNoRow kse_X11_whyNoRow kii_X11 kcd_X11_whyNoRow rfl ds_X11_whyNoRow rfl ⟨Nat.le_of_ble_eq_true rfl, Nat.le_of_ble_eq_true rfl⟩ (Nat.le_of_ble_eq_true rfl) rfl dX11_put_14 (fun r8 h7 => ?_)
    exact g_ireturn rfl dX11_put_17
abbrev p_X11_restore (X : GX) (h0 : AH) : PX Int32 := (X, (fun x => Sum.inl (rI x)), (1, 22, 1), h0)
def f_X11_restore (v0 : Option Nat) (h : AH) : Option (Int32 × AH) :=
    (gI h v0 [11] 3).bind fun t1 =>
    (if t1 = 0 then
    some ((-3), h)
    else (gR h v0 [11] 0).bind fun t2 =>
    (gR h v0 [11] 2).bind fun t3 =>
    bd (cv h t2 5 (f_X5_becomes t2 t3 h)) fun u5 h4 =>
    (gR h4 v0 [11] 0).bind fun t6 =>
    (gI h4 t6 [5] 10).bind fun t7 =>
    some (t7, h4))
set_option maxRecDepth 100000 in
set_option maxHeartbeats 4000000 in
theorem s_X11_restore {X : GX} (hX : XOK X) (v0 : Option Nat) (h : AH) : Snd X yX11_restore cX11_restore 1 (some .int) 1 22 rI [vR v0] h (f_X11_restore v0 h) := by
  refine snd_of hX (by decide +kernel) (Nat.le_of_ble_eq_true rfl) ?_
  show Gp (p_X11_restore X h) RX11 "restore" cX11_restore (some .int) 0 [(0, vR v0)] [] h _
  unfold f_X11_restore
  refine g_aload_n 0 dX11_restore_0 rfl rfl ?_
  refine g_getI kfl_X11_22 fo_X11_imageTaken dX11_restore_1 (fun t1 => ?_)
  refine g_ifne (tgt := 10) dX11_restore_4 (by decide) ?_ ?_
  · refine g_aload_n 0 dX11_restore_10 rfl rfl ?_
    refine g_getR kfl_X11_10 fo_X11_now dX11_restore_11 (fun t2 => ?_)
    refine g_aload_n 0 dX11_restore_14 rfl rfl ?_
    refine g_getR kfl_X11_19 fo_X11_kept dX11_restore_15 (fun t3 => ?_)
    refine g_callVU (st := []) (ci := 5) rfl (s_X5_becomes hX t2 t3 h) kml_X11_70 kim_X5_becomes kse_X5_becomes kii_X5 kcd_X5_becomes rfl ds_X5_becomes rfl ⟨Nat.le_of_ble_eq_true rfl, Nat.le_of_ble_eq_true rfl⟩ (Nat.le_of_ble_eq_true rfl) rfl dX11_restore_18 (fun u5 h4 => ?_)
    refine g_aload_n 0 dX11_restore_21 rfl rfl ?_
    refine g_getR kfl_X11_10 fo_X11_now dX11_restore_22 (fun t6 => ?_)
    refine g_getI kfl_X11_165 fo_X5_day dX11_restore_25 (fun t7 => ?_)
    exact g_ireturn rfl dX11_restore_28
  · refine g_bipush (v := (-3)) dX11_restore_7 (by decide) ?_
    exact g_ireturn rfl dX11_restore_9
abbrev p_X7_init (X : GX) (h0 : AH) : PX Unit := (X, (fun x => Sum.inl (rU x)), (1, 21, 3), h0)
def f_X7_init (v0 : Option Nat) (v1 : Int32) (v2 : Int32) (h : AH) : Option (Unit × AH) :=
    (if v0 = none then none else (pI h v0 [7] 0 v1).bind fun h3 =>
    bd (nA h3 0 (mmax 0 v2)) fun a6 h7 =>
    (pR h7 v0 [7] 1 a6).bind fun h8 =>
    some ((), h8))
set_option maxRecDepth 100000 in
set_option maxHeartbeats 4000000 in
theorem s_X7_init {X : GX} (hX : XOK X) (v0 : Option Nat) (v1 : Int32) (v2 : Int32) (h : AH) : Snd X yX7_init cX7_init 3 none 1 21 rU [vR v0, vI v1, vI v2] h (f_X7_init v0 v1 v2 h) := by
  refine snd_of hX (by decide +kernel) (Nat.le_of_ble_eq_true rfl) ?_
  show Gp (p_X7_init X h) RX7 "<init>" cX7_init none 0 [(0, vR v0), (1, vI v1), (2, vI v2)] [] h _
  unfold f_X7_init
  refine g_aload_n 0 dX7_init_0 rfl rfl ?_
  refine g_objInit kml_X7_3 kio kco ⟨Nat.le_of_ble_eq_true rfl, Nat.le_of_ble_eq_true rfl⟩ (Nat.le_of_ble_eq_true rfl) dX7_init_1 ?_
  refine g_aload_n 0 dX7_init_4 rfl rfl ?_
  refine g_iload_n 1 dX7_init_5 rfl rfl ?_
  refine g_putIF kfl_X7_9 fo_X7_sort fw_X7_0 pd_I nI'.1 nI'.2 dX7_init_6 (fun h3 => ?_)
  refine g_aload_n 0 dX7_init_9 rfl rfl ?_
  refine g_iconst (v := 0) dX7_init_10 (by decide) ?_
  refine g_iload_n 2 dX7_init_11 rfl rfl ?_
  refine g_mmax kml_X7_15 kst_mmax kii_Math kcd_mmax ⟨Nat.le_of_ble_eq_true rfl, Nat.le_of_ble_eq_true rfl⟩ (Nat.le_of_ble_eq_true rfl) dX7_init_12 ?_
  refine g_newarrayI kac_int dX7_init_15 (fun a6 h7 => ?_)
  refine g_putRF kfl_X7_21 fo_X7_elements fw_X7_1 pd__I nrv.1 nrv.2 dX7_init_17 (fun h8 => ?_)
  exact g_return rfl dX7_init_20
abbrev p_X11_row (X : GX) (h0 : AH) : PX Int32 := (X, (fun x => Sum.inl (rI x)), (2, 43, 4), h0)
def f_X11_row (v0 : Option Nat) (v1 : Int32) (v2 : Int32) (v3 : Int32) (h : AH) : Option (Int32 × AH) :=
    bd (f_X11_isShelf v1 h) fun r2 h1 =>
    (if r2 = 0 then
    some ((-1), h1)
    else (if v2 < 0 then
    some ((-1), h1)
    else (if 2 < v2 then
    some ((-1), h1)
    else (if v3 ≤ 100 then
    (if 0 ≤ v3 then
    (gR h1 v0 [11] 4).bind fun t3 =>
    (rS h1 t3 2 GF v1 none).bind fun h4 =>
    (gR h4 v0 [11] 5).bind fun t5 =>
    bd (nO h4 7 2) fun a6 h7 =>
    bd (nn a6 (f_X7_init a6 v2 v3 h7)) fun u9 h8 =>
    (rS h8 t5 3 [7] v1 a6).bind fun h10 =>
    some (0, h10)
    else some ((-14), h1))
    else some ((-1), h1)))))
set_option maxRecDepth 100000 in
set_option maxHeartbeats 4000000 in
theorem s_X11_row {X : GX} (hX : XOK X) (v0 : Option Nat) (v1 : Int32) (v2 : Int32) (v3 : Int32) (h : AH) : Snd X yX11_row cX11_row 4 (some .int) 2 43 rI [vR v0, vI v1, vI v2, vI v3] h (f_X11_row v0 v1 v2 v3 h) := by
  refine snd_of hX (by decide +kernel) (Nat.le_of_ble_eq_true rfl) ?_
  show Gp (p_X11_row X h) RX11 "row" cX11_row (some .int) 0 [(0, vR v0), (1, vI v1), (2, vI v2), (3, vI v3)] [] h _
  unfold f_X11_row
  refine g_iload_n 1 dX11_row_0 rfl rfl ?_
  refine g_callSI (st := []) (s_X11_isShelf hX v1 h) kml_X11_45 kst_X11_isShelf kii_X11 kcd_X11_isShelf ds_X11_isShelf rfl ⟨Nat.le_of_ble_eq_true rfl, Nat.le_of_ble_eq_true rfl⟩ (Nat.le_of_ble_eq_true rfl) rfl dX11_row_1 (fun r2 h1 => ?_)
  refine g_ifeq (tgt := 22) dX11_row_4 (by decide) ?_ ?_
  · refine g_iconst (v := (-1)) dX11_row_22 (by decide) ?_
    exact g_ireturn rfl dX11_row_23
  · refine g_iload_n 2 dX11_row_7 rfl rfl ?_
    refine g_iflt (tgt := 22) dX11_row_8 (by decide) ?_ ?_
    · refine g_iconst (v := (-1)) dX11_row_22 (by decide) ?_
      exact g_ireturn rfl dX11_row_23
    · refine g_iload_n 2 dX11_row_11 rfl rfl ?_
      refine g_iconst (v := 2) dX11_row_12 (by decide) ?_
      refine g_icmpgt (tgt := 22) dX11_row_13 (by decide) ?_ ?_
      · refine g_iconst (v := (-1)) dX11_row_22 (by decide) ?_
        exact g_ireturn rfl dX11_row_23
      · refine g_iload_n 3 dX11_row_16 rfl rfl ?_
        refine g_bipush (v := 100) dX11_row_17 (by decide) ?_
        refine g_icmple (tgt := 24) dX11_row_19 (by decide) ?_ ?_
        · refine g_iload_n 3 dX11_row_24 rfl rfl ?_
          refine g_ifge (tgt := 31) dX11_row_25 (by decide) ?_ ?_
          · refine g_aload_n 0 dX11_row_31 rfl rfl ?_
            refine g_getR kfl_X11_28 fo_X11_kindsHeld dX11_row_32 (fun t3 => ?_)
            refine g_iload_n 1 dX11_row_35 rfl rfl ?_
            refine g_null dX11_row_36 ?_
            refine g_aastore (kd := 2) (by decide) (by decide) asgG dX11_row_37 (fun h4 => ?_)
            refine g_aload_n 0 dX11_row_38 rfl rfl ?_
            refine g_getR kfl_X11_34 fo_X11_rowsHeld dX11_row_39 (fun t5 => ?_)
            refine g_iload_n 1 dX11_row_42 rfl rfl ?_
            refine g_new clX7 kcl_X11_32 kin_X7 kii_X7 dX11_row_43 (fun a6 h7 => ?_)
            refine g_dup dX11_row_46 rfl ?_
            refine g_iload_n 2 dX11_row_47 rfl rfl ?_
            refine g_iload_n 3 dX11_row_48 rfl rfl ?_
            refine g_callI2 (st := [vR a6, vI v1, vR t5]) (s_X7_init hX a6 v2 v3 h7) kml_X11_318 kim_X7_init kii_X7 kcd_X7_init rfl ds_X7_init rfl ⟨Nat.le_of_ble_eq_true rfl, Nat.le_of_ble_eq_true rfl⟩ (Nat.le_of_ble_eq_true rfl) rfl dX11_row_49 (fun u9 h8 => ?_)
            refine g_aastore (kd := 3) (by decide) (by decide) asgR dX11_row_52 (fun h10 => ?_)
            refine g_iconst (v := 0) dX11_row_53 (by decide) ?_
            exact g_ireturn rfl dX11_row_54
          · refine g_bipush (v := (-14)) dX11_row_28 (by decide) ?_
            exact g_ireturn rfl dX11_row_30
        · refine g_iconst (v := (-1)) dX11_row_22 (by decide) ?_
          exact g_ireturn rfl dX11_row_23
abbrev p_X11_seasons (X : GX) (h0 : AH) : PX Int32 := (X, (fun x => Sum.inl (rI x)), (5, 108, 9), h0)
def f_X11_seasons_b54 (k34 : Option Nat → Int32 → Int32 → Int32 → Int32 → Int32 → Int32 → AH → Option (Int32 × AH)) : Nat → Option Nat → Int32 → Int32 → Int32 → Int32 → Int32 → Int32 → Int32 → AH → Option (Int32 × AH)
  | 0 => fun _ _ _ _ _ _ _ _ _ => none
  | n + 1 => fun x0 x1 x3 x4 x5 x6 x7 x8 h =>
    (gR h x0 [11] 0).bind fun t5 =>
    (gI h t5 [5] 5).bind fun t6 =>
    (if t6 ≤ x8 then
    (gR h x0 [11] 1).bind fun t7 =>
    bd (cv h t7 5 (f_X5_passDays t7 9 h)) fun u9 h8 =>
    (gR h8 x0 [11] 1).bind fun t10 =>
    (gI h8 t10 [5] 9).bind fun t11 =>
    (gR h8 x0 [11] 0).bind fun t12 =>
    (gI h8 t12 [5] 9).bind fun t13 =>
    nm (x5 + (t11 - t13)) fun t14 =>
    (gR h8 x0 [11] 1).bind fun t15 =>
    (gI h8 t15 [5] 6).bind fun t16 =>
    bd (f_J6_bitCount_0f7a4 t16 h8) fun r18 h17 =>
    nm (x6 + r18) fun t19 =>
    k34 x0 x1 x3 x4 t14 t19 (x7 + 1) h17
    else (gR h x0 [11] 0).bind fun t20 =>
    bd (cv h t20 5 (f_X5_isIn t20 x8 h)) fun r22 h21 =>
    (if r22 = 0 then
    f_X11_seasons_b54 k34 n x0 x1 x3 x4 x5 x6 x7 (x8 + 1) h21
    else bd (f_X11_nextSeed x4 h21) fun r24 h23 =>
    (gR h23 x0 [11] 1).bind fun t25 =>
    (gR h23 t25 [5] 1).bind fun t26 =>
    bd (f_X11_drawBelow 100 r24 h23) fun r28 h27 =>
    (iS h27 t26 x8 r28).bind fun h29 =>
    f_X11_seasons_b54 k34 n x0 x1 x3 r24 x5 x6 x7 (x8 + 1) h29))
set_option maxRecDepth 100000 in
set_option maxHeartbeats 4000000 in
theorem s_X11_seasons_b54 {X : GX} (hX : XOK X) {h0 : AH} (k34 : Option Nat → Int32 → Int32 → Int32 → Int32 → Int32 → Int32 → AH → Option (Int32 × AH)) (hk34 : ∀ (z0 : Option Nat) (z1 : Int32) (z2 : Int32) (z3 : Int32) (z4 : Int32) (z5 : Int32) (z6 : Int32) (h : AH), Gp (p_X11_seasons X h0) RX11 "seasons" cX11_seasons (some .int) 34 [(0, vR z0), (1, vI z1), (3, vI z2), (4, vI z3), (5, vI z4), (6, vI z5), (7, vI z6)] [] h (k34 z0 z1 z2 z3 z4 z5 z6 h)) : ∀ (n : Nat) (x0 : Option Nat) (x1 : Int32) (x3 : Int32) (x4 : Int32) (x5 : Int32) (x6 : Int32) (x7 : Int32) (x8 : Int32) (h : AH), Gp (p_X11_seasons X h0) RX11 "seasons" cX11_seasons (some .int) 54 [(0, vR x0), (1, vI x1), (3, vI x3), (4, vI x4), (5, vI x5), (6, vI x6), (7, vI x7), (8, vI x8)] [] h (f_X11_seasons_b54 k34 n x0 x1 x3 x4 x5 x6 x7 x8 h) := by
  intro n
  induction n with
  | zero => intro x0 x1 x3 x4 x5 x6 x7 x8 h; exact g_none
  | succ n ih =>
    intro x0 x1 x3 x4 x5 x6 x7 x8 h
    rw [f_X11_seasons_b54]
    refine g_iload 7 dX11_seasons_54 rfl ?_
    refine g_aload_n 0 dX11_seasons_56 rfl rfl ?_
    refine g_getR kfl_X11_10 fo_X11_now dX11_seasons_57 (fun t5 => ?_)
    refine g_getI kfl_X11_134 fo_X5_guests dX11_seasons_60 (fun t6 => ?_)
    refine g_icmpge (tgt := 108) dX11_seasons_63 (by decide) ?_ ?_
    · refine g_aload_n 0 dX11_seasons_108 rfl rfl ?_
      refine g_getR kfl_X11_16 fo_X11_mind dX11_seasons_109 (fun t7 => ?_)
      refine g_bipush (v := 9) dX11_seasons_112 (by decide) ?_
      refine g_callVU (st := []) (ci := 5) rfl (s_X5_passDays hX t7 9 h) kml_X11_168 kim_X5_passDays kse_X5_passDays kii_X5 kcd_X5_passDays rfl ds_X5_passDays rfl ⟨Nat.le_of_ble_eq_true rfl, Nat.le_of_ble_eq_true rfl⟩ (Nat.le_of_ble_eq_true rfl) rfl dX11_seasons_114 (fun u9 h8 => ?_)
      refine g_iload 4 dX11_seasons_117 rfl ?_
      refine g_aload_n 0 dX11_seasons_119 rfl rfl ?_
      refine g_getR kfl_X11_16 fo_X11_mind dX11_seasons_120 (fun t10 => ?_)
      refine g_getI kfl_X11_171 fo_X5_relief dX11_seasons_123 (fun t11 => ?_)
      refine g_aload_n 0 dX11_seasons_126 rfl rfl ?_
      refine g_getR kfl_X11_10 fo_X11_now dX11_seasons_127 (fun t12 => ?_)
      refine g_getI kfl_X11_171 fo_X5_relief dX11_seasons_130 (fun t13 => ?_)
      refine g_isub dX11_seasons_133 ?_
      refine g_iadd dX11_seasons_134 ?_
      refine g_nmI (fun t14 => ?_)
      refine g_istore (ls' := [(5, vI t14), (0, vR x0), (1, vI x1), (3, vI x3), (4, vI x4), (6, vI x6), (7, vI x7), (8, vI x8)]) dX11_seasons_135 (Nat.le_of_ble_eq_true rfl) rfl ?_
      refine g_iload 5 dX11_seasons_137 rfl ?_
      refine g_aload_n 1 dX11_seasons_139 rfl rfl ?_
      refine g_getR kfl_X11_16 fo_X11_mind dX11_seasons_140 (fun t15 => ?_)
      refine g_getI kfl_X11_177 fo_X5_inside dX11_seasons_143 (fun t16 => ?_)
      refine g_callSI (st := [vI x6]) (s_J6_bitCount_0f7a4 hX t16 h8) kml_X11_269 kst_J6_bitCount_0f7a4 kii_J6 kcd_J6_bitCount_0f7a4 ds_J6_bitCount_0f7a4 rfl ⟨Nat.le_of_ble_eq_true rfl, Nat.le_of_ble_eq_true rfl⟩ (Nat.le_of_ble_eq_true rfl) rfl dX11_seasons_146 (fun r18 h17 => ?_)
      refine g_iadd dX11_seasons_149 ?_
      refine g_nmI (fun t19 => ?_)
      refine g_istore (ls' := [(6, vI t19), (5, vI t14), (0, vR x0), (1, vI x1), (3, vI x3), (4, vI x4), (7, vI x7), (8, vI x8)]) dX11_seasons_150 (Nat.le_of_ble_eq_true rfl) rfl ?_
      refine g_iinc 6 (v := (x7 + 1)) (ls' := [(7, vI ((x7 + 1))), (6, vI t19), (5, vI t14), (0, vR x0), (1, vI x1), (3, vI x3), (4, vI x4), (8, vI x8)]) dX11_seasons_152 rfl rfl (Nat.le_of_ble_eq_true rfl) rfl ?_
      refine g_goto (tgt := 34) dX11_seasons_155 (by decide) ?_
      exact g_sub2 [3, 4, 5, 6, 2, 1, 0] rfl (hk34 x0 x1 x3 x4 t14 t19 (x7 + 1) h17)
    · refine g_aload_n 0 dX11_seasons_66 rfl rfl ?_
      refine g_getR kfl_X11_10 fo_X11_now dX11_seasons_67 (fun t20 => ?_)
      refine g_iload 7 dX11_seasons_70 rfl ?_
      refine g_callVI (st := []) (ci := 5) rfl (s_X5_isIn hX t20 x8 h) kml_X11_107 kim_X5_isIn kse_X5_isIn kii_X5 kcd_X5_isIn rfl ds_X5_isIn rfl ⟨Nat.le_of_ble_eq_true rfl, Nat.le_of_ble_eq_true rfl⟩ (Nat.le_of_ble_eq_true rfl) rfl dX11_seasons_72 (fun r22 h21 => ?_)
      refine g_ifeq (tgt := 102) dX11_seasons_75 (by decide) ?_ ?_
      · refine g_iinc 7 (v := (x8 + 1)) (ls' := [(8, vI ((x8 + 1))), (0, vR x0), (1, vI x1), (3, vI x3), (4, vI x4), (5, vI x5), (6, vI x6), (7, vI x7)]) dX11_seasons_102 rfl rfl (Nat.le_of_ble_eq_true rfl) rfl ?_
        refine g_goto (tgt := 54) dX11_seasons_105 (by decide) ?_
        exact g_sub2 [1, 2, 3, 4, 5, 6, 7, 0] rfl (ih x0 x1 x3 x4 x5 x6 x7 (x8 + 1) h21)
      · refine g_iload 3 dX11_seasons_78 rfl ?_
        refine g_callSI (st := []) (s_X11_nextSeed hX x4 h21) kml_X11_309 kst_X11_nextSeed kii_X11 kcd_X11_nextSeed ds_X11_nextSeed rfl ⟨Nat.le_of_ble_eq_true rfl, Nat.le_of_ble_eq_true rfl⟩ (Nat.le_of_ble_eq_true rfl) rfl dX11_seasons_80 (fun r24 h23 => ?_)
        refine g_istore (ls' := [(4, vI r24), (0, vR x0), (1, vI x1), (3, vI x3), (5, vI x5), (6, vI x6), (7, vI x7), (8, vI x8)]) dX11_seasons_83 (Nat.le_of_ble_eq_true rfl) rfl ?_
        refine g_aload_n 1 dX11_seasons_85 rfl rfl ?_
        refine g_getR kfl_X11_16 fo_X11_mind dX11_seasons_86 (fun t25 => ?_)
        refine g_getR kfl_X11_95 fo_X5_weight dX11_seasons_89 (fun t26 => ?_)
        refine g_iload 7 dX11_seasons_92 rfl ?_
        refine g_bipush (v := 100) dX11_seasons_94 (by decide) ?_
        refine g_iload 0 dX11_seasons_96 rfl ?_
        refine g_callSI (st := [vI x8, vR t26]) (s_X11_drawBelow hX 100 r24 h23) kml_X11_312 kst_X11_drawBelow kii_X11 kcd_X11_drawBelow ds_X11_drawBelow rfl ⟨Nat.le_of_ble_eq_true rfl, Nat.le_of_ble_eq_true rfl⟩ (Nat.le_of_ble_eq_true rfl) rfl dX11_seasons_98 (fun r28 h27 => ?_)
        refine g_iastore dX11_seasons_101 (fun h29 => ?_)
        refine g_iinc 7 (v := (x8 + 1)) (ls' := [(8, vI ((x8 + 1))), (4, vI r24), (0, vR x0), (1, vI x1), (3, vI x3), (5, vI x5), (6, vI x6), (7, vI x7)]) dX11_seasons_102 rfl rfl (Nat.le_of_ble_eq_true rfl) rfl ?_
        refine g_goto (tgt := 54) dX11_seasons_105 (by decide) ?_
        exact g_sub2 [2, 3, 4, 1, 5, 6, 7, 0] rfl (ih x0 x1 x3 r24 x5 x6 x7 (x8 + 1) h29)
def f_X11_seasons_b34 : Nat → Option Nat → Int32 → Int32 → Int32 → Int32 → Int32 → Int32 → AH → Option (Int32 × AH)
  | 0 => fun _ _ _ _ _ _ _ _ => none
  | n + 1 => fun x0 x1 x3 x4 x5 x6 x7 h =>
    (if x1 ≤ x7 then
    (if x3 = 0 then
    some (x5, h)
    else some (x6, h))
    else (gR h x0 [11] 1).bind fun t1 =>
    (gR h x0 [11] 0).bind fun t2 =>
    bd (cv h t1 5 (f_X5_becomes t1 t2 h)) fun u4 h3 =>
    f_X11_seasons_b54 (f_X11_seasons_b34 n) FU x0 x1 x3 x4 x5 x6 x7 0 h3)
set_option maxRecDepth 100000 in
set_option maxHeartbeats 4000000 in
theorem s_X11_seasons_b34 {X : GX} (hX : XOK X) {h0 : AH} : ∀ (n : Nat) (x0 : Option Nat) (x1 : Int32) (x3 : Int32) (x4 : Int32) (x5 : Int32) (x6 : Int32) (x7 : Int32) (h : AH), Gp (p_X11_seasons X h0) RX11 "seasons" cX11_seasons (some .int) 34 [(0, vR x0), (1, vI x1), (3, vI x3), (4, vI x4), (5, vI x5), (6, vI x6), (7, vI x7)] [] h (f_X11_seasons_b34 n x0 x1 x3 x4 x5 x6 x7 h) := by
  intro n
  induction n with
  | zero => intro x0 x1 x3 x4 x5 x6 x7 h; exact g_none
  | succ n ih =>
    intro x0 x1 x3 x4 x5 x6 x7 h
    rw [f_X11_seasons_b34]
    refine g_iload 6 dX11_seasons_34 rfl ?_
    refine g_iload_n 1 dX11_seasons_36 rfl rfl ?_
    refine g_icmpge (tgt := 158) dX11_seasons_37 (by decide) ?_ ?_
    · refine g_iload_n 2 dX11_seasons_158 rfl rfl ?_
      refine g_ifne (tgt := 167) dX11_seasons_159 (by decide) ?_ ?_
      · refine g_iload 5 dX11_seasons_167 rfl ?_
        exact g_ireturn rfl dX11_seasons_169
      · refine g_iload 4 dX11_seasons_162 rfl ?_
        refine g_goto (tgt := 169) dX11_seasons_164 (by decide) ?_
        exact g_ireturn rfl dX11_seasons_169
    · refine g_aload_n 0 dX11_seasons_40 rfl rfl ?_
      refine g_getR kfl_X11_16 fo_X11_mind dX11_seasons_41 (fun t1 => ?_)
      refine g_aload_n 0 dX11_seasons_44 rfl rfl ?_
      refine g_getR kfl_X11_10 fo_X11_now dX11_seasons_45 (fun t2 => ?_)
      refine g_callVU (st := []) (ci := 5) rfl (s_X5_becomes hX t1 t2 h) kml_X11_70 kim_X5_becomes kse_X5_becomes kii_X5 kcd_X5_becomes rfl ds_X5_becomes rfl ⟨Nat.le_of_ble_eq_true rfl, Nat.le_of_ble_eq_true rfl⟩ (Nat.le_of_ble_eq_true rfl) rfl dX11_seasons_48 (fun u4 h3 => ?_)
      refine g_iconst (v := 0) dX11_seasons_51 (by decide) ?_
      refine g_istore (ls' := [(8, vI 0), (0, vR x0), (1, vI x1), (3, vI x3), (4, vI x4), (5, vI x5), (6, vI x6), (7, vI x7)]) dX11_seasons_52 (Nat.le_of_ble_eq_true rfl) rfl ?_
      exact g_sub2 [1, 2, 3, 4, 5, 6, 7, 0] rfl (s_X11_seasons_b54 hX (f_X11_seasons_b34 n) (fun z0 z1 z2 z3 z4 z5 z6 z7 => ih z0 z1 z2 z3 z4 z5 z6 z7) FU x0 x1 x3 x4 x5 x6 x7 0 h3)
def f_X11_seasons (v0 : Option Nat) (v1 : Int32) (v2 : Int32) (v3 : Int32) (h : AH) : Option (Int32 × AH) :=
    (if v1 < 1 then
    some ((-1), h)
    else (if 20 < v1 then
    some ((-1), h)
    else (if v3 < 0 then
    some ((-1), h)
    else (if v3 ≤ 1 then
    f_X11_seasons_b34 FU v0 v1 v3 v2 0 0 0 h
    else some ((-1), h)))))
set_option maxRecDepth 100000 in
set_option maxHeartbeats 4000000 in
theorem s_X11_seasons {X : GX} (hX : XOK X) (v0 : Option Nat) (v1 : Int32) (v2 : Int32) (v3 : Int32) (h : AH) : Snd X yX11_seasons cX11_seasons 9 (some .int) 5 108 rI [vR v0, vI v1, vI v2, vI v3] h (f_X11_seasons v0 v1 v2 v3 h) := by
  refine snd_of hX (by decide +kernel) (Nat.le_of_ble_eq_true rfl) ?_
  show Gp (p_X11_seasons X h) RX11 "seasons" cX11_seasons (some .int) 0 [(0, vR v0), (1, vI v1), (2, vI v2), (3, vI v3)] [] h _
  unfold f_X11_seasons
  refine g_iload_n 1 dX11_seasons_0 rfl rfl ?_
  refine g_iconst (v := 1) dX11_seasons_1 (by decide) ?_
  refine g_icmplt (tgt := 20) dX11_seasons_2 (by decide) ?_ ?_
  · refine g_iconst (v := (-1)) dX11_seasons_20 (by decide) ?_
    exact g_ireturn rfl dX11_seasons_21
  · refine g_iload_n 1 dX11_seasons_5 rfl rfl ?_
    refine g_bipush (v := 20) dX11_seasons_6 (by decide) ?_
    refine g_icmpgt (tgt := 20) dX11_seasons_8 (by decide) ?_ ?_
    · refine g_iconst (v := (-1)) dX11_seasons_20 (by decide) ?_
      exact g_ireturn rfl dX11_seasons_21
    · refine g_iload_n 3 dX11_seasons_11 rfl rfl ?_
      refine g_iflt (tgt := 20) dX11_seasons_12 (by decide) ?_ ?_
      · refine g_iconst (v := (-1)) dX11_seasons_20 (by decide) ?_
        exact g_ireturn rfl dX11_seasons_21
      · refine g_iload_n 3 dX11_seasons_15 rfl rfl ?_
        refine g_iconst (v := 1) dX11_seasons_16 (by decide) ?_
        refine g_icmple (tgt := 22) dX11_seasons_17 (by decide) ?_ ?_
        · refine g_iload_n 2 dX11_seasons_22 rfl rfl ?_
          refine g_istore (ls' := [(4, vI v2), (0, vR v0), (1, vI v1), (2, vI v2), (3, vI v3)]) dX11_seasons_23 (Nat.le_of_ble_eq_true rfl) rfl ?_
          refine g_iconst (v := 0) dX11_seasons_25 (by decide) ?_
          refine g_istore (ls' := [(5, vI 0), (4, vI v2), (0, vR v0), (1, vI v1), (2, vI v2), (3, vI v3)]) dX11_seasons_26 (Nat.le_of_ble_eq_true rfl) rfl ?_
          refine g_iconst (v := 0) dX11_seasons_28 (by decide) ?_
          refine g_istore (ls' := [(6, vI 0), (5, vI 0), (4, vI v2), (0, vR v0), (1, vI v1), (2, vI v2), (3, vI v3)]) dX11_seasons_29 (Nat.le_of_ble_eq_true rfl) rfl ?_
          refine g_iconst (v := 0) dX11_seasons_31 (by decide) ?_
          refine g_istore (ls' := [(7, vI 0), (6, vI 0), (5, vI 0), (4, vI v2), (0, vR v0), (1, vI v1), (2, vI v2), (3, vI v3)]) dX11_seasons_32 (Nat.le_of_ble_eq_true rfl) rfl ?_
          exact g_sub2 [4, 5, 7, 3, 2, 1, 0] rfl (s_X11_seasons_b34 hX FU v0 v1 v3 v2 0 0 0 h)
        · refine g_iconst (v := (-1)) dX11_seasons_20 (by decide) ?_
          exact g_ireturn rfl dX11_seasons_21
abbrev p_X11_table (X : GX) (h0 : AH) : PX Int32 := (X, (fun x => Sum.inl (rI x)), (1, 20, 4), h0)
def f_X11_table (v0 : Option Nat) (v1 : Int32) (v2 : Int32) (h : AH) : Option (Int32 × AH) :=
    bd (f_X11_isDigit v1 h) fun r2 h1 =>
    (if r2 = 0 then
    some ((-1), h1)
    else bd (f_X11_isDigit v2 h1) fun r4 h3 =>
    (if r4 = 0 then
    some ((-1), h3)
    else (gR h3 v0 [11] 0).bind fun t5 =>
    (gI h3 t5 [5] 7).bind fun t6 =>
    (gR h3 v0 [11] 0).bind fun t7 =>
    (gI h3 t7 [5] 8).bind fun t8 =>
    nm ((10 * t6) + t8) fun t9 =>
    (gR h3 v0 [11] 0).bind fun t10 =>
    (pI h3 t10 [5] 7 v1).bind fun h11 =>
    (gR h11 v0 [11] 0).bind fun t12 =>
    (pI h11 t12 [5] 8 v2).bind fun h13 =>
    some (t9, h13)))
set_option maxRecDepth 100000 in
set_option maxHeartbeats 4000000 in
theorem s_X11_table {X : GX} (hX : XOK X) (v0 : Option Nat) (v1 : Int32) (v2 : Int32) (h : AH) : Snd X yX11_table cX11_table 4 (some .int) 1 20 rI [vR v0, vI v1, vI v2] h (f_X11_table v0 v1 v2 h) := by
  refine snd_of hX (by decide +kernel) (Nat.le_of_ble_eq_true rfl) ?_
  show Gp (p_X11_table X h) RX11 "table" cX11_table (some .int) 0 [(0, vR v0), (1, vI v1), (2, vI v2)] [] h _
  unfold f_X11_table
  refine g_iload_n 1 dX11_table_0 rfl rfl ?_
  refine g_callSI (st := []) (s_X11_isDigit hX v1 h) kml_X11_156 kst_X11_isDigit kii_X11 kcd_X11_isDigit ds_X11_isDigit rfl ⟨Nat.le_of_ble_eq_true rfl, Nat.le_of_ble_eq_true rfl⟩ (Nat.le_of_ble_eq_true rfl) rfl dX11_table_1 (fun r2 h1 => ?_)
  refine g_ifeq (tgt := 14) dX11_table_4 (by decide) ?_ ?_
  · refine g_iconst (v := (-1)) dX11_table_14 (by decide) ?_
    exact g_ireturn rfl dX11_table_15
  · refine g_iload_n 2 dX11_table_7 rfl rfl ?_
    refine g_callSI (st := []) (s_X11_isDigit hX v2 h1) kml_X11_156 kst_X11_isDigit kii_X11 kcd_X11_isDigit ds_X11_isDigit rfl ⟨Nat.le_of_ble_eq_true rfl, Nat.le_of_ble_eq_true rfl⟩ (Nat.le_of_ble_eq_true rfl) rfl dX11_table_8 (fun r4 h3 => ?_)
    refine g_ifne (tgt := 16) dX11_table_11 (by decide) ?_ ?_
    · refine g_bipush (v := 10) dX11_table_16 (by decide) ?_
      refine g_aload_n 0 dX11_table_18 rfl rfl ?_
      refine g_getR kfl_X11_10 fo_X11_now dX11_table_19 (fun t5 => ?_)
      refine g_getI kfl_X11_159 fo_X5_board dX11_table_22 (fun t6 => ?_)
      refine g_imul dX11_table_25 ?_
      refine g_aload_n 0 dX11_table_26 rfl rfl ?_
      refine g_getR kfl_X11_10 fo_X11_now dX11_table_27 (fun t7 => ?_)
      refine g_getI kfl_X11_162 fo_X5_dance dX11_table_30 (fun t8 => ?_)
      refine g_iadd dX11_table_33 ?_
      refine g_nmI (fun t9 => ?_)
      refine g_istore_n (ls' := [(3, vI t9), (0, vR v0), (1, vI v1), (2, vI v2)]) dX11_table_34 rfl (Nat.le_of_ble_eq_true rfl) rfl ?_
      refine g_aload_n 1 dX11_table_35 rfl rfl ?_
      refine g_getR kfl_X11_10 fo_X11_now dX11_table_36 (fun t10 => ?_)
      refine g_iload_n 2 dX11_table_39 rfl rfl ?_
      refine g_putI kfl_X11_159 fo_X5_board pd_I nI'.1 nI'.2 dX11_table_40 (fun h11 => ?_)
      refine g_aload_n 1 dX11_table_43 rfl rfl ?_
      refine g_getR kfl_X11_10 fo_X11_now dX11_table_44 (fun t12 => ?_)
      refine g_iload_n 3 dX11_table_47 rfl rfl ?_
      refine g_putI kfl_X11_162 fo_X5_dance pd_I nI'.1 nI'.2 dX11_table_48 (fun h13 => ?_)
      refine g_iload_n 0 dX11_table_51 rfl rfl ?_
      exact g_ireturn rfl dX11_table_52
    · refine g_iconst (v := (-1)) dX11_table_14 (by decide) ?_
      exact g_ireturn rfl dX11_table_15
abbrev p_X5_secretsOfAll (X : GX) (h0 : AH) : PX Int32 := (X, (fun x => Sum.inl (rI x)), (1, 21, 3), h0)
def f_X5_secretsOfAll_b31 (k4 : Option Nat → Int32 → Int32 → AH → Option (Int32 × AH)) (x0 : Option Nat) (x2 : Int32) (y1 : Int32) (y0 : Int32) (h : AH) : Option (Int32 × AH) :=
    nm (y0 + y1) fun t4 =>
    k4 x0 t4 (x2 + 1) h
set_option maxRecDepth 100000 in
set_option maxHeartbeats 4000000 in
theorem s_X5_secretsOfAll_b31 {X : GX} (hX : XOK X) {h0 : AH} (k4 : Option Nat → Int32 → Int32 → AH → Option (Int32 × AH)) (hk4 : ∀ (z0 : Option Nat) (z1 : Int32) (z2 : Int32) (h : AH), Gp (p_X5_secretsOfAll X h0) RX5 "secretsOfAll" cX5_secretsOfAll (some .int) 4 [(0, vR z0), (1, vI z1), (2, vI z2)] [] h (k4 z0 z1 z2 h)) : ∀ (x0 : Option Nat) (x2 : Int32) (y1 : Int32) (y0 : Int32) (h : AH), Gp (p_X5_secretsOfAll X h0) RX5 "secretsOfAll" cX5_secretsOfAll (some .int) 31 [(0, vR x0), (2, vI x2)] [vI y1, vI y0] h (f_X5_secretsOfAll_b31 k4 x0 x2 y1 y0 h) := by
  intro x0 x2 y1 y0 h
  unfold f_X5_secretsOfAll_b31
  refine g_iadd dX5_secretsOfAll_31 ?_
  refine g_nmI (fun t4 => ?_)
  refine g_istore_n (ls' := [(1, vI t4), (0, vR x0), (2, vI x2)]) dX5_secretsOfAll_32 rfl (Nat.le_of_ble_eq_true rfl) rfl ?_
  refine g_iinc 2 (v := (x2 + 1)) (ls' := [(2, vI ((x2 + 1))), (1, vI t4), (0, vR x0)]) dX5_secretsOfAll_33 rfl rfl (Nat.le_of_ble_eq_true rfl) rfl ?_
  refine g_goto (tgt := 4) dX5_secretsOfAll_36 (by decide) ?_
  exact g_sub2 [2, 1, 0] rfl (hk4 x0 t4 (x2 + 1) h)
def f_X5_secretsOfAll_b4 : Nat → Option Nat → Int32 → Int32 → AH → Option (Int32 × AH)
  | 0 => fun _ _ _ _ => none
  | n + 1 => fun x0 x1 x2 h =>
    (gI h x0 [5] 5).bind fun t1 =>
    (if t1 ≤ x2 then
    some (x1, h)
    else bd (cv h x0 5 (f_X5_isIn x0 x2 h)) fun r3 h2 =>
    (if r3 = 0 then
    f_X5_secretsOfAll_b31 (f_X5_secretsOfAll_b4 n) x0 x2 0 x1 h2
    else (gR h2 x0 [5] 3).bind fun t5 =>
    (iA h2 t5 x2).bind fun t6 =>
    f_X5_secretsOfAll_b31 (f_X5_secretsOfAll_b4 n) x0 x2 t6 x1 h2))
set_option maxRecDepth 100000 in
set_option maxHeartbeats 4000000 in
theorem s_X5_secretsOfAll_b4 {X : GX} (hX : XOK X) {h0 : AH} : ∀ (n : Nat) (x0 : Option Nat) (x1 : Int32) (x2 : Int32) (h : AH), Gp (p_X5_secretsOfAll X h0) RX5 "secretsOfAll" cX5_secretsOfAll (some .int) 4 [(0, vR x0), (1, vI x1), (2, vI x2)] [] h (f_X5_secretsOfAll_b4 n x0 x1 x2 h) := by
  intro n
  induction n with
  | zero => intro x0 x1 x2 h; exact g_none
  | succ n ih =>
    intro x0 x1 x2 h
    rw [f_X5_secretsOfAll_b4]
    refine g_iload_n 2 dX5_secretsOfAll_4 rfl rfl ?_
    refine g_aload_n 0 dX5_secretsOfAll_5 rfl rfl ?_
    refine g_getI kfl_X5_30 fo_X5_guests dX5_secretsOfAll_6 (fun t1 => ?_)
    refine g_icmpge (tgt := 39) dX5_secretsOfAll_9 (by decide) ?_ ?_
    · refine g_iload_n 1 dX5_secretsOfAll_39 rfl rfl ?_
      exact g_ireturn rfl dX5_secretsOfAll_40
    · refine g_iload_n 1 dX5_secretsOfAll_12 rfl rfl ?_
      refine g_aload_n 0 dX5_secretsOfAll_13 rfl rfl ?_
      refine g_iload_n 2 dX5_secretsOfAll_14 rfl rfl ?_
      refine g_callVI (st := [vI x1]) (ci := 5) rfl (s_X5_isIn hX x0 x2 h) kml_X5_59 kim_X5_isIn kse_X5_isIn kii_X5 kcd_X5_isIn rfl ds_X5_isIn rfl ⟨Nat.le_of_ble_eq_true rfl, Nat.le_of_ble_eq_true rfl⟩ (Nat.le_of_ble_eq_true rfl) rfl dX5_secretsOfAll_15 (fun r3 h2 => ?_)
      refine g_ifeq (tgt := 30) dX5_secretsOfAll_18 (by decide) ?_ ?_
      · refine g_iconst (v := 0) dX5_secretsOfAll_30 (by decide) ?_
        exact g_sub2 [0, 2] rfl (s_X5_secretsOfAll_b31 hX (f_X5_secretsOfAll_b4 n) (fun z0 z1 z2 z3 => ih z0 z1 z2 z3) x0 x2 0 x1 h2)
      · refine g_aload_n 0 dX5_secretsOfAll_21 rfl rfl ?_
        refine g_getR kfl_X5_24 fo_X5_secrets dX5_secretsOfAll_22 (fun t5 => ?_)
        refine g_iload_n 2 dX5_secretsOfAll_25 rfl rfl ?_
        refine g_iaload dX5_secretsOfAll_26 (fun t6 => ?_)
        refine g_goto (tgt := 31) dX5_secretsOfAll_27 (by decide) ?_
        exact g_sub2 [0, 2] rfl (s_X5_secretsOfAll_b31 hX (f_X5_secretsOfAll_b4 n) (fun z0 z1 z2 z3 => ih z0 z1 z2 z3) x0 x2 t6 x1 h2)
def f_X5_secretsOfAll (v0 : Option Nat) (h : AH) : Option (Int32 × AH) :=
    f_X5_secretsOfAll_b4 FU v0 0 0 h
set_option maxRecDepth 100000 in
set_option maxHeartbeats 4000000 in
theorem s_X5_secretsOfAll {X : GX} (hX : XOK X) (v0 : Option Nat) (h : AH) : Snd X yX5_secretsOfAll cX5_secretsOfAll 3 (some .int) 1 21 rI [vR v0] h (f_X5_secretsOfAll v0 h) := by
  refine snd_of hX (by decide +kernel) (Nat.le_of_ble_eq_true rfl) ?_
  show Gp (p_X5_secretsOfAll X h) RX5 "secretsOfAll" cX5_secretsOfAll (some .int) 0 [(0, vR v0)] [] h _
  unfold f_X5_secretsOfAll
  refine g_iconst (v := 0) dX5_secretsOfAll_0 (by decide) ?_
  refine g_istore_n (ls' := [(1, vI 0), (0, vR v0)]) dX5_secretsOfAll_1 rfl (Nat.le_of_ble_eq_true rfl) rfl ?_
  refine g_iconst (v := 0) dX5_secretsOfAll_2 (by decide) ?_
  refine g_istore_n (ls' := [(2, vI 0), (1, vI 0), (0, vR v0)]) dX5_secretsOfAll_3 rfl (Nat.le_of_ble_eq_true rfl) rfl ?_
  exact g_sub2 [2, 1, 0] rfl (s_X5_secretsOfAll_b4 hX FU v0 0 0 h)
