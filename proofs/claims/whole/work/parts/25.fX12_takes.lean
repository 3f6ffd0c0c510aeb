abbrev p_X12_feed (X : GX) (h0 : AH) : PX Int32 := (X, (fun x => Sum.inl (rI x)), (5, 108, 6), h0)
def f_X12_feed_b26 : Nat → Option Nat → Int32 → Int32 → Int32 → Int32 → Int32 → AH → Option (Int32 × AH)
  | 0 => fun _ _ _ _ _ _ _ => none
  | n + 1 => fun x0 x1 x2 x3 x4 x5 h =>
    (if 10 ≤ x5 then
    (if x2 = 0 then
    some (x3, h)
    else some (x4, h))
    else (gR h x0 [12] 0).bind fun t5 =>
    (gR h x0 [12] 1).bind fun t6 =>
    bd (f_X12_copies t5 t6 h) fun u8 h7 =>
    (gR h7 x0 [12] 1).bind fun t9 =>
    (iS h7 t9 3 x5).bind fun h10 =>
    (gR h10 x0 [12] 1).bind fun t11 =>
    bd (f_X12_daysOn t11 x1 h10) fun u13 h12 =>
    (gR h12 x0 [12] 1).bind fun t14 =>
    (iA h12 t14 2).bind fun t15 =>
    (if x4 < t15 then
    (gR h12 x0 [12] 1).bind fun t16 =>
    (iA h12 t16 2).bind fun t17 =>
    f_X12_feed_b26 n x0 x1 x2 x5 t17 (x5 + 1) h12
    else f_X12_feed_b26 n x0 x1 x2 x3 x4 (x5 + 1) h12))
set_option maxRecDepth 100000 in
set_option maxHeartbeats 4000000 in
theorem s_X12_feed_b26 {X : GX} (hX : XOK X) {h0 : AH} : ∀ (n : Nat) (x0 : Option Nat) (x1 : Int32) (x2 : Int32) (x3 : Int32) (x4 : Int32) (x5 : Int32) (h : AH), Gp (p_X12_feed X h0) RX12 "feed" cX12_feed (some .int) 26 [(0, vR x0), (1, vI x1), (2, vI x2), (3, vI x3), (4, vI x4), (5, vI x5)] [] h (f_X12_feed_b26 n x0 x1 x2 x3 x4 x5 h) := by
  intro n
  induction n with
  | zero => intro x0 x1 x2 x3 x4 x5 h; exact g_none
  | succ n ih =>
    intro x0 x1 x2 x3 x4 x5 h
    rw [f_X12_feed_b26]
    refine g_iload 5 dX12_feed_26 rfl ?_
    refine g_bipush (v := 10) dX12_feed_28 (by decide) ?_
    refine g_icmpge (tgt := 91) dX12_feed_30 (by decide) ?_ ?_
    · refine g_iload_n 2 dX12_feed_91 rfl rfl ?_
      refine g_ifne (tgt := 99) dX12_feed_92 (by decide) ?_ ?_
      · refine g_iload 4 dX12_feed_99 rfl ?_
        exact g_ireturn rfl dX12_feed_101
      · refine g_iload_n 3 dX12_feed_95 rfl rfl ?_
        refine g_goto (tgt := 101) dX12_feed_96 (by decide) ?_
        exact g_ireturn rfl dX12_feed_101
    · refine g_aload_n 0 dX12_feed_33 rfl rfl ?_
      refine g_getR kfl_X12_9 fo_X12_s dX12_feed_34 (fun t5 => ?_)
      refine g_aload_n 0 dX12_feed_37 rfl rfl ?_
      refine g_getR kfl_X12_13 fo_X12_m dX12_feed_38 (fun t6 => ?_)
      refine g_callSU (st := []) (s_X12_copies hX t5 t6 h) kml_X12_141 kst_X12_copies kii_X12 kcd_X12_copies ds_X12_copies rfl ⟨Nat.le_of_ble_eq_true rfl, Nat.le_of_ble_eq_true rfl⟩ (Nat.le_of_ble_eq_true rfl) rfl dX12_feed_41 (fun u8 h7 => ?_)
      refine g_aload_n 0 dX12_feed_44 rfl rfl ?_
      refine g_getR kfl_X12_13 fo_X12_m dX12_feed_45 (fun t9 => ?_)
      refine g_iconst (v := 3) dX12_feed_48 (by decide) ?_
      refine g_iload 5 dX12_feed_49 rfl ?_
      refine g_iastore dX12_feed_51 (fun h10 => ?_)
      refine g_aload_n 0 dX12_feed_52 rfl rfl ?_
      refine g_getR kfl_X12_13 fo_X12_m dX12_feed_53 (fun t11 => ?_)
      refine g_iload_n 1 dX12_feed_56 rfl rfl ?_
      refine g_callSU (st := []) (s_X12_daysOn hX t11 x1 h10) kml_X12_131 kst_X12_daysOn kii_X12 kcd_X12_daysOn ds_X12_daysOn rfl ⟨Nat.le_of_ble_eq_true rfl, Nat.le_of_ble_eq_true rfl⟩ (Nat.le_of_ble_eq_true rfl) rfl dX12_feed_57 (fun u13 h12 => ?_)
      refine g_aload_n 0 dX12_feed_60 rfl rfl ?_
      refine g_getR kfl_X12_13 fo_X12_m dX12_feed_61 (fun t14 => ?_)
      refine g_iconst (v := 2) dX12_feed_64 (by decide) ?_
      refine g_iaload dX12_feed_65 (fun t15 => ?_)
      refine g_iload 4 dX12_feed_66 rfl ?_
      refine g_icmpgt (tgt := 74) dX12_feed_68 (by decide) ?_ ?_
      · refine g_iload 5 dX12_feed_74 rfl ?_
        refine g_istore_n (ls' := [(3, vI x5), (0, vR x0), (1, vI x1), (2, vI x2), (4, vI x4), (5, vI x5)]) dX12_feed_76 rfl (Nat.le_of_ble_eq_true rfl) rfl ?_
        refine g_aload_n 1 dX12_feed_77 rfl rfl ?_
        refine g_getR kfl_X12_13 fo_X12_m dX12_feed_78 (fun t16 => ?_)
        refine g_iconst (v := 2) dX12_feed_81 (by decide) ?_
        refine g_iaload dX12_feed_82 (fun t17 => ?_)
        refine g_istore (ls' := [(4, vI t17), (3, vI x5), (0, vR x0), (1, vI x1), (2, vI x2), (5, vI x5)]) dX12_feed_83 (Nat.le_of_ble_eq_true rfl) rfl ?_
        refine g_iinc 5 (v := (x5 + 1)) (ls' := [(5, vI ((x5 + 1))), (4, vI t17), (3, vI x5), (0, vR x0), (1, vI x1), (2, vI x2)]) dX12_feed_85 rfl rfl (Nat.le_of_ble_eq_true rfl) rfl ?_
        refine g_goto (tgt := 26) dX12_feed_88 (by decide) ?_
        exact g_sub2 [3, 4, 5, 2, 1, 0] rfl (ih x0 x1 x2 x5 t17 (x5 + 1) h12)
      · refine g_goto (tgt := 85) dX12_feed_71 (by decide) ?_
        refine g_iinc 5 (v := (x5 + 1)) (ls' := [(5, vI ((x5 + 1))), (0, vR x0), (1, vI x1), (2, vI x2), (3, vI x3), (4, vI x4)]) dX12_feed_85 rfl rfl (Nat.le_of_ble_eq_true rfl) rfl ?_
        refine g_goto (tgt := 26) dX12_feed_88 (by decide) ?_
        exact g_sub2 [1, 2, 3, 4, 5, 0] rfl (ih x0 x1 x2 x3 x4 (x5 + 1) h12)
def f_X12_feed (v0 : Option Nat) (v1 : Int32) (v2 : Int32) (h : AH) : Option (Int32 × AH) :=
    bd (f_X12_isLate v1 h) fun r2 h1 =>
    (if r2 = 0 then
    some ((-1), h1)
    else bd (f_X12_isIn v2 0 1 h1) fun r4 h3 =>
    (if r4 = 0 then
    some ((-1), h3)
    else f_X12_feed_b26 FU v0 v1 v2 0 (-1) 0 h3))
set_option maxRecDepth 100000 in
set_option maxHeartbeats 4000000 in
theorem s_X12_feed {X : GX} (hX : XOK X) (v0 : Option Nat) (v1 : Int32) (v2 : Int32) (h : AH) : Snd X yX12_feed cX12_feed 6 (some .int) 5 108 rI [vR v0, vI v1, vI v2] h (f_X12_feed v0 v1 v2 h) := by
  refine snd_of hX (by decide +kernel) (Nat.le_of_ble_eq_true rfl) ?_
  show Gp (p_X12_feed X h) RX12 "feed" cX12_feed (some .int) 0 [(0, vR v0), (1, vI v1), (2, vI v2)] [] h _
  unfold f_X12_feed
  refine g_iload_n 1 dX12_feed_0 rfl rfl ?_
  refine g_callSI (st := []) (s_X12_isLate hX v1 h) kml_X12_155 kst_X12_isLate kii_X12 kcd_X12_isLate ds_X12_isLate rfl ⟨Nat.le_of_ble_eq_true rfl, Nat.le_of_ble_eq_true rfl⟩ (Nat.le_of_ble_eq_true rfl) rfl dX12_feed_1 (fun r2 h1 => ?_)
  refine g_ifeq (tgt := 16) dX12_feed_4 (by decide) ?_ ?_
  · refine g_iconst (v := (-1)) dX12_feed_16 (by decide) ?_
    exact g_ireturn rfl dX12_feed_17
  · refine g_iload_n 2 dX12_feed_7 rfl rfl ?_
    refine g_iconst (v := 0) dX12_feed_8 (by decide) ?_
    refine g_iconst (v := 1) dX12_feed_9 (by decide) ?_
    refine g_callSI (st := []) (s_X12_isIn hX v2 0 1 h1) kml_X12_49 kst_X12_isIn kii_X12 kcd_X12_isIn ds_X12_isIn rfl ⟨Nat.le_of_ble_eq_true rfl, Nat.le_of_ble_eq_true rfl⟩ (Nat.le_of_ble_eq_true rfl) rfl dX12_feed_10 (fun r4 h3 => ?_)
    refine g_ifne (tgt := 18) dX12_feed_13 (by decide) ?_ ?_
    · refine g_iconst (v := 0) dX12_feed_18 (by decide) ?_
      refine g_istore_n (ls' := [(3, vI 0), (0, vR v0), (1, vI v1), (2, vI v2)]) dX12_feed_19 rfl (Nat.le_of_ble_eq_true rfl) rfl ?_
      refine g_iconst (v := (-1)) dX12_feed_20 (by decide) ?_
      refine g_istore (ls' := [(4, vI ((-1))), (3, vI 0), (0, vR v0), (1, vI v1), (2, vI v2)]) dX12_feed_21 (Nat.le_of_ble_eq_true rfl) rfl ?_
      refine g_iconst (v := 0) dX12_feed_23 (by decide) ?_
      refine g_istore (ls' := [(5, vI 0), (4, vI ((-1))), (3, vI 0), (0, vR v0), (1, vI v1), (2, vI v2)]) dX12_feed_24 (Nat.le_of_ble_eq_true rfl) rfl ?_
      exact g_sub2 [3, 4, 5, 2, 1, 0] rfl (s_X12_feed_b26 hX FU v0 v1 v2 0 (-1) 0 h3)
    · refine g_iconst (v := (-1)) dX12_feed_16 (by decide) ?_
      exact g_ireturn rfl dX12_feed_17
abbrev p_X12_leavesOf (X : GX) (h0 : AH) : PX Int32 := (X, (fun x => Sum.inl (rI x)), (4, 86, 3), h0)
def f_X12_leavesOf_b13 : Nat → Option Nat → Int32 → Int32 → AH → Option (Int32 × AH)
  | 0 => fun _ _ _ _ => none
  | n + 1 => fun x0 x1 x2 h =>
    (if 60 < x2 then
    some ((-4), h)
    else (gR h x0 [12] 1).bind fun t5 =>
    bd (f_X12_isHere t5 x1 h) fun r7 h6 =>
    (if r7 = 0 then
    some (x2, h6)
    else (gR h6 x0 [12] 1).bind fun t8 =>
    bd (f_X12_day t8 0 h6) fun u10 h9 =>
    f_X12_leavesOf_b13 n x0 x1 (x2 + 1) h9))
set_option maxRecDepth 100000 in
set_option maxHeartbeats 4000000 in
theorem s_X12_leavesOf_b13 {X : GX} (hX : XOK X) {h0 : AH} : ∀ (n : Nat) (x0 : Option Nat) (x1 : Int32) (x2 : Int32) (h : AH), Gp (p_X12_leavesOf X h0) RX12 "leavesOf" cX12_leavesOf (some .int) 13 [(0, vR x0), (1, vI x1), (2, vI x2)] [] h (f_X12_leavesOf_b13 n x0 x1 x2 h) := by
  intro n
  induction n with
  | zero => intro x0 x1 x2 h; exact g_none
  | succ n ih =>
    intro x0 x1 x2 h
    rw [f_X12_leavesOf_b13]
    refine g_iload_n 2 dX12_leavesOf_13 rfl rfl ?_
    refine g_bipush (v := 60) dX12_leavesOf_14 (by decide) ?_
    refine g_icmpgt (tgt := 46) dX12_leavesOf_16 (by decide) ?_ ?_
    · refine g_bipush (v := (-4)) dX12_leavesOf_46 (by decide) ?_
      exact g_ireturn rfl dX12_leavesOf_48
    · refine g_aload_n 0 dX12_leavesOf_19 rfl rfl ?_
      refine g_getR kfl_X12_13 fo_X12_m dX12_leavesOf_20 (fun t5 => ?_)
      refine g_iload_n 1 dX12_leavesOf_23 rfl rfl ?_
      refine g_callSI (st := []) (s_X12_isHere hX t5 x1 h) kml_X12_61 kst_X12_isHere kii_X12 kcd_X12_isHere ds_X12_isHere rfl ⟨Nat.le_of_ble_eq_true rfl, Nat.le_of_ble_eq_true rfl⟩ (Nat.le_of_ble_eq_true rfl) rfl dX12_leavesOf_24 (fun r7 h6 => ?_)
      refine g_ifne (tgt := 32) dX12_leavesOf_27 (by decide) ?_ ?_
      · refine g_aload_n 0 dX12_leavesOf_32 rfl rfl ?_
        refine g_getR kfl_X12_13 fo_X12_m dX12_leavesOf_33 (fun t8 => ?_)
        refine g_iconst (v := 0) dX12_leavesOf_36 (by decide) ?_
        refine g_callSU (st := []) (s_X12_day hX t8 0 h6) kml_X12_82 kst_X12_day kii_X12 kcd_X12_day ds_X12_day rfl ⟨Nat.le_of_ble_eq_true rfl, Nat.le_of_ble_eq_true rfl⟩ (Nat.le_of_ble_eq_true rfl) rfl dX12_leavesOf_37 (fun u10 h9 => ?_)
        refine g_iinc 2 (v := (x2 + 1)) (ls' := [(2, vI ((x2 + 1))), (0, vR x0), (1, vI x1)]) dX12_leavesOf_40 rfl rfl (Nat.le_of_ble_eq_true rfl) rfl ?_
        refine g_goto (tgt := 13) dX12_leavesOf_43 (by decide) ?_
        exact g_sub2 [1, 2, 0] rfl (ih x0 x1 (x2 + 1) h9)
      · refine g_iload_n 2 dX12_leavesOf_30 rfl rfl ?_
        exact g_ireturn rfl dX12_leavesOf_31
def f_X12_leavesOf (v0 : Option Nat) (v1 : Int32) (h : AH) : Option (Int32 × AH) :=
    (gR h v0 [12] 0).bind fun t1 =>
    (gR h v0 [12] 1).bind fun t2 =>
    bd (f_X12_copies t1 t2 h) fun u4 h3 =>
    f_X12_leavesOf_b13 FU v0 v1 0 h3
set_option maxRecDepth 100000 in
set_option maxHeartbeats 4000000 in
theorem s_X12_leavesOf {X : GX} (hX : XOK X) (v0 : Option Nat) (v1 : Int32) (h : AH) : Snd X yX12_leavesOf cX12_leavesOf 3 (some .int) 4 86 rI [vR v0, vI v1] h (f_X12_leavesOf v0 v1 h) := by
  refine snd_of hX (by decide +kernel) (Nat.le_of_ble_eq_true rfl) ?_
  show Gp (p_X12_leavesOf X h) RX12 "leavesOf" cX12_leavesOf (some .int) 0 [(0, vR v0), (1, vI v1)] [] h _
  unfold f_X12_leavesOf
  refine g_aload_n 0 dX12_leavesOf_0 rfl rfl ?_
  refine g_getR kfl_X12_9 fo_X12_s dX12_leavesOf_1 (fun t1 => ?_)
  refine g_aload_n 0 dX12_leavesOf_4 rfl rfl ?_
  refine g_getR kfl_X12_13 fo_X12_m dX12_leavesOf_5 (fun t2 => ?_)
  refine g_callSU (st := []) (s_X12_copies hX t1 t2 h) kml_X12_141 kst_X12_copies kii_X12 kcd_X12_copies ds_X12_copies rfl ⟨Nat.le_of_ble_eq_true rfl, Nat.le_of_ble_eq_true rfl⟩ (Nat.le_of_ble_eq_true rfl) rfl dX12_leavesOf_8 (fun u4 h3 => ?_)
  refine g_iconst (v := 0) dX12_leavesOf_11 (by decide) ?_
  refine g_istore_n (ls' := [(2, vI 0), (0, vR v0), (1, vI v1)]) dX12_leavesOf_12 rfl (Nat.le_of_ble_eq_true rfl) rfl ?_
  exact g_sub2 [1, 2, 0] rfl (s_X12_leavesOf_b13 hX FU v0 v1 0 h3)
abbrev p_X12_firstLeaves (X : GX) (h0 : AH) : PX Int32 := (X, (fun x => Sum.inl (rI x)), (5, 108, 5), h0)
def f_X12_firstLeaves_b39 (k8 : Option Nat → Int32 → Int32 → Int32 → AH → Option (Int32 × AH)) (x0 : Option Nat) (x1 : Int32) (x2 : Int32) (x3 : Int32) (y0 : Int32) (h : AH) : Option (Int32 × AH) :=
    (if y0 < 0 then
    k8 x0 x1 x2 (x3 + 1) h
    else (if y0 < x2 then
    k8 x0 x3 y0 (x3 + 1) h
    else k8 x0 x1 x2 (x3 + 1) h))
set_option maxRecDepth 100000 in
set_option maxHeartbeats 4000000 in
theorem s_X12_firstLeaves_b39 {X : GX} (hX : XOK X) {h0 : AH} (k8 : Option Nat → Int32 → Int32 → Int32 → AH → Option (Int32 × AH)) (hk8 : ∀ (z0 : Option Nat) (z1 : Int32) (z2 : Int32) (z3 : Int32) (h : AH), Gp (p_X12_firstLeaves X h0) RX12 "firstLeaves" cX12_firstLeaves (some .int) 8 [(0, vR z0), (1, vI z1), (2, vI z2), (3, vI z3)] [] h (k8 z0 z1 z2 z3 h)) : ∀ (x0 : Option Nat) (x1 : Int32) (x2 : Int32) (x3 : Int32) (y0 : Int32) (h : AH), Gp (p_X12_firstLeaves X h0) RX12 "firstLeaves" cX12_firstLeaves (some .int) 39 [(0, vR x0), (1, vI x1), (2, vI x2), (3, vI x3)] [vI y0] h (f_X12_firstLeaves_b39 k8 x0 x1 x2 x3 y0 h) := by
  intro x0 x1 x2 x3 y0 h
  unfold f_X12_firstLeaves_b39
  refine g_istore (ls' := [(4, vI y0), (0, vR x0), (1, vI x1), (2, vI x2), (3, vI x3)]) dX12_firstLeaves_39 (Nat.le_of_ble_eq_true rfl) rfl ?_
  refine g_iload 0 dX12_firstLeaves_41 rfl ?_
  refine g_iflt (tgt := 60) dX12_firstLeaves_43 (by decide) ?_ ?_
  · refine g_iinc 4 (v := (x3 + 1)) (ls' := [(3, vI ((x3 + 1))), (4, vI y0), (0, vR x0), (1, vI x1), (2, vI x2)]) dX12_firstLeaves_60 rfl rfl (Nat.le_of_ble_eq_true rfl) rfl ?_
    refine g_goto (tgt := 8) dX12_firstLeaves_63 (by decide) ?_
    exact g_sub2 [2, 3, 4, 0] rfl (hk8 x0 x1 x2 (x3 + 1) h)
  · refine g_iload 0 dX12_firstLeaves_46 rfl ?_
    refine g_iload_n 3 dX12_firstLeaves_48 rfl rfl ?_
    refine g_icmplt (tgt := 55) dX12_firstLeaves_49 (by decide) ?_ ?_
    · refine g_iload_n 4 dX12_firstLeaves_55 rfl rfl ?_
      refine g_istore_n (ls' := [(1, vI x3), (4, vI y0), (0, vR x0), (2, vI x2), (3, vI x3)]) dX12_firstLeaves_56 rfl (Nat.le_of_ble_eq_true rfl) rfl ?_
      refine g_iload 1 dX12_firstLeaves_57 rfl ?_
      refine g_istore_n (ls' := [(2, vI y0), (1, vI x3), (4, vI y0), (0, vR x0), (3, vI x3)]) dX12_firstLeaves_59 rfl (Nat.le_of_ble_eq_true rfl) rfl ?_
      refine g_iinc 4 (v := (x3 + 1)) (ls' := [(3, vI ((x3 + 1))), (2, vI y0), (1, vI x3), (4, vI y0), (0, vR x0)]) dX12_firstLeaves_60 rfl rfl (Nat.le_of_ble_eq_true rfl) rfl ?_
      refine g_goto (tgt := 8) dX12_firstLeaves_63 (by decide) ?_
      exact g_sub2 [4, 2, 1, 0] rfl (hk8 x0 x3 y0 (x3 + 1) h)
    · refine g_goto (tgt := 60) dX12_firstLeaves_52 (by decide) ?_
      refine g_iinc 4 (v := (x3 + 1)) (ls' := [(3, vI ((x3 + 1))), (4, vI y0), (0, vR x0), (1, vI x1), (2, vI x2)]) dX12_firstLeaves_60 rfl rfl (Nat.le_of_ble_eq_true rfl) rfl ?_
      refine g_goto (tgt := 8) dX12_firstLeaves_63 (by decide) ?_
      exact g_sub2 [2, 3, 4, 0] rfl (hk8 x0 x1 x2 (x3 + 1) h)
def f_X12_firstLeaves_b8 : Nat → Option Nat → Int32 → Int32 → Int32 → AH → Option (Int32 × AH)
  | 0 => fun _ _ _ _ _ => none
  | n + 1 => fun x0 x1 x2 x3 h =>
    (gR h x0 [12] 0).bind fun t1 =>
    (iA h t1 0).bind fun t2 =>
    (if t2 ≤ x3 then
    some (x1, h)
    else (gR h x0 [12] 0).bind fun t3 =>
    bd (f_X12_isHere t3 x3 h) fun r5 h4 =>
    (if r5 = 0 then
    f_X12_firstLeaves_b39 (f_X12_firstLeaves_b8 n) x0 x1 x2 x3 (-4) h4
    else bd (cv h4 x0 12 (f_X12_leavesOf x0 x3 h4)) fun r7 h6 =>
    f_X12_firstLeaves_b39 (f_X12_firstLeaves_b8 n) x0 x1 x2 x3 r7 h6))
set_option maxRecDepth 100000 in
set_option maxHeartbeats 4000000 in
theorem s_X12_firstLeaves_b8 {X : GX} (hX : XOK X) {h0 : AH} : ∀ (n : Nat) (x0 : Option Nat) (x1 : Int32) (x2 : Int32) (x3 : Int32) (h : AH), Gp (p_X12_firstLeaves X h0) RX12 "firstLeaves" cX12_firstLeaves (some .int) 8 [(0, vR x0), (1, vI x1), (2, vI x2), (3, vI x3)] [] h (f_X12_firstLeaves_b8 n x0 x1 x2 x3 h) := by
  intro n
  induction n with
  | zero => intro x0 x1 x2 x3 h; exact g_none
  | succ n ih =>
    intro x0 x1 x2 x3 h
    rw [f_X12_firstLeaves_b8]
    refine g_iload_n 3 dX12_firstLeaves_8 rfl rfl ?_
    refine g_aload_n 0 dX12_firstLeaves_9 rfl rfl ?_
    refine g_getR kfl_X12_9 fo_X12_s dX12_firstLeaves_10 (fun t1 => ?_)
    refine g_iconst (v := 0) dX12_firstLeaves_13 (by decide) ?_
    refine g_iaload dX12_firstLeaves_14 (fun t2 => ?_)
    refine g_icmpge (tgt := 66) dX12_firstLeaves_15 (by decide) ?_ ?_
    · refine g_iload_n 1 dX12_firstLeaves_66 rfl rfl ?_
      exact g_ireturn rfl dX12_firstLeaves_67
    · refine g_aload_n 0 dX12_firstLeaves_18 rfl rfl ?_
      refine g_getR kfl_X12_9 fo_X12_s dX12_firstLeaves_19 (fun t3 => ?_)
      refine g_iload_n 3 dX12_firstLeaves_22 rfl rfl ?_
      refine g_callSI (st := []) (s_X12_isHere hX t3 x3 h) kml_X12_61 kst_X12_isHere kii_X12 kcd_X12_isHere ds_X12_isHere rfl ⟨Nat.le_of_ble_eq_true rfl, Nat.le_of_ble_eq_true rfl⟩ (Nat.le_of_ble_eq_true rfl) rfl dX12_firstLeaves_23 (fun r5 h4 => ?_)
      refine g_ifeq (tgt := 37) dX12_firstLeaves_26 (by decide) ?_ ?_
      · refine g_bipush (v := (-4)) dX12_firstLeaves_37 (by decide) ?_
        exact g_sub2 [0, 1, 2, 3] rfl (s_X12_firstLeaves_b39 hX (f_X12_firstLeaves_b8 n) (fun z0 z1 z2 z3 z4 => ih z0 z1 z2 z3 z4) x0 x1 x2 x3 (-4) h4)
      · refine g_aload_n 0 dX12_firstLeaves_29 rfl rfl ?_
        refine g_iload_n 3 dX12_firstLeaves_30 rfl rfl ?_
        refine g_callVI (st := []) (ci := 12) rfl (s_X12_leavesOf hX x0 x3 h4) kml_X12_170 kim_X12_leavesOf kse_X12_leavesOf kii_X12 kcd_X12_leavesOf rfl ds_X12_leavesOf rfl ⟨Nat.le_of_ble_eq_true rfl, Nat.le_of_ble_eq_true rfl⟩ (Nat.le_of_ble_eq_true rfl) rfl dX12_firstLeaves_31 (fun r7 h6 => ?_)
        refine g_goto (tgt := 39) dX12_firstLeaves_34 (by decide) ?_
        exact g_sub2 [0, 1, 2, 3] rfl (s_X12_firstLeaves_b39 hX (f_X12_firstLeaves_b8 n) (fun z0 z1 z2 z3 z4 => ih z0 z1 z2 z3 z4) x0 x1 x2 x3 r7 h6)
def f_X12_firstLeaves (v0 : Option Nat) (h : AH) : Option (Int32 × AH) :=
    f_X12_firstLeaves_b8 FU v0 (-4) 1000000000 0 h
set_option maxRecDepth 100000 in
set_option maxHeartbeats 4000000 in
theorem s_X12_firstLeaves {X : GX} (hX : XOK X) (v0 : Option Nat) (h : AH) : Snd X yX12_firstLeaves cX12_firstLeaves 5 (some .int) 5 108 rI [vR v0] h (f_X12_firstLeaves v0 h) := by
  refine snd_of hX (by decide +kernel) (Nat.le_of_ble_eq_true rfl) ?_
  show Gp (p_X12_firstLeaves X h) RX12 "firstLeaves" cX12_firstLeaves (some .int) 0 [(0, vR v0)] [] h _
  unfold f_X12_firstLeaves
  refine g_bipush (v := (-4)) dX12_firstLeaves_0 (by decide) ?_
  refine g_istore_n (ls' := [(1, vI ((-4))), (0, vR v0)]) dX12_firstLeaves_2 rfl (Nat.le_of_ble_eq_true rfl) rfl ?_
  refine g_ldc kco_X12_169 dX12_firstLeaves_3 ?_
  refine g_istore_n (ls' := [(2, vI 1000000000), (1, vI ((-4))), (0, vR v0)]) dX12_firstLeaves_5 rfl (Nat.le_of_ble_eq_true rfl) rfl ?_
  refine g_iconst (v := 0) dX12_firstLeaves_6 (by decide) ?_
  refine g_istore_n (ls' := [(3, vI 0), (2, vI 1000000000), (1, vI ((-4))), (0, vR v0)]) dX12_firstLeaves_7 rfl (Nat.le_of_ble_eq_true rfl) rfl ?_
  exact g_sub2 [3, 2, 1, 0] rfl (s_X12_firstLeaves_b8 hX FU v0 (-4) 1000000000 0 h)
abbrev p_X12_forged (X : GX) (h0 : AH) : PX Int32 := (X, (fun x => Sum.inl (rI x)), (3, 64, 4), h0)
def f_X12_forged_b15 : Nat → Option Nat → Int32 → Int32 → AH → Option (Int32 × AH)
  | 0 => fun _ _ _ _ => none
  | n + 1 => fun x0 x1 x3 h =>
    (gR h x0 [12] 16).bind fun t3 =>
    (iA h t3 x1).bind fun t4 =>
    (if t4 ≤ x3 then
    some ((-4), h)
    else bd (cv h x0 12 (f_X12_isGuest x0 x3 h)) fun r6 h5 =>
    (if r6 = 0 then
    some (x3, h5)
    else (gR h5 x0 [12] 17).bind fun t7 =>
    (iA h5 t7 ((100 * x1) + x3)).bind fun t8 =>
    (gR h5 x0 [12] 0).bind fun t9 =>
    bd (f_X12_of x3 3 h5) fun r11 h10 =>
    (iA h10 t9 r11).bind fun t12 =>
    (if t8 = t12 then
    f_X12_forged_b15 n x0 x1 (x3 + 1) h10
    else some (x3, h10))))
set_option maxRecDepth 100000 in
set_option maxHeartbeats 4000000 in
theorem s_X12_forged_b15 {X : GX} (hX : XOK X) {h0 : AH} : ∀ (n : Nat) (x0 : Option Nat) (x1 : Int32) (x3 : Int32) (h : AH), Gp (p_X12_forged X h0) RX12 "forged" cX12_forged (some .int) 15 [(0, vR x0), (1, vI x1), (3, vI x3)] [] h (f_X12_forged_b15 n x0 x1 x3 h) := by
  intro n
  induction n with
  | zero => intro x0 x1 x3 h; exact g_none
  | succ n ih =>
    intro x0 x1 x3 h
    rw [f_X12_forged_b15]
    refine g_iload_n 2 dX12_forged_15 rfl rfl ?_
    refine g_aload_n 0 dX12_forged_16 rfl rfl ?_
    refine g_getR kfl_X12_43 fo_X12_size dX12_forged_17 (fun t3 => ?_)
    refine g_iload_n 1 dX12_forged_20 rfl rfl ?_
    refine g_iaload dX12_forged_21 (fun t4 => ?_)
    refine g_icmpge (tgt := 65) dX12_forged_22 (by decide) ?_ ?_
    · refine g_bipush (v := (-4)) dX12_forged_65 (by decide) ?_
      exact g_ireturn rfl dX12_forged_67
    · refine g_aload_n 0 dX12_forged_25 rfl rfl ?_
      refine g_iload_n 2 dX12_forged_26 rfl rfl ?_
      refine g_callVI (st := []) (ci := 12) rfl (s_X12_isGuest hX x0 x3 h) kml_X12_113 kim_X12_isGuest kse_X12_isGuest kii_X12 kcd_X12_isGuest rfl ds_X12_isGuest rfl ⟨Nat.le_of_ble_eq_true rfl, Nat.le_of_ble_eq_true rfl⟩ (Nat.le_of_ble_eq_true rfl) rfl dX12_forged_27 (fun r6 h5 => ?_)
      refine g_ifeq (tgt := 57) dX12_forged_30 (by decide) ?_ ?_
      · refine g_iload_n 2 dX12_forged_57 rfl rfl ?_
        exact g_ireturn rfl dX12_forged_58
      · refine g_aload_n 0 dX12_forged_33 rfl rfl ?_
        refine g_getR kfl_X12_46 fo_X12_element dX12_forged_34 (fun t7 => ?_)
        refine g_bipush (v := 100) dX12_forged_37 (by decide) ?_
        refine g_iload_n 1 dX12_forged_39 rfl rfl ?_
        refine g_imul dX12_forged_40 ?_
        refine g_iload_n 2 dX12_forged_41 rfl rfl ?_
        refine g_iadd dX12_forged_42 ?_
        refine g_iaload dX12_forged_43 (fun t8 => ?_)
        refine g_aload_n 0 dX12_forged_44 rfl rfl ?_
        refine g_getR kfl_X12_9 fo_X12_s dX12_forged_45 (fun t9 => ?_)
        refine g_iload_n 2 dX12_forged_48 rfl rfl ?_
        refine g_iconst (v := 3) dX12_forged_49 (by decide) ?_
        refine g_callSI (st := [vR t9, vI t8]) (s_X12_of hX x3 3 h5) kml_X12_53 kst_X12_of kii_X12 kcd_X12_of ds_X12_of rfl ⟨Nat.le_of_ble_eq_true rfl, Nat.le_of_ble_eq_true rfl⟩ (Nat.le_of_ble_eq_true rfl) rfl dX12_forged_50 (fun r11 h10 => ?_)
        refine g_iaload dX12_forged_53 (fun t12 => ?_)
        refine g_icmpeq (tgt := 59) dX12_forged_54 (by decide) ?_ ?_
        · refine g_iinc 2 (v := (x3 + 1)) (ls' := [(3, vI ((x3 + 1))), (0, vR x0), (1, vI x1)]) dX12_forged_59 rfl rfl (Nat.le_of_ble_eq_true rfl) rfl ?_
          refine g_goto (tgt := 15) dX12_forged_62 (by decide) ?_
          exact g_sub2 [1, 2, 0] rfl (ih x0 x1 (x3 + 1) h10)
        · refine g_iload_n 2 dX12_forged_57 rfl rfl ?_
          exact g_ireturn rfl dX12_forged_58
def f_X12_forged (v0 : Option Nat) (v1 : Int32) (h : AH) : Option (Int32 × AH) :=
    bd (cv h v0 12 (f_X12_wrongRow v0 v1 (-1) h)) fun r2 h1 =>
    (if r2 = 0 then
    f_X12_forged_b15 FU v0 v1 0 h1
    else some (r2, h1))
set_option maxRecDepth 100000 in
set_option maxHeartbeats 4000000 in
theorem s_X12_forged {X : GX} (hX : XOK X) (v0 : Option Nat) (v1 : Int32) (h : AH) : Snd X yX12_forged cX12_forged 4 (some .int) 3 64 rI [vR v0, vI v1] h (f_X12_forged v0 v1 h) := by
  refine snd_of hX (by decide +kernel) (Nat.le_of_ble_eq_true rfl) ?_
  show Gp (p_X12_forged X h) RX12 "forged" cX12_forged (some .int) 0 [(0, vR v0), (1, vI v1)] [] h _
  unfold f_X12_forged
  refine g_aload_n 0 dX12_forged_0 rfl rfl ?_
  refine g_iload_n 1 dX12_forged_1 rfl rfl ?_
  refine g_iconst (v := (-1)) dX12_forged_2 (by decide) ?_
  refine g_callVI (st := []) (ci := 12) rfl (s_X12_wrongRow hX v0 v1 (-1) h) kml_X12_134 kim_X12_wrongRow kse_X12_wrongRow kii_X12 kcd_X12_wrongRow rfl ds_X12_wrongRow rfl ⟨Nat.le_of_ble_eq_true rfl, Nat.le_of_ble_eq_true rfl⟩ (Nat.le_of_ble_eq_true rfl) rfl dX12_forged_3 (fun r2 h1 => ?_)
  refine g_istore_n (ls' := [(2, vI r2), (0, vR v0), (1, vI v1)]) dX12_forged_6 rfl (Nat.le_of_ble_eq_true rfl) rfl ?_
  refine g_iload_n 0 dX12_forged_7 rfl rfl ?_
  refine g_ifeq (tgt := 13) dX12_forged_8 (by decide) ?_ ?_
  · refine g_iconst (v := 0) dX12_forged_13 (by decide) ?_
    refine g_istore_n (ls' := [(3, vI 0), (2, vI r2), (0, vR v0), (1, vI v1)]) dX12_forged_14 rfl (Nat.le_of_ble_eq_true rfl) rfl ?_
    exact g_sub2 [2, 3, 0] rfl (s_X12_forged_b15 hX FU v0 v1 0 h1)
  · refine g_iload_n 0 dX12_forged_11 rfl rfl ?_
    exact g_ireturn rfl dX12_forged_12
abbrev p_X12_lacks (X : GX) (h0 : AH) : PX Int32 := (X, (fun x => Sum.inl (rI x)), (2, 42, 3), h0)
def f_X12_lacks (v0 : Option Nat) (v1 : Int32) (h : AH) : Option (Int32 × AH) :=
    bd (f_X12_of v1 2 h) fun r2 h1 =>
    (iA h1 v0 r2).bind fun t3 =>
    bd (f_X12_of v1 3 h1) fun r5 h4 =>
    (iA h4 v0 r5).bind fun t6 =>
    nm ((t3 - t6) + 1) fun t7 =>
    bd (f_X12_isHere v0 v1 h4) fun r9 h8 =>
    (if r9 = 0 then
    some (0, h8)
    else (if t7 ≤ 0 then
    some (0, h8)
    else some (t7, h8)))
set_option maxRecDepth 100000 in
set_option maxHeartbeats 4000000 in
theorem s_X12_lacks {X : GX} (hX : XOK X) (v0 : Option Nat) (v1 : Int32) (h : AH) : Snd X yX12_lacks cX12_lacks 3 (some .int) 2 42 rI [vR v0, vI v1] h (f_X12_lacks v0 v1 h) := by
  refine snd_of hX (by decide +kernel) (Nat.le_of_ble_eq_true rfl) ?_
  show Gp (p_X12_lacks X h) RX12 "lacks" cX12_lacks (some .int) 0 [(0, vR v0), (1, vI v1)] [] h _
  unfold f_X12_lacks
  refine g_aload_n 0 dX12_lacks_0 rfl rfl ?_
  refine g_iload_n 1 dX12_lacks_1 rfl rfl ?_
  refine g_iconst (v := 2) dX12_lacks_2 (by decide) ?_
  refine g_callSI (st := [vR v0]) (s_X12_of hX v1 2 h) kml_X12_53 kst_X12_of kii_X12 kcd_X12_of ds_X12_of rfl ⟨Nat.le_of_ble_eq_true rfl, Nat.le_of_ble_eq_true rfl⟩ (Nat.le_of_ble_eq_true rfl) rfl dX12_lacks_3 (fun r2 h1 => ?_)
  refine g_iaload dX12_lacks_6 (fun t3 => ?_)
  refine g_aload_n 0 dX12_lacks_7 rfl rfl ?_
  refine g_iload_n 1 dX12_lacks_8 rfl rfl ?_
  refine g_iconst (v := 3) dX12_lacks_9 (by decide) ?_
  refine g_callSI (st := [vR v0, vI t3]) (s_X12_of hX v1 3 h1) kml_X12_53 kst_X12_of kii_X12 kcd_X12_of ds_X12_of rfl ⟨Nat.le_of_ble_eq_true rfl, Nat.le_of_ble_eq_true rfl⟩ (Nat.le_of_ble_eq_true rfl) rfl dX12_lacks_10 (fun r5 h4 => ?_)
  refine g_iaload dX12_lacks_13 (fun t6 => ?_)
  refine g_isub dX12_lacks_14 ?_
  refine g_iconst (v := 1) dX12_lacks_15 (by decide) ?_
  refine g_iadd dX12_lacks_16 ?_
  refine g_nmI (fun t7 => ?_)
  refine g_istore_n (ls' := [(2, vI t7), (0, vR v0), (1, vI v1)]) dX12_lacks_17 rfl (Nat.le_of_ble_eq_true rfl) rfl ?_
  refine g_aload_n 1 dX12_lacks_18 rfl rfl ?_
  refine g_iload_n 2 dX12_lacks_19 rfl rfl ?_
  refine g_callSI (st := []) (s_X12_isHere hX v0 v1 h4) kml_X12_61 kst_X12_isHere kii_X12 kcd_X12_isHere ds_X12_isHere rfl ⟨Nat.le_of_ble_eq_true rfl, Nat.le_of_ble_eq_true rfl⟩ (Nat.le_of_ble_eq_true rfl) rfl dX12_lacks_20 (fun r9 h8 => ?_)
  refine g_ifeq (tgt := 34) dX12_lacks_23 (by decide) ?_ ?_
  · refine g_iconst (v := 0) dX12_lacks_34 (by decide) ?_
    exact g_ireturn rfl dX12_lacks_35
  · refine g_iload_n 0 dX12_lacks_26 rfl rfl ?_
    refine g_ifle (tgt := 34) dX12_lacks_27 (by decide) ?_ ?_
    · refine g_iconst (v := 0) dX12_lacks_34 (by decide) ?_
      exact g_ireturn rfl dX12_lacks_35
    · refine g_iload_n 0 dX12_lacks_30 rfl rfl ?_
      refine g_goto (tgt := 35) dX12_lacks_31 (by decide) ?_
      exact g_ireturn rfl dX12_lacks_35
abbrev p_X12_guest (X : GX) (h0 : AH) : PX Int32 := (X, (fun x => Sum.inl (rI x)), (3, 64, 3), h0)
def f_X12_guest (v0 : Option Nat) (v1 : Int32) (v2 : Int32) (h : AH) : Option (Int32 × AH) :=
    bd (cv h v0 12 (f_X12_isGuest v0 v1 h)) fun r2 h1 =>
    (if r2 = 0 then
    some ((-1), h1)
    else bd (f_X12_isIn v2 0 8 h1) fun r4 h3 =>
    (if r4 = 0 then
    some ((-1), h3)
    else (if v2 = 7 then
    (gR h3 v0 [12] 0).bind fun t12 =>
    bd (f_X12_mayGo t12 v1 h3) fun r14 h13 =>
    (if r14 = 0 then
    some (0, h13)
    else some (1, h13))
    else (if v2 = 8 then
    (gR h3 v0 [12] 0).bind fun t9 =>
    bd (f_X12_lacks t9 v1 h3) fun r11 h10 =>
    some (r11, h10)
    else (gR h3 v0 [12] 0).bind fun t5 =>
    bd (f_X12_of v1 v2 h3) fun r7 h6 =>
    (iA h6 t5 r7).bind fun t8 =>
    some (t8, h6)))))
set_option maxRecDepth 100000 in
set_option maxHeartbeats 4000000 in
theorem s_X12_guest {X : GX} (hX : XOK X) (v0 : Option Nat) (v1 : Int32) (v2 : Int32) (h : AH) : Snd X yX12_guest cX12_guest 3 (some .int) 3 64 rI [vR v0, vI v1, vI v2] h (f_X12_guest v0 v1 v2 h) := by
  refine snd_of hX (by decide +kernel) (Nat.le_of_ble_eq_true rfl) ?_
  show Gp (p_X12_guest X h) RX12 "guest" cX12_guest (some .int) 0 [(0, vR v0), (1, vI v1), (2, vI v2)] [] h _
  unfold f_X12_guest
  refine g_aload_n 0 dX12_guest_0 rfl rfl ?_
  refine g_iload_n 1 dX12_guest_1 rfl rfl ?_
  refine g_callVI (st := []) (ci := 12) rfl (s_X12_isGuest hX v0 v1 h) kml_X12_113 kim_X12_isGuest kse_X12_isGuest kii_X12 kcd_X12_isGuest rfl ds_X12_isGuest rfl ⟨Nat.le_of_ble_eq_true rfl, Nat.le_of_ble_eq_true rfl⟩ (Nat.le_of_ble_eq_true rfl) rfl dX12_guest_2 (fun r2 h1 => ?_)
  refine g_ifeq (tgt := 18) dX12_guest_5 (by decide) ?_ ?_
  · refine g_iconst (v := (-1)) dX12_guest_18 (by decide) ?_
    exact g_ireturn rfl dX12_guest_19
  · refine g_iload_n 2 dX12_guest_8 rfl rfl ?_
    refine g_iconst (v := 0) dX12_guest_9 (by decide) ?_
    refine g_bipush (v := 8) dX12_guest_10 (by decide) ?_
    refine g_callSI (st := []) (s_X12_isIn hX v2 0 8 h1) kml_X12_49 kst_X12_isIn kii_X12 kcd_X12_isIn ds_X12_isIn rfl ⟨Nat.le_of_ble_eq_true rfl, Nat.le_of_ble_eq_true rfl⟩ (Nat.le_of_ble_eq_true rfl) rfl dX12_guest_12 (fun r4 h3 => ?_)
    refine g_ifne (tgt := 20) dX12_guest_15 (by decide) ?_ ?_
    · refine g_iload_n 2 dX12_guest_20 rfl rfl ?_
      refine g_bipush (v := 7) dX12_guest_21 (by decide) ?_
      refine g_icmpne (tgt := 45) dX12_guest_23 (by decide) ?_ ?_
      · refine g_iload_n 2 dX12_guest_45 rfl rfl ?_
        refine g_bipush (v := 8) dX12_guest_46 (by decide) ?_
        refine g_icmpne (tgt := 62) dX12_guest_48 (by decide) ?_ ?_
        · refine g_aload_n 0 dX12_guest_62 rfl rfl ?_
          refine g_getR kfl_X12_9 fo_X12_s dX12_guest_63 (fun t5 => ?_)
          refine g_iload_n 1 dX12_guest_66 rfl rfl ?_
          refine g_iload_n 2 dX12_guest_67 rfl rfl ?_
          refine g_callSI (st := [vR t5]) (s_X12_of hX v1 v2 h3) kml_X12_53 kst_X12_of kii_X12 kcd_X12_of ds_X12_of rfl ⟨Nat.le_of_ble_eq_true rfl, Nat.le_of_ble_eq_true rfl⟩ (Nat.le_of_ble_eq_true rfl) rfl dX12_guest_68 (fun r7 h6 => ?_)
          refine g_iaload dX12_guest_71 (fun t8 => ?_)
          exact g_ireturn rfl dX12_guest_72
        · refine g_aload_n 0 dX12_guest_51 rfl rfl ?_
          refine g_getR kfl_X12_9 fo_X12_s dX12_guest_52 (fun t9 => ?_)
          refine g_iload_n 1 dX12_guest_55 rfl rfl ?_
          refine g_callSI (st := []) (s_X12_lacks hX t9 v1 h3) kml_X12_148 kst_X12_lacks kii_X12 kcd_X12_lacks ds_X12_lacks rfl ⟨Nat.le_of_ble_eq_true rfl, Nat.le_of_ble_eq_true rfl⟩ (Nat.le_of_ble_eq_true rfl) rfl dX12_guest_56 (fun r11 h10 => ?_)
          refine g_goto (tgt := 72) dX12_guest_59 (by decide) ?_
          exact g_ireturn rfl dX12_guest_72
      · refine g_aload_n 0 dX12_guest_26 rfl rfl ?_
        refine g_getR kfl_X12_9 fo_X12_s dX12_guest_27 (fun t12 => ?_)
        refine g_iload_n 1 dX12_guest_30 rfl rfl ?_
        refine g_callSI (st := []) (s_X12_mayGo hX t12 v1 h3) kml_X12_79 kst_X12_mayGo kii_X12 kcd_X12_mayGo ds_X12_mayGo rfl ⟨Nat.le_of_ble_eq_true rfl, Nat.le_of_ble_eq_true rfl⟩ (Nat.le_of_ble_eq_true rfl) rfl dX12_guest_31 (fun r14 h13 => ?_)
        refine g_ifeq (tgt := 41) dX12_guest_34 (by decide) ?_ ?_
        · refine g_iconst (v := 0) dX12_guest_41 (by decide) ?_
          refine g_goto (tgt := 72) dX12_guest_42 (by decide) ?_
          exact g_ireturn rfl dX12_guest_72
        · refine g_iconst (v := 1) dX12_guest_37 (by decide) ?_
          refine g_goto (tgt := 72) dX12_guest_38 (by decide) ?_
          exact g_ireturn rfl dX12_guest_72
    · refine g_iconst (v := (-1)) dX12_guest_18 (by decide) ?_
      exact g_ireturn rfl dX12_guest_19
abbrev p_X12_hasBy (X : GX) (h0 : AH) : PX Int32 := (X, (fun x => Sum.inl (rI x)), (5, 108, 7), h0)
def f_X12_hasBy_b67 (x1 : Int32) (x2 : Int32) (x3 : Int32) (x5 : Int32) (y0 : Int32) (h : AH) : Option (Int32 × AH) :=
    (if x1 = x2 then
    some ((y0 - x3), h)
    else some ((y0 - x5), h))
set_option maxRecDepth 100000 in
set_option maxHeartbeats 4000000 in
theorem s_X12_hasBy_b67 {X : GX} (hX : XOK X) {h0 : AH} : ∀ (x1 : Int32) (x2 : Int32) (x3 : Int32) (x5 : Int32) (y0 : Int32) (h : AH), Gp (p_X12_hasBy X h0) RX12 "hasBy" cX12_hasBy (some .int) 67 [(1, vI x1), (2, vI x2), (3, vI x3), (5, vI x5)] [vI y0] h (f_X12_hasBy_b67 x1 x2 x3 x5 y0 h) := by
  intro x1 x2 x3 x5 y0 h
  unfold f_X12_hasBy_b67
  refine g_iload_n 0 dX12_hasBy_67 rfl rfl ?_
  refine g_iload_n 1 dX12_hasBy_68 rfl rfl ?_
  refine g_icmpne (tgt := 76) dX12_hasBy_69 (by decide) ?_ ?_
  · refine g_iload 3 dX12_hasBy_76 rfl ?_
    refine g_isub dX12_hasBy_78 ?_
    exact g_ireturn rfl dX12_hasBy_79
  · refine g_iload_n 2 dX12_hasBy_72 rfl rfl ?_
    refine g_goto (tgt := 78) dX12_hasBy_73 (by decide) ?_
    refine g_isub dX12_hasBy_78 ?_
    exact g_ireturn rfl dX12_hasBy_79
def f_X12_hasBy (v0 : Option Nat) (v1 : Int32) (v2 : Int32) (v3 : Int32) (v4 : Int32) (v5 : Int32) (v6 : Int32) (h : AH) : Option (Int32 × AH) :=
    (gR h v0 [12] 0).bind fun t1 =>
    (gR h v0 [12] 1).bind fun t2 =>
    bd (f_X12_copies t1 t2 h) fun u4 h3 =>
    (gR h3 v0 [12] 1).bind fun t5 =>
    bd (f_X12_day t5 ((v3 <<< (v2 &&& 31)) ||| (v5 <<< (v4 &&& 31))) h3) fun u7 h6 =>
    (gR h6 v0 [12] 1).bind fun t8 =>
    bd (f_X12_daysOn t8 (v6 - 1) h6) fun u10 h9 =>
    (gR h9 v0 [12] 1).bind fun t11 =>
    bd (f_X12_isHere t11 v1 h9) fun r13 h12 =>
    (if r13 = 0 then
    f_X12_hasBy_b67 v1 v2 v3 v5 6 h12
    else (gR h12 v0 [12] 1).bind fun t14 =>
    bd (f_X12_of v1 2 h12) fun r16 h15 =>
    (iA h15 t14 r16).bind fun t17 =>
    f_X12_hasBy_b67 v1 v2 v3 v5 (t17 / 20) h15)
set_option maxRecDepth 100000 in
set_option maxHeartbeats 4000000 in
theorem s_X12_hasBy {X : GX} (hX : XOK X) (v0 : Option Nat) (v1 : Int32) (v2 : Int32) (v3 : Int32) (v4 : Int32) (v5 : Int32) (v6 : Int32) (h : AH) : Snd X yX12_hasBy cX12_hasBy 7 (some .int) 5 108 rI [vR v0, vI v1, vI v2, vI v3, vI v4, vI v5, vI v6] h (f_X12_hasBy v0 v1 v2 v3 v4 v5 v6 h) := by
  refine snd_of hX (by decide +kernel) (Nat.le_of_ble_eq_true rfl) ?_
  show Gp (p_X12_hasBy X h) RX12 "hasBy" cX12_hasBy (some .int) 0 [(0, vR v0), (1, vI v1), (2, vI v2), (3, vI v3), (4, vI v4), (5, vI v5), (6, vI v6)] [] h _
  unfold f_X12_hasBy
  refine g_aload_n 0 dX12_hasBy_0 rfl rfl ?_
  refine g_getR kfl_X12_9 fo_X12_s dX12_hasBy_1 (fun t1 => ?_)
  refine g_aload_n 0 dX12_hasBy_4 rfl rfl ?_
  refine g_getR kfl_X12_13 fo_X12_m dX12_hasBy_5 (fun t2 => ?_)
  refine g_callSU (st := []) (s_X12_copies hX t1 t2 h) kml_X12_141 kst_X12_copies kii_X12 kcd_X12_copies ds_X12_copies rfl ⟨Nat.le_of_ble_eq_true rfl, Nat.le_of_ble_eq_true rfl⟩ (Nat.le_of_ble_eq_true rfl) rfl dX12_hasBy_8 (fun u4 h3 => ?_)
  refine g_aload_n 0 dX12_hasBy_11 rfl rfl ?_
  refine g_getR kfl_X12_13 fo_X12_m dX12_hasBy_12 (fun t5 => ?_)
  refine g_iload_n 3 dX12_hasBy_15 rfl rfl ?_
  refine g_iload_n 2 dX12_hasBy_16 rfl rfl ?_
  refine g_ishl dX12_hasBy_17 ?_
  refine g_iload 5 dX12_hasBy_18 rfl ?_
  refine g_iload 4 dX12_hasBy_20 rfl ?_
  refine g_ishl dX12_hasBy_22 ?_
  refine g_ior dX12_hasBy_23 ?_
  refine g_callSU (st := []) (s_X12_day hX t5 ((v3 <<< (v2 &&& 31)) ||| (v5 <<< (v4 &&& 31))) h3) kml_X12_82 kst_X12_day kii_X12 kcd_X12_day ds_X12_day rfl ⟨Nat.le_of_ble_eq_true rfl, Nat.le_of_ble_eq_true rfl⟩ (Nat.le_of_ble_eq_true rfl) rfl dX12_hasBy_24 (fun u7 h6 => ?_)
  refine g_aload_n 0 dX12_hasBy_27 rfl rfl ?_
  refine g_getR kfl_X12_13 fo_X12_m dX12_hasBy_28 (fun t8 => ?_)
  refine g_iload 6 dX12_hasBy_31 rfl ?_
  refine g_iconst (v := 1) dX12_hasBy_33 (by decide) ?_
  refine g_isub dX12_hasBy_34 ?_
  refine g_callSU (st := []) (s_X12_daysOn hX t8 (v6 - 1) h6) kml_X12_131 kst_X12_daysOn kii_X12 kcd_X12_daysOn ds_X12_daysOn rfl ⟨Nat.le_of_ble_eq_true rfl, Nat.le_of_ble_eq_true rfl⟩ (Nat.le_of_ble_eq_true rfl) rfl dX12_hasBy_35 (fun u10 h9 => ?_)
  refine g_aload_n 0 dX12_hasBy_38 rfl rfl ?_
  refine g_getR kfl_X12_13 fo_X12_m dX12_hasBy_39 (fun t11 => ?_)
  refine g_iload_n 1 dX12_hasBy_42 rfl rfl ?_
  refine g_callSI (st := []) (s_X12_isHere hX t11 v1 h9) kml_X12_61 kst_X12_isHere kii_X12 kcd_X12_isHere ds_X12_isHere rfl ⟨Nat.le_of_ble_eq_true rfl, Nat.le_of_ble_eq_true rfl⟩ (Nat.le_of_ble_eq_true rfl) rfl dX12_hasBy_43 (fun r13 h12 => ?_)
  refine g_ifeq (tgt := 65) dX12_hasBy_46 (by decide) ?_ ?_
  · refine g_bipush (v := 6) dX12_hasBy_65 (by decide) ?_
    exact g_sub2 [1, 2, 3, 5] rfl (s_X12_hasBy_b67 hX v1 v2 v3 v5 6 h12)
  · refine g_aload_n 0 dX12_hasBy_49 rfl rfl ?_
    refine g_getR kfl_X12_13 fo_X12_m dX12_hasBy_50 (fun t14 => ?_)
    refine g_iload_n 1 dX12_hasBy_53 rfl rfl ?_
    refine g_iconst (v := 2) dX12_hasBy_54 (by decide) ?_
    refine g_callSI (st := [vR t14]) (s_X12_of hX v1 2 h12) kml_X12_53 kst_X12_of kii_X12 kcd_X12_of ds_X12_of rfl ⟨Nat.le_of_ble_eq_true rfl, Nat.le_of_ble_eq_true rfl⟩ (Nat.le_of_ble_eq_true rfl) rfl dX12_hasBy_55 (fun r16 h15 => ?_)
    refine g_iaload dX12_hasBy_58 (fun t17 => ?_)
    refine g_bipush (v := 20) dX12_hasBy_59 (by decide) ?_
    refine g_idivK dX12_hasBy_61 (by decide) ?_
    refine g_goto (tgt := 67) dX12_hasBy_62 (by decide) ?_
    exact g_sub2 [1, 2, 3, 5] rfl (s_X12_hasBy_b67 hX v1 v2 v3 v5 (t17 / 20) h15)
abbrev p_X12_hasLeftNext (X : GX) (h0 : AH) : PX Int32 := (X, (fun x => Sum.inl (rI x)), (4, 86, 2), h0)
def f_X12_hasLeftNext (v0 : Option Nat) (v1 : Int32) (h : AH) : Option (Int32 × AH) :=
    (gR h v0 [12] 1).bind fun t1 =>
    bd (f_X12_day t1 0 h) fun u3 h2 =>
    (gR h2 v0 [12] 1).bind fun t4 =>
    bd (f_X12_isHere t4 v1 h2) fun r6 h5 =>
    (if r6 = 0 then
    some (1, h5)
    else some (0, h5))
set_option maxRecDepth 100000 in
set_option maxHeartbeats 4000000 in
theorem s_X12_hasLeftNext {X : GX} (hX : XOK X) (v0 : Option Nat) (v1 : Int32) (h : AH) : Snd X yX12_hasLeftNext cX12_hasLeftNext 2 (some .boolean) 4 86 rI [vR v0, vI v1] h (f_X12_hasLeftNext v0 v1 h) := by
  refine snd_of hX (by decide +kernel) (Nat.le_of_ble_eq_true rfl) ?_
  show Gp (p_X12_hasLeftNext X h) RX12 "hasLeftNext" cX12_hasLeftNext (some .boolean) 0 [(0, vR v0), (1, vI v1)] [] h _
  unfold f_X12_hasLeftNext
  refine g_aload_n 0 dX12_hasLeftNext_0 rfl rfl ?_
  refine g_getR kfl_X12_13 fo_X12_m dX12_hasLeftNext_1 (fun t1 => ?_)
  refine g_iconst (v := 0) dX12_hasLeftNext_4 (by decide) ?_
  refine g_callSU (st := []) (s_X12_day hX t1 0 h) kml_X12_82 kst_X12_day kii_X12 kcd_X12_day ds_X12_day rfl ⟨Nat.le_of_ble_eq_true rfl, Nat.le_of_ble_eq_true rfl⟩ (Nat.le_of_ble_eq_true rfl) rfl dX12_hasLeftNext_5 (fun u3 h2 => ?_)
  refine g_aload_n 0 dX12_hasLeftNext_8 rfl rfl ?_
  refine g_getR kfl_X12_13 fo_X12_m dX12_hasLeftNext_9 (fun t4 => ?_)
  refine g_iload_n 1 dX12_hasLeftNext_12 rfl rfl ?_
  refine g_callSI (st := []) (s_X12_isHere hX t4 v1 h2) kml_X12_61 kst_X12_isHere kii_X12 kcd_X12_isHere ds_X12_isHere rfl ⟨Nat.le_of_ble_eq_true rfl, Nat.le_of_ble_eq_true rfl⟩ (Nat.le_of_ble_eq_true rfl) rfl dX12_hasLeftNext_13 (fun r6 h5 => ?_)
  refine g_ifne (tgt := 23) dX12_hasLeftNext_16 (by decide) ?_ ?_
  · refine g_iconst (v := 0) dX12_hasLeftNext_23 (by decide) ?_
    exact g_zreturn (by decide +kernel) rfl dX12_hasLeftNext_24
  · refine g_iconst (v := 1) dX12_hasLeftNext_19 (by decide) ?_
    refine g_goto (tgt := 24) dX12_hasLeftNext_20 (by decide) ?_
    exact g_zreturn (by decide +kernel) rfl dX12_hasLeftNext_24
abbrev p_X12_here (X : GX) (h0 : AH) : PX Int32 := (X, (fun x => Sum.inl (rI x)), (0, 0, 1), h0)
def f_X12_here (v0 : Option Nat) (h : AH) : Option (Int32 × AH) :=
    (gI h v0 [12] 5).bind fun t1 =>
    (gI h v0 [12] 7).bind fun t2 =>
    (if t2 ≤ t1 then
    some ((-1), h)
    else (gR h v0 [12] 17).bind fun t3 =>
    (gI h v0 [12] 6).bind fun t4 =>
    (gI h v0 [12] 5).bind fun t5 =>
    (iA h t3 (t4 + t5)).bind fun t6 =>
    some ((t6 &&& 255), h))
set_option maxRecDepth 100000 in
set_option maxHeartbeats 4000000 in
theorem s_X12_here {X : GX} (hX : XOK X) (v0 : Option Nat) (h : AH) : Snd X yX12_here cX12_here 1 (some .int) 0 0 rI [vR v0] h (f_X12_here v0 h) := by
  refine snd_of hX (by decide +kernel) (Nat.le_of_ble_eq_true rfl) ?_
  show Gp (p_X12_here X h) RX12 "here" cX12_here (some .int) 0 [(0, vR v0)] [] h _
  unfold f_X12_here
  refine g_aload_n 0 dX12_here_0 rfl rfl ?_
  refine g_getI kfl_X12_89 fo_X12_place dX12_here_1 (fun t1 => ?_)
  refine g_aload_n 0 dX12_here_4 rfl rfl ?_
  refine g_getI kfl_X12_93 fo_X12_rowEnd dX12_here_5 (fun t2 => ?_)
  refine g_icmpge (tgt := 32) dX12_here_8 (by decide) ?_ ?_
  · refine g_iconst (v := (-1)) dX12_here_32 (by decide) ?_
    exact g_ireturn rfl dX12_here_33
  · refine g_aload_n 0 dX12_here_11 rfl rfl ?_
    refine g_getR kfl_X12_46 fo_X12_element dX12_here_12 (fun t3 => ?_)
    refine g_aload_n 0 dX12_here_15 rfl rfl ?_
    refine g_getI kfl_X12_96 fo_X12_rowAt dX12_here_16 (fun t4 => ?_)
    refine g_aload_n 0 dX12_here_19 rfl rfl ?_
    refine g_getI kfl_X12_89 fo_X12_place dX12_here_20 (fun t5 => ?_)
    refine g_iadd dX12_here_23 ?_
    refine g_iaload dX12_here_24 (fun t6 => ?_)
    refine g_sipush (v := 255) dX12_here_25 (by decide) ?_
    refine g_iand dX12_here_28 ?_
    refine g_goto (tgt := 33) dX12_here_29 (by decide) ?_
    exact g_ireturn rfl dX12_here_33
abbrev p_X12_readsNumber (X : GX) (h0 : AH) : PX Int32 := (X, (fun x => Sum.inl (rI x)), (1, 22, 4), h0)
def f_X12_readsNumber_b9 : Nat → Option Nat → Int32 → Int32 → Int32 → AH → Option (Int32 × AH)
  | 0 => fun _ _ _ _ _ => none
  | n + 1 => fun x0 x1 x2 x3 h =>
    (if x2 ≤ x3 then
    some (1, h)
    else bd (cv h x0 12 (f_X12_here x0 h)) fun r4 h3 =>
    bd (f_X12_isIn r4 48 57 h3) fun r6 h5 =>
    (if r6 = 0 then
    some (0, h5)
    else (gR h5 x0 [12] 8).bind fun t7 =>
    (gR h5 x0 [12] 8).bind fun t8 =>
    (iA h5 t8 x1).bind fun t9 =>
    bd (cv h5 x0 12 (f_X12_here x0 h5)) fun r11 h10 =>
    (iS h10 t7 x1 (((10 * t9) + r11) - 48)).bind fun h12 =>
    (gI h12 x0 [12] 5).bind fun t13 =>
    (pI h12 x0 [12] 5 (t13 + 1)).bind fun h14 =>
    f_X12_readsNumber_b9 n x0 x1 x2 (x3 + 1) h14))
set_option maxRecDepth 100000 in
set_option maxHeartbeats 4000000 in
theorem s_X12_readsNumber_b9 {X : GX} (hX : XOK X) {h0 : AH} : ∀ (n : Nat) (x0 : Option Nat) (x1 : Int32) (x2 : Int32) (x3 : Int32) (h : AH), Gp (p_X12_readsNumber X h0) RX12 "readsNumber" cX12_readsNumber (some .boolean) 9 [(0, vR x0), (1, vI x1), (2, vI x2), (3, vI x3)] [] h (f_X12_readsNumber_b9 n x0 x1 x2 x3 h) := by
  intro n
  induction n with
  | zero => intro x0 x1 x2 x3 h; exact g_none
  | succ n ih =>
    intro x0 x1 x2 x3 h
    rw [f_X12_readsNumber_b9]
    refine g_iload_n 3 dX12_readsNumber_9 rfl rfl ?_
    refine g_iload_n 2 dX12_readsNumber_10 rfl rfl ?_
    refine g_icmpge (tgt := 69) dX12_readsNumber_11 (by decide) ?_ ?_
    · refine g_iconst (v := 1) dX12_readsNumber_69 (by decide) ?_
      exact g_zreturn (by decide +kernel) rfl dX12_readsNumber_70
    · refine g_aload_n 0 dX12_readsNumber_14 rfl rfl ?_
      refine g_callVI (st := []) (ci := 12) rfl (s_X12_here hX x0 h) kml_X12_99 kim_X12_here kse_X12_here kii_X12 kcd_X12_here rfl ds_X12_here rfl ⟨Nat.le_of_ble_eq_true rfl, Nat.le_of_ble_eq_true rfl⟩ (Nat.le_of_ble_eq_true rfl) rfl dX12_readsNumber_15 (fun r4 h3 => ?_)
      refine g_bipush (v := 48) dX12_readsNumber_18 (by decide) ?_
      refine g_bipush (v := 57) dX12_readsNumber_20 (by decide) ?_
      refine g_callSI (st := []) (s_X12_isIn hX r4 48 57 h3) kml_X12_49 kst_X12_isIn kii_X12 kcd_X12_isIn ds_X12_isIn rfl ⟨Nat.le_of_ble_eq_true rfl, Nat.le_of_ble_eq_true rfl⟩ (Nat.le_of_ble_eq_true rfl) rfl dX12_readsNumber_22 (fun r6 h5 => ?_)
      refine g_ifne (tgt := 30) dX12_readsNumber_25 (by decide) ?_ ?_
      · refine g_aload_n 0 dX12_readsNumber_30 rfl rfl ?_
        refine g_getR kfl_X12_22 fo_X12_numbers dX12_readsNumber_31 (fun t7 => ?_)
        refine g_iload_n 1 dX12_readsNumber_34 rfl rfl ?_
        refine g_bipush (v := 10) dX12_readsNumber_35 (by decide) ?_
        refine g_aload_n 0 dX12_readsNumber_37 rfl rfl ?_
        refine g_getR kfl_X12_22 fo_X12_numbers dX12_readsNumber_38 (fun t8 => ?_)
        refine g_iload_n 1 dX12_readsNumber_41 rfl rfl ?_
        refine g_iaload dX12_readsNumber_42 (fun t9 => ?_)
        refine g_imul dX12_readsNumber_43 ?_
        refine g_aload_n 0 dX12_readsNumber_44 rfl rfl ?_
        refine g_callVI (st := [vI ((10 * t9)), vI x1, vR t7]) (ci := 12) rfl (s_X12_here hX x0 h5) kml_X12_99 kim_X12_here kse_X12_here kii_X12 kcd_X12_here rfl ds_X12_here rfl ⟨Nat.le_of_ble_eq_true rfl, Nat.le_of_ble_eq_true rfl⟩ (Nat.le_of_ble_eq_true rfl) rfl dX12_readsNumber_45 (fun r11 h10 => ?_)
        refine g_iadd dX12_readsNumber_48 ?_
        refine g_bipush (v := 48) dX12_readsNumber_49 (by decide) ?_
        refine g_isub dX12_readsNumber_51 ?_
        refine g_iastore dX12_readsNumber_52 (fun h12 => ?_)
        refine g_aload_n 0 dX12_readsNumber_53 rfl rfl ?_
        refine g_dup dX12_readsNumber_54 rfl ?_
        refine g_getI kfl_X12_89 fo_X12_place dX12_readsNumber_55 (fun t13 => ?_)
        refine g_iconst (v := 1) dX12_readsNumber_58 (by decide) ?_
        refine g_iadd dX12_readsNumber_59 ?_
        refine g_putI kfl_X12_89 fo_X12_place pd_I nI'.1 nI'.2 dX12_readsNumber_60 (fun h14 => ?_)
        refine g_iinc 3 (v := (x3 + 1)) (ls' := [(3, vI ((x3 + 1))), (0, vR x0), (1, vI x1), (2, vI x2)]) dX12_readsNumber_63 rfl rfl (Nat.le_of_ble_eq_true rfl) rfl ?_
        refine g_goto (tgt := 9) dX12_readsNumber_66 (by decide) ?_
        exact g_sub2 [1, 2, 3, 0] rfl (ih x0 x1 x2 (x3 + 1) h14)
      · refine g_iconst (v := 0) dX12_readsNumber_28 (by decide) ?_
        exact g_zreturn (by decide +kernel) rfl dX12_readsNumber_29
def f_X12_readsNumber (v0 : Option Nat) (v1 : Int32) (v2 : Int32) (h : AH) : Option (Int32 × AH) :=
    (gR h v0 [12] 8).bind fun t1 =>
    (iS h t1 v1 0).bind fun h2 =>
    f_X12_readsNumber_b9 FU v0 v1 v2 0 h2
set_option maxRecDepth 100000 in
set_option maxHeartbeats 4000000 in
theorem s_X12_readsNumber {X : GX} (hX : XOK X) (v0 : Option Nat) (v1 : Int32) (v2 : Int32) (h : AH) : Snd X yX12_readsNumber cX12_readsNumber 4 (some .boolean) 1 22 rI [vR v0, vI v1, vI v2] h (f_X12_readsNumber v0 v1 v2 h) := by
  refine snd_of hX (by decide +kernel) (Nat.le_of_ble_eq_true rfl) ?_
  show Gp (p_X12_readsNumber X h) RX12 "readsNumber" cX12_readsNumber (some .boolean) 0 [(0, vR v0), (1, vI v1), (2, vI v2)] [] h _
  unfold f_X12_readsNumber
  refine g_aload_n 0 dX12_readsNumber_0 rfl rfl ?_
  refine g_getR kfl_X12_22 fo_X12_numbers dX12_readsNumber_1 (fun t1 => ?_)
  refine g_iload_n 1 dX12_readsNumber_4 rfl rfl ?_
  refine g_iconst (v := 0) dX12_readsNumber_5 (by decide) ?_
  refine g_iastore dX12_readsNumber_6 (fun h2 => ?_)
  refine g_iconst (v := 0) dX12_readsNumber_7 (by decide) ?_
  refine g_istore_n (ls' := [(3, vI 0), (0, vR v0), (1, vI v1), (2, vI v2)]) dX12_readsNumber_8 rfl (Nat.le_of_ble_eq_true rfl) rfl ?_
  exact g_sub2 [1, 2, 3, 0] rfl (s_X12_readsNumber_b9 hX FU v0 v1 v2 0 h2)
abbrev p_X12_readsStatement (X : GX) (h0 : AH) : PX Int32 := (X, (fun x => Sum.inl (rI x)), (2, 45, 3), h0)
def f_X12_readsStatement_b203 (x0 : Option Nat) (x2 : Int32) (h : AH) : Option (Int32 × AH) :=
    (if x2 = 0 then
    some (0, h)
    else bd (cv h x0 12 (f_X12_here x0 h)) fun r9 h8 =>
    (if r9 = 59 then
    (gI h8 x0 [12] 5).bind fun t10 =>
    (pI h8 x0 [12] 5 (t10 + 1)).bind fun h11 =>
    some (1, h11)
    else some (0, h8)))
set_option maxRecDepth 100000 in
set_option maxHeartbeats 4000000 in
theorem s_X12_readsStatement_b203 {X : GX} (hX : XOK X) {h0 : AH} : ∀ (x0 : Option Nat) (x2 : Int32) (h : AH), Gp (p_X12_readsStatement X h0) RX12 "readsStatement" cX12_readsStatement (some .boolean) 203 [(0, vR x0), (2, vI x2)] [] h (f_X12_readsStatement_b203 x0 x2 h) := by
  intro x0 x2 h
  unfold f_X12_readsStatement_b203
  refine g_iload_n 1 dX12_readsStatement_203 rfl rfl ?_
  refine g_ifeq (tgt := 216) dX12_readsStatement_204 (by decide) ?_ ?_
  · refine g_iconst (v := 0) dX12_readsStatement_216 (by decide) ?_
    exact g_zreturn (by decide +kernel) rfl dX12_readsStatement_217
  · refine g_aload_n 0 dX12_readsStatement_207 rfl rfl ?_
    refine g_callVI (st := []) (ci := 12) rfl (s_X12_here hX x0 h) kml_X12_99 kim_X12_here kse_X12_here kii_X12 kcd_X12_here rfl ds_X12_here rfl ⟨Nat.le_of_ble_eq_true rfl, Nat.le_of_ble_eq_true rfl⟩ (Nat.le_of_ble_eq_true rfl) rfl dX12_readsStatement_208 (fun r9 h8 => ?_)
    refine g_bipush (v := 59) dX12_readsStatement_211 (by decide) ?_
    refine g_icmpeq (tgt := 218) dX12_readsStatement_213 (by decide) ?_ ?_
    · refine g_aload_n 0 dX12_readsStatement_218 rfl rfl ?_
      refine g_dup dX12_readsStatement_219 rfl ?_
      refine g_getI kfl_X12_89 fo_X12_place dX12_readsStatement_220 (fun t10 => ?_)
      refine g_iconst (v := 1) dX12_readsStatement_223 (by decide) ?_
      refine g_iadd dX12_readsStatement_224 ?_
      refine g_putI kfl_X12_89 fo_X12_place pd_I nI'.1 nI'.2 dX12_readsStatement_225 (fun h11 => ?_)
      refine g_iconst (v := 1) dX12_readsStatement_228 (by decide) ?_
      exact g_zreturn (by decide +kernel) rfl dX12_readsStatement_229
    · refine g_iconst (v := 0) dX12_readsStatement_216 (by decide) ?_
      exact g_zreturn (by decide +kernel) rfl dX12_readsStatement_217
def f_X12_readsStatement_b167 (x0 : Option Nat) (y0 : Int32) (h : AH) : Option (Int32 × AH) :=
    f_X12_readsStatement_b203 x0 y0 h
set_option maxRecDepth 100000 in
set_option maxHeartbeats 4000000 in
theorem s_X12_readsStatement_b167 {X : GX} (hX : XOK X) {h0 : AH} : ∀ (x0 : Option Nat) (y0 : Int32) (h : AH), Gp (p_X12_readsStatement X h0) RX12 "readsStatement" cX12_readsStatement (some .boolean) 167 [(0, vR x0)] [vI y0] h (f_X12_readsStatement_b167 x0 y0 h) := by
  intro x0 y0 h
  unfold f_X12_readsStatement_b167
  refine g_istore_n (ls' := [(2, vI y0), (0, vR x0)]) dX12_readsStatement_167 rfl (Nat.le_of_ble_eq_true rfl) rfl ?_
  refine g_goto (tgt := 203) dX12_readsStatement_168 (by decide) ?_
  exact g_sub2 [1, 0] rfl (s_X12_readsStatement_b203 hX x0 y0 h)
def f_X12_readsStatement_b166 (x0 : Option Nat) (h : AH) : Option (Int32 × AH) :=
    f_X12_readsStatement_b167 x0 0 h
set_option maxRecDepth 100000 in
set_option maxHeartbeats 4000000 in
theorem s_X12_readsStatement_b166 {X : GX} (hX : XOK X) {h0 : AH} : ∀ (x0 : Option Nat) (h : AH), Gp (p_X12_readsStatement X h0) RX12 "readsStatement" cX12_readsStatement (some .boolean) 166 [(0, vR x0)] [] h (f_X12_readsStatement_b166 x0 h) := by
  intro x0 h
  unfold f_X12_readsStatement_b166
  refine g_iconst (v := 0) dX12_readsStatement_166 (by decide) ?_
  exact g_sub2 [0] rfl (s_X12_readsStatement_b167 hX x0 0 h)
def f_X12_readsStatement_b144 (x0 : Option Nat) (h : AH) : Option (Int32 × AH) :=
    bd (cv h x0 12 (f_X12_readsNumber x0 0 1 h)) fun r7 h6 =>
    (if r7 = 0 then
    f_X12_readsStatement_b166 x0 h6
    else bd (cv h6 x0 12 (f_X12_readsNumber x0 1 1 h6)) fun r13 h12 =>
    (if r13 = 0 then
    f_X12_readsStatement_b166 x0 h12
    else f_X12_readsStatement_b167 x0 1 h12))
set_option maxRecDepth 100000 in
set_option maxHeartbeats 4000000 in
theorem s_X12_readsStatement_b144 {X : GX} (hX : XOK X) {h0 : AH} : ∀ (x0 : Option Nat) (h : AH), Gp (p_X12_readsStatement X h0) RX12 "readsStatement" cX12_readsStatement (some .boolean) 144 [(0, vR x0)] [] h (f_X12_readsStatement_b144 x0 h) := by
  intro x0 h
  unfold f_X12_readsStatement_b144
  refine g_aload_n 0 dX12_readsStatement_144 rfl rfl ?_
  refine g_iconst (v := 0) dX12_readsStatement_145 (by decide) ?_
  refine g_iconst (v := 1) dX12_readsStatement_146 (by decide) ?_
  refine g_callVI (st := []) (ci := 12) rfl (s_X12_readsNumber hX x0 0 1 h) kml_X12_103 kim_X12_readsNumber kse_X12_readsNumber kii_X12 kcd_X12_readsNumber rfl ds_X12_readsNumber rfl ⟨Nat.le_of_ble_eq_true rfl, Nat.le_of_ble_eq_true rfl⟩ (Nat.le_of_ble_eq_true rfl) rfl dX12_readsStatement_147 (fun r7 h6 => ?_)
  refine g_ifeq (tgt := 166) dX12_readsStatement_150 (by decide) ?_ ?_
  · exact g_sub2 [0] rfl (s_X12_readsStatement_b166 hX x0 h6)
  · refine g_aload_n 0 dX12_readsStatement_153 rfl rfl ?_
    refine g_iconst (v := 1) dX12_readsStatement_154 (by decide) ?_
    refine g_iconst (v := 1) dX12_readsStatement_155 (by decide) ?_
    refine g_callVI (st := []) (ci := 12) rfl (s_X12_readsNumber hX x0 1 1 h6) kml_X12_103 kim_X12_readsNumber kse_X12_readsNumber kii_X12 kcd_X12_readsNumber rfl ds_X12_readsNumber rfl ⟨Nat.le_of_ble_eq_true rfl, Nat.le_of_ble_eq_true rfl⟩ (Nat.le_of_ble_eq_true rfl) rfl dX12_readsStatement_156 (fun r13 h12 => ?_)
    refine g_ifeq (tgt := 166) dX12_readsStatement_159 (by decide) ?_ ?_
    · exact g_sub2 [0] rfl (s_X12_readsStatement_b166 hX x0 h12)
    · refine g_iconst (v := 1) dX12_readsStatement_162 (by decide) ?_
      refine g_goto (tgt := 167) dX12_readsStatement_163 (by decide) ?_
      exact g_sub2 [0] rfl (s_X12_readsStatement_b167 hX x0 1 h12)
def f_X12_readsStatement_b140 (x0 : Option Nat) (y0 : Int32) (h : AH) : Option (Int32 × AH) :=
    f_X12_readsStatement_b203 x0 y0 h
set_option maxRecDepth 100000 in
set_option maxHeartbeats 4000000 in
theorem s_X12_readsStatement_b140 {X : GX} (hX : XOK X) {h0 : AH} : ∀ (x0 : Option Nat) (y0 : Int32) (h : AH), Gp (p_X12_readsStatement X h0) RX12 "readsStatement" cX12_readsStatement (some .boolean) 140 [(0, vR x0)] [vI y0] h (f_X12_readsStatement_b140 x0 y0 h) := by
  intro x0 y0 h
  unfold f_X12_readsStatement_b140
  refine g_istore_n (ls' := [(2, vI y0), (0, vR x0)]) dX12_readsStatement_140 rfl (Nat.le_of_ble_eq_true rfl) rfl ?_
  refine g_goto (tgt := 203) dX12_readsStatement_141 (by decide) ?_
  exact g_sub2 [1, 0] rfl (s_X12_readsStatement_b203 hX x0 y0 h)
def f_X12_readsStatement_b139 (x0 : Option Nat) (h : AH) : Option (Int32 × AH) :=
    f_X12_readsStatement_b140 x0 0 h
set_option maxRecDepth 100000 in
set_option maxHeartbeats 4000000 in
theorem s_X12_readsStatement_b139 {X : GX} (hX : XOK X) {h0 : AH} : ∀ (x0 : Option Nat) (h : AH), Gp (p_X12_readsStatement X h0) RX12 "readsStatement" cX12_readsStatement (some .boolean) 139 [(0, vR x0)] [] h (f_X12_readsStatement_b139 x0 h) := by
  intro x0 h
  unfold f_X12_readsStatement_b139
  refine g_iconst (v := 0) dX12_readsStatement_139 (by decide) ?_
  exact g_sub2 [0] rfl (s_X12_readsStatement_b140 hX x0 0 h)
def f_X12_readsStatement_b108 (x0 : Option Nat) (h : AH) : Option (Int32 × AH) :=
    bd (cv h x0 12 (f_X12_readsNumber x0 0 1 h)) fun r19 h18 =>
    (if r19 = 0 then
    f_X12_readsStatement_b139 x0 h18
    else bd (cv h18 x0 12 (f_X12_readsNumber x0 1 1 h18)) fun r21 h20 =>
    (if r21 = 0 then
    f_X12_readsStatement_b139 x0 h20
    else bd (cv h20 x0 12 (f_X12_readsNumber x0 2 2 h20)) fun r23 h22 =>
    (if r23 = 0 then
    f_X12_readsStatement_b139 x0 h22
    else f_X12_readsStatement_b140 x0 1 h22)))
set_option maxRecDepth 100000 in
set_option maxHeartbeats 4000000 in
theorem s_X12_readsStatement_b108 {X : GX} (hX : XOK X) {h0 : AH} : ∀ (x0 : Option Nat) (h : AH), Gp (p_X12_readsStatement X h0) RX12 "readsStatement" cX12_readsStatement (some .boolean) 108 [(0, vR x0)] [] h (f_X12_readsStatement_b108 x0 h) := by
  intro x0 h
  unfold f_X12_readsStatement_b108
  refine g_aload_n 0 dX12_readsStatement_108 rfl rfl ?_
  refine g_iconst (v := 0) dX12_readsStatement_109 (by decide) ?_
  refine g_iconst (v := 1) dX12_readsStatement_110 (by decide) ?_
  refine g_callVI (st := []) (ci := 12) rfl (s_X12_readsNumber hX x0 0 1 h) kml_X12_103 kim_X12_readsNumber kse_X12_readsNumber kii_X12 kcd_X12_readsNumber rfl ds_X12_readsNumber rfl ⟨Nat.le_of_ble_eq_true rfl, Nat.le_of_ble_eq_true rfl⟩ (Nat.le_of_ble_eq_true rfl) rfl dX12_readsStatement_111 (fun r19 h18 => ?_)
  refine g_ifeq (tgt := 139) dX12_readsStatement_114 (by decide) ?_ ?_
  · exact g_sub2 [0] rfl (s_X12_readsStatement_b139 hX x0 h18)
  · refine g_aload_n 0 dX12_readsStatement_117 rfl rfl ?_
    refine g_iconst (v := 1) dX12_readsStatement_118 (by decide) ?_
    refine g_iconst (v := 1) dX12_readsStatement_119 (by decide) ?_
    refine g_callVI (st := []) (ci := 12) rfl (s_X12_readsNumber hX x0 1 1 h18) kml_X12_103 kim_X12_readsNumber kse_X12_readsNumber kii_X12 kcd_X12_readsNumber rfl ds_X12_readsNumber rfl ⟨Nat.le_of_ble_eq_true rfl, Nat.le_of_ble_eq_true rfl⟩ (Nat.le_of_ble_eq_true rfl) rfl dX12_readsStatement_120 (fun r21 h20 => ?_)
    refine g_ifeq (tgt := 139) dX12_readsStatement_123 (by decide) ?_ ?_
    · exact g_sub2 [0] rfl (s_X12_readsStatement_b139 hX x0 h20)
    · refine g_aload_n 0 dX12_readsStatement_126 rfl rfl ?_
      refine g_iconst (v := 2) dX12_readsStatement_127 (by decide) ?_
      refine g_iconst (v := 2) dX12_readsStatement_128 (by decide) ?_
      refine g_callVI (st := []) (ci := 12) rfl (s_X12_readsNumber hX x0 2 2 h20) kml_X12_103 kim_X12_readsNumber kse_X12_readsNumber kii_X12 kcd_X12_readsNumber rfl ds_X12_readsNumber rfl ⟨Nat.le_of_ble_eq_true rfl, Nat.le_of_ble_eq_true rfl⟩ (Nat.le_of_ble_eq_true rfl) rfl dX12_readsStatement_129 (fun r23 h22 => ?_)
      refine g_ifeq (tgt := 139) dX12_readsStatement_132 (by decide) ?_ ?_
      · exact g_sub2 [0] rfl (s_X12_readsStatement_b139 hX x0 h22)
      · refine g_iconst (v := 1) dX12_readsStatement_135 (by decide) ?_
        refine g_goto (tgt := 140) dX12_readsStatement_136 (by decide) ?_
        exact g_sub2 [0] rfl (s_X12_readsStatement_b140 hX x0 1 h22)
def f_X12_readsStatement_b191 (x0 : Option Nat) (h : AH) : Option (Int32 × AH) :=
    (gI h x0 [12] 5).bind fun t29 =>
    (pI h x0 [12] 5 (t29 - 1)).bind fun h30 =>
    some (0, h30)
set_option maxRecDepth 100000 in
set_option maxHeartbeats 4000000 in
theorem s_X12_readsStatement_b191 {X : GX} (hX : XOK X) {h0 : AH} : ∀ (x0 : Option Nat) (h : AH), Gp (p_X12_readsStatement X h0) RX12 "readsStatement" cX12_readsStatement (some .boolean) 191 [(0, vR x0)] [] h (f_X12_readsStatement_b191 x0 h) := by
  intro x0 h
  unfold f_X12_readsStatement_b191
  refine g_aload_n 0 dX12_readsStatement_191 rfl rfl ?_
  refine g_dup dX12_readsStatement_192 rfl ?_
  refine g_getI kfl_X12_89 fo_X12_place dX12_readsStatement_193 (fun t29 => ?_)
  refine g_iconst (v := 1) dX12_readsStatement_196 (by decide) ?_
  refine g_isub dX12_readsStatement_197 ?_
  refine g_putI kfl_X12_89 fo_X12_place pd_I nI'.1 nI'.2 dX12_readsStatement_198 (fun h30 => ?_)
  refine g_iconst (v := 0) dX12_readsStatement_201 (by decide) ?_
  exact g_zreturn (by decide +kernel) rfl dX12_readsStatement_202
def f_X12_readsStatement (v0 : Option Nat) (h : AH) : Option (Int32 × AH) :=
    bd (cv h v0 12 (f_X12_here v0 h)) fun r2 h1 =>
    (gI h1 v0 [12] 5).bind fun t3 =>
    (pI h1 v0 [12] 5 (t3 + 1)).bind fun h4 =>
    (if r2 = 98 then
    f_X12_readsStatement_b144 v0 h4
    else (if r2 = 100 then
    bd (cv h4 v0 12 (f_X12_readsNumber v0 0 2 h4)) fun r16 h15 =>
    f_X12_readsStatement_b203 v0 r16 h15
    else (if r2 = 103 then
    f_X12_readsStatement_b108 v0 h4
    else (if r2 = 108 then
    f_X12_readsStatement_b108 v0 h4
    else (if r2 = 115 then
    f_X12_readsStatement_b144 v0 h4
    else (if r2 = 116 then
    bd (cv h4 v0 12 (f_X12_readsNumber v0 0 1 h4)) fun r28 h27 =>
    f_X12_readsStatement_b203 v0 r28 h27
    else f_X12_readsStatement_b191 v0 h4))))))
set_option maxRecDepth 100000 in
set_option maxHeartbeats 4000000 in
theorem s_X12_readsStatement {X : GX} (hX : XOK X) (v0 : Option Nat) (h : AH) : Snd X yX12_readsStatement cX12_readsStatement 3 (some .boolean) 2 45 rI [vR v0] h (f_X12_readsStatement v0 h) := by
  refine snd_of hX (by decide +kernel) (Nat.le_of_ble_eq_true rfl) ?_
  show Gp (p_X12_readsStatement X h) RX12 "readsStatement" cX12_readsStatement (some .boolean) 0 [(0, vR v0)] [] h _
  unfold f_X12_readsStatement
  refine g_aload_n 0 dX12_readsStatement_0 rfl rfl ?_
  refine g_callVI (st := []) (ci := 12) rfl (s_X12_here hX v0 h) kml_X12_99 kim_X12_here kse_X12_here kii_X12 kcd_X12_here rfl ds_X12_here rfl ⟨Nat.le_of_ble_eq_true rfl, Nat.le_of_ble_eq_true rfl⟩ (Nat.le_of_ble_eq_true rfl) rfl dX12_readsStatement_1 (fun r2 h1 => ?_)
  refine g_istore_n (ls' := [(1, vI r2), (0, vR v0)]) dX12_readsStatement_4 rfl (Nat.le_of_ble_eq_true rfl) rfl ?_
  refine g_aload_n 1 dX12_readsStatement_5 rfl rfl ?_
  refine g_dup dX12_readsStatement_6 rfl ?_
  refine g_getI kfl_X12_89 fo_X12_place dX12_readsStatement_7 (fun t3 => ?_)
  refine g_iconst (v := 1) dX12_readsStatement_10 (by decide) ?_
  refine g_iadd dX12_readsStatement_11 ?_
  refine g_putI kfl_X12_89 fo_X12_place pd_I nI'.1 nI'.2 dX12_readsStatement_12 (fun h4 => ?_)
  refine g_iload_n 0 dX12_readsStatement_15 rfl rfl ?_
  refine g_tsIn (c := 98) (off := 128) (tgt := 144) dX12_readsStatement_16 (by decide) (by decide) (by decide) (by decide) ?_ (fun n5 => ?_)
  · exact g_sub2 [1] rfl (s_X12_readsStatement_b144 hX v0 h4)
  refine g_tsIn (c := 100) (off := 165) (tgt := 181) dX12_readsStatement_16 (by decide) (by decide) (by decide) (by decide) ?_ (fun n14 => ?_)
  · refine g_aload_n 1 dX12_readsStatement_181 rfl rfl ?_
    refine g_iconst (v := 0) dX12_readsStatement_182 (by decide) ?_
    refine g_iconst (v := 2) dX12_readsStatement_183 (by decide) ?_
    refine g_callVI (st := []) (ci := 12) rfl (s_X12_readsNumber hX v0 0 2 h4) kml_X12_103 kim_X12_readsNumber kse_X12_readsNumber kii_X12 kcd_X12_readsNumber rfl ds_X12_readsNumber rfl ⟨Nat.le_of_ble_eq_true rfl, Nat.le_of_ble_eq_true rfl⟩ (Nat.le_of_ble_eq_true rfl) rfl dX12_readsStatement_184 (fun r16 h15 => ?_)
    refine g_istore_n (ls' := [(2, vI r16), (1, vI r2), (0, vR v0)]) dX12_readsStatement_187 rfl (Nat.le_of_ble_eq_true rfl) rfl ?_
    refine g_goto (tgt := 203) dX12_readsStatement_188 (by decide) ?_
    exact g_sub2 [2, 0] rfl (s_X12_readsStatement_b203 hX v0 r16 h15)
  refine g_tsIn (c := 103) (off := 92) (tgt := 108) dX12_readsStatement_16 (by decide) (by decide) (by decide) (by decide) ?_ (fun n17 => ?_)
  · exact g_sub2 [1] rfl (s_X12_readsStatement_b108 hX v0 h4)
  refine g_tsIn (c := 108) (off := 92) (tgt := 108) dX12_readsStatement_16 (by decide) (by decide) (by decide) (by decide) ?_ (fun n24 => ?_)
  · exact g_sub2 [1] rfl (s_X12_readsStatement_b108 hX v0 h4)
  refine g_tsIn (c := 115) (off := 128) (tgt := 144) dX12_readsStatement_16 (by decide) (by decide) (by decide) (by decide) ?_ (fun n25 => ?_)
  · exact g_sub2 [1] rfl (s_X12_readsStatement_b144 hX v0 h4)
  refine g_tsIn (c := 116) (off := 155) (tgt := 171) dX12_readsStatement_16 (by decide) (by decide) (by decide) (by decide) ?_ (fun n26 => ?_)
  · refine g_aload_n 1 dX12_readsStatement_171 rfl rfl ?_
    refine g_iconst (v := 0) dX12_readsStatement_172 (by decide) ?_
    refine g_iconst (v := 1) dX12_readsStatement_173 (by decide) ?_
    refine g_callVI (st := []) (ci := 12) rfl (s_X12_readsNumber hX v0 0 1 h4) kml_X12_103 kim_X12_readsNumber kse_X12_readsNumber kii_X12 kcd_X12_readsNumber rfl ds_X12_readsNumber rfl ⟨Nat.le_of_ble_eq_true rfl, Nat.le_of_ble_eq_true rfl⟩ (Nat.le_of_ble_eq_true rfl) rfl dX12_readsStatement_174 (fun r28 h27 => ?_)
    refine g_istore_n (ls' := [(2, vI r28), (1, vI r2), (0, vR v0)]) dX12_readsStatement_177 rfl (Nat.le_of_ble_eq_true rfl) rfl ?_
    refine g_goto (tgt := 203) dX12_readsStatement_178 (by decide) ?_
    exact g_sub2 [2, 0] rfl (s_X12_readsStatement_b203 hX v0 r28 h27)
  refine g_tsDef (tgt := 191) (keys := [98, 100, 103, 108, 115, 116]) (neK_cons (c := 98) (k := 98) n5 (by decide) (neK_cons (c := 100) (k := 100) n14 (by decide) (neK_cons (c := 103) (k := 103) n17 (by decide) (neK_cons (c := 108) (k := 108) n24 (by decide) (neK_cons (c := 115) (k := 115) n25 (by decide) (neK_cons (c := 116) (k := 116) n26 (by decide) neK_nil)))))) (by decide +kernel) dX12_readsStatement_16 (by decide) ?_
  exact g_sub2 [1] rfl (s_X12_readsStatement_b191 hX v0 h4)
abbrev p_X12_lighterBy (X : GX) (h0 : AH) : PX Int32 := (X, (fun x => Sum.inl (rI x)), (0, 0, 2), h0)
def f_X12_lighterBy (v0 : Int32) (v1 : Int32) (h : AH) : Option (Int32 × AH) :=
    (if v0 = 1 then
    some ((v1 / 2), h)
    else (if v0 = 2 then
    some (0, h)
    else (if v0 = 4 then
    some (((v1 / 2) + 1), h)
    else (if v0 = 5 then
    some (3, h)
    else (if v0 = 7 then
    some ((v1 / 2), h)
    else some (1, h))))))
set_option maxRecDepth 100000 in
set_option maxHeartbeats 4000000 in
theorem s_X12_lighterBy {X : GX} (hX : XOK X) (v0 : Int32) (v1 : Int32) (h : AH) : Snd X yX12_lighterBy cX12_lighterBy 2 (some .int) 0 0 rI [vI v0, vI v1] h (f_X12_lighterBy v0 v1 h) := by
  refine snd_of hX (by decide +kernel) (Nat.le_of_ble_eq_true rfl) ?_
  show Gp (p_X12_lighterBy X h) RX12 "lighterBy" cX12_lighterBy (some .int) 0 [(0, vI v0), (1, vI v1)] [] h _
  unfold f_X12_lighterBy
  refine g_iload_n 0 dX12_lighterBy_0 rfl rfl ?_
  refine g_tsIn (c := 1) (off := 43) (tgt := 44) dX12_lighterBy_1 (by decide) (by decide) (by decide) (by decide) ?_ (fun n1 => ?_)
  · refine g_iload_n 1 dX12_lighterBy_44 rfl rfl ?_
    refine g_iconst (v := 2) dX12_lighterBy_45 (by decide) ?_
    refine g_idivK dX12_lighterBy_46 (by decide) ?_
    exact g_ireturn rfl dX12_lighterBy_47
  refine g_tsIn (c := 2) (off := 47) (tgt := 48) dX12_lighterBy_1 (by decide) (by decide) (by decide) (by decide) ?_ (fun n2 => ?_)
  · refine g_iconst (v := 0) dX12_lighterBy_48 (by decide) ?_
    exact g_ireturn rfl dX12_lighterBy_49
  refine g_tsIn (c := 4) (off := 49) (tgt := 50) dX12_lighterBy_1 (by decide) (by decide) (by decide) (by decide) ?_ (fun n3 => ?_)
  · refine g_iload_n 1 dX12_lighterBy_50 rfl rfl ?_
    refine g_iconst (v := 2) dX12_lighterBy_51 (by decide) ?_
    refine g_idivK dX12_lighterBy_52 (by decide) ?_
    refine g_iconst (v := 1) dX12_lighterBy_53 (by decide) ?_
    refine g_iadd dX12_lighterBy_54 ?_
    exact g_ireturn rfl dX12_lighterBy_55
  refine g_tsIn (c := 5) (off := 55) (tgt := 56) dX12_lighterBy_1 (by decide) (by decide) (by decide) (by decide) ?_ (fun n4 => ?_)
  · refine g_iconst (v := 3) dX12_lighterBy_56 (by decide) ?_
    exact g_ireturn rfl dX12_lighterBy_57
  refine g_tsIn (c := 7) (off := 43) (tgt := 44) dX12_lighterBy_1 (by decide) (by decide) (by decide) (by decide) ?_ (fun n5 => ?_)
  · refine g_iload_n 1 dX12_lighterBy_44 rfl rfl ?_
    refine g_iconst (v := 2) dX12_lighterBy_45 (by decide) ?_
    refine g_idivK dX12_lighterBy_46 (by decide) ?_
    exact g_ireturn rfl dX12_lighterBy_47
  refine g_tsDef (tgt := 58) (keys := [1, 2, 4, 5, 7]) (neK_cons (c := 1) (k := 1) n1 (by decide) (neK_cons (c := 2) (k := 2) n2 (by decide) (neK_cons (c := 4) (k := 4) n3 (by decide) (neK_cons (c := 5) (k := 5) n4 (by decide) (neK_cons (c := 7) (k := 7) n5 (by decide) neK_nil))))) (by decide +kernel) dX12_lighterBy_1 (by decide) ?_
  refine g_iconst (v := 1) dX12_lighterBy_58 (by decide) ?_
  exact g_ireturn rfl dX12_lighterBy_59
abbrev p_X12_tellsIn (X : GX) (h0 : AH) : PX Unit := (X, (fun x => Sum.inl (rU x)), (1, 21, 2), h0)
def f_X12_tellsIn (v0 : Option Nat) (v1 : Int32) (h : AH) : Option (Unit × AH) :=
    bd (f_X12_of v1 4 h) fun r2 h1 =>
    (iA h1 v0 r2).bind fun t3 =>
    (iS h1 v0 r2 (t3 - 1)).bind fun h4 =>
    bd (f_X12_of v1 2 h4) fun r6 h5 =>
    bd (f_X12_of v1 2 h5) fun r8 h7 =>
    (iA h7 v0 r8).bind fun t9 =>
    bd (f_X12_of v1 0 h7) fun r11 h10 =>
    (iA h10 v0 r11).bind fun t12 =>
    bd (f_X12_of v1 1 h10) fun r14 h13 =>
    (iA h13 v0 r14).bind fun t15 =>
    bd (f_X12_lighterBy t12 t15 h13) fun r17 h16 =>
    bd (f_X12_held (t9 - r17) h16) fun r19 h18 =>
    (iS h18 v0 r6 r19).bind fun h20 =>
    some ((), h20)
set_option maxRecDepth 100000 in
set_option maxHeartbeats 4000000 in
theorem s_X12_tellsIn {X : GX} (hX : XOK X) (v0 : Option Nat) (v1 : Int32) (h : AH) : Snd X yX12_tellsIn cX12_tellsIn 2 none 1 21 rU [vR v0, vI v1] h (f_X12_tellsIn v0 v1 h) := by
  refine snd_of hX (by decide +kernel) (Nat.le_of_ble_eq_true rfl) ?_
  show Gp (p_X12_tellsIn X h) RX12 "tellsIn" cX12_tellsIn none 0 [(0, vR v0), (1, vI v1)] [] h _
  unfold f_X12_tellsIn
  refine g_aload_n 0 dX12_tellsIn_0 rfl rfl ?_
  refine g_iload_n 1 dX12_tellsIn_1 rfl rfl ?_
  refine g_iconst (v := 4) dX12_tellsIn_2 (by decide) ?_
  refine g_callSI (st := [vR v0]) (s_X12_of hX v1 4 h) kml_X12_53 kst_X12_of kii_X12 kcd_X12_of ds_X12_of rfl ⟨Nat.le_of_ble_eq_true rfl, Nat.le_of_ble_eq_true rfl⟩ (Nat.le_of_ble_eq_true rfl) rfl dX12_tellsIn_3 (fun r2 h1 => ?_)
  refine g_dup2 dX12_tellsIn_6 rfl rfl ?_
  refine g_iaload dX12_tellsIn_7 (fun t3 => ?_)
  refine g_iconst (v := 1) dX12_tellsIn_8 (by decide) ?_
  refine g_isub dX12_tellsIn_9 ?_
  refine g_iastore dX12_tellsIn_10 (fun h4 => ?_)
  refine g_aload_n 0 dX12_tellsIn_11 rfl rfl ?_
  refine g_iload_n 1 dX12_tellsIn_12 rfl rfl ?_
  refine g_iconst (v := 2) dX12_tellsIn_13 (by decide) ?_
  refine g_callSI (st := [vR v0]) (s_X12_of hX v1 2 h4) kml_X12_53 kst_X12_of kii_X12 kcd_X12_of ds_X12_of rfl ⟨Nat.le_of_ble_eq_true rfl, Nat.le_of_ble_eq_true rfl⟩ (Nat.le_of_ble_eq_true rfl) rfl dX12_tellsIn_14 (fun r6 h5 => ?_)
  refine g_aload_n 0 dX12_tellsIn_17 rfl rfl ?_
  refine g_iload_n 1 dX12_tellsIn_18 rfl rfl ?_
  refine g_iconst (v := 2) dX12_tellsIn_19 (by decide) ?_
  refine g_callSI (st := [vR v0, vI r6, vR v0]) (s_X12_of hX v1 2 h5) kml_X12_53 kst_X12_of kii_X12 kcd_X12_of ds_X12_of rfl ⟨Nat.le_of_ble_eq_true rfl, Nat.le_of_ble_eq_true rfl⟩ (Nat.le_of_ble_eq_true rfl) rfl dX12_tellsIn_20 (fun r8 h7 => ?_)
  refine g_iaload dX12_tellsIn_23 (fun t9 => ?_)
  refine g_aload_n 0 dX12_tellsIn_24 rfl rfl ?_
  refine g_iload_n 1 dX12_tellsIn_25 rfl rfl ?_
  refine g_iconst (v := 0) dX12_tellsIn_26 (by decide) ?_
  refine g_callSI (st := [vR v0, vI t9, vI r6, vR v0]) (s_X12_of hX v1 0 h7) kml_X12_53 kst_X12_of kii_X12 kcd_X12_of ds_X12_of rfl ⟨Nat.le_of_ble_eq_true rfl, Nat.le_of_ble_eq_true rfl⟩ (Nat.le_of_ble_eq_true rfl) rfl dX12_tellsIn_27 (fun r11 h10 => ?_)
  refine g_iaload dX12_tellsIn_30 (fun t12 => ?_)
  refine g_aload_n 0 dX12_tellsIn_31 rfl rfl ?_
  refine g_iload_n 1 dX12_tellsIn_32 rfl rfl ?_
  refine g_iconst (v := 1) dX12_tellsIn_33 (by decide) ?_
  refine g_callSI (st := [vR v0, vI t12, vI t9, vI r6, vR v0]) (s_X12_of hX v1 1 h10) kml_X12_53 kst_X12_of kii_X12 kcd_X12_of ds_X12_of rfl ⟨Nat.le_of_ble_eq_true rfl, Nat.le_of_ble_eq_true rfl⟩ (Nat.le_of_ble_eq_true rfl) rfl dX12_tellsIn_34 (fun r14 h13 => ?_)
  refine g_iaload dX12_tellsIn_37 (fun t15 => ?_)
  refine g_callSI (st := [vI t9, vI r6, vR v0]) (s_X12_lighterBy hX t12 t15 h13) kml_X12_86 kst_X12_lighterBy kii_X12 kcd_X12_lighterBy ds_X12_lighterBy rfl ⟨Nat.le_of_ble_eq_true rfl, Nat.le_of_ble_eq_true rfl⟩ (Nat.le_of_ble_eq_true rfl) rfl dX12_tellsIn_38 (fun r17 h16 => ?_)
  refine g_isub dX12_tellsIn_41 ?_
  refine g_callSI (st := [vI r6, vR v0]) (s_X12_held hX (t9 - r17) h16) kml_X12_57 kst_X12_held kii_X12 kcd_X12_held ds_X12_held rfl ⟨Nat.le_of_ble_eq_true rfl, Nat.le_of_ble_eq_true rfl⟩ (Nat.le_of_ble_eq_true rfl) rfl dX12_tellsIn_42 (fun r19 h18 => ?_)
  refine g_iastore dX12_tellsIn_45 (fun h20 => ?_)
  exact g_return rfl dX12_tellsIn_46
abbrev p_X12_lendsIn (X : GX) (h0 : AH) : PX Unit := (X, (fun x => Sum.inl (rU x)), (1, 21, 4), h0)
def f_X12_lendsIn (v0 : Option Nat) (v1 : Int32) (v2 : Int32) (v3 : Int32) (h : AH) : Option (Unit × AH) :=
    bd (f_X12_of v1 2 h) fun r2 h1 =>
    (iA h1 v0 r2).bind fun t3 =>
    (iS h1 v0 r2 (t3 - v3)).bind fun h4 =>
    bd (f_X12_of v2 2 h4) fun r6 h5 =>
    (iA h5 v0 r6).bind fun t7 =>
    (iS h5 v0 r6 (t7 + v3)).bind fun h8 =>
    some ((), h8)
set_option maxRecDepth 100000 in
set_option maxHeartbeats 4000000 in
theorem s_X12_lendsIn {X : GX} (hX : XOK X) (v0 : Option Nat) (v1 : Int32) (v2 : Int32) (v3 : Int32) (h : AH) : Snd X yX12_lendsIn cX12_lendsIn 4 none 1 21 rU [vR v0, vI v1, vI v2, vI v3] h (f_X12_lendsIn v0 v1 v2 v3 h) := by
  refine snd_of hX (by decide +kernel) (Nat.le_of_ble_eq_true rfl) ?_
  show Gp (p_X12_lendsIn X h) RX12 "lendsIn" cX12_lendsIn none 0 [(0, vR v0), (1, vI v1), (2, vI v2), (3, vI v3)] [] h _
  unfold f_X12_lendsIn
  refine g_aload_n 0 dX12_lendsIn_0 rfl rfl ?_
  refine g_iload_n 1 dX12_lendsIn_1 rfl rfl ?_
  refine g_iconst (v := 2) dX12_lendsIn_2 (by decide) ?_
  refine g_callSI (st := [vR v0]) (s_X12_of hX v1 2 h) kml_X12_53 kst_X12_of kii_X12 kcd_X12_of ds_X12_of rfl ⟨Nat.le_of_ble_eq_true rfl, Nat.le_of_ble_eq_true rfl⟩ (Nat.le_of_ble_eq_true rfl) rfl dX12_lendsIn_3 (fun r2 h1 => ?_)
  refine g_dup2 dX12_lendsIn_6 rfl rfl ?_
  refine g_iaload dX12_lendsIn_7 (fun t3 => ?_)
  refine g_iload_n 3 dX12_lendsIn_8 rfl rfl ?_
  refine g_isub dX12_lendsIn_9 ?_
  refine g_iastore dX12_lendsIn_10 (fun h4 => ?_)
  refine g_aload_n 0 dX12_lendsIn_11 rfl rfl ?_
  refine g_iload_n 2 dX12_lendsIn_12 rfl rfl ?_
  refine g_iconst (v := 2) dX12_lendsIn_13 (by decide) ?_
  refine g_callSI (st := [vR v0]) (s_X12_of hX v2 2 h4) kml_X12_53 kst_X12_of kii_X12 kcd_X12_of ds_X12_of rfl ⟨Nat.le_of_ble_eq_true rfl, Nat.le_of_ble_eq_true rfl⟩ (Nat.le_of_ble_eq_true rfl) rfl dX12_lendsIn_14 (fun r6 h5 => ?_)
  refine g_dup2 dX12_lendsIn_17 rfl rfl ?_
  refine g_iaload dX12_lendsIn_18 (fun t7 => ?_)
  refine g_iload_n 3 dX12_lendsIn_19 rfl rfl ?_
  refine g_iadd dX12_lendsIn_20 ?_
  refine g_iastore dX12_lendsIn_21 (fun h8 => ?_)
  exact g_return rfl dX12_lendsIn_22
abbrev p_X12_isDone (X : GX) (h0 : AH) : PX Int32 := (X, (fun x => Sum.inl (rI x)), (5, 108, 5), h0)
def f_X12_isDone (v0 : Option Nat) (v1 : Int32) (h : AH) : Option (Int32 × AH) :=
    (gR h v0 [12] 8).bind fun t1 =>
    (iA h t1 0).bind fun t2 =>
    (gR h v0 [12] 8).bind fun t3 =>
    (iA h t3 1).bind fun t4 =>
    (gR h v0 [12] 8).bind fun t5 =>
    (iA h t5 2).bind fun t6 =>
    (if v1 = 98 then
    (gR h v0 [12] 0).bind fun t8 =>
    (iS h t8 3 t2).bind fun h9 =>
    (gR h9 v0 [12] 0).bind fun t10 =>
    (iS h9 t10 4 t4).bind fun h11 =>
    some (1, h11)
    else (if v1 = 103 then
    (if 8 ≤ t2 then
    some (0, h)
    else (gR h v0 [12] 0).bind fun t13 =>
    (iA h t13 0).bind fun t14 =>
    (if t14 = 7 then
    some (0, h)
    else bd (cv h v0 12 (f_X12_adds v0 t2 t4 t6 h)) fun u16 h15 =>
    some (1, h15)))
    else (if v1 = 108 then
    bd (cv h v0 12 (f_X12_isGuest v0 t2 h)) fun r19 h18 =>
    (if r19 = 0 then
    some (0, h18)
    else bd (cv h18 v0 12 (f_X12_isGuest v0 t4 h18)) fun r21 h20 =>
    (if r21 = 0 then
    some (0, h20)
    else (if t2 = t4 then
    some (0, h20)
    else bd (f_X12_isIn t6 1 20 h20) fun r23 h22 =>
    (if r23 = 0 then
    some (0, h22)
    else (gR h22 v0 [12] 0).bind fun t24 =>
    bd (f_X12_canLend t24 t2 t4 t6 h22) fun r26 h25 =>
    (if r26 = 0 then
    some (0, h25)
    else (gR h25 v0 [12] 0).bind fun t27 =>
    bd (f_X12_lendsIn t27 t2 t4 t6 h25) fun u29 h28 =>
    some (1, h28))))))
    else (if v1 = 115 then
    bd (cv h v0 12 (f_X12_isGuest v0 t2 h)) fun r32 h31 =>
    (if r32 = 0 then
    some (0, h31)
    else (gR h31 v0 [12] 0).bind fun t33 =>
    bd (f_X12_of t2 4 h31) fun r35 h34 =>
    (iS h34 t33 r35 t4).bind fun h36 =>
    some (1, h36))
    else (if v1 = 116 then
    bd (cv h v0 12 (f_X12_isGuest v0 t2 h)) fun r39 h38 =>
    (if r39 = 0 then
    some (0, h38)
    else (gR h38 v0 [12] 0).bind fun t40 =>
    bd (f_X12_canTell t40 t2 h38) fun r42 h41 =>
    (if r42 = 0 then
    some (0, h41)
    else (gR h41 v0 [12] 0).bind fun t43 =>
    bd (f_X12_tellsIn t43 t2 h41) fun u45 h44 =>
    some (1, h44)))
    else bd (f_X12_isIn t2 1 60 h) fun r47 h46 =>
    (if r47 = 0 then
    some (0, h46)
    else (gR h46 v0 [12] 0).bind fun t48 =>
    (iA h46 t48 1).bind fun t49 =>
    (if (t49 + t2) ≤ 999 then
    (gR h46 v0 [12] 0).bind fun t50 =>
    bd (f_X12_daysOn t50 t2 h46) fun u52 h51 =>
    some (1, h51)
    else some (0, h46))))))))
set_option maxRecDepth 100000 in
set_option maxHeartbeats 4000000 in
theorem s_X12_isDone {X : GX} (hX : XOK X) (v0 : Option Nat) (v1 : Int32) (h : AH) : Snd X yX12_isDone cX12_isDone 5 (some .boolean) 5 108 rI [vR v0, vI v1] h (f_X12_isDone v0 v1 h) := by
  refine snd_of hX (by decide +kernel) (Nat.le_of_ble_eq_true rfl) ?_
  show Gp (p_X12_isDone X h) RX12 "isDone" cX12_isDone (some .boolean) 0 [(0, vR v0), (1, vI v1)] [] h _
  unfold f_X12_isDone
  refine g_aload_n 0 dX12_isDone_0 rfl rfl ?_
  refine g_getR kfl_X12_22 fo_X12_numbers dX12_isDone_1 (fun t1 => ?_)
  refine g_iconst (v := 0) dX12_isDone_4 (by decide) ?_
  refine g_iaload dX12_isDone_5 (fun t2 => ?_)
  refine g_istore_n (ls' := [(2, vI t2), (0, vR v0), (1, vI v1)]) dX12_isDone_6 rfl (Nat.le_of_ble_eq_true rfl) rfl ?_
  refine g_aload_n 1 dX12_isDone_7 rfl rfl ?_
  refine g_getR kfl_X12_22 fo_X12_numbers dX12_isDone_8 (fun t3 => ?_)
  refine g_iconst (v := 1) dX12_isDone_11 (by decide) ?_
  refine g_iaload dX12_isDone_12 (fun t4 => ?_)
  refine g_istore_n (ls' := [(3, vI t4), (2, vI t2), (0, vR v0), (1, vI v1)]) dX12_isDone_13 rfl (Nat.le_of_ble_eq_true rfl) rfl ?_
  refine g_aload_n 2 dX12_isDone_14 rfl rfl ?_
  refine g_getR kfl_X12_22 fo_X12_numbers dX12_isDone_15 (fun t5 => ?_)
  refine g_iconst (v := 2) dX12_isDone_18 (by decide) ?_
  refine g_iaload dX12_isDone_19 (fun t6 => ?_)
  refine g_istore (ls' := [(4, vI t6), (3, vI t4), (2, vI t2), (0, vR v0), (1, vI v1)]) dX12_isDone_20 (Nat.le_of_ble_eq_true rfl) rfl ?_
  refine g_iload_n 4 dX12_isDone_22 rfl rfl ?_
  refine g_lsIn (c := 98) (off := 78) (tgt := 101) dX12_isDone_23 (by decide) (by decide) (by decide) ?_ (fun n7 => ?_)
  · refine g_aload_n 3 dX12_isDone_101 rfl rfl ?_
    refine g_getR kfl_X12_9 fo_X12_s dX12_isDone_102 (fun t8 => ?_)
    refine g_iconst (v := 3) dX12_isDone_105 (by decide) ?_
    refine g_iload_n 2 dX12_isDone_106 rfl rfl ?_
    refine g_iastore dX12_isDone_107 (fun h9 => ?_)
    refine g_aload_n 3 dX12_isDone_108 rfl rfl ?_
    refine g_getR kfl_X12_9 fo_X12_s dX12_isDone_109 (fun t10 => ?_)
    refine g_iconst (v := 4) dX12_isDone_112 (by decide) ?_
    refine g_iload_n 1 dX12_isDone_113 rfl rfl ?_
    refine g_iastore dX12_isDone_114 (fun h11 => ?_)
    refine g_iconst (v := 1) dX12_isDone_115 (by decide) ?_
    exact g_zreturn (by decide +kernel) rfl dX12_isDone_116
  refine g_lsIn (c := 103) (off := 49) (tgt := 72) dX12_isDone_23 (by decide) (by decide) (by decide) ?_ (fun n12 => ?_)
  · refine g_iload_n 2 dX12_isDone_72 rfl rfl ?_
    refine g_bipush (v := 8) dX12_isDone_73 (by decide) ?_
    refine g_icmpge (tgt := 89) dX12_isDone_75 (by decide) ?_ ?_
    · refine g_iconst (v := 0) dX12_isDone_89 (by decide) ?_
      exact g_zreturn (by decide +kernel) rfl dX12_isDone_90
    · refine g_aload_n 3 dX12_isDone_78 rfl rfl ?_
      refine g_getR kfl_X12_9 fo_X12_s dX12_isDone_79 (fun t13 => ?_)
      refine g_iconst (v := 0) dX12_isDone_82 (by decide) ?_
      refine g_iaload dX12_isDone_83 (fun t14 => ?_)
      refine g_bipush (v := 7) dX12_isDone_84 (by decide) ?_
      refine g_icmpne (tgt := 91) dX12_isDone_86 (by decide) ?_ ?_
      · refine g_aload_n 3 dX12_isDone_91 rfl rfl ?_
        refine g_iload_n 2 dX12_isDone_92 rfl rfl ?_
        refine g_iload_n 1 dX12_isDone_93 rfl rfl ?_
        refine g_iload 0 dX12_isDone_94 rfl ?_
        refine g_callVU (st := []) (ci := 12) rfl (s_X12_adds hX v0 t2 t4 t6 h) kml_X12_109 kim_X12_adds kse_X12_adds kii_X12 kcd_X12_adds rfl ds_X12_adds rfl ⟨Nat.le_of_ble_eq_true rfl, Nat.le_of_ble_eq_true rfl⟩ (Nat.le_of_ble_eq_true rfl) rfl dX12_isDone_96 (fun u16 h15 => ?_)
        refine g_iconst (v := 1) dX12_isDone_99 (by decide) ?_
        exact g_zreturn (by decide +kernel) rfl dX12_isDone_100
      · refine g_iconst (v := 0) dX12_isDone_89 (by decide) ?_
        exact g_zreturn (by decide +kernel) rfl dX12_isDone_90
  refine g_lsIn (c := 108) (off := 125) (tgt := 148) dX12_isDone_23 (by decide) (by decide) (by decide) ?_ (fun n17 => ?_)
  · refine g_aload_n 3 dX12_isDone_148 rfl rfl ?_
    refine g_iload_n 2 dX12_isDone_149 rfl rfl ?_
    refine g_callVI (st := []) (ci := 12) rfl (s_X12_isGuest hX v0 t2 h) kml_X12_113 kim_X12_isGuest kse_X12_isGuest kii_X12 kcd_X12_isGuest rfl ds_X12_isGuest rfl ⟨Nat.le_of_ble_eq_true rfl, Nat.le_of_ble_eq_true rfl⟩ (Nat.le_of_ble_eq_true rfl) rfl dX12_isDone_150 (fun r19 h18 => ?_)
    refine g_ifeq (tgt := 194) dX12_isDone_153 (by decide) ?_ ?_
    · refine g_iconst (v := 0) dX12_isDone_194 (by decide) ?_
      exact g_zreturn (by decide +kernel) rfl dX12_isDone_195
    · refine g_aload_n 3 dX12_isDone_156 rfl rfl ?_
      refine g_iload_n 1 dX12_isDone_157 rfl rfl ?_
      refine g_callVI (st := []) (ci := 12) rfl (s_X12_isGuest hX v0 t4 h18) kml_X12_113 kim_X12_isGuest kse_X12_isGuest kii_X12 kcd_X12_isGuest rfl ds_X12_isGuest rfl ⟨Nat.le_of_ble_eq_true rfl, Nat.le_of_ble_eq_true rfl⟩ (Nat.le_of_ble_eq_true rfl) rfl dX12_isDone_158 (fun r21 h20 => ?_)
      refine g_ifeq (tgt := 194) dX12_isDone_161 (by decide) ?_ ?_
      · refine g_iconst (v := 0) dX12_isDone_194 (by decide) ?_
        exact g_zreturn (by decide +kernel) rfl dX12_isDone_195
      · refine g_iload_n 2 dX12_isDone_164 rfl rfl ?_
        refine g_iload_n 1 dX12_isDone_165 rfl rfl ?_
        refine g_icmpeq (tgt := 194) dX12_isDone_166 (by decide) ?_ ?_
        · refine g_iconst (v := 0) dX12_isDone_194 (by decide) ?_
          exact g_zreturn (by decide +kernel) rfl dX12_isDone_195
        · refine g_iload 0 dX12_isDone_169 rfl ?_
          refine g_iconst (v := 1) dX12_isDone_171 (by decide) ?_
          refine g_bipush (v := 20) dX12_isDone_172 (by decide) ?_
          refine g_callSI (st := []) (s_X12_isIn hX t6 1 20 h20) kml_X12_49 kst_X12_isIn kii_X12 kcd_X12_isIn ds_X12_isIn rfl ⟨Nat.le_of_ble_eq_true rfl, Nat.le_of_ble_eq_true rfl⟩ (Nat.le_of_ble_eq_true rfl) rfl dX12_isDone_174 (fun r23 h22 => ?_)
          refine g_ifeq (tgt := 194) dX12_isDone_177 (by decide) ?_ ?_
          · refine g_iconst (v := 0) dX12_isDone_194 (by decide) ?_
            exact g_zreturn (by decide +kernel) rfl dX12_isDone_195
          · refine g_aload_n 3 dX12_isDone_180 rfl rfl ?_
            refine g_getR kfl_X12_9 fo_X12_s dX12_isDone_181 (fun t24 => ?_)
            refine g_iload_n 2 dX12_isDone_184 rfl rfl ?_
            refine g_iload_n 1 dX12_isDone_185 rfl rfl ?_
            refine g_iload 0 dX12_isDone_186 rfl ?_
            refine g_callSI (st := []) (s_X12_canLend hX t24 t2 t4 t6 h22) kml_X12_123 kst_X12_canLend kii_X12 kcd_X12_canLend ds_X12_canLend rfl ⟨Nat.le_of_ble_eq_true rfl, Nat.le_of_ble_eq_true rfl⟩ (Nat.le_of_ble_eq_true rfl) rfl dX12_isDone_188 (fun r26 h25 => ?_)
            refine g_ifne (tgt := 196) dX12_isDone_191 (by decide) ?_ ?_
            · refine g_aload_n 3 dX12_isDone_196 rfl rfl ?_
              refine g_getR kfl_X12_9 fo_X12_s dX12_isDone_197 (fun t27 => ?_)
              refine g_iload_n 2 dX12_isDone_200 rfl rfl ?_
              refine g_iload_n 1 dX12_isDone_201 rfl rfl ?_
              refine g_iload 0 dX12_isDone_202 rfl ?_
              refine g_callSU (st := []) (s_X12_lendsIn hX t27 t2 t4 t6 h25) kml_X12_127 kst_X12_lendsIn kii_X12 kcd_X12_lendsIn ds_X12_lendsIn rfl ⟨Nat.le_of_ble_eq_true rfl, Nat.le_of_ble_eq_true rfl⟩ (Nat.le_of_ble_eq_true rfl) rfl dX12_isDone_204 (fun u29 h28 => ?_)
              refine g_iconst (v := 1) dX12_isDone_207 (by decide) ?_
              exact g_zreturn (by decide +kernel) rfl dX12_isDone_208
            · refine g_iconst (v := 0) dX12_isDone_194 (by decide) ?_
              exact g_zreturn (by decide +kernel) rfl dX12_isDone_195
  refine g_lsIn (c := 115) (off := 186) (tgt := 209) dX12_isDone_23 (by decide) (by decide) (by decide) ?_ (fun n30 => ?_)
  · refine g_aload_n 3 dX12_isDone_209 rfl rfl ?_
    refine g_iload_n 2 dX12_isDone_210 rfl rfl ?_
    refine g_callVI (st := []) (ci := 12) rfl (s_X12_isGuest hX v0 t2 h) kml_X12_113 kim_X12_isGuest kse_X12_isGuest kii_X12 kcd_X12_isGuest rfl ds_X12_isGuest rfl ⟨Nat.le_of_ble_eq_true rfl, Nat.le_of_ble_eq_true rfl⟩ (Nat.le_of_ble_eq_true rfl) rfl dX12_isDone_211 (fun r32 h31 => ?_)
    refine g_ifne (tgt := 219) dX12_isDone_214 (by decide) ?_ ?_
    · refine g_aload_n 3 dX12_isDone_219 rfl rfl ?_
      refine g_getR kfl_X12_9 fo_X12_s dX12_isDone_220 (fun t33 => ?_)
      refine g_iload_n 2 dX12_isDone_223 rfl rfl ?_
      refine g_iconst (v := 4) dX12_isDone_224 (by decide) ?_
      refine g_callSI (st := [vR t33]) (s_X12_of hX t2 4 h31) kml_X12_53 kst_X12_of kii_X12 kcd_X12_of ds_X12_of rfl ⟨Nat.le_of_ble_eq_true rfl, Nat.le_of_ble_eq_true rfl⟩ (Nat.le_of_ble_eq_true rfl) rfl dX12_isDone_225 (fun r35 h34 => ?_)
      refine g_iload_n 1 dX12_isDone_228 rfl rfl ?_
      refine g_iastore dX12_isDone_229 (fun h36 => ?_)
      refine g_iconst (v := 1) dX12_isDone_230 (by decide) ?_
      exact g_zreturn (by decide +kernel) rfl dX12_isDone_231
    · refine g_iconst (v := 0) dX12_isDone_217 (by decide) ?_
      exact g_zreturn (by decide +kernel) rfl dX12_isDone_218
  refine g_lsIn (c := 116) (off := 94) (tgt := 117) dX12_isDone_23 (by decide) (by decide) (by decide) ?_ (fun n37 => ?_)
  · refine g_aload_n 3 dX12_isDone_117 rfl rfl ?_
    refine g_iload_n 2 dX12_isDone_118 rfl rfl ?_
    refine g_callVI (st := []) (ci := 12) rfl (s_X12_isGuest hX v0 t2 h) kml_X12_113 kim_X12_isGuest kse_X12_isGuest kii_X12 kcd_X12_isGuest rfl ds_X12_isGuest rfl ⟨Nat.le_of_ble_eq_true rfl, Nat.le_of_ble_eq_true rfl⟩ (Nat.le_of_ble_eq_true rfl) rfl dX12_isDone_119 (fun r39 h38 => ?_)
    refine g_ifeq (tgt := 136) dX12_isDone_122 (by decide) ?_ ?_
    · refine g_iconst (v := 0) dX12_isDone_136 (by decide) ?_
      exact g_zreturn (by decide +kernel) rfl dX12_isDone_137
    · refine g_aload_n 3 dX12_isDone_125 rfl rfl ?_
      refine g_getR kfl_X12_9 fo_X12_s dX12_isDone_126 (fun t40 => ?_)
      refine g_iload_n 2 dX12_isDone_129 rfl rfl ?_
      refine g_callSI (st := []) (s_X12_canTell hX t40 t2 h38) kml_X12_117 kst_X12_canTell kii_X12 kcd_X12_canTell ds_X12_canTell rfl ⟨Nat.le_of_ble_eq_true rfl, Nat.le_of_ble_eq_true rfl⟩ (Nat.le_of_ble_eq_true rfl) rfl dX12_isDone_130 (fun r42 h41 => ?_)
      refine g_ifne (tgt := 138) dX12_isDone_133 (by decide) ?_ ?_
      · refine g_aload_n 3 dX12_isDone_138 rfl rfl ?_
        refine g_getR kfl_X12_9 fo_X12_s dX12_isDone_139 (fun t43 => ?_)
        refine g_iload_n 2 dX12_isDone_142 rfl rfl ?_
        refine g_callSU (st := []) (s_X12_tellsIn hX t43 t2 h41) kml_X12_120 kst_X12_tellsIn kii_X12 kcd_X12_tellsIn ds_X12_tellsIn rfl ⟨Nat.le_of_ble_eq_true rfl, Nat.le_of_ble_eq_true rfl⟩ (Nat.le_of_ble_eq_true rfl) rfl dX12_isDone_143 (fun u45 h44 => ?_)
        refine g_iconst (v := 1) dX12_isDone_146 (by decide) ?_
        exact g_zreturn (by decide +kernel) rfl dX12_isDone_147
      · refine g_iconst (v := 0) dX12_isDone_136 (by decide) ?_
        exact g_zreturn (by decide +kernel) rfl dX12_isDone_137
  refine g_lsOut (tgt := 232) dX12_isDone_23 (by decide) (by show Op.lookupswitch.offset [(98, 78), (103, 49), (108, 125), (115, 186), (116, 94)] _ _ = _; rw [lv_osw n7 (by decide), lv_osw n12 (by decide), lv_osw n17 (by decide), lv_osw n30 (by decide), lv_osw n37 (by decide)]; rfl) (by decide) ?_
  refine g_iload_n 2 dX12_isDone_232 rfl rfl ?_
  refine g_iconst (v := 1) dX12_isDone_233 (by decide) ?_
  refine g_bipush (v := 60) dX12_isDone_234 (by decide) ?_
  refine g_callSI (st := []) (s_X12_isIn hX t2 1 60 h) kml_X12_49 kst_X12_isIn kii_X12 kcd_X12_isIn ds_X12_isIn rfl ⟨Nat.le_of_ble_eq_true rfl, Nat.le_of_ble_eq_true rfl⟩ (Nat.le_of_ble_eq_true rfl) rfl dX12_isDone_236 (fun r47 h46 => ?_)
  refine g_ifeq (tgt := 256) dX12_isDone_239 (by decide) ?_ ?_
  · refine g_iconst (v := 0) dX12_isDone_256 (by decide) ?_
    exact g_zreturn (by decide +kernel) rfl dX12_isDone_257
  · refine g_aload_n 3 dX12_isDone_242 rfl rfl ?_
    refine g_getR kfl_X12_9 fo_X12_s dX12_isDone_243 (fun t48 => ?_)
    refine g_iconst (v := 1) dX12_isDone_246 (by decide) ?_
    refine g_iaload dX12_isDone_247 (fun t49 => ?_)
    refine g_iload_n 2 dX12_isDone_248 rfl rfl ?_
    refine g_iadd dX12_isDone_249 ?_
    refine g_sipush (v := 999) dX12_isDone_250 (by decide) ?_
    refine g_icmple (tgt := 258) dX12_isDone_253 (by decide) ?_ ?_
    · refine g_aload_n 3 dX12_isDone_258 rfl rfl ?_
      refine g_getR kfl_X12_9 fo_X12_s dX12_isDone_259 (fun t50 => ?_)
      refine g_iload_n 2 dX12_isDone_262 rfl rfl ?_
      refine g_callSU (st := []) (s_X12_daysOn hX t50 t2 h46) kml_X12_131 kst_X12_daysOn kii_X12 kcd_X12_daysOn ds_X12_daysOn rfl ⟨Nat.le_of_ble_eq_true rfl, Nat.le_of_ble_eq_true rfl⟩ (Nat.le_of_ble_eq_true rfl) rfl dX12_isDone_263 (fun u52 h51 => ?_)
      refine g_iconst (v := 1) dX12_isDone_266 (by decide) ?_
      exact g_zreturn (by decide +kernel) rfl dX12_isDone_267
    · refine g_iconst (v := 0) dX12_isDone_256 (by decide) ?_
      exact g_zreturn (by decide +kernel) rfl dX12_isDone_257
abbrev p_X12_house (X : GX) (h0 : AH) : PX Int32 := (X, (fun x => Sum.inl (rI x)), (6, 132, 8), h0)
def f_X12_house_b161 (x3 : Int32) (x4 : Int32) (h : AH) : Option (Int32 × AH) :=
    (if x4 = 0 then
    some (x3, h)
    else some (x4, h))
set_option maxRecDepth 100000 in
set_option maxHeartbeats 4000000 in
theorem s_X12_house_b161 {X : GX} (hX : XOK X) {h0 : AH} : ∀ (x3 : Int32) (x4 : Int32) (h : AH), Gp (p_X12_house X h0) RX12 "house" cX12_house (some .int) 161 [(3, vI x3), (4, vI x4)] [] h (f_X12_house_b161 x3 x4 h) := by
  intro x3 x4 h
  unfold f_X12_house_b161
  refine g_iload 1 dX12_house_161 rfl ?_
  refine g_ifne (tgt := 170) dX12_house_163 (by decide) ?_ ?_
  · refine g_iload 1 dX12_house_170 rfl ?_
    exact g_ireturn rfl dX12_house_172
  · refine g_iload_n 0 dX12_house_166 rfl rfl ?_
    refine g_goto (tgt := 172) dX12_house_167 (by decide) ?_
    exact g_ireturn rfl dX12_house_172
def f_X12_house_b93 : Nat → Option Nat → Int32 → Int32 → AH → Option (Int32 × AH)
  | 0 => fun _ _ _ _ => none
  | n + 1 => fun x0 x3 x4 h =>
    (if x4 = 0 then
    (gI h x0 [12] 5).bind fun t15 =>
    (gI h x0 [12] 7).bind fun t16 =>
    (if t16 ≤ t15 then
    f_X12_house_b161 x3 x4 h
    else (gI h x0 [12] 5).bind fun t17 =>
    bd (cv h x0 12 (f_X12_here x0 h)) fun r19 h18 =>
    bd (cv h18 x0 12 (f_X12_readsStatement x0 h18)) fun r21 h20 =>
    bd (cv h20 x0 12 (f_X12_isDone x0 r19 h20)) fun r23 h22 =>
    (if r23 = 0 then
    nm ((-2000) - t17) fun t24 =>
    (gR h22 x0 [12] 3).bind fun t25 =>
    (gR h22 x0 [12] 0).bind fun t26 =>
    bd (f_X12_copies t25 t26 h22) fun u28 h27 =>
    f_X12_house_b93 n x0 x3 t24 h27
    else f_X12_house_b93 n x0 x3 x4 h22))
    else f_X12_house_b161 x3 x4 h)
set_option maxRecDepth 100000 in
set_option maxHeartbeats 4000000 in
theorem s_X12_house_b93 {X : GX} (hX : XOK X) {h0 : AH} : ∀ (n : Nat) (x0 : Option Nat) (x3 : Int32) (x4 : Int32) (h : AH), Gp (p_X12_house X h0) RX12 "house" cX12_house (some .int) 93 [(0, vR x0), (3, vI x3), (4, vI x4)] [] h (f_X12_house_b93 n x0 x3 x4 h) := by
  intro n
  induction n with
  | zero => intro x0 x3 x4 h; exact g_none
  | succ n ih =>
    intro x0 x3 x4 h
    rw [f_X12_house_b93]
    refine g_iload 2 dX12_house_93 rfl ?_
    refine g_ifne (tgt := 161) dX12_house_95 (by decide) ?_ ?_
    · exact g_sub2 [1, 2] rfl (s_X12_house_b161 hX x3 x4 h)
    · refine g_aload_n 0 dX12_house_98 rfl rfl ?_
      refine g_getI kfl_X12_89 fo_X12_place dX12_house_99 (fun t15 => ?_)
      refine g_aload_n 0 dX12_house_102 rfl rfl ?_
      refine g_getI kfl_X12_93 fo_X12_rowEnd dX12_house_103 (fun t16 => ?_)
      refine g_icmpge (tgt := 161) dX12_house_106 (by decide) ?_ ?_
      · exact g_sub2 [1, 2] rfl (s_X12_house_b161 hX x3 x4 h)
      · refine g_aload_n 0 dX12_house_109 rfl rfl ?_
        refine g_getI kfl_X12_89 fo_X12_place dX12_house_110 (fun t17 => ?_)
        refine g_istore (ls' := [(5, vI t17), (0, vR x0), (3, vI x3), (4, vI x4)]) dX12_house_113 (Nat.le_of_ble_eq_true rfl) rfl ?_
        refine g_aload_n 1 dX12_house_115 rfl rfl ?_
        refine g_callVI (st := []) (ci := 12) rfl (s_X12_here hX x0 h) kml_X12_99 kim_X12_here kse_X12_here kii_X12 kcd_X12_here rfl ds_X12_here rfl ⟨Nat.le_of_ble_eq_true rfl, Nat.le_of_ble_eq_true rfl⟩ (Nat.le_of_ble_eq_true rfl) rfl dX12_house_116 (fun r19 h18 => ?_)
        refine g_istore (ls' := [(6, vI r19), (5, vI t17), (0, vR x0), (3, vI x3), (4, vI x4)]) dX12_house_119 (Nat.le_of_ble_eq_true rfl) rfl ?_
        refine g_aload_n 2 dX12_house_121 rfl rfl ?_
        refine g_callVI (st := []) (ci := 12) rfl (s_X12_readsStatement hX x0 h18) kml_X12_137 kim_X12_readsStatement kse_X12_readsStatement kii_X12 kcd_X12_readsStatement rfl ds_X12_readsStatement rfl ⟨Nat.le_of_ble_eq_true rfl, Nat.le_of_ble_eq_true rfl⟩ (Nat.le_of_ble_eq_true rfl) rfl dX12_house_122 (fun r21 h20 => ?_)
        refine g_istore (ls' := [(7, vI r21), (6, vI r19), (5, vI t17), (0, vR x0), (3, vI x3), (4, vI x4)]) dX12_house_125 (Nat.le_of_ble_eq_true rfl) rfl ?_
        refine g_aload_n 3 dX12_house_127 rfl rfl ?_
        refine g_iload 1 dX12_house_128 rfl ?_
        refine g_callVI (st := []) (ci := 12) rfl (s_X12_isDone hX x0 r19 h20) kml_X12_145 kim_X12_isDone kse_X12_isDone kii_X12 kcd_X12_isDone rfl ds_X12_isDone rfl ⟨Nat.le_of_ble_eq_true rfl, Nat.le_of_ble_eq_true rfl⟩ (Nat.le_of_ble_eq_true rfl) rfl dX12_house_130 (fun r23 h22 => ?_)
        refine g_ifeq (tgt := 139) dX12_house_133 (by decide) ?_ ?_
        · refine g_sipush (v := (-2000)) dX12_house_139 (by decide) ?_
          refine g_iload 2 dX12_house_142 rfl ?_
          refine g_isub dX12_house_144 ?_
          refine g_nmI (fun t24 => ?_)
          refine g_istore (ls' := [(4, vI t24), (7, vI r21), (6, vI r19), (5, vI t17), (0, vR x0), (3, vI x3)]) dX12_house_145 (Nat.le_of_ble_eq_true rfl) rfl ?_
          refine g_aload_n 4 dX12_house_147 rfl rfl ?_
          refine g_getR kfl_X12_19 fo_X12_was dX12_house_148 (fun t25 => ?_)
          refine g_aload_n 4 dX12_house_151 rfl rfl ?_
          refine g_getR kfl_X12_9 fo_X12_s dX12_house_152 (fun t26 => ?_)
          refine g_callSU (st := []) (s_X12_copies hX t25 t26 h22) kml_X12_141 kst_X12_copies kii_X12 kcd_X12_copies ds_X12_copies rfl ⟨Nat.le_of_ble_eq_true rfl, Nat.le_of_ble_eq_true rfl⟩ (Nat.le_of_ble_eq_true rfl) rfl dX12_house_155 (fun u28 h27 => ?_)
          refine g_goto (tgt := 93) dX12_house_158 (by decide) ?_
          exact g_sub2 [4, 5, 0] rfl (ih x0 x3 t24 h27)
        · refine g_goto (tgt := 93) dX12_house_136 (by decide) ?_
          exact g_sub2 [3, 4, 5] rfl (ih x0 x3 x4 h22)
def f_X12_house_b77 (x0 : Option Nat) (x3 : Int32) (x4 : Int32) (h : AH) : Option (Int32 × AH) :=
    (gR h x0 [12] 0).bind fun t10 =>
    (gR h x0 [12] 3).bind fun t11 =>
    bd (f_X12_copies t10 t11 h) fun u13 h12 =>
    (pI h12 x0 [12] 5 0).bind fun h14 =>
    f_X12_house_b93 FU x0 x3 x4 h14
set_option maxRecDepth 100000 in
set_option maxHeartbeats 4000000 in
theorem s_X12_house_b77 {X : GX} (hX : XOK X) {h0 : AH} : ∀ (x0 : Option Nat) (x3 : Int32) (x4 : Int32) (h : AH), Gp (p_X12_house X h0) RX12 "house" cX12_house (some .int) 77 [(0, vR x0), (3, vI x3), (4, vI x4)] [] h (f_X12_house_b77 x0 x3 x4 h) := by
  intro x0 x3 x4 h
  unfold f_X12_house_b77
  refine g_aload_n 0 dX12_house_77 rfl rfl ?_
  refine g_getR kfl_X12_9 fo_X12_s dX12_house_78 (fun t10 => ?_)
  refine g_aload_n 0 dX12_house_81 rfl rfl ?_
  refine g_getR kfl_X12_19 fo_X12_was dX12_house_82 (fun t11 => ?_)
  refine g_callSU (st := []) (s_X12_copies hX t10 t11 h) kml_X12_141 kst_X12_copies kii_X12 kcd_X12_copies ds_X12_copies rfl ⟨Nat.le_of_ble_eq_true rfl, Nat.le_of_ble_eq_true rfl⟩ (Nat.le_of_ble_eq_true rfl) rfl dX12_house_85 (fun u13 h12 => ?_)
  refine g_aload_n 0 dX12_house_88 rfl rfl ?_
  refine g_iconst (v := 0) dX12_house_89 (by decide) ?_
  refine g_putI kfl_X12_89 fo_X12_place pd_I nI'.1 nI'.2 dX12_house_90 (fun h14 => ?_)
  exact g_sub2 [0, 1, 2] rfl (s_X12_house_b93 hX FU x0 x3 x4 h14)
def f_X12_house_b58 (k41 : Option Nat → Int32 → Int32 → AH → Option (Int32 × AH)) (x0 : Option Nat) (x3 : Int32) (x4 : Int32) (h : AH) : Option (Int32 × AH) :=
    (if x4 = 0 then
    (gI h x0 [12] 5).bind fun t29 =>
    (gI h x0 [12] 7).bind fun t30 =>
    (if t29 < t30 then
    k41 x0 (x3 + 1) x4 h
    else f_X12_house_b77 x0 (x3 + 1) x4 h)
    else f_X12_house_b77 x0 (x3 + 1) x4 h)
set_option maxRecDepth 100000 in
set_option maxHeartbeats 4000000 in
theorem s_X12_house_b58 {X : GX} (hX : XOK X) {h0 : AH} (k41 : Option Nat → Int32 → Int32 → AH → Option (Int32 × AH)) (hk41 : ∀ (z0 : Option Nat) (z1 : Int32) (z2 : Int32) (h : AH), Gp (p_X12_house X h0) RX12 "house" cX12_house (some .int) 41 [(0, vR z0), (3, vI z1), (4, vI z2)] [] h (k41 z0 z1 z2 h)) : ∀ (x0 : Option Nat) (x3 : Int32) (x4 : Int32) (h : AH), Gp (p_X12_house X h0) RX12 "house" cX12_house (some .int) 58 [(0, vR x0), (3, vI x3), (4, vI x4)] [] h (f_X12_house_b58 k41 x0 x3 x4 h) := by
  intro x0 x3 x4 h
  unfold f_X12_house_b58
  refine g_iinc 1 (v := (x3 + 1)) (ls' := [(3, vI ((x3 + 1))), (0, vR x0), (4, vI x4)]) dX12_house_58 rfl rfl (Nat.le_of_ble_eq_true rfl) rfl ?_
  refine g_iload 2 dX12_house_61 rfl ?_
  refine g_ifne (tgt := 77) dX12_house_63 (by decide) ?_ ?_
  · exact g_sub2 [1, 0, 2] rfl (s_X12_house_b77 hX x0 (x3 + 1) x4 h)
  · refine g_aload_n 1 dX12_house_66 rfl rfl ?_
    refine g_getI kfl_X12_89 fo_X12_place dX12_house_67 (fun t29 => ?_)
    refine g_aload_n 1 dX12_house_70 rfl rfl ?_
    refine g_getI kfl_X12_93 fo_X12_rowEnd dX12_house_71 (fun t30 => ?_)
    refine g_icmplt (tgt := 41) dX12_house_74 (by decide) ?_ ?_
    · exact g_sub2 [1, 0, 2] rfl (hk41 x0 (x3 + 1) x4 h)
    · exact g_sub2 [1, 0, 2] rfl (s_X12_house_b77 hX x0 (x3 + 1) x4 h)
def f_X12_house_b41 : Nat → Option Nat → Int32 → Int32 → AH → Option (Int32 × AH)
  | 0 => fun _ _ _ _ => none
  | n + 1 => fun x0 x3 x4 h =>
    bd (cv h x0 12 (f_X12_readsStatement x0 h)) fun r9 h8 =>
    (if r9 = 0 then
    (gI h8 x0 [12] 5).bind fun t31 =>
    nm ((-1000) - t31) fun t32 =>
    f_X12_house_b58 (f_X12_house_b41 n) x0 x3 t32 h8
    else f_X12_house_b58 (f_X12_house_b41 n) x0 x3 x4 h8)
set_option maxRecDepth 100000 in
set_option maxHeartbeats 4000000 in
theorem s_X12_house_b41 {X : GX} (hX : XOK X) {h0 : AH} : ∀ (n : Nat) (x0 : Option Nat) (x3 : Int32) (x4 : Int32) (h : AH), Gp (p_X12_house X h0) RX12 "house" cX12_house (some .int) 41 [(0, vR x0), (3, vI x3), (4, vI x4)] [] h (f_X12_house_b41 n x0 x3 x4 h) := by
  intro n
  induction n with
  | zero => intro x0 x3 x4 h; exact g_none
  | succ n ih =>
    intro x0 x3 x4 h
    rw [f_X12_house_b41]
    refine g_aload_n 0 dX12_house_41 rfl rfl ?_
    refine g_callVI (st := []) (ci := 12) rfl (s_X12_readsStatement hX x0 h) kml_X12_137 kim_X12_readsStatement kse_X12_readsStatement kii_X12 kcd_X12_readsStatement rfl ds_X12_readsStatement rfl ⟨Nat.le_of_ble_eq_true rfl, Nat.le_of_ble_eq_true rfl⟩ (Nat.le_of_ble_eq_true rfl) rfl dX12_house_42 (fun r9 h8 => ?_)
    refine g_ifne (tgt := 58) dX12_house_45 (by decide) ?_ ?_
    · exact g_sub2 [0, 1, 2] rfl (s_X12_house_b58 hX (f_X12_house_b41 n) (fun z0 z1 z2 z3 => ih z0 z1 z2 z3) x0 x3 x4 h8)
    · refine g_sipush (v := (-1000)) dX12_house_48 (by decide) ?_
      refine g_aload_n 0 dX12_house_51 rfl rfl ?_
      refine g_getI kfl_X12_89 fo_X12_place dX12_house_52 (fun t31 => ?_)
      refine g_isub dX12_house_55 ?_
      refine g_nmI (fun t32 => ?_)
      refine g_istore (ls' := [(4, vI t32), (0, vR x0), (3, vI x3)]) dX12_house_56 (Nat.le_of_ble_eq_true rfl) rfl ?_
      exact g_sub2 [1, 2, 0] rfl (s_X12_house_b58 hX (f_X12_house_b41 n) (fun z0 z1 z2 z3 => ih z0 z1 z2 z3) x0 x3 t32 h8)
def f_X12_house (v0 : Option Nat) (v1 : Int32) (h : AH) : Option (Int32 × AH) :=
    bd (cv h v0 12 (f_X12_wrongRow v0 v1 0 h)) fun r2 h1 =>
    (if r2 = 0 then
    (pI h1 v0 [12] 6 (100 * v1)).bind fun h3 =>
    (gR h3 v0 [12] 16).bind fun t4 =>
    (iA h3 t4 v1).bind fun t5 =>
    (pI h3 v0 [12] 7 t5).bind fun h6 =>
    (pI h6 v0 [12] 5 0).bind fun h7 =>
    f_X12_house_b41 FU v0 0 0 h7
    else some (r2, h1))
set_option maxRecDepth 100000 in
set_option maxHeartbeats 4000000 in
theorem s_X12_house {X : GX} (hX : XOK X) (v0 : Option Nat) (v1 : Int32) (h : AH) : Snd X yX12_house cX12_house 8 (some .int) 6 132 rI [vR v0, vI v1] h (f_X12_house v0 v1 h) := by
  refine snd_of hX (by decide +kernel) (Nat.le_of_ble_eq_true rfl) ?_
  show Gp (p_X12_house X h) RX12 "house" cX12_house (some .int) 0 [(0, vR v0), (1, vI v1)] [] h _
  unfold f_X12_house
  refine g_aload_n 0 dX12_house_0 rfl rfl ?_
  refine g_iload_n 1 dX12_house_1 rfl rfl ?_
  refine g_iconst (v := 0) dX12_house_2 (by decide) ?_
  refine g_callVI (st := []) (ci := 12) rfl (s_X12_wrongRow hX v0 v1 0 h) kml_X12_134 kim_X12_wrongRow kse_X12_wrongRow kii_X12 kcd_X12_wrongRow rfl ds_X12_wrongRow rfl ⟨Nat.le_of_ble_eq_true rfl, Nat.le_of_ble_eq_true rfl⟩ (Nat.le_of_ble_eq_true rfl) rfl dX12_house_3 (fun r2 h1 => ?_)
  refine g_istore_n (ls' := [(2, vI r2), (0, vR v0), (1, vI v1)]) dX12_house_6 rfl (Nat.le_of_ble_eq_true rfl) rfl ?_
  refine g_iload_n 0 dX12_house_7 rfl rfl ?_
  refine g_ifeq (tgt := 13) dX12_house_8 (by decide) ?_ ?_
  · refine g_aload_n 1 dX12_house_13 rfl rfl ?_
    refine g_bipush (v := 100) dX12_house_14 (by decide) ?_
    refine g_iload_n 2 dX12_house_16 rfl rfl ?_
    refine g_imul dX12_house_17 ?_
    refine g_putI kfl_X12_96 fo_X12_rowAt pd_I nI'.1 nI'.2 dX12_house_18 (fun h3 => ?_)
    refine g_aload_n 1 dX12_house_21 rfl rfl ?_
    refine g_aload_n 1 dX12_house_22 rfl rfl ?_
    refine g_getR kfl_X12_43 fo_X12_size dX12_house_23 (fun t4 => ?_)
    refine g_iload_n 2 dX12_house_26 rfl rfl ?_
    refine g_iaload dX12_house_27 (fun t5 => ?_)
    refine g_putI kfl_X12_93 fo_X12_rowEnd pd_I nI'.1 nI'.2 dX12_house_28 (fun h6 => ?_)
    refine g_aload_n 1 dX12_house_31 rfl rfl ?_
    refine g_iconst (v := 0) dX12_house_32 (by decide) ?_
    refine g_putI kfl_X12_89 fo_X12_place pd_I nI'.1 nI'.2 dX12_house_33 (fun h7 => ?_)
    refine g_iconst (v := 0) dX12_house_36 (by decide) ?_
    refine g_istore_n (ls' := [(3, vI 0), (2, vI r2), (0, vR v0), (1, vI v1)]) dX12_house_37 rfl (Nat.le_of_ble_eq_true rfl) rfl ?_
    refine g_iconst (v := 0) dX12_house_38 (by decide) ?_
    refine g_istore (ls' := [(4, vI 0), (3, vI 0), (2, vI r2), (0, vR v0), (1, vI v1)]) dX12_house_39 (Nat.le_of_ble_eq_true rfl) rfl ?_
    exact g_sub2 [3, 1, 0] rfl (s_X12_house_b41 hX FU v0 0 0 h7)
  · refine g_iload_n 0 dX12_house_11 rfl rfl ?_
    exact g_ireturn rfl dX12_house_12
abbrev p_X12_image (X : GX) (h0 : AH) : PX Int32 := (X, (fun x => Sum.inl (rI x)), (1, 22, 1), h0)
def f_X12_image (v0 : Option Nat) (h : AH) : Option (Int32 × AH) :=
    (gR h v0 [12] 0).bind fun t1 =>
    (gR h v0 [12] 2).bind fun t2 =>
    bd (f_X12_copies t1 t2 h) fun u4 h3 =>
    (pI h3 v0 [12] 4 1).bind fun h5 =>
    (gR h5 v0 [12] 0).bind fun t6 =>
    (iA h5 t6 1).bind fun t7 =>
    some (t7, h5)
set_option maxRecDepth 100000 in
set_option maxHeartbeats 4000000 in
theorem s_X12_image {X : GX} (hX : XOK X) (v0 : Option Nat) (h : AH) : Snd X yX12_image cX12_image 1 (some .int) 1 22 rI [vR v0] h (f_X12_image v0 h) := by
  refine snd_of hX (by decide +kernel) (Nat.le_of_ble_eq_true rfl) ?_
  show Gp (p_X12_image X h) RX12 "image" cX12_image (some .int) 0 [(0, vR v0)] [] h _
  unfold f_X12_image
  refine g_aload_n 0 dX12_image_0 rfl rfl ?_
  refine g_getR kfl_X12_9 fo_X12_s dX12_image_1 (fun t1 => ?_)
  refine g_aload_n 0 dX12_image_4 rfl rfl ?_
  refine g_getR kfl_X12_16 fo_X12_image dX12_image_5 (fun t2 => ?_)
  refine g_callSU (st := []) (s_X12_copies hX t1 t2 h) kml_X12_141 kst_X12_copies kii_X12 kcd_X12_copies ds_X12_copies rfl ⟨Nat.le_of_ble_eq_true rfl, Nat.le_of_ble_eq_true rfl⟩ (Nat.le_of_ble_eq_true rfl) rfl dX12_image_8 (fun u4 h3 => ?_)
  refine g_aload_n 0 dX12_image_11 rfl rfl ?_
  refine g_iconst (v := 1) dX12_image_12 (by decide) ?_
  refine g_putI kfl_X12_239 fo_X12_hasImage pd_Z nZ1.1 nZ1.2 dX12_image_13 (fun h5 => ?_)
  refine g_aload_n 0 dX12_image_16 rfl rfl ?_
  refine g_getR kfl_X12_9 fo_X12_s dX12_image_17 (fun t6 => ?_)
  refine g_iconst (v := 1) dX12_image_20 (by decide) ?_
  refine g_iaload dX12_image_21 (fun t7 => ?_)
  exact g_ireturn rfl dX12_image_22
abbrev p_X12_init (X : GX) (h0 : AH) : PX Unit := (X, (fun x => Sum.inl (rU x)), (1, 20, 1), h0)
def f_X12_init (v0 : Option Nat) (h : AH) : Option (Unit × AH) :=
    (if v0 = none then none else bd (nA h 0 54) fun a3 h4 =>
    (pR h4 v0 [12] 0 a3).bind fun h5 =>
    bd (nA h5 0 54) fun a6 h7 =>
    (pR h7 v0 [12] 1 a6).bind fun h8 =>
    bd (nA h8 0 54) fun a9 h10 =>
    (pR h10 v0 [12] 2 a9).bind fun h11 =>
    bd (nA h11 0 54) fun a12 h13 =>
    (pR h13 v0 [12] 3 a12).bind fun h14 =>
    bd (nA h14 0 3) fun a15 h16 =>
    (pR h16 v0 [12] 8 a15).bind fun h17 =>
    bd (nA h17 0 49) fun a18 h19 =>
    (pR h19 v0 [12] 9 a18).bind fun h20 =>
    bd (nA h20 0 128) fun a21 h22 =>
    (pR h22 v0 [12] 10 a21).bind fun h23 =>
    bd (nA h23 0 8) fun a24 h25 =>
    (pR h25 v0 [12] 12 a24).bind fun h26 =>
    bd (nA h26 0 8) fun a27 h28 =>
    (pR h28 v0 [12] 13 a27).bind fun h29 =>
    bd (nA h29 0 8) fun a30 h31 =>
    (pR h31 v0 [12] 14 a30).bind fun h32 =>
    bd (nA h32 0 8) fun a33 h34 =>
    (pR h34 v0 [12] 15 a33).bind fun h35 =>
    bd (nA h35 0 8) fun a36 h37 =>
    (pR h37 v0 [12] 16 a36).bind fun h38 =>
    bd (nA h38 0 800) fun a39 h40 =>
    (pR h40 v0 [12] 17 a39).bind fun h41 =>
    (gR h41 v0 [12] 0).bind fun t42 =>
    (iS h41 t42 3 2).bind fun h43 =>
    (gR h43 v0 [12] 0).bind fun t44 =>
    (iS h43 t44 4 3).bind fun h45 =>
    some ((), h45))
set_option maxRecDepth 100000 in
set_option maxHeartbeats 4000000 in
theorem s_X12_init {X : GX} (hX : XOK X) (v0 : Option Nat) (h : AH) : Snd X yX12_init cX12_init 1 none 1 20 rU [vR v0] h (f_X12_init v0 h) := by
  refine snd_of hX (by decide +kernel) (Nat.le_of_ble_eq_true rfl) ?_
  show Gp (p_X12_init X h) RX12 "<init>" cX12_init none 0 [(0, vR v0)] [] h _
  unfold f_X12_init
  refine g_aload_n 0 dX12_init_0 rfl rfl ?_
  refine g_objInit kml_X12_1 kio kco ⟨Nat.le_of_ble_eq_true rfl, Nat.le_of_ble_eq_true rfl⟩ (Nat.le_of_ble_eq_true rfl) dX12_init_1 ?_
  refine g_aload_n 0 dX12_init_4 rfl rfl ?_
  refine g_bipush (v := 54) dX12_init_5 (by decide) ?_
  refine g_newarrayI kac_int dX12_init_7 (fun a3 h4 => ?_)
  refine g_putRF kfl_X12_9 fo_X12_s fw_X12_0 pd__I nrv.1 nrv.2 dX12_init_9 (fun h5 => ?_)
  refine g_aload_n 0 dX12_init_12 rfl rfl ?_
  refine g_bipush (v := 54) dX12_init_13 (by decide) ?_
  refine g_newarrayI kac_int dX12_init_15 (fun a6 h7 => ?_)
  refine g_putRF kfl_X12_13 fo_X12_m fw_X12_1 pd__I nrv.1 nrv.2 dX12_init_17 (fun h8 => ?_)
  refine g_aload_n 0 dX12_init_20 rfl rfl ?_
  refine g_bipush (v := 54) dX12_init_21 (by decide) ?_
  refine g_newarrayI kac_int dX12_init_23 (fun a9 h10 => ?_)
  refine g_putRF kfl_X12_16 fo_X12_image fw_X12_2 pd__I nrv.1 nrv.2 dX12_init_25 (fun h11 => ?_)
  refine g_aload_n 0 dX12_init_28 rfl rfl ?_
  refine g_bipush (v := 54) dX12_init_29 (by decide) ?_
  refine g_newarrayI kac_int dX12_init_31 (fun a12 h13 => ?_)
  refine g_putRF kfl_X12_19 fo_X12_was fw_X12_3 pd__I nrv.1 nrv.2 dX12_init_33 (fun h14 => ?_)
  refine g_aload_n 0 dX12_init_36 rfl rfl ?_
  refine g_iconst (v := 3) dX12_init_37 (by decide) ?_
  refine g_newarrayI kac_int dX12_init_38 (fun a15 h16 => ?_)
  refine g_putRF kfl_X12_22 fo_X12_numbers fw_X12_8 pd__I nrv.1 nrv.2 dX12_init_40 (fun h17 => ?_)
  refine g_aload_n 0 dX12_init_43 rfl rfl ?_
  refine g_bipush (v := 49) dX12_init_44 (by decide) ?_
  refine g_newarrayI kac_int dX12_init_46 (fun a18 h19 => ?_)
  refine g_putRF kfl_X12_25 fo_X12_brings fw_X12_9 pd__I nrv.1 nrv.2 dX12_init_48 (fun h20 => ?_)
  refine g_aload_n 0 dX12_init_51 rfl rfl ?_
  refine g_sipush (v := 128) dX12_init_52 (by decide) ?_
  refine g_newarrayI kac_int dX12_init_55 (fun a21 h22 => ?_)
  refine g_putRF kfl_X12_28 fo_X12_most fw_X12_10 pd__I nrv.1 nrv.2 dX12_init_57 (fun h23 => ?_)
  refine g_aload_n 0 dX12_init_60 rfl rfl ?_
  refine g_bipush (v := 8) dX12_init_61 (by decide) ?_
  refine g_newarrayI kac_int dX12_init_63 (fun a24 h25 => ?_)
  refine g_putRF kfl_X12_31 fo_X12_kept fw_X12_12 pd__I nrv.1 nrv.2 dX12_init_65 (fun h26 => ?_)
  refine g_aload_n 0 dX12_init_68 rfl rfl ?_
  refine g_bipush (v := 8) dX12_init_69 (by decide) ?_
  refine g_newarrayI kac_int dX12_init_71 (fun a27 h28 => ?_)
  refine g_putRF kfl_X12_34 fo_X12_keptKind fw_X12_13 pd__I nrv.1 nrv.2 dX12_init_73 (fun h29 => ?_)
  refine g_aload_n 0 dX12_init_76 rfl rfl ?_
  refine g_bipush (v := 8) dX12_init_77 (by decide) ?_
  refine g_newarrayI kac_int dX12_init_79 (fun a30 h31 => ?_)
  refine g_putRF kfl_X12_37 fo_X12_keptFigure fw_X12_14 pd__I nrv.1 nrv.2 dX12_init_81 (fun h32 => ?_)
  refine g_aload_n 0 dX12_init_84 rfl rfl ?_
  refine g_bipush (v := 8) dX12_init_85 (by decide) ?_
  refine g_newarrayI kac_int dX12_init_87 (fun a33 h34 => ?_)
  refine g_putRF kfl_X12_40 fo_X12_sort fw_X12_15 pd__I nrv.1 nrv.2 dX12_init_89 (fun h35 => ?_)
  refine g_aload_n 0 dX12_init_92 rfl rfl ?_
  refine g_bipush (v := 8) dX12_init_93 (by decide) ?_
  refine g_newarrayI kac_int dX12_init_95 (fun a36 h37 => ?_)
  refine g_putRF kfl_X12_43 fo_X12_size fw_X12_16 pd__I nrv.1 nrv.2 dX12_init_97 (fun h38 => ?_)
  refine g_aload_n 0 dX12_init_100 rfl rfl ?_
  refine g_sipush (v := 800) dX12_init_101 (by decide) ?_
  refine g_newarrayI kac_int dX12_init_104 (fun a39 h40 => ?_)
  refine g_putRF kfl_X12_46 fo_X12_element fw_X12_17 pd__I nrv.1 nrv.2 dX12_init_106 (fun h41 => ?_)
  refine g_aload_n 0 dX12_init_109 rfl rfl ?_
  refine g_getR kfl_X12_9 fo_X12_s dX12_init_110 (fun t42 => ?_)
  refine g_iconst (v := 3) dX12_init_113 (by decide) ?_
  refine g_iconst (v := 2) dX12_init_114 (by decide) ?_
  refine g_iastore dX12_init_115 (fun h43 => ?_)
  refine g_aload_n 0 dX12_init_116 rfl rfl ?_
  refine g_getR kfl_X12_9 fo_X12_s dX12_init_117 (fun t44 => ?_)
  refine g_iconst (v := 4) dX12_init_120 (by decide) ?_
  refine g_iconst (v := 3) dX12_init_121 (by decide) ?_
  refine g_iastore dX12_init_122 (fun h45 => ?_)
  exact g_return rfl dX12_init_123
abbrev p_X12_judge (X : GX) (h0 : AH) : PX Int32 := (X, (fun x => Sum.inl (rI x)), (4, 86, 4), h0)
def f_X12_judge_b26 : Nat → Option Nat → Int32 → Int32 → AH → Option (Int32 × AH)
  | 0 => fun _ _ _ _ => none
  | n + 1 => fun x0 x1 x3 h =>
    (gR h x0 [12] 16).bind fun t7 =>
    (iA h t7 x1).bind fun t8 =>
    (if t8 ≤ x3 then
    some ((-4), h)
    else (gR h x0 [12] 1).bind fun t9 =>
    bd (f_X12_weightIn t9 h) fun r11 h10 =>
    bd (cv h10 x0 12 (f_X12_isTold x0 x1 x3 r11 h10)) fun r13 h12 =>
    (if r13 = 0 then
    some (x3, h12)
    else (gR h12 x0 [12] 1).bind fun t14 =>
    bd (f_X12_day t14 0 h12) fun u16 h15 =>
    f_X12_judge_b26 n x0 x1 (x3 + 1) h15))
set_option maxRecDepth 100000 in
set_option maxHeartbeats 4000000 in
theorem s_X12_judge_b26 {X : GX} (hX : XOK X) {h0 : AH} : ∀ (n : Nat) (x0 : Option Nat) (x1 : Int32) (x3 : Int32) (h : AH), Gp (p_X12_judge X h0) RX12 "judge" cX12_judge (some .int) 26 [(0, vR x0), (1, vI x1), (3, vI x3)] [] h (f_X12_judge_b26 n x0 x1 x3 h) := by
  intro n
  induction n with
  | zero => intro x0 x1 x3 h; exact g_none
  | succ n ih =>
    intro x0 x1 x3 h
    rw [f_X12_judge_b26]
    refine g_iload_n 2 dX12_judge_26 rfl rfl ?_
    refine g_aload_n 0 dX12_judge_27 rfl rfl ?_
    refine g_getR kfl_X12_43 fo_X12_size dX12_judge_28 (fun t7 => ?_)
    refine g_iload_n 1 dX12_judge_31 rfl rfl ?_
    refine g_iaload dX12_judge_32 (fun t8 => ?_)
    refine g_icmpge (tgt := 68) dX12_judge_33 (by decide) ?_ ?_
    · refine g_bipush (v := (-4)) dX12_judge_68 (by decide) ?_
      exact g_ireturn rfl dX12_judge_70
    · refine g_aload_n 0 dX12_judge_36 rfl rfl ?_
      refine g_iload_n 1 dX12_judge_37 rfl rfl ?_
      refine g_iload_n 2 dX12_judge_38 rfl rfl ?_
      refine g_aload_n 0 dX12_judge_39 rfl rfl ?_
      refine g_getR kfl_X12_13 fo_X12_m dX12_judge_40 (fun t9 => ?_)
      refine g_callSI (st := [vI x3, vI x1, vR x0]) (s_X12_weightIn hX t9 h) kml_X12_166 kst_X12_weightIn kii_X12 kcd_X12_weightIn ds_X12_weightIn rfl ⟨Nat.le_of_ble_eq_true rfl, Nat.le_of_ble_eq_true rfl⟩ (Nat.le_of_ble_eq_true rfl) rfl dX12_judge_43 (fun r11 h10 => ?_)
      refine g_callVI (st := []) (ci := 12) rfl (s_X12_isTold hX x0 x1 x3 r11 h10) kml_X12_207 kim_X12_isTold kse_X12_isTold kii_X12 kcd_X12_isTold rfl ds_X12_isTold rfl ⟨Nat.le_of_ble_eq_true rfl, Nat.le_of_ble_eq_true rfl⟩ (Nat.le_of_ble_eq_true rfl) rfl dX12_judge_46 (fun r13 h12 => ?_)
      refine g_ifne (tgt := 54) dX12_judge_49 (by decide) ?_ ?_
      · refine g_aload_n 0 dX12_judge_54 rfl rfl ?_
        refine g_getR kfl_X12_13 fo_X12_m dX12_judge_55 (fun t14 => ?_)
        refine g_iconst (v := 0) dX12_judge_58 (by decide) ?_
        refine g_callSU (st := []) (s_X12_day hX t14 0 h12) kml_X12_82 kst_X12_day kii_X12 kcd_X12_day ds_X12_day rfl ⟨Nat.le_of_ble_eq_true rfl, Nat.le_of_ble_eq_true rfl⟩ (Nat.le_of_ble_eq_true rfl) rfl dX12_judge_59 (fun u16 h15 => ?_)
        refine g_iinc 2 (v := (x3 + 1)) (ls' := [(3, vI ((x3 + 1))), (0, vR x0), (1, vI x1)]) dX12_judge_62 rfl rfl (Nat.le_of_ble_eq_true rfl) rfl ?_
        refine g_goto (tgt := 26) dX12_judge_65 (by decide) ?_
        exact g_sub2 [1, 2, 0] rfl (ih x0 x1 (x3 + 1) h15)
      · refine g_iload_n 2 dX12_judge_52 rfl rfl ?_
        exact g_ireturn rfl dX12_judge_53
def f_X12_judge (v0 : Option Nat) (v1 : Int32) (h : AH) : Option (Int32 × AH) :=
    bd (cv h v0 12 (f_X12_wrongRow v0 v1 (-1) h)) fun r2 h1 =>
    (if r2 = 0 then
    (gR h1 v0 [12] 0).bind fun t3 =>
    (gR h1 v0 [12] 1).bind fun t4 =>
    bd (f_X12_copies t3 t4 h1) fun u6 h5 =>
    f_X12_judge_b26 FU v0 v1 0 h5
    else some (r2, h1))
set_option maxRecDepth 100000 in
set_option maxHeartbeats 4000000 in
theorem s_X12_judge {X : GX} (hX : XOK X) (v0 : Option Nat) (v1 : Int32) (h : AH) : Snd X yX12_judge cX12_judge 4 (some .int) 4 86 rI [vR v0, vI v1] h (f_X12_judge v0 v1 h) := by
  refine snd_of hX (by decide +kernel) (Nat.le_of_ble_eq_true rfl) ?_
  show Gp (p_X12_judge X h) RX12 "judge" cX12_judge (some .int) 0 [(0, vR v0), (1, vI v1)] [] h _
  unfold f_X12_judge
  refine g_aload_n 0 dX12_judge_0 rfl rfl ?_
  refine g_iload_n 1 dX12_judge_1 rfl rfl ?_
  refine g_iconst (v := (-1)) dX12_judge_2 (by decide) ?_
  refine g_callVI (st := []) (ci := 12) rfl (s_X12_wrongRow hX v0 v1 (-1) h) kml_X12_134 kim_X12_wrongRow kse_X12_wrongRow kii_X12 kcd_X12_wrongRow rfl ds_X12_wrongRow rfl ⟨Nat.le_of_ble_eq_true rfl, Nat.le_of_ble_eq_true rfl⟩ (Nat.le_of_ble_eq_true rfl) rfl dX12_judge_3 (fun r2 h1 => ?_)
  refine g_istore_n (ls' := [(2, vI r2), (0, vR v0), (1, vI v1)]) dX12_judge_6 rfl (Nat.le_of_ble_eq_true rfl) rfl ?_
  refine g_iload_n 0 dX12_judge_7 rfl rfl ?_
  refine g_ifeq (tgt := 13) dX12_judge_8 (by decide) ?_ ?_
  · refine g_aload_n 1 dX12_judge_13 rfl rfl ?_
    refine g_getR kfl_X12_9 fo_X12_s dX12_judge_14 (fun t3 => ?_)
    refine g_aload_n 1 dX12_judge_17 rfl rfl ?_
    refine g_getR kfl_X12_13 fo_X12_m dX12_judge_18 (fun t4 => ?_)
    refine g_callSU (st := []) (s_X12_copies hX t3 t4 h1) kml_X12_141 kst_X12_copies kii_X12 kcd_X12_copies ds_X12_copies rfl ⟨Nat.le_of_ble_eq_true rfl, Nat.le_of_ble_eq_true rfl⟩ (Nat.le_of_ble_eq_true rfl) rfl dX12_judge_21 (fun u6 h5 => ?_)
    refine g_iconst (v := 0) dX12_judge_24 (by decide) ?_
    refine g_istore_n (ls' := [(3, vI 0), (2, vI r2), (0, vR v0), (1, vI v1)]) dX12_judge_25 rfl (Nat.le_of_ble_eq_true rfl) rfl ?_
    exact g_sub2 [2, 3, 0] rfl (s_X12_judge_b26 hX FU v0 v1 0 h5)
  · refine g_iload_n 0 dX12_judge_11 rfl rfl ?_
    exact g_ireturn rfl dX12_judge_12
abbrev p_X12_keep (X : GX) (h0 : AH) : PX Int32 := (X, (fun x => Sum.inl (rI x)), (2, 42, 5), h0)
def f_X12_keep_b44 (x0 : Option Nat) (x1 : Int32) (x2 : Int32) (x3 : Int32) (x4 : Int32) (h : AH) : Option (Int32 × AH) :=
    (gR h x0 [12] 12).bind fun t5 =>
    (iS h t5 x1 x2).bind fun h6 =>
    (gR h6 x0 [12] 13).bind fun t7 =>
    (iS h6 t7 x1 x3).bind fun h8 =>
    (gR h8 x0 [12] 14).bind fun t9 =>
    (iS h8 t9 x1 x4).bind fun h10 =>
    some (0, h10)
set_option maxRecDepth 100000 in
set_option maxHeartbeats 4000000 in
theorem s_X12_keep_b44 {X : GX} (hX : XOK X) {h0 : AH} : ∀ (x0 : Option Nat) (x1 : Int32) (x2 : Int32) (x3 : Int32) (x4 : Int32) (h : AH), Gp (p_X12_keep X h0) RX12 "keep" cX12_keep (some .int) 44 [(0, vR x0), (1, vI x1), (2, vI x2), (3, vI x3), (4, vI x4)] [] h (f_X12_keep_b44 x0 x1 x2 x3 x4 h) := by
  intro x0 x1 x2 x3 x4 h
  unfold f_X12_keep_b44
  refine g_aload_n 0 dX12_keep_44 rfl rfl ?_
  refine g_getR kfl_X12_31 fo_X12_kept dX12_keep_45 (fun t5 => ?_)
  refine g_iload_n 1 dX12_keep_48 rfl rfl ?_
  refine g_iload_n 2 dX12_keep_49 rfl rfl ?_
  refine g_iastore dX12_keep_50 (fun h6 => ?_)
  refine g_aload_n 0 dX12_keep_51 rfl rfl ?_
  refine g_getR kfl_X12_34 fo_X12_keptKind dX12_keep_52 (fun t7 => ?_)
  refine g_iload_n 1 dX12_keep_55 rfl rfl ?_
  refine g_iload_n 3 dX12_keep_56 rfl rfl ?_
  refine g_iastore dX12_keep_57 (fun h8 => ?_)
  refine g_aload_n 0 dX12_keep_58 rfl rfl ?_
  refine g_getR kfl_X12_37 fo_X12_keptFigure dX12_keep_59 (fun t9 => ?_)
  refine g_iload_n 1 dX12_keep_62 rfl rfl ?_
  refine g_iload 4 dX12_keep_63 rfl ?_
  refine g_iastore dX12_keep_65 (fun h10 => ?_)
  refine g_iconst (v := 0) dX12_keep_66 (by decide) ?_
  exact g_ireturn rfl dX12_keep_67
def f_X12_keep (v0 : Option Nat) (v1 : Int32) (v2 : Int32) (v3 : Int32) (v4 : Int32) (h : AH) : Option (Int32 × AH) :=
    bd (f_X12_isShelf v1 h) fun r2 h1 =>
    (if r2 = 0 then
    some ((-1), h1)
    else bd (f_X12_isIn v2 0 1 h1) fun r4 h3 =>
    (if r4 = 0 then
    some ((-1), h3)
    else (if v2 = 1 then
    bd (f_X12_isIn v3 0 7 h3) fun r12 h11 =>
    (if r12 = 0 then
    some ((-1), h11)
    else bd (f_X12_isIn v4 0 9 h11) fun r14 h13 =>
    (if r14 = 0 then
    some ((-1), h13)
    else f_X12_keep_b44 v0 v1 v2 v3 v4 h13))
    else f_X12_keep_b44 v0 v1 v2 v3 v4 h3)))
set_option maxRecDepth 100000 in
set_option maxHeartbeats 4000000 in
theorem s_X12_keep {X : GX} (hX : XOK X) (v0 : Option Nat) (v1 : Int32) (v2 : Int32) (v3 : Int32) (v4 : Int32) (h : AH) : Snd X yX12_keep cX12_keep 5 (some .int) 2 42 rI [vR v0, vI v1, vI v2, vI v3, vI v4] h (f_X12_keep v0 v1 v2 v3 v4 h) := by
  refine snd_of hX (by decide +kernel) (Nat.le_of_ble_eq_true rfl) ?_
  show Gp (p_X12_keep X h) RX12 "keep" cX12_keep (some .int) 0 [(0, vR v0), (1, vI v1), (2, vI v2), (3, vI v3), (4, vI v4)] [] h _
  unfold f_X12_keep
  refine g_iload_n 1 dX12_keep_0 rfl rfl ?_
  refine g_callSI (st := []) (s_X12_isShelf hX v1 h) kml_X12_246 kst_X12_isShelf kii_X12 kcd_X12_isShelf ds_X12_isShelf rfl ⟨Nat.le_of_ble_eq_true rfl, Nat.le_of_ble_eq_true rfl⟩ (Nat.le_of_ble_eq_true rfl) rfl dX12_keep_1 (fun r2 h1 => ?_)
  refine g_ifeq (tgt := 42) dX12_keep_4 (by decide) ?_ ?_
  · refine g_iconst (v := (-1)) dX12_keep_42 (by decide) ?_
    exact g_ireturn rfl dX12_keep_43
  · refine g_iload_n 2 dX12_keep_7 rfl rfl ?_
    refine g_iconst (v := 0) dX12_keep_8 (by decide) ?_
    refine g_iconst (v := 1) dX12_keep_9 (by decide) ?_
    refine g_callSI (st := []) (s_X12_isIn hX v2 0 1 h1) kml_X12_49 kst_X12_isIn kii_X12 kcd_X12_isIn ds_X12_isIn rfl ⟨Nat.le_of_ble_eq_true rfl, Nat.le_of_ble_eq_true rfl⟩ (Nat.le_of_ble_eq_true rfl) rfl dX12_keep_10 (fun r4 h3 => ?_)
    refine g_ifeq (tgt := 42) dX12_keep_13 (by decide) ?_ ?_
    · refine g_iconst (v := (-1)) dX12_keep_42 (by decide) ?_
      exact g_ireturn rfl dX12_keep_43
    · refine g_iload_n 2 dX12_keep_16 rfl rfl ?_
      refine g_iconst (v := 1) dX12_keep_17 (by decide) ?_
      refine g_icmpne (tgt := 44) dX12_keep_18 (by decide) ?_ ?_
      · exact g_sub2 [0, 1, 2, 3, 4] rfl (s_X12_keep_b44 hX v0 v1 v2 v3 v4 h3)
      · refine g_iload_n 3 dX12_keep_21 rfl rfl ?_
        refine g_iconst (v := 0) dX12_keep_22 (by decide) ?_
        refine g_bipush (v := 7) dX12_keep_23 (by decide) ?_
        refine g_callSI (st := []) (s_X12_isIn hX v3 0 7 h3) kml_X12_49 kst_X12_isIn kii_X12 kcd_X12_isIn ds_X12_isIn rfl ⟨Nat.le_of_ble_eq_true rfl, Nat.le_of_ble_eq_true rfl⟩ (Nat.le_of_ble_eq_true rfl) rfl dX12_keep_25 (fun r12 h11 => ?_)
        refine g_ifeq (tgt := 42) dX12_keep_28 (by decide) ?_ ?_
        · refine g_iconst (v := (-1)) dX12_keep_42 (by decide) ?_
          exact g_ireturn rfl dX12_keep_43
        · refine g_iload 4 dX12_keep_31 rfl ?_
          refine g_iconst (v := 0) dX12_keep_33 (by decide) ?_
          refine g_bipush (v := 9) dX12_keep_34 (by decide) ?_
          refine g_callSI (st := []) (s_X12_isIn hX v4 0 9 h11) kml_X12_49 kst_X12_isIn kii_X12 kcd_X12_isIn ds_X12_isIn rfl ⟨Nat.le_of_ble_eq_true rfl, Nat.le_of_ble_eq_true rfl⟩ (Nat.le_of_ble_eq_true rfl) rfl dX12_keep_36 (fun r14 h13 => ?_)
          refine g_ifne (tgt := 44) dX12_keep_39 (by decide) ?_ ?_
          · exact g_sub2 [0, 1, 2, 3, 4] rfl (s_X12_keep_b44 hX v0 v1 v2 v3 v4 h13)
          · refine g_iconst (v := (-1)) dX12_keep_42 (by decide) ?_
            exact g_ireturn rfl dX12_keep_43
abbrev p_X12_leaves (X : GX) (h0 : AH) : PX Int32 := (X, (fun x => Sum.inl (rI x)), (6, 132, 2), h0)
def f_X12_leaves (v0 : Option Nat) (v1 : Int32) (h : AH) : Option (Int32 × AH) :=
    (if v1 = (-1) then
    bd (cv h v0 12 (f_X12_firstLeaves v0 h)) fun r6 h5 =>
    some (r6, h5)
    else bd (cv h v0 12 (f_X12_isGuest v0 v1 h)) fun r2 h1 =>
    (if r2 = 0 then
    some ((-1), h1)
    else bd (cv h1 v0 12 (f_X12_leavesOf v0 v1 h1)) fun r4 h3 =>
    some (r4, h3)))
set_option maxRecDepth 100000 in
set_option maxHeartbeats 4000000 in
theorem s_X12_leaves {X : GX} (hX : XOK X) (v0 : Option Nat) (v1 : Int32) (h : AH) : Snd X yX12_leaves cX12_leaves 2 (some .int) 6 132 rI [vR v0, vI v1] h (f_X12_leaves v0 v1 h) := by
  refine snd_of hX (by decide +kernel) (Nat.le_of_ble_eq_true rfl) ?_
  show Gp (p_X12_leaves X h) RX12 "leaves" cX12_leaves (some .int) 0 [(0, vR v0), (1, vI v1)] [] h _
  unfold f_X12_leaves
  refine g_iload_n 1 dX12_leaves_0 rfl rfl ?_
  refine g_iconst (v := (-1)) dX12_leaves_1 (by decide) ?_
  refine g_icmpne (tgt := 12) dX12_leaves_2 (by decide) ?_ ?_
  · refine g_aload_n 0 dX12_leaves_12 rfl rfl ?_
    refine g_iload_n 1 dX12_leaves_13 rfl rfl ?_
    refine g_callVI (st := []) (ci := 12) rfl (s_X12_isGuest hX v0 v1 h) kml_X12_113 kim_X12_isGuest kse_X12_isGuest kii_X12 kcd_X12_isGuest rfl ds_X12_isGuest rfl ⟨Nat.le_of_ble_eq_true rfl, Nat.le_of_ble_eq_true rfl⟩ (Nat.le_of_ble_eq_true rfl) rfl dX12_leaves_14 (fun r2 h1 => ?_)
    refine g_ifeq (tgt := 28) dX12_leaves_17 (by decide) ?_ ?_
    · refine g_iconst (v := (-1)) dX12_leaves_28 (by decide) ?_
      exact g_ireturn rfl dX12_leaves_29
    · refine g_aload_n 0 dX12_leaves_20 rfl rfl ?_
      refine g_iload_n 1 dX12_leaves_21 rfl rfl ?_
      refine g_callVI (st := []) (ci := 12) rfl (s_X12_leavesOf hX v0 v1 h1) kml_X12_170 kim_X12_leavesOf kse_X12_leavesOf kii_X12 kcd_X12_leavesOf rfl ds_X12_leavesOf rfl ⟨Nat.le_of_ble_eq_true rfl, Nat.le_of_ble_eq_true rfl⟩ (Nat.le_of_ble_eq_true rfl) rfl dX12_leaves_22 (fun r4 h3 => ?_)
      refine g_goto (tgt := 29) dX12_leaves_25 (by decide) ?_
      exact g_ireturn rfl dX12_leaves_29
  · refine g_aload_n 0 dX12_leaves_5 rfl rfl ?_
    refine g_callVI (st := []) (ci := 12) rfl (s_X12_firstLeaves hX v0 h) kml_X12_173 kim_X12_firstLeaves kse_X12_firstLeaves kii_X12 kcd_X12_firstLeaves rfl ds_X12_firstLeaves rfl ⟨Nat.le_of_ble_eq_true rfl, Nat.le_of_ble_eq_true rfl⟩ (Nat.le_of_ble_eq_true rfl) rfl dX12_leaves_6 (fun r6 h5 => ?_)
    refine g_goto (tgt := 29) dX12_leaves_9 (by decide) ?_
    exact g_ireturn rfl dX12_leaves_29
abbrev p_X12_ledger (X : GX) (h0 : AH) : PX Int32 := (X, (fun x => Sum.inl (rI x)), (2, 42, 3), h0)
def f_X12_ledger_b51 (k4 : Option Nat → Int32 → Int32 → AH → Option (Int32 × AH)) (x0 : Option Nat) (x2 : Int32) (y1 : Int32) (y0 : Int32) (h : AH) : Option (Int32 × AH) :=
    nm (y0 + y1) fun t6 =>
    k4 x0 t6 (x2 + 1) h
set_option maxRecDepth 100000 in
set_option maxHeartbeats 4000000 in
theorem s_X12_ledger_b51 {X : GX} (hX : XOK X) {h0 : AH} (k4 : Option Nat → Int32 → Int32 → AH → Option (Int32 × AH)) (hk4 : ∀ (z0 : Option Nat) (z1 : Int32) (z2 : Int32) (h : AH), Gp (p_X12_ledger X h0) RX12 "ledger" cX12_ledger (some .int) 4 [(0, vR z0), (1, vI z1), (2, vI z2)] [] h (k4 z0 z1 z2 h)) : ∀ (x0 : Option Nat) (x2 : Int32) (y1 : Int32) (y0 : Int32) (h : AH), Gp (p_X12_ledger X h0) RX12 "ledger" cX12_ledger (some .int) 51 [(0, vR x0), (2, vI x2)] [vI y1, vI y0] h (f_X12_ledger_b51 k4 x0 x2 y1 y0 h) := by
  intro x0 x2 y1 y0 h
  unfold f_X12_ledger_b51
  refine g_iadd dX12_ledger_51 ?_
  refine g_nmI (fun t6 => ?_)
  refine g_istore_n (ls' := [(1, vI t6), (0, vR x0), (2, vI x2)]) dX12_ledger_52 rfl (Nat.le_of_ble_eq_true rfl) rfl ?_
  refine g_iinc 2 (v := (x2 + 1)) (ls' := [(2, vI ((x2 + 1))), (1, vI t6), (0, vR x0)]) dX12_ledger_53 rfl rfl (Nat.le_of_ble_eq_true rfl) rfl ?_
  refine g_goto (tgt := 4) dX12_ledger_56 (by decide) ?_
  exact g_sub2 [2, 1, 0] rfl (hk4 x0 t6 (x2 + 1) h)
def f_X12_ledger_b4 : Nat → Option Nat → Int32 → Int32 → AH → Option (Int32 × AH)
  | 0 => fun _ _ _ _ => none
  | n + 1 => fun x0 x1 x2 h =>
    (gR h x0 [12] 0).bind fun t1 =>
    (iA h t1 0).bind fun t2 =>
    (if t2 ≤ x2 then
    some (x1, h)
    else (gR h x0 [12] 0).bind fun t3 =>
    bd (f_X12_isHere t3 x2 h) fun r5 h4 =>
    (if r5 = 0 then
    f_X12_ledger_b51 (f_X12_ledger_b4 n) x0 x2 0 x1 h4
    else (gR h4 x0 [12] 0).bind fun t7 =>
    bd (f_X12_of x2 3 h4) fun r9 h8 =>
    (iA h8 t7 r9).bind fun t10 =>
    (gR h8 x0 [12] 0).bind fun t11 =>
    bd (f_X12_of x2 2 h8) fun r13 h12 =>
    (iA h12 t11 r13).bind fun t14 =>
    f_X12_ledger_b51 (f_X12_ledger_b4 n) x0 x2 (t10 - t14) x1 h12))
set_option maxRecDepth 100000 in
set_option maxHeartbeats 4000000 in
theorem s_X12_ledger_b4 {X : GX} (hX : XOK X) {h0 : AH} : ∀ (n : Nat) (x0 : Option Nat) (x1 : Int32) (x2 : Int32) (h : AH), Gp (p_X12_ledger X h0) RX12 "ledger" cX12_ledger (some .int) 4 [(0, vR x0), (1, vI x1), (2, vI x2)] [] h (f_X12_ledger_b4 n x0 x1 x2 h) := by
  intro n
  induction n with
  | zero => intro x0 x1 x2 h; exact g_none
  | succ n ih =>
    intro x0 x1 x2 h
    rw [f_X12_ledger_b4]
    refine g_iload_n 2 dX12_ledger_4 rfl rfl ?_
    refine g_aload_n 0 dX12_ledger_5 rfl rfl ?_
    refine g_getR kfl_X12_9 fo_X12_s dX12_ledger_6 (fun t1 => ?_)
    refine g_iconst (v := 0) dX12_ledger_9 (by decide) ?_
    refine g_iaload dX12_ledger_10 (fun t2 => ?_)
    refine g_icmpge (tgt := 59) dX12_ledger_11 (by decide) ?_ ?_
    · refine g_iload_n 1 dX12_ledger_59 rfl rfl ?_
      exact g_ireturn rfl dX12_ledger_60
    · refine g_iload_n 1 dX12_ledger_14 rfl rfl ?_
      refine g_aload_n 0 dX12_ledger_15 rfl rfl ?_
      refine g_getR kfl_X12_9 fo_X12_s dX12_ledger_16 (fun t3 => ?_)
      refine g_iload_n 2 dX12_ledger_19 rfl rfl ?_
      refine g_callSI (st := [vI x1]) (s_X12_isHere hX t3 x2 h) kml_X12_61 kst_X12_isHere kii_X12 kcd_X12_isHere ds_X12_isHere rfl ⟨Nat.le_of_ble_eq_true rfl, Nat.le_of_ble_eq_true rfl⟩ (Nat.le_of_ble_eq_true rfl) rfl dX12_ledger_20 (fun r5 h4 => ?_)
      refine g_ifeq (tgt := 50) dX12_ledger_23 (by decide) ?_ ?_
      · refine g_iconst (v := 0) dX12_ledger_50 (by decide) ?_
        exact g_sub2 [0, 2] rfl (s_X12_ledger_b51 hX (f_X12_ledger_b4 n) (fun z0 z1 z2 z3 => ih z0 z1 z2 z3) x0 x2 0 x1 h4)
      · refine g_aload_n 0 dX12_ledger_26 rfl rfl ?_
        refine g_getR kfl_X12_9 fo_X12_s dX12_ledger_27 (fun t7 => ?_)
        refine g_iload_n 2 dX12_ledger_30 rfl rfl ?_
        refine g_iconst (v := 3) dX12_ledger_31 (by decide) ?_
        refine g_callSI (st := [vR t7, vI x1]) (s_X12_of hX x2 3 h4) kml_X12_53 kst_X12_of kii_X12 kcd_X12_of ds_X12_of rfl ⟨Nat.le_of_ble_eq_true rfl, Nat.le_of_ble_eq_true rfl⟩ (Nat.le_of_ble_eq_true rfl) rfl dX12_ledger_32 (fun r9 h8 => ?_)
        refine g_iaload dX12_ledger_35 (fun t10 => ?_)
        refine g_aload_n 0 dX12_ledger_36 rfl rfl ?_
        refine g_getR kfl_X12_9 fo_X12_s dX12_ledger_37 (fun t11 => ?_)
        refine g_iload_n 2 dX12_ledger_40 rfl rfl ?_
        refine g_iconst (v := 2) dX12_ledger_41 (by decide) ?_
        refine g_callSI (st := [vR t11, vI t10, vI x1]) (s_X12_of hX x2 2 h8) kml_X12_53 kst_X12_of kii_X12 kcd_X12_of ds_X12_of rfl ⟨Nat.le_of_ble_eq_true rfl, Nat.le_of_ble_eq_true rfl⟩ (Nat.le_of_ble_eq_true rfl) rfl dX12_ledger_42 (fun r13 h12 => ?_)
        refine g_iaload dX12_ledger_45 (fun t14 => ?_)
        refine g_isub dX12_ledger_46 ?_
        refine g_goto (tgt := 51) dX12_ledger_47 (by decide) ?_
        exact g_sub2 [0, 2] rfl (s_X12_ledger_b51 hX (f_X12_ledger_b4 n) (fun z0 z1 z2 z3 => ih z0 z1 z2 z3) x0 x2 (t10 - t14) x1 h12)
def f_X12_ledger (v0 : Option Nat) (h : AH) : Option (Int32 × AH) :=
    f_X12_ledger_b4 FU v0 0 0 h
set_option maxRecDepth 100000 in
set_option maxHeartbeats 4000000 in
theorem s_X12_ledger {X : GX} (hX : XOK X) (v0 : Option Nat) (h : AH) : Snd X yX12_ledger cX12_ledger 3 (some .int) 2 42 rI [vR v0] h (f_X12_ledger v0 h) := by
  refine snd_of hX (by decide +kernel) (Nat.le_of_ble_eq_true rfl) ?_
  show Gp (p_X12_ledger X h) RX12 "ledger" cX12_ledger (some .int) 0 [(0, vR v0)] [] h _
  unfold f_X12_ledger
  refine g_iconst (v := 0) dX12_ledger_0 (by decide) ?_
  refine g_istore_n (ls' := [(1, vI 0), (0, vR v0)]) dX12_ledger_1 rfl (Nat.le_of_ble_eq_true rfl) rfl ?_
  refine g_iconst (v := 0) dX12_ledger_2 (by decide) ?_
  refine g_istore_n (ls' := [(2, vI 0), (1, vI 0), (0, vR v0)]) dX12_ledger_3 rfl (Nat.le_of_ble_eq_true rfl) rfl ?_
  exact g_sub2 [2, 1, 0] rfl (s_X12_ledger_b4 hX FU v0 0 0 h)
abbrev p_X12_leftBy (X : GX) (h0 : AH) : PX Int32 := (X, (fun x => Sum.inl (rI x)), (4, 86, 4), h0)
def f_X12_leftBy_b64 (x0 : Option Nat) (x1 : Int32) (x2 : Int32) (y0 : Int32) (h : AH) : Option (Int32 × AH) :=
    (if x1 = x2 then
    some ((y0 + 0), h)
    else (gR h x0 [12] 1).bind fun t11 =>
    bd (f_X12_isHere t11 x2 h) fun r13 h12 =>
    (if r13 = 0 then
    some ((y0 + 1), h12)
    else some ((y0 + 0), h12)))
set_option maxRecDepth 100000 in
set_option maxHeartbeats 4000000 in
theorem s_X12_leftBy_b64 {X : GX} (hX : XOK X) {h0 : AH} : ∀ (x0 : Option Nat) (x1 : Int32) (x2 : Int32) (y0 : Int32) (h : AH), Gp (p_X12_leftBy X h0) RX12 "leftBy" cX12_leftBy (some .int) 64 [(0, vR x0), (1, vI x1), (2, vI x2)] [vI y0] h (f_X12_leftBy_b64 x0 x1 x2 y0 h) := by
  intro x0 x1 x2 y0 h
  unfold f_X12_leftBy_b64
  refine g_iload_n 1 dX12_leftBy_64 rfl rfl ?_
  refine g_iload_n 2 dX12_leftBy_65 rfl rfl ?_
  refine g_icmpeq (tgt := 80) dX12_leftBy_66 (by decide) ?_ ?_
  · refine g_iconst (v := 0) dX12_leftBy_80 (by decide) ?_
    refine g_goto (tgt := 85) dX12_leftBy_81 (by decide) ?_
    refine g_iadd dX12_leftBy_85 ?_
    exact g_ireturn rfl dX12_leftBy_86
  · refine g_aload_n 0 dX12_leftBy_69 rfl rfl ?_
    refine g_getR kfl_X12_13 fo_X12_m dX12_leftBy_70 (fun t11 => ?_)
    refine g_iload_n 2 dX12_leftBy_73 rfl rfl ?_
    refine g_callSI (st := [vI y0]) (s_X12_isHere hX t11 x2 h) kml_X12_61 kst_X12_isHere kii_X12 kcd_X12_isHere ds_X12_isHere rfl ⟨Nat.le_of_ble_eq_true rfl, Nat.le_of_ble_eq_true rfl⟩ (Nat.le_of_ble_eq_true rfl) rfl dX12_leftBy_74 (fun r13 h12 => ?_)
    refine g_ifeq (tgt := 84) dX12_leftBy_77 (by decide) ?_ ?_
    · refine g_iconst (v := 1) dX12_leftBy_84 (by decide) ?_
      refine g_iadd dX12_leftBy_85 ?_
      exact g_ireturn rfl dX12_leftBy_86
    · refine g_iconst (v := 0) dX12_leftBy_80 (by decide) ?_
      refine g_goto (tgt := 85) dX12_leftBy_81 (by decide) ?_
      refine g_iadd dX12_leftBy_85 ?_
      exact g_ireturn rfl dX12_leftBy_86
def f_X12_leftBy_b40 (x0 : Option Nat) (x1 : Int32) (x2 : Int32) (h : AH) : Option (Int32 × AH) :=
    (gR h x0 [12] 1).bind fun t5 =>
    bd (f_X12_day t5 0 h) fun u7 h6 =>
    (gR h6 x0 [12] 1).bind fun t8 =>
    bd (f_X12_isHere t8 x1 h6) fun r10 h9 =>
    (if r10 = 0 then
    f_X12_leftBy_b64 x0 x1 x2 1 h9
    else f_X12_leftBy_b64 x0 x1 x2 0 h9)
set_option maxRecDepth 100000 in
set_option maxHeartbeats 4000000 in
theorem s_X12_leftBy_b40 {X : GX} (hX : XOK X) {h0 : AH} : ∀ (x0 : Option Nat) (x1 : Int32) (x2 : Int32) (h : AH), Gp (p_X12_leftBy X h0) RX12 "leftBy" cX12_leftBy (some .int) 40 [(0, vR x0), (1, vI x1), (2, vI x2)] [] h (f_X12_leftBy_b40 x0 x1 x2 h) := by
  intro x0 x1 x2 h
  unfold f_X12_leftBy_b40
  refine g_aload_n 0 dX12_leftBy_40 rfl rfl ?_
  refine g_getR kfl_X12_13 fo_X12_m dX12_leftBy_41 (fun t5 => ?_)
  refine g_iconst (v := 0) dX12_leftBy_44 (by decide) ?_
  refine g_callSU (st := []) (s_X12_day hX t5 0 h) kml_X12_82 kst_X12_day kii_X12 kcd_X12_day ds_X12_day rfl ⟨Nat.le_of_ble_eq_true rfl, Nat.le_of_ble_eq_true rfl⟩ (Nat.le_of_ble_eq_true rfl) rfl dX12_leftBy_45 (fun u7 h6 => ?_)
  refine g_aload_n 0 dX12_leftBy_48 rfl rfl ?_
  refine g_getR kfl_X12_13 fo_X12_m dX12_leftBy_49 (fun t8 => ?_)
  refine g_iload_n 1 dX12_leftBy_52 rfl rfl ?_
  refine g_callSI (st := []) (s_X12_isHere hX t8 x1 h6) kml_X12_61 kst_X12_isHere kii_X12 kcd_X12_isHere ds_X12_isHere rfl ⟨Nat.le_of_ble_eq_true rfl, Nat.le_of_ble_eq_true rfl⟩ (Nat.le_of_ble_eq_true rfl) rfl dX12_leftBy_53 (fun r10 h9 => ?_)
  refine g_ifeq (tgt := 63) dX12_leftBy_56 (by decide) ?_ ?_
  · refine g_iconst (v := 1) dX12_leftBy_63 (by decide) ?_
    exact g_sub2 [0, 1, 2] rfl (s_X12_leftBy_b64 hX x0 x1 x2 1 h9)
  · refine g_iconst (v := 0) dX12_leftBy_59 (by decide) ?_
    refine g_goto (tgt := 64) dX12_leftBy_60 (by decide) ?_
    exact g_sub2 [0, 1, 2] rfl (s_X12_leftBy_b64 hX x0 x1 x2 0 h9)
def f_X12_leftBy (v0 : Option Nat) (v1 : Int32) (v2 : Int32) (v3 : Int32) (h : AH) : Option (Int32 × AH) :=
    (gR h v0 [12] 0).bind fun t1 =>
    (gR h v0 [12] 1).bind fun t2 =>
    bd (f_X12_copies t1 t2 h) fun u4 h3 =>
    (if v3 ≤ 0 then
    f_X12_leftBy_b40 v0 v1 v2 h3
    else (gR h3 v0 [12] 1).bind fun t14 =>
    bd (f_X12_canLend t14 v1 v2 v3 h3) fun r16 h15 =>
    (if r16 = 0 then
    some ((-1), h15)
    else (gR h15 v0 [12] 1).bind fun t17 =>
    bd (f_X12_lendsIn t17 v1 v2 v3 h15) fun u19 h18 =>
    f_X12_leftBy_b40 v0 v1 v2 h18))
set_option maxRecDepth 100000 in
set_option maxHeartbeats 4000000 in
theorem s_X12_leftBy {X : GX} (hX : XOK X) (v0 : Option Nat) (v1 : Int32) (v2 : Int32) (v3 : Int32) (h : AH) : Snd X yX12_leftBy cX12_leftBy 4 (some .int) 4 86 rI [vR v0, vI v1, vI v2, vI v3] h (f_X12_leftBy v0 v1 v2 v3 h) := by
  refine snd_of hX (by decide +kernel) (Nat.le_of_ble_eq_true rfl) ?_
  show Gp (p_X12_leftBy X h) RX12 "leftBy" cX12_leftBy (some .int) 0 [(0, vR v0), (1, vI v1), (2, vI v2), (3, vI v3)] [] h _
  unfold f_X12_leftBy
  refine g_aload_n 0 dX12_leftBy_0 rfl rfl ?_
  refine g_getR kfl_X12_9 fo_X12_s dX12_leftBy_1 (fun t1 => ?_)
  refine g_aload_n 0 dX12_leftBy_4 rfl rfl ?_
  refine g_getR kfl_X12_13 fo_X12_m dX12_leftBy_5 (fun t2 => ?_)
  refine g_callSU (st := []) (s_X12_copies hX t1 t2 h) kml_X12_141 kst_X12_copies kii_X12 kcd_X12_copies ds_X12_copies rfl ⟨Nat.le_of_ble_eq_true rfl, Nat.le_of_ble_eq_true rfl⟩ (Nat.le_of_ble_eq_true rfl) rfl dX12_leftBy_8 (fun u4 h3 => ?_)
  refine g_iload_n 3 dX12_leftBy_11 rfl rfl ?_
  refine g_ifle (tgt := 40) dX12_leftBy_12 (by decide) ?_ ?_
  · exact g_sub2 [0, 1, 2] rfl (s_X12_leftBy_b40 hX v0 v1 v2 h3)
  · refine g_aload_n 0 dX12_leftBy_15 rfl rfl ?_
    refine g_getR kfl_X12_13 fo_X12_m dX12_leftBy_16 (fun t14 => ?_)
    refine g_iload_n 1 dX12_leftBy_19 rfl rfl ?_
    refine g_iload_n 2 dX12_leftBy_20 rfl rfl ?_
    refine g_iload_n 3 dX12_leftBy_21 rfl rfl ?_
    refine g_callSI (st := []) (s_X12_canLend hX t14 v1 v2 v3 h3) kml_X12_123 kst_X12_canLend kii_X12 kcd_X12_canLend ds_X12_canLend rfl ⟨Nat.le_of_ble_eq_true rfl, Nat.le_of_ble_eq_true rfl⟩ (Nat.le_of_ble_eq_true rfl) rfl dX12_leftBy_22 (fun r16 h15 => ?_)
    refine g_ifne (tgt := 30) dX12_leftBy_25 (by decide) ?_ ?_
    · refine g_aload_n 0 dX12_leftBy_30 rfl rfl ?_
      refine g_getR kfl_X12_13 fo_X12_m dX12_leftBy_31 (fun t17 => ?_)
      refine g_iload_n 1 dX12_leftBy_34 rfl rfl ?_
      refine g_iload_n 2 dX12_leftBy_35 rfl rfl ?_
      refine g_iload_n 3 dX12_leftBy_36 rfl rfl ?_
      refine g_callSU (st := []) (s_X12_lendsIn hX t17 v1 v2 v3 h15) kml_X12_127 kst_X12_lendsIn kii_X12 kcd_X12_lendsIn ds_X12_lendsIn rfl ⟨Nat.le_of_ble_eq_true rfl, Nat.le_of_ble_eq_true rfl⟩ (Nat.le_of_ble_eq_true rfl) rfl dX12_leftBy_37 (fun u19 h18 => ?_)
      exact g_sub2 [0, 1, 2] rfl (s_X12_leftBy_b40 hX v0 v1 v2 h18)
    · refine g_iconst (v := (-1)) dX12_leftBy_28 (by decide) ?_
      exact g_ireturn rfl dX12_leftBy_29
abbrev p_X12_lends (X : GX) (h0 : AH) : PX Int32 := (X, (fun x => Sum.inl (rI x)), (3, 65, 4), h0)
def f_X12_lends (v0 : Option Nat) (v1 : Int32) (v2 : Int32) (v3 : Int32) (h : AH) : Option (Int32 × AH) :=
    bd (cv h v0 12 (f_X12_isGuest v0 v1 h)) fun r2 h1 =>
    (if r2 = 0 then
    some ((-1), h1)
    else bd (cv h1 v0 12 (f_X12_isGuest v0 v2 h1)) fun r4 h3 =>
    (if r4 = 0 then
    some ((-1), h3)
    else (if v1 = v2 then
    some ((-1), h3)
    else bd (f_X12_isIn v3 1 20 h3) fun r6 h5 =>
    (if r6 = 0 then
    some ((-1), h5)
    else (gR h5 v0 [12] 0).bind fun t7 =>
    bd (f_X12_canLend t7 v1 v2 v3 h5) fun r9 h8 =>
    (if r9 = 0 then
    some ((-3), h8)
    else (gR h8 v0 [12] 0).bind fun t10 =>
    bd (f_X12_lendsIn t10 v1 v2 v3 h8) fun u12 h11 =>
    (gR h11 v0 [12] 0).bind fun t13 =>
    bd (f_X12_of v1 2 h11) fun r15 h14 =>
    (iA h14 t13 r15).bind fun t16 =>
    some (t16, h14))))))
set_option maxRecDepth 100000 in
set_option maxHeartbeats 4000000 in
theorem s_X12_lends {X : GX} (hX : XOK X) (v0 : Option Nat) (v1 : Int32) (v2 : Int32) (v3 : Int32) (h : AH) : Snd X yX12_lends cX12_lends 4 (some .int) 3 65 rI [vR v0, vI v1, vI v2, vI v3] h (f_X12_lends v0 v1 v2 v3 h) := by
  refine snd_of hX (by decide +kernel) (Nat.le_of_ble_eq_true rfl) ?_
  show Gp (p_X12_lends X h) RX12 "lends" cX12_lends (some .int) 0 [(0, vR v0), (1, vI v1), (2, vI v2), (3, vI v3)] [] h _
  unfold f_X12_lends
  refine g_aload_n 0 dX12_lends_0 rfl rfl ?_
  refine g_iload_n 1 dX12_lends_1 rfl rfl ?_
  refine g_callVI (st := []) (ci := 12) rfl (s_X12_isGuest hX v0 v1 h) kml_X12_113 kim_X12_isGuest kse_X12_isGuest kii_X12 kcd_X12_isGuest rfl ds_X12_isGuest rfl ⟨Nat.le_of_ble_eq_true rfl, Nat.le_of_ble_eq_true rfl⟩ (Nat.le_of_ble_eq_true rfl) rfl dX12_lends_2 (fun r2 h1 => ?_)
  refine g_ifeq (tgt := 31) dX12_lends_5 (by decide) ?_ ?_
  · refine g_iconst (v := (-1)) dX12_lends_31 (by decide) ?_
    exact g_ireturn rfl dX12_lends_32
  · refine g_aload_n 0 dX12_lends_8 rfl rfl ?_
    refine g_iload_n 2 dX12_lends_9 rfl rfl ?_
    refine g_callVI (st := []) (ci := 12) rfl (s_X12_isGuest hX v0 v2 h1) kml_X12_113 kim_X12_isGuest kse_X12_isGuest kii_X12 kcd_X12_isGuest rfl ds_X12_isGuest rfl ⟨Nat.le_of_ble_eq_true rfl, Nat.le_of_ble_eq_true rfl⟩ (Nat.le_of_ble_eq_true rfl) rfl dX12_lends_10 (fun r4 h3 => ?_)
    refine g_ifeq (tgt := 31) dX12_lends_13 (by decide) ?_ ?_
    · refine g_iconst (v := (-1)) dX12_lends_31 (by decide) ?_
      exact g_ireturn rfl dX12_lends_32
    · refine g_iload_n 1 dX12_lends_16 rfl rfl ?_
      refine g_iload_n 2 dX12_lends_17 rfl rfl ?_
      refine g_icmpeq (tgt := 31) dX12_lends_18 (by decide) ?_ ?_
      · refine g_iconst (v := (-1)) dX12_lends_31 (by decide) ?_
        exact g_ireturn rfl dX12_lends_32
      · refine g_iload_n 3 dX12_lends_21 rfl rfl ?_
        refine g_iconst (v := 1) dX12_lends_22 (by decide) ?_
        refine g_bipush (v := 20) dX12_lends_23 (by decide) ?_
        refine g_callSI (st := []) (s_X12_isIn hX v3 1 20 h3) kml_X12_49 kst_X12_isIn kii_X12 kcd_X12_isIn ds_X12_isIn rfl ⟨Nat.le_of_ble_eq_true rfl, Nat.le_of_ble_eq_true rfl⟩ (Nat.le_of_ble_eq_true rfl) rfl dX12_lends_25 (fun r6 h5 => ?_)
        refine g_ifne (tgt := 33) dX12_lends_28 (by decide) ?_ ?_
        · refine g_aload_n 0 dX12_lends_33 rfl rfl ?_
          refine g_getR kfl_X12_9 fo_X12_s dX12_lends_34 (fun t7 => ?_)
          refine g_iload_n 1 dX12_lends_37 rfl rfl ?_
          refine g_iload_n 2 dX12_lends_38 rfl rfl ?_
          refine g_iload_n 3 dX12_lends_39 rfl rfl ?_
          refine g_callSI (st := []) (s_X12_canLend hX t7 v1 v2 v3 h5) kml_X12_123 kst_X12_canLend kii_X12 kcd_X12_canLend ds_X12_canLend rfl ⟨Nat.le_of_ble_eq_true rfl, Nat.le_of_ble_eq_true rfl⟩ (Nat.le_of_ble_eq_true rfl) rfl dX12_lends_40 (fun r9 h8 => ?_)
          refine g_ifne (tgt := 49) dX12_lends_43 (by decide) ?_ ?_
          · refine g_aload_n 0 dX12_lends_49 rfl rfl ?_
            refine g_getR kfl_X12_9 fo_X12_s dX12_lends_50 (fun t10 => ?_)
            refine g_iload_n 1 dX12_lends_53 rfl rfl ?_
            refine g_iload_n 2 dX12_lends_54 rfl rfl ?_
            refine g_iload_n 3 dX12_lends_55 rfl rfl ?_
            refine g_callSU (st := []) (s_X12_lendsIn hX t10 v1 v2 v3 h8) kml_X12_127 kst_X12_lendsIn kii_X12 kcd_X12_lendsIn ds_X12_lendsIn rfl ⟨Nat.le_of_ble_eq_true rfl, Nat.le_of_ble_eq_true rfl⟩ (Nat.le_of_ble_eq_true rfl) rfl dX12_lends_56 (fun u12 h11 => ?_)
            refine g_aload_n 0 dX12_lends_59 rfl rfl ?_
            refine g_getR kfl_X12_9 fo_X12_s dX12_lends_60 (fun t13 => ?_)
            refine g_iload_n 1 dX12_lends_63 rfl rfl ?_
            refine g_iconst (v := 2) dX12_lends_64 (by decide) ?_
            refine g_callSI (st := [vR t13]) (s_X12_of hX v1 2 h11) kml_X12_53 kst_X12_of kii_X12 kcd_X12_of ds_X12_of rfl ⟨Nat.le_of_ble_eq_true rfl, Nat.le_of_ble_eq_true rfl⟩ (Nat.le_of_ble_eq_true rfl) rfl dX12_lends_65 (fun r15 h14 => ?_)
            refine g_iaload dX12_lends_68 (fun t16 => ?_)
            exact g_ireturn rfl dX12_lends_69
          · refine g_bipush (v := (-3)) dX12_lends_46 (by decide) ?_
            exact g_ireturn rfl dX12_lends_48
        · refine g_iconst (v := (-1)) dX12_lends_31 (by decide) ?_
          exact g_ireturn rfl dX12_lends_32
abbrev p_X12_lighterThan (X : GX) (h0 : AH) : PX Int32 := (X, (fun x => Sum.inl (rI x)), (2, 42, 5), h0)
def f_X12_lighterThan_b81 (k16 : Option Nat → Int32 → Int32 → Int32 → Int32 → AH → Option (Int32 × AH)) (x0 : Option Nat) (x1 : Int32) (x3 : Int32) (x4 : Int32) (y1 : Int32) (y0 : Int32) (h : AH) : Option (Int32 × AH) :=
    nm (y0 + y1) fun t10 =>
    k16 x0 x1 t10 x3 (x4 + 1) h
set_option maxRecDepth 100000 in
set_option maxHeartbeats 4000000 in
theorem s_X12_lighterThan_b81 {X : GX} (hX : XOK X) {h0 : AH} (k16 : Option Nat → Int32 → Int32 → Int32 → Int32 → AH → Option (Int32 × AH)) (hk16 : ∀ (z0 : Option Nat) (z1 : Int32) (z2 : Int32) (z3 : Int32) (z4 : Int32) (h : AH), Gp (p_X12_lighterThan X h0) RX12 "lighterThan" cX12_lighterThan (some .int) 16 [(0, vR z0), (1, vI z1), (2, vI z2), (3, vI z3), (4, vI z4)] [] h (k16 z0 z1 z2 z3 z4 h)) : ∀ (x0 : Option Nat) (x1 : Int32) (x3 : Int32) (x4 : Int32) (y1 : Int32) (y0 : Int32) (h : AH), Gp (p_X12_lighterThan X h0) RX12 "lighterThan" cX12_lighterThan (some .int) 81 [(0, vR x0), (1, vI x1), (3, vI x3), (4, vI x4)] [vI y1, vI y0] h (f_X12_lighterThan_b81 k16 x0 x1 x3 x4 y1 y0 h) := by
  intro x0 x1 x3 x4 y1 y0 h
  unfold f_X12_lighterThan_b81
  refine g_iadd dX12_lighterThan_81 ?_
  refine g_nmI (fun t10 => ?_)
  refine g_istore_n (ls' := [(2, vI t10), (0, vR x0), (1, vI x1), (3, vI x3), (4, vI x4)]) dX12_lighterThan_82 rfl (Nat.le_of_ble_eq_true rfl) rfl ?_
  refine g_iinc 4 (v := (x4 + 1)) (ls' := [(4, vI ((x4 + 1))), (2, vI t10), (0, vR x0), (1, vI x1), (3, vI x3)]) dX12_lighterThan_83 rfl rfl (Nat.le_of_ble_eq_true rfl) rfl ?_
  refine g_goto (tgt := 16) dX12_lighterThan_86 (by decide) ?_
  exact g_sub2 [2, 3, 1, 4, 0] rfl (hk16 x0 x1 t10 x3 (x4 + 1) h)
def f_X12_lighterThan_b80 (k16 : Option Nat → Int32 → Int32 → Int32 → Int32 → AH → Option (Int32 × AH)) (x0 : Option Nat) (x1 : Int32) (x3 : Int32) (x4 : Int32) (y0 : Int32) (h : AH) : Option (Int32 × AH) :=
    f_X12_lighterThan_b81 k16 x0 x1 x3 x4 0 y0 h
set_option maxRecDepth 100000 in
set_option maxHeartbeats 4000000 in
theorem s_X12_lighterThan_b80 {X : GX} (hX : XOK X) {h0 : AH} (k16 : Option Nat → Int32 → Int32 → Int32 → Int32 → AH → Option (Int32 × AH)) (hk16 : ∀ (z0 : Option Nat) (z1 : Int32) (z2 : Int32) (z3 : Int32) (z4 : Int32) (h : AH), Gp (p_X12_lighterThan X h0) RX12 "lighterThan" cX12_lighterThan (some .int) 16 [(0, vR z0), (1, vI z1), (2, vI z2), (3, vI z3), (4, vI z4)] [] h (k16 z0 z1 z2 z3 z4 h)) : ∀ (x0 : Option Nat) (x1 : Int32) (x3 : Int32) (x4 : Int32) (y0 : Int32) (h : AH), Gp (p_X12_lighterThan X h0) RX12 "lighterThan" cX12_lighterThan (some .int) 80 [(0, vR x0), (1, vI x1), (3, vI x3), (4, vI x4)] [vI y0] h (f_X12_lighterThan_b80 k16 x0 x1 x3 x4 y0 h) := by
  intro x0 x1 x3 x4 y0 h
  unfold f_X12_lighterThan_b80
  refine g_iconst (v := 0) dX12_lighterThan_80 (by decide) ?_
  exact g_sub2 [0, 1, 2, 3] rfl (s_X12_lighterThan_b81 hX k16 (fun z0 z1 z2 z3 z4 z5 => hk16 z0 z1 z2 z3 z4 z5) x0 x1 x3 x4 0 y0 h)
def f_X12_lighterThan_b76 (k16 : Option Nat → Int32 → Int32 → Int32 → Int32 → AH → Option (Int32 × AH)) (x0 : Option Nat) (x1 : Int32) (x3 : Int32) (x4 : Int32) (y0 : Int32) (h : AH) : Option (Int32 × AH) :=
    f_X12_lighterThan_b81 k16 x0 x1 x3 x4 1 y0 h
set_option maxRecDepth 100000 in
set_option maxHeartbeats 4000000 in
theorem s_X12_lighterThan_b76 {X : GX} (hX : XOK X) {h0 : AH} (k16 : Option Nat → Int32 → Int32 → Int32 → Int32 → AH → Option (Int32 × AH)) (hk16 : ∀ (z0 : Option Nat) (z1 : Int32) (z2 : Int32) (z3 : Int32) (z4 : Int32) (h : AH), Gp (p_X12_lighterThan X h0) RX12 "lighterThan" cX12_lighterThan (some .int) 16 [(0, vR z0), (1, vI z1), (2, vI z2), (3, vI z3), (4, vI z4)] [] h (k16 z0 z1 z2 z3 z4 h)) : ∀ (x0 : Option Nat) (x1 : Int32) (x3 : Int32) (x4 : Int32) (y0 : Int32) (h : AH), Gp (p_X12_lighterThan X h0) RX12 "lighterThan" cX12_lighterThan (some .int) 76 [(0, vR x0), (1, vI x1), (3, vI x3), (4, vI x4)] [vI y0] h (f_X12_lighterThan_b76 k16 x0 x1 x3 x4 y0 h) := by
  intro x0 x1 x3 x4 y0 h
  unfold f_X12_lighterThan_b76
  refine g_iconst (v := 1) dX12_lighterThan_76 (by decide) ?_
  refine g_goto (tgt := 81) dX12_lighterThan_77 (by decide) ?_
  exact g_sub2 [0, 1, 2, 3] rfl (s_X12_lighterThan_b81 hX k16 (fun z0 z1 z2 z3 z4 z5 => hk16 z0 z1 z2 z3 z4 z5) x0 x1 x3 x4 1 y0 h)
def f_X12_lighterThan_b16 : Nat → Option Nat → Int32 → Int32 → Int32 → Int32 → AH → Option (Int32 × AH)
  | 0 => fun _ _ _ _ _ _ => none
  | n + 1 => fun x0 x1 x2 x3 x4 h =>
    (gR h x0 [12] 0).bind fun t5 =>
    (iA h t5 0).bind fun t6 =>
    (if t6 ≤ x4 then
    some (x2, h)
    else (gR h x0 [12] 0).bind fun t7 =>
    bd (f_X12_isHere t7 x4 h) fun r9 h8 =>
    (if r9 = 0 then
    f_X12_lighterThan_b80 (f_X12_lighterThan_b16 n) x0 x1 x3 x4 x2 h8
    else (gR h8 x0 [12] 0).bind fun t11 =>
    bd (f_X12_of x4 2 h8) fun r13 h12 =>
    (iA h12 t11 r13).bind fun t14 =>
    (if t14 < x3 then
    f_X12_lighterThan_b76 (f_X12_lighterThan_b16 n) x0 x1 x3 x4 x2 h12
    else (gR h12 x0 [12] 0).bind fun t15 =>
    bd (f_X12_of x4 2 h12) fun r17 h16 =>
    (iA h16 t15 r17).bind fun t18 =>
    (if t18 = x3 then
    (if x1 ≤ x4 then
    f_X12_lighterThan_b80 (f_X12_lighterThan_b16 n) x0 x1 x3 x4 x2 h16
    else f_X12_lighterThan_b76 (f_X12_lighterThan_b16 n) x0 x1 x3 x4 x2 h16)
    else f_X12_lighterThan_b80 (f_X12_lighterThan_b16 n) x0 x1 x3 x4 x2 h16))))
set_option maxRecDepth 100000 in
set_option maxHeartbeats 4000000 in
theorem s_X12_lighterThan_b16 {X : GX} (hX : XOK X) {h0 : AH} : ∀ (n : Nat) (x0 : Option Nat) (x1 : Int32) (x2 : Int32) (x3 : Int32) (x4 : Int32) (h : AH), Gp (p_X12_lighterThan X h0) RX12 "lighterThan" cX12_lighterThan (some .int) 16 [(0, vR x0), (1, vI x1), (2, vI x2), (3, vI x3), (4, vI x4)] [] h (f_X12_lighterThan_b16 n x0 x1 x2 x3 x4 h) := by
  intro n
  induction n with
  | zero => intro x0 x1 x2 x3 x4 h; exact g_none
  | succ n ih =>
    intro x0 x1 x2 x3 x4 h
    rw [f_X12_lighterThan_b16]
    refine g_iload 4 dX12_lighterThan_16 rfl ?_
    refine g_aload_n 0 dX12_lighterThan_18 rfl rfl ?_
    refine g_getR kfl_X12_9 fo_X12_s dX12_lighterThan_19 (fun t5 => ?_)
    refine g_iconst (v := 0) dX12_lighterThan_22 (by decide) ?_
    refine g_iaload dX12_lighterThan_23 (fun t6 => ?_)
    refine g_icmpge (tgt := 89) dX12_lighterThan_24 (by decide) ?_ ?_
    · refine g_iload_n 2 dX12_lighterThan_89 rfl rfl ?_
      exact g_ireturn rfl dX12_lighterThan_90
    · refine g_iload_n 2 dX12_lighterThan_27 rfl rfl ?_
      refine g_aload_n 0 dX12_lighterThan_28 rfl rfl ?_
      refine g_getR kfl_X12_9 fo_X12_s dX12_lighterThan_29 (fun t7 => ?_)
      refine g_iload 4 dX12_lighterThan_32 rfl ?_
      refine g_callSI (st := [vI x2]) (s_X12_isHere hX t7 x4 h) kml_X12_61 kst_X12_isHere kii_X12 kcd_X12_isHere ds_X12_isHere rfl ⟨Nat.le_of_ble_eq_true rfl, Nat.le_of_ble_eq_true rfl⟩ (Nat.le_of_ble_eq_true rfl) rfl dX12_lighterThan_34 (fun r9 h8 => ?_)
      refine g_ifeq (tgt := 80) dX12_lighterThan_37 (by decide) ?_ ?_
      · exact g_sub2 [0, 1, 3, 4] rfl (s_X12_lighterThan_b80 hX (f_X12_lighterThan_b16 n) (fun z0 z1 z2 z3 z4 z5 => ih z0 z1 z2 z3 z4 z5) x0 x1 x3 x4 x2 h8)
      · refine g_aload_n 0 dX12_lighterThan_40 rfl rfl ?_
        refine g_getR kfl_X12_9 fo_X12_s dX12_lighterThan_41 (fun t11 => ?_)
        refine g_iload 4 dX12_lighterThan_44 rfl ?_
        refine g_iconst (v := 2) dX12_lighterThan_46 (by decide) ?_
        refine g_callSI (st := [vR t11, vI x2]) (s_X12_of hX x4 2 h8) kml_X12_53 kst_X12_of kii_X12 kcd_X12_of ds_X12_of rfl ⟨Nat.le_of_ble_eq_true rfl, Nat.le_of_ble_eq_true rfl⟩ (Nat.le_of_ble_eq_true rfl) rfl dX12_lighterThan_47 (fun r13 h12 => ?_)
        refine g_iaload dX12_lighterThan_50 (fun t14 => ?_)
        refine g_iload_n 3 dX12_lighterThan_51 rfl rfl ?_
        refine g_icmplt (tgt := 76) dX12_lighterThan_52 (by decide) ?_ ?_
        · exact g_sub2 [0, 1, 3, 4] rfl (s_X12_lighterThan_b76 hX (f_X12_lighterThan_b16 n) (fun z0 z1 z2 z3 z4 z5 => ih z0 z1 z2 z3 z4 z5) x0 x1 x3 x4 x2 h12)
        · refine g_aload_n 0 dX12_lighterThan_55 rfl rfl ?_
          refine g_getR kfl_X12_9 fo_X12_s dX12_lighterThan_56 (fun t15 => ?_)
          refine g_iload 4 dX12_lighterThan_59 rfl ?_
          refine g_iconst (v := 2) dX12_lighterThan_61 (by decide) ?_
          refine g_callSI (st := [vR t15, vI x2]) (s_X12_of hX x4 2 h12) kml_X12_53 kst_X12_of kii_X12 kcd_X12_of ds_X12_of rfl ⟨Nat.le_of_ble_eq_true rfl, Nat.le_of_ble_eq_true rfl⟩ (Nat.le_of_ble_eq_true rfl) rfl dX12_lighterThan_62 (fun r17 h16 => ?_)
          refine g_iaload dX12_lighterThan_65 (fun t18 => ?_)
          refine g_iload_n 3 dX12_lighterThan_66 rfl rfl ?_
          refine g_icmpne (tgt := 80) dX12_lighterThan_67 (by decide) ?_ ?_
          · exact g_sub2 [0, 1, 3, 4] rfl (s_X12_lighterThan_b80 hX (f_X12_lighterThan_b16 n) (fun z0 z1 z2 z3 z4 z5 => ih z0 z1 z2 z3 z4 z5) x0 x1 x3 x4 x2 h16)
          · refine g_iload 4 dX12_lighterThan_70 rfl ?_
            refine g_iload_n 1 dX12_lighterThan_72 rfl rfl ?_
            refine g_icmpge (tgt := 80) dX12_lighterThan_73 (by decide) ?_ ?_
            · exact g_sub2 [0, 1, 3, 4] rfl (s_X12_lighterThan_b80 hX (f_X12_lighterThan_b16 n) (fun z0 z1 z2 z3 z4 z5 => ih z0 z1 z2 z3 z4 z5) x0 x1 x3 x4 x2 h16)
            · exact g_sub2 [0, 1, 3, 4] rfl (s_X12_lighterThan_b76 hX (f_X12_lighterThan_b16 n) (fun z0 z1 z2 z3 z4 z5 => ih z0 z1 z2 z3 z4 z5) x0 x1 x3 x4 x2 h16)
def f_X12_lighterThan (v0 : Option Nat) (v1 : Int32) (h : AH) : Option (Int32 × AH) :=
    (gR h v0 [12] 0).bind fun t1 =>
    bd (f_X12_of v1 2 h) fun r3 h2 =>
    (iA h2 t1 r3).bind fun t4 =>
    f_X12_lighterThan_b16 FU v0 v1 0 t4 0 h2
set_option maxRecDepth 100000 in
set_option maxHeartbeats 4000000 in
theorem s_X12_lighterThan {X : GX} (hX : XOK X) (v0 : Option Nat) (v1 : Int32) (h : AH) : Snd X yX12_lighterThan cX12_lighterThan 5 (some .int) 2 42 rI [vR v0, vI v1] h (f_X12_lighterThan v0 v1 h) := by
  refine snd_of hX (by decide +kernel) (Nat.le_of_ble_eq_true rfl) ?_
  show Gp (p_X12_lighterThan X h) RX12 "lighterThan" cX12_lighterThan (some .int) 0 [(0, vR v0), (1, vI v1)] [] h _
  unfold f_X12_lighterThan
  refine g_iconst (v := 0) dX12_lighterThan_0 (by decide) ?_
  refine g_istore_n (ls' := [(2, vI 0), (0, vR v0), (1, vI v1)]) dX12_lighterThan_1 rfl (Nat.le_of_ble_eq_true rfl) rfl ?_
  refine g_aload_n 1 dX12_lighterThan_2 rfl rfl ?_
  refine g_getR kfl_X12_9 fo_X12_s dX12_lighterThan_3 (fun t1 => ?_)
  refine g_iload_n 2 dX12_lighterThan_6 rfl rfl ?_
  refine g_iconst (v := 2) dX12_lighterThan_7 (by decide) ?_
  refine g_callSI (st := [vR t1]) (s_X12_of hX v1 2 h) kml_X12_53 kst_X12_of kii_X12 kcd_X12_of ds_X12_of rfl ⟨Nat.le_of_ble_eq_true rfl, Nat.le_of_ble_eq_true rfl⟩ (Nat.le_of_ble_eq_true rfl) rfl dX12_lighterThan_8 (fun r3 h2 => ?_)
  refine g_iaload dX12_lighterThan_11 (fun t4 => ?_)
  refine g_istore_n (ls' := [(3, vI t4), (2, vI 0), (0, vR v0), (1, vI v1)]) dX12_lighterThan_12 rfl (Nat.le_of_ble_eq_true rfl) rfl ?_
  refine g_iconst (v := 0) dX12_lighterThan_13 (by decide) ?_
  refine g_istore (ls' := [(4, vI 0), (3, vI t4), (2, vI 0), (0, vR v0), (1, vI v1)]) dX12_lighterThan_14 (Nat.le_of_ble_eq_true rfl) rfl ?_
  exact g_sub2 [3, 4, 2, 1, 0] rfl (s_X12_lighterThan_b16 hX FU v0 v1 0 t4 0 h2)
abbrev p_X12_loan (X : GX) (h0 : AH) : PX Int32 := (X, (fun x => Sum.inl (rI x)), (5, 107, 4), h0)
def f_X12_loan_b50 : Nat → Option Nat → Int32 → Int32 → Int32 → AH → Option (Int32 × AH)
  | 0 => fun _ _ _ _ _ => none
  | n + 1 => fun x0 x1 x2 x3 h =>
    (if 20 < x3 then
    some ((-4), h)
    else (gR h x0 [12] 0).bind fun t11 =>
    (gR h x0 [12] 1).bind fun t12 =>
    bd (f_X12_copies t11 t12 h) fun u14 h13 =>
    (gR h13 x0 [12] 1).bind fun t15 =>
    bd (f_X12_canLend t15 x1 x2 x3 h13) fun r17 h16 =>
    (if r17 = 0 then
    f_X12_loan_b50 n x0 x1 x2 (x3 + 1) h16
    else (gR h16 x0 [12] 1).bind fun t18 =>
    bd (f_X12_lendsIn t18 x1 x2 x3 h16) fun u20 h19 =>
    bd (cv h19 x0 12 (f_X12_hasLeftNext x0 x1 h19)) fun r22 h21 =>
    (if r22 = 0 then
    f_X12_loan_b50 n x0 x1 x2 (x3 + 1) h21
    else some (x3, h21))))
set_option maxRecDepth 100000 in
set_option maxHeartbeats 4000000 in
theorem s_X12_loan_b50 {X : GX} (hX : XOK X) {h0 : AH} : ∀ (n : Nat) (x0 : Option Nat) (x1 : Int32) (x2 : Int32) (x3 : Int32) (h : AH), Gp (p_X12_loan X h0) RX12 "loan" cX12_loan (some .int) 50 [(0, vR x0), (1, vI x1), (2, vI x2), (3, vI x3)] [] h (f_X12_loan_b50 n x0 x1 x2 x3 h) := by
  intro n
  induction n with
  | zero => intro x0 x1 x2 x3 h; exact g_none
  | succ n ih =>
    intro x0 x1 x2 x3 h
    rw [f_X12_loan_b50]
    refine g_iload_n 3 dX12_loan_50 rfl rfl ?_
    refine g_bipush (v := 20) dX12_loan_51 (by decide) ?_
    refine g_icmpgt (tgt := 109) dX12_loan_53 (by decide) ?_ ?_
    · refine g_bipush (v := (-4)) dX12_loan_109 (by decide) ?_
      exact g_ireturn rfl dX12_loan_111
    · refine g_aload_n 0 dX12_loan_56 rfl rfl ?_
      refine g_getR kfl_X12_9 fo_X12_s dX12_loan_57 (fun t11 => ?_)
      refine g_aload_n 0 dX12_loan_60 rfl rfl ?_
      refine g_getR kfl_X12_13 fo_X12_m dX12_loan_61 (fun t12 => ?_)
      refine g_callSU (st := []) (s_X12_copies hX t11 t12 h) kml_X12_141 kst_X12_copies kii_X12 kcd_X12_copies ds_X12_copies rfl ⟨Nat.le_of_ble_eq_true rfl, Nat.le_of_ble_eq_true rfl⟩ (Nat.le_of_ble_eq_true rfl) rfl dX12_loan_64 (fun u14 h13 => ?_)
      refine g_aload_n 0 dX12_loan_67 rfl rfl ?_
      refine g_getR kfl_X12_13 fo_X12_m dX12_loan_68 (fun t15 => ?_)
      refine g_iload_n 1 dX12_loan_71 rfl rfl ?_
      refine g_iload_n 2 dX12_loan_72 rfl rfl ?_
      refine g_iload_n 3 dX12_loan_73 rfl rfl ?_
      refine g_callSI (st := []) (s_X12_canLend hX t15 x1 x2 x3 h13) kml_X12_123 kst_X12_canLend kii_X12 kcd_X12_canLend ds_X12_canLend rfl ⟨Nat.le_of_ble_eq_true rfl, Nat.le_of_ble_eq_true rfl⟩ (Nat.le_of_ble_eq_true rfl) rfl dX12_loan_74 (fun r17 h16 => ?_)
      refine g_ifne (tgt := 83) dX12_loan_77 (by decide) ?_ ?_
      · refine g_aload_n 0 dX12_loan_83 rfl rfl ?_
        refine g_getR kfl_X12_13 fo_X12_m dX12_loan_84 (fun t18 => ?_)
        refine g_iload_n 1 dX12_loan_87 rfl rfl ?_
        refine g_iload_n 2 dX12_loan_88 rfl rfl ?_
        refine g_iload_n 3 dX12_loan_89 rfl rfl ?_
        refine g_callSU (st := []) (s_X12_lendsIn hX t18 x1 x2 x3 h16) kml_X12_127 kst_X12_lendsIn kii_X12 kcd_X12_lendsIn ds_X12_lendsIn rfl ⟨Nat.le_of_ble_eq_true rfl, Nat.le_of_ble_eq_true rfl⟩ (Nat.le_of_ble_eq_true rfl) rfl dX12_loan_90 (fun u20 h19 => ?_)
        refine g_aload_n 0 dX12_loan_93 rfl rfl ?_
        refine g_iload_n 1 dX12_loan_94 rfl rfl ?_
        refine g_callVI (st := []) (ci := 12) rfl (s_X12_hasLeftNext hX x0 x1 h19) kml_X12_179 kim_X12_hasLeftNext kse_X12_hasLeftNext kii_X12 kcd_X12_hasLeftNext rfl ds_X12_hasLeftNext rfl ⟨Nat.le_of_ble_eq_true rfl, Nat.le_of_ble_eq_true rfl⟩ (Nat.le_of_ble_eq_true rfl) rfl dX12_loan_95 (fun r22 h21 => ?_)
        refine g_ifeq (tgt := 103) dX12_loan_98 (by decide) ?_ ?_
        · refine g_iinc 3 (v := (x3 + 1)) (ls' := [(3, vI ((x3 + 1))), (0, vR x0), (1, vI x1), (2, vI x2)]) dX12_loan_103 rfl rfl (Nat.le_of_ble_eq_true rfl) rfl ?_
          refine g_goto (tgt := 50) dX12_loan_106 (by decide) ?_
          exact g_sub2 [1, 2, 3, 0] rfl (ih x0 x1 x2 (x3 + 1) h21)
        · refine g_iload_n 3 dX12_loan_101 rfl rfl ?_
          exact g_ireturn rfl dX12_loan_102
      · refine g_goto (tgt := 103) dX12_loan_80 (by decide) ?_
        refine g_iinc 3 (v := (x3 + 1)) (ls' := [(3, vI ((x3 + 1))), (0, vR x0), (1, vI x1), (2, vI x2)]) dX12_loan_103 rfl rfl (Nat.le_of_ble_eq_true rfl) rfl ?_
        refine g_goto (tgt := 50) dX12_loan_106 (by decide) ?_
        exact g_sub2 [1, 2, 3, 0] rfl (ih x0 x1 x2 (x3 + 1) h16)
def f_X12_loan (v0 : Option Nat) (v1 : Int32) (v2 : Int32) (h : AH) : Option (Int32 × AH) :=
    bd (cv h v0 12 (f_X12_isGuest v0 v1 h)) fun r2 h1 =>
    (if r2 = 0 then
    some ((-1), h1)
    else bd (cv h1 v0 12 (f_X12_isGuest v0 v2 h1)) fun r4 h3 =>
    (if r4 = 0 then
    some ((-1), h3)
    else (if v1 = v2 then
    some ((-1), h3)
    else (gR h3 v0 [12] 0).bind fun t5 =>
    bd (f_X12_isHere t5 v1 h3) fun r7 h6 =>
    (if r7 = 0 then
    some ((-3), h6)
    else (gR h6 v0 [12] 0).bind fun t8 =>
    bd (f_X12_isHere t8 v2 h6) fun r10 h9 =>
    (if r10 = 0 then
    some ((-3), h9)
    else f_X12_loan_b50 FU v0 v1 v2 0 h9)))))
set_option maxRecDepth 100000 in
set_option maxHeartbeats 4000000 in
theorem s_X12_loan {X : GX} (hX : XOK X) (v0 : Option Nat) (v1 : Int32) (v2 : Int32) (h : AH) : Snd X yX12_loan cX12_loan 4 (some .int) 5 107 rI [vR v0, vI v1, vI v2] h (f_X12_loan v0 v1 v2 h) := by
  refine snd_of hX (by decide +kernel) (Nat.le_of_ble_eq_true rfl) ?_
  show Gp (p_X12_loan X h) RX12 "loan" cX12_loan (some .int) 0 [(0, vR v0), (1, vI v1), (2, vI v2)] [] h _
  unfold f_X12_loan
  refine g_aload_n 0 dX12_loan_0 rfl rfl ?_
  refine g_iload_n 1 dX12_loan_1 rfl rfl ?_
  refine g_callVI (st := []) (ci := 12) rfl (s_X12_isGuest hX v0 v1 h) kml_X12_113 kim_X12_isGuest kse_X12_isGuest kii_X12 kcd_X12_isGuest rfl ds_X12_isGuest rfl ⟨Nat.le_of_ble_eq_true rfl, Nat.le_of_ble_eq_true rfl⟩ (Nat.le_of_ble_eq_true rfl) rfl dX12_loan_2 (fun r2 h1 => ?_)
  refine g_ifeq (tgt := 21) dX12_loan_5 (by decide) ?_ ?_
  · refine g_iconst (v := (-1)) dX12_loan_21 (by decide) ?_
    exact g_ireturn rfl dX12_loan_22
  · refine g_aload_n 0 dX12_loan_8 rfl rfl ?_
    refine g_iload_n 2 dX12_loan_9 rfl rfl ?_
    refine g_callVI (st := []) (ci := 12) rfl (s_X12_isGuest hX v0 v2 h1) kml_X12_113 kim_X12_isGuest kse_X12_isGuest kii_X12 kcd_X12_isGuest rfl ds_X12_isGuest rfl ⟨Nat.le_of_ble_eq_true rfl, Nat.le_of_ble_eq_true rfl⟩ (Nat.le_of_ble_eq_true rfl) rfl dX12_loan_10 (fun r4 h3 => ?_)
    refine g_ifeq (tgt := 21) dX12_loan_13 (by decide) ?_ ?_
    · refine g_iconst (v := (-1)) dX12_loan_21 (by decide) ?_
      exact g_ireturn rfl dX12_loan_22
    · refine g_iload_n 1 dX12_loan_16 rfl rfl ?_
      refine g_iload_n 2 dX12_loan_17 rfl rfl ?_
      refine g_icmpne (tgt := 23) dX12_loan_18 (by decide) ?_ ?_
      · refine g_aload_n 0 dX12_loan_23 rfl rfl ?_
        refine g_getR kfl_X12_9 fo_X12_s dX12_loan_24 (fun t5 => ?_)
        refine g_iload_n 1 dX12_loan_27 rfl rfl ?_
        refine g_callSI (st := []) (s_X12_isHere hX t5 v1 h3) kml_X12_61 kst_X12_isHere kii_X12 kcd_X12_isHere ds_X12_isHere rfl ⟨Nat.le_of_ble_eq_true rfl, Nat.le_of_ble_eq_true rfl⟩ (Nat.le_of_ble_eq_true rfl) rfl dX12_loan_28 (fun r7 h6 => ?_)
        refine g_ifeq (tgt := 45) dX12_loan_31 (by decide) ?_ ?_
        · refine g_bipush (v := (-3)) dX12_loan_45 (by decide) ?_
          exact g_ireturn rfl dX12_loan_47
        · refine g_aload_n 0 dX12_loan_34 rfl rfl ?_
          refine g_getR kfl_X12_9 fo_X12_s dX12_loan_35 (fun t8 => ?_)
          refine g_iload_n 2 dX12_loan_38 rfl rfl ?_
          refine g_callSI (st := []) (s_X12_isHere hX t8 v2 h6) kml_X12_61 kst_X12_isHere kii_X12 kcd_X12_isHere ds_X12_isHere rfl ⟨Nat.le_of_ble_eq_true rfl, Nat.le_of_ble_eq_true rfl⟩ (Nat.le_of_ble_eq_true rfl) rfl dX12_loan_39 (fun r10 h9 => ?_)
          refine g_ifne (tgt := 48) dX12_loan_42 (by decide) ?_ ?_
          · refine g_iconst (v := 0) dX12_loan_48 (by decide) ?_
            refine g_istore_n (ls' := [(3, vI 0), (0, vR v0), (1, vI v1), (2, vI v2)]) dX12_loan_49 rfl (Nat.le_of_ble_eq_true rfl) rfl ?_
            exact g_sub2 [1, 2, 3, 0] rfl (s_X12_loan_b50 hX FU v0 v1 v2 0 h9)
          · refine g_bipush (v := (-3)) dX12_loan_45 (by decide) ?_
            exact g_ireturn rfl dX12_loan_47
      · refine g_iconst (v := (-1)) dX12_loan_21 (by decide) ?_
        exact g_ireturn rfl dX12_loan_22
abbrev p_X12_pairOf (X : GX) (h0 : AH) : PX Int32 := (X, (fun x => Sum.inl (rI x)), (5, 109, 5), h0)
def f_X12_pairOf (v0 : Option Nat) (v1 : Int32) (v2 : Int32) (h : AH) : Option (Int32 × AH) :=
    bd (cv h v0 12 (f_X12_leftBy v0 v1 v2 5 h)) fun r2 h1 =>
    bd (cv h1 v0 12 (f_X12_leftBy v0 v2 v1 5 h1)) fun r4 h3 =>
    (if r2 ≤ r4 then
    some (r4, h3)
    else some (r2, h3))
set_option maxRecDepth 100000 in
set_option maxHeartbeats 4000000 in
theorem s_X12_pairOf {X : GX} (hX : XOK X) (v0 : Option Nat) (v1 : Int32) (v2 : Int32) (h : AH) : Snd X yX12_pairOf cX12_pairOf 5 (some .int) 5 109 rI [vR v0, vI v1, vI v2] h (f_X12_pairOf v0 v1 v2 h) := by
  refine snd_of hX (by decide +kernel) (Nat.le_of_ble_eq_true rfl) ?_
  show Gp (p_X12_pairOf X h) RX12 "pairOf" cX12_pairOf (some .int) 0 [(0, vR v0), (1, vI v1), (2, vI v2)] [] h _
  unfold f_X12_pairOf
  refine g_aload_n 0 dX12_pairOf_0 rfl rfl ?_
  refine g_iload_n 1 dX12_pairOf_1 rfl rfl ?_
  refine g_iload_n 2 dX12_pairOf_2 rfl rfl ?_
  refine g_iconst (v := 5) dX12_pairOf_3 (by decide) ?_
  refine g_callVI (st := []) (ci := 12) rfl (s_X12_leftBy hX v0 v1 v2 5 h) kml_X12_182 kim_X12_leftBy kse_X12_leftBy kii_X12 kcd_X12_leftBy rfl ds_X12_leftBy rfl ⟨Nat.le_of_ble_eq_true rfl, Nat.le_of_ble_eq_true rfl⟩ (Nat.le_of_ble_eq_true rfl) rfl dX12_pairOf_4 (fun r2 h1 => ?_)
  refine g_istore_n (ls' := [(3, vI r2), (0, vR v0), (1, vI v1), (2, vI v2)]) dX12_pairOf_7 rfl (Nat.le_of_ble_eq_true rfl) rfl ?_
  refine g_aload_n 1 dX12_pairOf_8 rfl rfl ?_
  refine g_iload_n 3 dX12_pairOf_9 rfl rfl ?_
  refine g_iload_n 2 dX12_pairOf_10 rfl rfl ?_
  refine g_iconst (v := 5) dX12_pairOf_11 (by decide) ?_
  refine g_callVI (st := []) (ci := 12) rfl (s_X12_leftBy hX v0 v2 v1 5 h1) kml_X12_182 kim_X12_leftBy kse_X12_leftBy kii_X12 kcd_X12_leftBy rfl ds_X12_leftBy rfl ⟨Nat.le_of_ble_eq_true rfl, Nat.le_of_ble_eq_true rfl⟩ (Nat.le_of_ble_eq_true rfl) rfl dX12_pairOf_12 (fun r4 h3 => ?_)
  refine g_istore (ls' := [(4, vI r4), (3, vI r2), (0, vR v0), (1, vI v1), (2, vI v2)]) dX12_pairOf_15 (Nat.le_of_ble_eq_true rfl) rfl ?_
  refine g_iload_n 1 dX12_pairOf_17 rfl rfl ?_
  refine g_iload 0 dX12_pairOf_18 rfl ?_
  refine g_icmple (tgt := 27) dX12_pairOf_20 (by decide) ?_ ?_
  · refine g_iload 0 dX12_pairOf_27 rfl ?_
    exact g_ireturn rfl dX12_pairOf_29
  · refine g_iload_n 1 dX12_pairOf_23 rfl rfl ?_
    refine g_goto (tgt := 29) dX12_pairOf_24 (by decide) ?_
    exact g_ireturn rfl dX12_pairOf_29
abbrev p_X12_matches (X : GX) (h0 : AH) : PX Unit := (X, (fun x => Sum.inl (rU x)), (6, 133, 4), h0)
def f_X12_matches_b98 : Nat → Option Nat → Int32 → AH → Option (Unit × AH)
  | 0 => fun _ _ _ => none
  | n + 1 => fun x0 x2 h =>
    (if 128 ≤ x2 then
    some ((), h)
    else (gR h x0 [12] 10).bind fun t6 =>
    (if x2 = 0 then
    (iS h t6 x2 0).bind fun h10 =>
    f_X12_matches_b98 n x0 (x2 + 1) h10
    else bd (cv h x0 12 (f_X12_bestOf x0 x2 h)) fun r8 h7 =>
    (iS h7 t6 x2 r8).bind fun h9 =>
    f_X12_matches_b98 n x0 (x2 + 1) h9))
set_option maxRecDepth 100000 in
set_option maxHeartbeats 4000000 in
theorem s_X12_matches_b98 {X : GX} (hX : XOK X) {h0 : AH} : ∀ (n : Nat) (x0 : Option Nat) (x2 : Int32) (h : AH), Gp (p_X12_matches X h0) RX12 "matches" cX12_matches none 98 [(0, vR x0), (2, vI x2)] [] h (f_X12_matches_b98 n x0 x2 h) := by
  intro n
  induction n with
  | zero => intro x0 x2 h; exact g_none
  | succ n ih =>
    intro x0 x2 h
    rw [f_X12_matches_b98]
    refine g_iload_n 1 dX12_matches_98 rfl rfl ?_
    refine g_sipush (v := 128) dX12_matches_99 (by decide) ?_
    refine g_icmpge (tgt := 130) dX12_matches_102 (by decide) ?_ ?_
    · exact g_return rfl dX12_matches_130
    · refine g_aload_n 0 dX12_matches_105 rfl rfl ?_
      refine g_getR kfl_X12_28 fo_X12_most dX12_matches_106 (fun t6 => ?_)
      refine g_iload_n 1 dX12_matches_109 rfl rfl ?_
      refine g_iload_n 1 dX12_matches_110 rfl rfl ?_
      refine g_ifne (tgt := 118) dX12_matches_111 (by decide) ?_ ?_
      · refine g_aload_n 0 dX12_matches_118 rfl rfl ?_
        refine g_iload_n 1 dX12_matches_119 rfl rfl ?_
        refine g_callVI (st := [vI x2, vR t6]) (ci := 12) rfl (s_X12_bestOf hX x0 x2 h) kml_X12_188 kim_X12_bestOf kse_X12_bestOf kii_X12 kcd_X12_bestOf rfl ds_X12_bestOf rfl ⟨Nat.le_of_ble_eq_true rfl, Nat.le_of_ble_eq_true rfl⟩ (Nat.le_of_ble_eq_true rfl) rfl dX12_matches_120 (fun r8 h7 => ?_)
        refine g_iastore dX12_matches_123 (fun h9 => ?_)
        refine g_iinc 1 (v := (x2 + 1)) (ls' := [(2, vI ((x2 + 1))), (0, vR x0)]) dX12_matches_124 rfl rfl (Nat.le_of_ble_eq_true rfl) rfl ?_
        refine g_goto (tgt := 98) dX12_matches_127 (by decide) ?_
        exact g_sub2 [1, 0] rfl (ih x0 (x2 + 1) h9)
      · refine g_iconst (v := 0) dX12_matches_114 (by decide) ?_
        refine g_goto (tgt := 123) dX12_matches_115 (by decide) ?_
        refine g_iastore dX12_matches_123 (fun h10 => ?_)
        refine g_iinc 1 (v := (x2 + 1)) (ls' := [(2, vI ((x2 + 1))), (0, vR x0)]) dX12_matches_124 rfl rfl (Nat.le_of_ble_eq_true rfl) rfl ?_
        refine g_goto (tgt := 98) dX12_matches_127 (by decide) ?_
        exact g_sub2 [1, 0] rfl (ih x0 (x2 + 1) h10)
def f_X12_matches_b58 (k10 : Option Nat → Int32 → Int32 → AH → Option (Unit × AH)) (k22 : Option Nat → Int32 → Int32 → Int32 → AH → Option (Unit × AH)) (x0 : Option Nat) (x1 : Int32) (x2 : Int32) (x3 : Int32) (y1 : Int32) (y0 : Option Nat) (h : AH) : Option (Unit × AH) :=
    (iS h y0 y1 (-1)).bind fun h16 =>
    k22 x0 x1 x2 (x3 + 1) h16
set_option maxRecDepth 100000 in
set_option maxHeartbeats 4000000 in
theorem s_X12_matches_b58 {X : GX} (hX : XOK X) {h0 : AH} (k10 : Option Nat → Int32 → Int32 → AH → Option (Unit × AH)) (hk10 : ∀ (z0 : Option Nat) (z1 : Int32) (z2 : Int32) (h : AH), Gp (p_X12_matches X h0) RX12 "matches" cX12_matches none 10 [(0, vR z0), (1, vI z1), (2, vI z2)] [] h (k10 z0 z1 z2 h)) (k22 : Option Nat → Int32 → Int32 → Int32 → AH → Option (Unit × AH)) (hk22 : ∀ (z0 : Option Nat) (z1 : Int32) (z2 : Int32) (z3 : Int32) (h : AH), Gp (p_X12_matches X h0) RX12 "matches" cX12_matches none 22 [(0, vR z0), (1, vI z1), (2, vI z2), (3, vI z3)] [] h (k22 z0 z1 z2 z3 h)) : ∀ (x0 : Option Nat) (x1 : Int32) (x2 : Int32) (x3 : Int32) (y1 : Int32) (y0 : Option Nat) (h : AH), Gp (p_X12_matches X h0) RX12 "matches" cX12_matches none 58 [(0, vR x0), (1, vI x1), (2, vI x2), (3, vI x3)] [vI y1, vR y0] h (f_X12_matches_b58 k10 k22 x0 x1 x2 x3 y1 y0 h) := by
  intro x0 x1 x2 x3 y1 y0 h
  unfold f_X12_matches_b58
  refine g_iconst (v := (-1)) dX12_matches_58 (by decide) ?_
  refine g_goto (tgt := 83) dX12_matches_59 (by decide) ?_
  refine g_iastore dX12_matches_83 (fun h16 => ?_)
  refine g_iinc 3 (v := (x3 + 1)) (ls' := [(3, vI ((x3 + 1))), (0, vR x0), (1, vI x1), (2, vI x2)]) dX12_matches_84 rfl rfl (Nat.le_of_ble_eq_true rfl) rfl ?_
  refine g_goto (tgt := 22) dX12_matches_87 (by decide) ?_
  exact g_sub2 [1, 2, 3, 0] rfl (hk22 x0 x1 x2 (x3 + 1) h16)
def f_X12_matches_b22 (k10 : Option Nat → Int32 → Int32 → AH → Option (Unit × AH)) : Nat → Option Nat → Int32 → Int32 → Int32 → AH → Option (Unit × AH)
  | 0 => fun _ _ _ _ _ => none
  | n + 1 => fun x0 x1 x2 x3 h =>
    (gR h x0 [12] 0).bind fun t11 =>
    (iA h t11 0).bind fun t12 =>
    (if t12 ≤ x3 then
    k10 x0 x1 (x2 + 1) h
    else (gR h x0 [12] 9).bind fun t13 =>
    bd (f_X12_has x1 x2 h) fun r15 h14 =>
    (if r15 = 0 then
    f_X12_matches_b58 k10 (f_X12_matches_b22 k10 n) x0 x1 x2 x3 ((7 * x2) + x3) t13 h14
    else bd (f_X12_has x1 x3 h14) fun r18 h17 =>
    (if r18 = 0 then
    f_X12_matches_b58 k10 (f_X12_matches_b22 k10 n) x0 x1 x2 x3 ((7 * x2) + x3) t13 h17
    else (if x2 = x3 then
    bd (cv h17 x0 12 (f_X12_leftBy x0 x2 x2 0 h17)) fun r23 h22 =>
    (iS h22 t13 ((7 * x2) + x3) r23).bind fun h24 =>
    f_X12_matches_b22 k10 n x0 x1 x2 (x3 + 1) h24
    else bd (cv h17 x0 12 (f_X12_pairOf x0 x2 x3 h17)) fun r20 h19 =>
    (iS h19 t13 ((7 * x2) + x3) r20).bind fun h21 =>
    f_X12_matches_b22 k10 n x0 x1 x2 (x3 + 1) h21))))
set_option maxRecDepth 100000 in
set_option maxHeartbeats 4000000 in
theorem s_X12_matches_b22 {X : GX} (hX : XOK X) {h0 : AH} (k10 : Option Nat → Int32 → Int32 → AH → Option (Unit × AH)) (hk10 : ∀ (z0 : Option Nat) (z1 : Int32) (z2 : Int32) (h : AH), Gp (p_X12_matches X h0) RX12 "matches" cX12_matches none 10 [(0, vR z0), (1, vI z1), (2, vI z2)] [] h (k10 z0 z1 z2 h)) : ∀ (n : Nat) (x0 : Option Nat) (x1 : Int32) (x2 : Int32) (x3 : Int32) (h : AH), Gp (p_X12_matches X h0) RX12 "matches" cX12_matches none 22 [(0, vR x0), (1, vI x1), (2, vI x2), (3, vI x3)] [] h (f_X12_matches_b22 k10 n x0 x1 x2 x3 h) := by
  intro n
  induction n with
  | zero => intro x0 x1 x2 x3 h; exact g_none
  | succ n ih =>
    intro x0 x1 x2 x3 h
    rw [f_X12_matches_b22]
    refine g_iload_n 3 dX12_matches_22 rfl rfl ?_
    refine g_aload_n 0 dX12_matches_23 rfl rfl ?_
    refine g_getR kfl_X12_9 fo_X12_s dX12_matches_24 (fun t11 => ?_)
    refine g_iconst (v := 0) dX12_matches_27 (by decide) ?_
    refine g_iaload dX12_matches_28 (fun t12 => ?_)
    refine g_icmpge (tgt := 90) dX12_matches_29 (by decide) ?_ ?_
    · refine g_iinc 2 (v := (x2 + 1)) (ls' := [(2, vI ((x2 + 1))), (0, vR x0), (1, vI x1), (3, vI x3)]) dX12_matches_90 rfl rfl (Nat.le_of_ble_eq_true rfl) rfl ?_
      refine g_goto (tgt := 10) dX12_matches_93 (by decide) ?_
      exact g_sub2 [1, 2, 0] rfl (hk10 x0 x1 (x2 + 1) h)
    · refine g_aload_n 0 dX12_matches_32 rfl rfl ?_
      refine g_getR kfl_X12_25 fo_X12_brings dX12_matches_33 (fun t13 => ?_)
      refine g_bipush (v := 7) dX12_matches_36 (by decide) ?_
      refine g_iload_n 2 dX12_matches_38 rfl rfl ?_
      refine g_imul dX12_matches_39 ?_
      refine g_iload_n 3 dX12_matches_40 rfl rfl ?_
      refine g_iadd dX12_matches_41 ?_
      refine g_iload_n 1 dX12_matches_42 rfl rfl ?_
      refine g_iload_n 2 dX12_matches_43 rfl rfl ?_
      refine g_callSI (st := [vI (((7 * x2) + x3)), vR t13]) (s_X12_has hX x1 x2 h) kml_X12_68 kst_X12_has kii_X12 kcd_X12_has ds_X12_has rfl ⟨Nat.le_of_ble_eq_true rfl, Nat.le_of_ble_eq_true rfl⟩ (Nat.le_of_ble_eq_true rfl) rfl dX12_matches_44 (fun r15 h14 => ?_)
      refine g_ifeq (tgt := 58) dX12_matches_47 (by decide) ?_ ?_
      · exact g_sub2 [0, 1, 2, 3] rfl (s_X12_matches_b58 hX k10 (fun z0 z1 z2 z3 => hk10 z0 z1 z2 z3) (f_X12_matches_b22 k10 n) (fun z0 z1 z2 z3 z4 => ih z0 z1 z2 z3 z4) x0 x1 x2 x3 ((7 * x2) + x3) t13 h14)
      · refine g_iload_n 1 dX12_matches_50 rfl rfl ?_
        refine g_iload_n 3 dX12_matches_51 rfl rfl ?_
        refine g_callSI (st := [vI (((7 * x2) + x3)), vR t13]) (s_X12_has hX x1 x3 h14) kml_X12_68 kst_X12_has kii_X12 kcd_X12_has ds_X12_has rfl ⟨Nat.le_of_ble_eq_true rfl, Nat.le_of_ble_eq_true rfl⟩ (Nat.le_of_ble_eq_true rfl) rfl dX12_matches_52 (fun r18 h17 => ?_)
        refine g_ifne (tgt := 62) dX12_matches_55 (by decide) ?_ ?_
        · refine g_iload_n 2 dX12_matches_62 rfl rfl ?_
          refine g_iload_n 3 dX12_matches_63 rfl rfl ?_
          refine g_icmpne (tgt := 77) dX12_matches_64 (by decide) ?_ ?_
          · refine g_aload_n 0 dX12_matches_77 rfl rfl ?_
            refine g_iload_n 2 dX12_matches_78 rfl rfl ?_
            refine g_iload_n 3 dX12_matches_79 rfl rfl ?_
            refine g_callVI (st := [vI (((7 * x2) + x3)), vR t13]) (ci := 12) rfl (s_X12_pairOf hX x0 x2 x3 h17) kml_X12_185 kim_X12_pairOf kse_X12_pairOf kii_X12 kcd_X12_pairOf rfl ds_X12_pairOf rfl ⟨Nat.le_of_ble_eq_true rfl, Nat.le_of_ble_eq_true rfl⟩ (Nat.le_of_ble_eq_true rfl) rfl dX12_matches_80 (fun r20 h19 => ?_)
            refine g_iastore dX12_matches_83 (fun h21 => ?_)
            refine g_iinc 3 (v := (x3 + 1)) (ls' := [(3, vI ((x3 + 1))), (0, vR x0), (1, vI x1), (2, vI x2)]) dX12_matches_84 rfl rfl (Nat.le_of_ble_eq_true rfl) rfl ?_
            refine g_goto (tgt := 22) dX12_matches_87 (by decide) ?_
            exact g_sub2 [1, 2, 3, 0] rfl (ih x0 x1 x2 (x3 + 1) h21)
          · refine g_aload_n 0 dX12_matches_67 rfl rfl ?_
            refine g_iload_n 2 dX12_matches_68 rfl rfl ?_
            refine g_iload_n 2 dX12_matches_69 rfl rfl ?_
            refine g_iconst (v := 0) dX12_matches_70 (by decide) ?_
            refine g_callVI (st := [vI (((7 * x2) + x3)), vR t13]) (ci := 12) rfl (s_X12_leftBy hX x0 x2 x2 0 h17) kml_X12_182 kim_X12_leftBy kse_X12_leftBy kii_X12 kcd_X12_leftBy rfl ds_X12_leftBy rfl ⟨Nat.le_of_ble_eq_true rfl, Nat.le_of_ble_eq_true rfl⟩ (Nat.le_of_ble_eq_true rfl) rfl dX12_matches_71 (fun r23 h22 => ?_)
            refine g_goto (tgt := 83) dX12_matches_74 (by decide) ?_
            refine g_iastore dX12_matches_83 (fun h24 => ?_)
            refine g_iinc 3 (v := (x3 + 1)) (ls' := [(3, vI ((x3 + 1))), (0, vR x0), (1, vI x1), (2, vI x2)]) dX12_matches_84 rfl rfl (Nat.le_of_ble_eq_true rfl) rfl ?_
            refine g_goto (tgt := 22) dX12_matches_87 (by decide) ?_
            exact g_sub2 [1, 2, 3, 0] rfl (ih x0 x1 x2 (x3 + 1) h24)
        · exact g_sub2 [0, 1, 2, 3] rfl (s_X12_matches_b58 hX k10 (fun z0 z1 z2 z3 => hk10 z0 z1 z2 z3) (f_X12_matches_b22 k10 n) (fun z0 z1 z2 z3 z4 => ih z0 z1 z2 z3 z4) x0 x1 x2 x3 ((7 * x2) + x3) t13 h17)
def f_X12_matches_b10 : Nat → Option Nat → Int32 → Int32 → AH → Option (Unit × AH)
  | 0 => fun _ _ _ _ => none
  | n + 1 => fun x0 x1 x2 h =>
    (gR h x0 [12] 0).bind fun t4 =>
    (iA h t4 0).bind fun t5 =>
    (if t5 ≤ x2 then
    f_X12_matches_b98 FU x0 0 h
    else f_X12_matches_b22 (f_X12_matches_b10 n) FU x0 x1 x2 0 h)
set_option maxRecDepth 100000 in
set_option maxHeartbeats 4000000 in
theorem s_X12_matches_b10 {X : GX} (hX : XOK X) {h0 : AH} : ∀ (n : Nat) (x0 : Option Nat) (x1 : Int32) (x2 : Int32) (h : AH), Gp (p_X12_matches X h0) RX12 "matches" cX12_matches none 10 [(0, vR x0), (1, vI x1), (2, vI x2)] [] h (f_X12_matches_b10 n x0 x1 x2 h) := by
  intro n
  induction n with
  | zero => intro x0 x1 x2 h; exact g_none
  | succ n ih =>
    intro x0 x1 x2 h
    rw [f_X12_matches_b10]
    refine g_iload_n 2 dX12_matches_10 rfl rfl ?_
    refine g_aload_n 0 dX12_matches_11 rfl rfl ?_
    refine g_getR kfl_X12_9 fo_X12_s dX12_matches_12 (fun t4 => ?_)
    refine g_iconst (v := 0) dX12_matches_15 (by decide) ?_
    refine g_iaload dX12_matches_16 (fun t5 => ?_)
    refine g_icmpge (tgt := 96) dX12_matches_17 (by decide) ?_ ?_
    · refine g_iconst (v := 0) dX12_matches_96 (by decide) ?_
      refine g_istore_n (ls' := [(2, vI 0), (0, vR x0), (1, vI x1)]) dX12_matches_97 rfl (Nat.le_of_ble_eq_true rfl) rfl ?_
      exact g_sub2 [1, 0] rfl (s_X12_matches_b98 hX FU x0 0 h)
    · refine g_iconst (v := 0) dX12_matches_20 (by decide) ?_
      refine g_istore_n (ls' := [(3, vI 0), (0, vR x0), (1, vI x1), (2, vI x2)]) dX12_matches_21 rfl (Nat.le_of_ble_eq_true rfl) rfl ?_
      exact g_sub2 [1, 2, 3, 0] rfl (s_X12_matches_b22 hX (f_X12_matches_b10 n) (fun z0 z1 z2 z3 => ih z0 z1 z2 z3) FU x0 x1 x2 0 h)
def f_X12_matches (v0 : Option Nat) (h : AH) : Option (Unit × AH) :=
    (gR h v0 [12] 0).bind fun t1 =>
    bd (f_X12_hereIn t1 h) fun r3 h2 =>
    f_X12_matches_b10 FU v0 r3 0 h2
set_option maxRecDepth 100000 in
set_option maxHeartbeats 4000000 in
theorem s_X12_matches {X : GX} (hX : XOK X) (v0 : Option Nat) (h : AH) : Snd X yX12_matches cX12_matches 4 none 6 133 rU [vR v0] h (f_X12_matches v0 h) := by
  refine snd_of hX (by decide +kernel) (Nat.le_of_ble_eq_true rfl) ?_
  show Gp (p_X12_matches X h) RX12 "matches" cX12_matches none 0 [(0, vR v0)] [] h _
  unfold f_X12_matches
  refine g_aload_n 0 dX12_matches_0 rfl rfl ?_
  refine g_getR kfl_X12_9 fo_X12_s dX12_matches_1 (fun t1 => ?_)
  refine g_callSI (st := []) (s_X12_hereIn hX t1 h) kml_X12_162 kst_X12_hereIn kii_X12 kcd_X12_hereIn ds_X12_hereIn rfl ⟨Nat.le_of_ble_eq_true rfl, Nat.le_of_ble_eq_true rfl⟩ (Nat.le_of_ble_eq_true rfl) rfl dX12_matches_4 (fun r3 h2 => ?_)
  refine g_istore_n (ls' := [(1, vI r3), (0, vR v0)]) dX12_matches_7 rfl (Nat.le_of_ble_eq_true rfl) rfl ?_
  refine g_iconst (v := 0) dX12_matches_8 (by decide) ?_
  refine g_istore_n (ls' := [(2, vI 0), (1, vI r3), (0, vR v0)]) dX12_matches_9 rfl (Nat.le_of_ble_eq_true rfl) rfl ?_
  exact g_sub2 [2, 1, 0] rfl (s_X12_matches_b10 hX FU v0 r3 0 h2)
abbrev p_X12_mean (X : GX) (h0 : AH) : PX Int64 := (X, (fun x => Sum.inl (rJ x)), (2, 53, 6), h0)
def f_X12_mean_b21 : Nat → Option Nat → Int32 → Int64 → Int32 → Int32 → AH → Option (Int64 × AH)
  | 0 => fun _ _ _ _ _ _ => none
  | n + 1 => fun x0 x1 x2 x4 x5 h =>
    (gR h x0 [12] 0).bind fun t3 =>
    (iA h t3 0).bind fun t4 =>
    (if t4 ≤ x5 then
    bd (f_X12_partOf x2 (Int32.toInt64 x4) x1 h) fun r6 h5 =>
    some (r6, h5)
    else (gR h x0 [12] 0).bind fun t7 =>
    bd (f_X12_isHere t7 x5 h) fun r9 h8 =>
    (if r9 = 0 then
    (gR h8 x0 [12] 0).bind fun t10 =>
    bd (f_X12_of x5 3 h8) fun r12 h11 =>
    (iA h11 t10 r12).bind fun t13 =>
    (gR h11 x0 [12] 0).bind fun t14 =>
    bd (f_X12_of x5 2 h11) fun r16 h15 =>
    (iA h15 t14 r16).bind fun t17 =>
    nm (x2 + (Int32.toInt64 (t13 - t17))) fun t18 =>
    f_X12_mean_b21 n x0 x1 t18 (x4 + 1) (x5 + 1) h15
    else f_X12_mean_b21 n x0 x1 x2 x4 (x5 + 1) h8))
set_option maxRecDepth 100000 in
set_option maxHeartbeats 4000000 in
theorem s_X12_mean_b21 {X : GX} (hX : XOK X) {h0 : AH} : ∀ (n : Nat) (x0 : Option Nat) (x1 : Int32) (x2 : Int64) (x4 : Int32) (x5 : Int32) (h : AH), Gp (p_X12_mean X h0) RX12 "mean" cX12_mean (some .long) 21 [(0, vR x0), (1, vI x1), (2, vJ x2), (4, vI x4), (5, vI x5)] [] h (f_X12_mean_b21 n x0 x1 x2 x4 x5 h) := by
  intro n
  induction n with
  | zero => intro x0 x1 x2 x4 x5 h; exact g_none
  | succ n ih =>
    intro x0 x1 x2 x4 x5 h
    rw [f_X12_mean_b21]
    refine g_iload 4 dX12_mean_21 rfl ?_
    refine g_aload_n 0 dX12_mean_23 rfl rfl ?_
    refine g_getR kfl_X12_9 fo_X12_s dX12_mean_24 (fun t3 => ?_)
    refine g_iconst (v := 0) dX12_mean_27 (by decide) ?_
    refine g_iaload dX12_mean_28 (fun t4 => ?_)
    refine g_icmpge (tgt := 83) dX12_mean_29 (by decide) ?_ ?_
    · refine g_lload_n 2 dX12_mean_83 rfl rfl ?_
      refine g_iload 3 dX12_mean_84 rfl ?_
      refine g_i2l dX12_mean_86 ?_
      refine g_iload_n 1 dX12_mean_87 rfl rfl ?_
      refine g_callSJ (st := []) (s_X12_partOf hX x2 (Int32.toInt64 x4) x1 h) kml_X12_223 kst_X12_partOf kii_X12 kcd_X12_partOf ds_X12_partOf rfl ⟨Nat.le_of_ble_eq_true rfl, Nat.le_of_ble_eq_true rfl⟩ (Nat.le_of_ble_eq_true rfl) rfl dX12_mean_88 (fun r6 h5 => ?_)
      exact g_lreturn rfl dX12_mean_91
    · refine g_aload_n 0 dX12_mean_32 rfl rfl ?_
      refine g_getR kfl_X12_9 fo_X12_s dX12_mean_33 (fun t7 => ?_)
      refine g_iload 4 dX12_mean_36 rfl ?_
      refine g_callSI (st := []) (s_X12_isHere hX t7 x5 h) kml_X12_61 kst_X12_isHere kii_X12 kcd_X12_isHere ds_X12_isHere rfl ⟨Nat.le_of_ble_eq_true rfl, Nat.le_of_ble_eq_true rfl⟩ (Nat.le_of_ble_eq_true rfl) rfl dX12_mean_38 (fun r9 h8 => ?_)
      refine g_ifeq (tgt := 47) dX12_mean_41 (by decide) ?_ ?_
      · refine g_lload_n 2 dX12_mean_47 rfl rfl ?_
        refine g_aload_n 0 dX12_mean_48 rfl rfl ?_
        refine g_getR kfl_X12_9 fo_X12_s dX12_mean_49 (fun t10 => ?_)
        refine g_iload 4 dX12_mean_52 rfl ?_
        refine g_iconst (v := 3) dX12_mean_54 (by decide) ?_
        refine g_callSI (st := [vR t10, vJ x2]) (s_X12_of hX x5 3 h8) kml_X12_53 kst_X12_of kii_X12 kcd_X12_of ds_X12_of rfl ⟨Nat.le_of_ble_eq_true rfl, Nat.le_of_ble_eq_true rfl⟩ (Nat.le_of_ble_eq_true rfl) rfl dX12_mean_55 (fun r12 h11 => ?_)
        refine g_iaload dX12_mean_58 (fun t13 => ?_)
        refine g_aload_n 0 dX12_mean_59 rfl rfl ?_
        refine g_getR kfl_X12_9 fo_X12_s dX12_mean_60 (fun t14 => ?_)
        refine g_iload 4 dX12_mean_63 rfl ?_
        refine g_iconst (v := 2) dX12_mean_65 (by decide) ?_
        refine g_callSI (st := [vR t14, vI t13, vJ x2]) (s_X12_of hX x5 2 h11) kml_X12_53 kst_X12_of kii_X12 kcd_X12_of ds_X12_of rfl ⟨Nat.le_of_ble_eq_true rfl, Nat.le_of_ble_eq_true rfl⟩ (Nat.le_of_ble_eq_true rfl) rfl dX12_mean_66 (fun r16 h15 => ?_)
        refine g_iaload dX12_mean_69 (fun t17 => ?_)
        refine g_isub dX12_mean_70 ?_
        refine g_i2l dX12_mean_71 ?_
        refine g_ladd dX12_mean_72 ?_
        refine g_nmJ (fun t18 => ?_)
        refine g_lstore_n (ls' := [(2, vJ t18), (0, vR x0), (1, vI x1), (4, vI x4), (5, vI x5)]) dX12_mean_73 rfl (Nat.le_of_ble_eq_true rfl) rfl ?_
        refine g_iinc 3 (v := (x4 + 1)) (ls' := [(4, vI ((x4 + 1))), (2, vJ t18), (0, vR x0), (1, vI x1), (5, vI x5)]) dX12_mean_74 rfl rfl (Nat.le_of_ble_eq_true rfl) rfl ?_
        refine g_iinc 4 (v := (x5 + 1)) (ls' := [(5, vI ((x5 + 1))), (4, vI ((x4 + 1))), (2, vJ t18), (0, vR x0), (1, vI x1)]) dX12_mean_77 rfl rfl (Nat.le_of_ble_eq_true rfl) rfl ?_
        refine g_goto (tgt := 21) dX12_mean_80 (by decide) ?_
        exact g_sub2 [3, 4, 2, 1, 0] rfl (ih x0 x1 t18 (x4 + 1) (x5 + 1) h15)
      · refine g_goto (tgt := 77) dX12_mean_44 (by decide) ?_
        refine g_iinc 4 (v := (x5 + 1)) (ls' := [(5, vI ((x5 + 1))), (0, vR x0), (1, vI x1), (2, vJ x2), (4, vI x4)]) dX12_mean_77 rfl rfl (Nat.le_of_ble_eq_true rfl) rfl ?_
        refine g_goto (tgt := 21) dX12_mean_80 (by decide) ?_
        exact g_sub2 [1, 2, 3, 4, 0] rfl (ih x0 x1 x2 x4 (x5 + 1) h8)
def f_X12_mean (v0 : Option Nat) (v1 : Int32) (h : AH) : Option (Int64 × AH) :=
    bd (f_X12_isIn v1 0 1 h) fun r2 h1 =>
    (if r2 = 0 then
    some (1000000001, h1)
    else f_X12_mean_b21 FU v0 v1 0 0 0 h1)
set_option maxRecDepth 100000 in
set_option maxHeartbeats 4000000 in
theorem s_X12_mean {X : GX} (hX : XOK X) (v0 : Option Nat) (v1 : Int32) (h : AH) : Snd X yX12_mean cX12_mean 6 (some .long) 2 53 rJ [vR v0, vI v1] h (f_X12_mean v0 v1 h) := by
  refine snd_of hX (by decide +kernel) (Nat.le_of_ble_eq_true rfl) ?_
  show Gp (p_X12_mean X h) RX12 "mean" cX12_mean (some .long) 0 [(0, vR v0), (1, vI v1)] [] h _
  unfold f_X12_mean
  refine g_iload_n 1 dX12_mean_0 rfl rfl ?_
  refine g_iconst (v := 0) dX12_mean_1 (by decide) ?_
  refine g_iconst (v := 1) dX12_mean_2 (by decide) ?_
  refine g_callSI (st := []) (s_X12_isIn hX v1 0 1 h) kml_X12_49 kst_X12_isIn kii_X12 kcd_X12_isIn ds_X12_isIn rfl ⟨Nat.le_of_ble_eq_true rfl, Nat.le_of_ble_eq_true rfl⟩ (Nat.le_of_ble_eq_true rfl) rfl dX12_mean_3 (fun r2 h1 => ?_)
  refine g_ifne (tgt := 13) dX12_mean_6 (by decide) ?_ ?_
  · refine g_lconst (v := 0) dX12_mean_13 (by decide) ?_
    refine g_lstore_n (ls' := [(2, vJ 0), (0, vR v0), (1, vI v1)]) dX12_mean_14 rfl (Nat.le_of_ble_eq_true rfl) rfl ?_
    refine g_iconst (v := 0) dX12_mean_15 (by decide) ?_
    refine g_istore (ls' := [(4, vI 0), (2, vJ 0), (0, vR v0), (1, vI v1)]) dX12_mean_16 (Nat.le_of_ble_eq_true rfl) rfl ?_
    refine g_iconst (v := 0) dX12_mean_18 (by decide) ?_
    refine g_istore (ls' := [(5, vI 0), (4, vI 0), (2, vJ 0), (0, vR v0), (1, vI v1)]) dX12_mean_19 (Nat.le_of_ble_eq_true rfl) rfl ?_
    exact g_sub2 [3, 4, 2, 1, 0] rfl (s_X12_mean_b21 hX FU v0 v1 0 0 0 h1)
  · refine g_ldc2 kco_X12_221 dX12_mean_9 ?_
    exact g_lreturn rfl dX12_mean_12
abbrev p_X12_order (X : GX) (h0 : AH) : PX Int32 := (X, (fun x => Sum.inl (rI x)), (3, 66, 4), h0)
def f_X12_order_b79 (k12 : Option Nat → Int32 → Int32 → Int32 → AH → Option (Int32 × AH)) (x0 : Option Nat) (x1 : Int32) (x3 : Int32) (h : AH) : Option (Int32 × AH) :=
    k12 x0 x1 x3 (x3 + 1) h
set_option maxRecDepth 100000 in
set_option maxHeartbeats 4000000 in
theorem s_X12_order_b79 {X : GX} (hX : XOK X) {h0 : AH} (k12 : Option Nat → Int32 → Int32 → Int32 → AH → Option (Int32 × AH)) (hk12 : ∀ (z0 : Option Nat) (z1 : Int32) (z2 : Int32) (z3 : Int32) (h : AH), Gp (p_X12_order X h0) RX12 "order" cX12_order (some .int) 12 [(0, vR z0), (1, vI z1), (2, vI z2), (3, vI z3)] [] h (k12 z0 z1 z2 z3 h)) : ∀ (x0 : Option Nat) (x1 : Int32) (x3 : Int32) (h : AH), Gp (p_X12_order X h0) RX12 "order" cX12_order (some .int) 79 [(0, vR x0), (1, vI x1), (3, vI x3)] [] h (f_X12_order_b79 k12 x0 x1 x3 h) := by
  intro x0 x1 x3 h
  unfold f_X12_order_b79
  refine g_iload_n 2 dX12_order_79 rfl rfl ?_
  refine g_istore_n (ls' := [(2, vI x3), (0, vR x0), (1, vI x1), (3, vI x3)]) dX12_order_80 rfl (Nat.le_of_ble_eq_true rfl) rfl ?_
  refine g_iinc 3 (v := (x3 + 1)) (ls' := [(3, vI ((x3 + 1))), (2, vI x3), (0, vR x0), (1, vI x1)]) dX12_order_81 rfl rfl (Nat.le_of_ble_eq_true rfl) rfl ?_
  refine g_goto (tgt := 12) dX12_order_84 (by decide) ?_
  exact g_sub2 [2, 3, 1, 0] rfl (hk12 x0 x1 x3 (x3 + 1) h)
def f_X12_order_b12 : Nat → Option Nat → Int32 → Int32 → Int32 → AH → Option (Int32 × AH)
  | 0 => fun _ _ _ _ _ => none
  | n + 1 => fun x0 x1 x2 x3 h =>
    (gR h x0 [12] 0).bind fun t1 =>
    (iA h t1 0).bind fun t2 =>
    (if t2 ≤ x3 then
    some (x2, h)
    else (gR h x0 [12] 0).bind fun t3 =>
    bd (f_X12_isHere t3 x3 h) fun r5 h4 =>
    (if r5 = 0 then
    f_X12_order_b12 n x0 x1 x2 (x3 + 1) h4
    else (if x1 < 0 then
    (if x2 < 0 then
    f_X12_order_b79 (f_X12_order_b12 n) x0 x1 x3 h4
    else (gR h4 x0 [12] 0).bind fun t6 =>
    bd (f_X12_of x3 2 h4) fun r8 h7 =>
    (iA h7 t6 r8).bind fun t9 =>
    (gR h7 x0 [12] 0).bind fun t10 =>
    bd (f_X12_of x2 2 h7) fun r12 h11 =>
    (iA h11 t10 r12).bind fun t13 =>
    (if t9 ≤ t13 then
    f_X12_order_b12 n x0 x1 x2 (x3 + 1) h11
    else f_X12_order_b79 (f_X12_order_b12 n) x0 x1 x3 h11))
    else bd (cv h4 x0 12 (f_X12_lighterThan x0 x3 h4)) fun r15 h14 =>
    (if r15 = x1 then
    f_X12_order_b79 (f_X12_order_b12 n) x0 x1 x3 h14
    else f_X12_order_b12 n x0 x1 x2 (x3 + 1) h14))))
set_option maxRecDepth 100000 in
set_option maxHeartbeats 4000000 in
theorem s_X12_order_b12 {X : GX} (hX : XOK X) {h0 : AH} : ∀ (n : Nat) (x0 : Option Nat) (x1 : Int32) (x2 : Int32) (x3 : Int32) (h : AH), Gp (p_X12_order X h0) RX12 "order" cX12_order (some .int) 12 [(0, vR x0), (1, vI x1), (2, vI x2), (3, vI x3)] [] h (f_X12_order_b12 n x0 x1 x2 x3 h) := by
  intro n
  induction n with
  | zero => intro x0 x1 x2 x3 h; exact g_none
  | succ n ih =>
    intro x0 x1 x2 x3 h
    rw [f_X12_order_b12]
    refine g_iload_n 3 dX12_order_12 rfl rfl ?_
    refine g_aload_n 0 dX12_order_13 rfl rfl ?_
    refine g_getR kfl_X12_9 fo_X12_s dX12_order_14 (fun t1 => ?_)
    refine g_iconst (v := 0) dX12_order_17 (by decide) ?_
    refine g_iaload dX12_order_18 (fun t2 => ?_)
    refine g_icmpge (tgt := 87) dX12_order_19 (by decide) ?_ ?_
    · refine g_iload_n 2 dX12_order_87 rfl rfl ?_
      exact g_ireturn rfl dX12_order_88
    · refine g_aload_n 0 dX12_order_22 rfl rfl ?_
      refine g_getR kfl_X12_9 fo_X12_s dX12_order_23 (fun t3 => ?_)
      refine g_iload_n 3 dX12_order_26 rfl rfl ?_
      refine g_callSI (st := []) (s_X12_isHere hX t3 x3 h) kml_X12_61 kst_X12_isHere kii_X12 kcd_X12_isHere ds_X12_isHere rfl ⟨Nat.le_of_ble_eq_true rfl, Nat.le_of_ble_eq_true rfl⟩ (Nat.le_of_ble_eq_true rfl) rfl dX12_order_27 (fun r5 h4 => ?_)
      refine g_ifne (tgt := 36) dX12_order_30 (by decide) ?_ ?_
      · refine g_iload_n 1 dX12_order_36 rfl rfl ?_
        refine g_iflt (tgt := 52) dX12_order_37 (by decide) ?_ ?_
        · refine g_iload_n 2 dX12_order_52 rfl rfl ?_
          refine g_iflt (tgt := 79) dX12_order_53 (by decide) ?_ ?_
          · exact g_sub2 [0, 1, 3] rfl (s_X12_order_b79 hX (f_X12_order_b12 n) (fun z0 z1 z2 z3 z4 => ih z0 z1 z2 z3 z4) x0 x1 x3 h4)
          · refine g_aload_n 0 dX12_order_56 rfl rfl ?_
            refine g_getR kfl_X12_9 fo_X12_s dX12_order_57 (fun t6 => ?_)
            refine g_iload_n 3 dX12_order_60 rfl rfl ?_
            refine g_iconst (v := 2) dX12_order_61 (by decide) ?_
            refine g_callSI (st := [vR t6]) (s_X12_of hX x3 2 h4) kml_X12_53 kst_X12_of kii_X12 kcd_X12_of ds_X12_of rfl ⟨Nat.le_of_ble_eq_true rfl, Nat.le_of_ble_eq_true rfl⟩ (Nat.le_of_ble_eq_true rfl) rfl dX12_order_62 (fun r8 h7 => ?_)
            refine g_iaload dX12_order_65 (fun t9 => ?_)
            refine g_aload_n 0 dX12_order_66 rfl rfl ?_
            refine g_getR kfl_X12_9 fo_X12_s dX12_order_67 (fun t10 => ?_)
            refine g_iload_n 2 dX12_order_70 rfl rfl ?_
            refine g_iconst (v := 2) dX12_order_71 (by decide) ?_
            refine g_callSI (st := [vR t10, vI t9]) (s_X12_of hX x2 2 h7) kml_X12_53 kst_X12_of kii_X12 kcd_X12_of ds_X12_of rfl ⟨Nat.le_of_ble_eq_true rfl, Nat.le_of_ble_eq_true rfl⟩ (Nat.le_of_ble_eq_true rfl) rfl dX12_order_72 (fun r12 h11 => ?_)
            refine g_iaload dX12_order_75 (fun t13 => ?_)
            refine g_icmple (tgt := 81) dX12_order_76 (by decide) ?_ ?_
            · refine g_iinc 3 (v := (x3 + 1)) (ls' := [(3, vI ((x3 + 1))), (0, vR x0), (1, vI x1), (2, vI x2)]) dX12_order_81 rfl rfl (Nat.le_of_ble_eq_true rfl) rfl ?_
              refine g_goto (tgt := 12) dX12_order_84 (by decide) ?_
              exact g_sub2 [1, 2, 3, 0] rfl (ih x0 x1 x2 (x3 + 1) h11)
            · exact g_sub2 [0, 1, 3] rfl (s_X12_order_b79 hX (f_X12_order_b12 n) (fun z0 z1 z2 z3 z4 => ih z0 z1 z2 z3 z4) x0 x1 x3 h11)
        · refine g_aload_n 0 dX12_order_40 rfl rfl ?_
          refine g_iload_n 3 dX12_order_41 rfl rfl ?_
          refine g_callVI (st := []) (ci := 12) rfl (s_X12_lighterThan hX x0 x3 h4) kml_X12_176 kim_X12_lighterThan kse_X12_lighterThan kii_X12 kcd_X12_lighterThan rfl ds_X12_lighterThan rfl ⟨Nat.le_of_ble_eq_true rfl, Nat.le_of_ble_eq_true rfl⟩ (Nat.le_of_ble_eq_true rfl) rfl dX12_order_42 (fun r15 h14 => ?_)
          refine g_iload_n 1 dX12_order_45 rfl rfl ?_
          refine g_icmpne (tgt := 81) dX12_order_46 (by decide) ?_ ?_
          · refine g_iinc 3 (v := (x3 + 1)) (ls' := [(3, vI ((x3 + 1))), (0, vR x0), (1, vI x1), (2, vI x2)]) dX12_order_81 rfl rfl (Nat.le_of_ble_eq_true rfl) rfl ?_
            refine g_goto (tgt := 12) dX12_order_84 (by decide) ?_
            exact g_sub2 [1, 2, 3, 0] rfl (ih x0 x1 x2 (x3 + 1) h14)
          · refine g_goto (tgt := 79) dX12_order_49 (by decide) ?_
            exact g_sub2 [0, 1, 3] rfl (s_X12_order_b79 hX (f_X12_order_b12 n) (fun z0 z1 z2 z3 z4 => ih z0 z1 z2 z3 z4) x0 x1 x3 h14)
      · refine g_goto (tgt := 81) dX12_order_33 (by decide) ?_
        refine g_iinc 3 (v := (x3 + 1)) (ls' := [(3, vI ((x3 + 1))), (0, vR x0), (1, vI x1), (2, vI x2)]) dX12_order_81 rfl rfl (Nat.le_of_ble_eq_true rfl) rfl ?_
        refine g_goto (tgt := 12) dX12_order_84 (by decide) ?_
        exact g_sub2 [1, 2, 3, 0] rfl (ih x0 x1 x2 (x3 + 1) h4)
def f_X12_order (v0 : Option Nat) (v1 : Int32) (h : AH) : Option (Int32 × AH) :=
    (if (-1) ≤ v1 then
    f_X12_order_b12 FU v0 v1 (-4) 0 h
    else some ((-1), h))
set_option maxRecDepth 100000 in
set_option maxHeartbeats 4000000 in
theorem s_X12_order {X : GX} (hX : XOK X) (v0 : Option Nat) (v1 : Int32) (h : AH) : Snd X yX12_order cX12_order 4 (some .int) 3 66 rI [vR v0, vI v1] h (f_X12_order v0 v1 h) := by
  refine snd_of hX (by decide +kernel) (Nat.le_of_ble_eq_true rfl) ?_
  show Gp (p_X12_order X h) RX12 "order" cX12_order (some .int) 0 [(0, vR v0), (1, vI v1)] [] h _
  unfold f_X12_order
  refine g_iload_n 1 dX12_order_0 rfl rfl ?_
  refine g_iconst (v := (-1)) dX12_order_1 (by decide) ?_
  refine g_icmpge (tgt := 7) dX12_order_2 (by decide) ?_ ?_
  · refine g_bipush (v := (-4)) dX12_order_7 (by decide) ?_
    refine g_istore_n (ls' := [(2, vI ((-4))), (0, vR v0), (1, vI v1)]) dX12_order_9 rfl (Nat.le_of_ble_eq_true rfl) rfl ?_
    refine g_iconst (v := 0) dX12_order_10 (by decide) ?_
    refine g_istore_n (ls' := [(3, vI 0), (2, vI ((-4))), (0, vR v0), (1, vI v1)]) dX12_order_11 rfl (Nat.le_of_ble_eq_true rfl) rfl ?_
    exact g_sub2 [2, 3, 1, 0] rfl (s_X12_order_b12 hX FU v0 v1 (-4) 0 h)
  · refine g_iconst (v := (-1)) dX12_order_5 (by decide) ?_
    exact g_ireturn rfl dX12_order_6
abbrev p_X12_partnerOf (X : GX) (h0 : AH) : PX Int32 := (X, (fun x => Sum.inl (rI x)), (2, 42, 5), h0)
def f_X12_partnerOf_b42 (k9 : Option Nat → Int32 → Int32 → Int32 → AH → Option (Int32 × AH)) (x0 : Option Nat) (x1 : Int32) (x2 : Int32) (x3 : Int32) (y0 : Int32) (h : AH) : Option (Int32 × AH) :=
    (if y0 < 0 then
    k9 x0 x1 x2 (x3 + 1) h
    else (gR h x0 [12] 10).bind fun t8 =>
    (iA h t8 ((x1 &&& (((1 : Int32) <<< (x2 &&& 31)) ^^^ (-1))) &&& (((1 : Int32) <<< (x3 &&& 31)) ^^^ (-1)))).bind fun t9 =>
    (gR h x0 [12] 10).bind fun t10 =>
    (iA h t10 x1).bind fun t11 =>
    (if (y0 + t9) = t11 then
    some (x3, h)
    else k9 x0 x1 x2 (x3 + 1) h))
set_option maxRecDepth 100000 in
set_option maxHeartbeats 4000000 in
theorem s_X12_partnerOf_b42 {X : GX} (hX : XOK X) {h0 : AH} (k9 : Option Nat → Int32 → Int32 → Int32 → AH → Option (Int32 × AH)) (hk9 : ∀ (z0 : Option Nat) (z1 : Int32) (z2 : Int32) (z3 : Int32) (h : AH), Gp (p_X12_partnerOf X h0) RX12 "partnerOf" cX12_partnerOf (some .int) 9 [(0, vR z0), (1, vI z1), (2, vI z2), (3, vI z3)] [] h (k9 z0 z1 z2 z3 h)) : ∀ (x0 : Option Nat) (x1 : Int32) (x2 : Int32) (x3 : Int32) (y0 : Int32) (h : AH), Gp (p_X12_partnerOf X h0) RX12 "partnerOf" cX12_partnerOf (some .int) 42 [(0, vR x0), (1, vI x1), (2, vI x2), (3, vI x3)] [vI y0] h (f_X12_partnerOf_b42 k9 x0 x1 x2 x3 y0 h) := by
  intro x0 x1 x2 x3 y0 h
  unfold f_X12_partnerOf_b42
  refine g_istore (ls' := [(4, vI y0), (0, vR x0), (1, vI x1), (2, vI x2), (3, vI x3)]) dX12_partnerOf_42 (Nat.le_of_ble_eq_true rfl) rfl ?_
  refine g_iload 0 dX12_partnerOf_44 rfl ?_
  refine g_iflt (tgt := 81) dX12_partnerOf_46 (by decide) ?_ ?_
  · refine g_iinc 4 (v := (x3 + 1)) (ls' := [(3, vI ((x3 + 1))), (4, vI y0), (0, vR x0), (1, vI x1), (2, vI x2)]) dX12_partnerOf_81 rfl rfl (Nat.le_of_ble_eq_true rfl) rfl ?_
    refine g_goto (tgt := 9) dX12_partnerOf_84 (by decide) ?_
    exact g_sub2 [2, 3, 4, 0] rfl (hk9 x0 x1 x2 (x3 + 1) h)
  · refine g_iload 0 dX12_partnerOf_49 rfl ?_
    refine g_aload_n 1 dX12_partnerOf_51 rfl rfl ?_
    refine g_getR kfl_X12_28 fo_X12_most dX12_partnerOf_52 (fun t8 => ?_)
    refine g_iload_n 2 dX12_partnerOf_55 rfl rfl ?_
    refine g_iconst (v := 1) dX12_partnerOf_56 (by decide) ?_
    refine g_iload_n 3 dX12_partnerOf_57 rfl rfl ?_
    refine g_ishl dX12_partnerOf_58 ?_
    refine g_iconst (v := (-1)) dX12_partnerOf_59 (by decide) ?_
    refine g_ixor dX12_partnerOf_60 ?_
    refine g_iand dX12_partnerOf_61 ?_
    refine g_iconst (v := 1) dX12_partnerOf_62 (by decide) ?_
    refine g_iload_n 4 dX12_partnerOf_63 rfl rfl ?_
    refine g_ishl dX12_partnerOf_64 ?_
    refine g_iconst (v := (-1)) dX12_partnerOf_65 (by decide) ?_
    refine g_ixor dX12_partnerOf_66 ?_
    refine g_iand dX12_partnerOf_67 ?_
    refine g_iaload dX12_partnerOf_68 (fun t9 => ?_)
    refine g_iadd dX12_partnerOf_69 ?_
    refine g_aload_n 1 dX12_partnerOf_70 rfl rfl ?_
    refine g_getR kfl_X12_28 fo_X12_most dX12_partnerOf_71 (fun t10 => ?_)
    refine g_iload_n 2 dX12_partnerOf_74 rfl rfl ?_
    refine g_iaload dX12_partnerOf_75 (fun t11 => ?_)
    refine g_icmpne (tgt := 81) dX12_partnerOf_76 (by decide) ?_ ?_
    · refine g_iinc 4 (v := (x3 + 1)) (ls' := [(3, vI ((x3 + 1))), (4, vI y0), (0, vR x0), (1, vI x1), (2, vI x2)]) dX12_partnerOf_81 rfl rfl (Nat.le_of_ble_eq_true rfl) rfl ?_
      refine g_goto (tgt := 9) dX12_partnerOf_84 (by decide) ?_
      exact g_sub2 [2, 3, 4, 0] rfl (hk9 x0 x1 x2 (x3 + 1) h)
    · refine g_iload_n 4 dX12_partnerOf_79 rfl rfl ?_
      exact g_ireturn rfl dX12_partnerOf_80
def f_X12_partnerOf_b9 : Nat → Option Nat → Int32 → Int32 → Int32 → AH → Option (Int32 × AH)
  | 0 => fun _ _ _ _ _ => none
  | n + 1 => fun x0 x1 x2 x3 h =>
    (gR h x0 [12] 0).bind fun t4 =>
    (iA h t4 0).bind fun t5 =>
    (if t5 ≤ x3 then
    some ((-4), h)
    else bd (f_X12_has x1 x3 h) fun r7 h6 =>
    (if r7 = 0 then
    f_X12_partnerOf_b42 (f_X12_partnerOf_b9 n) x0 x1 x2 x3 (-1) h6
    else (gR h6 x0 [12] 9).bind fun t12 =>
    (iA h6 t12 ((7 * x2) + x3)).bind fun t13 =>
    f_X12_partnerOf_b42 (f_X12_partnerOf_b9 n) x0 x1 x2 x3 t13 h6))
set_option maxRecDepth 100000 in
set_option maxHeartbeats 4000000 in
theorem s_X12_partnerOf_b9 {X : GX} (hX : XOK X) {h0 : AH} : ∀ (n : Nat) (x0 : Option Nat) (x1 : Int32) (x2 : Int32) (x3 : Int32) (h : AH), Gp (p_X12_partnerOf X h0) RX12 "partnerOf" cX12_partnerOf (some .int) 9 [(0, vR x0), (1, vI x1), (2, vI x2), (3, vI x3)] [] h (f_X12_partnerOf_b9 n x0 x1 x2 x3 h) := by
  intro n
  induction n with
  | zero => intro x0 x1 x2 x3 h; exact g_none
  | succ n ih =>
    intro x0 x1 x2 x3 h
    rw [f_X12_partnerOf_b9]
    refine g_iload_n 3 dX12_partnerOf_9 rfl rfl ?_
    refine g_aload_n 0 dX12_partnerOf_10 rfl rfl ?_
    refine g_getR kfl_X12_9 fo_X12_s dX12_partnerOf_11 (fun t4 => ?_)
    refine g_iconst (v := 0) dX12_partnerOf_14 (by decide) ?_
    refine g_iaload dX12_partnerOf_15 (fun t5 => ?_)
    refine g_icmpge (tgt := 87) dX12_partnerOf_16 (by decide) ?_ ?_
    · refine g_bipush (v := (-4)) dX12_partnerOf_87 (by decide) ?_
      exact g_ireturn rfl dX12_partnerOf_89
    · refine g_iload_n 1 dX12_partnerOf_19 rfl rfl ?_
      refine g_iload_n 3 dX12_partnerOf_20 rfl rfl ?_
      refine g_callSI (st := []) (s_X12_has hX x1 x3 h) kml_X12_68 kst_X12_has kii_X12 kcd_X12_has ds_X12_has rfl ⟨Nat.le_of_ble_eq_true rfl, Nat.le_of_ble_eq_true rfl⟩ (Nat.le_of_ble_eq_true rfl) rfl dX12_partnerOf_21 (fun r7 h6 => ?_)
      refine g_ifeq (tgt := 41) dX12_partnerOf_24 (by decide) ?_ ?_
      · refine g_iconst (v := (-1)) dX12_partnerOf_41 (by decide) ?_
        exact g_sub2 [0, 1, 2, 3] rfl (s_X12_partnerOf_b42 hX (f_X12_partnerOf_b9 n) (fun z0 z1 z2 z3 z4 => ih z0 z1 z2 z3 z4) x0 x1 x2 x3 (-1) h6)
      · refine g_aload_n 0 dX12_partnerOf_27 rfl rfl ?_
        refine g_getR kfl_X12_25 fo_X12_brings dX12_partnerOf_28 (fun t12 => ?_)
        refine g_bipush (v := 7) dX12_partnerOf_31 (by decide) ?_
        refine g_iload_n 2 dX12_partnerOf_33 rfl rfl ?_
        refine g_imul dX12_partnerOf_34 ?_
        refine g_iload_n 3 dX12_partnerOf_35 rfl rfl ?_
        refine g_iadd dX12_partnerOf_36 ?_
        refine g_iaload dX12_partnerOf_37 (fun t13 => ?_)
        refine g_goto (tgt := 42) dX12_partnerOf_38 (by decide) ?_
        exact g_sub2 [0, 1, 2, 3] rfl (s_X12_partnerOf_b42 hX (f_X12_partnerOf_b9 n) (fun z0 z1 z2 z3 z4 => ih z0 z1 z2 z3 z4) x0 x1 x2 x3 t13 h6)
def f_X12_partnerOf (v0 : Option Nat) (v1 : Int32) (h : AH) : Option (Int32 × AH) :=
    bd (f_X12_leastIn v1 h) fun r2 h1 =>
    nm (r2 + 1) fun t3 =>
    f_X12_partnerOf_b9 FU v0 v1 r2 t3 h1
set_option maxRecDepth 100000 in
set_option maxHeartbeats 4000000 in
theorem s_X12_partnerOf {X : GX} (hX : XOK X) (v0 : Option Nat) (v1 : Int32) (h : AH) : Snd X yX12_partnerOf cX12_partnerOf 5 (some .int) 2 42 rI [vR v0, vI v1] h (f_X12_partnerOf v0 v1 h) := by
  refine snd_of hX (by decide +kernel) (Nat.le_of_ble_eq_true rfl) ?_
  show Gp (p_X12_partnerOf X h) RX12 "partnerOf" cX12_partnerOf (some .int) 0 [(0, vR v0), (1, vI v1)] [] h _
  unfold f_X12_partnerOf
  refine g_iload_n 1 dX12_partnerOf_0 rfl rfl ?_
  refine g_callSI (st := []) (s_X12_leastIn hX v1 h) kml_X12_191 kst_X12_leastIn kii_X12 kcd_X12_leastIn ds_X12_leastIn rfl ⟨Nat.le_of_ble_eq_true rfl, Nat.le_of_ble_eq_true rfl⟩ (Nat.le_of_ble_eq_true rfl) rfl dX12_partnerOf_1 (fun r2 h1 => ?_)
  refine g_istore_n (ls' := [(2, vI r2), (0, vR v0), (1, vI v1)]) dX12_partnerOf_4 rfl (Nat.le_of_ble_eq_true rfl) rfl ?_
  refine g_iload_n 0 dX12_partnerOf_5 rfl rfl ?_
  refine g_iconst (v := 1) dX12_partnerOf_6 (by decide) ?_
  refine g_iadd dX12_partnerOf_7 ?_
  refine g_nmI (fun t3 => ?_)
  refine g_istore_n (ls' := [(3, vI t3), (2, vI r2), (0, vR v0), (1, vI v1)]) dX12_partnerOf_8 rfl (Nat.le_of_ble_eq_true rfl) rfl ?_
  exact g_sub2 [2, 3, 1, 0] rfl (s_X12_partnerOf_b9 hX FU v0 v1 r2 t3 h1)
abbrev p_X12_pairs (X : GX) (h0 : AH) : PX Int32 := (X, (fun x => Sum.inl (rI x)), (7, 156, 5), h0)
def f_X12_pairs_b38 : Nat → Option Nat → Int32 → Int32 → AH → Option (Int32 × AH)
  | 0 => fun _ _ _ _ => none
  | n + 1 => fun x0 x1 x2 h =>
    (if x2 = 0 then
    some ((-4), h)
    else bd (f_X12_leastIn x2 h) fun r7 h6 =>
    bd (cv h6 x0 12 (f_X12_partnerOf x0 x2 h6)) fun r9 h8 =>
    (if r7 = x1 then
    some (r9, h8)
    else (if r9 = x1 then
    some (r7, h8)
    else (if 0 ≤ r9 then
    nm (x2 &&& ((((1 : Int32) <<< (r7 &&& 31)) ||| ((1 : Int32) <<< (r9 &&& 31))) ^^^ (-1))) fun t10 =>
    f_X12_pairs_b38 n x0 x1 t10 h8
    else nm (x2 &&& (((1 : Int32) <<< (r7 &&& 31)) ^^^ (-1))) fun t11 =>
    f_X12_pairs_b38 n x0 x1 t11 h8))))
set_option maxRecDepth 100000 in
set_option maxHeartbeats 4000000 in
theorem s_X12_pairs_b38 {X : GX} (hX : XOK X) {h0 : AH} : ∀ (n : Nat) (x0 : Option Nat) (x1 : Int32) (x2 : Int32) (h : AH), Gp (p_X12_pairs X h0) RX12 "pairs" cX12_pairs (some .int) 38 [(0, vR x0), (1, vI x1), (2, vI x2)] [] h (f_X12_pairs_b38 n x0 x1 x2 h) := by
  intro n
  induction n with
  | zero => intro x0 x1 x2 h; exact g_none
  | succ n ih =>
    intro x0 x1 x2 h
    rw [f_X12_pairs_b38]
    refine g_iload_n 2 dX12_pairs_38 rfl rfl ?_
    refine g_ifeq (tgt := 99) dX12_pairs_39 (by decide) ?_ ?_
    · refine g_bipush (v := (-4)) dX12_pairs_99 (by decide) ?_
      exact g_ireturn rfl dX12_pairs_101
    · refine g_iload_n 2 dX12_pairs_42 rfl rfl ?_
      refine g_callSI (st := []) (s_X12_leastIn hX x2 h) kml_X12_191 kst_X12_leastIn kii_X12 kcd_X12_leastIn ds_X12_leastIn rfl ⟨Nat.le_of_ble_eq_true rfl, Nat.le_of_ble_eq_true rfl⟩ (Nat.le_of_ble_eq_true rfl) rfl dX12_pairs_43 (fun r7 h6 => ?_)
      refine g_istore_n (ls' := [(3, vI r7), (0, vR x0), (1, vI x1), (2, vI x2)]) dX12_pairs_46 rfl (Nat.le_of_ble_eq_true rfl) rfl ?_
      refine g_aload_n 1 dX12_pairs_47 rfl rfl ?_
      refine g_iload_n 3 dX12_pairs_48 rfl rfl ?_
      refine g_callVI (st := []) (ci := 12) rfl (s_X12_partnerOf hX x0 x2 h6) kml_X12_197 kim_X12_partnerOf kse_X12_partnerOf kii_X12 kcd_X12_partnerOf rfl ds_X12_partnerOf rfl ⟨Nat.le_of_ble_eq_true rfl, Nat.le_of_ble_eq_true rfl⟩ (Nat.le_of_ble_eq_true rfl) rfl dX12_pairs_49 (fun r9 h8 => ?_)
      refine g_istore (ls' := [(4, vI r9), (3, vI r7), (0, vR x0), (1, vI x1), (2, vI x2)]) dX12_pairs_52 (Nat.le_of_ble_eq_true rfl) rfl ?_
      refine g_iload_n 1 dX12_pairs_54 rfl rfl ?_
      refine g_iload_n 3 dX12_pairs_55 rfl rfl ?_
      refine g_icmpne (tgt := 62) dX12_pairs_56 (by decide) ?_ ?_
      · refine g_iload 0 dX12_pairs_62 rfl ?_
        refine g_iload_n 3 dX12_pairs_64 rfl rfl ?_
        refine g_icmpne (tgt := 70) dX12_pairs_65 (by decide) ?_ ?_
        · refine g_iload_n 4 dX12_pairs_70 rfl rfl ?_
          refine g_iload 0 dX12_pairs_71 rfl ?_
          refine g_ifge (tgt := 84) dX12_pairs_73 (by decide) ?_ ?_
          · refine g_iconst (v := 1) dX12_pairs_84 (by decide) ?_
            refine g_iload_n 1 dX12_pairs_85 rfl rfl ?_
            refine g_ishl dX12_pairs_86 ?_
            refine g_iconst (v := 1) dX12_pairs_87 (by decide) ?_
            refine g_iload 0 dX12_pairs_88 rfl ?_
            refine g_ishl dX12_pairs_90 ?_
            refine g_ior dX12_pairs_91 ?_
            refine g_iconst (v := (-1)) dX12_pairs_92 (by decide) ?_
            refine g_ixor dX12_pairs_93 ?_
            refine g_iand dX12_pairs_94 ?_
            refine g_nmI (fun t10 => ?_)
            refine g_istore_n (ls' := [(2, vI t10), (4, vI r9), (3, vI r7), (0, vR x0), (1, vI x1)]) dX12_pairs_95 rfl (Nat.le_of_ble_eq_true rfl) rfl ?_
            refine g_goto (tgt := 38) dX12_pairs_96 (by decide) ?_
            exact g_sub2 [3, 4, 0] rfl (ih x0 x1 t10 h8)
          · refine g_iconst (v := 1) dX12_pairs_76 (by decide) ?_
            refine g_iload_n 1 dX12_pairs_77 rfl rfl ?_
            refine g_ishl dX12_pairs_78 ?_
            refine g_iconst (v := (-1)) dX12_pairs_79 (by decide) ?_
            refine g_ixor dX12_pairs_80 ?_
            refine g_goto (tgt := 94) dX12_pairs_81 (by decide) ?_
            refine g_iand dX12_pairs_94 ?_
            refine g_nmI (fun t11 => ?_)
            refine g_istore_n (ls' := [(2, vI t11), (4, vI r9), (3, vI r7), (0, vR x0), (1, vI x1)]) dX12_pairs_95 rfl (Nat.le_of_ble_eq_true rfl) rfl ?_
            refine g_goto (tgt := 38) dX12_pairs_96 (by decide) ?_
            exact g_sub2 [3, 4, 0] rfl (ih x0 x1 t11 h8)
        · refine g_iload_n 1 dX12_pairs_68 rfl rfl ?_
          exact g_ireturn rfl dX12_pairs_69
      · refine g_iload 0 dX12_pairs_59 rfl ?_
        exact g_ireturn rfl dX12_pairs_61
def f_X12_pairs_b15 (x0 : Option Nat) (x1 : Int32) (h : AH) : Option (Int32 × AH) :=
    bd (cv h x0 12 (f_X12_matches x0 h)) fun u2 h1 =>
    (gR h1 x0 [12] 0).bind fun t3 =>
    bd (f_X12_hereIn t3 h1) fun r5 h4 =>
    (if 0 ≤ x1 then
    f_X12_pairs_b38 FU x0 x1 r5 h4
    else (gR h4 x0 [12] 10).bind fun t12 =>
    (iA h4 t12 r5).bind fun t13 =>
    some (t13, h4))
set_option maxRecDepth 100000 in
set_option maxHeartbeats 4000000 in
theorem s_X12_pairs_b15 {X : GX} (hX : XOK X) {h0 : AH} : ∀ (x0 : Option Nat) (x1 : Int32) (h : AH), Gp (p_X12_pairs X h0) RX12 "pairs" cX12_pairs (some .int) 15 [(0, vR x0), (1, vI x1)] [] h (f_X12_pairs_b15 x0 x1 h) := by
  intro x0 x1 h
  unfold f_X12_pairs_b15
  refine g_aload_n 0 dX12_pairs_15 rfl rfl ?_
  refine g_callVU (st := []) (ci := 12) rfl (s_X12_matches hX x0 h) kml_X12_194 kim_X12_matches kse_X12_matches kii_X12 kcd_X12_matches rfl ds_X12_matches rfl ⟨Nat.le_of_ble_eq_true rfl, Nat.le_of_ble_eq_true rfl⟩ (Nat.le_of_ble_eq_true rfl) rfl dX12_pairs_16 (fun u2 h1 => ?_)
  refine g_aload_n 0 dX12_pairs_19 rfl rfl ?_
  refine g_getR kfl_X12_9 fo_X12_s dX12_pairs_20 (fun t3 => ?_)
  refine g_callSI (st := []) (s_X12_hereIn hX t3 h1) kml_X12_162 kst_X12_hereIn kii_X12 kcd_X12_hereIn ds_X12_hereIn rfl ⟨Nat.le_of_ble_eq_true rfl, Nat.le_of_ble_eq_true rfl⟩ (Nat.le_of_ble_eq_true rfl) rfl dX12_pairs_23 (fun r5 h4 => ?_)
  refine g_istore_n (ls' := [(2, vI r5), (0, vR x0), (1, vI x1)]) dX12_pairs_26 rfl (Nat.le_of_ble_eq_true rfl) rfl ?_
  refine g_iload_n 2 dX12_pairs_27 rfl rfl ?_
  refine g_ifge (tgt := 38) dX12_pairs_28 (by decide) ?_ ?_
  · exact g_sub2 [1, 2, 0] rfl (s_X12_pairs_b38 hX FU x0 x1 r5 h4)
  · refine g_aload_n 1 dX12_pairs_31 rfl rfl ?_
    refine g_getR kfl_X12_28 fo_X12_most dX12_pairs_32 (fun t12 => ?_)
    refine g_iload_n 0 dX12_pairs_35 rfl rfl ?_
    refine g_iaload dX12_pairs_36 (fun t13 => ?_)
    exact g_ireturn rfl dX12_pairs_37
def f_X12_pairs (v0 : Option Nat) (v1 : Int32) (h : AH) : Option (Int32 × AH) :=
    (if v1 = (-1) then
    f_X12_pairs_b15 v0 v1 h
    else bd (cv h v0 12 (f_X12_isGuest v0 v1 h)) fun r15 h14 =>
    (if r15 = 0 then
    some ((-1), h14)
    else f_X12_pairs_b15 v0 v1 h14))
set_option maxRecDepth 100000 in
set_option maxHeartbeats 4000000 in
theorem s_X12_pairs {X : GX} (hX : XOK X) (v0 : Option Nat) (v1 : Int32) (h : AH) : Snd X yX12_pairs cX12_pairs 5 (some .int) 7 156 rI [vR v0, vI v1] h (f_X12_pairs v0 v1 h) := by
  refine snd_of hX (by decide +kernel) (Nat.le_of_ble_eq_true rfl) ?_
  show Gp (p_X12_pairs X h) RX12 "pairs" cX12_pairs (some .int) 0 [(0, vR v0), (1, vI v1)] [] h _
  unfold f_X12_pairs
  refine g_iload_n 1 dX12_pairs_0 rfl rfl ?_
  refine g_iconst (v := (-1)) dX12_pairs_1 (by decide) ?_
  refine g_icmpeq (tgt := 15) dX12_pairs_2 (by decide) ?_ ?_
  · exact g_sub2 [0, 1] rfl (s_X12_pairs_b15 hX v0 v1 h)
  · refine g_aload_n 0 dX12_pairs_5 rfl rfl ?_
    refine g_iload_n 1 dX12_pairs_6 rfl rfl ?_
    refine g_callVI (st := []) (ci := 12) rfl (s_X12_isGuest hX v0 v1 h) kml_X12_113 kim_X12_isGuest kse_X12_isGuest kii_X12 kcd_X12_isGuest rfl ds_X12_isGuest rfl ⟨Nat.le_of_ble_eq_true rfl, Nat.le_of_ble_eq_true rfl⟩ (Nat.le_of_ble_eq_true rfl) rfl dX12_pairs_7 (fun r15 h14 => ?_)
    refine g_ifne (tgt := 15) dX12_pairs_10 (by decide) ?_ ?_
    · exact g_sub2 [0, 1] rfl (s_X12_pairs_b15 hX v0 v1 h14)
    · refine g_iconst (v := (-1)) dX12_pairs_13 (by decide) ?_
      exact g_ireturn rfl dX12_pairs_14
abbrev p_X12_put (X : GX) (h0 : AH) : PX Int32 := (X, (fun x => Sum.inl (rI x)), (3, 64, 5), h0)
def f_X12_put (v0 : Option Nat) (v1 : Int32) (v2 : Int32) (v3 : Int32) (h : AH) : Option (Int32 × AH) :=
    bd (cv h v0 12 (f_X12_wrongRow v0 v1 (-1) h)) fun r2 h1 =>
    (if r2 = 0 then
    (gR h1 v0 [12] 16).bind fun t3 =>
    (iA h1 t3 v1).bind fun t4 =>
    bd (f_X12_isIn v2 0 (t4 - 1) h1) fun r6 h5 =>
    (if r6 = 0 then
    some ((-13), h5)
    else (gR h5 v0 [12] 17).bind fun t7 =>
    (gR h5 v0 [12] 15).bind fun t8 =>
    (iA h5 t8 v1).bind fun t9 =>
    (if t9 = 0 then
    (iS h5 t7 ((100 * v1) + v2) (Int8.toInt32 (Int32.toInt8 v3))).bind fun h14 =>
    some (0, h14)
    else (gR h5 v0 [12] 15).bind fun t10 =>
    (iA h5 t10 v1).bind fun t11 =>
    (if t11 = 1 then
    (iS h5 t7 ((100 * v1) + v2) (Int16.toInt32 (Int32.toInt16 v3))).bind fun h13 =>
    some (0, h13)
    else (iS h5 t7 ((100 * v1) + v2) v3).bind fun h12 =>
    some (0, h12))))
    else some (r2, h1))
set_option maxRecDepth 100000 in
set_option maxHeartbeats 4000000 in
theorem s_X12_put {X : GX} (hX : XOK X) (v0 : Option Nat) (v1 : Int32) (v2 : Int32) (v3 : Int32) (h : AH) : Snd X yX12_put cX12_put 5 (some .int) 3 64 rI [vR v0, vI v1, vI v2, vI v3] h (f_X12_put v0 v1 v2 v3 h) := by
  refine snd_of hX (by decide +kernel) (Nat.le_of_ble_eq_true rfl) ?_
  show Gp (p_X12_put X h) RX12 "put" cX12_put (some .int) 0 [(0, vR v0), (1, vI v1), (2, vI v2), (3, vI v3)] [] h _
  unfold f_X12_put
  refine g_aload_n 0 dX12_put_0 rfl rfl ?_
  refine g_iload_n 1 dX12_put_1 rfl rfl ?_
  refine g_iconst (v := (-1)) dX12_put_2 (by decide) ?_
  refine g_callVI (st := []) (ci := 12) rfl (s_X12_wrongRow hX v0 v1 (-1) h) kml_X12_134 kim_X12_wrongRow kse_X12_wrongRow kii_X12 kcd_X12_wrongRow rfl ds_X12_wrongRow rfl ⟨Nat.le_of_ble_eq_true rfl, Nat.le_of_ble_eq_true rfl⟩ (Nat.le_of_ble_eq_true rfl) rfl dX12_put_3 (fun r2 h1 => ?_)
  refine g_istore (ls' := [(4, vI r2), (0, vR v0), (1, vI v1), (2, vI v2), (3, vI v3)]) dX12_put_6 (Nat.le_of_ble_eq_true rfl) rfl ?_
  refine g_iload 0 dX12_put_8 rfl ?_
  refine g_ifeq (tgt := 16) dX12_put_10 (by decide) ?_ ?_
  · refine g_iload_n 3 dX12_put_16 rfl rfl ?_
    refine g_iconst (v := 0) dX12_put_17 (by decide) ?_
    refine g_aload_n 1 dX12_put_18 rfl rfl ?_
    refine g_getR kfl_X12_43 fo_X12_size dX12_put_19 (fun t3 => ?_)
    refine g_iload_n 2 dX12_put_22 rfl rfl ?_
    refine g_iaload dX12_put_23 (fun t4 => ?_)
    refine g_iconst (v := 1) dX12_put_24 (by decide) ?_
    refine g_isub dX12_put_25 ?_
    refine g_callSI (st := []) (s_X12_isIn hX v2 0 (t4 - 1) h1) kml_X12_49 kst_X12_isIn kii_X12 kcd_X12_isIn ds_X12_isIn rfl ⟨Nat.le_of_ble_eq_true rfl, Nat.le_of_ble_eq_true rfl⟩ (Nat.le_of_ble_eq_true rfl) rfl dX12_put_26 (fun r6 h5 => ?_)
    refine g_ifne (tgt := 35) dX12_put_29 (by decide) ?_ ?_
    · refine g_aload_n 1 dX12_put_35 rfl rfl ?_
      refine g_getR kfl_X12_46 fo_X12_element dX12_put_36 (fun t7 => ?_)
      refine g_bipush (v := 100) dX12_put_39 (by decide) ?_
      refine g_iload_n 2 dX12_put_41 rfl rfl ?_
      refine g_imul dX12_put_42 ?_
      refine g_iload_n 3 dX12_put_43 rfl rfl ?_
      refine g_iadd dX12_put_44 ?_
      refine g_aload_n 1 dX12_put_45 rfl rfl ?_
      refine g_getR kfl_X12_40 fo_X12_sort dX12_put_46 (fun t8 => ?_)
      refine g_iload_n 2 dX12_put_49 rfl rfl ?_
      refine g_iaload dX12_put_50 (fun t9 => ?_)
      refine g_ifne (tgt := 59) dX12_put_51 (by decide) ?_ ?_
      · refine g_aload_n 1 dX12_put_59 rfl rfl ?_
        refine g_getR kfl_X12_40 fo_X12_sort dX12_put_60 (fun t10 => ?_)
        refine g_iload_n 2 dX12_put_63 rfl rfl ?_
        refine g_iaload dX12_put_64 (fun t11 => ?_)
        refine g_iconst (v := 1) dX12_put_65 (by decide) ?_
        refine g_icmpne (tgt := 74) dX12_put_66 (by decide) ?_ ?_
        · refine g_iload_n 4 dX12_put_74 rfl rfl ?_
          refine g_iastore dX12_put_75 (fun h12 => ?_)
          refine g_iconst (v := 0) dX12_put_76 (by decide) ?_
          exact g_ireturn rfl dX12_put_77
        · refine g_iload_n 4 dX12_put_69 rfl rfl ?_
          refine g_i2s dX12_put_70 ?_
          refine g_goto (tgt := 75) dX12_put_71 (by decide) ?_
          refine g_iastore dX12_put_75 (fun h13 => ?_)
          refine g_iconst (v := 0) dX12_put_76 (by decide) ?_
          exact g_ireturn rfl dX12_put_77
      · refine g_iload_n 4 dX12_put_54 rfl rfl ?_
        refine g_i2b dX12_put_55 ?_
        refine g_goto (tgt := 75) dX12_put_56 (by decide) ?_
        refine g_iastore dX12_put_75 (fun h14 => ?_)
        refine g_iconst (v := 0) dX12_put_76 (by decide) ?_
        exact g_ireturn rfl dX12_put_77
    · refine g_bipush (v := (-13)) dX12_put_32 (by decide) ?_
      exact g_ireturn rfl dX12_put_34
  · refine g_iload 0 dX12_put_13 rfl ?_
    exact g_ireturn rfl dX12_put_15
abbrev p_X12_restore (X : GX) (h0 : AH) : PX Int32 := (X, (fun x => Sum.inl (rI x)), (1, 22, 1), h0)
def f_X12_restore (v0 : Option Nat) (h : AH) : Option (Int32 × AH) :=
    (gI h v0 [12] 4).bind fun t1 =>
    (if t1 = 0 then
    some ((-3), h)
    else (gR h v0 [12] 2).bind fun t2 =>
    (gR h v0 [12] 0).bind fun t3 =>
    bd (f_X12_copies t2 t3 h) fun u5 h4 =>
    (gR h4 v0 [12] 0).bind fun t6 =>
    (iA h4 t6 1).bind fun t7 =>
    some (t7, h4))
set_option maxRecDepth 100000 in
set_option maxHeartbeats 4000000 in
theorem s_X12_restore {X : GX} (hX : XOK X) (v0 : Option Nat) (h : AH) : Snd X yX12_restore cX12_restore 1 (some .int) 1 22 rI [vR v0] h (f_X12_restore v0 h) := by
  refine snd_of hX (by decide +kernel) (Nat.le_of_ble_eq_true rfl) ?_
  show Gp (p_X12_restore X h) RX12 "restore" cX12_restore (some .int) 0 [(0, vR v0)] [] h _
  unfold f_X12_restore
  refine g_aload_n 0 dX12_restore_0 rfl rfl ?_
  refine g_getI kfl_X12_239 fo_X12_hasImage dX12_restore_1 (fun t1 => ?_)
  refine g_ifne (tgt := 10) dX12_restore_4 (by decide) ?_ ?_
  · refine g_aload_n 0 dX12_restore_10 rfl rfl ?_
    refine g_getR kfl_X12_16 fo_X12_image dX12_restore_11 (fun t2 => ?_)
    refine g_aload_n 0 dX12_restore_14 rfl rfl ?_
    refine g_getR kfl_X12_9 fo_X12_s dX12_restore_15 (fun t3 => ?_)
    refine g_callSU (st := []) (s_X12_copies hX t2 t3 h) kml_X12_141 kst_X12_copies kii_X12 kcd_X12_copies ds_X12_copies rfl ⟨Nat.le_of_ble_eq_true rfl, Nat.le_of_ble_eq_true rfl⟩ (Nat.le_of_ble_eq_true rfl) rfl dX12_restore_18 (fun u5 h4 => ?_)
    refine g_aload_n 0 dX12_restore_21 rfl rfl ?_
    refine g_getR kfl_X12_9 fo_X12_s dX12_restore_22 (fun t6 => ?_)
    refine g_iconst (v := 1) dX12_restore_25 (by decide) ?_
    refine g_iaload dX12_restore_26 (fun t7 => ?_)
    exact g_ireturn rfl dX12_restore_27
  · refine g_bipush (v := (-3)) dX12_restore_7 (by decide) ?_
    exact g_ireturn rfl dX12_restore_9
abbrev p_X12_row (X : GX) (h0 : AH) : PX Int32 := (X, (fun x => Sum.inl (rI x)), (2, 42, 5), h0)
def f_X12_row_b55 : Nat → Option Nat → Int32 → Int32 → AH → Option (Int32 × AH)
  | 0 => fun _ _ _ _ => none
  | n + 1 => fun x0 x1 x4 h =>
    (if 100 ≤ x4 then
    some (0, h)
    else (gR h x0 [12] 17).bind fun t11 =>
    (iS h t11 ((100 * x1) + x4) 0).bind fun h12 =>
    f_X12_row_b55 n x0 x1 (x4 + 1) h12)
set_option maxRecDepth 100000 in
set_option maxHeartbeats 4000000 in
theorem s_X12_row_b55 {X : GX} (hX : XOK X) {h0 : AH} : ∀ (n : Nat) (x0 : Option Nat) (x1 : Int32) (x4 : Int32) (h : AH), Gp (p_X12_row X h0) RX12 "row" cX12_row (some .int) 55 [(0, vR x0), (1, vI x1), (4, vI x4)] [] h (f_X12_row_b55 n x0 x1 x4 h) := by
  intro n
  induction n with
  | zero => intro x0 x1 x4 h; exact g_none
  | succ n ih =>
    intro x0 x1 x4 h
    rw [f_X12_row_b55]
    refine g_iload 2 dX12_row_55 rfl ?_
    refine g_bipush (v := 100) dX12_row_57 (by decide) ?_
    refine g_icmpge (tgt := 81) dX12_row_59 (by decide) ?_ ?_
    · refine g_iconst (v := 0) dX12_row_81 (by decide) ?_
      exact g_ireturn rfl dX12_row_82
    · refine g_aload_n 0 dX12_row_62 rfl rfl ?_
      refine g_getR kfl_X12_46 fo_X12_element dX12_row_63 (fun t11 => ?_)
      refine g_bipush (v := 100) dX12_row_66 (by decide) ?_
      refine g_iload_n 1 dX12_row_68 rfl rfl ?_
      refine g_imul dX12_row_69 ?_
      refine g_iload 2 dX12_row_70 rfl ?_
      refine g_iadd dX12_row_72 ?_
      refine g_iconst (v := 0) dX12_row_73 (by decide) ?_
      refine g_iastore dX12_row_74 (fun h12 => ?_)
      refine g_iinc 2 (v := (x4 + 1)) (ls' := [(4, vI ((x4 + 1))), (0, vR x0), (1, vI x1)]) dX12_row_75 rfl rfl (Nat.le_of_ble_eq_true rfl) rfl ?_
      refine g_goto (tgt := 55) dX12_row_78 (by decide) ?_
      exact g_sub2 [1, 2, 0] rfl (ih x0 x1 (x4 + 1) h12)
def f_X12_row (v0 : Option Nat) (v1 : Int32) (v2 : Int32) (v3 : Int32) (h : AH) : Option (Int32 × AH) :=
    bd (f_X12_isShelf v1 h) fun r2 h1 =>
    (if r2 = 0 then
    some ((-1), h1)
    else bd (f_X12_isIn v2 0 2 h1) fun r4 h3 =>
    (if r4 = 0 then
    some ((-1), h3)
    else (if v3 ≤ 100 then
    (if 0 ≤ v3 then
    (gR h3 v0 [12] 12).bind fun t5 =>
    (iS h3 t5 v1 2).bind fun h6 =>
    (gR h6 v0 [12] 15).bind fun t7 =>
    (iS h6 t7 v1 v2).bind fun h8 =>
    (gR h8 v0 [12] 16).bind fun t9 =>
    (iS h8 t9 v1 v3).bind fun h10 =>
    f_X12_row_b55 FU v0 v1 0 h10
    else some ((-14), h3))
    else some ((-1), h3))))
set_option maxRecDepth 100000 in
set_option maxHeartbeats 4000000 in
theorem s_X12_row {X : GX} (hX : XOK X) (v0 : Option Nat) (v1 : Int32) (v2 : Int32) (v3 : Int32) (h : AH) : Snd X yX12_row cX12_row 5 (some .int) 2 42 rI [vR v0, vI v1, vI v2, vI v3] h (f_X12_row v0 v1 v2 v3 h) := by
  refine snd_of hX (by decide +kernel) (Nat.le_of_ble_eq_true rfl) ?_
  show Gp (p_X12_row X h) RX12 "row" cX12_row (some .int) 0 [(0, vR v0), (1, vI v1), (2, vI v2), (3, vI v3)] [] h _
  unfold f_X12_row
  refine g_iload_n 1 dX12_row_0 rfl rfl ?_
  refine g_callSI (st := []) (s_X12_isShelf hX v1 h) kml_X12_246 kst_X12_isShelf kii_X12 kcd_X12_isShelf ds_X12_isShelf rfl ⟨Nat.le_of_ble_eq_true rfl, Nat.le_of_ble_eq_true rfl⟩ (Nat.le_of_ble_eq_true rfl) rfl dX12_row_1 (fun r2 h1 => ?_)
  refine g_ifeq (tgt := 22) dX12_row_4 (by decide) ?_ ?_
  · refine g_iconst (v := (-1)) dX12_row_22 (by decide) ?_
    exact g_ireturn rfl dX12_row_23
  · refine g_iload_n 2 dX12_row_7 rfl rfl ?_
    refine g_iconst (v := 0) dX12_row_8 (by decide) ?_
    refine g_iconst (v := 2) dX12_row_9 (by decide) ?_
    refine g_callSI (st := []) (s_X12_isIn hX v2 0 2 h1) kml_X12_49 kst_X12_isIn kii_X12 kcd_X12_isIn ds_X12_isIn rfl ⟨Nat.le_of_ble_eq_true rfl, Nat.le_of_ble_eq_true rfl⟩ (Nat.le_of_ble_eq_true rfl) rfl dX12_row_10 (fun r4 h3 => ?_)
    refine g_ifeq (tgt := 22) dX12_row_13 (by decide) ?_ ?_
    · refine g_iconst (v := (-1)) dX12_row_22 (by decide) ?_
      exact g_ireturn rfl dX12_row_23
    · refine g_iload_n 3 dX12_row_16 rfl rfl ?_
      refine g_bipush (v := 100) dX12_row_17 (by decide) ?_
      refine g_icmple (tgt := 24) dX12_row_19 (by decide) ?_ ?_
      · refine g_iload_n 3 dX12_row_24 rfl rfl ?_
        refine g_ifge (tgt := 31) dX12_row_25 (by decide) ?_ ?_
        · refine g_aload_n 0 dX12_row_31 rfl rfl ?_
          refine g_getR kfl_X12_31 fo_X12_kept dX12_row_32 (fun t5 => ?_)
          refine g_iload_n 1 dX12_row_35 rfl rfl ?_
          refine g_iconst (v := 2) dX12_row_36 (by decide) ?_
          refine g_iastore dX12_row_37 (fun h6 => ?_)
          refine g_aload_n 0 dX12_row_38 rfl rfl ?_
          refine g_getR kfl_X12_40 fo_X12_sort dX12_row_39 (fun t7 => ?_)
          refine g_iload_n 1 dX12_row_42 rfl rfl ?_
          refine g_iload_n 2 dX12_row_43 rfl rfl ?_
          refine g_iastore dX12_row_44 (fun h8 => ?_)
          refine g_aload_n 0 dX12_row_45 rfl rfl ?_
          refine g_getR kfl_X12_43 fo_X12_size dX12_row_46 (fun t9 => ?_)
          refine g_iload_n 1 dX12_row_49 rfl rfl ?_
          refine g_iload_n 3 dX12_row_50 rfl rfl ?_
          refine g_iastore dX12_row_51 (fun h10 => ?_)
          refine g_iconst (v := 0) dX12_row_52 (by decide) ?_
          refine g_istore (ls' := [(4, vI 0), (0, vR v0), (1, vI v1), (2, vI v2), (3, vI v3)]) dX12_row_53 (Nat.le_of_ble_eq_true rfl) rfl ?_
          exact g_sub2 [1, 2, 0] rfl (s_X12_row_b55 hX FU v0 v1 0 h10)
        · refine g_bipush (v := (-14)) dX12_row_28 (by decide) ?_
          exact g_ireturn rfl dX12_row_30
      · refine g_iconst (v := (-1)) dX12_row_22 (by decide) ?_
        exact g_ireturn rfl dX12_row_23
abbrev p_X12_sameOnes (X : GX) (h0 : AH) : PX Int32 := (X, (fun x => Sum.inl (rI x)), (2, 42, 4), h0)
def f_X12_sameOnes_b79 (k4 : Option Nat → Int32 → Int32 → AH → Option (Int32 × AH)) (k18 : Option Nat → Int32 → Int32 → Int32 → AH → Option (Int32 × AH)) (x0 : Option Nat) (x2 : Int32) (x3 : Int32) (y1 : Int32) (y0 : Int32) (h : AH) : Option (Int32 × AH) :=
    nm (y0 + y1) fun t9 =>
    k18 x0 t9 x2 (x3 + 1) h
set_option maxRecDepth 100000 in
set_option maxHeartbeats 4000000 in
theorem s_X12_sameOnes_b79 {X : GX} (hX : XOK X) {h0 : AH} (k4 : Option Nat → Int32 → Int32 → AH → Option (Int32 × AH)) (hk4 : ∀ (z0 : Option Nat) (z1 : Int32) (z2 : Int32) (h : AH), Gp (p_X12_sameOnes X h0) RX12 "sameOnes" cX12_sameOnes (some .int) 4 [(0, vR z0), (1, vI z1), (2, vI z2)] [] h (k4 z0 z1 z2 h)) (k18 : Option Nat → Int32 → Int32 → Int32 → AH → Option (Int32 × AH)) (hk18 : ∀ (z0 : Option Nat) (z1 : Int32) (z2 : Int32) (z3 : Int32) (h : AH), Gp (p_X12_sameOnes X h0) RX12 "sameOnes" cX12_sameOnes (some .int) 18 [(0, vR z0), (1, vI z1), (2, vI z2), (3, vI z3)] [] h (k18 z0 z1 z2 z3 h)) : ∀ (x0 : Option Nat) (x2 : Int32) (x3 : Int32) (y1 : Int32) (y0 : Int32) (h : AH), Gp (p_X12_sameOnes X h0) RX12 "sameOnes" cX12_sameOnes (some .int) 79 [(0, vR x0), (2, vI x2), (3, vI x3)] [vI y1, vI y0] h (f_X12_sameOnes_b79 k4 k18 x0 x2 x3 y1 y0 h) := by
  intro x0 x2 x3 y1 y0 h
  unfold f_X12_sameOnes_b79
  refine g_iadd dX12_sameOnes_79 ?_
  refine g_nmI (fun t9 => ?_)
  refine g_istore_n (ls' := [(1, vI t9), (0, vR x0), (2, vI x2), (3, vI x3)]) dX12_sameOnes_80 rfl (Nat.le_of_ble_eq_true rfl) rfl ?_
  refine g_iinc 3 (v := (x3 + 1)) (ls' := [(3, vI ((x3 + 1))), (1, vI t9), (0, vR x0), (2, vI x2)]) dX12_sameOnes_81 rfl rfl (Nat.le_of_ble_eq_true rfl) rfl ?_
  refine g_goto (tgt := 18) dX12_sameOnes_84 (by decide) ?_
  exact g_sub2 [2, 1, 3, 0] rfl (hk18 x0 t9 x2 (x3 + 1) h)
def f_X12_sameOnes_b78 (k4 : Option Nat → Int32 → Int32 → AH → Option (Int32 × AH)) (k18 : Option Nat → Int32 → Int32 → Int32 → AH → Option (Int32 × AH)) (x0 : Option Nat) (x2 : Int32) (x3 : Int32) (y0 : Int32) (h : AH) : Option (Int32 × AH) :=
    f_X12_sameOnes_b79 k4 k18 x0 x2 x3 0 y0 h
set_option maxRecDepth 100000 in
set_option maxHeartbeats 4000000 in
theorem s_X12_sameOnes_b78 {X : GX} (hX : XOK X) {h0 : AH} (k4 : Option Nat → Int32 → Int32 → AH → Option (Int32 × AH)) (hk4 : ∀ (z0 : Option Nat) (z1 : Int32) (z2 : Int32) (h : AH), Gp (p_X12_sameOnes X h0) RX12 "sameOnes" cX12_sameOnes (some .int) 4 [(0, vR z0), (1, vI z1), (2, vI z2)] [] h (k4 z0 z1 z2 h)) (k18 : Option Nat → Int32 → Int32 → Int32 → AH → Option (Int32 × AH)) (hk18 : ∀ (z0 : Option Nat) (z1 : Int32) (z2 : Int32) (z3 : Int32) (h : AH), Gp (p_X12_sameOnes X h0) RX12 "sameOnes" cX12_sameOnes (some .int) 18 [(0, vR z0), (1, vI z1), (2, vI z2), (3, vI z3)] [] h (k18 z0 z1 z2 z3 h)) : ∀ (x0 : Option Nat) (x2 : Int32) (x3 : Int32) (y0 : Int32) (h : AH), Gp (p_X12_sameOnes X h0) RX12 "sameOnes" cX12_sameOnes (some .int) 78 [(0, vR x0), (2, vI x2), (3, vI x3)] [vI y0] h (f_X12_sameOnes_b78 k4 k18 x0 x2 x3 y0 h) := by
  intro x0 x2 x3 y0 h
  unfold f_X12_sameOnes_b78
  refine g_iconst (v := 0) dX12_sameOnes_78 (by decide) ?_
  exact g_sub2 [0, 1, 2] rfl (s_X12_sameOnes_b79 hX k4 (fun z0 z1 z2 z3 => hk4 z0 z1 z2 z3) k18 (fun z0 z1 z2 z3 z4 => hk18 z0 z1 z2 z3 z4) x0 x2 x3 0 y0 h)
def f_X12_sameOnes_b18 (k4 : Option Nat → Int32 → Int32 → AH → Option (Int32 × AH)) : Nat → Option Nat → Int32 → Int32 → Int32 → AH → Option (Int32 × AH)
  | 0 => fun _ _ _ _ _ => none
  | n + 1 => fun x0 x1 x2 x3 h =>
    (gR h x0 [12] 0).bind fun t4 =>
    (iA h t4 0).bind fun t5 =>
    (if t5 ≤ x3 then
    k4 x0 x1 (x2 + 1) h
    else (gR h x0 [12] 0).bind fun t6 =>
    bd (f_X12_isHere t6 x2 h) fun r8 h7 =>
    (if r8 = 0 then
    f_X12_sameOnes_b78 k4 (f_X12_sameOnes_b18 k4 n) x0 x2 x3 x1 h7
    else (gR h7 x0 [12] 0).bind fun t10 =>
    bd (f_X12_isHere t10 x3 h7) fun r12 h11 =>
    (if r12 = 0 then
    f_X12_sameOnes_b78 k4 (f_X12_sameOnes_b18 k4 n) x0 x2 x3 x1 h11
    else (gR h11 x0 [12] 0).bind fun t13 =>
    bd (f_X12_of x2 2 h11) fun r15 h14 =>
    (iA h14 t13 r15).bind fun t16 =>
    (gR h14 x0 [12] 0).bind fun t17 =>
    bd (f_X12_of x3 2 h14) fun r19 h18 =>
    (iA h18 t17 r19).bind fun t20 =>
    (if t16 = t20 then
    f_X12_sameOnes_b79 k4 (f_X12_sameOnes_b18 k4 n) x0 x2 x3 1 x1 h18
    else f_X12_sameOnes_b78 k4 (f_X12_sameOnes_b18 k4 n) x0 x2 x3 x1 h18))))
set_option maxRecDepth 100000 in
set_option maxHeartbeats 4000000 in
theorem s_X12_sameOnes_b18 {X : GX} (hX : XOK X) {h0 : AH} (k4 : Option Nat → Int32 → Int32 → AH → Option (Int32 × AH)) (hk4 : ∀ (z0 : Option Nat) (z1 : Int32) (z2 : Int32) (h : AH), Gp (p_X12_sameOnes X h0) RX12 "sameOnes" cX12_sameOnes (some .int) 4 [(0, vR z0), (1, vI z1), (2, vI z2)] [] h (k4 z0 z1 z2 h)) : ∀ (n : Nat) (x0 : Option Nat) (x1 : Int32) (x2 : Int32) (x3 : Int32) (h : AH), Gp (p_X12_sameOnes X h0) RX12 "sameOnes" cX12_sameOnes (some .int) 18 [(0, vR x0), (1, vI x1), (2, vI x2), (3, vI x3)] [] h (f_X12_sameOnes_b18 k4 n x0 x1 x2 x3 h) := by
  intro n
  induction n with
  | zero => intro x0 x1 x2 x3 h; exact g_none
  | succ n ih =>
    intro x0 x1 x2 x3 h
    rw [f_X12_sameOnes_b18]
    refine g_iload_n 3 dX12_sameOnes_18 rfl rfl ?_
    refine g_aload_n 0 dX12_sameOnes_19 rfl rfl ?_
    refine g_getR kfl_X12_9 fo_X12_s dX12_sameOnes_20 (fun t4 => ?_)
    refine g_iconst (v := 0) dX12_sameOnes_23 (by decide) ?_
    refine g_iaload dX12_sameOnes_24 (fun t5 => ?_)
    refine g_icmpge (tgt := 87) dX12_sameOnes_25 (by decide) ?_ ?_
    · refine g_iinc 2 (v := (x2 + 1)) (ls' := [(2, vI ((x2 + 1))), (0, vR x0), (1, vI x1), (3, vI x3)]) dX12_sameOnes_87 rfl rfl (Nat.le_of_ble_eq_true rfl) rfl ?_
      refine g_goto (tgt := 4) dX12_sameOnes_90 (by decide) ?_
      exact g_sub2 [1, 2, 0] rfl (hk4 x0 x1 (x2 + 1) h)
    · refine g_iload_n 1 dX12_sameOnes_28 rfl rfl ?_
      refine g_aload_n 0 dX12_sameOnes_29 rfl rfl ?_
      refine g_getR kfl_X12_9 fo_X12_s dX12_sameOnes_30 (fun t6 => ?_)
      refine g_iload_n 2 dX12_sameOnes_33 rfl rfl ?_
      refine g_callSI (st := [vI x1]) (s_X12_isHere hX t6 x2 h) kml_X12_61 kst_X12_isHere kii_X12 kcd_X12_isHere ds_X12_isHere rfl ⟨Nat.le_of_ble_eq_true rfl, Nat.le_of_ble_eq_true rfl⟩ (Nat.le_of_ble_eq_true rfl) rfl dX12_sameOnes_34 (fun r8 h7 => ?_)
      refine g_ifeq (tgt := 78) dX12_sameOnes_37 (by decide) ?_ ?_
      · exact g_sub2 [0, 2, 3] rfl (s_X12_sameOnes_b78 hX k4 (fun z0 z1 z2 z3 => hk4 z0 z1 z2 z3) (f_X12_sameOnes_b18 k4 n) (fun z0 z1 z2 z3 z4 => ih z0 z1 z2 z3 z4) x0 x2 x3 x1 h7)
      · refine g_aload_n 0 dX12_sameOnes_40 rfl rfl ?_
        refine g_getR kfl_X12_9 fo_X12_s dX12_sameOnes_41 (fun t10 => ?_)
        refine g_iload_n 3 dX12_sameOnes_44 rfl rfl ?_
        refine g_callSI (st := [vI x1]) (s_X12_isHere hX t10 x3 h7) kml_X12_61 kst_X12_isHere kii_X12 kcd_X12_isHere ds_X12_isHere rfl ⟨Nat.le_of_ble_eq_true rfl, Nat.le_of_ble_eq_true rfl⟩ (Nat.le_of_ble_eq_true rfl) rfl dX12_sameOnes_45 (fun r12 h11 => ?_)
        refine g_ifeq (tgt := 78) dX12_sameOnes_48 (by decide) ?_ ?_
        · exact g_sub2 [0, 2, 3] rfl (s_X12_sameOnes_b78 hX k4 (fun z0 z1 z2 z3 => hk4 z0 z1 z2 z3) (f_X12_sameOnes_b18 k4 n) (fun z0 z1 z2 z3 z4 => ih z0 z1 z2 z3 z4) x0 x2 x3 x1 h11)
        · refine g_aload_n 0 dX12_sameOnes_51 rfl rfl ?_
          refine g_getR kfl_X12_9 fo_X12_s dX12_sameOnes_52 (fun t13 => ?_)
          refine g_iload_n 2 dX12_sameOnes_55 rfl rfl ?_
          refine g_iconst (v := 2) dX12_sameOnes_56 (by decide) ?_
          refine g_callSI (st := [vR t13, vI x1]) (s_X12_of hX x2 2 h11) kml_X12_53 kst_X12_of kii_X12 kcd_X12_of ds_X12_of rfl ⟨Nat.le_of_ble_eq_true rfl, Nat.le_of_ble_eq_true rfl⟩ (Nat.le_of_ble_eq_true rfl) rfl dX12_sameOnes_57 (fun r15 h14 => ?_)
          refine g_iaload dX12_sameOnes_60 (fun t16 => ?_)
          refine g_aload_n 0 dX12_sameOnes_61 rfl rfl ?_
          refine g_getR kfl_X12_9 fo_X12_s dX12_sameOnes_62 (fun t17 => ?_)
          refine g_iload_n 3 dX12_sameOnes_65 rfl rfl ?_
          refine g_iconst (v := 2) dX12_sameOnes_66 (by decide) ?_
          refine g_callSI (st := [vR t17, vI t16, vI x1]) (s_X12_of hX x3 2 h14) kml_X12_53 kst_X12_of kii_X12 kcd_X12_of ds_X12_of rfl ⟨Nat.le_of_ble_eq_true rfl, Nat.le_of_ble_eq_true rfl⟩ (Nat.le_of_ble_eq_true rfl) rfl dX12_sameOnes_67 (fun r19 h18 => ?_)
          refine g_iaload dX12_sameOnes_70 (fun t20 => ?_)
          refine g_icmpne (tgt := 78) dX12_sameOnes_71 (by decide) ?_ ?_
          · exact g_sub2 [0, 2, 3] rfl (s_X12_sameOnes_b78 hX k4 (fun z0 z1 z2 z3 => hk4 z0 z1 z2 z3) (f_X12_sameOnes_b18 k4 n) (fun z0 z1 z2 z3 z4 => ih z0 z1 z2 z3 z4) x0 x2 x3 x1 h18)
          · refine g_iconst (v := 1) dX12_sameOnes_74 (by decide) ?_
            refine g_goto (tgt := 79) dX12_sameOnes_75 (by decide) ?_
            exact g_sub2 [0, 2, 3] rfl (s_X12_sameOnes_b79 hX k4 (fun z0 z1 z2 z3 => hk4 z0 z1 z2 z3) (f_X12_sameOnes_b18 k4 n) (fun z0 z1 z2 z3 z4 => ih z0 z1 z2 z3 z4) x0 x2 x3 1 x1 h18)
def f_X12_sameOnes_b4 : Nat → Option Nat → Int32 → Int32 → AH → Option (Int32 × AH)
  | 0 => fun _ _ _ _ => none
  | n + 1 => fun x0 x1 x2 h =>
    (gR h x0 [12] 0).bind fun t1 =>
    (iA h t1 0).bind fun t2 =>
    (if t2 ≤ x2 then
    some (x1, h)
    else nm (x2 + 1) fun t3 =>
    f_X12_sameOnes_b18 (f_X12_sameOnes_b4 n) FU x0 x1 x2 t3 h)
set_option maxRecDepth 100000 in
set_option maxHeartbeats 4000000 in
theorem s_X12_sameOnes_b4 {X : GX} (hX : XOK X) {h0 : AH} : ∀ (n : Nat) (x0 : Option Nat) (x1 : Int32) (x2 : Int32) (h : AH), Gp (p_X12_sameOnes X h0) RX12 "sameOnes" cX12_sameOnes (some .int) 4 [(0, vR x0), (1, vI x1), (2, vI x2)] [] h (f_X12_sameOnes_b4 n x0 x1 x2 h) := by
  intro n
  induction n with
  | zero => intro x0 x1 x2 h; exact g_none
  | succ n ih =>
    intro x0 x1 x2 h
    rw [f_X12_sameOnes_b4]
    refine g_iload_n 2 dX12_sameOnes_4 rfl rfl ?_
    refine g_aload_n 0 dX12_sameOnes_5 rfl rfl ?_
    refine g_getR kfl_X12_9 fo_X12_s dX12_sameOnes_6 (fun t1 => ?_)
    refine g_iconst (v := 0) dX12_sameOnes_9 (by decide) ?_
    refine g_iaload dX12_sameOnes_10 (fun t2 => ?_)
    refine g_icmpge (tgt := 93) dX12_sameOnes_11 (by decide) ?_ ?_
    · refine g_iload_n 1 dX12_sameOnes_93 rfl rfl ?_
      exact g_ireturn rfl dX12_sameOnes_94
    · refine g_iload_n 2 dX12_sameOnes_14 rfl rfl ?_
      refine g_iconst (v := 1) dX12_sameOnes_15 (by decide) ?_
      refine g_iadd dX12_sameOnes_16 ?_
      refine g_nmI (fun t3 => ?_)
      refine g_istore_n (ls' := [(3, vI t3), (0, vR x0), (1, vI x1), (2, vI x2)]) dX12_sameOnes_17 rfl (Nat.le_of_ble_eq_true rfl) rfl ?_
      exact g_sub2 [1, 2, 3, 0] rfl (s_X12_sameOnes_b18 hX (f_X12_sameOnes_b4 n) (fun z0 z1 z2 z3 => ih z0 z1 z2 z3) FU x0 x1 x2 t3 h)
def f_X12_sameOnes (v0 : Option Nat) (h : AH) : Option (Int32 × AH) :=
    f_X12_sameOnes_b4 FU v0 0 0 h
set_option maxRecDepth 100000 in
set_option maxHeartbeats 4000000 in
theorem s_X12_sameOnes {X : GX} (hX : XOK X) (v0 : Option Nat) (h : AH) : Snd X yX12_sameOnes cX12_sameOnes 4 (some .int) 2 42 rI [vR v0] h (f_X12_sameOnes v0 h) := by
  refine snd_of hX (by decide +kernel) (Nat.le_of_ble_eq_true rfl) ?_
  show Gp (p_X12_sameOnes X h) RX12 "sameOnes" cX12_sameOnes (some .int) 0 [(0, vR v0)] [] h _
  unfold f_X12_sameOnes
  refine g_iconst (v := 0) dX12_sameOnes_0 (by decide) ?_
  refine g_istore_n (ls' := [(1, vI 0), (0, vR v0)]) dX12_sameOnes_1 rfl (Nat.le_of_ble_eq_true rfl) rfl ?_
  refine g_iconst (v := 0) dX12_sameOnes_2 (by decide) ?_
  refine g_istore_n (ls' := [(2, vI 0), (1, vI 0), (0, vR v0)]) dX12_sameOnes_3 rfl (Nat.le_of_ble_eq_true rfl) rfl ?_
  exact g_sub2 [2, 1, 0] rfl (s_X12_sameOnes_b4 hX FU v0 0 0 h)
abbrev p_X12_seasons (X : GX) (h0 : AH) : PX Int32 := (X, (fun x => Sum.inl (rI x)), (5, 108, 7), h0)
def f_X12_seasons_b139 (k32 : Option Nat → Int32 → Int32 → Int32 → Int32 → AH → Option (Int32 × AH)) (x0 : Option Nat) (x1 : Int32) (x3 : Int32) (x5 : Int32) (y1 : Int32) (y0 : Int32) (h : AH) : Option (Int32 × AH) :=
    nm (y0 + y1) fun t20 =>
    k32 x0 x1 x3 t20 (x5 + 1) h
set_option maxRecDepth 100000 in
set_option maxHeartbeats 4000000 in
theorem s_X12_seasons_b139 {X : GX} (hX : XOK X) {h0 : AH} (k32 : Option Nat → Int32 → Int32 → Int32 → Int32 → AH → Option (Int32 × AH)) (hk32 : ∀ (z0 : Option Nat) (z1 : Int32) (z2 : Int32) (z3 : Int32) (z4 : Int32) (h : AH), Gp (p_X12_seasons X h0) RX12 "seasons" cX12_seasons (some .int) 32 [(0, vR z0), (1, vI z1), (3, vI z2), (4, vI z3), (5, vI z4)] [] h (k32 z0 z1 z2 z3 z4 h)) : ∀ (x0 : Option Nat) (x1 : Int32) (x3 : Int32) (x5 : Int32) (y1 : Int32) (y0 : Int32) (h : AH), Gp (p_X12_seasons X h0) RX12 "seasons" cX12_seasons (some .int) 139 [(0, vR x0), (1, vI x1), (3, vI x3), (5, vI x5)] [vI y1, vI y0] h (f_X12_seasons_b139 k32 x0 x1 x3 x5 y1 y0 h) := by
  intro x0 x1 x3 x5 y1 y0 h
  unfold f_X12_seasons_b139
  refine g_iadd dX12_seasons_139 ?_
  refine g_nmI (fun t20 => ?_)
  refine g_istore (ls' := [(4, vI t20), (0, vR x0), (1, vI x1), (3, vI x3), (5, vI x5)]) dX12_seasons_140 (Nat.le_of_ble_eq_true rfl) rfl ?_
  refine g_iinc 4 (v := (x5 + 1)) (ls' := [(5, vI ((x5 + 1))), (4, vI t20), (0, vR x0), (1, vI x1), (3, vI x3)]) dX12_seasons_142 rfl rfl (Nat.le_of_ble_eq_true rfl) rfl ?_
  refine g_goto (tgt := 32) dX12_seasons_145 (by decide) ?_
  exact g_sub2 [2, 3, 4, 1, 0] rfl (hk32 x0 x1 x3 t20 (x5 + 1) h)
def f_X12_seasons_b52 (k32 : Option Nat → Int32 → Int32 → Int32 → Int32 → AH → Option (Int32 × AH)) : Nat → Option Nat → Int32 → Int32 → Int32 → Int32 → Int32 → AH → Option (Int32 × AH)
  | 0 => fun _ _ _ _ _ _ _ => none
  | n + 1 => fun x0 x1 x3 x4 x5 x6 h =>
    (gR h x0 [12] 0).bind fun t10 =>
    (iA h t10 0).bind fun t11 =>
    (if t11 ≤ x6 then
    (gR h x0 [12] 1).bind fun t12 =>
    bd (f_X12_daysOn t12 9 h) fun u14 h13 =>
    (if x3 = 0 then
    (gR h13 x0 [12] 1).bind fun t21 =>
    (iA h13 t21 2).bind fun t22 =>
    (gR h13 x0 [12] 0).bind fun t23 =>
    (iA h13 t23 2).bind fun t24 =>
    f_X12_seasons_b139 k32 x0 x1 x3 x5 (t22 - t24) x4 h13
    else (gR h13 x0 [12] 1).bind fun t15 =>
    bd (f_X12_hereIn t15 h13) fun r17 h16 =>
    bd (f_X12_bits r17 h16) fun r19 h18 =>
    f_X12_seasons_b139 k32 x0 x1 x3 x5 r19 x4 h18)
    else (gR h x0 [12] 0).bind fun t25 =>
    bd (f_X12_isHere t25 x6 h) fun r27 h26 =>
    (if r27 = 0 then
    f_X12_seasons_b52 k32 n x0 x1 x3 x4 x5 (x6 + 1) h26
    else (gR h26 x0 [12] 1).bind fun t28 =>
    bd (f_X12_of x6 2 h26) fun r30 h29 =>
    bd (cv h29 x0 12 (f_X12_drawn x0 100 h29)) fun r32 h31 =>
    (iS h31 t28 r30 r32).bind fun h33 =>
    f_X12_seasons_b52 k32 n x0 x1 x3 x4 x5 (x6 + 1) h33))
set_option maxRecDepth 100000 in
set_option maxHeartbeats 4000000 in
theorem s_X12_seasons_b52 {X : GX} (hX : XOK X) {h0 : AH} (k32 : Option Nat → Int32 → Int32 → Int32 → Int32 → AH → Option (Int32 × AH)) (hk32 : ∀ (z0 : Option Nat) (z1 : Int32) (z2 : Int32) (z3 : Int32) (z4 : Int32) (h : AH), Gp (p_X12_seasons X h0) RX12 "seasons" cX12_seasons (some .int) 32 [(0, vR z0), (1, vI z1), (3, vI z2), (4, vI z3), (5, vI z4)] [] h (k32 z0 z1 z2 z3 z4 h)) : ∀ (n : Nat) (x0 : Option Nat) (x1 : Int32) (x3 : Int32) (x4 : Int32) (x5 : Int32) (x6 : Int32) (h : AH), Gp (p_X12_seasons X h0) RX12 "seasons" cX12_seasons (some .int) 52 [(0, vR x0), (1, vI x1), (3, vI x3), (4, vI x4), (5, vI x5), (6, vI x6)] [] h (f_X12_seasons_b52 k32 n x0 x1 x3 x4 x5 x6 h) := by
  intro n
  induction n with
  | zero => intro x0 x1 x3 x4 x5 x6 h; exact g_none
  | succ n ih =>
    intro x0 x1 x3 x4 x5 x6 h
    rw [f_X12_seasons_b52]
    refine g_iload 5 dX12_seasons_52 rfl ?_
    refine g_aload_n 0 dX12_seasons_54 rfl rfl ?_
    refine g_getR kfl_X12_9 fo_X12_s dX12_seasons_55 (fun t10 => ?_)
    refine g_iconst (v := 0) dX12_seasons_58 (by decide) ?_
    refine g_iaload dX12_seasons_59 (fun t11 => ?_)
    refine g_icmpge (tgt := 98) dX12_seasons_60 (by decide) ?_ ?_
    · refine g_aload_n 0 dX12_seasons_98 rfl rfl ?_
      refine g_getR kfl_X12_13 fo_X12_m dX12_seasons_99 (fun t12 => ?_)
      refine g_bipush (v := 9) dX12_seasons_102 (by decide) ?_
      refine g_callSU (st := []) (s_X12_daysOn hX t12 9 h) kml_X12_131 kst_X12_daysOn kii_X12 kcd_X12_daysOn ds_X12_daysOn rfl ⟨Nat.le_of_ble_eq_true rfl, Nat.le_of_ble_eq_true rfl⟩ (Nat.le_of_ble_eq_true rfl) rfl dX12_seasons_104 (fun u14 h13 => ?_)
      refine g_iload 3 dX12_seasons_107 rfl ?_
      refine g_iload_n 2 dX12_seasons_109 rfl rfl ?_
      refine g_ifne (tgt := 129) dX12_seasons_110 (by decide) ?_ ?_
      · refine g_aload_n 0 dX12_seasons_129 rfl rfl ?_
        refine g_getR kfl_X12_13 fo_X12_m dX12_seasons_130 (fun t15 => ?_)
        refine g_callSI (st := [vI x4]) (s_X12_hereIn hX t15 h13) kml_X12_162 kst_X12_hereIn kii_X12 kcd_X12_hereIn ds_X12_hereIn rfl ⟨Nat.le_of_ble_eq_true rfl, Nat.le_of_ble_eq_true rfl⟩ (Nat.le_of_ble_eq_true rfl) rfl dX12_seasons_133 (fun r17 h16 => ?_)
        refine g_callSI (st := [vI x4]) (s_X12_bits hX r17 h16) kml_X12_236 kst_X12_bits kii_X12 kcd_X12_bits ds_X12_bits rfl ⟨Nat.le_of_ble_eq_true rfl, Nat.le_of_ble_eq_true rfl⟩ (Nat.le_of_ble_eq_true rfl) rfl dX12_seasons_136 (fun r19 h18 => ?_)
        exact g_sub2 [0, 1, 2, 4] rfl (s_X12_seasons_b139 hX k32 (fun z0 z1 z2 z3 z4 z5 => hk32 z0 z1 z2 z3 z4 z5) x0 x1 x3 x5 r19 x4 h18)
      · refine g_aload_n 0 dX12_seasons_113 rfl rfl ?_
        refine g_getR kfl_X12_13 fo_X12_m dX12_seasons_114 (fun t21 => ?_)
        refine g_iconst (v := 2) dX12_seasons_117 (by decide) ?_
        refine g_iaload dX12_seasons_118 (fun t22 => ?_)
        refine g_aload_n 0 dX12_seasons_119 rfl rfl ?_
        refine g_getR kfl_X12_9 fo_X12_s dX12_seasons_120 (fun t23 => ?_)
        refine g_iconst (v := 2) dX12_seasons_123 (by decide) ?_
        refine g_iaload dX12_seasons_124 (fun t24 => ?_)
        refine g_isub dX12_seasons_125 ?_
        refine g_goto (tgt := 139) dX12_seasons_126 (by decide) ?_
        exact g_sub2 [0, 1, 2, 4] rfl (s_X12_seasons_b139 hX k32 (fun z0 z1 z2 z3 z4 z5 => hk32 z0 z1 z2 z3 z4 z5) x0 x1 x3 x5 (t22 - t24) x4 h13)
    · refine g_aload_n 0 dX12_seasons_63 rfl rfl ?_
      refine g_getR kfl_X12_9 fo_X12_s dX12_seasons_64 (fun t25 => ?_)
      refine g_iload 5 dX12_seasons_67 rfl ?_
      refine g_callSI (st := []) (s_X12_isHere hX t25 x6 h) kml_X12_61 kst_X12_isHere kii_X12 kcd_X12_isHere ds_X12_isHere rfl ⟨Nat.le_of_ble_eq_true rfl, Nat.le_of_ble_eq_true rfl⟩ (Nat.le_of_ble_eq_true rfl) rfl dX12_seasons_69 (fun r27 h26 => ?_)
      refine g_ifeq (tgt := 92) dX12_seasons_72 (by decide) ?_ ?_
      · refine g_iinc 5 (v := (x6 + 1)) (ls' := [(6, vI ((x6 + 1))), (0, vR x0), (1, vI x1), (3, vI x3), (4, vI x4), (5, vI x5)]) dX12_seasons_92 rfl rfl (Nat.le_of_ble_eq_true rfl) rfl ?_
        refine g_goto (tgt := 52) dX12_seasons_95 (by decide) ?_
        exact g_sub2 [1, 2, 3, 4, 5, 0] rfl (ih x0 x1 x3 x4 x5 (x6 + 1) h26)
      · refine g_aload_n 0 dX12_seasons_75 rfl rfl ?_
        refine g_getR kfl_X12_13 fo_X12_m dX12_seasons_76 (fun t28 => ?_)
        refine g_iload 5 dX12_seasons_79 rfl ?_
        refine g_iconst (v := 2) dX12_seasons_81 (by decide) ?_
        refine g_callSI (st := [vR t28]) (s_X12_of hX x6 2 h26) kml_X12_53 kst_X12_of kii_X12 kcd_X12_of ds_X12_of rfl ⟨Nat.le_of_ble_eq_true rfl, Nat.le_of_ble_eq_true rfl⟩ (Nat.le_of_ble_eq_true rfl) rfl dX12_seasons_82 (fun r30 h29 => ?_)
        refine g_aload_n 0 dX12_seasons_85 rfl rfl ?_
        refine g_bipush (v := 100) dX12_seasons_86 (by decide) ?_
        refine g_callVI (st := [vI r30, vR t28]) (ci := 12) rfl (s_X12_drawn hX x0 100 h29) kml_X12_233 kim_X12_drawn kse_X12_drawn kii_X12 kcd_X12_drawn rfl ds_X12_drawn rfl ⟨Nat.le_of_ble_eq_true rfl, Nat.le_of_ble_eq_true rfl⟩ (Nat.le_of_ble_eq_true rfl) rfl dX12_seasons_88 (fun r32 h31 => ?_)
        refine g_iastore dX12_seasons_91 (fun h33 => ?_)
        refine g_iinc 5 (v := (x6 + 1)) (ls' := [(6, vI ((x6 + 1))), (0, vR x0), (1, vI x1), (3, vI x3), (4, vI x4), (5, vI x5)]) dX12_seasons_92 rfl rfl (Nat.le_of_ble_eq_true rfl) rfl ?_
        refine g_goto (tgt := 52) dX12_seasons_95 (by decide) ?_
        exact g_sub2 [1, 2, 3, 4, 5, 0] rfl (ih x0 x1 x3 x4 x5 (x6 + 1) h33)
def f_X12_seasons_b32 : Nat → Option Nat → Int32 → Int32 → Int32 → Int32 → AH → Option (Int32 × AH)
  | 0 => fun _ _ _ _ _ _ => none
  | n + 1 => fun x0 x1 x3 x4 x5 h =>
    (if x1 ≤ x5 then
    some (x4, h)
    else (gR h x0 [12] 0).bind fun t6 =>
    (gR h x0 [12] 1).bind fun t7 =>
    bd (f_X12_copies t6 t7 h) fun u9 h8 =>
    f_X12_seasons_b52 (f_X12_seasons_b32 n) FU x0 x1 x3 x4 x5 0 h8)
set_option maxRecDepth 100000 in
set_option maxHeartbeats 4000000 in
theorem s_X12_seasons_b32 {X : GX} (hX : XOK X) {h0 : AH} : ∀ (n : Nat) (x0 : Option Nat) (x1 : Int32) (x3 : Int32) (x4 : Int32) (x5 : Int32) (h : AH), Gp (p_X12_seasons X h0) RX12 "seasons" cX12_seasons (some .int) 32 [(0, vR x0), (1, vI x1), (3, vI x3), (4, vI x4), (5, vI x5)] [] h (f_X12_seasons_b32 n x0 x1 x3 x4 x5 h) := by
  intro n
  induction n with
  | zero => intro x0 x1 x3 x4 x5 h; exact g_none
  | succ n ih =>
    intro x0 x1 x3 x4 x5 h
    rw [f_X12_seasons_b32]
    refine g_iload 4 dX12_seasons_32 rfl ?_
    refine g_iload_n 1 dX12_seasons_34 rfl rfl ?_
    refine g_icmpge (tgt := 148) dX12_seasons_35 (by decide) ?_ ?_
    · refine g_iload 3 dX12_seasons_148 rfl ?_
      exact g_ireturn rfl dX12_seasons_150
    · refine g_aload_n 0 dX12_seasons_38 rfl rfl ?_
      refine g_getR kfl_X12_9 fo_X12_s dX12_seasons_39 (fun t6 => ?_)
      refine g_aload_n 0 dX12_seasons_42 rfl rfl ?_
      refine g_getR kfl_X12_13 fo_X12_m dX12_seasons_43 (fun t7 => ?_)
      refine g_callSU (st := []) (s_X12_copies hX t6 t7 h) kml_X12_141 kst_X12_copies kii_X12 kcd_X12_copies ds_X12_copies rfl ⟨Nat.le_of_ble_eq_true rfl, Nat.le_of_ble_eq_true rfl⟩ (Nat.le_of_ble_eq_true rfl) rfl dX12_seasons_46 (fun u9 h8 => ?_)
      refine g_iconst (v := 0) dX12_seasons_49 (by decide) ?_
      refine g_istore (ls' := [(6, vI 0), (0, vR x0), (1, vI x1), (3, vI x3), (4, vI x4), (5, vI x5)]) dX12_seasons_50 (Nat.le_of_ble_eq_true rfl) rfl ?_
      exact g_sub2 [1, 2, 3, 4, 5, 0] rfl (s_X12_seasons_b52 hX (f_X12_seasons_b32 n) (fun z0 z1 z2 z3 z4 z5 => ih z0 z1 z2 z3 z4 z5) FU x0 x1 x3 x4 x5 0 h8)
def f_X12_seasons (v0 : Option Nat) (v1 : Int32) (v2 : Int32) (v3 : Int32) (h : AH) : Option (Int32 × AH) :=
    bd (f_X12_isIn v1 1 20 h) fun r2 h1 =>
    (if r2 = 0 then
    some ((-1), h1)
    else bd (f_X12_isIn v3 0 1 h1) fun r4 h3 =>
    (if r4 = 0 then
    some ((-1), h3)
    else (pI h3 v0 [12] 11 v2).bind fun h5 =>
    f_X12_seasons_b32 FU v0 v1 v3 0 0 h5))
set_option maxRecDepth 100000 in
set_option maxHeartbeats 4000000 in
theorem s_X12_seasons {X : GX} (hX : XOK X) (v0 : Option Nat) (v1 : Int32) (v2 : Int32) (v3 : Int32) (h : AH) : Snd X yX12_seasons cX12_seasons 7 (some .int) 5 108 rI [vR v0, vI v1, vI v2, vI v3] h (f_X12_seasons v0 v1 v2 v3 h) := by
  refine snd_of hX (by decide +kernel) (Nat.le_of_ble_eq_true rfl) ?_
  show Gp (p_X12_seasons X h) RX12 "seasons" cX12_seasons (some .int) 0 [(0, vR v0), (1, vI v1), (2, vI v2), (3, vI v3)] [] h _
  unfold f_X12_seasons
  refine g_iload_n 1 dX12_seasons_0 rfl rfl ?_
  refine g_iconst (v := 1) dX12_seasons_1 (by decide) ?_
  refine g_bipush (v := 20) dX12_seasons_2 (by decide) ?_
  refine g_callSI (st := []) (s_X12_isIn hX v1 1 20 h) kml_X12_49 kst_X12_isIn kii_X12 kcd_X12_isIn ds_X12_isIn rfl ⟨Nat.le_of_ble_eq_true rfl, Nat.le_of_ble_eq_true rfl⟩ (Nat.le_of_ble_eq_true rfl) rfl dX12_seasons_4 (fun r2 h1 => ?_)
  refine g_ifeq (tgt := 19) dX12_seasons_7 (by decide) ?_ ?_
  · refine g_iconst (v := (-1)) dX12_seasons_19 (by decide) ?_
    exact g_ireturn rfl dX12_seasons_20
  · refine g_iload_n 3 dX12_seasons_10 rfl rfl ?_
    refine g_iconst (v := 0) dX12_seasons_11 (by decide) ?_
    refine g_iconst (v := 1) dX12_seasons_12 (by decide) ?_
    refine g_callSI (st := []) (s_X12_isIn hX v3 0 1 h1) kml_X12_49 kst_X12_isIn kii_X12 kcd_X12_isIn ds_X12_isIn rfl ⟨Nat.le_of_ble_eq_true rfl, Nat.le_of_ble_eq_true rfl⟩ (Nat.le_of_ble_eq_true rfl) rfl dX12_seasons_13 (fun r4 h3 => ?_)
    refine g_ifne (tgt := 21) dX12_seasons_16 (by decide) ?_ ?_
    · refine g_aload_n 0 dX12_seasons_21 rfl rfl ?_
      refine g_iload_n 2 dX12_seasons_22 rfl rfl ?_
      refine g_putI kfl_X12_227 fo_X12_seed pd_I nI'.1 nI'.2 dX12_seasons_23 (fun h5 => ?_)
      refine g_iconst (v := 0) dX12_seasons_26 (by decide) ?_
      refine g_istore (ls' := [(4, vI 0), (0, vR v0), (1, vI v1), (2, vI v2), (3, vI v3)]) dX12_seasons_27 (Nat.le_of_ble_eq_true rfl) rfl ?_
      refine g_iconst (v := 0) dX12_seasons_29 (by decide) ?_
      refine g_istore (ls' := [(5, vI 0), (4, vI 0), (0, vR v0), (1, vI v1), (2, vI v2), (3, vI v3)]) dX12_seasons_30 (Nat.le_of_ble_eq_true rfl) rfl ?_
      exact g_sub2 [2, 3, 5, 1, 0] rfl (s_X12_seasons_b32 hX FU v0 v1 v3 0 0 h5)
    · refine g_iconst (v := (-1)) dX12_seasons_19 (by decide) ?_
      exact g_ireturn rfl dX12_seasons_20
abbrev p_X12_table (X : GX) (h0 : AH) : PX Int32 := (X, (fun x => Sum.inl (rI x)), (1, 22, 4), h0)
def f_X12_table (v0 : Option Nat) (v1 : Int32) (v2 : Int32) (h : AH) : Option (Int32 × AH) :=
    bd (f_X12_isIn v1 0 9 h) fun r2 h1 =>
    (if r2 = 0 then
    some ((-1), h1)
    else bd (f_X12_isIn v2 0 9 h1) fun r4 h3 =>
    (if r4 = 0 then
    some ((-1), h3)
    else (gR h3 v0 [12] 0).bind fun t5 =>
    (iA h3 t5 3).bind fun t6 =>
    (gR h3 v0 [12] 0).bind fun t7 =>
    (iA h3 t7 4).bind fun t8 =>
    nm ((10 * t6) + t8) fun t9 =>
    (gR h3 v0 [12] 0).bind fun t10 =>
    (iS h3 t10 3 v1).bind fun h11 =>
    (gR h11 v0 [12] 0).bind fun t12 =>
    (iS h11 t12 4 v2).bind fun h13 =>
    some (t9, h13)))
set_option maxRecDepth 100000 in
set_option maxHeartbeats 4000000 in
theorem s_X12_table {X : GX} (hX : XOK X) (v0 : Option Nat) (v1 : Int32) (v2 : Int32) (h : AH) : Snd X yX12_table cX12_table 4 (some .int) 1 22 rI [vR v0, vI v1, vI v2] h (f_X12_table v0 v1 v2 h) := by
  refine snd_of hX (by decide +kernel) (Nat.le_of_ble_eq_true rfl) ?_
  show Gp (p_X12_table X h) RX12 "table" cX12_table (some .int) 0 [(0, vR v0), (1, vI v1), (2, vI v2)] [] h _
  unfold f_X12_table
  refine g_iload_n 1 dX12_table_0 rfl rfl ?_
  refine g_iconst (v := 0) dX12_table_1 (by decide) ?_
  refine g_bipush (v := 9) dX12_table_2 (by decide) ?_
  refine g_callSI (st := []) (s_X12_isIn hX v1 0 9 h) kml_X12_49 kst_X12_isIn kii_X12 kcd_X12_isIn ds_X12_isIn rfl ⟨Nat.le_of_ble_eq_true rfl, Nat.le_of_ble_eq_true rfl⟩ (Nat.le_of_ble_eq_true rfl) rfl dX12_table_4 (fun r2 h1 => ?_)
  refine g_ifeq (tgt := 20) dX12_table_7 (by decide) ?_ ?_
  · refine g_iconst (v := (-1)) dX12_table_20 (by decide) ?_
    exact g_ireturn rfl dX12_table_21
  · refine g_iload_n 2 dX12_table_10 rfl rfl ?_
    refine g_iconst (v := 0) dX12_table_11 (by decide) ?_
    refine g_bipush (v := 9) dX12_table_12 (by decide) ?_
    refine g_callSI (st := []) (s_X12_isIn hX v2 0 9 h1) kml_X12_49 kst_X12_isIn kii_X12 kcd_X12_isIn ds_X12_isIn rfl ⟨Nat.le_of_ble_eq_true rfl, Nat.le_of_ble_eq_true rfl⟩ (Nat.le_of_ble_eq_true rfl) rfl dX12_table_14 (fun r4 h3 => ?_)
    refine g_ifne (tgt := 22) dX12_table_17 (by decide) ?_ ?_
    · refine g_bipush (v := 10) dX12_table_22 (by decide) ?_
      refine g_aload_n 0 dX12_table_24 rfl rfl ?_
      refine g_getR kfl_X12_9 fo_X12_s dX12_table_25 (fun t5 => ?_)
      refine g_iconst (v := 3) dX12_table_28 (by decide) ?_
      refine g_iaload dX12_table_29 (fun t6 => ?_)
      refine g_imul dX12_table_30 ?_
      refine g_aload_n 0 dX12_table_31 rfl rfl ?_
      refine g_getR kfl_X12_9 fo_X12_s dX12_table_32 (fun t7 => ?_)
      refine g_iconst (v := 4) dX12_table_35 (by decide) ?_
      refine g_iaload dX12_table_36 (fun t8 => ?_)
      refine g_iadd dX12_table_37 ?_
      refine g_nmI (fun t9 => ?_)
      refine g_istore_n (ls' := [(3, vI t9), (0, vR v0), (1, vI v1), (2, vI v2)]) dX12_table_38 rfl (Nat.le_of_ble_eq_true rfl) rfl ?_
      refine g_aload_n 1 dX12_table_39 rfl rfl ?_
      refine g_getR kfl_X12_9 fo_X12_s dX12_table_40 (fun t10 => ?_)
      refine g_iconst (v := 3) dX12_table_43 (by decide) ?_
      refine g_iload_n 2 dX12_table_44 rfl rfl ?_
      refine g_iastore dX12_table_45 (fun h11 => ?_)
      refine g_aload_n 1 dX12_table_46 rfl rfl ?_
      refine g_getR kfl_X12_9 fo_X12_s dX12_table_47 (fun t12 => ?_)
      refine g_iconst (v := 4) dX12_table_50 (by decide) ?_
      refine g_iload_n 3 dX12_table_51 rfl rfl ?_
      refine g_iastore dX12_table_52 (fun h13 => ?_)
      refine g_iload_n 0 dX12_table_53 rfl rfl ?_
      exact g_ireturn rfl dX12_table_54
    · refine g_iconst (v := (-1)) dX12_table_20 (by decide) ?_
      exact g_ireturn rfl dX12_table_21
abbrev p_X12_takes (X : GX) (h0 : AH) : PX Unit := (X, (fun x => Sum.inl (rU x)), (5, 108, 2), h0)
def f_X12_takes (v0 : Option Nat) (v1 : Int32) (h : AH) : Option (Unit × AH) :=
    (gR h v0 [12] 0).bind fun t1 =>
    (gR h v0 [12] 1).bind fun t2 =>
    bd (f_X12_copies t1 t2 h) fun u4 h3 =>
    (gR h3 v0 [12] 1).bind fun t5 =>
    bd (f_X12_daysOn t5 v1 h3) fun u7 h6 =>
    some ((), h6)
set_option maxRecDepth 100000 in
set_option maxHeartbeats 4000000 in
theorem s_X12_takes {X : GX} (hX : XOK X) (v0 : Option Nat) (v1 : Int32) (h : AH) : Snd X yX12_takes cX12_takes 2 none 5 108 rU [vR v0, vI v1] h (f_X12_takes v0 v1 h) := by
  refine snd_of hX (by decide +kernel) (Nat.le_of_ble_eq_true rfl) ?_
  show Gp (p_X12_takes X h) RX12 "takes" cX12_takes none 0 [(0, vR v0), (1, vI v1)] [] h _
  unfold f_X12_takes
  refine g_aload_n 0 dX12_takes_0 rfl rfl ?_
  refine g_getR kfl_X12_9 fo_X12_s dX12_takes_1 (fun t1 => ?_)
  refine g_aload_n 0 dX12_takes_4 rfl rfl ?_
  refine g_getR kfl_X12_13 fo_X12_m dX12_takes_5 (fun t2 => ?_)
  refine g_callSU (st := []) (s_X12_copies hX t1 t2 h) kml_X12_141 kst_X12_copies kii_X12 kcd_X12_copies ds_X12_copies rfl ⟨Nat.le_of_ble_eq_true rfl, Nat.le_of_ble_eq_true rfl⟩ (Nat.le_of_ble_eq_true rfl) rfl dX12_takes_8 (fun u4 h3 => ?_)
  refine g_aload_n 0 dX12_takes_11 rfl rfl ?_
  refine g_getR kfl_X12_13 fo_X12_m dX12_takes_12 (fun t5 => ?_)
  refine g_iload_n 1 dX12_takes_15 rfl rfl ?_
  refine g_callSU (st := []) (s_X12_daysOn hX t5 v1 h3) kml_X12_131 kst_X12_daysOn kii_X12 kcd_X12_daysOn ds_X12_daysOn rfl ⟨Nat.le_of_ble_eq_true rfl, Nat.le_of_ble_eq_true rfl⟩ (Nat.le_of_ble_eq_true rfl) rfl dX12_takes_16 (fun u7 h6 => ?_)
  exact g_return rfl dX12_takes_19
