abbrev p_X12_tears (X : GX) (h0 : AH) : PX Int32 := (X, (fun x => Sum.inl (rI x)), (6, 129, 5), h0)
def f_X12_tears_b115 (k33 : Option Nat → Int32 → Int32 → Int32 → Int32 → AH → Option (Int32 × AH)) (x0 : Option Nat) (x1 : Int32) (x3 : Int32) (x4 : Int32) (y1 : Int32) (y0 : Int32) (h : AH) : Option (Int32 × AH) :=
    nm (y0 ||| y1) fun t18 =>
    k33 x0 x1 t18 x3 (x4 + 1) h
set_option maxRecDepth 100000 in
set_option maxHeartbeats 4000000 in
theorem s_X12_tears_b115 {X : GX} (hX : XOK X) {h0 : AH} (k33 : Option Nat → Int32 → Int32 → Int32 → Int32 → AH → Option (Int32 × AH)) (hk33 : ∀ (z0 : Option Nat) (z1 : Int32) (z2 : Int32) (z3 : Int32) (z4 : Int32) (h : AH), Gp (p_X12_tears X h0) RX12 "tears" cX12_tears (some .int) 33 [(0, vR z0), (1, vI z1), (2, vI z2), (3, vI z3), (4, vI z4)] [] h (k33 z0 z1 z2 z3 z4 h)) : ∀ (x0 : Option Nat) (x1 : Int32) (x3 : Int32) (x4 : Int32) (y1 : Int32) (y0 : Int32) (h : AH), Gp (p_X12_tears X h0) RX12 "tears" cX12_tears (some .int) 115 [(0, vR x0), (1, vI x1), (3, vI x3), (4, vI x4)] [vI y1, vI y0] h (f_X12_tears_b115 k33 x0 x1 x3 x4 y1 y0 h) := by
  intro x0 x1 x3 x4 y1 y0 h
  unfold f_X12_tears_b115
  refine g_ior dX12_tears_115 ?_
  refine g_nmI (fun t18 => ?_)
  refine g_istore_n (ls' := [(2, vI t18), (0, vR x0), (1, vI x1), (3, vI x3), (4, vI x4)]) dX12_tears_116 rfl (Nat.le_of_ble_eq_true rfl) rfl ?_
  refine g_iinc 4 (v := (x4 + 1)) (ls' := [(4, vI ((x4 + 1))), (2, vI t18), (0, vR x0), (1, vI x1), (3, vI x3)]) dX12_tears_117 rfl rfl (Nat.le_of_ble_eq_true rfl) rfl ?_
  refine g_goto (tgt := 33) dX12_tears_120 (by decide) ?_
  exact g_sub2 [2, 3, 1, 4, 0] rfl (hk33 x0 x1 t18 x3 (x4 + 1) h)
def f_X12_tears_b114 (k33 : Option Nat → Int32 → Int32 → Int32 → Int32 → AH → Option (Int32 × AH)) (x0 : Option Nat) (x1 : Int32) (x3 : Int32) (x4 : Int32) (y0 : Int32) (h : AH) : Option (Int32 × AH) :=
    f_X12_tears_b115 k33 x0 x1 x3 x4 0 y0 h
set_option maxRecDepth 100000 in
set_option maxHeartbeats 4000000 in
theorem s_X12_tears_b114 {X : GX} (hX : XOK X) {h0 : AH} (k33 : Option Nat → Int32 → Int32 → Int32 → Int32 → AH → Option (Int32 × AH)) (hk33 : ∀ (z0 : Option Nat) (z1 : Int32) (z2 : Int32) (z3 : Int32) (z4 : Int32) (h : AH), Gp (p_X12_tears X h0) RX12 "tears" cX12_tears (some .int) 33 [(0, vR z0), (1, vI z1), (2, vI z2), (3, vI z3), (4, vI z4)] [] h (k33 z0 z1 z2 z3 z4 h)) : ∀ (x0 : Option Nat) (x1 : Int32) (x3 : Int32) (x4 : Int32) (y0 : Int32) (h : AH), Gp (p_X12_tears X h0) RX12 "tears" cX12_tears (some .int) 114 [(0, vR x0), (1, vI x1), (3, vI x3), (4, vI x4)] [vI y0] h (f_X12_tears_b114 k33 x0 x1 x3 x4 y0 h) := by
  intro x0 x1 x3 x4 y0 h
  unfold f_X12_tears_b114
  refine g_iconst (v := 0) dX12_tears_114 (by decide) ?_
  exact g_sub2 [0, 1, 2, 3] rfl (s_X12_tears_b115 hX k33 (fun z0 z1 z2 z3 z4 z5 => hk33 z0 z1 z2 z3 z4 z5) x0 x1 x3 x4 0 y0 h)
def f_X12_tears_b107 (k33 : Option Nat → Int32 → Int32 → Int32 → Int32 → AH → Option (Int32 × AH)) (x0 : Option Nat) (x1 : Int32) (x3 : Int32) (x4 : Int32) (y0 : Int32) (h : AH) : Option (Int32 × AH) :=
    f_X12_tears_b115 k33 x0 x1 x3 x4 ((1 : Int32) <<< (x4 &&& 31)) y0 h
set_option maxRecDepth 100000 in
set_option maxHeartbeats 4000000 in
theorem s_X12_tears_b107 {X : GX} (hX : XOK X) {h0 : AH} (k33 : Option Nat → Int32 → Int32 → Int32 → Int32 → AH → Option (Int32 × AH)) (hk33 : ∀ (z0 : Option Nat) (z1 : Int32) (z2 : Int32) (z3 : Int32) (z4 : Int32) (h : AH), Gp (p_X12_tears X h0) RX12 "tears" cX12_tears (some .int) 33 [(0, vR z0), (1, vI z1), (2, vI z2), (3, vI z3), (4, vI z4)] [] h (k33 z0 z1 z2 z3 z4 h)) : ∀ (x0 : Option Nat) (x1 : Int32) (x3 : Int32) (x4 : Int32) (y0 : Int32) (h : AH), Gp (p_X12_tears X h0) RX12 "tears" cX12_tears (some .int) 107 [(0, vR x0), (1, vI x1), (3, vI x3), (4, vI x4)] [vI y0] h (f_X12_tears_b107 k33 x0 x1 x3 x4 y0 h) := by
  intro x0 x1 x3 x4 y0 h
  unfold f_X12_tears_b107
  refine g_iconst (v := 1) dX12_tears_107 (by decide) ?_
  refine g_iload 3 dX12_tears_108 rfl ?_
  refine g_ishl dX12_tears_110 ?_
  refine g_goto (tgt := 115) dX12_tears_111 (by decide) ?_
  exact g_sub2 [0, 1, 2, 3] rfl (s_X12_tears_b115 hX k33 (fun z0 z1 z2 z3 z4 z5 => hk33 z0 z1 z2 z3 z4 z5) x0 x1 x3 x4 ((1 : Int32) <<< (x4 &&& 31)) y0 h)
def f_X12_tears_b33 : Nat → Option Nat → Int32 → Int32 → Int32 → Int32 → AH → Option (Int32 × AH)
  | 0 => fun _ _ _ _ _ _ => none
  | n + 1 => fun x0 x1 x2 x3 x4 h =>
    (gR h x0 [12] 0).bind fun t5 =>
    (iA h t5 0).bind fun t6 =>
    (if t6 ≤ x4 then
    (if x1 = 3 then
    some (x3, h)
    else some (x2, h))
    else (gR h x0 [12] 0).bind fun t7 =>
    bd (f_X12_isHere t7 x4 h) fun r9 h8 =>
    (if r9 = 0 then
    f_X12_tears_b33 n x0 x1 x2 x3 (x4 + 1) h8
    else (gR h8 x0 [12] 0).bind fun t10 =>
    bd (f_X12_of x4 4 h8) fun r12 h11 =>
    (iA h11 t10 r12).bind fun t13 =>
    nm (x3 + t13) fun t14 =>
    (if x1 = 0 then
    (gR h11 x0 [12] 0).bind fun t19 =>
    bd (f_X12_of x4 4 h11) fun r21 h20 =>
    (iA h20 t19 r21).bind fun t22 =>
    (if t22 = 0 then
    f_X12_tears_b107 (f_X12_tears_b33 n) x0 x1 t14 x4 x2 h20
    else f_X12_tears_b114 (f_X12_tears_b33 n) x0 x1 t14 x4 x2 h20)
    else (gR h11 x0 [12] 1).bind fun t15 =>
    bd (f_X12_isHere t15 x4 h11) fun r17 h16 =>
    (if r17 = 0 then
    f_X12_tears_b107 (f_X12_tears_b33 n) x0 x1 t14 x4 x2 h16
    else f_X12_tears_b114 (f_X12_tears_b33 n) x0 x1 t14 x4 x2 h16))))
set_option maxRecDepth 100000 in
set_option maxHeartbeats 4000000 in
theorem s_X12_tears_b33 {X : GX} (hX : XOK X) {h0 : AH} : ∀ (n : Nat) (x0 : Option Nat) (x1 : Int32) (x2 : Int32) (x3 : Int32) (x4 : Int32) (h : AH), Gp (p_X12_tears X h0) RX12 "tears" cX12_tears (some .int) 33 [(0, vR x0), (1, vI x1), (2, vI x2), (3, vI x3), (4, vI x4)] [] h (f_X12_tears_b33 n x0 x1 x2 x3 x4 h) := by
  intro n
  induction n with
  | zero => intro x0 x1 x2 x3 x4 h; exact g_none
  | succ n ih =>
    intro x0 x1 x2 x3 x4 h
    rw [f_X12_tears_b33]
    refine g_iload 4 dX12_tears_33 rfl ?_
    refine g_aload_n 0 dX12_tears_35 rfl rfl ?_
    refine g_getR kfl_X12_9 fo_X12_s dX12_tears_36 (fun t5 => ?_)
    refine g_iconst (v := 0) dX12_tears_39 (by decide) ?_
    refine g_iaload dX12_tears_40 (fun t6 => ?_)
    refine g_icmpge (tgt := 123) dX12_tears_41 (by decide) ?_ ?_
    · refine g_iload_n 1 dX12_tears_123 rfl rfl ?_
      refine g_iconst (v := 3) dX12_tears_124 (by decide) ?_
      refine g_icmpne (tgt := 132) dX12_tears_125 (by decide) ?_ ?_
      · refine g_iload_n 2 dX12_tears_132 rfl rfl ?_
        exact g_ireturn rfl dX12_tears_133
      · refine g_iload_n 3 dX12_tears_128 rfl rfl ?_
        refine g_goto (tgt := 133) dX12_tears_129 (by decide) ?_
        exact g_ireturn rfl dX12_tears_133
    · refine g_aload_n 0 dX12_tears_44 rfl rfl ?_
      refine g_getR kfl_X12_9 fo_X12_s dX12_tears_45 (fun t7 => ?_)
      refine g_iload 4 dX12_tears_48 rfl ?_
      refine g_callSI (st := []) (s_X12_isHere hX t7 x4 h) kml_X12_61 kst_X12_isHere kii_X12 kcd_X12_isHere ds_X12_isHere rfl ⟨Nat.le_of_ble_eq_true rfl, Nat.le_of_ble_eq_true rfl⟩ (Nat.le_of_ble_eq_true rfl) rfl dX12_tears_50 (fun r9 h8 => ?_)
      refine g_ifne (tgt := 59) dX12_tears_53 (by decide) ?_ ?_
      · refine g_iload_n 3 dX12_tears_59 rfl rfl ?_
        refine g_aload_n 0 dX12_tears_60 rfl rfl ?_
        refine g_getR kfl_X12_9 fo_X12_s dX12_tears_61 (fun t10 => ?_)
        refine g_iload 4 dX12_tears_64 rfl ?_
        refine g_iconst (v := 4) dX12_tears_66 (by decide) ?_
        refine g_callSI (st := [vR t10, vI x3]) (s_X12_of hX x4 4 h8) kml_X12_53 kst_X12_of kii_X12 kcd_X12_of ds_X12_of rfl ⟨Nat.le_of_ble_eq_true rfl, Nat.le_of_ble_eq_true rfl⟩ (Nat.le_of_ble_eq_true rfl) rfl dX12_tears_67 (fun r12 h11 => ?_)
        refine g_iaload dX12_tears_70 (fun t13 => ?_)
        refine g_iadd dX12_tears_71 ?_
        refine g_nmI (fun t14 => ?_)
        refine g_istore_n (ls' := [(3, vI t14), (0, vR x0), (1, vI x1), (2, vI x2), (4, vI x4)]) dX12_tears_72 rfl (Nat.le_of_ble_eq_true rfl) rfl ?_
        refine g_iload_n 3 dX12_tears_73 rfl rfl ?_
        refine g_iload_n 2 dX12_tears_74 rfl rfl ?_
        refine g_ifne (tgt := 95) dX12_tears_75 (by decide) ?_ ?_
        · refine g_aload_n 1 dX12_tears_95 rfl rfl ?_
          refine g_getR kfl_X12_13 fo_X12_m dX12_tears_96 (fun t15 => ?_)
          refine g_iload 4 dX12_tears_99 rfl ?_
          refine g_callSI (st := [vI x2]) (s_X12_isHere hX t15 x4 h11) kml_X12_61 kst_X12_isHere kii_X12 kcd_X12_isHere ds_X12_isHere rfl ⟨Nat.le_of_ble_eq_true rfl, Nat.le_of_ble_eq_true rfl⟩ (Nat.le_of_ble_eq_true rfl) rfl dX12_tears_101 (fun r17 h16 => ?_)
          refine g_ifne (tgt := 114) dX12_tears_104 (by decide) ?_ ?_
          · exact g_sub2 [1, 2, 0, 4] rfl (s_X12_tears_b114 hX (f_X12_tears_b33 n) (fun z0 z1 z2 z3 z4 z5 => ih z0 z1 z2 z3 z4 z5) x0 x1 t14 x4 x2 h16)
          · exact g_sub2 [1, 2, 0, 4] rfl (s_X12_tears_b107 hX (f_X12_tears_b33 n) (fun z0 z1 z2 z3 z4 z5 => ih z0 z1 z2 z3 z4 z5) x0 x1 t14 x4 x2 h16)
        · refine g_aload_n 1 dX12_tears_78 rfl rfl ?_
          refine g_getR kfl_X12_9 fo_X12_s dX12_tears_79 (fun t19 => ?_)
          refine g_iload 4 dX12_tears_82 rfl ?_
          refine g_iconst (v := 4) dX12_tears_84 (by decide) ?_
          refine g_callSI (st := [vR t19, vI x2]) (s_X12_of hX x4 4 h11) kml_X12_53 kst_X12_of kii_X12 kcd_X12_of ds_X12_of rfl ⟨Nat.le_of_ble_eq_true rfl, Nat.le_of_ble_eq_true rfl⟩ (Nat.le_of_ble_eq_true rfl) rfl dX12_tears_85 (fun r21 h20 => ?_)
          refine g_iaload dX12_tears_88 (fun t22 => ?_)
          refine g_ifne (tgt := 114) dX12_tears_89 (by decide) ?_ ?_
          · exact g_sub2 [1, 2, 0, 4] rfl (s_X12_tears_b114 hX (f_X12_tears_b33 n) (fun z0 z1 z2 z3 z4 z5 => ih z0 z1 z2 z3 z4 z5) x0 x1 t14 x4 x2 h20)
          · refine g_goto (tgt := 107) dX12_tears_92 (by decide) ?_
            exact g_sub2 [1, 2, 0, 4] rfl (s_X12_tears_b107 hX (f_X12_tears_b33 n) (fun z0 z1 z2 z3 z4 z5 => ih z0 z1 z2 z3 z4 z5) x0 x1 t14 x4 x2 h20)
      · refine g_goto (tgt := 117) dX12_tears_56 (by decide) ?_
        refine g_iinc 4 (v := (x4 + 1)) (ls' := [(4, vI ((x4 + 1))), (0, vR x0), (1, vI x1), (2, vI x2), (3, vI x3)]) dX12_tears_117 rfl rfl (Nat.le_of_ble_eq_true rfl) rfl ?_
        refine g_goto (tgt := 33) dX12_tears_120 (by decide) ?_
        exact g_sub2 [1, 2, 3, 4, 0] rfl (ih x0 x1 x2 x3 (x4 + 1) h8)
def f_X12_tears (v0 : Option Nat) (v1 : Int32) (h : AH) : Option (Int32 × AH) :=
    bd (f_X12_isIn v1 0 3 h) fun r2 h1 =>
    (if r2 = 0 then
    some ((-1), h1)
    else (if v1 = 1 then
    bd (cv h1 v0 12 (f_X12_sameOnes v0 h1)) fun r24 h23 =>
    some (r24, h23)
    else bd (cv h1 v0 12 (f_X12_takes v0 1 h1)) fun u4 h3 =>
    f_X12_tears_b33 FU v0 v1 0 0 0 h3))
set_option maxRecDepth 100000 in
set_option maxHeartbeats 4000000 in
theorem s_X12_tears {X : GX} (hX : XOK X) (v0 : Option Nat) (v1 : Int32) (h : AH) : Snd X yX12_tears cX12_tears 5 (some .int) 6 129 rI [vR v0, vI v1] h (f_X12_tears v0 v1 h) := by
  refine snd_of hX (by decide +kernel) (Nat.le_of_ble_eq_true rfl) ?_
  show Gp (p_X12_tears X h) RX12 "tears" cX12_tears (some .int) 0 [(0, vR v0), (1, vI v1)] [] h _
  unfold f_X12_tears
  refine g_iload_n 1 dX12_tears_0 rfl rfl ?_
  refine g_iconst (v := 0) dX12_tears_1 (by decide) ?_
  refine g_iconst (v := 3) dX12_tears_2 (by decide) ?_
  refine g_callSI (st := []) (s_X12_isIn hX v1 0 3 h) kml_X12_49 kst_X12_isIn kii_X12 kcd_X12_isIn ds_X12_isIn rfl ⟨Nat.le_of_ble_eq_true rfl, Nat.le_of_ble_eq_true rfl⟩ (Nat.le_of_ble_eq_true rfl) rfl dX12_tears_3 (fun r2 h1 => ?_)
  refine g_ifne (tgt := 11) dX12_tears_6 (by decide) ?_ ?_
  · refine g_iload_n 1 dX12_tears_11 rfl rfl ?_
    refine g_iconst (v := 1) dX12_tears_12 (by decide) ?_
    refine g_icmpne (tgt := 21) dX12_tears_13 (by decide) ?_ ?_
    · refine g_aload_n 0 dX12_tears_21 rfl rfl ?_
      refine g_iconst (v := 1) dX12_tears_22 (by decide) ?_
      refine g_callVU (st := []) (ci := 12) rfl (s_X12_takes hX v0 1 h1) kml_X12_158 kim_X12_takes kse_X12_takes kii_X12 kcd_X12_takes rfl ds_X12_takes rfl ⟨Nat.le_of_ble_eq_true rfl, Nat.le_of_ble_eq_true rfl⟩ (Nat.le_of_ble_eq_true rfl) rfl dX12_tears_23 (fun u4 h3 => ?_)
      refine g_iconst (v := 0) dX12_tears_26 (by decide) ?_
      refine g_istore_n (ls' := [(2, vI 0), (0, vR v0), (1, vI v1)]) dX12_tears_27 rfl (Nat.le_of_ble_eq_true rfl) rfl ?_
      refine g_iconst (v := 0) dX12_tears_28 (by decide) ?_
      refine g_istore_n (ls' := [(3, vI 0), (2, vI 0), (0, vR v0), (1, vI v1)]) dX12_tears_29 rfl (Nat.le_of_ble_eq_true rfl) rfl ?_
      refine g_iconst (v := 0) dX12_tears_30 (by decide) ?_
      refine g_istore (ls' := [(4, vI 0), (3, vI 0), (2, vI 0), (0, vR v0), (1, vI v1)]) dX12_tears_31 (Nat.le_of_ble_eq_true rfl) rfl ?_
      exact g_sub2 [3, 4, 2, 1, 0] rfl (s_X12_tears_b33 hX FU v0 v1 0 0 0 h3)
    · refine g_aload_n 0 dX12_tears_16 rfl rfl ?_
      refine g_callVI (st := []) (ci := 12) rfl (s_X12_sameOnes hX v0 h1) kml_X12_200 kim_X12_sameOnes kse_X12_sameOnes kii_X12 kcd_X12_sameOnes rfl ds_X12_sameOnes rfl ⟨Nat.le_of_ble_eq_true rfl, Nat.le_of_ble_eq_true rfl⟩ (Nat.le_of_ble_eq_true rfl) rfl dX12_tears_17 (fun r24 h23 => ?_)
      exact g_ireturn rfl dX12_tears_20
  · refine g_iconst (v := (-1)) dX12_tears_9 (by decide) ?_
    exact g_ireturn rfl dX12_tears_10
abbrev p_X12_tell (X : GX) (h0 : AH) : PX Int32 := (X, (fun x => Sum.inl (rI x)), (5, 107, 4), h0)
def f_X12_tell_b53 (k26 : Option Nat → Int32 → Int32 → AH → Option (Int32 × AH)) : Nat → Option Nat → Int32 → Int32 → Int32 → AH → Option (Int32 × AH)
  | 0 => fun _ _ _ _ _ => none
  | n + 1 => fun x0 x1 x2 x3 h =>
    (if x2 ≤ x3 then
    bd (cv h x0 12 (f_X12_hasLeftNext x0 x1 h)) fun r15 h14 =>
    (if r15 = 0 then
    k26 x0 x1 (x2 + 1) h14
    else some (x2, h14))
    else (gR h x0 [12] 1).bind fun t16 =>
    bd (f_X12_tellsIn t16 x1 h) fun u18 h17 =>
    f_X12_tell_b53 k26 n x0 x1 x2 (x3 + 1) h17)
set_option maxRecDepth 100000 in
set_option maxHeartbeats 4000000 in
theorem s_X12_tell_b53 {X : GX} (hX : XOK X) {h0 : AH} (k26 : Option Nat → Int32 → Int32 → AH → Option (Int32 × AH)) (hk26 : ∀ (z0 : Option Nat) (z1 : Int32) (z2 : Int32) (h : AH), Gp (p_X12_tell X h0) RX12 "tell" cX12_tell (some .int) 26 [(0, vR z0), (1, vI z1), (2, vI z2)] [] h (k26 z0 z1 z2 h)) : ∀ (n : Nat) (x0 : Option Nat) (x1 : Int32) (x2 : Int32) (x3 : Int32) (h : AH), Gp (p_X12_tell X h0) RX12 "tell" cX12_tell (some .int) 53 [(0, vR x0), (1, vI x1), (2, vI x2), (3, vI x3)] [] h (f_X12_tell_b53 k26 n x0 x1 x2 x3 h) := by
  intro n
  induction n with
  | zero => intro x0 x1 x2 x3 h; exact g_none
  | succ n ih =>
    intro x0 x1 x2 x3 h
    rw [f_X12_tell_b53]
    refine g_iload_n 3 dX12_tell_53 rfl rfl ?_
    refine g_iload_n 2 dX12_tell_54 rfl rfl ?_
    refine g_icmpge (tgt := 72) dX12_tell_55 (by decide) ?_ ?_
    · refine g_aload_n 0 dX12_tell_72 rfl rfl ?_
      refine g_iload_n 1 dX12_tell_73 rfl rfl ?_
      refine g_callVI (st := []) (ci := 12) rfl (s_X12_hasLeftNext hX x0 x1 h) kml_X12_179 kim_X12_hasLeftNext kse_X12_hasLeftNext kii_X12 kcd_X12_hasLeftNext rfl ds_X12_hasLeftNext rfl ⟨Nat.le_of_ble_eq_true rfl, Nat.le_of_ble_eq_true rfl⟩ (Nat.le_of_ble_eq_true rfl) rfl dX12_tell_74 (fun r15 h14 => ?_)
      refine g_ifeq (tgt := 82) dX12_tell_77 (by decide) ?_ ?_
      · refine g_iinc 2 (v := (x2 + 1)) (ls' := [(2, vI ((x2 + 1))), (0, vR x0), (1, vI x1), (3, vI x3)]) dX12_tell_82 rfl rfl (Nat.le_of_ble_eq_true rfl) rfl ?_
        refine g_goto (tgt := 26) dX12_tell_85 (by decide) ?_
        exact g_sub2 [1, 2, 0] rfl (hk26 x0 x1 (x2 + 1) h14)
      · refine g_iload_n 2 dX12_tell_80 rfl rfl ?_
        exact g_ireturn rfl dX12_tell_81
    · refine g_aload_n 0 dX12_tell_58 rfl rfl ?_
      refine g_getR kfl_X12_13 fo_X12_m dX12_tell_59 (fun t16 => ?_)
      refine g_iload_n 1 dX12_tell_62 rfl rfl ?_
      refine g_callSU (st := []) (s_X12_tellsIn hX t16 x1 h) kml_X12_120 kst_X12_tellsIn kii_X12 kcd_X12_tellsIn ds_X12_tellsIn rfl ⟨Nat.le_of_ble_eq_true rfl, Nat.le_of_ble_eq_true rfl⟩ (Nat.le_of_ble_eq_true rfl) rfl dX12_tell_63 (fun u18 h17 => ?_)
      refine g_iinc 3 (v := (x3 + 1)) (ls' := [(3, vI ((x3 + 1))), (0, vR x0), (1, vI x1), (2, vI x2)]) dX12_tell_66 rfl rfl (Nat.le_of_ble_eq_true rfl) rfl ?_
      refine g_goto (tgt := 53) dX12_tell_69 (by decide) ?_
      exact g_sub2 [1, 2, 3, 0] rfl (ih x0 x1 x2 (x3 + 1) h17)
def f_X12_tell_b26 : Nat → Option Nat → Int32 → Int32 → AH → Option (Int32 × AH)
  | 0 => fun _ _ _ _ => none
  | n + 1 => fun x0 x1 x2 h =>
    (gR h x0 [12] 0).bind fun t6 =>
    bd (f_X12_of x1 4 h) fun r8 h7 =>
    (iA h7 t6 r8).bind fun t9 =>
    (if t9 < x2 then
    some ((-4), h7)
    else (gR h7 x0 [12] 0).bind fun t10 =>
    (gR h7 x0 [12] 1).bind fun t11 =>
    bd (f_X12_copies t10 t11 h7) fun u13 h12 =>
    f_X12_tell_b53 (f_X12_tell_b26 n) FU x0 x1 x2 0 h12)
set_option maxRecDepth 100000 in
set_option maxHeartbeats 4000000 in
theorem s_X12_tell_b26 {X : GX} (hX : XOK X) {h0 : AH} : ∀ (n : Nat) (x0 : Option Nat) (x1 : Int32) (x2 : Int32) (h : AH), Gp (p_X12_tell X h0) RX12 "tell" cX12_tell (some .int) 26 [(0, vR x0), (1, vI x1), (2, vI x2)] [] h (f_X12_tell_b26 n x0 x1 x2 h) := by
  intro n
  induction n with
  | zero => intro x0 x1 x2 h; exact g_none
  | succ n ih =>
    intro x0 x1 x2 h
    rw [f_X12_tell_b26]
    refine g_iload_n 2 dX12_tell_26 rfl rfl ?_
    refine g_aload_n 0 dX12_tell_27 rfl rfl ?_
    refine g_getR kfl_X12_9 fo_X12_s dX12_tell_28 (fun t6 => ?_)
    refine g_iload_n 1 dX12_tell_31 rfl rfl ?_
    refine g_iconst (v := 4) dX12_tell_32 (by decide) ?_
    refine g_callSI (st := [vR t6, vI x2]) (s_X12_of hX x1 4 h) kml_X12_53 kst_X12_of kii_X12 kcd_X12_of ds_X12_of rfl ⟨Nat.le_of_ble_eq_true rfl, Nat.le_of_ble_eq_true rfl⟩ (Nat.le_of_ble_eq_true rfl) rfl dX12_tell_33 (fun r8 h7 => ?_)
    refine g_iaload dX12_tell_36 (fun t9 => ?_)
    refine g_icmpgt (tgt := 88) dX12_tell_37 (by decide) ?_ ?_
    · refine g_bipush (v := (-4)) dX12_tell_88 (by decide) ?_
      exact g_ireturn rfl dX12_tell_90
    · refine g_aload_n 0 dX12_tell_40 rfl rfl ?_
      refine g_getR kfl_X12_9 fo_X12_s dX12_tell_41 (fun t10 => ?_)
      refine g_aload_n 0 dX12_tell_44 rfl rfl ?_
      refine g_getR kfl_X12_13 fo_X12_m dX12_tell_45 (fun t11 => ?_)
      refine g_callSU (st := []) (s_X12_copies hX t10 t11 h7) kml_X12_141 kst_X12_copies kii_X12 kcd_X12_copies ds_X12_copies rfl ⟨Nat.le_of_ble_eq_true rfl, Nat.le_of_ble_eq_true rfl⟩ (Nat.le_of_ble_eq_true rfl) rfl dX12_tell_48 (fun u13 h12 => ?_)
      refine g_iconst (v := 0) dX12_tell_51 (by decide) ?_
      refine g_istore_n (ls' := [(3, vI 0), (0, vR x0), (1, vI x1), (2, vI x2)]) dX12_tell_52 rfl (Nat.le_of_ble_eq_true rfl) rfl ?_
      exact g_sub2 [1, 2, 3, 0] rfl (s_X12_tell_b53 hX (f_X12_tell_b26 n) (fun z0 z1 z2 z3 => ih z0 z1 z2 z3) FU x0 x1 x2 0 h12)
def f_X12_tell (v0 : Option Nat) (v1 : Int32) (h : AH) : Option (Int32 × AH) :=
    bd (cv h v0 12 (f_X12_isGuest v0 v1 h)) fun r2 h1 =>
    (if r2 = 0 then
    some ((-1), h1)
    else (gR h1 v0 [12] 0).bind fun t3 =>
    bd (f_X12_isHere t3 v1 h1) fun r5 h4 =>
    (if r5 = 0 then
    some ((-3), h4)
    else f_X12_tell_b26 FU v0 v1 0 h4))
set_option maxRecDepth 100000 in
set_option maxHeartbeats 4000000 in
theorem s_X12_tell {X : GX} (hX : XOK X) (v0 : Option Nat) (v1 : Int32) (h : AH) : Snd X yX12_tell cX12_tell 4 (some .int) 5 107 rI [vR v0, vI v1] h (f_X12_tell v0 v1 h) := by
  refine snd_of hX (by decide +kernel) (Nat.le_of_ble_eq_true rfl) ?_
  show Gp (p_X12_tell X h) RX12 "tell" cX12_tell (some .int) 0 [(0, vR v0), (1, vI v1)] [] h _
  unfold f_X12_tell
  refine g_aload_n 0 dX12_tell_0 rfl rfl ?_
  refine g_iload_n 1 dX12_tell_1 rfl rfl ?_
  refine g_callVI (st := []) (ci := 12) rfl (s_X12_isGuest hX v0 v1 h) kml_X12_113 kim_X12_isGuest kse_X12_isGuest kii_X12 kcd_X12_isGuest rfl ds_X12_isGuest rfl ⟨Nat.le_of_ble_eq_true rfl, Nat.le_of_ble_eq_true rfl⟩ (Nat.le_of_ble_eq_true rfl) rfl dX12_tell_2 (fun r2 h1 => ?_)
  refine g_ifne (tgt := 10) dX12_tell_5 (by decide) ?_ ?_
  · refine g_aload_n 0 dX12_tell_10 rfl rfl ?_
    refine g_getR kfl_X12_9 fo_X12_s dX12_tell_11 (fun t3 => ?_)
    refine g_iload_n 1 dX12_tell_14 rfl rfl ?_
    refine g_callSI (st := []) (s_X12_isHere hX t3 v1 h1) kml_X12_61 kst_X12_isHere kii_X12 kcd_X12_isHere ds_X12_isHere rfl ⟨Nat.le_of_ble_eq_true rfl, Nat.le_of_ble_eq_true rfl⟩ (Nat.le_of_ble_eq_true rfl) rfl dX12_tell_15 (fun r5 h4 => ?_)
    refine g_ifne (tgt := 24) dX12_tell_18 (by decide) ?_ ?_
    · refine g_iconst (v := 0) dX12_tell_24 (by decide) ?_
      refine g_istore_n (ls' := [(2, vI 0), (0, vR v0), (1, vI v1)]) dX12_tell_25 rfl (Nat.le_of_ble_eq_true rfl) rfl ?_
      exact g_sub2 [1, 2, 0] rfl (s_X12_tell_b26 hX FU v0 v1 0 h4)
    · refine g_bipush (v := (-3)) dX12_tell_21 (by decide) ?_
      exact g_ireturn rfl dX12_tell_23
  · refine g_iconst (v := (-1)) dX12_tell_8 (by decide) ?_
    exact g_ireturn rfl dX12_tell_9
abbrev p_X12_tells (X : GX) (h0 : AH) : PX Int32 := (X, (fun x => Sum.inl (rI x)), (3, 63, 2), h0)
def f_X12_tells (v0 : Option Nat) (v1 : Int32) (h : AH) : Option (Int32 × AH) :=
    bd (cv h v0 12 (f_X12_isGuest v0 v1 h)) fun r2 h1 =>
    (if r2 = 0 then
    some ((-1), h1)
    else (gR h1 v0 [12] 0).bind fun t3 =>
    bd (f_X12_canTell t3 v1 h1) fun r5 h4 =>
    (if r5 = 0 then
    some ((-3), h4)
    else (gR h4 v0 [12] 0).bind fun t6 =>
    bd (f_X12_tellsIn t6 v1 h4) fun u8 h7 =>
    (gR h7 v0 [12] 0).bind fun t9 =>
    bd (f_X12_of v1 2 h7) fun r11 h10 =>
    (iA h10 t9 r11).bind fun t12 =>
    some (t12, h10)))
set_option maxRecDepth 100000 in
set_option maxHeartbeats 4000000 in
theorem s_X12_tells {X : GX} (hX : XOK X) (v0 : Option Nat) (v1 : Int32) (h : AH) : Snd X yX12_tells cX12_tells 2 (some .int) 3 63 rI [vR v0, vI v1] h (f_X12_tells v0 v1 h) := by
  refine snd_of hX (by decide +kernel) (Nat.le_of_ble_eq_true rfl) ?_
  show Gp (p_X12_tells X h) RX12 "tells" cX12_tells (some .int) 0 [(0, vR v0), (1, vI v1)] [] h _
  unfold f_X12_tells
  refine g_aload_n 0 dX12_tells_0 rfl rfl ?_
  refine g_iload_n 1 dX12_tells_1 rfl rfl ?_
  refine g_callVI (st := []) (ci := 12) rfl (s_X12_isGuest hX v0 v1 h) kml_X12_113 kim_X12_isGuest kse_X12_isGuest kii_X12 kcd_X12_isGuest rfl ds_X12_isGuest rfl ⟨Nat.le_of_ble_eq_true rfl, Nat.le_of_ble_eq_true rfl⟩ (Nat.le_of_ble_eq_true rfl) rfl dX12_tells_2 (fun r2 h1 => ?_)
  refine g_ifne (tgt := 10) dX12_tells_5 (by decide) ?_ ?_
  · refine g_aload_n 0 dX12_tells_10 rfl rfl ?_
    refine g_getR kfl_X12_9 fo_X12_s dX12_tells_11 (fun t3 => ?_)
    refine g_iload_n 1 dX12_tells_14 rfl rfl ?_
    refine g_callSI (st := []) (s_X12_canTell hX t3 v1 h1) kml_X12_117 kst_X12_canTell kii_X12 kcd_X12_canTell ds_X12_canTell rfl ⟨Nat.le_of_ble_eq_true rfl, Nat.le_of_ble_eq_true rfl⟩ (Nat.le_of_ble_eq_true rfl) rfl dX12_tells_15 (fun r5 h4 => ?_)
    refine g_ifne (tgt := 24) dX12_tells_18 (by decide) ?_ ?_
    · refine g_aload_n 0 dX12_tells_24 rfl rfl ?_
      refine g_getR kfl_X12_9 fo_X12_s dX12_tells_25 (fun t6 => ?_)
      refine g_iload_n 1 dX12_tells_28 rfl rfl ?_
      refine g_callSU (st := []) (s_X12_tellsIn hX t6 v1 h4) kml_X12_120 kst_X12_tellsIn kii_X12 kcd_X12_tellsIn ds_X12_tellsIn rfl ⟨Nat.le_of_ble_eq_true rfl, Nat.le_of_ble_eq_true rfl⟩ (Nat.le_of_ble_eq_true rfl) rfl dX12_tells_29 (fun u8 h7 => ?_)
      refine g_aload_n 0 dX12_tells_32 rfl rfl ?_
      refine g_getR kfl_X12_9 fo_X12_s dX12_tells_33 (fun t9 => ?_)
      refine g_iload_n 1 dX12_tells_36 rfl rfl ?_
      refine g_iconst (v := 2) dX12_tells_37 (by decide) ?_
      refine g_callSI (st := [vR t9]) (s_X12_of hX v1 2 h7) kml_X12_53 kst_X12_of kii_X12 kcd_X12_of ds_X12_of rfl ⟨Nat.le_of_ble_eq_true rfl, Nat.le_of_ble_eq_true rfl⟩ (Nat.le_of_ble_eq_true rfl) rfl dX12_tells_38 (fun r11 h10 => ?_)
      refine g_iaload dX12_tells_41 (fun t12 => ?_)
      exact g_ireturn rfl dX12_tells_42
    · refine g_bipush (v := (-3)) dX12_tells_21 (by decide) ?_
      exact g_ireturn rfl dX12_tells_23
  · refine g_iconst (v := (-1)) dX12_tells_8 (by decide) ?_
    exact g_ireturn rfl dX12_tells_9
abbrev p_X12_then (X : GX) (h0 : AH) : PX Int32 := (X, (fun x => Sum.inl (rI x)), (6, 129, 3), h0)
def f_X12_then (v0 : Option Nat) (v1 : Int32) (v2 : Int32) (h : AH) : Option (Int32 × AH) :=
    bd (f_X12_isLate v1 h) fun r2 h1 =>
    (if r2 = 0 then
    some ((-1), h1)
    else bd (f_X12_isIn v2 0 2 h1) fun r4 h3 =>
    (if r4 = 0 then
    some ((-1), h3)
    else bd (cv h3 v0 12 (f_X12_takes v0 v1 h3)) fun u6 h5 =>
    (if v2 = 0 then
    (gR h5 v0 [12] 1).bind fun t12 =>
    bd (f_X12_hereIn t12 h5) fun r14 h13 =>
    some (r14, h13)
    else (if v2 = 1 then
    (gR h5 v0 [12] 1).bind fun t10 =>
    (iA h5 t10 2).bind fun t11 =>
    some (t11, h5)
    else (gR h5 v0 [12] 1).bind fun t7 =>
    bd (f_X12_weightIn t7 h5) fun r9 h8 =>
    some (r9, h8)))))
set_option maxRecDepth 100000 in
set_option maxHeartbeats 4000000 in
theorem s_X12_then {X : GX} (hX : XOK X) (v0 : Option Nat) (v1 : Int32) (v2 : Int32) (h : AH) : Snd X yX12_then cX12_then 3 (some .int) 6 129 rI [vR v0, vI v1, vI v2] h (f_X12_then v0 v1 v2 h) := by
  refine snd_of hX (by decide +kernel) (Nat.le_of_ble_eq_true rfl) ?_
  show Gp (p_X12_then X h) RX12 "then" cX12_then (some .int) 0 [(0, vR v0), (1, vI v1), (2, vI v2)] [] h _
  unfold f_X12_then
  refine g_iload_n 1 dX12_then_0 rfl rfl ?_
  refine g_callSI (st := []) (s_X12_isLate hX v1 h) kml_X12_155 kst_X12_isLate kii_X12 kcd_X12_isLate ds_X12_isLate rfl ⟨Nat.le_of_ble_eq_true rfl, Nat.le_of_ble_eq_true rfl⟩ (Nat.le_of_ble_eq_true rfl) rfl dX12_then_1 (fun r2 h1 => ?_)
  refine g_ifeq (tgt := 16) dX12_then_4 (by decide) ?_ ?_
  · refine g_iconst (v := (-1)) dX12_then_16 (by decide) ?_
    exact g_ireturn rfl dX12_then_17
  · refine g_iload_n 2 dX12_then_7 rfl rfl ?_
    refine g_iconst (v := 0) dX12_then_8 (by decide) ?_
    refine g_iconst (v := 2) dX12_then_9 (by decide) ?_
    refine g_callSI (st := []) (s_X12_isIn hX v2 0 2 h1) kml_X12_49 kst_X12_isIn kii_X12 kcd_X12_isIn ds_X12_isIn rfl ⟨Nat.le_of_ble_eq_true rfl, Nat.le_of_ble_eq_true rfl⟩ (Nat.le_of_ble_eq_true rfl) rfl dX12_then_10 (fun r4 h3 => ?_)
    refine g_ifne (tgt := 18) dX12_then_13 (by decide) ?_ ?_
    · refine g_aload_n 0 dX12_then_18 rfl rfl ?_
      refine g_iload_n 1 dX12_then_19 rfl rfl ?_
      refine g_callVU (st := []) (ci := 12) rfl (s_X12_takes hX v0 v1 h3) kml_X12_158 kim_X12_takes kse_X12_takes kii_X12 kcd_X12_takes rfl ds_X12_takes rfl ⟨Nat.le_of_ble_eq_true rfl, Nat.le_of_ble_eq_true rfl⟩ (Nat.le_of_ble_eq_true rfl) rfl dX12_then_20 (fun u6 h5 => ?_)
      refine g_iload_n 2 dX12_then_23 rfl rfl ?_
      refine g_ifne (tgt := 37) dX12_then_24 (by decide) ?_ ?_
      · refine g_iload_n 2 dX12_then_37 rfl rfl ?_
        refine g_iconst (v := 1) dX12_then_38 (by decide) ?_
        refine g_icmpne (tgt := 51) dX12_then_39 (by decide) ?_ ?_
        · refine g_aload_n 0 dX12_then_51 rfl rfl ?_
          refine g_getR kfl_X12_13 fo_X12_m dX12_then_52 (fun t7 => ?_)
          refine g_callSI (st := []) (s_X12_weightIn hX t7 h5) kml_X12_166 kst_X12_weightIn kii_X12 kcd_X12_weightIn ds_X12_weightIn rfl ⟨Nat.le_of_ble_eq_true rfl, Nat.le_of_ble_eq_true rfl⟩ (Nat.le_of_ble_eq_true rfl) rfl dX12_then_55 (fun r9 h8 => ?_)
          exact g_ireturn rfl dX12_then_58
        · refine g_aload_n 0 dX12_then_42 rfl rfl ?_
          refine g_getR kfl_X12_13 fo_X12_m dX12_then_43 (fun t10 => ?_)
          refine g_iconst (v := 2) dX12_then_46 (by decide) ?_
          refine g_iaload dX12_then_47 (fun t11 => ?_)
          refine g_goto (tgt := 58) dX12_then_48 (by decide) ?_
          exact g_ireturn rfl dX12_then_58
      · refine g_aload_n 0 dX12_then_27 rfl rfl ?_
        refine g_getR kfl_X12_13 fo_X12_m dX12_then_28 (fun t12 => ?_)
        refine g_callSI (st := []) (s_X12_hereIn hX t12 h5) kml_X12_162 kst_X12_hereIn kii_X12 kcd_X12_hereIn ds_X12_hereIn rfl ⟨Nat.le_of_ble_eq_true rfl, Nat.le_of_ble_eq_true rfl⟩ (Nat.le_of_ble_eq_true rfl) rfl dX12_then_31 (fun r14 h13 => ?_)
        refine g_goto (tgt := 58) dX12_then_34 (by decide) ?_
        exact g_ireturn rfl dX12_then_58
    · refine g_iconst (v := (-1)) dX12_then_16 (by decide) ?_
      exact g_ireturn rfl dX12_then_17
abbrev p_X12_thrown (X : GX) (h0 : AH) : PX Int32 := (X, (fun x => Sum.inl (rI x)), (0, 0, 1), h0)
def f_X12_thrown (v0 : Option Nat) (h : AH) : Option (Int32 × AH) :=
    (gI h v0 [12] 18).bind fun t1 =>
    some (t1, h)
set_option maxRecDepth 100000 in
set_option maxHeartbeats 4000000 in
theorem s_X12_thrown {X : GX} (hX : XOK X) (v0 : Option Nat) (h : AH) : Snd X yX12_thrown cX12_thrown 1 (some .int) 0 0 rI [vR v0] h (f_X12_thrown v0 h) := by
  refine snd_of hX (by decide +kernel) (Nat.le_of_ble_eq_true rfl) ?_
  show Gp (p_X12_thrown X h) RX12 "thrown" cX12_thrown (some .int) 0 [(0, vR v0)] [] h _
  unfold f_X12_thrown
  refine g_aload_n 0 dX12_thrown_0 rfl rfl ?_
  refine g_getI kfl_X12_243 fo_X12_thrown dX12_thrown_1 (fun t1 => ?_)
  exact g_ireturn rfl dX12_thrown_4
abbrev p_X12_toss (X : GX) (h0 : AH) : PX Int32 := (X, (fun x => Sum.inl (rI x)), (3, 63, 5), h0)
def f_X12_toss_b74 (x4 : Int32) (h : AH) : Option (Int32 × AH) :=
    some ((100 + x4), h)
set_option maxRecDepth 100000 in
set_option maxHeartbeats 4000000 in
theorem s_X12_toss_b74 {X : GX} (hX : XOK X) {h0 : AH} : ∀ (x4 : Int32) (h : AH), Gp (p_X12_toss X h0) RX12 "toss" cX12_toss (some .int) 74 [(4, vI x4)] [] h (f_X12_toss_b74 x4 h) := by
  intro x4 h
  unfold f_X12_toss_b74
  refine g_bipush (v := 100) dX12_toss_74 (by decide) ?_
  refine g_iload 0 dX12_toss_76 rfl ?_
  refine g_iadd dX12_toss_78 ?_
  refine g_goto (tgt := 84) dX12_toss_79 (by decide) ?_
  exact g_ireturn rfl dX12_toss_84
def f_X12_toss (v0 : Option Nat) (v1 : Int32) (h : AH) : Option (Int32 × AH) :=
    bd (cv h v0 12 (f_X12_wrongKept v0 v1 h)) fun r2 h1 =>
    (if r2 = 0 then
    (gR h1 v0 [12] 13).bind fun t3 =>
    (iA h1 t3 v1).bind fun t4 =>
    (gR h1 v0 [12] 14).bind fun t5 =>
    (iA h1 t5 v1).bind fun t6 =>
    (if t4 = 2 then
    some ((-15), h1)
    else (if t4 = 6 then
    some ((-15), h1)
    else (if t6 = 0 then
    some ((-15), h1)
    else (if t4 = 4 then
    bd (f_X12_costBy t4 t6 h1) fun r8 h7 =>
    some ((200 + r8), h7)
    else (if t4 = 3 then
    f_X12_toss_b74 t6 h1
    else (if t4 = 5 then
    f_X12_toss_b74 t6 h1
    else some (t6, h1)))))))
    else some (r2, h1))
set_option maxRecDepth 100000 in
set_option maxHeartbeats 4000000 in
theorem s_X12_toss {X : GX} (hX : XOK X) (v0 : Option Nat) (v1 : Int32) (h : AH) : Snd X yX12_toss cX12_toss 5 (some .int) 3 63 rI [vR v0, vI v1] h (f_X12_toss v0 v1 h) := by
  refine snd_of hX (by decide +kernel) (Nat.le_of_ble_eq_true rfl) ?_
  show Gp (p_X12_toss X h) RX12 "toss" cX12_toss (some .int) 0 [(0, vR v0), (1, vI v1)] [] h _
  unfold f_X12_toss
  refine g_aload_n 0 dX12_toss_0 rfl rfl ?_
  refine g_iload_n 1 dX12_toss_1 rfl rfl ?_
  refine g_callVI (st := []) (ci := 12) rfl (s_X12_wrongKept hX v0 v1 h) kml_X12_152 kim_X12_wrongKept kse_X12_wrongKept kii_X12 kcd_X12_wrongKept rfl ds_X12_wrongKept rfl ⟨Nat.le_of_ble_eq_true rfl, Nat.le_of_ble_eq_true rfl⟩ (Nat.le_of_ble_eq_true rfl) rfl dX12_toss_2 (fun r2 h1 => ?_)
  refine g_istore_n (ls' := [(2, vI r2), (0, vR v0), (1, vI v1)]) dX12_toss_5 rfl (Nat.le_of_ble_eq_true rfl) rfl ?_
  refine g_iload_n 0 dX12_toss_6 rfl rfl ?_
  refine g_ifeq (tgt := 12) dX12_toss_7 (by decide) ?_ ?_
  · refine g_aload_n 1 dX12_toss_12 rfl rfl ?_
    refine g_getR kfl_X12_34 fo_X12_keptKind dX12_toss_13 (fun t3 => ?_)
    refine g_iload_n 2 dX12_toss_16 rfl rfl ?_
    refine g_iaload dX12_toss_17 (fun t4 => ?_)
    refine g_istore_n (ls' := [(3, vI t4), (2, vI r2), (0, vR v0), (1, vI v1)]) dX12_toss_18 rfl (Nat.le_of_ble_eq_true rfl) rfl ?_
    refine g_aload_n 2 dX12_toss_19 rfl rfl ?_
    refine g_getR kfl_X12_37 fo_X12_keptFigure dX12_toss_20 (fun t5 => ?_)
    refine g_iload_n 3 dX12_toss_23 rfl rfl ?_
    refine g_iaload dX12_toss_24 (fun t6 => ?_)
    refine g_istore (ls' := [(4, vI t6), (3, vI t4), (2, vI r2), (0, vR v0), (1, vI v1)]) dX12_toss_25 (Nat.le_of_ble_eq_true rfl) rfl ?_
    refine g_iload_n 1 dX12_toss_27 rfl rfl ?_
    refine g_iconst (v := 2) dX12_toss_28 (by decide) ?_
    refine g_icmpeq (tgt := 43) dX12_toss_29 (by decide) ?_ ?_
    · refine g_bipush (v := (-15)) dX12_toss_43 (by decide) ?_
      exact g_ireturn rfl dX12_toss_45
    · refine g_iload_n 1 dX12_toss_32 rfl rfl ?_
      refine g_bipush (v := 6) dX12_toss_33 (by decide) ?_
      refine g_icmpeq (tgt := 43) dX12_toss_35 (by decide) ?_ ?_
      · refine g_bipush (v := (-15)) dX12_toss_43 (by decide) ?_
        exact g_ireturn rfl dX12_toss_45
      · refine g_iload 0 dX12_toss_38 rfl ?_
        refine g_ifne (tgt := 46) dX12_toss_40 (by decide) ?_ ?_
        · refine g_iload_n 1 dX12_toss_46 rfl rfl ?_
          refine g_iconst (v := 4) dX12_toss_47 (by decide) ?_
          refine g_icmpne (tgt := 64) dX12_toss_48 (by decide) ?_ ?_
          · refine g_iload_n 1 dX12_toss_64 rfl rfl ?_
            refine g_iconst (v := 3) dX12_toss_65 (by decide) ?_
            refine g_icmpeq (tgt := 74) dX12_toss_66 (by decide) ?_ ?_
            · exact g_sub2 [0] rfl (s_X12_toss_b74 hX t6 h1)
            · refine g_iload_n 1 dX12_toss_69 rfl rfl ?_
              refine g_iconst (v := 5) dX12_toss_70 (by decide) ?_
              refine g_icmpne (tgt := 82) dX12_toss_71 (by decide) ?_ ?_
              · refine g_iload 0 dX12_toss_82 rfl ?_
                exact g_ireturn rfl dX12_toss_84
              · exact g_sub2 [0] rfl (s_X12_toss_b74 hX t6 h1)
          · refine g_sipush (v := 200) dX12_toss_51 (by decide) ?_
            refine g_iload_n 1 dX12_toss_54 rfl rfl ?_
            refine g_iload 0 dX12_toss_55 rfl ?_
            refine g_callSI (st := [vI 200]) (s_X12_costBy hX t4 t6 h1) kml_X12_249 kst_X12_costBy kii_X12 kcd_X12_costBy ds_X12_costBy rfl ⟨Nat.le_of_ble_eq_true rfl, Nat.le_of_ble_eq_true rfl⟩ (Nat.le_of_ble_eq_true rfl) rfl dX12_toss_57 (fun r8 h7 => ?_)
            refine g_iadd dX12_toss_60 ?_
            refine g_goto (tgt := 84) dX12_toss_61 (by decide) ?_
            exact g_ireturn rfl dX12_toss_84
        · refine g_bipush (v := (-15)) dX12_toss_43 (by decide) ?_
          exact g_ireturn rfl dX12_toss_45
  · refine g_iload_n 0 dX12_toss_10 rfl rfl ?_
    exact g_ireturn rfl dX12_toss_11
abbrev p_X12_two (X : GX) (h0 : AH) : PX Int32 := (X, (fun x => Sum.inl (rI x)), (6, 134, 7), h0)
def f_X12_two_b61 : Nat → Option Nat → Int32 → Int32 → Int32 → Int32 → AH → Option (Int32 × AH)
  | 0 => fun _ _ _ _ _ _ => none
  | n + 1 => fun x0 x1 x2 x3 x4 h =>
    (if 4 ≤ x4 then
    some ((-4), h)
    else nm (x4 / 2) fun t13 =>
    nm (x4 - x4 / 2 * 2) fun t14 =>
    bd (cv h x0 12 (f_X12_hasBy x0 x1 x1 (1 - t13) x2 t14 x3 h)) fun r16 h15 =>
    bd (cv h15 x0 12 (f_X12_hasBy x0 x1 x1 t13 x2 t14 x3 h15)) fun r18 h17 =>
    (if r18 < r16 then
    f_X12_two_b61 n x0 x1 x2 x3 (x4 + 1) h17
    else bd (cv h17 x0 12 (f_X12_hasBy x0 x2 x1 t13 x2 (1 - t14) x3 h17)) fun r20 h19 =>
    bd (cv h19 x0 12 (f_X12_hasBy x0 x2 x1 t13 x2 t14 x3 h19)) fun r22 h21 =>
    (if r22 < r20 then
    f_X12_two_b61 n x0 x1 x2 x3 (x4 + 1) h21
    else some (((10 * t13) + t14), h21))))
set_option maxRecDepth 100000 in
set_option maxHeartbeats 4000000 in
theorem s_X12_two_b61 {X : GX} (hX : XOK X) {h0 : AH} : ∀ (n : Nat) (x0 : Option Nat) (x1 : Int32) (x2 : Int32) (x3 : Int32) (x4 : Int32) (h : AH), Gp (p_X12_two X h0) RX12 "two" cX12_two (some .int) 61 [(0, vR x0), (1, vI x1), (2, vI x2), (3, vI x3), (4, vI x4)] [] h (f_X12_two_b61 n x0 x1 x2 x3 x4 h) := by
  intro n
  induction n with
  | zero => intro x0 x1 x2 x3 x4 h; exact g_none
  | succ n ih =>
    intro x0 x1 x2 x3 x4 h
    rw [f_X12_two_b61]
    refine g_iload 4 dX12_two_61 rfl ?_
    refine g_iconst (v := 4) dX12_two_63 (by decide) ?_
    refine g_icmpge (tgt := 152) dX12_two_64 (by decide) ?_ ?_
    · refine g_bipush (v := (-4)) dX12_two_152 (by decide) ?_
      exact g_ireturn rfl dX12_two_154
    · refine g_iload 4 dX12_two_67 rfl ?_
      refine g_iconst (v := 2) dX12_two_69 (by decide) ?_
      refine g_idivK dX12_two_70 (by decide) ?_
      refine g_nmI (fun t13 => ?_)
      refine g_istore (ls' := [(5, vI t13), (0, vR x0), (1, vI x1), (2, vI x2), (3, vI x3), (4, vI x4)]) dX12_two_71 (Nat.le_of_ble_eq_true rfl) rfl ?_
      refine g_iload 5 dX12_two_73 rfl ?_
      refine g_iconst (v := 2) dX12_two_75 (by decide) ?_
      refine g_iremK dX12_two_76 (by decide) ?_
      refine g_nmI (fun t14 => ?_)
      refine g_istore (ls' := [(6, vI t14), (5, vI t13), (0, vR x0), (1, vI x1), (2, vI x2), (3, vI x3), (4, vI x4)]) dX12_two_77 (Nat.le_of_ble_eq_true rfl) rfl ?_
      refine g_aload_n 2 dX12_two_79 rfl rfl ?_
      refine g_iload_n 3 dX12_two_80 rfl rfl ?_
      refine g_iload_n 3 dX12_two_81 rfl rfl ?_
      refine g_iconst (v := 1) dX12_two_82 (by decide) ?_
      refine g_iload 1 dX12_two_83 rfl ?_
      refine g_isub dX12_two_85 ?_
      refine g_iload_n 4 dX12_two_86 rfl rfl ?_
      refine g_iload 0 dX12_two_87 rfl ?_
      refine g_iload_n 5 dX12_two_89 rfl rfl ?_
      refine g_callVI (st := []) (ci := 12) rfl (s_X12_hasBy hX x0 x1 x1 (1 - t13) x2 t14 x3 h) kml_X12_213 kim_X12_hasBy kse_X12_hasBy kii_X12 kcd_X12_hasBy rfl ds_X12_hasBy rfl ⟨Nat.le_of_ble_eq_true rfl, Nat.le_of_ble_eq_true rfl⟩ (Nat.le_of_ble_eq_true rfl) rfl dX12_two_90 (fun r16 h15 => ?_)
      refine g_aload_n 2 dX12_two_93 rfl rfl ?_
      refine g_iload_n 3 dX12_two_94 rfl rfl ?_
      refine g_iload_n 3 dX12_two_95 rfl rfl ?_
      refine g_iload 1 dX12_two_96 rfl ?_
      refine g_iload_n 4 dX12_two_98 rfl rfl ?_
      refine g_iload 0 dX12_two_99 rfl ?_
      refine g_iload_n 5 dX12_two_101 rfl rfl ?_
      refine g_callVI (st := [vI r16]) (ci := 12) rfl (s_X12_hasBy hX x0 x1 x1 t13 x2 t14 x3 h15) kml_X12_213 kim_X12_hasBy kse_X12_hasBy kii_X12 kcd_X12_hasBy rfl ds_X12_hasBy rfl ⟨Nat.le_of_ble_eq_true rfl, Nat.le_of_ble_eq_true rfl⟩ (Nat.le_of_ble_eq_true rfl) rfl dX12_two_102 (fun r18 h17 => ?_)
      refine g_icmpgt (tgt := 146) dX12_two_105 (by decide) ?_ ?_
      · refine g_iinc 6 (v := (x4 + 1)) (ls' := [(4, vI ((x4 + 1))), (6, vI t14), (5, vI t13), (0, vR x0), (1, vI x1), (2, vI x2), (3, vI x3)]) dX12_two_146 rfl rfl (Nat.le_of_ble_eq_true rfl) rfl ?_
        refine g_goto (tgt := 61) dX12_two_149 (by decide) ?_
        exact g_sub2 [3, 4, 5, 6, 0] rfl (ih x0 x1 x2 x3 (x4 + 1) h17)
      · refine g_aload_n 2 dX12_two_108 rfl rfl ?_
        refine g_iload_n 4 dX12_two_109 rfl rfl ?_
        refine g_iload_n 3 dX12_two_110 rfl rfl ?_
        refine g_iload 1 dX12_two_111 rfl ?_
        refine g_iload_n 4 dX12_two_113 rfl rfl ?_
        refine g_iconst (v := 1) dX12_two_114 (by decide) ?_
        refine g_iload 0 dX12_two_115 rfl ?_
        refine g_isub dX12_two_117 ?_
        refine g_iload_n 5 dX12_two_118 rfl rfl ?_
        refine g_callVI (st := []) (ci := 12) rfl (s_X12_hasBy hX x0 x2 x1 t13 x2 (1 - t14) x3 h17) kml_X12_213 kim_X12_hasBy kse_X12_hasBy kii_X12 kcd_X12_hasBy rfl ds_X12_hasBy rfl ⟨Nat.le_of_ble_eq_true rfl, Nat.le_of_ble_eq_true rfl⟩ (Nat.le_of_ble_eq_true rfl) rfl dX12_two_119 (fun r20 h19 => ?_)
        refine g_aload_n 2 dX12_two_122 rfl rfl ?_
        refine g_iload_n 4 dX12_two_123 rfl rfl ?_
        refine g_iload_n 3 dX12_two_124 rfl rfl ?_
        refine g_iload 1 dX12_two_125 rfl ?_
        refine g_iload_n 4 dX12_two_127 rfl rfl ?_
        refine g_iload 0 dX12_two_128 rfl ?_
        refine g_iload_n 5 dX12_two_130 rfl rfl ?_
        refine g_callVI (st := [vI r20]) (ci := 12) rfl (s_X12_hasBy hX x0 x2 x1 t13 x2 t14 x3 h19) kml_X12_213 kim_X12_hasBy kse_X12_hasBy kii_X12 kcd_X12_hasBy rfl ds_X12_hasBy rfl ⟨Nat.le_of_ble_eq_true rfl, Nat.le_of_ble_eq_true rfl⟩ (Nat.le_of_ble_eq_true rfl) rfl dX12_two_131 (fun r22 h21 => ?_)
        refine g_icmpgt (tgt := 146) dX12_two_134 (by decide) ?_ ?_
        · refine g_iinc 6 (v := (x4 + 1)) (ls' := [(4, vI ((x4 + 1))), (6, vI t14), (5, vI t13), (0, vR x0), (1, vI x1), (2, vI x2), (3, vI x3)]) dX12_two_146 rfl rfl (Nat.le_of_ble_eq_true rfl) rfl ?_
          refine g_goto (tgt := 61) dX12_two_149 (by decide) ?_
          exact g_sub2 [3, 4, 5, 6, 0] rfl (ih x0 x1 x2 x3 (x4 + 1) h21)
        · refine g_bipush (v := 10) dX12_two_137 (by decide) ?_
          refine g_iload 1 dX12_two_139 rfl ?_
          refine g_imul dX12_two_141 ?_
          refine g_iload 0 dX12_two_142 rfl ?_
          refine g_iadd dX12_two_144 ?_
          exact g_ireturn rfl dX12_two_145
def f_X12_two (v0 : Option Nat) (v1 : Int32) (v2 : Int32) (v3 : Int32) (h : AH) : Option (Int32 × AH) :=
    bd (cv h v0 12 (f_X12_isGuest v0 v1 h)) fun r2 h1 =>
    (if r2 = 0 then
    some ((-1), h1)
    else bd (cv h1 v0 12 (f_X12_isGuest v0 v2 h1)) fun r4 h3 =>
    (if r4 = 0 then
    some ((-1), h3)
    else (if v1 = v2 then
    some ((-1), h3)
    else bd (f_X12_isIn v3 1 30 h3) fun r6 h5 =>
    (if r6 = 0 then
    some ((-1), h5)
    else (gR h5 v0 [12] 0).bind fun t7 =>
    bd (f_X12_isHere t7 v1 h5) fun r9 h8 =>
    (if r9 = 0 then
    some ((-3), h8)
    else (gR h8 v0 [12] 0).bind fun t10 =>
    bd (f_X12_isHere t10 v2 h8) fun r12 h11 =>
    (if r12 = 0 then
    some ((-3), h11)
    else f_X12_two_b61 FU v0 v1 v2 v3 0 h11))))))
set_option maxRecDepth 100000 in
set_option maxHeartbeats 4000000 in
theorem s_X12_two {X : GX} (hX : XOK X) (v0 : Option Nat) (v1 : Int32) (v2 : Int32) (v3 : Int32) (h : AH) : Snd X yX12_two cX12_two 7 (some .int) 6 134 rI [vR v0, vI v1, vI v2, vI v3] h (f_X12_two v0 v1 v2 v3 h) := by
  refine snd_of hX (by decide +kernel) (Nat.le_of_ble_eq_true rfl) ?_
  show Gp (p_X12_two X h) RX12 "two" cX12_two (some .int) 0 [(0, vR v0), (1, vI v1), (2, vI v2), (3, vI v3)] [] h _
  unfold f_X12_two
  refine g_aload_n 0 dX12_two_0 rfl rfl ?_
  refine g_iload_n 1 dX12_two_1 rfl rfl ?_
  refine g_callVI (st := []) (ci := 12) rfl (s_X12_isGuest hX v0 v1 h) kml_X12_113 kim_X12_isGuest kse_X12_isGuest kii_X12 kcd_X12_isGuest rfl ds_X12_isGuest rfl ⟨Nat.le_of_ble_eq_true rfl, Nat.le_of_ble_eq_true rfl⟩ (Nat.le_of_ble_eq_true rfl) rfl dX12_two_2 (fun r2 h1 => ?_)
  refine g_ifeq (tgt := 31) dX12_two_5 (by decide) ?_ ?_
  · refine g_iconst (v := (-1)) dX12_two_31 (by decide) ?_
    exact g_ireturn rfl dX12_two_32
  · refine g_aload_n 0 dX12_two_8 rfl rfl ?_
    refine g_iload_n 2 dX12_two_9 rfl rfl ?_
    refine g_callVI (st := []) (ci := 12) rfl (s_X12_isGuest hX v0 v2 h1) kml_X12_113 kim_X12_isGuest kse_X12_isGuest kii_X12 kcd_X12_isGuest rfl ds_X12_isGuest rfl ⟨Nat.le_of_ble_eq_true rfl, Nat.le_of_ble_eq_true rfl⟩ (Nat.le_of_ble_eq_true rfl) rfl dX12_two_10 (fun r4 h3 => ?_)
    refine g_ifeq (tgt := 31) dX12_two_13 (by decide) ?_ ?_
    · refine g_iconst (v := (-1)) dX12_two_31 (by decide) ?_
      exact g_ireturn rfl dX12_two_32
    · refine g_iload_n 1 dX12_two_16 rfl rfl ?_
      refine g_iload_n 2 dX12_two_17 rfl rfl ?_
      refine g_icmpeq (tgt := 31) dX12_two_18 (by decide) ?_ ?_
      · refine g_iconst (v := (-1)) dX12_two_31 (by decide) ?_
        exact g_ireturn rfl dX12_two_32
      · refine g_iload_n 3 dX12_two_21 rfl rfl ?_
        refine g_iconst (v := 1) dX12_two_22 (by decide) ?_
        refine g_bipush (v := 30) dX12_two_23 (by decide) ?_
        refine g_callSI (st := []) (s_X12_isIn hX v3 1 30 h3) kml_X12_49 kst_X12_isIn kii_X12 kcd_X12_isIn ds_X12_isIn rfl ⟨Nat.le_of_ble_eq_true rfl, Nat.le_of_ble_eq_true rfl⟩ (Nat.le_of_ble_eq_true rfl) rfl dX12_two_25 (fun r6 h5 => ?_)
        refine g_ifne (tgt := 33) dX12_two_28 (by decide) ?_ ?_
        · refine g_aload_n 0 dX12_two_33 rfl rfl ?_
          refine g_getR kfl_X12_9 fo_X12_s dX12_two_34 (fun t7 => ?_)
          refine g_iload_n 1 dX12_two_37 rfl rfl ?_
          refine g_callSI (st := []) (s_X12_isHere hX t7 v1 h5) kml_X12_61 kst_X12_isHere kii_X12 kcd_X12_isHere ds_X12_isHere rfl ⟨Nat.le_of_ble_eq_true rfl, Nat.le_of_ble_eq_true rfl⟩ (Nat.le_of_ble_eq_true rfl) rfl dX12_two_38 (fun r9 h8 => ?_)
          refine g_ifeq (tgt := 55) dX12_two_41 (by decide) ?_ ?_
          · refine g_bipush (v := (-3)) dX12_two_55 (by decide) ?_
            exact g_ireturn rfl dX12_two_57
          · refine g_aload_n 0 dX12_two_44 rfl rfl ?_
            refine g_getR kfl_X12_9 fo_X12_s dX12_two_45 (fun t10 => ?_)
            refine g_iload_n 2 dX12_two_48 rfl rfl ?_
            refine g_callSI (st := []) (s_X12_isHere hX t10 v2 h8) kml_X12_61 kst_X12_isHere kii_X12 kcd_X12_isHere ds_X12_isHere rfl ⟨Nat.le_of_ble_eq_true rfl, Nat.le_of_ble_eq_true rfl⟩ (Nat.le_of_ble_eq_true rfl) rfl dX12_two_49 (fun r12 h11 => ?_)
            refine g_ifne (tgt := 58) dX12_two_52 (by decide) ?_ ?_
            · refine g_iconst (v := 0) dX12_two_58 (by decide) ?_
              refine g_istore (ls' := [(4, vI 0), (0, vR v0), (1, vI v1), (2, vI v2), (3, vI v3)]) dX12_two_59 (Nat.le_of_ble_eq_true rfl) rfl ?_
              exact g_sub2 [1, 2, 3, 4, 0] rfl (s_X12_two_b61 hX FU v0 v1 v2 v3 0 h11)
            · refine g_bipush (v := (-3)) dX12_two_55 (by decide) ?_
              exact g_ireturn rfl dX12_two_57
        · refine g_iconst (v := (-1)) dX12_two_31 (by decide) ?_
          exact g_ireturn rfl dX12_two_32
abbrev p_X12_waits (X : GX) (h0 : AH) : PX Int32 := (X, (fun x => Sum.inl (rI x)), (6, 129, 5), h0)
def f_X12_waits_b27 : Nat → Option Nat → Int32 → Int32 → Int32 → Int32 → AH → Option (Int32 × AH)
  | 0 => fun _ _ _ _ _ _ => none
  | n + 1 => fun x0 x1 x2 x3 x4 h =>
    (gR h x0 [12] 0).bind fun t7 =>
    (iA h t7 0).bind fun t8 =>
    (if t8 ≤ x4 then
    some (x3, h)
    else (gR h x0 [12] 0).bind fun t9 =>
    bd (f_X12_isHere t9 x4 h) fun r11 h10 =>
    (if r11 = 0 then
    f_X12_waits_b27 n x0 x1 x2 x3 (x4 + 1) h10
    else (gR h10 x0 [12] 0).bind fun t12 =>
    (gR h10 x0 [12] 1).bind fun t13 =>
    bd (f_X12_copies t12 t13 h10) fun u15 h14 =>
    (gR h14 x0 [12] 1).bind fun t16 =>
    bd (f_X12_of x4 5 h14) fun r18 h17 =>
    (iA h17 t16 r18).bind fun t19 =>
    (iS h17 t16 r18 (t19 + 5)).bind fun h20 =>
    (gR h20 x0 [12] 1).bind fun t21 =>
    bd (f_X12_daysOn t21 x1 h20) fun u23 h22 =>
    (gR h22 x0 [12] 1).bind fun t24 =>
    (iA h22 t24 2).bind fun t25 =>
    (if x2 < t25 then
    (gR h22 x0 [12] 1).bind fun t26 =>
    (iA h22 t26 2).bind fun t27 =>
    f_X12_waits_b27 n x0 x1 t27 x4 (x4 + 1) h22
    else f_X12_waits_b27 n x0 x1 x2 x3 (x4 + 1) h22)))
set_option maxRecDepth 100000 in
set_option maxHeartbeats 4000000 in
theorem s_X12_waits_b27 {X : GX} (hX : XOK X) {h0 : AH} : ∀ (n : Nat) (x0 : Option Nat) (x1 : Int32) (x2 : Int32) (x3 : Int32) (x4 : Int32) (h : AH), Gp (p_X12_waits X h0) RX12 "waits" cX12_waits (some .int) 27 [(0, vR x0), (1, vI x1), (2, vI x2), (3, vI x3), (4, vI x4)] [] h (f_X12_waits_b27 n x0 x1 x2 x3 x4 h) := by
  intro n
  induction n with
  | zero => intro x0 x1 x2 x3 x4 h; exact g_none
  | succ n ih =>
    intro x0 x1 x2 x3 x4 h
    rw [f_X12_waits_b27]
    refine g_iload 4 dX12_waits_27 rfl ?_
    refine g_aload_n 0 dX12_waits_29 rfl rfl ?_
    refine g_getR kfl_X12_9 fo_X12_s dX12_waits_30 (fun t7 => ?_)
    refine g_iconst (v := 0) dX12_waits_33 (by decide) ?_
    refine g_iaload dX12_waits_34 (fun t8 => ?_)
    refine g_icmpge (tgt := 116) dX12_waits_35 (by decide) ?_ ?_
    · refine g_iload_n 3 dX12_waits_116 rfl rfl ?_
      exact g_ireturn rfl dX12_waits_117
    · refine g_aload_n 0 dX12_waits_38 rfl rfl ?_
      refine g_getR kfl_X12_9 fo_X12_s dX12_waits_39 (fun t9 => ?_)
      refine g_iload 4 dX12_waits_42 rfl ?_
      refine g_callSI (st := []) (s_X12_isHere hX t9 x4 h) kml_X12_61 kst_X12_isHere kii_X12 kcd_X12_isHere ds_X12_isHere rfl ⟨Nat.le_of_ble_eq_true rfl, Nat.le_of_ble_eq_true rfl⟩ (Nat.le_of_ble_eq_true rfl) rfl dX12_waits_44 (fun r11 h10 => ?_)
      refine g_ifne (tgt := 53) dX12_waits_47 (by decide) ?_ ?_
      · refine g_aload_n 0 dX12_waits_53 rfl rfl ?_
        refine g_getR kfl_X12_9 fo_X12_s dX12_waits_54 (fun t12 => ?_)
        refine g_aload_n 0 dX12_waits_57 rfl rfl ?_
        refine g_getR kfl_X12_13 fo_X12_m dX12_waits_58 (fun t13 => ?_)
        refine g_callSU (st := []) (s_X12_copies hX t12 t13 h10) kml_X12_141 kst_X12_copies kii_X12 kcd_X12_copies ds_X12_copies rfl ⟨Nat.le_of_ble_eq_true rfl, Nat.le_of_ble_eq_true rfl⟩ (Nat.le_of_ble_eq_true rfl) rfl dX12_waits_61 (fun u15 h14 => ?_)
        refine g_aload_n 0 dX12_waits_64 rfl rfl ?_
        refine g_getR kfl_X12_13 fo_X12_m dX12_waits_65 (fun t16 => ?_)
        refine g_iload 4 dX12_waits_68 rfl ?_
        refine g_iconst (v := 5) dX12_waits_70 (by decide) ?_
        refine g_callSI (st := [vR t16]) (s_X12_of hX x4 5 h14) kml_X12_53 kst_X12_of kii_X12 kcd_X12_of ds_X12_of rfl ⟨Nat.le_of_ble_eq_true rfl, Nat.le_of_ble_eq_true rfl⟩ (Nat.le_of_ble_eq_true rfl) rfl dX12_waits_71 (fun r18 h17 => ?_)
        refine g_dup2 dX12_waits_74 rfl rfl ?_
        refine g_iaload dX12_waits_75 (fun t19 => ?_)
        refine g_iconst (v := 5) dX12_waits_76 (by decide) ?_
        refine g_iadd dX12_waits_77 ?_
        refine g_iastore dX12_waits_78 (fun h20 => ?_)
        refine g_aload_n 0 dX12_waits_79 rfl rfl ?_
        refine g_getR kfl_X12_13 fo_X12_m dX12_waits_80 (fun t21 => ?_)
        refine g_iload_n 1 dX12_waits_83 rfl rfl ?_
        refine g_callSU (st := []) (s_X12_daysOn hX t21 x1 h20) kml_X12_131 kst_X12_daysOn kii_X12 kcd_X12_daysOn ds_X12_daysOn rfl ⟨Nat.le_of_ble_eq_true rfl, Nat.le_of_ble_eq_true rfl⟩ (Nat.le_of_ble_eq_true rfl) rfl dX12_waits_84 (fun u23 h22 => ?_)
        refine g_aload_n 0 dX12_waits_87 rfl rfl ?_
        refine g_getR kfl_X12_13 fo_X12_m dX12_waits_88 (fun t24 => ?_)
        refine g_iconst (v := 2) dX12_waits_91 (by decide) ?_
        refine g_iaload dX12_waits_92 (fun t25 => ?_)
        refine g_iload_n 2 dX12_waits_93 rfl rfl ?_
        refine g_icmpgt (tgt := 100) dX12_waits_94 (by decide) ?_ ?_
        · refine g_iload 4 dX12_waits_100 rfl ?_
          refine g_istore_n (ls' := [(3, vI x4), (0, vR x0), (1, vI x1), (2, vI x2), (4, vI x4)]) dX12_waits_102 rfl (Nat.le_of_ble_eq_true rfl) rfl ?_
          refine g_aload_n 1 dX12_waits_103 rfl rfl ?_
          refine g_getR kfl_X12_13 fo_X12_m dX12_waits_104 (fun t26 => ?_)
          refine g_iconst (v := 2) dX12_waits_107 (by decide) ?_
          refine g_iaload dX12_waits_108 (fun t27 => ?_)
          refine g_istore_n (ls' := [(2, vI t27), (3, vI x4), (0, vR x0), (1, vI x1), (4, vI x4)]) dX12_waits_109 rfl (Nat.le_of_ble_eq_true rfl) rfl ?_
          refine g_iinc 4 (v := (x4 + 1)) (ls' := [(4, vI ((x4 + 1))), (2, vI t27), (3, vI x4), (0, vR x0), (1, vI x1)]) dX12_waits_110 rfl rfl (Nat.le_of_ble_eq_true rfl) rfl ?_
          refine g_goto (tgt := 27) dX12_waits_113 (by decide) ?_
          exact g_sub2 [3, 4, 1, 2, 0] rfl (ih x0 x1 t27 x4 (x4 + 1) h22)
        · refine g_goto (tgt := 110) dX12_waits_97 (by decide) ?_
          refine g_iinc 4 (v := (x4 + 1)) (ls' := [(4, vI ((x4 + 1))), (0, vR x0), (1, vI x1), (2, vI x2), (3, vI x3)]) dX12_waits_110 rfl rfl (Nat.le_of_ble_eq_true rfl) rfl ?_
          refine g_goto (tgt := 27) dX12_waits_113 (by decide) ?_
          exact g_sub2 [1, 2, 3, 4, 0] rfl (ih x0 x1 x2 x3 (x4 + 1) h22)
      · refine g_goto (tgt := 110) dX12_waits_50 (by decide) ?_
        refine g_iinc 4 (v := (x4 + 1)) (ls' := [(4, vI ((x4 + 1))), (0, vR x0), (1, vI x1), (2, vI x2), (3, vI x3)]) dX12_waits_110 rfl rfl (Nat.le_of_ble_eq_true rfl) rfl ?_
        refine g_goto (tgt := 27) dX12_waits_113 (by decide) ?_
        exact g_sub2 [1, 2, 3, 4, 0] rfl (ih x0 x1 x2 x3 (x4 + 1) h10)
def f_X12_waits (v0 : Option Nat) (v1 : Int32) (h : AH) : Option (Int32 × AH) :=
    bd (f_X12_isLate v1 h) fun r2 h1 =>
    (if r2 = 0 then
    some ((-1), h1)
    else bd (cv h1 v0 12 (f_X12_takes v0 v1 h1)) fun u4 h3 =>
    (gR h3 v0 [12] 1).bind fun t5 =>
    (iA h3 t5 2).bind fun t6 =>
    f_X12_waits_b27 FU v0 v1 t6 (-4) 0 h3)
set_option maxRecDepth 100000 in
set_option maxHeartbeats 4000000 in
theorem s_X12_waits {X : GX} (hX : XOK X) (v0 : Option Nat) (v1 : Int32) (h : AH) : Snd X yX12_waits cX12_waits 5 (some .int) 6 129 rI [vR v0, vI v1] h (f_X12_waits v0 v1 h) := by
  refine snd_of hX (by decide +kernel) (Nat.le_of_ble_eq_true rfl) ?_
  show Gp (p_X12_waits X h) RX12 "waits" cX12_waits (some .int) 0 [(0, vR v0), (1, vI v1)] [] h _
  unfold f_X12_waits
  refine g_iload_n 1 dX12_waits_0 rfl rfl ?_
  refine g_callSI (st := []) (s_X12_isLate hX v1 h) kml_X12_155 kst_X12_isLate kii_X12 kcd_X12_isLate ds_X12_isLate rfl ⟨Nat.le_of_ble_eq_true rfl, Nat.le_of_ble_eq_true rfl⟩ (Nat.le_of_ble_eq_true rfl) rfl dX12_waits_1 (fun r2 h1 => ?_)
  refine g_ifne (tgt := 9) dX12_waits_4 (by decide) ?_ ?_
  · refine g_aload_n 0 dX12_waits_9 rfl rfl ?_
    refine g_iload_n 1 dX12_waits_10 rfl rfl ?_
    refine g_callVU (st := []) (ci := 12) rfl (s_X12_takes hX v0 v1 h1) kml_X12_158 kim_X12_takes kse_X12_takes kii_X12 kcd_X12_takes rfl ds_X12_takes rfl ⟨Nat.le_of_ble_eq_true rfl, Nat.le_of_ble_eq_true rfl⟩ (Nat.le_of_ble_eq_true rfl) rfl dX12_waits_11 (fun u4 h3 => ?_)
    refine g_aload_n 0 dX12_waits_14 rfl rfl ?_
    refine g_getR kfl_X12_13 fo_X12_m dX12_waits_15 (fun t5 => ?_)
    refine g_iconst (v := 2) dX12_waits_18 (by decide) ?_
    refine g_iaload dX12_waits_19 (fun t6 => ?_)
    refine g_istore_n (ls' := [(2, vI t6), (0, vR v0), (1, vI v1)]) dX12_waits_20 rfl (Nat.le_of_ble_eq_true rfl) rfl ?_
    refine g_bipush (v := (-4)) dX12_waits_21 (by decide) ?_
    refine g_istore_n (ls' := [(3, vI ((-4))), (2, vI t6), (0, vR v0), (1, vI v1)]) dX12_waits_23 rfl (Nat.le_of_ble_eq_true rfl) rfl ?_
    refine g_iconst (v := 0) dX12_waits_24 (by decide) ?_
    refine g_istore (ls' := [(4, vI 0), (3, vI ((-4))), (2, vI t6), (0, vR v0), (1, vI v1)]) dX12_waits_25 (Nat.le_of_ble_eq_true rfl) rfl ?_
    exact g_sub2 [3, 4, 2, 1, 0] rfl (s_X12_waits_b27 hX FU v0 v1 t6 (-4) 0 h3)
  · refine g_iconst (v := (-1)) dX12_waits_7 (by decide) ?_
    exact g_ireturn rfl dX12_waits_8
abbrev p_X12_weighs (X : GX) (h0 : AH) : PX Int32 := (X, (fun x => Sum.inl (rI x)), (2, 43, 4), h0)
def f_X12_weighs (v0 : Option Nat) (v1 : Int32) (v2 : Int32) (h : AH) : Option (Int32 × AH) :=
    bd (cv h v0 12 (f_X12_isGuest v0 v1 h)) fun r2 h1 =>
    (if r2 = 0 then
    some ((-1), h1)
    else bd (f_X12_isIn v2 0 99 h1) fun r4 h3 =>
    (if r4 = 0 then
    some ((-1), h3)
    else (gR h3 v0 [12] 0).bind fun t5 =>
    bd (f_X12_isHere t5 v1 h3) fun r7 h6 =>
    (if r7 = 0 then
    some ((-3), h6)
    else (gR h6 v0 [12] 0).bind fun t8 =>
    bd (f_X12_of v1 2 h6) fun r10 h9 =>
    (iA h9 t8 r10).bind fun t11 =>
    (gR h9 v0 [12] 0).bind fun t12 =>
    bd (f_X12_of v1 2 h9) fun r14 h13 =>
    (iS h13 t12 r14 v2).bind fun h15 =>
    some (t11, h15))))
set_option maxRecDepth 100000 in
set_option maxHeartbeats 4000000 in
theorem s_X12_weighs {X : GX} (hX : XOK X) (v0 : Option Nat) (v1 : Int32) (v2 : Int32) (h : AH) : Snd X yX12_weighs cX12_weighs 4 (some .int) 2 43 rI [vR v0, vI v1, vI v2] h (f_X12_weighs v0 v1 v2 h) := by
  refine snd_of hX (by decide +kernel) (Nat.le_of_ble_eq_true rfl) ?_
  show Gp (p_X12_weighs X h) RX12 "weighs" cX12_weighs (some .int) 0 [(0, vR v0), (1, vI v1), (2, vI v2)] [] h _
  unfold f_X12_weighs
  refine g_aload_n 0 dX12_weighs_0 rfl rfl ?_
  refine g_iload_n 1 dX12_weighs_1 rfl rfl ?_
  refine g_callVI (st := []) (ci := 12) rfl (s_X12_isGuest hX v0 v1 h) kml_X12_113 kim_X12_isGuest kse_X12_isGuest kii_X12 kcd_X12_isGuest rfl ds_X12_isGuest rfl ⟨Nat.le_of_ble_eq_true rfl, Nat.le_of_ble_eq_true rfl⟩ (Nat.le_of_ble_eq_true rfl) rfl dX12_weighs_2 (fun r2 h1 => ?_)
  refine g_ifeq (tgt := 18) dX12_weighs_5 (by decide) ?_ ?_
  · refine g_iconst (v := (-1)) dX12_weighs_18 (by decide) ?_
    exact g_ireturn rfl dX12_weighs_19
  · refine g_iload_n 2 dX12_weighs_8 rfl rfl ?_
    refine g_iconst (v := 0) dX12_weighs_9 (by decide) ?_
    refine g_bipush (v := 99) dX12_weighs_10 (by decide) ?_
    refine g_callSI (st := []) (s_X12_isIn hX v2 0 99 h1) kml_X12_49 kst_X12_isIn kii_X12 kcd_X12_isIn ds_X12_isIn rfl ⟨Nat.le_of_ble_eq_true rfl, Nat.le_of_ble_eq_true rfl⟩ (Nat.le_of_ble_eq_true rfl) rfl dX12_weighs_12 (fun r4 h3 => ?_)
    refine g_ifne (tgt := 20) dX12_weighs_15 (by decide) ?_ ?_
    · refine g_aload_n 0 dX12_weighs_20 rfl rfl ?_
      refine g_getR kfl_X12_9 fo_X12_s dX12_weighs_21 (fun t5 => ?_)
      refine g_iload_n 1 dX12_weighs_24 rfl rfl ?_
      refine g_callSI (st := []) (s_X12_isHere hX t5 v1 h3) kml_X12_61 kst_X12_isHere kii_X12 kcd_X12_isHere ds_X12_isHere rfl ⟨Nat.le_of_ble_eq_true rfl, Nat.le_of_ble_eq_true rfl⟩ (Nat.le_of_ble_eq_true rfl) rfl dX12_weighs_25 (fun r7 h6 => ?_)
      refine g_ifne (tgt := 34) dX12_weighs_28 (by decide) ?_ ?_
      · refine g_aload_n 0 dX12_weighs_34 rfl rfl ?_
        refine g_getR kfl_X12_9 fo_X12_s dX12_weighs_35 (fun t8 => ?_)
        refine g_iload_n 1 dX12_weighs_38 rfl rfl ?_
        refine g_iconst (v := 2) dX12_weighs_39 (by decide) ?_
        refine g_callSI (st := [vR t8]) (s_X12_of hX v1 2 h6) kml_X12_53 kst_X12_of kii_X12 kcd_X12_of ds_X12_of rfl ⟨Nat.le_of_ble_eq_true rfl, Nat.le_of_ble_eq_true rfl⟩ (Nat.le_of_ble_eq_true rfl) rfl dX12_weighs_40 (fun r10 h9 => ?_)
        refine g_iaload dX12_weighs_43 (fun t11 => ?_)
        refine g_istore_n (ls' := [(3, vI t11), (0, vR v0), (1, vI v1), (2, vI v2)]) dX12_weighs_44 rfl (Nat.le_of_ble_eq_true rfl) rfl ?_
        refine g_aload_n 1 dX12_weighs_45 rfl rfl ?_
        refine g_getR kfl_X12_9 fo_X12_s dX12_weighs_46 (fun t12 => ?_)
        refine g_iload_n 2 dX12_weighs_49 rfl rfl ?_
        refine g_iconst (v := 2) dX12_weighs_50 (by decide) ?_
        refine g_callSI (st := [vR t12]) (s_X12_of hX v1 2 h9) kml_X12_53 kst_X12_of kii_X12 kcd_X12_of ds_X12_of rfl ⟨Nat.le_of_ble_eq_true rfl, Nat.le_of_ble_eq_true rfl⟩ (Nat.le_of_ble_eq_true rfl) rfl dX12_weighs_51 (fun r14 h13 => ?_)
        refine g_iload_n 3 dX12_weighs_54 rfl rfl ?_
        refine g_iastore dX12_weighs_55 (fun h15 => ?_)
        refine g_iload_n 0 dX12_weighs_56 rfl rfl ?_
        exact g_ireturn rfl dX12_weighs_57
      · refine g_bipush (v := (-3)) dX12_weighs_31 (by decide) ?_
        exact g_ireturn rfl dX12_weighs_33
    · refine g_iconst (v := (-1)) dX12_weighs_18 (by decide) ?_
      exact g_ireturn rfl dX12_weighs_19
abbrev p_X12_weightThen (X : GX) (h0 : AH) : PX Int32 := (X, (fun x => Sum.inl (rI x)), (6, 129, 3), h0)
def f_X12_weightThen (v0 : Option Nat) (v1 : Int32) (v2 : Int32) (h : AH) : Option (Int32 × AH) :=
    bd (cv h v0 12 (f_X12_isGuest v0 v1 h)) fun r2 h1 =>
    (if r2 = 0 then
    some ((-1), h1)
    else bd (f_X12_isLate v2 h1) fun r4 h3 =>
    (if r4 = 0 then
    some ((-1), h3)
    else bd (cv h3 v0 12 (f_X12_takes v0 v2 h3)) fun u6 h5 =>
    (gR h5 v0 [12] 1).bind fun t7 =>
    bd (f_X12_of v1 2 h5) fun r9 h8 =>
    (iA h8 t7 r9).bind fun t10 =>
    some (t10, h8)))
set_option maxRecDepth 100000 in
set_option maxHeartbeats 4000000 in
theorem s_X12_weightThen {X : GX} (hX : XOK X) (v0 : Option Nat) (v1 : Int32) (v2 : Int32) (h : AH) : Snd X yX12_weightThen cX12_weightThen 3 (some .int) 6 129 rI [vR v0, vI v1, vI v2] h (f_X12_weightThen v0 v1 v2 h) := by
  refine snd_of hX (by decide +kernel) (Nat.le_of_ble_eq_true rfl) ?_
  show Gp (p_X12_weightThen X h) RX12 "weightThen" cX12_weightThen (some .int) 0 [(0, vR v0), (1, vI v1), (2, vI v2)] [] h _
  unfold f_X12_weightThen
  refine g_aload_n 0 dX12_weightThen_0 rfl rfl ?_
  refine g_iload_n 1 dX12_weightThen_1 rfl rfl ?_
  refine g_callVI (st := []) (ci := 12) rfl (s_X12_isGuest hX v0 v1 h) kml_X12_113 kim_X12_isGuest kse_X12_isGuest kii_X12 kcd_X12_isGuest rfl ds_X12_isGuest rfl ⟨Nat.le_of_ble_eq_true rfl, Nat.le_of_ble_eq_true rfl⟩ (Nat.le_of_ble_eq_true rfl) rfl dX12_weightThen_2 (fun r2 h1 => ?_)
  refine g_ifeq (tgt := 15) dX12_weightThen_5 (by decide) ?_ ?_
  · refine g_iconst (v := (-1)) dX12_weightThen_15 (by decide) ?_
    exact g_ireturn rfl dX12_weightThen_16
  · refine g_iload_n 2 dX12_weightThen_8 rfl rfl ?_
    refine g_callSI (st := []) (s_X12_isLate hX v2 h1) kml_X12_155 kst_X12_isLate kii_X12 kcd_X12_isLate ds_X12_isLate rfl ⟨Nat.le_of_ble_eq_true rfl, Nat.le_of_ble_eq_true rfl⟩ (Nat.le_of_ble_eq_true rfl) rfl dX12_weightThen_9 (fun r4 h3 => ?_)
    refine g_ifne (tgt := 17) dX12_weightThen_12 (by decide) ?_ ?_
    · refine g_aload_n 0 dX12_weightThen_17 rfl rfl ?_
      refine g_iload_n 2 dX12_weightThen_18 rfl rfl ?_
      refine g_callVU (st := []) (ci := 12) rfl (s_X12_takes hX v0 v2 h3) kml_X12_158 kim_X12_takes kse_X12_takes kii_X12 kcd_X12_takes rfl ds_X12_takes rfl ⟨Nat.le_of_ble_eq_true rfl, Nat.le_of_ble_eq_true rfl⟩ (Nat.le_of_ble_eq_true rfl) rfl dX12_weightThen_19 (fun u6 h5 => ?_)
      refine g_aload_n 0 dX12_weightThen_22 rfl rfl ?_
      refine g_getR kfl_X12_13 fo_X12_m dX12_weightThen_23 (fun t7 => ?_)
      refine g_iload_n 1 dX12_weightThen_26 rfl rfl ?_
      refine g_iconst (v := 2) dX12_weightThen_27 (by decide) ?_
      refine g_callSI (st := [vR t7]) (s_X12_of hX v1 2 h5) kml_X12_53 kst_X12_of kii_X12 kcd_X12_of ds_X12_of rfl ⟨Nat.le_of_ble_eq_true rfl, Nat.le_of_ble_eq_true rfl⟩ (Nat.le_of_ble_eq_true rfl) rfl dX12_weightThen_28 (fun r9 h8 => ?_)
      refine g_iaload dX12_weightThen_31 (fun t10 => ?_)
      exact g_ireturn rfl dX12_weightThen_32
    · refine g_iconst (v := (-1)) dX12_weightThen_15 (by decide) ?_
      exact g_ireturn rfl dX12_weightThen_16
abbrev p_X12_whatIs (X : GX) (h0 : AH) : PX Int32 := (X, (fun x => Sum.inl (rI x)), (4, 86, 9), h0)
def f_X12_whatIs_b148 (k41 : Option Nat → Int32 → Int32 → Int32 → Int32 → Int32 → AH → Option (Int32 × AH)) (x0 : Option Nat) (x1 : Int32) (x2 : Int32) (x3 : Int32) (x6 : Int32) (y1 : Int32) (y0 : Int32) (h : AH) : Option (Int32 × AH) :=
    nm (y0 ||| y1) fun t17 =>
    k41 x0 x1 x2 x3 t17 (x6 + 1) h
set_option maxRecDepth 100000 in
set_option maxHeartbeats 4000000 in
theorem s_X12_whatIs_b148 {X : GX} (hX : XOK X) {h0 : AH} (k41 : Option Nat → Int32 → Int32 → Int32 → Int32 → Int32 → AH → Option (Int32 × AH)) (hk41 : ∀ (z0 : Option Nat) (z1 : Int32) (z2 : Int32) (z3 : Int32) (z4 : Int32) (z5 : Int32) (h : AH), Gp (p_X12_whatIs X h0) RX12 "whatIs" cX12_whatIs (some .int) 41 [(0, vR z0), (1, vI z1), (2, vI z2), (3, vI z3), (5, vI z4), (6, vI z5)] [] h (k41 z0 z1 z2 z3 z4 z5 h)) : ∀ (x0 : Option Nat) (x1 : Int32) (x2 : Int32) (x3 : Int32) (x6 : Int32) (y1 : Int32) (y0 : Int32) (h : AH), Gp (p_X12_whatIs X h0) RX12 "whatIs" cX12_whatIs (some .int) 148 [(0, vR x0), (1, vI x1), (2, vI x2), (3, vI x3), (6, vI x6)] [vI y1, vI y0] h (f_X12_whatIs_b148 k41 x0 x1 x2 x3 x6 y1 y0 h) := by
  intro x0 x1 x2 x3 x6 y1 y0 h
  unfold f_X12_whatIs_b148
  refine g_ior dX12_whatIs_148 ?_
  refine g_nmI (fun t17 => ?_)
  refine g_istore (ls' := [(5, vI t17), (0, vR x0), (1, vI x1), (2, vI x2), (3, vI x3), (6, vI x6)]) dX12_whatIs_149 (Nat.le_of_ble_eq_true rfl) rfl ?_
  refine g_iinc 5 (v := (x6 + 1)) (ls' := [(6, vI ((x6 + 1))), (5, vI t17), (0, vR x0), (1, vI x1), (2, vI x2), (3, vI x3)]) dX12_whatIs_151 rfl rfl (Nat.le_of_ble_eq_true rfl) rfl ?_
  refine g_goto (tgt := 41) dX12_whatIs_154 (by decide) ?_
  exact g_sub2 [2, 3, 4, 5, 1, 0] rfl (hk41 x0 x1 x2 x3 t17 (x6 + 1) h)
def f_X12_whatIs_b86 (k41 : Option Nat → Int32 → Int32 → Int32 → Int32 → Int32 → AH → Option (Int32 × AH)) : Nat → Option Nat → Int32 → Int32 → Int32 → Int32 → Int32 → Int32 → Int32 → AH → Option (Int32 × AH)
  | 0 => fun _ _ _ _ _ _ _ _ _ => none
  | n + 1 => fun x0 x1 x2 x3 x5 x6 x7 x8 h =>
    (gR h x0 [12] 16).bind fun t15 =>
    (iA h t15 x1).bind fun t16 =>
    (if t16 ≤ x8 then
    (if x7 = 0 then
    f_X12_whatIs_b148 k41 x0 x1 x2 x3 x6 0 x5 h
    else f_X12_whatIs_b148 k41 x0 x1 x2 x3 x6 ((1 : Int32) <<< (x6 &&& 31)) x5 h)
    else (gR h x0 [12] 1).bind fun t18 =>
    bd (f_X12_of x2 2 h) fun r20 h19 =>
    (iA h19 t18 r20).bind fun t21 =>
    bd (cv h19 x0 12 (f_X12_isTold x0 x1 x8 t21 h19)) fun r23 h22 =>
    nm (x7 &&& r23) fun t24 =>
    (gR h22 x0 [12] 1).bind fun t25 =>
    bd (f_X12_day t25 0 h22) fun u27 h26 =>
    f_X12_whatIs_b86 k41 n x0 x1 x2 x3 x5 x6 t24 (x8 + 1) h26)
set_option maxRecDepth 100000 in
set_option maxHeartbeats 4000000 in
theorem s_X12_whatIs_b86 {X : GX} (hX : XOK X) {h0 : AH} (k41 : Option Nat → Int32 → Int32 → Int32 → Int32 → Int32 → AH → Option (Int32 × AH)) (hk41 : ∀ (z0 : Option Nat) (z1 : Int32) (z2 : Int32) (z3 : Int32) (z4 : Int32) (z5 : Int32) (h : AH), Gp (p_X12_whatIs X h0) RX12 "whatIs" cX12_whatIs (some .int) 41 [(0, vR z0), (1, vI z1), (2, vI z2), (3, vI z3), (5, vI z4), (6, vI z5)] [] h (k41 z0 z1 z2 z3 z4 z5 h)) : ∀ (n : Nat) (x0 : Option Nat) (x1 : Int32) (x2 : Int32) (x3 : Int32) (x5 : Int32) (x6 : Int32) (x7 : Int32) (x8 : Int32) (h : AH), Gp (p_X12_whatIs X h0) RX12 "whatIs" cX12_whatIs (some .int) 86 [(0, vR x0), (1, vI x1), (2, vI x2), (3, vI x3), (5, vI x5), (6, vI x6), (7, vI x7), (8, vI x8)] [] h (f_X12_whatIs_b86 k41 n x0 x1 x2 x3 x5 x6 x7 x8 h) := by
  intro n
  induction n with
  | zero => intro x0 x1 x2 x3 x5 x6 x7 x8 h; exact g_none
  | succ n ih =>
    intro x0 x1 x2 x3 x5 x6 x7 x8 h
    rw [f_X12_whatIs_b86]
    refine g_iload 7 dX12_whatIs_86 rfl ?_
    refine g_aload_n 0 dX12_whatIs_88 rfl rfl ?_
    refine g_getR kfl_X12_43 fo_X12_size dX12_whatIs_89 (fun t15 => ?_)
    refine g_iload_n 1 dX12_whatIs_92 rfl rfl ?_
    refine g_iaload dX12_whatIs_93 (fun t16 => ?_)
    refine g_icmpge (tgt := 133) dX12_whatIs_94 (by decide) ?_ ?_
    · refine g_iload 4 dX12_whatIs_133 rfl ?_
      refine g_iload 6 dX12_whatIs_135 rfl ?_
      refine g_ifeq (tgt := 147) dX12_whatIs_137 (by decide) ?_ ?_
      · refine g_iconst (v := 0) dX12_whatIs_147 (by decide) ?_
        exact g_sub2 [0, 1, 2, 3, 5] rfl (s_X12_whatIs_b148 hX k41 (fun z0 z1 z2 z3 z4 z5 z6 => hk41 z0 z1 z2 z3 z4 z5 z6) x0 x1 x2 x3 x6 0 x5 h)
      · refine g_iconst (v := 1) dX12_whatIs_140 (by decide) ?_
        refine g_iload 5 dX12_whatIs_141 rfl ?_
        refine g_ishl dX12_whatIs_143 ?_
        refine g_goto (tgt := 148) dX12_whatIs_144 (by decide) ?_
        exact g_sub2 [0, 1, 2, 3, 5] rfl (s_X12_whatIs_b148 hX k41 (fun z0 z1 z2 z3 z4 z5 z6 => hk41 z0 z1 z2 z3 z4 z5 z6) x0 x1 x2 x3 x6 ((1 : Int32) <<< (x6 &&& 31)) x5 h)
    · refine g_iload 6 dX12_whatIs_97 rfl ?_
      refine g_aload_n 0 dX12_whatIs_99 rfl rfl ?_
      refine g_iload_n 1 dX12_whatIs_100 rfl rfl ?_
      refine g_iload 7 dX12_whatIs_101 rfl ?_
      refine g_aload_n 0 dX12_whatIs_103 rfl rfl ?_
      refine g_getR kfl_X12_13 fo_X12_m dX12_whatIs_104 (fun t18 => ?_)
      refine g_iload_n 2 dX12_whatIs_107 rfl rfl ?_
      refine g_iconst (v := 2) dX12_whatIs_108 (by decide) ?_
      refine g_callSI (st := [vR t18, vI x8, vI x1, vR x0, vI x7]) (s_X12_of hX x2 2 h) kml_X12_53 kst_X12_of kii_X12 kcd_X12_of ds_X12_of rfl ⟨Nat.le_of_ble_eq_true rfl, Nat.le_of_ble_eq_true rfl⟩ (Nat.le_of_ble_eq_true rfl) rfl dX12_whatIs_109 (fun r20 h19 => ?_)
      refine g_iaload dX12_whatIs_112 (fun t21 => ?_)
      refine g_callVI (st := [vI x7]) (ci := 12) rfl (s_X12_isTold hX x0 x1 x8 t21 h19) kml_X12_207 kim_X12_isTold kse_X12_isTold kii_X12 kcd_X12_isTold rfl ds_X12_isTold rfl ⟨Nat.le_of_ble_eq_true rfl, Nat.le_of_ble_eq_true rfl⟩ (Nat.le_of_ble_eq_true rfl) rfl dX12_whatIs_113 (fun r23 h22 => ?_)
      refine g_iand dX12_whatIs_116 ?_
      refine g_nmI (fun t24 => ?_)
      refine g_istore (ls' := [(7, vI t24), (0, vR x0), (1, vI x1), (2, vI x2), (3, vI x3), (5, vI x5), (6, vI x6), (8, vI x8)]) dX12_whatIs_117 (Nat.le_of_ble_eq_true rfl) rfl ?_
      refine g_aload_n 1 dX12_whatIs_119 rfl rfl ?_
      refine g_getR kfl_X12_13 fo_X12_m dX12_whatIs_120 (fun t25 => ?_)
      refine g_iconst (v := 0) dX12_whatIs_123 (by decide) ?_
      refine g_callSU (st := []) (s_X12_day hX t25 0 h22) kml_X12_82 kst_X12_day kii_X12 kcd_X12_day ds_X12_day rfl ⟨Nat.le_of_ble_eq_true rfl, Nat.le_of_ble_eq_true rfl⟩ (Nat.le_of_ble_eq_true rfl) rfl dX12_whatIs_124 (fun u27 h26 => ?_)
      refine g_iinc 7 (v := (x8 + 1)) (ls' := [(8, vI ((x8 + 1))), (7, vI t24), (0, vR x0), (1, vI x1), (2, vI x2), (3, vI x3), (5, vI x5), (6, vI x6)]) dX12_whatIs_127 rfl rfl (Nat.le_of_ble_eq_true rfl) rfl ?_
      refine g_goto (tgt := 86) dX12_whatIs_130 (by decide) ?_
      exact g_sub2 [2, 3, 4, 5, 6, 7, 1, 0] rfl (ih x0 x1 x2 x3 x5 x6 t24 (x8 + 1) h26)
def f_X12_whatIs_b54 (k41 : Option Nat → Int32 → Int32 → Int32 → Int32 → Int32 → AH → Option (Int32 × AH)) (x0 : Option Nat) (x1 : Int32) (x2 : Int32) (x3 : Int32) (x5 : Int32) (x6 : Int32) (y1 : Int32) (y0 : Int32) (h : AH) : Option (Int32 × AH) :=
    (if y1 ≤ y0 then
    some (x5, h)
    else (gR h x0 [12] 0).bind fun t7 =>
    (gR h x0 [12] 1).bind fun t8 =>
    bd (f_X12_copies t7 t8 h) fun u10 h9 =>
    (gR h9 x0 [12] 1).bind fun t11 =>
    bd (f_X12_of x2 x3 h9) fun r13 h12 =>
    (iS h12 t11 r13 x6).bind fun h14 =>
    f_X12_whatIs_b86 k41 FU x0 x1 x2 x3 x5 x6 1 0 h14)
set_option maxRecDepth 100000 in
set_option maxHeartbeats 4000000 in
theorem s_X12_whatIs_b54 {X : GX} (hX : XOK X) {h0 : AH} (k41 : Option Nat → Int32 → Int32 → Int32 → Int32 → Int32 → AH → Option (Int32 × AH)) (hk41 : ∀ (z0 : Option Nat) (z1 : Int32) (z2 : Int32) (z3 : Int32) (z4 : Int32) (z5 : Int32) (h : AH), Gp (p_X12_whatIs X h0) RX12 "whatIs" cX12_whatIs (some .int) 41 [(0, vR z0), (1, vI z1), (2, vI z2), (3, vI z3), (5, vI z4), (6, vI z5)] [] h (k41 z0 z1 z2 z3 z4 z5 h)) : ∀ (x0 : Option Nat) (x1 : Int32) (x2 : Int32) (x3 : Int32) (x5 : Int32) (x6 : Int32) (y1 : Int32) (y0 : Int32) (h : AH), Gp (p_X12_whatIs X h0) RX12 "whatIs" cX12_whatIs (some .int) 54 [(0, vR x0), (1, vI x1), (2, vI x2), (3, vI x3), (5, vI x5), (6, vI x6)] [vI y1, vI y0] h (f_X12_whatIs_b54 k41 x0 x1 x2 x3 x5 x6 y1 y0 h) := by
  intro x0 x1 x2 x3 x5 x6 y1 y0 h
  unfold f_X12_whatIs_b54
  refine g_icmpge (tgt := 157) dX12_whatIs_54 (by decide) ?_ ?_
  · refine g_iload 4 dX12_whatIs_157 rfl ?_
    exact g_ireturn rfl dX12_whatIs_159
  · refine g_iconst (v := 1) dX12_whatIs_57 (by decide) ?_
    refine g_istore (ls' := [(7, vI 1), (0, vR x0), (1, vI x1), (2, vI x2), (3, vI x3), (5, vI x5), (6, vI x6)]) dX12_whatIs_58 (Nat.le_of_ble_eq_true rfl) rfl ?_
    refine g_aload_n 1 dX12_whatIs_60 rfl rfl ?_
    refine g_getR kfl_X12_9 fo_X12_s dX12_whatIs_61 (fun t7 => ?_)
    refine g_aload_n 1 dX12_whatIs_64 rfl rfl ?_
    refine g_getR kfl_X12_13 fo_X12_m dX12_whatIs_65 (fun t8 => ?_)
    refine g_callSU (st := []) (s_X12_copies hX t7 t8 h) kml_X12_141 kst_X12_copies kii_X12 kcd_X12_copies ds_X12_copies rfl ⟨Nat.le_of_ble_eq_true rfl, Nat.le_of_ble_eq_true rfl⟩ (Nat.le_of_ble_eq_true rfl) rfl dX12_whatIs_68 (fun u10 h9 => ?_)
    refine g_aload_n 1 dX12_whatIs_71 rfl rfl ?_
    refine g_getR kfl_X12_13 fo_X12_m dX12_whatIs_72 (fun t11 => ?_)
    refine g_iload_n 3 dX12_whatIs_75 rfl rfl ?_
    refine g_iload_n 4 dX12_whatIs_76 rfl rfl ?_
    refine g_callSI (st := [vR t11]) (s_X12_of hX x2 x3 h9) kml_X12_53 kst_X12_of kii_X12 kcd_X12_of ds_X12_of rfl ⟨Nat.le_of_ble_eq_true rfl, Nat.le_of_ble_eq_true rfl⟩ (Nat.le_of_ble_eq_true rfl) rfl dX12_whatIs_77 (fun r13 h12 => ?_)
    refine g_iload 6 dX12_whatIs_80 rfl ?_
    refine g_iastore dX12_whatIs_82 (fun h14 => ?_)
    refine g_iconst (v := 0) dX12_whatIs_83 (by decide) ?_
    refine g_istore (ls' := [(8, vI 0), (7, vI 1), (0, vR x0), (1, vI x1), (2, vI x2), (3, vI x3), (5, vI x5), (6, vI x6)]) dX12_whatIs_84 (Nat.le_of_ble_eq_true rfl) rfl ?_
    exact g_sub2 [2, 3, 4, 5, 6, 7, 1, 0] rfl (s_X12_whatIs_b86 hX k41 (fun z0 z1 z2 z3 z4 z5 z6 => hk41 z0 z1 z2 z3 z4 z5 z6) FU x0 x1 x2 x3 x5 x6 1 0 h14)
def f_X12_whatIs_b41 : Nat → Option Nat → Int32 → Int32 → Int32 → Int32 → Int32 → AH → Option (Int32 × AH)
  | 0 => fun _ _ _ _ _ _ _ => none
  | n + 1 => fun x0 x1 x2 x3 x5 x6 h =>
    (if x3 = 0 then
    f_X12_whatIs_b54 (f_X12_whatIs_b41 n) x0 x1 x2 x3 x5 x6 8 x6 h
    else f_X12_whatIs_b54 (f_X12_whatIs_b41 n) x0 x1 x2 x3 x5 x6 10 x6 h)
set_option maxRecDepth 100000 in
set_option maxHeartbeats 4000000 in
theorem s_X12_whatIs_b41 {X : GX} (hX : XOK X) {h0 : AH} : ∀ (n : Nat) (x0 : Option Nat) (x1 : Int32) (x2 : Int32) (x3 : Int32) (x5 : Int32) (x6 : Int32) (h : AH), Gp (p_X12_whatIs X h0) RX12 "whatIs" cX12_whatIs (some .int) 41 [(0, vR x0), (1, vI x1), (2, vI x2), (3, vI x3), (5, vI x5), (6, vI x6)] [] h (f_X12_whatIs_b41 n x0 x1 x2 x3 x5 x6 h) := by
  intro n
  induction n with
  | zero => intro x0 x1 x2 x3 x5 x6 h; exact g_none
  | succ n ih =>
    intro x0 x1 x2 x3 x5 x6 h
    rw [f_X12_whatIs_b41]
    refine g_iload 5 dX12_whatIs_41 rfl ?_
    refine g_iload_n 3 dX12_whatIs_43 rfl rfl ?_
    refine g_ifne (tgt := 52) dX12_whatIs_44 (by decide) ?_ ?_
    · refine g_bipush (v := 10) dX12_whatIs_52 (by decide) ?_
      exact g_sub2 [0, 1, 2, 3, 4, 5] rfl (s_X12_whatIs_b54 hX (f_X12_whatIs_b41 n) (fun z0 z1 z2 z3 z4 z5 z6 => ih z0 z1 z2 z3 z4 z5 z6) x0 x1 x2 x3 x5 x6 10 x6 h)
    · refine g_bipush (v := 8) dX12_whatIs_47 (by decide) ?_
      refine g_goto (tgt := 54) dX12_whatIs_49 (by decide) ?_
      exact g_sub2 [0, 1, 2, 3, 4, 5] rfl (s_X12_whatIs_b54 hX (f_X12_whatIs_b41 n) (fun z0 z1 z2 z3 z4 z5 z6 => ih z0 z1 z2 z3 z4 z5 z6) x0 x1 x2 x3 x5 x6 8 x6 h)
def f_X12_whatIs (v0 : Option Nat) (v1 : Int32) (v2 : Int32) (v3 : Int32) (h : AH) : Option (Int32 × AH) :=
    bd (cv h v0 12 (f_X12_isGuest v0 v2 h)) fun r2 h1 =>
    (if r2 = 0 then
    some ((-1), h1)
    else bd (f_X12_isIn v3 0 1 h1) fun r4 h3 =>
    (if r4 = 0 then
    some ((-1), h3)
    else bd (cv h3 v0 12 (f_X12_wrongRow v0 v1 (-1) h3)) fun r6 h5 =>
    (if r6 = 0 then
    f_X12_whatIs_b41 FU v0 v1 v2 v3 0 0 h5
    else some (r6, h5))))
set_option maxRecDepth 100000 in
set_option maxHeartbeats 4000000 in
theorem s_X12_whatIs {X : GX} (hX : XOK X) (v0 : Option Nat) (v1 : Int32) (v2 : Int32) (v3 : Int32) (h : AH) : Snd X yX12_whatIs cX12_whatIs 9 (some .int) 4 86 rI [vR v0, vI v1, vI v2, vI v3] h (f_X12_whatIs v0 v1 v2 v3 h) := by
  refine snd_of hX (by decide +kernel) (Nat.le_of_ble_eq_true rfl) ?_
  show Gp (p_X12_whatIs X h) RX12 "whatIs" cX12_whatIs (some .int) 0 [(0, vR v0), (1, vI v1), (2, vI v2), (3, vI v3)] [] h _
  unfold f_X12_whatIs
  refine g_aload_n 0 dX12_whatIs_0 rfl rfl ?_
  refine g_iload_n 2 dX12_whatIs_1 rfl rfl ?_
  refine g_callVI (st := []) (ci := 12) rfl (s_X12_isGuest hX v0 v2 h) kml_X12_113 kim_X12_isGuest kse_X12_isGuest kii_X12 kcd_X12_isGuest rfl ds_X12_isGuest rfl ⟨Nat.le_of_ble_eq_true rfl, Nat.le_of_ble_eq_true rfl⟩ (Nat.le_of_ble_eq_true rfl) rfl dX12_whatIs_2 (fun r2 h1 => ?_)
  refine g_ifeq (tgt := 17) dX12_whatIs_5 (by decide) ?_ ?_
  · refine g_iconst (v := (-1)) dX12_whatIs_17 (by decide) ?_
    exact g_ireturn rfl dX12_whatIs_18
  · refine g_iload_n 3 dX12_whatIs_8 rfl rfl ?_
    refine g_iconst (v := 0) dX12_whatIs_9 (by decide) ?_
    refine g_iconst (v := 1) dX12_whatIs_10 (by decide) ?_
    refine g_callSI (st := []) (s_X12_isIn hX v3 0 1 h1) kml_X12_49 kst_X12_isIn kii_X12 kcd_X12_isIn ds_X12_isIn rfl ⟨Nat.le_of_ble_eq_true rfl, Nat.le_of_ble_eq_true rfl⟩ (Nat.le_of_ble_eq_true rfl) rfl dX12_whatIs_11 (fun r4 h3 => ?_)
    refine g_ifne (tgt := 19) dX12_whatIs_14 (by decide) ?_ ?_
    · refine g_aload_n 0 dX12_whatIs_19 rfl rfl ?_
      refine g_iload_n 1 dX12_whatIs_20 rfl rfl ?_
      refine g_iconst (v := (-1)) dX12_whatIs_21 (by decide) ?_
      refine g_callVI (st := []) (ci := 12) rfl (s_X12_wrongRow hX v0 v1 (-1) h3) kml_X12_134 kim_X12_wrongRow kse_X12_wrongRow kii_X12 kcd_X12_wrongRow rfl ds_X12_wrongRow rfl ⟨Nat.le_of_ble_eq_true rfl, Nat.le_of_ble_eq_true rfl⟩ (Nat.le_of_ble_eq_true rfl) rfl dX12_whatIs_22 (fun r6 h5 => ?_)
      refine g_istore (ls' := [(4, vI r6), (0, vR v0), (1, vI v1), (2, vI v2), (3, vI v3)]) dX12_whatIs_25 (Nat.le_of_ble_eq_true rfl) rfl ?_
      refine g_iload 0 dX12_whatIs_27 rfl ?_
      refine g_ifeq (tgt := 35) dX12_whatIs_29 (by decide) ?_ ?_
      · refine g_iconst (v := 0) dX12_whatIs_35 (by decide) ?_
        refine g_istore (ls' := [(5, vI 0), (4, vI r6), (0, vR v0), (1, vI v1), (2, vI v2), (3, vI v3)]) dX12_whatIs_36 (Nat.le_of_ble_eq_true rfl) rfl ?_
        refine g_iconst (v := 0) dX12_whatIs_38 (by decide) ?_
        refine g_istore (ls' := [(6, vI 0), (5, vI 0), (4, vI r6), (0, vR v0), (1, vI v1), (2, vI v2), (3, vI v3)]) dX12_whatIs_39 (Nat.le_of_ble_eq_true rfl) rfl ?_
        exact g_sub2 [3, 4, 5, 6, 1, 0] rfl (s_X12_whatIs_b41 hX FU v0 v1 v2 v3 0 0 h5)
      · refine g_iload 0 dX12_whatIs_32 rfl ?_
        exact g_ireturn rfl dX12_whatIs_34
    · refine g_iconst (v := (-1)) dX12_whatIs_17 (by decide) ?_
      exact g_ireturn rfl dX12_whatIs_18
abbrev p_X2_fail (X : GX) (h0 : AH) : PX Unit := (X, (fun x => Sum.inl (rU x)), (0, 0, 1), h0)
def f_X2_fail (v0 : Option Nat) (h : AH) : Option (Unit × AH) :=
    some ((), h)
set_option maxRecDepth 100000 in
set_option maxHeartbeats 4000000 in
theorem s_X2_fail {X : GX} (hX : XOK X) (v0 : Option Nat) (h : AH) : Snd X yX2_fail cX2_fail 1 none 0 0 rU [vR v0] h (f_X2_fail v0 h) := by
  refine snd_of hX (by decide +kernel) (Nat.le_of_ble_eq_true rfl) ?_
  show Gp (p_X2_fail X h) RX2 "fail" cX2_fail none 0 [(0, vR v0)] [] h _
  unfold f_X2_fail
  exact g_return rfl dX2_fail_0
