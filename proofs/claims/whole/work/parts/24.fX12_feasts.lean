abbrev p_X5_alikeTwos (X : GX) (h0 : AH) : PX Int32 := (X, (fun x => Sum.inl (rI x)), (1, 21, 4), h0)
def f_X5_alikeTwos_b16 (k4 : Option Nat → Int32 → Int32 → AH → Option (Int32 × AH)) : Nat → Option Nat → Int32 → Int32 → Int32 → AH → Option (Int32 × AH)
  | 0 => fun _ _ _ _ _ => none
  | n + 1 => fun x0 x1 x2 x3 h =>
    (gI h x0 [5] 5).bind fun t3 =>
    (if t3 ≤ x3 then
    k4 x0 x1 (x2 + 1) h
    else bd (cv h x0 5 (f_X5_isIn x0 x2 h)) fun r5 h4 =>
    (if r5 = 0 then
    f_X5_alikeTwos_b16 k4 n x0 x1 x2 (x3 + 1) h4
    else bd (cv h4 x0 5 (f_X5_isIn x0 x3 h4)) fun r7 h6 =>
    (if r7 = 0 then
    f_X5_alikeTwos_b16 k4 n x0 x1 x2 (x3 + 1) h6
    else (gR h6 x0 [5] 1).bind fun t8 =>
    (iA h6 t8 x2).bind fun t9 =>
    (gR h6 x0 [5] 1).bind fun t10 =>
    (iA h6 t10 x3).bind fun t11 =>
    (if t9 = t11 then
    f_X5_alikeTwos_b16 k4 n x0 (x1 + 1) x2 (x3 + 1) h6
    else f_X5_alikeTwos_b16 k4 n x0 x1 x2 (x3 + 1) h6))))
set_option maxRecDepth 100000 in
set_option maxHeartbeats 4000000 in
theorem s_X5_alikeTwos_b16 {X : GX} (hX : XOK X) {h0 : AH} (k4 : Option Nat → Int32 → Int32 → AH → Option (Int32 × AH)) (hk4 : ∀ (z0 : Option Nat) (z1 : Int32) (z2 : Int32) (h : AH), Gp (p_X5_alikeTwos X h0) RX5 "alikeTwos" cX5_alikeTwos (some .int) 4 [(0, vR z0), (1, vI z1), (2, vI z2)] [] h (k4 z0 z1 z2 h)) : ∀ (n : Nat) (x0 : Option Nat) (x1 : Int32) (x2 : Int32) (x3 : Int32) (h : AH), Gp (p_X5_alikeTwos X h0) RX5 "alikeTwos" cX5_alikeTwos (some .int) 16 [(0, vR x0), (1, vI x1), (2, vI x2), (3, vI x3)] [] h (f_X5_alikeTwos_b16 k4 n x0 x1 x2 x3 h) := by
  intro n
  induction n with
  | zero => intro x0 x1 x2 x3 h; exact g_none
  | succ n ih =>
    intro x0 x1 x2 x3 h
    rw [f_X5_alikeTwos_b16]
    refine g_iload_n 3 dX5_alikeTwos_16 rfl rfl ?_
    refine g_aload_n 0 dX5_alikeTwos_17 rfl rfl ?_
    refine g_getI kfl_X5_30 fo_X5_guests dX5_alikeTwos_18 (fun t3 => ?_)
    refine g_icmpge (tgt := 64) dX5_alikeTwos_21 (by decide) ?_ ?_
    · refine g_iinc 2 (v := (x2 + 1)) (ls' := [(2, vI ((x2 + 1))), (0, vR x0), (1, vI x1), (3, vI x3)]) dX5_alikeTwos_64 rfl rfl (Nat.le_of_ble_eq_true rfl) rfl ?_
      refine g_goto (tgt := 4) dX5_alikeTwos_67 (by decide) ?_
      exact g_sub2 [1, 2, 0] rfl (hk4 x0 x1 (x2 + 1) h)
    · refine g_aload_n 0 dX5_alikeTwos_24 rfl rfl ?_
      refine g_iload_n 2 dX5_alikeTwos_25 rfl rfl ?_
      refine g_callVI (st := []) (ci := 5) rfl (s_X5_isIn hX x0 x2 h) kml_X5_59 kim_X5_isIn kse_X5_isIn kii_X5 kcd_X5_isIn rfl ds_X5_isIn rfl ⟨Nat.le_of_ble_eq_true rfl, Nat.le_of_ble_eq_true rfl⟩ (Nat.le_of_ble_eq_true rfl) rfl dX5_alikeTwos_26 (fun r5 h4 => ?_)
      refine g_ifeq (tgt := 58) dX5_alikeTwos_29 (by decide) ?_ ?_
      · refine g_iinc 3 (v := (x3 + 1)) (ls' := [(3, vI ((x3 + 1))), (0, vR x0), (1, vI x1), (2, vI x2)]) dX5_alikeTwos_58 rfl rfl (Nat.le_of_ble_eq_true rfl) rfl ?_
        refine g_goto (tgt := 16) dX5_alikeTwos_61 (by decide) ?_
        exact g_sub2 [1, 2, 3, 0] rfl (ih x0 x1 x2 (x3 + 1) h4)
      · refine g_aload_n 0 dX5_alikeTwos_32 rfl rfl ?_
        refine g_iload_n 3 dX5_alikeTwos_33 rfl rfl ?_
        refine g_callVI (st := []) (ci := 5) rfl (s_X5_isIn hX x0 x3 h4) kml_X5_59 kim_X5_isIn kse_X5_isIn kii_X5 kcd_X5_isIn rfl ds_X5_isIn rfl ⟨Nat.le_of_ble_eq_true rfl, Nat.le_of_ble_eq_true rfl⟩ (Nat.le_of_ble_eq_true rfl) rfl dX5_alikeTwos_34 (fun r7 h6 => ?_)
        refine g_ifeq (tgt := 58) dX5_alikeTwos_37 (by decide) ?_ ?_
        · refine g_iinc 3 (v := (x3 + 1)) (ls' := [(3, vI ((x3 + 1))), (0, vR x0), (1, vI x1), (2, vI x2)]) dX5_alikeTwos_58 rfl rfl (Nat.le_of_ble_eq_true rfl) rfl ?_
          refine g_goto (tgt := 16) dX5_alikeTwos_61 (by decide) ?_
          exact g_sub2 [1, 2, 3, 0] rfl (ih x0 x1 x2 (x3 + 1) h6)
        · refine g_aload_n 0 dX5_alikeTwos_40 rfl rfl ?_
          refine g_getR kfl_X5_17 fo_X5_weight dX5_alikeTwos_41 (fun t8 => ?_)
          refine g_iload_n 2 dX5_alikeTwos_44 rfl rfl ?_
          refine g_iaload dX5_alikeTwos_45 (fun t9 => ?_)
          refine g_aload_n 0 dX5_alikeTwos_46 rfl rfl ?_
          refine g_getR kfl_X5_17 fo_X5_weight dX5_alikeTwos_47 (fun t10 => ?_)
          refine g_iload_n 3 dX5_alikeTwos_50 rfl rfl ?_
          refine g_iaload dX5_alikeTwos_51 (fun t11 => ?_)
          refine g_icmpne (tgt := 58) dX5_alikeTwos_52 (by decide) ?_ ?_
          · refine g_iinc 3 (v := (x3 + 1)) (ls' := [(3, vI ((x3 + 1))), (0, vR x0), (1, vI x1), (2, vI x2)]) dX5_alikeTwos_58 rfl rfl (Nat.le_of_ble_eq_true rfl) rfl ?_
            refine g_goto (tgt := 16) dX5_alikeTwos_61 (by decide) ?_
            exact g_sub2 [1, 2, 3, 0] rfl (ih x0 x1 x2 (x3 + 1) h6)
          · refine g_iinc 1 (v := (x1 + 1)) (ls' := [(1, vI ((x1 + 1))), (0, vR x0), (2, vI x2), (3, vI x3)]) dX5_alikeTwos_55 rfl rfl (Nat.le_of_ble_eq_true rfl) rfl ?_
            refine g_iinc 3 (v := (x3 + 1)) (ls' := [(3, vI ((x3 + 1))), (1, vI ((x1 + 1))), (0, vR x0), (2, vI x2)]) dX5_alikeTwos_58 rfl rfl (Nat.le_of_ble_eq_true rfl) rfl ?_
            refine g_goto (tgt := 16) dX5_alikeTwos_61 (by decide) ?_
            exact g_sub2 [2, 1, 3, 0] rfl (ih x0 (x1 + 1) x2 (x3 + 1) h6)
def f_X5_alikeTwos_b4 : Nat → Option Nat → Int32 → Int32 → AH → Option (Int32 × AH)
  | 0 => fun _ _ _ _ => none
  | n + 1 => fun x0 x1 x2 h =>
    (gI h x0 [5] 5).bind fun t1 =>
    (if t1 ≤ x2 then
    some (x1, h)
    else nm (x2 + 1) fun t2 =>
    f_X5_alikeTwos_b16 (f_X5_alikeTwos_b4 n) FU x0 x1 x2 t2 h)
set_option maxRecDepth 100000 in
set_option maxHeartbeats 4000000 in
theorem s_X5_alikeTwos_b4 {X : GX} (hX : XOK X) {h0 : AH} : ∀ (n : Nat) (x0 : Option Nat) (x1 : Int32) (x2 : Int32) (h : AH), Gp (p_X5_alikeTwos X h0) RX5 "alikeTwos" cX5_alikeTwos (some .int) 4 [(0, vR x0), (1, vI x1), (2, vI x2)] [] h (f_X5_alikeTwos_b4 n x0 x1 x2 h) := by
  intro n
  induction n with
  | zero => intro x0 x1 x2 h; exact g_none
  | succ n ih =>
    intro x0 x1 x2 h
    rw [f_X5_alikeTwos_b4]
    refine g_iload_n 2 dX5_alikeTwos_4 rfl rfl ?_
    refine g_aload_n 0 dX5_alikeTwos_5 rfl rfl ?_
    refine g_getI kfl_X5_30 fo_X5_guests dX5_alikeTwos_6 (fun t1 => ?_)
    refine g_icmpge (tgt := 70) dX5_alikeTwos_9 (by decide) ?_ ?_
    · refine g_iload_n 1 dX5_alikeTwos_70 rfl rfl ?_
      exact g_ireturn rfl dX5_alikeTwos_71
    · refine g_iload_n 2 dX5_alikeTwos_12 rfl rfl ?_
      refine g_iconst (v := 1) dX5_alikeTwos_13 (by decide) ?_
      refine g_iadd dX5_alikeTwos_14 ?_
      refine g_nmI (fun t2 => ?_)
      refine g_istore_n (ls' := [(3, vI t2), (0, vR x0), (1, vI x1), (2, vI x2)]) dX5_alikeTwos_15 rfl (Nat.le_of_ble_eq_true rfl) rfl ?_
      exact g_sub2 [1, 2, 3, 0] rfl (s_X5_alikeTwos_b16 hX (f_X5_alikeTwos_b4 n) (fun z0 z1 z2 z3 => ih z0 z1 z2 z3) FU x0 x1 x2 t2 h)
def f_X5_alikeTwos (v0 : Option Nat) (h : AH) : Option (Int32 × AH) :=
    f_X5_alikeTwos_b4 FU v0 0 0 h
set_option maxRecDepth 100000 in
set_option maxHeartbeats 4000000 in
theorem s_X5_alikeTwos {X : GX} (hX : XOK X) (v0 : Option Nat) (h : AH) : Snd X yX5_alikeTwos cX5_alikeTwos 4 (some .int) 1 21 rI [vR v0] h (f_X5_alikeTwos v0 h) := by
  refine snd_of hX (by decide +kernel) (Nat.le_of_ble_eq_true rfl) ?_
  show Gp (p_X5_alikeTwos X h) RX5 "alikeTwos" cX5_alikeTwos (some .int) 0 [(0, vR v0)] [] h _
  unfold f_X5_alikeTwos
  refine g_iconst (v := 0) dX5_alikeTwos_0 (by decide) ?_
  refine g_istore_n (ls' := [(1, vI 0), (0, vR v0)]) dX5_alikeTwos_1 rfl (Nat.le_of_ble_eq_true rfl) rfl ?_
  refine g_iconst (v := 0) dX5_alikeTwos_2 (by decide) ?_
  refine g_istore_n (ls' := [(2, vI 0), (1, vI 0), (0, vR v0)]) dX5_alikeTwos_3 rfl (Nat.le_of_ble_eq_true rfl) rfl ?_
  exact g_sub2 [2, 1, 0] rfl (s_X5_alikeTwos_b4 hX FU v0 0 0 h)
abbrev p_X5_withoutSecrets (X : GX) (h0 : AH) : PX Int32 := (X, (fun x => Sum.inl (rI x)), (1, 21, 3), h0)
def f_X5_withoutSecrets_b4 : Nat → Option Nat → Int32 → Int32 → AH → Option (Int32 × AH)
  | 0 => fun _ _ _ _ => none
  | n + 1 => fun x0 x1 x2 h =>
    (gI h x0 [5] 5).bind fun t1 =>
    (if t1 ≤ x2 then
    some (x1, h)
    else bd (cv h x0 5 (f_X5_isIn x0 x2 h)) fun r3 h2 =>
    (if r3 = 0 then
    f_X5_withoutSecrets_b4 n x0 x1 (x2 + 1) h2
    else (gR h2 x0 [5] 3).bind fun t4 =>
    (iA h2 t4 x2).bind fun t5 =>
    (if t5 = 0 then
    nm (x1 ||| ((1 : Int32) <<< (x2 &&& 31))) fun t6 =>
    f_X5_withoutSecrets_b4 n x0 t6 (x2 + 1) h2
    else f_X5_withoutSecrets_b4 n x0 x1 (x2 + 1) h2)))
set_option maxRecDepth 100000 in
set_option maxHeartbeats 4000000 in
theorem s_X5_withoutSecrets_b4 {X : GX} (hX : XOK X) {h0 : AH} : ∀ (n : Nat) (x0 : Option Nat) (x1 : Int32) (x2 : Int32) (h : AH), Gp (p_X5_withoutSecrets X h0) RX5 "withoutSecrets" cX5_withoutSecrets (some .int) 4 [(0, vR x0), (1, vI x1), (2, vI x2)] [] h (f_X5_withoutSecrets_b4 n x0 x1 x2 h) := by
  intro n
  induction n with
  | zero => intro x0 x1 x2 h; exact g_none
  | succ n ih =>
    intro x0 x1 x2 h
    rw [f_X5_withoutSecrets_b4]
    refine g_iload_n 2 dX5_withoutSecrets_4 rfl rfl ?_
    refine g_aload_n 0 dX5_withoutSecrets_5 rfl rfl ?_
    refine g_getI kfl_X5_30 fo_X5_guests dX5_withoutSecrets_6 (fun t1 => ?_)
    refine g_icmpge (tgt := 41) dX5_withoutSecrets_9 (by decide) ?_ ?_
    · refine g_iload_n 1 dX5_withoutSecrets_41 rfl rfl ?_
      exact g_ireturn rfl dX5_withoutSecrets_42
    · refine g_aload_n 0 dX5_withoutSecrets_12 rfl rfl ?_
      refine g_iload_n 2 dX5_withoutSecrets_13 rfl rfl ?_
      refine g_callVI (st := []) (ci := 5) rfl (s_X5_isIn hX x0 x2 h) kml_X5_59 kim_X5_isIn kse_X5_isIn kii_X5 kcd_X5_isIn rfl ds_X5_isIn rfl ⟨Nat.le_of_ble_eq_true rfl, Nat.le_of_ble_eq_true rfl⟩ (Nat.le_of_ble_eq_true rfl) rfl dX5_withoutSecrets_14 (fun r3 h2 => ?_)
      refine g_ifeq (tgt := 35) dX5_withoutSecrets_17 (by decide) ?_ ?_
      · refine g_iinc 2 (v := (x2 + 1)) (ls' := [(2, vI ((x2 + 1))), (0, vR x0), (1, vI x1)]) dX5_withoutSecrets_35 rfl rfl (Nat.le_of_ble_eq_true rfl) rfl ?_
        refine g_goto (tgt := 4) dX5_withoutSecrets_38 (by decide) ?_
        exact g_sub2 [1, 2, 0] rfl (ih x0 x1 (x2 + 1) h2)
      · refine g_aload_n 0 dX5_withoutSecrets_20 rfl rfl ?_
        refine g_getR kfl_X5_24 fo_X5_secrets dX5_withoutSecrets_21 (fun t4 => ?_)
        refine g_iload_n 2 dX5_withoutSecrets_24 rfl rfl ?_
        refine g_iaload dX5_withoutSecrets_25 (fun t5 => ?_)
        refine g_ifne (tgt := 35) dX5_withoutSecrets_26 (by decide) ?_ ?_
        · refine g_iinc 2 (v := (x2 + 1)) (ls' := [(2, vI ((x2 + 1))), (0, vR x0), (1, vI x1)]) dX5_withoutSecrets_35 rfl rfl (Nat.le_of_ble_eq_true rfl) rfl ?_
          refine g_goto (tgt := 4) dX5_withoutSecrets_38 (by decide) ?_
          exact g_sub2 [1, 2, 0] rfl (ih x0 x1 (x2 + 1) h2)
        · refine g_iload_n 1 dX5_withoutSecrets_29 rfl rfl ?_
          refine g_iconst (v := 1) dX5_withoutSecrets_30 (by decide) ?_
          refine g_iload_n 2 dX5_withoutSecrets_31 rfl rfl ?_
          refine g_ishl dX5_withoutSecrets_32 ?_
          refine g_ior dX5_withoutSecrets_33 ?_
          refine g_nmI (fun t6 => ?_)
          refine g_istore_n (ls' := [(1, vI t6), (0, vR x0), (2, vI x2)]) dX5_withoutSecrets_34 rfl (Nat.le_of_ble_eq_true rfl) rfl ?_
          refine g_iinc 2 (v := (x2 + 1)) (ls' := [(2, vI ((x2 + 1))), (1, vI t6), (0, vR x0)]) dX5_withoutSecrets_35 rfl rfl (Nat.le_of_ble_eq_true rfl) rfl ?_
          refine g_goto (tgt := 4) dX5_withoutSecrets_38 (by decide) ?_
          exact g_sub2 [2, 1, 0] rfl (ih x0 t6 (x2 + 1) h2)
def f_X5_withoutSecrets (v0 : Option Nat) (h : AH) : Option (Int32 × AH) :=
    f_X5_withoutSecrets_b4 FU v0 0 0 h
set_option maxRecDepth 100000 in
set_option maxHeartbeats 4000000 in
theorem s_X5_withoutSecrets {X : GX} (hX : XOK X) (v0 : Option Nat) (h : AH) : Snd X yX5_withoutSecrets cX5_withoutSecrets 3 (some .int) 1 21 rI [vR v0] h (f_X5_withoutSecrets v0 h) := by
  refine snd_of hX (by decide +kernel) (Nat.le_of_ble_eq_true rfl) ?_
  show Gp (p_X5_withoutSecrets X h) RX5 "withoutSecrets" cX5_withoutSecrets (some .int) 0 [(0, vR v0)] [] h _
  unfold f_X5_withoutSecrets
  refine g_iconst (v := 0) dX5_withoutSecrets_0 (by decide) ?_
  refine g_istore_n (ls' := [(1, vI 0), (0, vR v0)]) dX5_withoutSecrets_1 rfl (Nat.le_of_ble_eq_true rfl) rfl ?_
  refine g_iconst (v := 0) dX5_withoutSecrets_2 (by decide) ?_
  refine g_istore_n (ls' := [(2, vI 0), (1, vI 0), (0, vR v0)]) dX5_withoutSecrets_3 rfl (Nat.le_of_ble_eq_true rfl) rfl ?_
  exact g_sub2 [2, 1, 0] rfl (s_X5_withoutSecrets_b4 hX FU v0 0 0 h)
abbrev p_X11_tears (X : GX) (h0 : AH) : PX Int32 := (X, (fun x => Sum.inl (rI x)), (5, 106, 2), h0)
def f_X11_tears (v0 : Option Nat) (v1 : Int32) (h : AH) : Option (Int32 × AH) :=
    (if v1 = 0 then
    (gR h v0 [11] 0).bind fun t2 =>
    bd (cv h t2 5 (f_X5_withoutSecrets t2 h)) fun r4 h3 =>
    some (r4, h3)
    else (if v1 = 1 then
    (gR h v0 [11] 0).bind fun t6 =>
    bd (cv h t6 5 (f_X5_alikeTwos t6 h)) fun r8 h7 =>
    some (r8, h7)
    else (if v1 = 2 then
    bd (cv h v0 11 (f_X11_goneNextDay v0 h)) fun r11 h10 =>
    some (r11, h10)
    else (if v1 = 3 then
    (gR h v0 [11] 0).bind fun t13 =>
    bd (cv h t13 5 (f_X5_secretsOfAll t13 h)) fun r15 h14 =>
    some (r15, h14)
    else some ((-1), h)))))
set_option maxRecDepth 100000 in
set_option maxHeartbeats 4000000 in
theorem s_X11_tears {X : GX} (hX : XOK X) (v0 : Option Nat) (v1 : Int32) (h : AH) : Snd X yX11_tears cX11_tears 2 (some .int) 5 106 rI [vR v0, vI v1] h (f_X11_tears v0 v1 h) := by
  refine snd_of hX (by decide +kernel) (Nat.le_of_ble_eq_true rfl) ?_
  show Gp (p_X11_tears X h) RX11 "tears" cX11_tears (some .int) 0 [(0, vR v0), (1, vI v1)] [] h _
  unfold f_X11_tears
  refine g_iload_n 1 dX11_tears_0 rfl rfl ?_
  refine g_tsIn (c := 0) (off := 31) (tgt := 32) dX11_tears_1 (by decide) (by decide) (by decide) (by decide) ?_ (fun n1 => ?_)
  · refine g_aload_n 0 dX11_tears_32 rfl rfl ?_
    refine g_getR kfl_X11_10 fo_X11_now dX11_tears_33 (fun t2 => ?_)
    refine g_callVI (st := []) (ci := 5) rfl (s_X5_withoutSecrets hX t2 h) kml_X11_213 kim_X5_withoutSecrets kse_X5_withoutSecrets kii_X5 kcd_X5_withoutSecrets rfl ds_X5_withoutSecrets rfl ⟨Nat.le_of_ble_eq_true rfl, Nat.le_of_ble_eq_true rfl⟩ (Nat.le_of_ble_eq_true rfl) rfl dX11_tears_36 (fun r4 h3 => ?_)
    exact g_ireturn rfl dX11_tears_39
  refine g_tsIn (c := 1) (off := 39) (tgt := 40) dX11_tears_1 (by decide) (by decide) (by decide) (by decide) ?_ (fun n5 => ?_)
  · refine g_aload_n 0 dX11_tears_40 rfl rfl ?_
    refine g_getR kfl_X11_10 fo_X11_now dX11_tears_41 (fun t6 => ?_)
    refine g_callVI (st := []) (ci := 5) rfl (s_X5_alikeTwos hX t6 h) kml_X11_216 kim_X5_alikeTwos kse_X5_alikeTwos kii_X5 kcd_X5_alikeTwos rfl ds_X5_alikeTwos rfl ⟨Nat.le_of_ble_eq_true rfl, Nat.le_of_ble_eq_true rfl⟩ (Nat.le_of_ble_eq_true rfl) rfl dX11_tears_44 (fun r8 h7 => ?_)
    exact g_ireturn rfl dX11_tears_47
  refine g_tsIn (c := 2) (off := 47) (tgt := 48) dX11_tears_1 (by decide) (by decide) (by decide) (by decide) ?_ (fun n9 => ?_)
  · refine g_aload_n 0 dX11_tears_48 rfl rfl ?_
    refine g_callVI (st := []) (ci := 11) rfl (s_X11_goneNextDay hX v0 h) kml_X11_219 kim_X11_goneNextDay kse_X11_goneNextDay kii_X11 kcd_X11_goneNextDay rfl ds_X11_goneNextDay rfl ⟨Nat.le_of_ble_eq_true rfl, Nat.le_of_ble_eq_true rfl⟩ (Nat.le_of_ble_eq_true rfl) rfl dX11_tears_49 (fun r11 h10 => ?_)
    exact g_ireturn rfl dX11_tears_52
  refine g_tsIn (c := 3) (off := 52) (tgt := 53) dX11_tears_1 (by decide) (by decide) (by decide) (by decide) ?_ (fun n12 => ?_)
  · refine g_aload_n 0 dX11_tears_53 rfl rfl ?_
    refine g_getR kfl_X11_10 fo_X11_now dX11_tears_54 (fun t13 => ?_)
    refine g_callVI (st := []) (ci := 5) rfl (s_X5_secretsOfAll hX t13 h) kml_X11_222 kim_X5_secretsOfAll kse_X5_secretsOfAll kii_X5 kcd_X5_secretsOfAll rfl ds_X5_secretsOfAll rfl ⟨Nat.le_of_ble_eq_true rfl, Nat.le_of_ble_eq_true rfl⟩ (Nat.le_of_ble_eq_true rfl) rfl dX11_tears_57 (fun r15 h14 => ?_)
    exact g_ireturn rfl dX11_tears_60
  refine g_tsDef (tgt := 61) (keys := [0, 1, 2, 3]) (neK_cons (c := 0) (k := 0) n1 (by decide) (neK_cons (c := 1) (k := 1) n5 (by decide) (neK_cons (c := 2) (k := 2) n9 (by decide) (neK_cons (c := 3) (k := 3) n12 (by decide) neK_nil)))) (by decide +kernel) dX11_tears_1 (by decide) ?_
  refine g_iconst (v := (-1)) dX11_tears_61 (by decide) ?_
  exact g_ireturn rfl dX11_tears_62
abbrev p_X11_tell (X : GX) (h0 : AH) : PX Int32 := (X, (fun x => Sum.inl (rI x)), (6, 129, 4), h0)
def f_X11_tell_b55 (k29 : Option Nat → Int32 → Int32 → AH → Option (Int32 × AH)) : Nat → Option Nat → Int32 → Int32 → Int32 → AH → Option (Int32 × AH)
  | 0 => fun _ _ _ _ _ => none
  | n + 1 => fun x0 x1 x2 x3 h =>
    (if x2 ≤ x3 then
    bd (cv h x0 11 (f_X11_goesNextDay x0 x1 h)) fun r15 h14 =>
    (if r15 = 0 then
    k29 x0 x1 (x2 + 1) h14
    else some (x2, h14))
    else (gR h x0 [11] 1).bind fun t16 =>
    bd (cv h t16 5 (f_X5_tellSecret t16 x1 h)) fun u18 h17 =>
    f_X11_tell_b55 k29 n x0 x1 x2 (x3 + 1) h17)
set_option maxRecDepth 100000 in
set_option maxHeartbeats 4000000 in
theorem s_X11_tell_b55 {X : GX} (hX : XOK X) {h0 : AH} (k29 : Option Nat → Int32 → Int32 → AH → Option (Int32 × AH)) (hk29 : ∀ (z0 : Option Nat) (z1 : Int32) (z2 : Int32) (h : AH), Gp (p_X11_tell X h0) RX11 "tell" cX11_tell (some .int) 29 [(0, vR z0), (1, vI z1), (2, vI z2)] [] h (k29 z0 z1 z2 h)) : ∀ (n : Nat) (x0 : Option Nat) (x1 : Int32) (x2 : Int32) (x3 : Int32) (h : AH), Gp (p_X11_tell X h0) RX11 "tell" cX11_tell (some .int) 55 [(0, vR x0), (1, vI x1), (2, vI x2), (3, vI x3)] [] h (f_X11_tell_b55 k29 n x0 x1 x2 x3 h) := by
  intro n
  induction n with
  | zero => intro x0 x1 x2 x3 h; exact g_none
  | succ n ih =>
    intro x0 x1 x2 x3 h
    rw [f_X11_tell_b55]
    refine g_iload_n 3 dX11_tell_55 rfl rfl ?_
    refine g_iload_n 2 dX11_tell_56 rfl rfl ?_
    refine g_icmpge (tgt := 74) dX11_tell_57 (by decide) ?_ ?_
    · refine g_aload_n 0 dX11_tell_74 rfl rfl ?_
      refine g_iload_n 1 dX11_tell_75 rfl rfl ?_
      refine g_callVI (st := []) (ci := 11) rfl (s_X11_goesNextDay hX x0 x1 h) kml_X11_201 kim_X11_goesNextDay kse_X11_goesNextDay kii_X11 kcd_X11_goesNextDay rfl ds_X11_goesNextDay rfl ⟨Nat.le_of_ble_eq_true rfl, Nat.le_of_ble_eq_true rfl⟩ (Nat.le_of_ble_eq_true rfl) rfl dX11_tell_76 (fun r15 h14 => ?_)
      refine g_ifeq (tgt := 84) dX11_tell_79 (by decide) ?_ ?_
      · refine g_iinc 2 (v := (x2 + 1)) (ls' := [(2, vI ((x2 + 1))), (0, vR x0), (1, vI x1), (3, vI x3)]) dX11_tell_84 rfl rfl (Nat.le_of_ble_eq_true rfl) rfl ?_
        refine g_goto (tgt := 29) dX11_tell_87 (by decide) ?_
        exact g_sub2 [1, 2, 0] rfl (hk29 x0 x1 (x2 + 1) h14)
      · refine g_iload_n 2 dX11_tell_82 rfl rfl ?_
        exact g_ireturn rfl dX11_tell_83
    · refine g_aload_n 0 dX11_tell_60 rfl rfl ?_
      refine g_getR kfl_X11_16 fo_X11_mind dX11_tell_61 (fun t16 => ?_)
      refine g_iload_n 1 dX11_tell_64 rfl rfl ?_
      refine g_callVU (st := []) (ci := 5) rfl (s_X5_tellSecret hX t16 x1 h) kml_X11_140 kim_X5_tellSecret kse_X5_tellSecret kii_X5 kcd_X5_tellSecret rfl ds_X5_tellSecret rfl ⟨Nat.le_of_ble_eq_true rfl, Nat.le_of_ble_eq_true rfl⟩ (Nat.le_of_ble_eq_true rfl) rfl dX11_tell_65 (fun u18 h17 => ?_)
      refine g_iinc 3 (v := (x3 + 1)) (ls' := [(3, vI ((x3 + 1))), (0, vR x0), (1, vI x1), (2, vI x2)]) dX11_tell_68 rfl rfl (Nat.le_of_ble_eq_true rfl) rfl ?_
      refine g_goto (tgt := 55) dX11_tell_71 (by decide) ?_
      exact g_sub2 [1, 2, 3, 0] rfl (ih x0 x1 x2 (x3 + 1) h17)
def f_X11_tell_b29 : Nat → Option Nat → Int32 → Int32 → AH → Option (Int32 × AH)
  | 0 => fun _ _ _ _ => none
  | n + 1 => fun x0 x1 x2 h =>
    (gR h x0 [11] 0).bind fun t7 =>
    (gR h t7 [5] 3).bind fun t8 =>
    (iA h t8 x1).bind fun t9 =>
    (if t9 < x2 then
    some ((-4), h)
    else (gR h x0 [11] 1).bind fun t10 =>
    (gR h x0 [11] 0).bind fun t11 =>
    bd (cv h t10 5 (f_X5_becomes t10 t11 h)) fun u13 h12 =>
    f_X11_tell_b55 (f_X11_tell_b29 n) FU x0 x1 x2 0 h12)
set_option maxRecDepth 100000 in
set_option maxHeartbeats 4000000 in
theorem s_X11_tell_b29 {X : GX} (hX : XOK X) {h0 : AH} : ∀ (n : Nat) (x0 : Option Nat) (x1 : Int32) (x2 : Int32) (h : AH), Gp (p_X11_tell X h0) RX11 "tell" cX11_tell (some .int) 29 [(0, vR x0), (1, vI x1), (2, vI x2)] [] h (f_X11_tell_b29 n x0 x1 x2 h) := by
  intro n
  induction n with
  | zero => intro x0 x1 x2 h; exact g_none
  | succ n ih =>
    intro x0 x1 x2 h
    rw [f_X11_tell_b29]
    refine g_iload_n 2 dX11_tell_29 rfl rfl ?_
    refine g_aload_n 0 dX11_tell_30 rfl rfl ?_
    refine g_getR kfl_X11_10 fo_X11_now dX11_tell_31 (fun t7 => ?_)
    refine g_getR kfl_X11_101 fo_X5_secrets dX11_tell_34 (fun t8 => ?_)
    refine g_iload_n 1 dX11_tell_37 rfl rfl ?_
    refine g_iaload dX11_tell_38 (fun t9 => ?_)
    refine g_icmpgt (tgt := 90) dX11_tell_39 (by decide) ?_ ?_
    · refine g_bipush (v := (-4)) dX11_tell_90 (by decide) ?_
      exact g_ireturn rfl dX11_tell_92
    · refine g_aload_n 0 dX11_tell_42 rfl rfl ?_
      refine g_getR kfl_X11_16 fo_X11_mind dX11_tell_43 (fun t10 => ?_)
      refine g_aload_n 0 dX11_tell_46 rfl rfl ?_
      refine g_getR kfl_X11_10 fo_X11_now dX11_tell_47 (fun t11 => ?_)
      refine g_callVU (st := []) (ci := 5) rfl (s_X5_becomes hX t10 t11 h) kml_X11_70 kim_X5_becomes kse_X5_becomes kii_X5 kcd_X5_becomes rfl ds_X5_becomes rfl ⟨Nat.le_of_ble_eq_true rfl, Nat.le_of_ble_eq_true rfl⟩ (Nat.le_of_ble_eq_true rfl) rfl dX11_tell_50 (fun u13 h12 => ?_)
      refine g_iconst (v := 0) dX11_tell_53 (by decide) ?_
      refine g_istore_n (ls' := [(3, vI 0), (0, vR x0), (1, vI x1), (2, vI x2)]) dX11_tell_54 rfl (Nat.le_of_ble_eq_true rfl) rfl ?_
      exact g_sub2 [1, 2, 3, 0] rfl (s_X11_tell_b55 hX (f_X11_tell_b29 n) (fun z0 z1 z2 z3 => ih z0 z1 z2 z3) FU x0 x1 x2 0 h12)
def f_X11_tell (v0 : Option Nat) (v1 : Int32) (h : AH) : Option (Int32 × AH) :=
    (gR h v0 [11] 0).bind fun t1 =>
    bd (cv h t1 5 (f_X5_knows t1 v1 h)) fun r3 h2 =>
    (if r3 = 0 then
    some ((-1), h2)
    else (gR h2 v0 [11] 0).bind fun t4 =>
    bd (cv h2 t4 5 (f_X5_isIn t4 v1 h2)) fun r6 h5 =>
    (if r6 = 0 then
    some ((-3), h5)
    else f_X11_tell_b29 FU v0 v1 0 h5))
set_option maxRecDepth 100000 in
set_option maxHeartbeats 4000000 in
theorem s_X11_tell {X : GX} (hX : XOK X) (v0 : Option Nat) (v1 : Int32) (h : AH) : Snd X yX11_tell cX11_tell 4 (some .int) 6 129 rI [vR v0, vI v1] h (f_X11_tell v0 v1 h) := by
  refine snd_of hX (by decide +kernel) (Nat.le_of_ble_eq_true rfl) ?_
  show Gp (p_X11_tell X h) RX11 "tell" cX11_tell (some .int) 0 [(0, vR v0), (1, vI v1)] [] h _
  unfold f_X11_tell
  refine g_aload_n 0 dX11_tell_0 rfl rfl ?_
  refine g_getR kfl_X11_10 fo_X11_now dX11_tell_1 (fun t1 => ?_)
  refine g_iload_n 1 dX11_tell_4 rfl rfl ?_
  refine g_callVI (st := []) (ci := 5) rfl (s_X5_knows hX t1 v1 h) kml_X11_84 kim_X5_knows kse_X5_knows kii_X5 kcd_X5_knows rfl ds_X5_knows rfl ⟨Nat.le_of_ble_eq_true rfl, Nat.le_of_ble_eq_true rfl⟩ (Nat.le_of_ble_eq_true rfl) rfl dX11_tell_5 (fun r3 h2 => ?_)
  refine g_ifne (tgt := 13) dX11_tell_8 (by decide) ?_ ?_
  · refine g_aload_n 0 dX11_tell_13 rfl rfl ?_
    refine g_getR kfl_X11_10 fo_X11_now dX11_tell_14 (fun t4 => ?_)
    refine g_iload_n 1 dX11_tell_17 rfl rfl ?_
    refine g_callVI (st := []) (ci := 5) rfl (s_X5_isIn hX t4 v1 h2) kml_X11_107 kim_X5_isIn kse_X5_isIn kii_X5 kcd_X5_isIn rfl ds_X5_isIn rfl ⟨Nat.le_of_ble_eq_true rfl, Nat.le_of_ble_eq_true rfl⟩ (Nat.le_of_ble_eq_true rfl) rfl dX11_tell_18 (fun r6 h5 => ?_)
    refine g_ifne (tgt := 27) dX11_tell_21 (by decide) ?_ ?_
    · refine g_iconst (v := 0) dX11_tell_27 (by decide) ?_
      refine g_istore_n (ls' := [(2, vI 0), (0, vR v0), (1, vI v1)]) dX11_tell_28 rfl (Nat.le_of_ble_eq_true rfl) rfl ?_
      exact g_sub2 [1, 2, 0] rfl (s_X11_tell_b29 hX FU v0 v1 0 h5)
    · refine g_bipush (v := (-3)) dX11_tell_24 (by decide) ?_
      exact g_ireturn rfl dX11_tell_26
  · refine g_iconst (v := (-1)) dX11_tell_11 (by decide) ?_
    exact g_ireturn rfl dX11_tell_12
abbrev p_X11_tells (X : GX) (h0 : AH) : PX Int32 := (X, (fun x => Sum.inl (rI x)), (3, 61, 2), h0)
def f_X11_tells (v0 : Option Nat) (v1 : Int32) (h : AH) : Option (Int32 × AH) :=
    (gR h v0 [11] 0).bind fun t1 =>
    bd (cv h t1 5 (f_X5_knows t1 v1 h)) fun r3 h2 =>
    (if r3 = 0 then
    some ((-1), h2)
    else (gR h2 v0 [11] 0).bind fun t4 =>
    bd (cv h2 t4 5 (f_X5_canTell t4 v1 h2)) fun r6 h5 =>
    (if r6 = 0 then
    some ((-3), h5)
    else (gR h5 v0 [11] 0).bind fun t7 =>
    bd (cv h5 t7 5 (f_X5_tellSecret t7 v1 h5)) fun u9 h8 =>
    (gR h8 v0 [11] 0).bind fun t10 =>
    (gR h8 t10 [5] 1).bind fun t11 =>
    (iA h8 t11 v1).bind fun t12 =>
    some (t12, h8)))
set_option maxRecDepth 100000 in
set_option maxHeartbeats 4000000 in
theorem s_X11_tells {X : GX} (hX : XOK X) (v0 : Option Nat) (v1 : Int32) (h : AH) : Snd X yX11_tells cX11_tells 2 (some .int) 3 61 rI [vR v0, vI v1] h (f_X11_tells v0 v1 h) := by
  refine snd_of hX (by decide +kernel) (Nat.le_of_ble_eq_true rfl) ?_
  show Gp (p_X11_tells X h) RX11 "tells" cX11_tells (some .int) 0 [(0, vR v0), (1, vI v1)] [] h _
  unfold f_X11_tells
  refine g_aload_n 0 dX11_tells_0 rfl rfl ?_
  refine g_getR kfl_X11_10 fo_X11_now dX11_tells_1 (fun t1 => ?_)
  refine g_iload_n 1 dX11_tells_4 rfl rfl ?_
  refine g_callVI (st := []) (ci := 5) rfl (s_X5_knows hX t1 v1 h) kml_X11_84 kim_X5_knows kse_X5_knows kii_X5 kcd_X5_knows rfl ds_X5_knows rfl ⟨Nat.le_of_ble_eq_true rfl, Nat.le_of_ble_eq_true rfl⟩ (Nat.le_of_ble_eq_true rfl) rfl dX11_tells_5 (fun r3 h2 => ?_)
  refine g_ifne (tgt := 13) dX11_tells_8 (by decide) ?_ ?_
  · refine g_aload_n 0 dX11_tells_13 rfl rfl ?_
    refine g_getR kfl_X11_10 fo_X11_now dX11_tells_14 (fun t4 => ?_)
    refine g_iload_n 1 dX11_tells_17 rfl rfl ?_
    refine g_callVI (st := []) (ci := 5) rfl (s_X5_canTell hX t4 v1 h2) kml_X11_137 kim_X5_canTell kse_X5_canTell kii_X5 kcd_X5_canTell rfl ds_X5_canTell rfl ⟨Nat.le_of_ble_eq_true rfl, Nat.le_of_ble_eq_true rfl⟩ (Nat.le_of_ble_eq_true rfl) rfl dX11_tells_18 (fun r6 h5 => ?_)
    refine g_ifne (tgt := 27) dX11_tells_21 (by decide) ?_ ?_
    · refine g_aload_n 0 dX11_tells_27 rfl rfl ?_
      refine g_getR kfl_X11_10 fo_X11_now dX11_tells_28 (fun t7 => ?_)
      refine g_iload_n 1 dX11_tells_31 rfl rfl ?_
      refine g_callVU (st := []) (ci := 5) rfl (s_X5_tellSecret hX t7 v1 h5) kml_X11_140 kim_X5_tellSecret kse_X5_tellSecret kii_X5 kcd_X5_tellSecret rfl ds_X5_tellSecret rfl ⟨Nat.le_of_ble_eq_true rfl, Nat.le_of_ble_eq_true rfl⟩ (Nat.le_of_ble_eq_true rfl) rfl dX11_tells_32 (fun u9 h8 => ?_)
      refine g_aload_n 0 dX11_tells_35 rfl rfl ?_
      refine g_getR kfl_X11_10 fo_X11_now dX11_tells_36 (fun t10 => ?_)
      refine g_getR kfl_X11_95 fo_X5_weight dX11_tells_39 (fun t11 => ?_)
      refine g_iload_n 1 dX11_tells_42 rfl rfl ?_
      refine g_iaload dX11_tells_43 (fun t12 => ?_)
      exact g_ireturn rfl dX11_tells_44
    · refine g_bipush (v := (-3)) dX11_tells_24 (by decide) ?_
      exact g_ireturn rfl dX11_tells_26
  · refine g_iconst (v := (-1)) dX11_tells_11 (by decide) ?_
    exact g_ireturn rfl dX11_tells_12
abbrev p_X11_then (X : GX) (h0 : AH) : PX Int32 := (X, (fun x => Sum.inl (rI x)), (5, 108, 3), h0)
def f_X11_then (v0 : Option Nat) (v1 : Int32) (v2 : Int32) (h : AH) : Option (Int32 × AH) :=
    bd (f_X11_isDaysOn v1 h) fun r2 h1 =>
    (if r2 = 0 then
    some ((-1), h1)
    else (if v2 < 0 then
    some ((-1), h1)
    else (if v2 ≤ 2 then
    (gR h1 v0 [11] 1).bind fun t3 =>
    (gR h1 v0 [11] 0).bind fun t4 =>
    bd (cv h1 t3 5 (f_X5_becomes t3 t4 h1)) fun u6 h5 =>
    (gR h5 v0 [11] 1).bind fun t7 =>
    bd (cv h5 t7 5 (f_X5_passDays t7 v1 h5)) fun u9 h8 =>
    (if v2 = 0 then
    (gR h8 v0 [11] 1).bind fun t15 =>
    (gI h8 t15 [5] 6).bind fun t16 =>
    some (t16, h8)
    else (if v2 = 1 then
    (gR h8 v0 [11] 1).bind fun t13 =>
    (gI h8 t13 [5] 9).bind fun t14 =>
    some (t14, h8)
    else (gR h8 v0 [11] 1).bind fun t10 =>
    bd (cv h8 t10 5 (f_X5_weightOfAll t10 h8)) fun r12 h11 =>
    some (r12, h11)))
    else some ((-1), h1))))
set_option maxRecDepth 100000 in
set_option maxHeartbeats 4000000 in
theorem s_X11_then {X : GX} (hX : XOK X) (v0 : Option Nat) (v1 : Int32) (v2 : Int32) (h : AH) : Snd X yX11_then cX11_then 3 (some .int) 5 108 rI [vR v0, vI v1, vI v2] h (f_X11_then v0 v1 v2 h) := by
  refine snd_of hX (by decide +kernel) (Nat.le_of_ble_eq_true rfl) ?_
  show Gp (p_X11_then X h) RX11 "then" cX11_then (some .int) 0 [(0, vR v0), (1, vI v1), (2, vI v2)] [] h _
  unfold f_X11_then
  refine g_iload_n 1 dX11_then_0 rfl rfl ?_
  refine g_callSI (st := []) (s_X11_isDaysOn hX v1 h) kml_X11_174 kst_X11_isDaysOn kii_X11 kcd_X11_isDaysOn ds_X11_isDaysOn rfl ⟨Nat.le_of_ble_eq_true rfl, Nat.le_of_ble_eq_true rfl⟩ (Nat.le_of_ble_eq_true rfl) rfl dX11_then_1 (fun r2 h1 => ?_)
  refine g_ifeq (tgt := 16) dX11_then_4 (by decide) ?_ ?_
  · refine g_iconst (v := (-1)) dX11_then_16 (by decide) ?_
    exact g_ireturn rfl dX11_then_17
  · refine g_iload_n 2 dX11_then_7 rfl rfl ?_
    refine g_iflt (tgt := 16) dX11_then_8 (by decide) ?_ ?_
    · refine g_iconst (v := (-1)) dX11_then_16 (by decide) ?_
      exact g_ireturn rfl dX11_then_17
    · refine g_iload_n 2 dX11_then_11 rfl rfl ?_
      refine g_iconst (v := 2) dX11_then_12 (by decide) ?_
      refine g_icmple (tgt := 18) dX11_then_13 (by decide) ?_ ?_
      · refine g_aload_n 0 dX11_then_18 rfl rfl ?_
        refine g_getR kfl_X11_16 fo_X11_mind dX11_then_19 (fun t3 => ?_)
        refine g_aload_n 0 dX11_then_22 rfl rfl ?_
        refine g_getR kfl_X11_10 fo_X11_now dX11_then_23 (fun t4 => ?_)
        refine g_callVU (st := []) (ci := 5) rfl (s_X5_becomes hX t3 t4 h1) kml_X11_70 kim_X5_becomes kse_X5_becomes kii_X5 kcd_X5_becomes rfl ds_X5_becomes rfl ⟨Nat.le_of_ble_eq_true rfl, Nat.le_of_ble_eq_true rfl⟩ (Nat.le_of_ble_eq_true rfl) rfl dX11_then_26 (fun u6 h5 => ?_)
        refine g_aload_n 0 dX11_then_29 rfl rfl ?_
        refine g_getR kfl_X11_16 fo_X11_mind dX11_then_30 (fun t7 => ?_)
        refine g_iload_n 1 dX11_then_33 rfl rfl ?_
        refine g_callVU (st := []) (ci := 5) rfl (s_X5_passDays hX t7 v1 h5) kml_X11_168 kim_X5_passDays kse_X5_passDays kii_X5 kcd_X5_passDays rfl ds_X5_passDays rfl ⟨Nat.le_of_ble_eq_true rfl, Nat.le_of_ble_eq_true rfl⟩ (Nat.le_of_ble_eq_true rfl) rfl dX11_then_34 (fun u9 h8 => ?_)
        refine g_iload_n 2 dX11_then_37 rfl rfl ?_
        refine g_ifne (tgt := 49) dX11_then_38 (by decide) ?_ ?_
        · refine g_iload_n 2 dX11_then_49 rfl rfl ?_
          refine g_iconst (v := 1) dX11_then_50 (by decide) ?_
          refine g_icmpne (tgt := 64) dX11_then_51 (by decide) ?_ ?_
          · refine g_aload_n 0 dX11_then_64 rfl rfl ?_
            refine g_getR kfl_X11_16 fo_X11_mind dX11_then_65 (fun t10 => ?_)
            refine g_callVI (st := []) (ci := 5) rfl (s_X5_weightOfAll hX t10 h8) kml_X11_180 kim_X5_weightOfAll kse_X5_weightOfAll kii_X5 kcd_X5_weightOfAll rfl ds_X5_weightOfAll rfl ⟨Nat.le_of_ble_eq_true rfl, Nat.le_of_ble_eq_true rfl⟩ (Nat.le_of_ble_eq_true rfl) rfl dX11_then_68 (fun r12 h11 => ?_)
            exact g_ireturn rfl dX11_then_71
          · refine g_aload_n 0 dX11_then_54 rfl rfl ?_
            refine g_getR kfl_X11_16 fo_X11_mind dX11_then_55 (fun t13 => ?_)
            refine g_getI kfl_X11_171 fo_X5_relief dX11_then_58 (fun t14 => ?_)
            refine g_goto (tgt := 71) dX11_then_61 (by decide) ?_
            exact g_ireturn rfl dX11_then_71
        · refine g_aload_n 0 dX11_then_41 rfl rfl ?_
          refine g_getR kfl_X11_16 fo_X11_mind dX11_then_42 (fun t15 => ?_)
          refine g_getI kfl_X11_177 fo_X5_inside dX11_then_45 (fun t16 => ?_)
          exact g_ireturn rfl dX11_then_48
      · refine g_iconst (v := (-1)) dX11_then_16 (by decide) ?_
        exact g_ireturn rfl dX11_then_17
abbrev p_X11_worthOfChoice (X : GX) (h0 : AH) : PX Int32 := (X, (fun x => Sum.inl (rI x)), (5, 108, 5), h0)
def f_X11_worthOfChoice_b39 : Nat → Option Nat → Int32 → Int32 → Int32 → Int32 → AH → Option (Int32 × AH)
  | 0 => fun _ _ _ _ _ _ => none
  | n + 1 => fun x0 x1 x2 x3 x4 h =>
    (if x3 ≤ x4 then
    (gR h x0 [11] 1).bind fun t11 =>
    bd (cv h t11 5 (f_X5_isIn t11 x1 h)) fun r13 h12 =>
    (if r13 = 0 then
    some ((6 - x2), h12)
    else (gR h12 x0 [11] 1).bind fun t14 =>
    (gR h12 t14 [5] 1).bind fun t15 =>
    (iA h12 t15 x1).bind fun t16 =>
    some (((t16 / 20) - x2), h12))
    else (gR h x0 [11] 1).bind fun t17 =>
    bd (cv h t17 5 (f_X5_passDayOf t17 x1 h)) fun u19 h18 =>
    f_X11_worthOfChoice_b39 n x0 x1 x2 x3 (x4 + 1) h18)
set_option maxRecDepth 100000 in
set_option maxHeartbeats 4000000 in
theorem s_X11_worthOfChoice_b39 {X : GX} (hX : XOK X) {h0 : AH} : ∀ (n : Nat) (x0 : Option Nat) (x1 : Int32) (x2 : Int32) (x3 : Int32) (x4 : Int32) (h : AH), Gp (p_X11_worthOfChoice X h0) RX11 "worthOfChoice" cX11_worthOfChoice (some .int) 39 [(0, vR x0), (1, vI x1), (2, vI x2), (3, vI x3), (4, vI x4)] [] h (f_X11_worthOfChoice_b39 n x0 x1 x2 x3 x4 h) := by
  intro n
  induction n with
  | zero => intro x0 x1 x2 x3 x4 h; exact g_none
  | succ n ih =>
    intro x0 x1 x2 x3 x4 h
    rw [f_X11_worthOfChoice_b39]
    refine g_iload 4 dX11_worthOfChoice_39 rfl ?_
    refine g_iload_n 3 dX11_worthOfChoice_41 rfl rfl ?_
    refine g_icmpge (tgt := 59) dX11_worthOfChoice_42 (by decide) ?_ ?_
    · refine g_aload_n 0 dX11_worthOfChoice_59 rfl rfl ?_
      refine g_getR kfl_X11_16 fo_X11_mind dX11_worthOfChoice_60 (fun t11 => ?_)
      refine g_iload_n 1 dX11_worthOfChoice_63 rfl rfl ?_
      refine g_callVI (st := []) (ci := 5) rfl (s_X5_isIn hX t11 x1 h) kml_X11_107 kim_X5_isIn kse_X5_isIn kii_X5 kcd_X5_isIn rfl ds_X5_isIn rfl ⟨Nat.le_of_ble_eq_true rfl, Nat.le_of_ble_eq_true rfl⟩ (Nat.le_of_ble_eq_true rfl) rfl dX11_worthOfChoice_64 (fun r13 h12 => ?_)
      refine g_ifeq (tgt := 85) dX11_worthOfChoice_67 (by decide) ?_ ?_
      · refine g_bipush (v := 6) dX11_worthOfChoice_85 (by decide) ?_
        refine g_iload_n 2 dX11_worthOfChoice_87 rfl rfl ?_
        refine g_isub dX11_worthOfChoice_88 ?_
        exact g_ireturn rfl dX11_worthOfChoice_89
      · refine g_aload_n 0 dX11_worthOfChoice_70 rfl rfl ?_
        refine g_getR kfl_X11_16 fo_X11_mind dX11_worthOfChoice_71 (fun t14 => ?_)
        refine g_getR kfl_X11_95 fo_X5_weight dX11_worthOfChoice_74 (fun t15 => ?_)
        refine g_iload_n 1 dX11_worthOfChoice_77 rfl rfl ?_
        refine g_iaload dX11_worthOfChoice_78 (fun t16 => ?_)
        refine g_bipush (v := 20) dX11_worthOfChoice_79 (by decide) ?_
        refine g_idivK dX11_worthOfChoice_81 (by decide) ?_
        refine g_goto (tgt := 87) dX11_worthOfChoice_82 (by decide) ?_
        refine g_iload_n 2 dX11_worthOfChoice_87 rfl rfl ?_
        refine g_isub dX11_worthOfChoice_88 ?_
        exact g_ireturn rfl dX11_worthOfChoice_89
    · refine g_aload_n 0 dX11_worthOfChoice_45 rfl rfl ?_
      refine g_getR kfl_X11_16 fo_X11_mind dX11_worthOfChoice_46 (fun t17 => ?_)
      refine g_iload_n 1 dX11_worthOfChoice_49 rfl rfl ?_
      refine g_callVU (st := []) (ci := 5) rfl (s_X5_passDayOf hX t17 x1 h) kml_X11_186 kim_X5_passDayOf kse_X5_passDayOf kii_X5 kcd_X5_passDayOf rfl ds_X5_passDayOf rfl ⟨Nat.le_of_ble_eq_true rfl, Nat.le_of_ble_eq_true rfl⟩ (Nat.le_of_ble_eq_true rfl) rfl dX11_worthOfChoice_50 (fun u19 h18 => ?_)
      refine g_iinc 4 (v := (x4 + 1)) (ls' := [(4, vI ((x4 + 1))), (0, vR x0), (1, vI x1), (2, vI x2), (3, vI x3)]) dX11_worthOfChoice_53 rfl rfl (Nat.le_of_ble_eq_true rfl) rfl ?_
      refine g_goto (tgt := 39) dX11_worthOfChoice_56 (by decide) ?_
      exact g_sub2 [1, 2, 3, 4, 0] rfl (ih x0 x1 x2 x3 (x4 + 1) h18)
def f_X11_worthOfChoice_b33 (x0 : Option Nat) (x1 : Int32) (x2 : Int32) (x3 : Int32) (y2 : Int32) (y1 : Int32) (y0 : Option Nat) (h : AH) : Option (Int32 × AH) :=
    bd (cv h y0 5 (f_X5_passDayEating y0 y1 y2 h)) fun u10 h9 =>
    f_X11_worthOfChoice_b39 FU x0 x1 x2 x3 1 h9
set_option maxRecDepth 100000 in
set_option maxHeartbeats 4000000 in
theorem s_X11_worthOfChoice_b33 {X : GX} (hX : XOK X) {h0 : AH} : ∀ (x0 : Option Nat) (x1 : Int32) (x2 : Int32) (x3 : Int32) (y2 : Int32) (y1 : Int32) (y0 : Option Nat) (h : AH), Gp (p_X11_worthOfChoice X h0) RX11 "worthOfChoice" cX11_worthOfChoice (some .int) 33 [(0, vR x0), (1, vI x1), (2, vI x2), (3, vI x3)] [vI y2, vI y1, vR y0] h (f_X11_worthOfChoice_b33 x0 x1 x2 x3 y2 y1 y0 h) := by
  intro x0 x1 x2 x3 y2 y1 y0 h
  unfold f_X11_worthOfChoice_b33
  refine g_callVU (st := []) (ci := 5) rfl (s_X5_passDayEating hX y0 y1 y2 h) kml_X11_305 kim_X5_passDayEating kse_X5_passDayEating kii_X5 kcd_X5_passDayEating rfl ds_X5_passDayEating rfl ⟨Nat.le_of_ble_eq_true rfl, Nat.le_of_ble_eq_true rfl⟩ (Nat.le_of_ble_eq_true rfl) rfl dX11_worthOfChoice_33 (fun u10 h9 => ?_)
  refine g_iconst (v := 1) dX11_worthOfChoice_36 (by decide) ?_
  refine g_istore (ls' := [(4, vI 1), (0, vR x0), (1, vI x1), (2, vI x2), (3, vI x3)]) dX11_worthOfChoice_37 (Nat.le_of_ble_eq_true rfl) rfl ?_
  exact g_sub2 [1, 2, 3, 4, 0] rfl (s_X11_worthOfChoice_b39 hX FU x0 x1 x2 x3 1 h9)
def f_X11_worthOfChoice (v0 : Option Nat) (v1 : Int32) (v2 : Int32) (v3 : Int32) (h : AH) : Option (Int32 × AH) :=
    (gR h v0 [11] 1).bind fun t1 =>
    (gR h v0 [11] 0).bind fun t2 =>
    bd (cv h t1 5 (f_X5_becomes t1 t2 h)) fun u4 h3 =>
    (gR h3 v0 [11] 1).bind fun t5 =>
    (if v2 = 1 then
    f_X11_worthOfChoice_b33 v0 v1 v2 v3 0 v1 t5 h3
    else (gR h3 v0 [11] 1).bind fun t6 =>
    bd (cv h3 t6 5 (f_X5_foodOf t6 v1 h3)) fun r8 h7 =>
    f_X11_worthOfChoice_b33 v0 v1 v2 v3 r8 v1 t5 h7)
set_option maxRecDepth 100000 in
set_option maxHeartbeats 4000000 in
theorem s_X11_worthOfChoice {X : GX} (hX : XOK X) (v0 : Option Nat) (v1 : Int32) (v2 : Int32) (v3 : Int32) (h : AH) : Snd X yX11_worthOfChoice cX11_worthOfChoice 5 (some .int) 5 108 rI [vR v0, vI v1, vI v2, vI v3] h (f_X11_worthOfChoice v0 v1 v2 v3 h) := by
  refine snd_of hX (by decide +kernel) (Nat.le_of_ble_eq_true rfl) ?_
  show Gp (p_X11_worthOfChoice X h) RX11 "worthOfChoice" cX11_worthOfChoice (some .int) 0 [(0, vR v0), (1, vI v1), (2, vI v2), (3, vI v3)] [] h _
  unfold f_X11_worthOfChoice
  refine g_aload_n 0 dX11_worthOfChoice_0 rfl rfl ?_
  refine g_getR kfl_X11_16 fo_X11_mind dX11_worthOfChoice_1 (fun t1 => ?_)
  refine g_aload_n 0 dX11_worthOfChoice_4 rfl rfl ?_
  refine g_getR kfl_X11_10 fo_X11_now dX11_worthOfChoice_5 (fun t2 => ?_)
  refine g_callVU (st := []) (ci := 5) rfl (s_X5_becomes hX t1 t2 h) kml_X11_70 kim_X5_becomes kse_X5_becomes kii_X5 kcd_X5_becomes rfl ds_X5_becomes rfl ⟨Nat.le_of_ble_eq_true rfl, Nat.le_of_ble_eq_true rfl⟩ (Nat.le_of_ble_eq_true rfl) rfl dX11_worthOfChoice_8 (fun u4 h3 => ?_)
  refine g_aload_n 0 dX11_worthOfChoice_11 rfl rfl ?_
  refine g_getR kfl_X11_16 fo_X11_mind dX11_worthOfChoice_12 (fun t5 => ?_)
  refine g_iload_n 1 dX11_worthOfChoice_15 rfl rfl ?_
  refine g_iload_n 2 dX11_worthOfChoice_16 rfl rfl ?_
  refine g_iconst (v := 1) dX11_worthOfChoice_17 (by decide) ?_
  refine g_icmpne (tgt := 25) dX11_worthOfChoice_18 (by decide) ?_ ?_
  · refine g_aload_n 0 dX11_worthOfChoice_25 rfl rfl ?_
    refine g_getR kfl_X11_16 fo_X11_mind dX11_worthOfChoice_26 (fun t6 => ?_)
    refine g_iload_n 1 dX11_worthOfChoice_29 rfl rfl ?_
    refine g_callVI (st := [vI v1, vR t5]) (ci := 5) rfl (s_X5_foodOf hX t6 v1 h3) kml_X11_302 kim_X5_foodOf kse_X5_foodOf kii_X5 kcd_X5_foodOf rfl ds_X5_foodOf rfl ⟨Nat.le_of_ble_eq_true rfl, Nat.le_of_ble_eq_true rfl⟩ (Nat.le_of_ble_eq_true rfl) rfl dX11_worthOfChoice_30 (fun r8 h7 => ?_)
    exact g_sub2 [0, 1, 2, 3] rfl (s_X11_worthOfChoice_b33 hX v0 v1 v2 v3 r8 v1 t5 h7)
  · refine g_iconst (v := 0) dX11_worthOfChoice_21 (by decide) ?_
    refine g_goto (tgt := 33) dX11_worthOfChoice_22 (by decide) ?_
    exact g_sub2 [0, 1, 2, 3] rfl (s_X11_worthOfChoice_b33 hX v0 v1 v2 v3 0 v1 t5 h3)
abbrev p_X11_two (X : GX) (h0 : AH) : PX Int32 := (X, (fun x => Sum.inl (rI x)), (6, 132, 10), h0)
def f_X11_two_b109 (x8 : Int32) (y0 : Int32) (h : AH) : Option (Int32 × AH) :=
    some (((10 * x8) + y0), h)
set_option maxRecDepth 100000 in
set_option maxHeartbeats 4000000 in
theorem s_X11_two_b109 {X : GX} (hX : XOK X) {h0 : AH} : ∀ (x8 : Int32) (y0 : Int32) (h : AH), Gp (p_X11_two X h0) RX11 "two" cX11_two (some .int) 109 [(8, vI x8)] [vI y0] h (f_X11_two_b109 x8 y0 h) := by
  intro x8 y0 h
  unfold f_X11_two_b109
  refine g_istore (ls' := [(9, vI y0), (8, vI x8)]) dX11_two_109 (Nat.le_of_ble_eq_true rfl) rfl ?_
  refine g_bipush (v := 10) dX11_two_111 (by decide) ?_
  refine g_iload 1 dX11_two_113 rfl ?_
  refine g_imul dX11_two_115 ?_
  refine g_iload 0 dX11_two_116 rfl ?_
  refine g_iadd dX11_two_118 ?_
  exact g_ireturn rfl dX11_two_119
def f_X11_two_b95 (x6 : Int32) (x7 : Int32) (y0 : Int32) (h : AH) : Option (Int32 × AH) :=
    (if x6 < x7 then
    f_X11_two_b109 y0 1 h
    else f_X11_two_b109 y0 0 h)
set_option maxRecDepth 100000 in
set_option maxHeartbeats 4000000 in
theorem s_X11_two_b95 {X : GX} (hX : XOK X) {h0 : AH} : ∀ (x6 : Int32) (x7 : Int32) (y0 : Int32) (h : AH), Gp (p_X11_two X h0) RX11 "two" cX11_two (some .int) 95 [(6, vI x6), (7, vI x7)] [vI y0] h (f_X11_two_b95 x6 x7 y0 h) := by
  intro x6 x7 y0 h
  unfold f_X11_two_b95
  refine g_istore (ls' := [(8, vI y0), (6, vI x6), (7, vI x7)]) dX11_two_95 (Nat.le_of_ble_eq_true rfl) rfl ?_
  refine g_iload 1 dX11_two_97 rfl ?_
  refine g_iload 2 dX11_two_99 rfl ?_
  refine g_icmplt (tgt := 108) dX11_two_101 (by decide) ?_ ?_
  · refine g_iconst (v := 1) dX11_two_108 (by decide) ?_
    exact g_sub2 [0] rfl (s_X11_two_b109 hX y0 1 h)
  · refine g_iconst (v := 0) dX11_two_104 (by decide) ?_
    refine g_goto (tgt := 109) dX11_two_105 (by decide) ?_
    exact g_sub2 [0] rfl (s_X11_two_b109 hX y0 0 h)
def f_X11_two (v0 : Option Nat) (v1 : Int32) (v2 : Int32) (v3 : Int32) (h : AH) : Option (Int32 × AH) :=
    bd (cv h v0 11 (f_X11_areTwo v0 v1 v2 h)) fun r2 h1 =>
    (if r2 = 0 then
    some ((-1), h1)
    else (if v3 < 1 then
    some ((-1), h1)
    else (if v3 ≤ 30 then
    (gR h1 v0 [11] 0).bind fun t3 =>
    bd (cv h1 t3 5 (f_X5_isIn t3 v1 h1)) fun r5 h4 =>
    (if r5 = 0 then
    some ((-3), h4)
    else (gR h4 v0 [11] 0).bind fun t6 =>
    bd (cv h4 t6 5 (f_X5_isIn t6 v2 h4)) fun r8 h7 =>
    (if r8 = 0 then
    some ((-3), h7)
    else bd (cv h7 v0 11 (f_X11_worthOfChoice v0 v1 0 v3 h7)) fun r10 h9 =>
    bd (cv h9 v0 11 (f_X11_worthOfChoice v0 v1 1 v3 h9)) fun r12 h11 =>
    bd (cv h11 v0 11 (f_X11_worthOfChoice v0 v2 0 v3 h11)) fun r14 h13 =>
    bd (cv h13 v0 11 (f_X11_worthOfChoice v0 v2 1 v3 h13)) fun r16 h15 =>
    (if r10 < r12 then
    f_X11_two_b95 r14 r16 1 h15
    else f_X11_two_b95 r14 r16 0 h15)))
    else some ((-1), h1))))
set_option maxRecDepth 100000 in
set_option maxHeartbeats 4000000 in
theorem s_X11_two {X : GX} (hX : XOK X) (v0 : Option Nat) (v1 : Int32) (v2 : Int32) (v3 : Int32) (h : AH) : Snd X yX11_two cX11_two 10 (some .int) 6 132 rI [vR v0, vI v1, vI v2, vI v3] h (f_X11_two v0 v1 v2 v3 h) := by
  refine snd_of hX (by decide +kernel) (Nat.le_of_ble_eq_true rfl) ?_
  show Gp (p_X11_two X h) RX11 "two" cX11_two (some .int) 0 [(0, vR v0), (1, vI v1), (2, vI v2), (3, vI v3)] [] h _
  unfold f_X11_two
  refine g_aload_n 0 dX11_two_0 rfl rfl ?_
  refine g_iload_n 1 dX11_two_1 rfl rfl ?_
  refine g_iload_n 2 dX11_two_2 rfl rfl ?_
  refine g_callVI (st := []) (ci := 11) rfl (s_X11_areTwo hX v0 v1 v2 h) kml_X11_144 kim_X11_areTwo kse_X11_areTwo kii_X11 kcd_X11_areTwo rfl ds_X11_areTwo rfl ⟨Nat.le_of_ble_eq_true rfl, Nat.le_of_ble_eq_true rfl⟩ (Nat.le_of_ble_eq_true rfl) rfl dX11_two_3 (fun r2 h1 => ?_)
  refine g_ifeq (tgt := 20) dX11_two_6 (by decide) ?_ ?_
  · refine g_iconst (v := (-1)) dX11_two_20 (by decide) ?_
    exact g_ireturn rfl dX11_two_21
  · refine g_iload_n 3 dX11_two_9 rfl rfl ?_
    refine g_iconst (v := 1) dX11_two_10 (by decide) ?_
    refine g_icmplt (tgt := 20) dX11_two_11 (by decide) ?_ ?_
    · refine g_iconst (v := (-1)) dX11_two_20 (by decide) ?_
      exact g_ireturn rfl dX11_two_21
    · refine g_iload_n 3 dX11_two_14 rfl rfl ?_
      refine g_bipush (v := 30) dX11_two_15 (by decide) ?_
      refine g_icmple (tgt := 22) dX11_two_17 (by decide) ?_ ?_
      · refine g_aload_n 0 dX11_two_22 rfl rfl ?_
        refine g_getR kfl_X11_10 fo_X11_now dX11_two_23 (fun t3 => ?_)
        refine g_iload_n 1 dX11_two_26 rfl rfl ?_
        refine g_callVI (st := []) (ci := 5) rfl (s_X5_isIn hX t3 v1 h1) kml_X11_107 kim_X5_isIn kse_X5_isIn kii_X5 kcd_X5_isIn rfl ds_X5_isIn rfl ⟨Nat.le_of_ble_eq_true rfl, Nat.le_of_ble_eq_true rfl⟩ (Nat.le_of_ble_eq_true rfl) rfl dX11_two_27 (fun r5 h4 => ?_)
        refine g_ifeq (tgt := 44) dX11_two_30 (by decide) ?_ ?_
        · refine g_bipush (v := (-3)) dX11_two_44 (by decide) ?_
          exact g_ireturn rfl dX11_two_46
        · refine g_aload_n 0 dX11_two_33 rfl rfl ?_
          refine g_getR kfl_X11_10 fo_X11_now dX11_two_34 (fun t6 => ?_)
          refine g_iload_n 2 dX11_two_37 rfl rfl ?_
          refine g_callVI (st := []) (ci := 5) rfl (s_X5_isIn hX t6 v2 h4) kml_X11_107 kim_X5_isIn kse_X5_isIn kii_X5 kcd_X5_isIn rfl ds_X5_isIn rfl ⟨Nat.le_of_ble_eq_true rfl, Nat.le_of_ble_eq_true rfl⟩ (Nat.le_of_ble_eq_true rfl) rfl dX11_two_38 (fun r8 h7 => ?_)
          refine g_ifne (tgt := 47) dX11_two_41 (by decide) ?_ ?_
          · refine g_aload_n 0 dX11_two_47 rfl rfl ?_
            refine g_iload_n 1 dX11_two_48 rfl rfl ?_
            refine g_iconst (v := 0) dX11_two_49 (by decide) ?_
            refine g_iload_n 3 dX11_two_50 rfl rfl ?_
            refine g_callVI (st := []) (ci := 11) rfl (s_X11_worthOfChoice hX v0 v1 0 v3 h7) kml_X11_258 kim_X11_worthOfChoice kse_X11_worthOfChoice kii_X11 kcd_X11_worthOfChoice rfl ds_X11_worthOfChoice rfl ⟨Nat.le_of_ble_eq_true rfl, Nat.le_of_ble_eq_true rfl⟩ (Nat.le_of_ble_eq_true rfl) rfl dX11_two_51 (fun r10 h9 => ?_)
            refine g_istore (ls' := [(4, vI r10), (0, vR v0), (1, vI v1), (2, vI v2), (3, vI v3)]) dX11_two_54 (Nat.le_of_ble_eq_true rfl) rfl ?_
            refine g_aload_n 1 dX11_two_56 rfl rfl ?_
            refine g_iload_n 2 dX11_two_57 rfl rfl ?_
            refine g_iconst (v := 1) dX11_two_58 (by decide) ?_
            refine g_iload_n 4 dX11_two_59 rfl rfl ?_
            refine g_callVI (st := []) (ci := 11) rfl (s_X11_worthOfChoice hX v0 v1 1 v3 h9) kml_X11_258 kim_X11_worthOfChoice kse_X11_worthOfChoice kii_X11 kcd_X11_worthOfChoice rfl ds_X11_worthOfChoice rfl ⟨Nat.le_of_ble_eq_true rfl, Nat.le_of_ble_eq_true rfl⟩ (Nat.le_of_ble_eq_true rfl) rfl dX11_two_60 (fun r12 h11 => ?_)
            refine g_istore (ls' := [(5, vI r12), (4, vI r10), (0, vR v0), (1, vI v1), (2, vI v2), (3, vI v3)]) dX11_two_63 (Nat.le_of_ble_eq_true rfl) rfl ?_
            refine g_aload_n 2 dX11_two_65 rfl rfl ?_
            refine g_iload_n 4 dX11_two_66 rfl rfl ?_
            refine g_iconst (v := 0) dX11_two_67 (by decide) ?_
            refine g_iload_n 5 dX11_two_68 rfl rfl ?_
            refine g_callVI (st := []) (ci := 11) rfl (s_X11_worthOfChoice hX v0 v2 0 v3 h11) kml_X11_258 kim_X11_worthOfChoice kse_X11_worthOfChoice kii_X11 kcd_X11_worthOfChoice rfl ds_X11_worthOfChoice rfl ⟨Nat.le_of_ble_eq_true rfl, Nat.le_of_ble_eq_true rfl⟩ (Nat.le_of_ble_eq_true rfl) rfl dX11_two_69 (fun r14 h13 => ?_)
            refine g_istore (ls' := [(6, vI r14), (5, vI r12), (4, vI r10), (0, vR v0), (1, vI v1), (2, vI v2), (3, vI v3)]) dX11_two_72 (Nat.le_of_ble_eq_true rfl) rfl ?_
            refine g_aload_n 3 dX11_two_74 rfl rfl ?_
            refine g_iload_n 5 dX11_two_75 rfl rfl ?_
            refine g_iconst (v := 1) dX11_two_76 (by decide) ?_
            refine g_iload_n 6 dX11_two_77 rfl rfl ?_
            refine g_callVI (st := []) (ci := 11) rfl (s_X11_worthOfChoice hX v0 v2 1 v3 h13) kml_X11_258 kim_X11_worthOfChoice kse_X11_worthOfChoice kii_X11 kcd_X11_worthOfChoice rfl ds_X11_worthOfChoice rfl ⟨Nat.le_of_ble_eq_true rfl, Nat.le_of_ble_eq_true rfl⟩ (Nat.le_of_ble_eq_true rfl) rfl dX11_two_78 (fun r16 h15 => ?_)
            refine g_istore (ls' := [(7, vI r16), (6, vI r14), (5, vI r12), (4, vI r10), (0, vR v0), (1, vI v1), (2, vI v2), (3, vI v3)]) dX11_two_81 (Nat.le_of_ble_eq_true rfl) rfl ?_
            refine g_iload 3 dX11_two_83 rfl ?_
            refine g_iload 2 dX11_two_85 rfl ?_
            refine g_icmplt (tgt := 94) dX11_two_87 (by decide) ?_ ?_
            · refine g_iconst (v := 1) dX11_two_94 (by decide) ?_
              exact g_sub2 [1, 0] rfl (s_X11_two_b95 hX r14 r16 1 h15)
            · refine g_iconst (v := 0) dX11_two_90 (by decide) ?_
              refine g_goto (tgt := 95) dX11_two_91 (by decide) ?_
              exact g_sub2 [1, 0] rfl (s_X11_two_b95 hX r14 r16 0 h15)
          · refine g_bipush (v := (-3)) dX11_two_44 (by decide) ?_
            exact g_ireturn rfl dX11_two_46
      · refine g_iconst (v := (-1)) dX11_two_20 (by decide) ?_
        exact g_ireturn rfl dX11_two_21
abbrev p_X11_waits (X : GX) (h0 : AH) : PX Int32 := (X, (fun x => Sum.inl (rI x)), (5, 108, 5), h0)
def f_X11_waits_b42 : Nat → Option Nat → Int32 → Int32 → Int32 → Int32 → AH → Option (Int32 × AH)
  | 0 => fun _ _ _ _ _ _ => none
  | n + 1 => fun x0 x1 x2 x3 x4 h =>
    (gR h x0 [11] 0).bind fun t12 =>
    (gI h t12 [5] 5).bind fun t13 =>
    (if t13 ≤ x4 then
    some (x3, h)
    else (gR h x0 [11] 0).bind fun t14 =>
    bd (cv h t14 5 (f_X5_isIn t14 x4 h)) fun r16 h15 =>
    (if r16 = 0 then
    f_X11_waits_b42 n x0 x1 x2 x3 (x4 + 1) h15
    else (gR h15 x0 [11] 1).bind fun t17 =>
    (gR h15 x0 [11] 0).bind fun t18 =>
    bd (cv h15 t17 5 (f_X5_becomes t17 t18 h15)) fun u20 h19 =>
    (gR h19 x0 [11] 1).bind fun t21 =>
    (gR h19 t21 [5] 4).bind fun t22 =>
    (iA h19 t22 x4).bind fun t23 =>
    (iS h19 t22 x4 (t23 + 5)).bind fun h24 =>
    (gR h24 x0 [11] 1).bind fun t25 =>
    bd (cv h24 t25 5 (f_X5_passDays t25 x1 h24)) fun u27 h26 =>
    (gR h26 x0 [11] 1).bind fun t28 =>
    (gI h26 t28 [5] 9).bind fun t29 =>
    (if t29 ≤ x2 then
    f_X11_waits_b42 n x0 x1 x2 x3 (x4 + 1) h26
    else (gR h26 x0 [11] 1).bind fun t30 =>
    (gI h26 t30 [5] 9).bind fun t31 =>
    f_X11_waits_b42 n x0 x1 t31 x4 (x4 + 1) h26)))
set_option maxRecDepth 100000 in
set_option maxHeartbeats 4000000 in
theorem s_X11_waits_b42 {X : GX} (hX : XOK X) {h0 : AH} : ∀ (n : Nat) (x0 : Option Nat) (x1 : Int32) (x2 : Int32) (x3 : Int32) (x4 : Int32) (h : AH), Gp (p_X11_waits X h0) RX11 "waits" cX11_waits (some .int) 42 [(0, vR x0), (1, vI x1), (2, vI x2), (3, vI x3), (4, vI x4)] [] h (f_X11_waits_b42 n x0 x1 x2 x3 x4 h) := by
  intro n
  induction n with
  | zero => intro x0 x1 x2 x3 x4 h; exact g_none
  | succ n ih =>
    intro x0 x1 x2 x3 x4 h
    rw [f_X11_waits_b42]
    refine g_iload 4 dX11_waits_42 rfl ?_
    refine g_aload_n 0 dX11_waits_44 rfl rfl ?_
    refine g_getR kfl_X11_10 fo_X11_now dX11_waits_45 (fun t12 => ?_)
    refine g_getI kfl_X11_134 fo_X5_guests dX11_waits_48 (fun t13 => ?_)
    refine g_icmpge (tgt := 130) dX11_waits_51 (by decide) ?_ ?_
    · refine g_iload_n 3 dX11_waits_130 rfl rfl ?_
      exact g_ireturn rfl dX11_waits_131
    · refine g_aload_n 0 dX11_waits_54 rfl rfl ?_
      refine g_getR kfl_X11_10 fo_X11_now dX11_waits_55 (fun t14 => ?_)
      refine g_iload 4 dX11_waits_58 rfl ?_
      refine g_callVI (st := []) (ci := 5) rfl (s_X5_isIn hX t14 x4 h) kml_X11_107 kim_X5_isIn kse_X5_isIn kii_X5 kcd_X5_isIn rfl ds_X5_isIn rfl ⟨Nat.le_of_ble_eq_true rfl, Nat.le_of_ble_eq_true rfl⟩ (Nat.le_of_ble_eq_true rfl) rfl dX11_waits_60 (fun r16 h15 => ?_)
      refine g_ifne (tgt := 69) dX11_waits_63 (by decide) ?_ ?_
      · refine g_aload_n 0 dX11_waits_69 rfl rfl ?_
        refine g_getR kfl_X11_16 fo_X11_mind dX11_waits_70 (fun t17 => ?_)
        refine g_aload_n 0 dX11_waits_73 rfl rfl ?_
        refine g_getR kfl_X11_10 fo_X11_now dX11_waits_74 (fun t18 => ?_)
        refine g_callVU (st := []) (ci := 5) rfl (s_X5_becomes hX t17 t18 h15) kml_X11_70 kim_X5_becomes kse_X5_becomes kii_X5 kcd_X5_becomes rfl ds_X5_becomes rfl ⟨Nat.le_of_ble_eq_true rfl, Nat.le_of_ble_eq_true rfl⟩ (Nat.le_of_ble_eq_true rfl) rfl dX11_waits_77 (fun u20 h19 => ?_)
        refine g_aload_n 0 dX11_waits_80 rfl rfl ?_
        refine g_getR kfl_X11_16 fo_X11_mind dX11_waits_81 (fun t21 => ?_)
        refine g_getR kfl_X11_104 fo_X5_came dX11_waits_84 (fun t22 => ?_)
        refine g_iload 4 dX11_waits_87 rfl ?_
        refine g_dup2 dX11_waits_89 rfl rfl ?_
        refine g_iaload dX11_waits_90 (fun t23 => ?_)
        refine g_iconst (v := 5) dX11_waits_91 (by decide) ?_
        refine g_iadd dX11_waits_92 ?_
        refine g_iastore dX11_waits_93 (fun h24 => ?_)
        refine g_aload_n 0 dX11_waits_94 rfl rfl ?_
        refine g_getR kfl_X11_16 fo_X11_mind dX11_waits_95 (fun t25 => ?_)
        refine g_iload_n 1 dX11_waits_98 rfl rfl ?_
        refine g_callVU (st := []) (ci := 5) rfl (s_X5_passDays hX t25 x1 h24) kml_X11_168 kim_X5_passDays kse_X5_passDays kii_X5 kcd_X5_passDays rfl ds_X5_passDays rfl ⟨Nat.le_of_ble_eq_true rfl, Nat.le_of_ble_eq_true rfl⟩ (Nat.le_of_ble_eq_true rfl) rfl dX11_waits_99 (fun u27 h26 => ?_)
        refine g_aload_n 0 dX11_waits_102 rfl rfl ?_
        refine g_getR kfl_X11_16 fo_X11_mind dX11_waits_103 (fun t28 => ?_)
        refine g_getI kfl_X11_171 fo_X5_relief dX11_waits_106 (fun t29 => ?_)
        refine g_iload_n 2 dX11_waits_109 rfl rfl ?_
        refine g_icmple (tgt := 124) dX11_waits_110 (by decide) ?_ ?_
        · refine g_iinc 4 (v := (x4 + 1)) (ls' := [(4, vI ((x4 + 1))), (0, vR x0), (1, vI x1), (2, vI x2), (3, vI x3)]) dX11_waits_124 rfl rfl (Nat.le_of_ble_eq_true rfl) rfl ?_
          refine g_goto (tgt := 42) dX11_waits_127 (by decide) ?_
          exact g_sub2 [1, 2, 3, 4, 0] rfl (ih x0 x1 x2 x3 (x4 + 1) h26)
        · refine g_aload_n 0 dX11_waits_113 rfl rfl ?_
          refine g_getR kfl_X11_16 fo_X11_mind dX11_waits_114 (fun t30 => ?_)
          refine g_getI kfl_X11_171 fo_X5_relief dX11_waits_117 (fun t31 => ?_)
          refine g_istore_n (ls' := [(2, vI t31), (0, vR x0), (1, vI x1), (3, vI x3), (4, vI x4)]) dX11_waits_120 rfl (Nat.le_of_ble_eq_true rfl) rfl ?_
          refine g_iload 4 dX11_waits_121 rfl ?_
          refine g_istore_n (ls' := [(3, vI x4), (2, vI t31), (0, vR x0), (1, vI x1), (4, vI x4)]) dX11_waits_123 rfl (Nat.le_of_ble_eq_true rfl) rfl ?_
          refine g_iinc 4 (v := (x4 + 1)) (ls' := [(4, vI ((x4 + 1))), (3, vI x4), (2, vI t31), (0, vR x0), (1, vI x1)]) dX11_waits_124 rfl rfl (Nat.le_of_ble_eq_true rfl) rfl ?_
          refine g_goto (tgt := 42) dX11_waits_127 (by decide) ?_
          exact g_sub2 [3, 4, 2, 1, 0] rfl (ih x0 x1 t31 x4 (x4 + 1) h26)
      · refine g_goto (tgt := 124) dX11_waits_66 (by decide) ?_
        refine g_iinc 4 (v := (x4 + 1)) (ls' := [(4, vI ((x4 + 1))), (0, vR x0), (1, vI x1), (2, vI x2), (3, vI x3)]) dX11_waits_124 rfl rfl (Nat.le_of_ble_eq_true rfl) rfl ?_
        refine g_goto (tgt := 42) dX11_waits_127 (by decide) ?_
        exact g_sub2 [1, 2, 3, 4, 0] rfl (ih x0 x1 x2 x3 (x4 + 1) h15)
def f_X11_waits (v0 : Option Nat) (v1 : Int32) (h : AH) : Option (Int32 × AH) :=
    bd (f_X11_isDaysOn v1 h) fun r2 h1 =>
    (if r2 = 0 then
    some ((-1), h1)
    else (gR h1 v0 [11] 1).bind fun t3 =>
    (gR h1 v0 [11] 0).bind fun t4 =>
    bd (cv h1 t3 5 (f_X5_becomes t3 t4 h1)) fun u6 h5 =>
    (gR h5 v0 [11] 1).bind fun t7 =>
    bd (cv h5 t7 5 (f_X5_passDays t7 v1 h5)) fun u9 h8 =>
    (gR h8 v0 [11] 1).bind fun t10 =>
    (gI h8 t10 [5] 9).bind fun t11 =>
    f_X11_waits_b42 FU v0 v1 t11 (-4) 0 h8)
set_option maxRecDepth 100000 in
set_option maxHeartbeats 4000000 in
theorem s_X11_waits {X : GX} (hX : XOK X) (v0 : Option Nat) (v1 : Int32) (h : AH) : Snd X yX11_waits cX11_waits 5 (some .int) 5 108 rI [vR v0, vI v1] h (f_X11_waits v0 v1 h) := by
  refine snd_of hX (by decide +kernel) (Nat.le_of_ble_eq_true rfl) ?_
  show Gp (p_X11_waits X h) RX11 "waits" cX11_waits (some .int) 0 [(0, vR v0), (1, vI v1)] [] h _
  unfold f_X11_waits
  refine g_iload_n 1 dX11_waits_0 rfl rfl ?_
  refine g_callSI (st := []) (s_X11_isDaysOn hX v1 h) kml_X11_174 kst_X11_isDaysOn kii_X11 kcd_X11_isDaysOn ds_X11_isDaysOn rfl ⟨Nat.le_of_ble_eq_true rfl, Nat.le_of_ble_eq_true rfl⟩ (Nat.le_of_ble_eq_true rfl) rfl dX11_waits_1 (fun r2 h1 => ?_)
  refine g_ifne (tgt := 9) dX11_waits_4 (by decide) ?_ ?_
  · refine g_aload_n 0 dX11_waits_9 rfl rfl ?_
    refine g_getR kfl_X11_16 fo_X11_mind dX11_waits_10 (fun t3 => ?_)
    refine g_aload_n 0 dX11_waits_13 rfl rfl ?_
    refine g_getR kfl_X11_10 fo_X11_now dX11_waits_14 (fun t4 => ?_)
    refine g_callVU (st := []) (ci := 5) rfl (s_X5_becomes hX t3 t4 h1) kml_X11_70 kim_X5_becomes kse_X5_becomes kii_X5 kcd_X5_becomes rfl ds_X5_becomes rfl ⟨Nat.le_of_ble_eq_true rfl, Nat.le_of_ble_eq_true rfl⟩ (Nat.le_of_ble_eq_true rfl) rfl dX11_waits_17 (fun u6 h5 => ?_)
    refine g_aload_n 0 dX11_waits_20 rfl rfl ?_
    refine g_getR kfl_X11_16 fo_X11_mind dX11_waits_21 (fun t7 => ?_)
    refine g_iload_n 1 dX11_waits_24 rfl rfl ?_
    refine g_callVU (st := []) (ci := 5) rfl (s_X5_passDays hX t7 v1 h5) kml_X11_168 kim_X5_passDays kse_X5_passDays kii_X5 kcd_X5_passDays rfl ds_X5_passDays rfl ⟨Nat.le_of_ble_eq_true rfl, Nat.le_of_ble_eq_true rfl⟩ (Nat.le_of_ble_eq_true rfl) rfl dX11_waits_25 (fun u9 h8 => ?_)
    refine g_aload_n 0 dX11_waits_28 rfl rfl ?_
    refine g_getR kfl_X11_16 fo_X11_mind dX11_waits_29 (fun t10 => ?_)
    refine g_getI kfl_X11_171 fo_X5_relief dX11_waits_32 (fun t11 => ?_)
    refine g_istore_n (ls' := [(2, vI t11), (0, vR v0), (1, vI v1)]) dX11_waits_35 rfl (Nat.le_of_ble_eq_true rfl) rfl ?_
    refine g_bipush (v := (-4)) dX11_waits_36 (by decide) ?_
    refine g_istore_n (ls' := [(3, vI ((-4))), (2, vI t11), (0, vR v0), (1, vI v1)]) dX11_waits_38 rfl (Nat.le_of_ble_eq_true rfl) rfl ?_
    refine g_iconst (v := 0) dX11_waits_39 (by decide) ?_
    refine g_istore (ls' := [(4, vI 0), (3, vI ((-4))), (2, vI t11), (0, vR v0), (1, vI v1)]) dX11_waits_40 (Nat.le_of_ble_eq_true rfl) rfl ?_
    exact g_sub2 [3, 4, 2, 1, 0] rfl (s_X11_waits_b42 hX FU v0 v1 t11 (-4) 0 h8)
  · refine g_iconst (v := (-1)) dX11_waits_7 (by decide) ?_
    exact g_ireturn rfl dX11_waits_8
abbrev p_X11_weighs (X : GX) (h0 : AH) : PX Int32 := (X, (fun x => Sum.inl (rI x)), (1, 21, 4), h0)
def f_X11_weighs (v0 : Option Nat) (v1 : Int32) (v2 : Int32) (h : AH) : Option (Int32 × AH) :=
    (gR h v0 [11] 0).bind fun t1 =>
    bd (cv h t1 5 (f_X5_knows t1 v1 h)) fun r3 h2 =>
    (if r3 = 0 then
    some ((-1), h2)
    else bd (f_X11_isWeight v2 h2) fun r5 h4 =>
    (if r5 = 0 then
    some ((-1), h4)
    else (gR h4 v0 [11] 0).bind fun t6 =>
    bd (cv h4 t6 5 (f_X5_isIn t6 v1 h4)) fun r8 h7 =>
    (if r8 = 0 then
    some ((-3), h7)
    else (gR h7 v0 [11] 0).bind fun t9 =>
    (gR h7 t9 [5] 1).bind fun t10 =>
    (iA h7 t10 v1).bind fun t11 =>
    (gR h7 v0 [11] 0).bind fun t12 =>
    (gR h7 t12 [5] 1).bind fun t13 =>
    (iS h7 t13 v1 v2).bind fun h14 =>
    some (t11, h14))))
set_option maxRecDepth 100000 in
set_option maxHeartbeats 4000000 in
theorem s_X11_weighs {X : GX} (hX : XOK X) (v0 : Option Nat) (v1 : Int32) (v2 : Int32) (h : AH) : Snd X yX11_weighs cX11_weighs 4 (some .int) 1 21 rI [vR v0, vI v1, vI v2] h (f_X11_weighs v0 v1 v2 h) := by
  refine snd_of hX (by decide +kernel) (Nat.le_of_ble_eq_true rfl) ?_
  show Gp (p_X11_weighs X h) RX11 "weighs" cX11_weighs (some .int) 0 [(0, vR v0), (1, vI v1), (2, vI v2)] [] h _
  unfold f_X11_weighs
  refine g_aload_n 0 dX11_weighs_0 rfl rfl ?_
  refine g_getR kfl_X11_10 fo_X11_now dX11_weighs_1 (fun t1 => ?_)
  refine g_iload_n 1 dX11_weighs_4 rfl rfl ?_
  refine g_callVI (st := []) (ci := 5) rfl (s_X5_knows hX t1 v1 h) kml_X11_84 kim_X5_knows kse_X5_knows kii_X5 kcd_X5_knows rfl ds_X5_knows rfl ⟨Nat.le_of_ble_eq_true rfl, Nat.le_of_ble_eq_true rfl⟩ (Nat.le_of_ble_eq_true rfl) rfl dX11_weighs_5 (fun r3 h2 => ?_)
  refine g_ifeq (tgt := 18) dX11_weighs_8 (by decide) ?_ ?_
  · refine g_iconst (v := (-1)) dX11_weighs_18 (by decide) ?_
    exact g_ireturn rfl dX11_weighs_19
  · refine g_iload_n 2 dX11_weighs_11 rfl rfl ?_
    refine g_callSI (st := []) (s_X11_isWeight hX v2 h2) kml_X11_116 kst_X11_isWeight kii_X11 kcd_X11_isWeight ds_X11_isWeight rfl ⟨Nat.le_of_ble_eq_true rfl, Nat.le_of_ble_eq_true rfl⟩ (Nat.le_of_ble_eq_true rfl) rfl dX11_weighs_12 (fun r5 h4 => ?_)
    refine g_ifne (tgt := 20) dX11_weighs_15 (by decide) ?_ ?_
    · refine g_aload_n 0 dX11_weighs_20 rfl rfl ?_
      refine g_getR kfl_X11_10 fo_X11_now dX11_weighs_21 (fun t6 => ?_)
      refine g_iload_n 1 dX11_weighs_24 rfl rfl ?_
      refine g_callVI (st := []) (ci := 5) rfl (s_X5_isIn hX t6 v1 h4) kml_X11_107 kim_X5_isIn kse_X5_isIn kii_X5 kcd_X5_isIn rfl ds_X5_isIn rfl ⟨Nat.le_of_ble_eq_true rfl, Nat.le_of_ble_eq_true rfl⟩ (Nat.le_of_ble_eq_true rfl) rfl dX11_weighs_25 (fun r8 h7 => ?_)
      refine g_ifne (tgt := 34) dX11_weighs_28 (by decide) ?_ ?_
      · refine g_aload_n 0 dX11_weighs_34 rfl rfl ?_
        refine g_getR kfl_X11_10 fo_X11_now dX11_weighs_35 (fun t9 => ?_)
        refine g_getR kfl_X11_95 fo_X5_weight dX11_weighs_38 (fun t10 => ?_)
        refine g_iload_n 1 dX11_weighs_41 rfl rfl ?_
        refine g_iaload dX11_weighs_42 (fun t11 => ?_)
        refine g_istore_n (ls' := [(3, vI t11), (0, vR v0), (1, vI v1), (2, vI v2)]) dX11_weighs_43 rfl (Nat.le_of_ble_eq_true rfl) rfl ?_
        refine g_aload_n 1 dX11_weighs_44 rfl rfl ?_
        refine g_getR kfl_X11_10 fo_X11_now dX11_weighs_45 (fun t12 => ?_)
        refine g_getR kfl_X11_95 fo_X5_weight dX11_weighs_48 (fun t13 => ?_)
        refine g_iload_n 2 dX11_weighs_51 rfl rfl ?_
        refine g_iload_n 3 dX11_weighs_52 rfl rfl ?_
        refine g_iastore dX11_weighs_53 (fun h14 => ?_)
        refine g_iload_n 0 dX11_weighs_54 rfl rfl ?_
        exact g_ireturn rfl dX11_weighs_55
      · refine g_bipush (v := (-3)) dX11_weighs_31 (by decide) ?_
        exact g_ireturn rfl dX11_weighs_33
    · refine g_iconst (v := (-1)) dX11_weighs_18 (by decide) ?_
      exact g_ireturn rfl dX11_weighs_19
abbrev p_X11_weightThen (X : GX) (h0 : AH) : PX Int32 := (X, (fun x => Sum.inl (rI x)), (5, 108, 3), h0)
def f_X11_weightThen (v0 : Option Nat) (v1 : Int32) (v2 : Int32) (h : AH) : Option (Int32 × AH) :=
    (gR h v0 [11] 0).bind fun t1 =>
    bd (cv h t1 5 (f_X5_knows t1 v1 h)) fun r3 h2 =>
    (if r3 = 0 then
    some ((-1), h2)
    else bd (f_X11_isDaysOn v2 h2) fun r5 h4 =>
    (if r5 = 0 then
    some ((-1), h4)
    else (gR h4 v0 [11] 1).bind fun t6 =>
    (gR h4 v0 [11] 0).bind fun t7 =>
    bd (cv h4 t6 5 (f_X5_becomes t6 t7 h4)) fun u9 h8 =>
    (gR h8 v0 [11] 1).bind fun t10 =>
    bd (cv h8 t10 5 (f_X5_passDays t10 v2 h8)) fun u12 h11 =>
    (gR h11 v0 [11] 1).bind fun t13 =>
    (gR h11 t13 [5] 1).bind fun t14 =>
    (iA h11 t14 v1).bind fun t15 =>
    some (t15, h11)))
set_option maxRecDepth 100000 in
set_option maxHeartbeats 4000000 in
theorem s_X11_weightThen {X : GX} (hX : XOK X) (v0 : Option Nat) (v1 : Int32) (v2 : Int32) (h : AH) : Snd X yX11_weightThen cX11_weightThen 3 (some .int) 5 108 rI [vR v0, vI v1, vI v2] h (f_X11_weightThen v0 v1 v2 h) := by
  refine snd_of hX (by decide +kernel) (Nat.le_of_ble_eq_true rfl) ?_
  show Gp (p_X11_weightThen X h) RX11 "weightThen" cX11_weightThen (some .int) 0 [(0, vR v0), (1, vI v1), (2, vI v2)] [] h _
  unfold f_X11_weightThen
  refine g_aload_n 0 dX11_weightThen_0 rfl rfl ?_
  refine g_getR kfl_X11_10 fo_X11_now dX11_weightThen_1 (fun t1 => ?_)
  refine g_iload_n 1 dX11_weightThen_4 rfl rfl ?_
  refine g_callVI (st := []) (ci := 5) rfl (s_X5_knows hX t1 v1 h) kml_X11_84 kim_X5_knows kse_X5_knows kii_X5 kcd_X5_knows rfl ds_X5_knows rfl ⟨Nat.le_of_ble_eq_true rfl, Nat.le_of_ble_eq_true rfl⟩ (Nat.le_of_ble_eq_true rfl) rfl dX11_weightThen_5 (fun r3 h2 => ?_)
  refine g_ifeq (tgt := 18) dX11_weightThen_8 (by decide) ?_ ?_
  · refine g_iconst (v := (-1)) dX11_weightThen_18 (by decide) ?_
    exact g_ireturn rfl dX11_weightThen_19
  · refine g_iload_n 2 dX11_weightThen_11 rfl rfl ?_
    refine g_callSI (st := []) (s_X11_isDaysOn hX v2 h2) kml_X11_174 kst_X11_isDaysOn kii_X11 kcd_X11_isDaysOn ds_X11_isDaysOn rfl ⟨Nat.le_of_ble_eq_true rfl, Nat.le_of_ble_eq_true rfl⟩ (Nat.le_of_ble_eq_true rfl) rfl dX11_weightThen_12 (fun r5 h4 => ?_)
    refine g_ifne (tgt := 20) dX11_weightThen_15 (by decide) ?_ ?_
    · refine g_aload_n 0 dX11_weightThen_20 rfl rfl ?_
      refine g_getR kfl_X11_16 fo_X11_mind dX11_weightThen_21 (fun t6 => ?_)
      refine g_aload_n 0 dX11_weightThen_24 rfl rfl ?_
      refine g_getR kfl_X11_10 fo_X11_now dX11_weightThen_25 (fun t7 => ?_)
      refine g_callVU (st := []) (ci := 5) rfl (s_X5_becomes hX t6 t7 h4) kml_X11_70 kim_X5_becomes kse_X5_becomes kii_X5 kcd_X5_becomes rfl ds_X5_becomes rfl ⟨Nat.le_of_ble_eq_true rfl, Nat.le_of_ble_eq_true rfl⟩ (Nat.le_of_ble_eq_true rfl) rfl dX11_weightThen_28 (fun u9 h8 => ?_)
      refine g_aload_n 0 dX11_weightThen_31 rfl rfl ?_
      refine g_getR kfl_X11_16 fo_X11_mind dX11_weightThen_32 (fun t10 => ?_)
      refine g_iload_n 2 dX11_weightThen_35 rfl rfl ?_
      refine g_callVU (st := []) (ci := 5) rfl (s_X5_passDays hX t10 v2 h8) kml_X11_168 kim_X5_passDays kse_X5_passDays kii_X5 kcd_X5_passDays rfl ds_X5_passDays rfl ⟨Nat.le_of_ble_eq_true rfl, Nat.le_of_ble_eq_true rfl⟩ (Nat.le_of_ble_eq_true rfl) rfl dX11_weightThen_36 (fun u12 h11 => ?_)
      refine g_aload_n 0 dX11_weightThen_39 rfl rfl ?_
      refine g_getR kfl_X11_16 fo_X11_mind dX11_weightThen_40 (fun t13 => ?_)
      refine g_getR kfl_X11_95 fo_X5_weight dX11_weightThen_43 (fun t14 => ?_)
      refine g_iload_n 1 dX11_weightThen_46 rfl rfl ?_
      refine g_iaload dX11_weightThen_47 (fun t15 => ?_)
      exact g_ireturn rfl dX11_weightThen_48
    · refine g_iconst (v := (-1)) dX11_weightThen_18 (by decide) ?_
      exact g_ireturn rfl dX11_weightThen_19
abbrev p_X11_whatIs (X : GX) (h0 : AH) : PX Int32 := (X, (fun x => Sum.inl (rI x)), (7, 156, 5), h0)
def f_X11_whatIs (v0 : Option Nat) (v1 : Int32) (v2 : Int32) (v3 : Int32) (h : AH) : Option (Int32 × AH) :=
    bd (f_X11_isShelf v1 h) fun r2 h1 =>
    (if r2 = 0 then
    some ((-1), h1)
    else (gR h1 v0 [11] 0).bind fun t3 =>
    bd (cv h1 t3 5 (f_X5_knows t3 v2 h1)) fun r5 h4 =>
    (if r5 = 0 then
    some ((-1), h4)
    else (if v3 < 0 then
    some ((-1), h4)
    else (if v3 ≤ 1 then
    bd (cv h4 v0 11 (f_X11_rowOn v0 v1 h4)) fun r7 h6 =>
    (if r7 = none then
    bd (cv h6 v0 11 (f_X11_whyNoRow v0 v1 h6)) fun r13 h12 =>
    some (r13, h12)
    else (if v3 = 0 then
    bd (cv h6 v0 11 (f_X11_kindsBy v0 r7 v2 h6)) fun r11 h10 =>
    some (r11, h10)
    else bd (cv h6 v0 11 (f_X11_figuresBy v0 r7 v2 h6)) fun r9 h8 =>
    some (r9, h8)))
    else some ((-1), h4)))))
set_option maxRecDepth 100000 in
set_option maxHeartbeats 4000000 in
theorem s_X11_whatIs {X : GX} (hX : XOK X) (v0 : Option Nat) (v1 : Int32) (v2 : Int32) (v3 : Int32) (h : AH) : Snd X yX11_whatIs cX11_whatIs 5 (some .int) 7 156 rI [vR v0, vI v1, vI v2, vI v3] h (f_X11_whatIs v0 v1 v2 v3 h) := by
  refine snd_of hX (by decide +kernel) (Nat.le_of_ble_eq_true rfl) ?_
  show Gp (p_X11_whatIs X h) RX11 "whatIs" cX11_whatIs (some .int) 0 [(0, vR v0), (1, vI v1), (2, vI v2), (3, vI v3)] [] h _
  unfold f_X11_whatIs
  refine g_iload_n 1 dX11_whatIs_0 rfl rfl ?_
  refine g_callSI (st := []) (s_X11_isShelf hX v1 h) kml_X11_45 kst_X11_isShelf kii_X11 kcd_X11_isShelf ds_X11_isShelf rfl ⟨Nat.le_of_ble_eq_true rfl, Nat.le_of_ble_eq_true rfl⟩ (Nat.le_of_ble_eq_true rfl) rfl dX11_whatIs_1 (fun r2 h1 => ?_)
  refine g_ifeq (tgt := 27) dX11_whatIs_4 (by decide) ?_ ?_
  · refine g_iconst (v := (-1)) dX11_whatIs_27 (by decide) ?_
    exact g_ireturn rfl dX11_whatIs_28
  · refine g_aload_n 0 dX11_whatIs_7 rfl rfl ?_
    refine g_getR kfl_X11_10 fo_X11_now dX11_whatIs_8 (fun t3 => ?_)
    refine g_iload_n 2 dX11_whatIs_11 rfl rfl ?_
    refine g_callVI (st := []) (ci := 5) rfl (s_X5_knows hX t3 v2 h1) kml_X11_84 kim_X5_knows kse_X5_knows kii_X5 kcd_X5_knows rfl ds_X5_knows rfl ⟨Nat.le_of_ble_eq_true rfl, Nat.le_of_ble_eq_true rfl⟩ (Nat.le_of_ble_eq_true rfl) rfl dX11_whatIs_12 (fun r5 h4 => ?_)
    refine g_ifeq (tgt := 27) dX11_whatIs_15 (by decide) ?_ ?_
    · refine g_iconst (v := (-1)) dX11_whatIs_27 (by decide) ?_
      exact g_ireturn rfl dX11_whatIs_28
    · refine g_iload_n 3 dX11_whatIs_18 rfl rfl ?_
      refine g_iflt (tgt := 27) dX11_whatIs_19 (by decide) ?_ ?_
      · refine g_iconst (v := (-1)) dX11_whatIs_27 (by decide) ?_
        exact g_ireturn rfl dX11_whatIs_28
      · refine g_iload_n 3 dX11_whatIs_22 rfl rfl ?_
        refine g_iconst (v := 1) dX11_whatIs_23 (by decide) ?_
        refine g_icmple (tgt := 29) dX11_whatIs_24 (by decide) ?_ ?_
        · refine g_aload_n 0 dX11_whatIs_29 rfl rfl ?_
          refine g_iload_n 1 dX11_whatIs_30 rfl rfl ?_
          refine g_callVR (st := []) (ci := 11) rfl (s_X11_rowOn hX v0 v1 h4) kml_X11_49 kim_X11_rowOn kse_X11_rowOn kii_X11 kcd_X11_rowOn rfl ds_X11_rowOn rfl ⟨Nat.le_of_ble_eq_true rfl, Nat.le_of_ble_eq_true rfl⟩ (Nat.le_of_ble_eq_true rfl) rfl dX11_whatIs_31 (fun r7 h6 => ?_)
          refine g_astore (ls' := [(4, vR r7), (0, vR v0), (1, vI v1), (2, vI v2), (3, vI v3)]) dX11_whatIs_34 (Nat.le_of_ble_eq_true rfl) rfl ?_
          refine g_aload 0 dX11_whatIs_36 rfl ?_
          refine g_ifnonnull (tgt := 47) dX11_whatIs_38 (by decide) ?_ ?_
          · refine g_iload_n 4 dX11_whatIs_47 rfl rfl ?_
            refine g_ifne (tgt := 61) dX11_whatIs_48 (by decide) ?_ ?_
            · refine g_aload_n 1 dX11_whatIs_61 rfl rfl ?_
              refine g_aload 0 dX11_whatIs_62 rfl ?_
              refine g_iload_n 3 dX11_whatIs_64 rfl rfl ?_
              refine g_callVI (st := []) (ci := 11) rfl (s_X11_figuresBy hX v0 r7 v2 h6) kml_X11_251 kim_X11_figuresBy kse_X11_figuresBy kii_X11 kcd_X11_figuresBy rfl ds_X11_figuresBy rfl ⟨Nat.le_of_ble_eq_true rfl, Nat.le_of_ble_eq_true rfl⟩ (Nat.le_of_ble_eq_true rfl) rfl dX11_whatIs_65 (fun r9 h8 => ?_)
              exact g_ireturn rfl dX11_whatIs_68
            · refine g_aload_n 1 dX11_whatIs_51 rfl rfl ?_
              refine g_aload 0 dX11_whatIs_52 rfl ?_
              refine g_iload_n 3 dX11_whatIs_54 rfl rfl ?_
              refine g_callVI (st := []) (ci := 11) rfl (s_X11_kindsBy hX v0 r7 v2 h6) kml_X11_247 kim_X11_kindsBy kse_X11_kindsBy kii_X11 kcd_X11_kindsBy rfl ds_X11_kindsBy rfl ⟨Nat.le_of_ble_eq_true rfl, Nat.le_of_ble_eq_true rfl⟩ (Nat.le_of_ble_eq_true rfl) rfl dX11_whatIs_55 (fun r11 h10 => ?_)
              refine g_goto (tgt := 68) dX11_whatIs_58 (by decide) ?_
              exact g_ireturn rfl dX11_whatIs_68
          · refine g_aload_n 1 dX11_whatIs_41 rfl rfl ?_
            refine g_iload_n 2 dX11_whatIs_42 rfl rfl ?_
            refine g_callVI (st := []) (ci := 11) rfl (s_X11_whyNoRow hX v0 v1 h6) kml_X11_53 kim_X11_whyNoRow kse_X11_whyNoRow kii_X11 kcd_X11_whyNoRow rfl ds_X11_whyNoRow rfl ⟨Nat.le_of_ble_eq_true rfl, Nat.le_of_ble_eq_true rfl⟩ (Nat.le_of_ble_eq_true rfl) rfl dX11_whatIs_43 (fun r13 h12 => ?_)
            exact g_ireturn rfl dX11_whatIs_46
        · refine g_iconst (v := (-1)) dX11_whatIs_27 (by decide) ?_
          exact g_ireturn rfl dX11_whatIs_28
abbrev p_X12_of (X : GX) (h0 : AH) : PX Int32 := (X, (fun x => Sum.inl (rI x)), (0, 0, 2), h0)
def f_X12_of (v0 : Int32) (v1 : Int32) (h : AH) : Option (Int32 × AH) :=
    some (((5 + (7 * v0)) + v1), h)
set_option maxRecDepth 100000 in
set_option maxHeartbeats 4000000 in
theorem s_X12_of {X : GX} (hX : XOK X) (v0 : Int32) (v1 : Int32) (h : AH) : Snd X yX12_of cX12_of 2 (some .int) 0 0 rI [vI v0, vI v1] h (f_X12_of v0 v1 h) := by
  refine snd_of hX (by decide +kernel) (Nat.le_of_ble_eq_true rfl) ?_
  show Gp (p_X12_of X h) RX12 "of" cX12_of (some .int) 0 [(0, vI v0), (1, vI v1)] [] h _
  unfold f_X12_of
  refine g_iconst (v := 5) dX12_of_0 (by decide) ?_
  refine g_bipush (v := 7) dX12_of_1 (by decide) ?_
  refine g_iload_n 0 dX12_of_3 rfl rfl ?_
  refine g_imul dX12_of_4 ?_
  refine g_iadd dX12_of_5 ?_
  refine g_iload_n 1 dX12_of_6 rfl rfl ?_
  refine g_iadd dX12_of_7 ?_
  exact g_ireturn rfl dX12_of_8
abbrev p_X12_ringsBy (X : GX) (h0 : AH) : PX Int32 := (X, (fun x => Sum.inl (rI x)), (0, 0, 2), h0)
def f_X12_ringsBy (v0 : Int32) (v1 : Int32) (h : AH) : Option (Int32 × AH) :=
    (if v0 = 1 then
    some (v1, h)
    else (if v0 = 3 then
    some ((v1 / 2), h)
    else (if v0 = 4 then
    some ((2 * v1), h)
    else (if v0 = 5 then
    some (((v1 / 2) + 1), h)
    else (if v0 = 7 then
    some (v1, h)
    else some (0, h))))))
set_option maxRecDepth 100000 in
set_option maxHeartbeats 4000000 in
theorem s_X12_ringsBy {X : GX} (hX : XOK X) (v0 : Int32) (v1 : Int32) (h : AH) : Snd X yX12_ringsBy cX12_ringsBy 2 (some .int) 0 0 rI [vI v0, vI v1] h (f_X12_ringsBy v0 v1 h) := by
  refine snd_of hX (by decide +kernel) (Nat.le_of_ble_eq_true rfl) ?_
  show Gp (p_X12_ringsBy X h) RX12 "ringsBy" cX12_ringsBy (some .int) 0 [(0, vI v0), (1, vI v1)] [] h _
  unfold f_X12_ringsBy
  refine g_iload_n 0 dX12_ringsBy_0 rfl rfl ?_
  refine g_tsIn (c := 1) (off := 43) (tgt := 44) dX12_ringsBy_1 (by decide) (by decide) (by decide) (by decide) ?_ (fun n1 => ?_)
  · refine g_iload_n 1 dX12_ringsBy_44 rfl rfl ?_
    exact g_ireturn rfl dX12_ringsBy_45
  refine g_tsIn (c := 3) (off := 45) (tgt := 46) dX12_ringsBy_1 (by decide) (by decide) (by decide) (by decide) ?_ (fun n2 => ?_)
  · refine g_iload_n 1 dX12_ringsBy_46 rfl rfl ?_
    refine g_iconst (v := 2) dX12_ringsBy_47 (by decide) ?_
    refine g_idivK dX12_ringsBy_48 (by decide) ?_
    exact g_ireturn rfl dX12_ringsBy_49
  refine g_tsIn (c := 4) (off := 49) (tgt := 50) dX12_ringsBy_1 (by decide) (by decide) (by decide) (by decide) ?_ (fun n3 => ?_)
  · refine g_iconst (v := 2) dX12_ringsBy_50 (by decide) ?_
    refine g_iload_n 1 dX12_ringsBy_51 rfl rfl ?_
    refine g_imul dX12_ringsBy_52 ?_
    exact g_ireturn rfl dX12_ringsBy_53
  refine g_tsIn (c := 5) (off := 53) (tgt := 54) dX12_ringsBy_1 (by decide) (by decide) (by decide) (by decide) ?_ (fun n4 => ?_)
  · refine g_iload_n 1 dX12_ringsBy_54 rfl rfl ?_
    refine g_iconst (v := 2) dX12_ringsBy_55 (by decide) ?_
    refine g_idivK dX12_ringsBy_56 (by decide) ?_
    refine g_iconst (v := 1) dX12_ringsBy_57 (by decide) ?_
    refine g_iadd dX12_ringsBy_58 ?_
    exact g_ireturn rfl dX12_ringsBy_59
  refine g_tsIn (c := 7) (off := 43) (tgt := 44) dX12_ringsBy_1 (by decide) (by decide) (by decide) (by decide) ?_ (fun n5 => ?_)
  · refine g_iload_n 1 dX12_ringsBy_44 rfl rfl ?_
    exact g_ireturn rfl dX12_ringsBy_45
  refine g_tsDef (tgt := 60) (keys := [1, 3, 4, 5, 7]) (neK_cons (c := 1) (k := 1) n1 (by decide) (neK_cons (c := 3) (k := 3) n2 (by decide) (neK_cons (c := 4) (k := 4) n3 (by decide) (neK_cons (c := 5) (k := 5) n4 (by decide) (neK_cons (c := 7) (k := 7) n5 (by decide) neK_nil))))) (by decide +kernel) dX12_ringsBy_1 (by decide) ?_
  refine g_iconst (v := 0) dX12_ringsBy_60 (by decide) ?_
  exact g_ireturn rfl dX12_ringsBy_61
abbrev p_X12_adds (X : GX) (h0 : AH) : PX Unit := (X, (fun x => Sum.inl (rU x)), (1, 21, 5), h0)
def f_X12_adds (v0 : Option Nat) (v1 : Int32) (v2 : Int32) (v3 : Int32) (h : AH) : Option (Unit × AH) :=
    (gR h v0 [12] 0).bind fun t1 =>
    (iA h t1 0).bind fun t2 =>
    (gR h v0 [12] 0).bind fun t3 =>
    bd (f_X12_of t2 0 h) fun r5 h4 =>
    (iS h4 t3 r5 v1).bind fun h6 =>
    (gR h6 v0 [12] 0).bind fun t7 =>
    bd (f_X12_of t2 1 h6) fun r9 h8 =>
    (iS h8 t7 r9 v2).bind fun h10 =>
    (gR h10 v0 [12] 0).bind fun t11 =>
    bd (f_X12_of t2 2 h10) fun r13 h12 =>
    (iS h12 t11 r13 v3).bind fun h14 =>
    (gR h14 v0 [12] 0).bind fun t15 =>
    bd (f_X12_of t2 3 h14) fun r17 h16 =>
    bd (f_X12_ringsBy v1 v2 h16) fun r19 h18 =>
    (iS h18 t15 r17 (v3 + r19)).bind fun h20 =>
    (gR h20 v0 [12] 0).bind fun t21 =>
    bd (f_X12_of t2 4 h20) fun r23 h22 =>
    (iS h22 t21 r23 3).bind fun h24 =>
    (gR h24 v0 [12] 0).bind fun t25 =>
    bd (f_X12_of t2 5 h24) fun r27 h26 =>
    (gR h26 v0 [12] 0).bind fun t28 =>
    (iA h26 t28 1).bind fun t29 =>
    (iS h26 t25 r27 t29).bind fun h30 =>
    (gR h30 v0 [12] 0).bind fun t31 =>
    bd (f_X12_of t2 6 h30) fun r33 h32 =>
    (iS h32 t31 r33 1).bind fun h34 =>
    (gR h34 v0 [12] 0).bind fun t35 =>
    (iA h34 t35 0).bind fun t36 =>
    (iS h34 t35 0 (t36 + 1)).bind fun h37 =>
    some ((), h37)
set_option maxRecDepth 100000 in
set_option maxHeartbeats 4000000 in
theorem s_X12_adds {X : GX} (hX : XOK X) (v0 : Option Nat) (v1 : Int32) (v2 : Int32) (v3 : Int32) (h : AH) : Snd X yX12_adds cX12_adds 5 none 1 21 rU [vR v0, vI v1, vI v2, vI v3] h (f_X12_adds v0 v1 v2 v3 h) := by
  refine snd_of hX (by decide +kernel) (Nat.le_of_ble_eq_true rfl) ?_
  show Gp (p_X12_adds X h) RX12 "adds" cX12_adds none 0 [(0, vR v0), (1, vI v1), (2, vI v2), (3, vI v3)] [] h _
  unfold f_X12_adds
  refine g_aload_n 0 dX12_adds_0 rfl rfl ?_
  refine g_getR kfl_X12_9 fo_X12_s dX12_adds_1 (fun t1 => ?_)
  refine g_iconst (v := 0) dX12_adds_4 (by decide) ?_
  refine g_iaload dX12_adds_5 (fun t2 => ?_)
  refine g_istore (ls' := [(4, vI t2), (0, vR v0), (1, vI v1), (2, vI v2), (3, vI v3)]) dX12_adds_6 (Nat.le_of_ble_eq_true rfl) rfl ?_
  refine g_aload_n 1 dX12_adds_8 rfl rfl ?_
  refine g_getR kfl_X12_9 fo_X12_s dX12_adds_9 (fun t3 => ?_)
  refine g_iload 0 dX12_adds_12 rfl ?_
  refine g_iconst (v := 0) dX12_adds_14 (by decide) ?_
  refine g_callSI (st := [vR t3]) (s_X12_of hX t2 0 h) kml_X12_53 kst_X12_of kii_X12 kcd_X12_of ds_X12_of rfl ⟨Nat.le_of_ble_eq_true rfl, Nat.le_of_ble_eq_true rfl⟩ (Nat.le_of_ble_eq_true rfl) rfl dX12_adds_15 (fun r5 h4 => ?_)
  refine g_iload_n 2 dX12_adds_18 rfl rfl ?_
  refine g_iastore dX12_adds_19 (fun h6 => ?_)
  refine g_aload_n 1 dX12_adds_20 rfl rfl ?_
  refine g_getR kfl_X12_9 fo_X12_s dX12_adds_21 (fun t7 => ?_)
  refine g_iload 0 dX12_adds_24 rfl ?_
  refine g_iconst (v := 1) dX12_adds_26 (by decide) ?_
  refine g_callSI (st := [vR t7]) (s_X12_of hX t2 1 h6) kml_X12_53 kst_X12_of kii_X12 kcd_X12_of ds_X12_of rfl ⟨Nat.le_of_ble_eq_true rfl, Nat.le_of_ble_eq_true rfl⟩ (Nat.le_of_ble_eq_true rfl) rfl dX12_adds_27 (fun r9 h8 => ?_)
  refine g_iload_n 3 dX12_adds_30 rfl rfl ?_
  refine g_iastore dX12_adds_31 (fun h10 => ?_)
  refine g_aload_n 1 dX12_adds_32 rfl rfl ?_
  refine g_getR kfl_X12_9 fo_X12_s dX12_adds_33 (fun t11 => ?_)
  refine g_iload 0 dX12_adds_36 rfl ?_
  refine g_iconst (v := 2) dX12_adds_38 (by decide) ?_
  refine g_callSI (st := [vR t11]) (s_X12_of hX t2 2 h10) kml_X12_53 kst_X12_of kii_X12 kcd_X12_of ds_X12_of rfl ⟨Nat.le_of_ble_eq_true rfl, Nat.le_of_ble_eq_true rfl⟩ (Nat.le_of_ble_eq_true rfl) rfl dX12_adds_39 (fun r13 h12 => ?_)
  refine g_iload_n 4 dX12_adds_42 rfl rfl ?_
  refine g_iastore dX12_adds_43 (fun h14 => ?_)
  refine g_aload_n 1 dX12_adds_44 rfl rfl ?_
  refine g_getR kfl_X12_9 fo_X12_s dX12_adds_45 (fun t15 => ?_)
  refine g_iload 0 dX12_adds_48 rfl ?_
  refine g_iconst (v := 3) dX12_adds_50 (by decide) ?_
  refine g_callSI (st := [vR t15]) (s_X12_of hX t2 3 h14) kml_X12_53 kst_X12_of kii_X12 kcd_X12_of ds_X12_of rfl ⟨Nat.le_of_ble_eq_true rfl, Nat.le_of_ble_eq_true rfl⟩ (Nat.le_of_ble_eq_true rfl) rfl dX12_adds_51 (fun r17 h16 => ?_)
  refine g_iload_n 4 dX12_adds_54 rfl rfl ?_
  refine g_iload_n 2 dX12_adds_55 rfl rfl ?_
  refine g_iload_n 3 dX12_adds_56 rfl rfl ?_
  refine g_callSI (st := [vI v3, vI r17, vR t15]) (s_X12_ringsBy hX v1 v2 h16) kml_X12_106 kst_X12_ringsBy kii_X12 kcd_X12_ringsBy ds_X12_ringsBy rfl ⟨Nat.le_of_ble_eq_true rfl, Nat.le_of_ble_eq_true rfl⟩ (Nat.le_of_ble_eq_true rfl) rfl dX12_adds_57 (fun r19 h18 => ?_)
  refine g_iadd dX12_adds_60 ?_
  refine g_iastore dX12_adds_61 (fun h20 => ?_)
  refine g_aload_n 1 dX12_adds_62 rfl rfl ?_
  refine g_getR kfl_X12_9 fo_X12_s dX12_adds_63 (fun t21 => ?_)
  refine g_iload 0 dX12_adds_66 rfl ?_
  refine g_iconst (v := 4) dX12_adds_68 (by decide) ?_
  refine g_callSI (st := [vR t21]) (s_X12_of hX t2 4 h20) kml_X12_53 kst_X12_of kii_X12 kcd_X12_of ds_X12_of rfl ⟨Nat.le_of_ble_eq_true rfl, Nat.le_of_ble_eq_true rfl⟩ (Nat.le_of_ble_eq_true rfl) rfl dX12_adds_69 (fun r23 h22 => ?_)
  refine g_iconst (v := 3) dX12_adds_72 (by decide) ?_
  refine g_iastore dX12_adds_73 (fun h24 => ?_)
  refine g_aload_n 1 dX12_adds_74 rfl rfl ?_
  refine g_getR kfl_X12_9 fo_X12_s dX12_adds_75 (fun t25 => ?_)
  refine g_iload 0 dX12_adds_78 rfl ?_
  refine g_iconst (v := 5) dX12_adds_80 (by decide) ?_
  refine g_callSI (st := [vR t25]) (s_X12_of hX t2 5 h24) kml_X12_53 kst_X12_of kii_X12 kcd_X12_of ds_X12_of rfl ⟨Nat.le_of_ble_eq_true rfl, Nat.le_of_ble_eq_true rfl⟩ (Nat.le_of_ble_eq_true rfl) rfl dX12_adds_81 (fun r27 h26 => ?_)
  refine g_aload_n 1 dX12_adds_84 rfl rfl ?_
  refine g_getR kfl_X12_9 fo_X12_s dX12_adds_85 (fun t28 => ?_)
  refine g_iconst (v := 1) dX12_adds_88 (by decide) ?_
  refine g_iaload dX12_adds_89 (fun t29 => ?_)
  refine g_iastore dX12_adds_90 (fun h30 => ?_)
  refine g_aload_n 1 dX12_adds_91 rfl rfl ?_
  refine g_getR kfl_X12_9 fo_X12_s dX12_adds_92 (fun t31 => ?_)
  refine g_iload 0 dX12_adds_95 rfl ?_
  refine g_bipush (v := 6) dX12_adds_97 (by decide) ?_
  refine g_callSI (st := [vR t31]) (s_X12_of hX t2 6 h30) kml_X12_53 kst_X12_of kii_X12 kcd_X12_of ds_X12_of rfl ⟨Nat.le_of_ble_eq_true rfl, Nat.le_of_ble_eq_true rfl⟩ (Nat.le_of_ble_eq_true rfl) rfl dX12_adds_99 (fun r33 h32 => ?_)
  refine g_iconst (v := 1) dX12_adds_102 (by decide) ?_
  refine g_iastore dX12_adds_103 (fun h34 => ?_)
  refine g_aload_n 1 dX12_adds_104 rfl rfl ?_
  refine g_getR kfl_X12_9 fo_X12_s dX12_adds_105 (fun t35 => ?_)
  refine g_iconst (v := 0) dX12_adds_108 (by decide) ?_
  refine g_dup2 dX12_adds_109 rfl rfl ?_
  refine g_iaload dX12_adds_110 (fun t36 => ?_)
  refine g_iconst (v := 1) dX12_adds_111 (by decide) ?_
  refine g_iadd dX12_adds_112 ?_
  refine g_iastore dX12_adds_113 (fun h37 => ?_)
  exact g_return rfl dX12_adds_114
abbrev p_X12_has (X : GX) (h0 : AH) : PX Int32 := (X, (fun x => Sum.inl (rI x)), (0, 0, 2), h0)
def f_X12_has (v0 : Int32) (v1 : Int32) (h : AH) : Option (Int32 × AH) :=
    (if ((v0 >>> (v1 &&& 31)) &&& 1) = 1 then
    some (1, h)
    else some (0, h))
set_option maxRecDepth 100000 in
set_option maxHeartbeats 4000000 in
theorem s_X12_has {X : GX} (hX : XOK X) (v0 : Int32) (v1 : Int32) (h : AH) : Snd X yX12_has cX12_has 2 (some .boolean) 0 0 rI [vI v0, vI v1] h (f_X12_has v0 v1 h) := by
  refine snd_of hX (by decide +kernel) (Nat.le_of_ble_eq_true rfl) ?_
  show Gp (p_X12_has X h) RX12 "has" cX12_has (some .boolean) 0 [(0, vI v0), (1, vI v1)] [] h _
  unfold f_X12_has
  refine g_iload_n 0 dX12_has_0 rfl rfl ?_
  refine g_iload_n 1 dX12_has_1 rfl rfl ?_
  refine g_ishr dX12_has_2 ?_
  refine g_iconst (v := 1) dX12_has_3 (by decide) ?_
  refine g_iand dX12_has_4 ?_
  refine g_iconst (v := 1) dX12_has_5 (by decide) ?_
  refine g_icmpne (tgt := 13) dX12_has_6 (by decide) ?_ ?_
  · refine g_iconst (v := 0) dX12_has_13 (by decide) ?_
    exact g_zreturn (by decide +kernel) rfl dX12_has_14
  · refine g_iconst (v := 1) dX12_has_9 (by decide) ?_
    refine g_goto (tgt := 14) dX12_has_10 (by decide) ?_
    exact g_zreturn (by decide +kernel) rfl dX12_has_14
abbrev p_X12_leastIn (X : GX) (h0 : AH) : PX Int32 := (X, (fun x => Sum.inl (rI x)), (1, 21, 2), h0)
def f_X12_leastIn_b2 : Nat → Int32 → Int32 → AH → Option (Int32 × AH)
  | 0 => fun _ _ _ => none
  | n + 1 => fun x0 x1 h =>
    bd (f_X12_has x0 x1 h) fun r2 h1 =>
    (if r2 = 0 then
    f_X12_leastIn_b2 n x0 (x1 + 1) h1
    else some (x1, h1))
set_option maxRecDepth 100000 in
set_option maxHeartbeats 4000000 in
theorem s_X12_leastIn_b2 {X : GX} (hX : XOK X) {h0 : AH} : ∀ (n : Nat) (x0 : Int32) (x1 : Int32) (h : AH), Gp (p_X12_leastIn X h0) RX12 "leastIn" cX12_leastIn (some .int) 2 [(0, vI x0), (1, vI x1)] [] h (f_X12_leastIn_b2 n x0 x1 h) := by
  intro n
  induction n with
  | zero => intro x0 x1 h; exact g_none
  | succ n ih =>
    intro x0 x1 h
    rw [f_X12_leastIn_b2]
    refine g_iload_n 0 dX12_leastIn_2 rfl rfl ?_
    refine g_iload_n 1 dX12_leastIn_3 rfl rfl ?_
    refine g_callSI (st := []) (s_X12_has hX x0 x1 h) kml_X12_68 kst_X12_has kii_X12 kcd_X12_has ds_X12_has rfl ⟨Nat.le_of_ble_eq_true rfl, Nat.le_of_ble_eq_true rfl⟩ (Nat.le_of_ble_eq_true rfl) rfl dX12_leastIn_4 (fun r2 h1 => ?_)
    refine g_ifne (tgt := 16) dX12_leastIn_7 (by decide) ?_ ?_
    · refine g_iload_n 1 dX12_leastIn_16 rfl rfl ?_
      exact g_ireturn rfl dX12_leastIn_17
    · refine g_iinc 1 (v := (x1 + 1)) (ls' := [(1, vI ((x1 + 1))), (0, vI x0)]) dX12_leastIn_10 rfl rfl (Nat.le_of_ble_eq_true rfl) rfl ?_
      refine g_goto (tgt := 2) dX12_leastIn_13 (by decide) ?_
      exact g_sub2 [1, 0] rfl (ih x0 (x1 + 1) h1)
def f_X12_leastIn (v0 : Int32) (h : AH) : Option (Int32 × AH) :=
    f_X12_leastIn_b2 FU v0 0 h
set_option maxRecDepth 100000 in
set_option maxHeartbeats 4000000 in
theorem s_X12_leastIn {X : GX} (hX : XOK X) (v0 : Int32) (h : AH) : Snd X yX12_leastIn cX12_leastIn 2 (some .int) 1 21 rI [vI v0] h (f_X12_leastIn v0 h) := by
  refine snd_of hX (by decide +kernel) (Nat.le_of_ble_eq_true rfl) ?_
  show Gp (p_X12_leastIn X h) RX12 "leastIn" cX12_leastIn (some .int) 0 [(0, vI v0)] [] h _
  unfold f_X12_leastIn
  refine g_iconst (v := 0) dX12_leastIn_0 (by decide) ?_
  refine g_istore_n (ls' := [(1, vI 0), (0, vI v0)]) dX12_leastIn_1 rfl (Nat.le_of_ble_eq_true rfl) rfl ?_
  exact g_sub2 [1, 0] rfl (s_X12_leastIn_b2 hX FU v0 0 h)
abbrev p_X12_bestOf (X : GX) (h0 : AH) : PX Int32 := (X, (fun x => Sum.inl (rI x)), (2, 42, 6), h0)
def f_X12_bestOf_b118 (x3 : Int32) (h : AH) : Option (Int32 × AH) :=
    (if 0 ≤ x3 then
    some (x3, h)
    else some (0, h))
set_option maxRecDepth 100000 in
set_option maxHeartbeats 4000000 in
theorem s_X12_bestOf_b118 {X : GX} (hX : XOK X) {h0 : AH} : ∀ (x3 : Int32) (h : AH), Gp (p_X12_bestOf X h0) RX12 "bestOf" cX12_bestOf (some .int) 118 [(3, vI x3)] [] h (f_X12_bestOf_b118 x3 h) := by
  intro x3 h
  unfold f_X12_bestOf_b118
  refine g_iload_n 0 dX12_bestOf_118 rfl rfl ?_
  refine g_ifge (tgt := 126) dX12_bestOf_119 (by decide) ?_ ?_
  · refine g_iload_n 0 dX12_bestOf_126 rfl rfl ?_
    exact g_ireturn rfl dX12_bestOf_127
  · refine g_iconst (v := 0) dX12_bestOf_122 (by decide) ?_
    refine g_goto (tgt := 127) dX12_bestOf_123 (by decide) ?_
    exact g_ireturn rfl dX12_bestOf_127
def f_X12_bestOf_b56 (k10 : Option Nat → Int32 → Int32 → Int32 → Int32 → AH → Option (Int32 × AH)) (x0 : Option Nat) (x1 : Int32) (x2 : Int32) (x3 : Int32) (x4 : Int32) (y0 : Int32) (h : AH) : Option (Int32 × AH) :=
    (if y0 < 0 then
    k10 x0 x1 x2 x3 (x4 + 1) h
    else (gR h x0 [12] 10).bind fun t9 =>
    (iA h t9 ((x1 &&& (((1 : Int32) <<< (x2 &&& 31)) ^^^ (-1))) &&& (((1 : Int32) <<< (x4 &&& 31)) ^^^ (-1)))).bind fun t10 =>
    (if (y0 + t10) ≤ x3 then
    k10 x0 x1 x2 x3 (x4 + 1) h
    else (gR h x0 [12] 10).bind fun t11 =>
    (iA h t11 ((x1 &&& (((1 : Int32) <<< (x2 &&& 31)) ^^^ (-1))) &&& (((1 : Int32) <<< (x4 &&& 31)) ^^^ (-1)))).bind fun t12 =>
    nm (y0 + t12) fun t13 =>
    k10 x0 x1 x2 t13 (x4 + 1) h))
set_option maxRecDepth 100000 in
set_option maxHeartbeats 4000000 in
theorem s_X12_bestOf_b56 {X : GX} (hX : XOK X) {h0 : AH} (k10 : Option Nat → Int32 → Int32 → Int32 → Int32 → AH → Option (Int32 × AH)) (hk10 : ∀ (z0 : Option Nat) (z1 : Int32) (z2 : Int32) (z3 : Int32) (z4 : Int32) (h : AH), Gp (p_X12_bestOf X h0) RX12 "bestOf" cX12_bestOf (some .int) 10 [(0, vR z0), (1, vI z1), (2, vI z2), (3, vI z3), (4, vI z4)] [] h (k10 z0 z1 z2 z3 z4 h)) : ∀ (x0 : Option Nat) (x1 : Int32) (x2 : Int32) (x3 : Int32) (x4 : Int32) (y0 : Int32) (h : AH), Gp (p_X12_bestOf X h0) RX12 "bestOf" cX12_bestOf (some .int) 56 [(0, vR x0), (1, vI x1), (2, vI x2), (3, vI x3), (4, vI x4)] [vI y0] h (f_X12_bestOf_b56 k10 x0 x1 x2 x3 x4 y0 h) := by
  intro x0 x1 x2 x3 x4 y0 h
  unfold f_X12_bestOf_b56
  refine g_istore (ls' := [(5, vI y0), (0, vR x0), (1, vI x1), (2, vI x2), (3, vI x3), (4, vI x4)]) dX12_bestOf_56 (Nat.le_of_ble_eq_true rfl) rfl ?_
  refine g_iload 0 dX12_bestOf_58 rfl ?_
  refine g_iflt (tgt := 112) dX12_bestOf_60 (by decide) ?_ ?_
  · refine g_iinc 5 (v := (x4 + 1)) (ls' := [(4, vI ((x4 + 1))), (5, vI y0), (0, vR x0), (1, vI x1), (2, vI x2), (3, vI x3)]) dX12_bestOf_112 rfl rfl (Nat.le_of_ble_eq_true rfl) rfl ?_
    refine g_goto (tgt := 10) dX12_bestOf_115 (by decide) ?_
    exact g_sub2 [2, 3, 4, 5, 0] rfl (hk10 x0 x1 x2 x3 (x4 + 1) h)
  · refine g_iload 0 dX12_bestOf_63 rfl ?_
    refine g_aload_n 1 dX12_bestOf_65 rfl rfl ?_
    refine g_getR kfl_X12_28 fo_X12_most dX12_bestOf_66 (fun t9 => ?_)
    refine g_iload_n 2 dX12_bestOf_69 rfl rfl ?_
    refine g_iconst (v := 1) dX12_bestOf_70 (by decide) ?_
    refine g_iload_n 3 dX12_bestOf_71 rfl rfl ?_
    refine g_ishl dX12_bestOf_72 ?_
    refine g_iconst (v := (-1)) dX12_bestOf_73 (by decide) ?_
    refine g_ixor dX12_bestOf_74 ?_
    refine g_iand dX12_bestOf_75 ?_
    refine g_iconst (v := 1) dX12_bestOf_76 (by decide) ?_
    refine g_iload 5 dX12_bestOf_77 rfl ?_
    refine g_ishl dX12_bestOf_79 ?_
    refine g_iconst (v := (-1)) dX12_bestOf_80 (by decide) ?_
    refine g_ixor dX12_bestOf_81 ?_
    refine g_iand dX12_bestOf_82 ?_
    refine g_iaload dX12_bestOf_83 (fun t10 => ?_)
    refine g_iadd dX12_bestOf_84 ?_
    refine g_iload_n 4 dX12_bestOf_85 rfl rfl ?_
    refine g_icmple (tgt := 112) dX12_bestOf_86 (by decide) ?_ ?_
    · refine g_iinc 5 (v := (x4 + 1)) (ls' := [(4, vI ((x4 + 1))), (5, vI y0), (0, vR x0), (1, vI x1), (2, vI x2), (3, vI x3)]) dX12_bestOf_112 rfl rfl (Nat.le_of_ble_eq_true rfl) rfl ?_
      refine g_goto (tgt := 10) dX12_bestOf_115 (by decide) ?_
      exact g_sub2 [2, 3, 4, 5, 0] rfl (hk10 x0 x1 x2 x3 (x4 + 1) h)
    · refine g_iload 0 dX12_bestOf_89 rfl ?_
      refine g_aload_n 1 dX12_bestOf_91 rfl rfl ?_
      refine g_getR kfl_X12_28 fo_X12_most dX12_bestOf_92 (fun t11 => ?_)
      refine g_iload_n 2 dX12_bestOf_95 rfl rfl ?_
      refine g_iconst (v := 1) dX12_bestOf_96 (by decide) ?_
      refine g_iload_n 3 dX12_bestOf_97 rfl rfl ?_
      refine g_ishl dX12_bestOf_98 ?_
      refine g_iconst (v := (-1)) dX12_bestOf_99 (by decide) ?_
      refine g_ixor dX12_bestOf_100 ?_
      refine g_iand dX12_bestOf_101 ?_
      refine g_iconst (v := 1) dX12_bestOf_102 (by decide) ?_
      refine g_iload 5 dX12_bestOf_103 rfl ?_
      refine g_ishl dX12_bestOf_105 ?_
      refine g_iconst (v := (-1)) dX12_bestOf_106 (by decide) ?_
      refine g_ixor dX12_bestOf_107 ?_
      refine g_iand dX12_bestOf_108 ?_
      refine g_iaload dX12_bestOf_109 (fun t12 => ?_)
      refine g_iadd dX12_bestOf_110 ?_
      refine g_nmI (fun t13 => ?_)
      refine g_istore_n (ls' := [(3, vI t13), (5, vI y0), (0, vR x0), (1, vI x1), (2, vI x2), (4, vI x4)]) dX12_bestOf_111 rfl (Nat.le_of_ble_eq_true rfl) rfl ?_
      refine g_iinc 5 (v := (x4 + 1)) (ls' := [(4, vI ((x4 + 1))), (3, vI t13), (5, vI y0), (0, vR x0), (1, vI x1), (2, vI x2)]) dX12_bestOf_112 rfl rfl (Nat.le_of_ble_eq_true rfl) rfl ?_
      refine g_goto (tgt := 10) dX12_bestOf_115 (by decide) ?_
      exact g_sub2 [3, 4, 5, 1, 0] rfl (hk10 x0 x1 x2 t13 (x4 + 1) h)
def f_X12_bestOf_b10 : Nat → Option Nat → Int32 → Int32 → Int32 → Int32 → AH → Option (Int32 × AH)
  | 0 => fun _ _ _ _ _ _ => none
  | n + 1 => fun x0 x1 x2 x3 x4 h =>
    (gR h x0 [12] 0).bind fun t3 =>
    (iA h t3 0).bind fun t4 =>
    (if t4 ≤ x4 then
    f_X12_bestOf_b118 x3 h
    else (gR h x0 [12] 0).bind fun t5 =>
    (iA h t5 0).bind fun t6 =>
    (if t6 ≤ x2 then
    f_X12_bestOf_b118 x3 h
    else bd (f_X12_has x1 x4 h) fun r8 h7 =>
    (if r8 = 0 then
    f_X12_bestOf_b56 (f_X12_bestOf_b10 n) x0 x1 x2 x3 x4 (-1) h7
    else (gR h7 x0 [12] 9).bind fun t14 =>
    (iA h7 t14 ((7 * x2) + x4)).bind fun t15 =>
    f_X12_bestOf_b56 (f_X12_bestOf_b10 n) x0 x1 x2 x3 x4 t15 h7)))
set_option maxRecDepth 100000 in
set_option maxHeartbeats 4000000 in
theorem s_X12_bestOf_b10 {X : GX} (hX : XOK X) {h0 : AH} : ∀ (n : Nat) (x0 : Option Nat) (x1 : Int32) (x2 : Int32) (x3 : Int32) (x4 : Int32) (h : AH), Gp (p_X12_bestOf X h0) RX12 "bestOf" cX12_bestOf (some .int) 10 [(0, vR x0), (1, vI x1), (2, vI x2), (3, vI x3), (4, vI x4)] [] h (f_X12_bestOf_b10 n x0 x1 x2 x3 x4 h) := by
  intro n
  induction n with
  | zero => intro x0 x1 x2 x3 x4 h; exact g_none
  | succ n ih =>
    intro x0 x1 x2 x3 x4 h
    rw [f_X12_bestOf_b10]
    refine g_iload 4 dX12_bestOf_10 rfl ?_
    refine g_aload_n 0 dX12_bestOf_12 rfl rfl ?_
    refine g_getR kfl_X12_9 fo_X12_s dX12_bestOf_13 (fun t3 => ?_)
    refine g_iconst (v := 0) dX12_bestOf_16 (by decide) ?_
    refine g_iaload dX12_bestOf_17 (fun t4 => ?_)
    refine g_icmpge (tgt := 118) dX12_bestOf_18 (by decide) ?_ ?_
    · exact g_sub2 [3] rfl (s_X12_bestOf_b118 hX x3 h)
    · refine g_iload_n 2 dX12_bestOf_21 rfl rfl ?_
      refine g_aload_n 0 dX12_bestOf_22 rfl rfl ?_
      refine g_getR kfl_X12_9 fo_X12_s dX12_bestOf_23 (fun t5 => ?_)
      refine g_iconst (v := 0) dX12_bestOf_26 (by decide) ?_
      refine g_iaload dX12_bestOf_27 (fun t6 => ?_)
      refine g_icmpge (tgt := 118) dX12_bestOf_28 (by decide) ?_ ?_
      · exact g_sub2 [3] rfl (s_X12_bestOf_b118 hX x3 h)
      · refine g_iload_n 1 dX12_bestOf_31 rfl rfl ?_
        refine g_iload 4 dX12_bestOf_32 rfl ?_
        refine g_callSI (st := []) (s_X12_has hX x1 x4 h) kml_X12_68 kst_X12_has kii_X12 kcd_X12_has ds_X12_has rfl ⟨Nat.le_of_ble_eq_true rfl, Nat.le_of_ble_eq_true rfl⟩ (Nat.le_of_ble_eq_true rfl) rfl dX12_bestOf_34 (fun r8 h7 => ?_)
        refine g_ifeq (tgt := 55) dX12_bestOf_37 (by decide) ?_ ?_
        · refine g_iconst (v := (-1)) dX12_bestOf_55 (by decide) ?_
          exact g_sub2 [0, 1, 2, 3, 4] rfl (s_X12_bestOf_b56 hX (f_X12_bestOf_b10 n) (fun z0 z1 z2 z3 z4 z5 => ih z0 z1 z2 z3 z4 z5) x0 x1 x2 x3 x4 (-1) h7)
        · refine g_aload_n 0 dX12_bestOf_40 rfl rfl ?_
          refine g_getR kfl_X12_25 fo_X12_brings dX12_bestOf_41 (fun t14 => ?_)
          refine g_bipush (v := 7) dX12_bestOf_44 (by decide) ?_
          refine g_iload_n 2 dX12_bestOf_46 rfl rfl ?_
          refine g_imul dX12_bestOf_47 ?_
          refine g_iload 4 dX12_bestOf_48 rfl ?_
          refine g_iadd dX12_bestOf_50 ?_
          refine g_iaload dX12_bestOf_51 (fun t15 => ?_)
          refine g_goto (tgt := 56) dX12_bestOf_52 (by decide) ?_
          exact g_sub2 [0, 1, 2, 3, 4] rfl (s_X12_bestOf_b56 hX (f_X12_bestOf_b10 n) (fun z0 z1 z2 z3 z4 z5 => ih z0 z1 z2 z3 z4 z5) x0 x1 x2 x3 x4 t15 h7)
def f_X12_bestOf (v0 : Option Nat) (v1 : Int32) (h : AH) : Option (Int32 × AH) :=
    bd (f_X12_leastIn v1 h) fun r2 h1 =>
    f_X12_bestOf_b10 FU v0 v1 r2 (-1) r2 h1
set_option maxRecDepth 100000 in
set_option maxHeartbeats 4000000 in
theorem s_X12_bestOf {X : GX} (hX : XOK X) (v0 : Option Nat) (v1 : Int32) (h : AH) : Snd X yX12_bestOf cX12_bestOf 6 (some .int) 2 42 rI [vR v0, vI v1] h (f_X12_bestOf v0 v1 h) := by
  refine snd_of hX (by decide +kernel) (Nat.le_of_ble_eq_true rfl) ?_
  show Gp (p_X12_bestOf X h) RX12 "bestOf" cX12_bestOf (some .int) 0 [(0, vR v0), (1, vI v1)] [] h _
  unfold f_X12_bestOf
  refine g_iload_n 1 dX12_bestOf_0 rfl rfl ?_
  refine g_callSI (st := []) (s_X12_leastIn hX v1 h) kml_X12_191 kst_X12_leastIn kii_X12 kcd_X12_leastIn ds_X12_leastIn rfl ⟨Nat.le_of_ble_eq_true rfl, Nat.le_of_ble_eq_true rfl⟩ (Nat.le_of_ble_eq_true rfl) rfl dX12_bestOf_1 (fun r2 h1 => ?_)
  refine g_istore_n (ls' := [(2, vI r2), (0, vR v0), (1, vI v1)]) dX12_bestOf_4 rfl (Nat.le_of_ble_eq_true rfl) rfl ?_
  refine g_iconst (v := (-1)) dX12_bestOf_5 (by decide) ?_
  refine g_istore_n (ls' := [(3, vI ((-1))), (2, vI r2), (0, vR v0), (1, vI v1)]) dX12_bestOf_6 rfl (Nat.le_of_ble_eq_true rfl) rfl ?_
  refine g_iload_n 1 dX12_bestOf_7 rfl rfl ?_
  refine g_istore (ls' := [(4, vI r2), (3, vI ((-1))), (2, vI r2), (0, vR v0), (1, vI v1)]) dX12_bestOf_8 (Nat.le_of_ble_eq_true rfl) rfl ?_
  exact g_sub2 [3, 4, 2, 1, 0] rfl (s_X12_bestOf_b10 hX FU v0 v1 r2 (-1) r2 h1)
abbrev p_X12_bits (X : GX) (h0 : AH) : PX Int32 := (X, (fun x => Sum.inl (rI x)), (0, 0, 3), h0)
def f_X12_bits_b4 : Nat → Int32 → Int32 → Int32 → AH → Option (Int32 × AH)
  | 0 => fun _ _ _ _ => none
  | n + 1 => fun x0 x1 x2 h =>
    (if 7 ≤ x2 then
    some (x1, h)
    else nm (x1 + ((x0 >>> (x2 &&& 31)) &&& 1)) fun t1 =>
    f_X12_bits_b4 n x0 t1 (x2 + 1) h)
set_option maxRecDepth 100000 in
set_option maxHeartbeats 4000000 in
theorem s_X12_bits_b4 {X : GX} (hX : XOK X) {h0 : AH} : ∀ (n : Nat) (x0 : Int32) (x1 : Int32) (x2 : Int32) (h : AH), Gp (p_X12_bits X h0) RX12 "bits" cX12_bits (some .int) 4 [(0, vI x0), (1, vI x1), (2, vI x2)] [] h (f_X12_bits_b4 n x0 x1 x2 h) := by
  intro n
  induction n with
  | zero => intro x0 x1 x2 h; exact g_none
  | succ n ih =>
    intro x0 x1 x2 h
    rw [f_X12_bits_b4]
    refine g_iload_n 2 dX12_bits_4 rfl rfl ?_
    refine g_bipush (v := 7) dX12_bits_5 (by decide) ?_
    refine g_icmpge (tgt := 24) dX12_bits_7 (by decide) ?_ ?_
    · refine g_iload_n 1 dX12_bits_24 rfl rfl ?_
      exact g_ireturn rfl dX12_bits_25
    · refine g_iload_n 1 dX12_bits_10 rfl rfl ?_
      refine g_iload_n 0 dX12_bits_11 rfl rfl ?_
      refine g_iload_n 2 dX12_bits_12 rfl rfl ?_
      refine g_ishr dX12_bits_13 ?_
      refine g_iconst (v := 1) dX12_bits_14 (by decide) ?_
      refine g_iand dX12_bits_15 ?_
      refine g_iadd dX12_bits_16 ?_
      refine g_nmI (fun t1 => ?_)
      refine g_istore_n (ls' := [(1, vI t1), (0, vI x0), (2, vI x2)]) dX12_bits_17 rfl (Nat.le_of_ble_eq_true rfl) rfl ?_
      refine g_iinc 2 (v := (x2 + 1)) (ls' := [(2, vI ((x2 + 1))), (1, vI t1), (0, vI x0)]) dX12_bits_18 rfl rfl (Nat.le_of_ble_eq_true rfl) rfl ?_
      refine g_goto (tgt := 4) dX12_bits_21 (by decide) ?_
      exact g_sub2 [2, 1, 0] rfl (ih x0 t1 (x2 + 1) h)
def f_X12_bits (v0 : Int32) (h : AH) : Option (Int32 × AH) :=
    f_X12_bits_b4 FU v0 0 0 h
set_option maxRecDepth 100000 in
set_option maxHeartbeats 4000000 in
theorem s_X12_bits {X : GX} (hX : XOK X) (v0 : Int32) (h : AH) : Snd X yX12_bits cX12_bits 3 (some .int) 0 0 rI [vI v0] h (f_X12_bits v0 h) := by
  refine snd_of hX (by decide +kernel) (Nat.le_of_ble_eq_true rfl) ?_
  show Gp (p_X12_bits X h) RX12 "bits" cX12_bits (some .int) 0 [(0, vI v0)] [] h _
  unfold f_X12_bits
  refine g_iconst (v := 0) dX12_bits_0 (by decide) ?_
  refine g_istore_n (ls' := [(1, vI 0), (0, vI v0)]) dX12_bits_1 rfl (Nat.le_of_ble_eq_true rfl) rfl ?_
  refine g_iconst (v := 0) dX12_bits_2 (by decide) ?_
  refine g_istore_n (ls' := [(2, vI 0), (1, vI 0), (0, vI v0)]) dX12_bits_3 rfl (Nat.le_of_ble_eq_true rfl) rfl ?_
  exact g_sub2 [2, 1, 0] rfl (s_X12_bits_b4 hX FU v0 0 0 h)
abbrev p_X12_isIn (X : GX) (h0 : AH) : PX Int32 := (X, (fun x => Sum.inl (rI x)), (0, 0, 3), h0)
def f_X12_isIn (v0 : Int32) (v1 : Int32) (v2 : Int32) (h : AH) : Option (Int32 × AH) :=
    (if v0 < v1 then
    some (0, h)
    else (if v2 < v0 then
    some (0, h)
    else some (1, h)))
set_option maxRecDepth 100000 in
set_option maxHeartbeats 4000000 in
theorem s_X12_isIn {X : GX} (hX : XOK X) (v0 : Int32) (v1 : Int32) (v2 : Int32) (h : AH) : Snd X yX12_isIn cX12_isIn 3 (some .boolean) 0 0 rI [vI v0, vI v1, vI v2] h (f_X12_isIn v0 v1 v2 h) := by
  refine snd_of hX (by decide +kernel) (Nat.le_of_ble_eq_true rfl) ?_
  show Gp (p_X12_isIn X h) RX12 "isIn" cX12_isIn (some .boolean) 0 [(0, vI v0), (1, vI v1), (2, vI v2)] [] h _
  unfold f_X12_isIn
  refine g_iload_n 0 dX12_isIn_0 rfl rfl ?_
  refine g_iload_n 1 dX12_isIn_1 rfl rfl ?_
  refine g_icmplt (tgt := 14) dX12_isIn_2 (by decide) ?_ ?_
  · refine g_iconst (v := 0) dX12_isIn_14 (by decide) ?_
    exact g_zreturn (by decide +kernel) rfl dX12_isIn_15
  · refine g_iload_n 0 dX12_isIn_5 rfl rfl ?_
    refine g_iload_n 2 dX12_isIn_6 rfl rfl ?_
    refine g_icmpgt (tgt := 14) dX12_isIn_7 (by decide) ?_ ?_
    · refine g_iconst (v := 0) dX12_isIn_14 (by decide) ?_
      exact g_zreturn (by decide +kernel) rfl dX12_isIn_15
    · refine g_iconst (v := 1) dX12_isIn_10 (by decide) ?_
      refine g_goto (tgt := 15) dX12_isIn_11 (by decide) ?_
      exact g_zreturn (by decide +kernel) rfl dX12_isIn_15
abbrev p_X12_isGuest (X : GX) (h0 : AH) : PX Int32 := (X, (fun x => Sum.inl (rI x)), (1, 22, 2), h0)
def f_X12_isGuest (v0 : Option Nat) (v1 : Int32) (h : AH) : Option (Int32 × AH) :=
    (gR h v0 [12] 0).bind fun t1 =>
    (iA h t1 0).bind fun t2 =>
    bd (f_X12_isIn v1 0 (t2 - 1) h) fun r4 h3 =>
    rb r4 h3
set_option maxRecDepth 100000 in
set_option maxHeartbeats 4000000 in
theorem s_X12_isGuest {X : GX} (hX : XOK X) (v0 : Option Nat) (v1 : Int32) (h : AH) : Snd X yX12_isGuest cX12_isGuest 2 (some .boolean) 1 22 rI [vR v0, vI v1] h (f_X12_isGuest v0 v1 h) := by
  refine snd_of hX (by decide +kernel) (Nat.le_of_ble_eq_true rfl) ?_
  show Gp (p_X12_isGuest X h) RX12 "isGuest" cX12_isGuest (some .boolean) 0 [(0, vR v0), (1, vI v1)] [] h _
  unfold f_X12_isGuest
  refine g_iload_n 1 dX12_isGuest_0 rfl rfl ?_
  refine g_iconst (v := 0) dX12_isGuest_1 (by decide) ?_
  refine g_aload_n 0 dX12_isGuest_2 rfl rfl ?_
  refine g_getR kfl_X12_9 fo_X12_s dX12_isGuest_3 (fun t1 => ?_)
  refine g_iconst (v := 0) dX12_isGuest_6 (by decide) ?_
  refine g_iaload dX12_isGuest_7 (fun t2 => ?_)
  refine g_iconst (v := 1) dX12_isGuest_8 (by decide) ?_
  refine g_isub dX12_isGuest_9 ?_
  refine g_callSI (st := []) (s_X12_isIn hX v1 0 (t2 - 1) h) kml_X12_49 kst_X12_isIn kii_X12 kcd_X12_isIn ds_X12_isIn rfl ⟨Nat.le_of_ble_eq_true rfl, Nat.le_of_ble_eq_true rfl⟩ (Nat.le_of_ble_eq_true rfl) rfl dX12_isGuest_10 (fun r4 h3 => ?_)
  exact g_zreturnV (fun _ => rfl) dX12_isGuest_13
abbrev p_X12_isShelf (X : GX) (h0 : AH) : PX Int32 := (X, (fun x => Sum.inl (rI x)), (1, 22, 1), h0)
def f_X12_isShelf (v0 : Int32) (h : AH) : Option (Int32 × AH) :=
    bd (f_X12_isIn v0 0 7 h) fun r2 h1 =>
    rb r2 h1
set_option maxRecDepth 100000 in
set_option maxHeartbeats 4000000 in
theorem s_X12_isShelf {X : GX} (hX : XOK X) (v0 : Int32) (h : AH) : Snd X yX12_isShelf cX12_isShelf 1 (some .boolean) 1 22 rI [vI v0] h (f_X12_isShelf v0 h) := by
  refine snd_of hX (by decide +kernel) (Nat.le_of_ble_eq_true rfl) ?_
  show Gp (p_X12_isShelf X h) RX12 "isShelf" cX12_isShelf (some .boolean) 0 [(0, vI v0)] [] h _
  unfold f_X12_isShelf
  refine g_iload_n 0 dX12_isShelf_0 rfl rfl ?_
  refine g_iconst (v := 0) dX12_isShelf_1 (by decide) ?_
  refine g_bipush (v := 7) dX12_isShelf_2 (by decide) ?_
  refine g_callSI (st := []) (s_X12_isIn hX v0 0 7 h) kml_X12_49 kst_X12_isIn kii_X12 kcd_X12_isIn ds_X12_isIn rfl ⟨Nat.le_of_ble_eq_true rfl, Nat.le_of_ble_eq_true rfl⟩ (Nat.le_of_ble_eq_true rfl) rfl dX12_isShelf_4 (fun r2 h1 => ?_)
  exact g_zreturnV (fun _ => rfl) dX12_isShelf_7
abbrev p_X12_wrongRow (X : GX) (h0 : AH) : PX Int32 := (X, (fun x => Sum.inl (rI x)), (2, 42, 3), h0)
def f_X12_wrongRow (v0 : Option Nat) (v1 : Int32) (v2 : Int32) (h : AH) : Option (Int32 × AH) :=
    bd (f_X12_isShelf v1 h) fun r2 h1 =>
    (if r2 = 0 then
    some ((-1), h1)
    else (gR h1 v0 [12] 12).bind fun t3 =>
    (iA h1 t3 v1).bind fun t4 =>
    (if t4 = 0 then
    some ((-11), h1)
    else (gR h1 v0 [12] 12).bind fun t5 =>
    (iA h1 t5 v1).bind fun t6 =>
    (if t6 = 2 then
    (if v2 < 0 then
    some (0, h1)
    else (gR h1 v0 [12] 15).bind fun t7 =>
    (iA h1 t7 v1).bind fun t8 =>
    (if t8 = v2 then
    some (0, h1)
    else some ((-12), h1)))
    else some ((-12), h1))))
set_option maxRecDepth 100000 in
set_option maxHeartbeats 4000000 in
theorem s_X12_wrongRow {X : GX} (hX : XOK X) (v0 : Option Nat) (v1 : Int32) (v2 : Int32) (h : AH) : Snd X yX12_wrongRow cX12_wrongRow 3 (some .int) 2 42 rI [vR v0, vI v1, vI v2] h (f_X12_wrongRow v0 v1 v2 h) := by
  refine snd_of hX (by decide +kernel) (Nat.le_of_ble_eq_true rfl) ?_
  show Gp (p_X12_wrongRow X h) RX12 "wrongRow" cX12_wrongRow (some .int) 0 [(0, vR v0), (1, vI v1), (2, vI v2)] [] h _
  unfold f_X12_wrongRow
  refine g_iload_n 1 dX12_wrongRow_0 rfl rfl ?_
  refine g_callSI (st := []) (s_X12_isShelf hX v1 h) kml_X12_246 kst_X12_isShelf kii_X12 kcd_X12_isShelf ds_X12_isShelf rfl ⟨Nat.le_of_ble_eq_true rfl, Nat.le_of_ble_eq_true rfl⟩ (Nat.le_of_ble_eq_true rfl) rfl dX12_wrongRow_1 (fun r2 h1 => ?_)
  refine g_ifne (tgt := 11) dX12_wrongRow_4 (by decide) ?_ ?_
  · refine g_aload_n 0 dX12_wrongRow_11 rfl rfl ?_
    refine g_getR kfl_X12_31 fo_X12_kept dX12_wrongRow_12 (fun t3 => ?_)
    refine g_iload_n 1 dX12_wrongRow_15 rfl rfl ?_
    refine g_iaload dX12_wrongRow_16 (fun t4 => ?_)
    refine g_ifne (tgt := 25) dX12_wrongRow_17 (by decide) ?_ ?_
    · refine g_aload_n 0 dX12_wrongRow_25 rfl rfl ?_
      refine g_getR kfl_X12_31 fo_X12_kept dX12_wrongRow_26 (fun t5 => ?_)
      refine g_iload_n 1 dX12_wrongRow_29 rfl rfl ?_
      refine g_iaload dX12_wrongRow_30 (fun t6 => ?_)
      refine g_iconst (v := 2) dX12_wrongRow_31 (by decide) ?_
      refine g_icmpne (tgt := 49) dX12_wrongRow_32 (by decide) ?_ ?_
      · refine g_bipush (v := (-12)) dX12_wrongRow_49 (by decide) ?_
        refine g_goto (tgt := 55) dX12_wrongRow_51 (by decide) ?_
        exact g_ireturn rfl dX12_wrongRow_55
      · refine g_iload_n 2 dX12_wrongRow_35 rfl rfl ?_
        refine g_iflt (tgt := 54) dX12_wrongRow_36 (by decide) ?_ ?_
        · refine g_iconst (v := 0) dX12_wrongRow_54 (by decide) ?_
          exact g_ireturn rfl dX12_wrongRow_55
        · refine g_aload_n 0 dX12_wrongRow_39 rfl rfl ?_
          refine g_getR kfl_X12_40 fo_X12_sort dX12_wrongRow_40 (fun t7 => ?_)
          refine g_iload_n 1 dX12_wrongRow_43 rfl rfl ?_
          refine g_iaload dX12_wrongRow_44 (fun t8 => ?_)
          refine g_iload_n 2 dX12_wrongRow_45 rfl rfl ?_
          refine g_icmpeq (tgt := 54) dX12_wrongRow_46 (by decide) ?_ ?_
          · refine g_iconst (v := 0) dX12_wrongRow_54 (by decide) ?_
            exact g_ireturn rfl dX12_wrongRow_55
          · refine g_bipush (v := (-12)) dX12_wrongRow_49 (by decide) ?_
            refine g_goto (tgt := 55) dX12_wrongRow_51 (by decide) ?_
            exact g_ireturn rfl dX12_wrongRow_55
    · refine g_bipush (v := (-11)) dX12_wrongRow_20 (by decide) ?_
      refine g_goto (tgt := 55) dX12_wrongRow_22 (by decide) ?_
      exact g_ireturn rfl dX12_wrongRow_55
  · refine g_iconst (v := (-1)) dX12_wrongRow_7 (by decide) ?_
    refine g_goto (tgt := 55) dX12_wrongRow_8 (by decide) ?_
    exact g_ireturn rfl dX12_wrongRow_55
abbrev p_X12_copies (X : GX) (h0 : AH) : PX Unit := (X, (fun x => Sum.inl (rU x)), (0, 0, 3), h0)
def f_X12_copies_b2 : Nat → Option Nat → Option Nat → Int32 → AH → Option (Unit × AH)
  | 0 => fun _ _ _ _ => none
  | n + 1 => fun x0 x1 x2 h =>
    (if 54 ≤ x2 then
    some ((), h)
    else (iA h x0 x2).bind fun t1 =>
    (iS h x1 x2 t1).bind fun h2 =>
    f_X12_copies_b2 n x0 x1 (x2 + 1) h2)
set_option maxRecDepth 100000 in
set_option maxHeartbeats 4000000 in
theorem s_X12_copies_b2 {X : GX} (hX : XOK X) {h0 : AH} : ∀ (n : Nat) (x0 : Option Nat) (x1 : Option Nat) (x2 : Int32) (h : AH), Gp (p_X12_copies X h0) RX12 "copies" cX12_copies none 2 [(0, vR x0), (1, vR x1), (2, vI x2)] [] h (f_X12_copies_b2 n x0 x1 x2 h) := by
  intro n
  induction n with
  | zero => intro x0 x1 x2 h; exact g_none
  | succ n ih =>
    intro x0 x1 x2 h
    rw [f_X12_copies_b2]
    refine g_iload_n 2 dX12_copies_2 rfl rfl ?_
    refine g_bipush (v := 54) dX12_copies_3 (by decide) ?_
    refine g_icmpge (tgt := 20) dX12_copies_5 (by decide) ?_ ?_
    · exact g_return rfl dX12_copies_20
    · refine g_aload_n 1 dX12_copies_8 rfl rfl ?_
      refine g_iload_n 2 dX12_copies_9 rfl rfl ?_
      refine g_aload_n 0 dX12_copies_10 rfl rfl ?_
      refine g_iload_n 2 dX12_copies_11 rfl rfl ?_
      refine g_iaload dX12_copies_12 (fun t1 => ?_)
      refine g_iastore dX12_copies_13 (fun h2 => ?_)
      refine g_iinc 2 (v := (x2 + 1)) (ls' := [(2, vI ((x2 + 1))), (0, vR x0), (1, vR x1)]) dX12_copies_14 rfl rfl (Nat.le_of_ble_eq_true rfl) rfl ?_
      refine g_goto (tgt := 2) dX12_copies_17 (by decide) ?_
      exact g_sub2 [1, 2, 0] rfl (ih x0 x1 (x2 + 1) h2)
def f_X12_copies (v0 : Option Nat) (v1 : Option Nat) (h : AH) : Option (Unit × AH) :=
    f_X12_copies_b2 FU v0 v1 0 h
set_option maxRecDepth 100000 in
set_option maxHeartbeats 4000000 in
theorem s_X12_copies {X : GX} (hX : XOK X) (v0 : Option Nat) (v1 : Option Nat) (h : AH) : Snd X yX12_copies cX12_copies 3 none 0 0 rU [vR v0, vR v1] h (f_X12_copies v0 v1 h) := by
  refine snd_of hX (by decide +kernel) (Nat.le_of_ble_eq_true rfl) ?_
  show Gp (p_X12_copies X h) RX12 "copies" cX12_copies none 0 [(0, vR v0), (1, vR v1)] [] h _
  unfold f_X12_copies
  refine g_iconst (v := 0) dX12_copies_0 (by decide) ?_
  refine g_istore_n (ls' := [(2, vI 0), (0, vR v0), (1, vR v1)]) dX12_copies_1 rfl (Nat.le_of_ble_eq_true rfl) rfl ?_
  exact g_sub2 [1, 2, 0] rfl (s_X12_copies_b2 hX FU v0 v1 0 h)
abbrev p_X12_leastOf (X : GX) (h0 : AH) : PX Int32 := (X, (fun x => Sum.inl (rI x)), (0, 0, 1), h0)
def f_X12_leastOf (v0 : Int32) (h : AH) : Option (Int32 × AH) :=
    (if v0 = 0 then
    some ((-128), h)
    else (if v0 = 1 then
    some ((-32768), h)
    else some ((-2147483648), h)))
set_option maxRecDepth 100000 in
set_option maxHeartbeats 4000000 in
theorem s_X12_leastOf {X : GX} (hX : XOK X) (v0 : Int32) (h : AH) : Snd X yX12_leastOf cX12_leastOf 1 (some .int) 0 0 rI [vI v0] h (f_X12_leastOf v0 h) := by
  refine snd_of hX (by decide +kernel) (Nat.le_of_ble_eq_true rfl) ?_
  show Gp (p_X12_leastOf X h) RX12 "leastOf" cX12_leastOf (some .int) 0 [(0, vI v0)] [] h _
  unfold f_X12_leastOf
  refine g_iload_n 0 dX12_leastOf_0 rfl rfl ?_
  refine g_ifne (tgt := 9) dX12_leastOf_1 (by decide) ?_ ?_
  · refine g_iload_n 0 dX12_leastOf_9 rfl rfl ?_
    refine g_iconst (v := 1) dX12_leastOf_10 (by decide) ?_
    refine g_icmpne (tgt := 20) dX12_leastOf_11 (by decide) ?_ ?_
    · refine g_ldc kco_X12_203 dX12_leastOf_20 ?_
      exact g_ireturn rfl dX12_leastOf_22
    · refine g_sipush (v := (-32768)) dX12_leastOf_14 (by decide) ?_
      refine g_goto (tgt := 22) dX12_leastOf_17 (by decide) ?_
      exact g_ireturn rfl dX12_leastOf_22
  · refine g_bipush (v := (-128)) dX12_leastOf_4 (by decide) ?_
    refine g_goto (tgt := 22) dX12_leastOf_6 (by decide) ?_
    exact g_ireturn rfl dX12_leastOf_22
abbrev p_X12_isTold (X : GX) (h0 : AH) : PX Int32 := (X, (fun x => Sum.inl (rI x)), (1, 20, 4), h0)
def f_X12_isTold (v0 : Option Nat) (v1 : Int32) (v2 : Int32) (v3 : Int32) (h : AH) : Option (Int32 × AH) :=
    (gR h v0 [12] 17).bind fun t1 =>
    (iA h t1 ((100 * v1) + v2)).bind fun t2 =>
    (gR h v0 [12] 15).bind fun t3 =>
    (iA h t3 v1).bind fun t4 =>
    bd (f_X12_leastOf t4 h) fun r6 h5 =>
    (if t2 = r6 then
    some (1, h5)
    else (gR h5 v0 [12] 17).bind fun t7 =>
    (iA h5 t7 ((100 * v1) + v2)).bind fun t8 =>
    (if t8 = v3 then
    some (1, h5)
    else some (0, h5)))
set_option maxRecDepth 100000 in
set_option maxHeartbeats 4000000 in
theorem s_X12_isTold {X : GX} (hX : XOK X) (v0 : Option Nat) (v1 : Int32) (v2 : Int32) (v3 : Int32) (h : AH) : Snd X yX12_isTold cX12_isTold 4 (some .boolean) 1 20 rI [vR v0, vI v1, vI v2, vI v3] h (f_X12_isTold v0 v1 v2 v3 h) := by
  refine snd_of hX (by decide +kernel) (Nat.le_of_ble_eq_true rfl) ?_
  show Gp (p_X12_isTold X h) RX12 "isTold" cX12_isTold (some .boolean) 0 [(0, vR v0), (1, vI v1), (2, vI v2), (3, vI v3)] [] h _
  unfold f_X12_isTold
  refine g_aload_n 0 dX12_isTold_0 rfl rfl ?_
  refine g_getR kfl_X12_46 fo_X12_element dX12_isTold_1 (fun t1 => ?_)
  refine g_bipush (v := 100) dX12_isTold_4 (by decide) ?_
  refine g_iload_n 1 dX12_isTold_6 rfl rfl ?_
  refine g_imul dX12_isTold_7 ?_
  refine g_iload_n 2 dX12_isTold_8 rfl rfl ?_
  refine g_iadd dX12_isTold_9 ?_
  refine g_iaload dX12_isTold_10 (fun t2 => ?_)
  refine g_aload_n 0 dX12_isTold_11 rfl rfl ?_
  refine g_getR kfl_X12_40 fo_X12_sort dX12_isTold_12 (fun t3 => ?_)
  refine g_iload_n 1 dX12_isTold_15 rfl rfl ?_
  refine g_iaload dX12_isTold_16 (fun t4 => ?_)
  refine g_callSI (st := [vI t2]) (s_X12_leastOf hX t4 h) kml_X12_204 kst_X12_leastOf kii_X12 kcd_X12_leastOf ds_X12_leastOf rfl ⟨Nat.le_of_ble_eq_true rfl, Nat.le_of_ble_eq_true rfl⟩ (Nat.le_of_ble_eq_true rfl) rfl dX12_isTold_17 (fun r6 h5 => ?_)
  refine g_icmpeq (tgt := 38) dX12_isTold_20 (by decide) ?_ ?_
  · refine g_iconst (v := 1) dX12_isTold_38 (by decide) ?_
    refine g_goto (tgt := 43) dX12_isTold_39 (by decide) ?_
    exact g_zreturn (by decide +kernel) rfl dX12_isTold_43
  · refine g_aload_n 0 dX12_isTold_23 rfl rfl ?_
    refine g_getR kfl_X12_46 fo_X12_element dX12_isTold_24 (fun t7 => ?_)
    refine g_bipush (v := 100) dX12_isTold_27 (by decide) ?_
    refine g_iload_n 1 dX12_isTold_29 rfl rfl ?_
    refine g_imul dX12_isTold_30 ?_
    refine g_iload_n 2 dX12_isTold_31 rfl rfl ?_
    refine g_iadd dX12_isTold_32 ?_
    refine g_iaload dX12_isTold_33 (fun t8 => ?_)
    refine g_iload_n 3 dX12_isTold_34 rfl rfl ?_
    refine g_icmpne (tgt := 42) dX12_isTold_35 (by decide) ?_ ?_
    · refine g_iconst (v := 0) dX12_isTold_42 (by decide) ?_
      exact g_zreturn (by decide +kernel) rfl dX12_isTold_43
    · refine g_iconst (v := 1) dX12_isTold_38 (by decide) ?_
      refine g_goto (tgt := 43) dX12_isTold_39 (by decide) ?_
      exact g_zreturn (by decide +kernel) rfl dX12_isTold_43
abbrev p_X12_isHere (X : GX) (h0 : AH) : PX Int32 := (X, (fun x => Sum.inl (rI x)), (1, 21, 2), h0)
def f_X12_isHere (v0 : Option Nat) (v1 : Int32) (h : AH) : Option (Int32 × AH) :=
    bd (f_X12_of v1 6 h) fun r2 h1 =>
    (iA h1 v0 r2).bind fun t3 =>
    (if t3 = 1 then
    some (1, h1)
    else some (0, h1))
set_option maxRecDepth 100000 in
set_option maxHeartbeats 4000000 in
theorem s_X12_isHere {X : GX} (hX : XOK X) (v0 : Option Nat) (v1 : Int32) (h : AH) : Snd X yX12_isHere cX12_isHere 2 (some .boolean) 1 21 rI [vR v0, vI v1] h (f_X12_isHere v0 v1 h) := by
  refine snd_of hX (by decide +kernel) (Nat.le_of_ble_eq_true rfl) ?_
  show Gp (p_X12_isHere X h) RX12 "isHere" cX12_isHere (some .boolean) 0 [(0, vR v0), (1, vI v1)] [] h _
  unfold f_X12_isHere
  refine g_aload_n 0 dX12_isHere_0 rfl rfl ?_
  refine g_iload_n 1 dX12_isHere_1 rfl rfl ?_
  refine g_bipush (v := 6) dX12_isHere_2 (by decide) ?_
  refine g_callSI (st := [vR v0]) (s_X12_of hX v1 6 h) kml_X12_53 kst_X12_of kii_X12 kcd_X12_of ds_X12_of rfl ⟨Nat.le_of_ble_eq_true rfl, Nat.le_of_ble_eq_true rfl⟩ (Nat.le_of_ble_eq_true rfl) rfl dX12_isHere_4 (fun r2 h1 => ?_)
  refine g_iaload dX12_isHere_7 (fun t3 => ?_)
  refine g_iconst (v := 1) dX12_isHere_8 (by decide) ?_
  refine g_icmpne (tgt := 16) dX12_isHere_9 (by decide) ?_ ?_
  · refine g_iconst (v := 0) dX12_isHere_16 (by decide) ?_
    exact g_zreturn (by decide +kernel) rfl dX12_isHere_17
  · refine g_iconst (v := 1) dX12_isHere_12 (by decide) ?_
    refine g_goto (tgt := 17) dX12_isHere_13 (by decide) ?_
    exact g_zreturn (by decide +kernel) rfl dX12_isHere_17
abbrev p_X12_held (X : GX) (h0 : AH) : PX Int32 := (X, (fun x => Sum.inl (rI x)), (0, 0, 1), h0)
def f_X12_held (v0 : Int32) (h : AH) : Option (Int32 × AH) :=
    (if 0 ≤ v0 then
    (if v0 ≤ 99 then
    some (v0, h)
    else some (99, h))
    else some (0, h))
set_option maxRecDepth 100000 in
set_option maxHeartbeats 4000000 in
theorem s_X12_held {X : GX} (hX : XOK X) (v0 : Int32) (h : AH) : Snd X yX12_held cX12_held 1 (some .int) 0 0 rI [vI v0] h (f_X12_held v0 h) := by
  refine snd_of hX (by decide +kernel) (Nat.le_of_ble_eq_true rfl) ?_
  show Gp (p_X12_held X h) RX12 "held" cX12_held (some .int) 0 [(0, vI v0)] [] h _
  unfold f_X12_held
  refine g_iload_n 0 dX12_held_0 rfl rfl ?_
  refine g_ifge (tgt := 8) dX12_held_1 (by decide) ?_ ?_
  · refine g_iload_n 0 dX12_held_8 rfl rfl ?_
    refine g_bipush (v := 99) dX12_held_9 (by decide) ?_
    refine g_icmple (tgt := 19) dX12_held_11 (by decide) ?_ ?_
    · refine g_iload_n 0 dX12_held_19 rfl rfl ?_
      exact g_ireturn rfl dX12_held_20
    · refine g_bipush (v := 99) dX12_held_14 (by decide) ?_
      refine g_goto (tgt := 20) dX12_held_16 (by decide) ?_
      exact g_ireturn rfl dX12_held_20
  · refine g_iconst (v := 0) dX12_held_4 (by decide) ?_
    refine g_goto (tgt := 20) dX12_held_5 (by decide) ?_
    exact g_ireturn rfl dX12_held_20
abbrev p_X12_dancesBy (X : GX) (h0 : AH) : PX Int32 := (X, (fun x => Sum.inl (rI x)), (1, 20, 3), h0)
def f_X12_dancesBy (v0 : Int32) (v1 : Int32) (v2 : Int32) (h : AH) : Option (Int32 × AH) :=
    (if v0 = 1 then
    some (1, h)
    else (if v0 = 2 then
    some ((v2 + (v1 / 3)), h)
    else (if v0 = 4 then
    some (1, h)
    else (if v0 = 5 then
    bd (f_X12_held (v2 - 1) h) fun r6 h5 =>
    some (r6, h5)
    else (if v0 = 6 then
    some (((v2 + (v1 / 3)) / 2), h)
    else (if v0 = 7 then
    some ((v2 + 1), h)
    else some (v2, h)))))))
set_option maxRecDepth 100000 in
set_option maxHeartbeats 4000000 in
theorem s_X12_dancesBy {X : GX} (hX : XOK X) (v0 : Int32) (v1 : Int32) (v2 : Int32) (h : AH) : Snd X yX12_dancesBy cX12_dancesBy 3 (some .int) 1 20 rI [vI v0, vI v1, vI v2] h (f_X12_dancesBy v0 v1 v2 h) := by
  refine snd_of hX (by decide +kernel) (Nat.le_of_ble_eq_true rfl) ?_
  show Gp (p_X12_dancesBy X h) RX12 "dancesBy" cX12_dancesBy (some .int) 0 [(0, vI v0), (1, vI v1), (2, vI v2)] [] h _
  unfold f_X12_dancesBy
  refine g_iload_n 0 dX12_dancesBy_0 rfl rfl ?_
  refine g_tsIn (c := 1) (off := 43) (tgt := 44) dX12_dancesBy_1 (by decide) (by decide) (by decide) (by decide) ?_ (fun n1 => ?_)
  · refine g_iconst (v := 1) dX12_dancesBy_44 (by decide) ?_
    exact g_ireturn rfl dX12_dancesBy_45
  refine g_tsIn (c := 2) (off := 45) (tgt := 46) dX12_dancesBy_1 (by decide) (by decide) (by decide) (by decide) ?_ (fun n2 => ?_)
  · refine g_iload_n 2 dX12_dancesBy_46 rfl rfl ?_
    refine g_iload_n 1 dX12_dancesBy_47 rfl rfl ?_
    refine g_iconst (v := 3) dX12_dancesBy_48 (by decide) ?_
    refine g_idivK dX12_dancesBy_49 (by decide) ?_
    refine g_iadd dX12_dancesBy_50 ?_
    exact g_ireturn rfl dX12_dancesBy_51
  refine g_tsIn (c := 4) (off := 43) (tgt := 44) dX12_dancesBy_1 (by decide) (by decide) (by decide) (by decide) ?_ (fun n3 => ?_)
  · refine g_iconst (v := 1) dX12_dancesBy_44 (by decide) ?_
    exact g_ireturn rfl dX12_dancesBy_45
  refine g_tsIn (c := 5) (off := 51) (tgt := 52) dX12_dancesBy_1 (by decide) (by decide) (by decide) (by decide) ?_ (fun n4 => ?_)
  · refine g_iload_n 2 dX12_dancesBy_52 rfl rfl ?_
    refine g_iconst (v := 1) dX12_dancesBy_53 (by decide) ?_
    refine g_isub dX12_dancesBy_54 ?_
    refine g_callSI (st := []) (s_X12_held hX (v2 - 1) h) kml_X12_57 kst_X12_held kii_X12 kcd_X12_held ds_X12_held rfl ⟨Nat.le_of_ble_eq_true rfl, Nat.le_of_ble_eq_true rfl⟩ (Nat.le_of_ble_eq_true rfl) rfl dX12_dancesBy_55 (fun r6 h5 => ?_)
    exact g_ireturn rfl dX12_dancesBy_58
  refine g_tsIn (c := 6) (off := 58) (tgt := 59) dX12_dancesBy_1 (by decide) (by decide) (by decide) (by decide) ?_ (fun n7 => ?_)
  · refine g_iload_n 2 dX12_dancesBy_59 rfl rfl ?_
    refine g_iload_n 1 dX12_dancesBy_60 rfl rfl ?_
    refine g_iconst (v := 3) dX12_dancesBy_61 (by decide) ?_
    refine g_idivK dX12_dancesBy_62 (by decide) ?_
    refine g_iadd dX12_dancesBy_63 ?_
    refine g_iconst (v := 2) dX12_dancesBy_64 (by decide) ?_
    refine g_idivK dX12_dancesBy_65 (by decide) ?_
    exact g_ireturn rfl dX12_dancesBy_66
  refine g_tsIn (c := 7) (off := 66) (tgt := 67) dX12_dancesBy_1 (by decide) (by decide) (by decide) (by decide) ?_ (fun n8 => ?_)
  · refine g_iload_n 2 dX12_dancesBy_67 rfl rfl ?_
    refine g_iconst (v := 1) dX12_dancesBy_68 (by decide) ?_
    refine g_iadd dX12_dancesBy_69 ?_
    exact g_ireturn rfl dX12_dancesBy_70
  refine g_tsDef (tgt := 71) (keys := [1, 2, 4, 5, 6, 7]) (neK_cons (c := 1) (k := 1) n1 (by decide) (neK_cons (c := 2) (k := 2) n2 (by decide) (neK_cons (c := 4) (k := 4) n3 (by decide) (neK_cons (c := 5) (k := 5) n4 (by decide) (neK_cons (c := 6) (k := 6) n7 (by decide) (neK_cons (c := 7) (k := 7) n8 (by decide) neK_nil)))))) (by decide +kernel) dX12_dancesBy_1 (by decide) ?_
  refine g_iload_n 2 dX12_dancesBy_71 rfl rfl ?_
  exact g_ireturn rfl dX12_dancesBy_72
abbrev p_X12_eatsBy (X : GX) (h0 : AH) : PX Int32 := (X, (fun x => Sum.inl (rI x)), (1, 20, 2), h0)
def f_X12_eatsBy (v0 : Int32) (v1 : Int32) (h : AH) : Option (Int32 × AH) :=
    (if v0 = 1 then
    some ((v1 / 2), h)
    else (if v0 = 2 then
    some ((v1 + 1), h)
    else (if v0 = 4 then
    some (((v1 / 2) + 2), h)
    else (if v0 = 5 then
    some ((2 * v1), h)
    else (if v0 = 6 then
    bd (f_X12_held (v1 - 1) h) fun r7 h6 =>
    some (r7, h6)
    else (if v0 = 7 then
    some ((v1 / 2), h)
    else some (v1, h)))))))
set_option maxRecDepth 100000 in
set_option maxHeartbeats 4000000 in
theorem s_X12_eatsBy {X : GX} (hX : XOK X) (v0 : Int32) (v1 : Int32) (h : AH) : Snd X yX12_eatsBy cX12_eatsBy 2 (some .int) 1 20 rI [vI v0, vI v1] h (f_X12_eatsBy v0 v1 h) := by
  refine snd_of hX (by decide +kernel) (Nat.le_of_ble_eq_true rfl) ?_
  show Gp (p_X12_eatsBy X h) RX12 "eatsBy" cX12_eatsBy (some .int) 0 [(0, vI v0), (1, vI v1)] [] h _
  unfold f_X12_eatsBy
  refine g_iload_n 0 dX12_eatsBy_0 rfl rfl ?_
  refine g_tsIn (c := 1) (off := 43) (tgt := 44) dX12_eatsBy_1 (by decide) (by decide) (by decide) (by decide) ?_ (fun n1 => ?_)
  · refine g_iload_n 1 dX12_eatsBy_44 rfl rfl ?_
    refine g_iconst (v := 2) dX12_eatsBy_45 (by decide) ?_
    refine g_idivK dX12_eatsBy_46 (by decide) ?_
    exact g_ireturn rfl dX12_eatsBy_47
  refine g_tsIn (c := 2) (off := 47) (tgt := 48) dX12_eatsBy_1 (by decide) (by decide) (by decide) (by decide) ?_ (fun n2 => ?_)
  · refine g_iload_n 1 dX12_eatsBy_48 rfl rfl ?_
    refine g_iconst (v := 1) dX12_eatsBy_49 (by decide) ?_
    refine g_iadd dX12_eatsBy_50 ?_
    exact g_ireturn rfl dX12_eatsBy_51
  refine g_tsIn (c := 4) (off := 51) (tgt := 52) dX12_eatsBy_1 (by decide) (by decide) (by decide) (by decide) ?_ (fun n3 => ?_)
  · refine g_iload_n 1 dX12_eatsBy_52 rfl rfl ?_
    refine g_iconst (v := 2) dX12_eatsBy_53 (by decide) ?_
    refine g_idivK dX12_eatsBy_54 (by decide) ?_
    refine g_iconst (v := 2) dX12_eatsBy_55 (by decide) ?_
    refine g_iadd dX12_eatsBy_56 ?_
    exact g_ireturn rfl dX12_eatsBy_57
  refine g_tsIn (c := 5) (off := 57) (tgt := 58) dX12_eatsBy_1 (by decide) (by decide) (by decide) (by decide) ?_ (fun n4 => ?_)
  · refine g_iconst (v := 2) dX12_eatsBy_58 (by decide) ?_
    refine g_iload_n 1 dX12_eatsBy_59 rfl rfl ?_
    refine g_imul dX12_eatsBy_60 ?_
    exact g_ireturn rfl dX12_eatsBy_61
  refine g_tsIn (c := 6) (off := 61) (tgt := 62) dX12_eatsBy_1 (by decide) (by decide) (by decide) (by decide) ?_ (fun n5 => ?_)
  · refine g_iload_n 1 dX12_eatsBy_62 rfl rfl ?_
    refine g_iconst (v := 1) dX12_eatsBy_63 (by decide) ?_
    refine g_isub dX12_eatsBy_64 ?_
    refine g_callSI (st := []) (s_X12_held hX (v1 - 1) h) kml_X12_57 kst_X12_held kii_X12 kcd_X12_held ds_X12_held rfl ⟨Nat.le_of_ble_eq_true rfl, Nat.le_of_ble_eq_true rfl⟩ (Nat.le_of_ble_eq_true rfl) rfl dX12_eatsBy_65 (fun r7 h6 => ?_)
    exact g_ireturn rfl dX12_eatsBy_68
  refine g_tsIn (c := 7) (off := 43) (tgt := 44) dX12_eatsBy_1 (by decide) (by decide) (by decide) (by decide) ?_ (fun n8 => ?_)
  · refine g_iload_n 1 dX12_eatsBy_44 rfl rfl ?_
    refine g_iconst (v := 2) dX12_eatsBy_45 (by decide) ?_
    refine g_idivK dX12_eatsBy_46 (by decide) ?_
    exact g_ireturn rfl dX12_eatsBy_47
  refine g_tsDef (tgt := 69) (keys := [1, 2, 4, 5, 6, 7]) (neK_cons (c := 1) (k := 1) n1 (by decide) (neK_cons (c := 2) (k := 2) n2 (by decide) (neK_cons (c := 4) (k := 4) n3 (by decide) (neK_cons (c := 5) (k := 5) n4 (by decide) (neK_cons (c := 6) (k := 6) n5 (by decide) (neK_cons (c := 7) (k := 7) n8 (by decide) neK_nil)))))) (by decide +kernel) dX12_eatsBy_1 (by decide) ?_
  refine g_iload_n 1 dX12_eatsBy_69 rfl rfl ?_
  exact g_ireturn rfl dX12_eatsBy_70
abbrev p_X12_staysBy (X : GX) (h0 : AH) : PX Int32 := (X, (fun x => Sum.inl (rI x)), (0, 0, 2), h0)
def f_X12_staysBy (v0 : Int32) (v1 : Int32) (h : AH) : Option (Int32 × AH) :=
    (if v0 = 2 then
    some (v1, h)
    else (if v0 = 6 then
    some (v1, h)
    else (if v0 = 4 then
    some (9, h)
    else some (0, h))))
set_option maxRecDepth 100000 in
set_option maxHeartbeats 4000000 in
theorem s_X12_staysBy {X : GX} (hX : XOK X) (v0 : Int32) (v1 : Int32) (h : AH) : Snd X yX12_staysBy cX12_staysBy 2 (some .int) 0 0 rI [vI v0, vI v1] h (f_X12_staysBy v0 v1 h) := by
  refine snd_of hX (by decide +kernel) (Nat.le_of_ble_eq_true rfl) ?_
  show Gp (p_X12_staysBy X h) RX12 "staysBy" cX12_staysBy (some .int) 0 [(0, vI v0), (1, vI v1)] [] h _
  unfold f_X12_staysBy
  refine g_iload_n 0 dX12_staysBy_0 rfl rfl ?_
  refine g_iconst (v := 2) dX12_staysBy_1 (by decide) ?_
  refine g_icmpeq (tgt := 11) dX12_staysBy_2 (by decide) ?_ ?_
  · refine g_iload_n 1 dX12_staysBy_11 rfl rfl ?_
    refine g_goto (tgt := 26) dX12_staysBy_12 (by decide) ?_
    exact g_ireturn rfl dX12_staysBy_26
  · refine g_iload_n 0 dX12_staysBy_5 rfl rfl ?_
    refine g_bipush (v := 6) dX12_staysBy_6 (by decide) ?_
    refine g_icmpne (tgt := 15) dX12_staysBy_8 (by decide) ?_ ?_
    · refine g_iload_n 0 dX12_staysBy_15 rfl rfl ?_
      refine g_iconst (v := 4) dX12_staysBy_16 (by decide) ?_
      refine g_icmpne (tgt := 25) dX12_staysBy_17 (by decide) ?_ ?_
      · refine g_iconst (v := 0) dX12_staysBy_25 (by decide) ?_
        exact g_ireturn rfl dX12_staysBy_26
      · refine g_bipush (v := 9) dX12_staysBy_20 (by decide) ?_
        refine g_goto (tgt := 26) dX12_staysBy_22 (by decide) ?_
        exact g_ireturn rfl dX12_staysBy_26
    · refine g_iload_n 1 dX12_staysBy_11 rfl rfl ?_
      refine g_goto (tgt := 26) dX12_staysBy_12 (by decide) ?_
      exact g_ireturn rfl dX12_staysBy_26
abbrev p_X12_mayGo (X : GX) (h0 : AH) : PX Int32 := (X, (fun x => Sum.inl (rI x)), (2, 42, 2), h0)
def f_X12_mayGo (v0 : Option Nat) (v1 : Int32) (h : AH) : Option (Int32 × AH) :=
    bd (f_X12_isHere v0 v1 h) fun r2 h1 =>
    (if r2 = 0 then
    some (0, h1)
    else bd (f_X12_of v1 2 h1) fun r4 h3 =>
    (iA h3 v0 r4).bind fun t5 =>
    bd (f_X12_of v1 3 h3) fun r7 h6 =>
    (iA h6 v0 r7).bind fun t8 =>
    (if t8 ≤ t5 then
    some (0, h6)
    else (iA h6 v0 1).bind fun t9 =>
    bd (f_X12_of v1 5 h6) fun r11 h10 =>
    (iA h10 v0 r11).bind fun t12 =>
    bd (f_X12_of v1 0 h10) fun r14 h13 =>
    (iA h13 v0 r14).bind fun t15 =>
    bd (f_X12_of v1 1 h13) fun r17 h16 =>
    (iA h16 v0 r17).bind fun t18 =>
    bd (f_X12_staysBy t15 t18 h16) fun r20 h19 =>
    (if (t9 - t12) < r20 then
    some (0, h19)
    else some (1, h19))))
set_option maxRecDepth 100000 in
set_option maxHeartbeats 4000000 in
theorem s_X12_mayGo {X : GX} (hX : XOK X) (v0 : Option Nat) (v1 : Int32) (h : AH) : Snd X yX12_mayGo cX12_mayGo 2 (some .boolean) 2 42 rI [vR v0, vI v1] h (f_X12_mayGo v0 v1 h) := by
  refine snd_of hX (by decide +kernel) (Nat.le_of_ble_eq_true rfl) ?_
  show Gp (p_X12_mayGo X h) RX12 "mayGo" cX12_mayGo (some .boolean) 0 [(0, vR v0), (1, vI v1)] [] h _
  unfold f_X12_mayGo
  refine g_aload_n 0 dX12_mayGo_0 rfl rfl ?_
  refine g_iload_n 1 dX12_mayGo_1 rfl rfl ?_
  refine g_callSI (st := []) (s_X12_isHere hX v0 v1 h) kml_X12_61 kst_X12_isHere kii_X12 kcd_X12_isHere ds_X12_isHere rfl ⟨Nat.le_of_ble_eq_true rfl, Nat.le_of_ble_eq_true rfl⟩ (Nat.le_of_ble_eq_true rfl) rfl dX12_mayGo_2 (fun r2 h1 => ?_)
  refine g_ifeq (tgt := 60) dX12_mayGo_5 (by decide) ?_ ?_
  · refine g_iconst (v := 0) dX12_mayGo_60 (by decide) ?_
    exact g_zreturn (by decide +kernel) rfl dX12_mayGo_61
  · refine g_aload_n 0 dX12_mayGo_8 rfl rfl ?_
    refine g_iload_n 1 dX12_mayGo_9 rfl rfl ?_
    refine g_iconst (v := 2) dX12_mayGo_10 (by decide) ?_
    refine g_callSI (st := [vR v0]) (s_X12_of hX v1 2 h1) kml_X12_53 kst_X12_of kii_X12 kcd_X12_of ds_X12_of rfl ⟨Nat.le_of_ble_eq_true rfl, Nat.le_of_ble_eq_true rfl⟩ (Nat.le_of_ble_eq_true rfl) rfl dX12_mayGo_11 (fun r4 h3 => ?_)
    refine g_iaload dX12_mayGo_14 (fun t5 => ?_)
    refine g_aload_n 0 dX12_mayGo_15 rfl rfl ?_
    refine g_iload_n 1 dX12_mayGo_16 rfl rfl ?_
    refine g_iconst (v := 3) dX12_mayGo_17 (by decide) ?_
    refine g_callSI (st := [vR v0, vI t5]) (s_X12_of hX v1 3 h3) kml_X12_53 kst_X12_of kii_X12 kcd_X12_of ds_X12_of rfl ⟨Nat.le_of_ble_eq_true rfl, Nat.le_of_ble_eq_true rfl⟩ (Nat.le_of_ble_eq_true rfl) rfl dX12_mayGo_18 (fun r7 h6 => ?_)
    refine g_iaload dX12_mayGo_21 (fun t8 => ?_)
    refine g_icmpge (tgt := 60) dX12_mayGo_22 (by decide) ?_ ?_
    · refine g_iconst (v := 0) dX12_mayGo_60 (by decide) ?_
      exact g_zreturn (by decide +kernel) rfl dX12_mayGo_61
    · refine g_aload_n 0 dX12_mayGo_25 rfl rfl ?_
      refine g_iconst (v := 1) dX12_mayGo_26 (by decide) ?_
      refine g_iaload dX12_mayGo_27 (fun t9 => ?_)
      refine g_aload_n 0 dX12_mayGo_28 rfl rfl ?_
      refine g_iload_n 1 dX12_mayGo_29 rfl rfl ?_
      refine g_iconst (v := 5) dX12_mayGo_30 (by decide) ?_
      refine g_callSI (st := [vR v0, vI t9]) (s_X12_of hX v1 5 h6) kml_X12_53 kst_X12_of kii_X12 kcd_X12_of ds_X12_of rfl ⟨Nat.le_of_ble_eq_true rfl, Nat.le_of_ble_eq_true rfl⟩ (Nat.le_of_ble_eq_true rfl) rfl dX12_mayGo_31 (fun r11 h10 => ?_)
      refine g_iaload dX12_mayGo_34 (fun t12 => ?_)
      refine g_isub dX12_mayGo_35 ?_
      refine g_aload_n 0 dX12_mayGo_36 rfl rfl ?_
      refine g_iload_n 1 dX12_mayGo_37 rfl rfl ?_
      refine g_iconst (v := 0) dX12_mayGo_38 (by decide) ?_
      refine g_callSI (st := [vR v0, vI ((t9 - t12))]) (s_X12_of hX v1 0 h10) kml_X12_53 kst_X12_of kii_X12 kcd_X12_of ds_X12_of rfl ⟨Nat.le_of_ble_eq_true rfl, Nat.le_of_ble_eq_true rfl⟩ (Nat.le_of_ble_eq_true rfl) rfl dX12_mayGo_39 (fun r14 h13 => ?_)
      refine g_iaload dX12_mayGo_42 (fun t15 => ?_)
      refine g_aload_n 0 dX12_mayGo_43 rfl rfl ?_
      refine g_iload_n 1 dX12_mayGo_44 rfl rfl ?_
      refine g_iconst (v := 1) dX12_mayGo_45 (by decide) ?_
      refine g_callSI (st := [vR v0, vI t15, vI ((t9 - t12))]) (s_X12_of hX v1 1 h13) kml_X12_53 kst_X12_of kii_X12 kcd_X12_of ds_X12_of rfl ⟨Nat.le_of_ble_eq_true rfl, Nat.le_of_ble_eq_true rfl⟩ (Nat.le_of_ble_eq_true rfl) rfl dX12_mayGo_46 (fun r17 h16 => ?_)
      refine g_iaload dX12_mayGo_49 (fun t18 => ?_)
      refine g_callSI (st := [vI ((t9 - t12))]) (s_X12_staysBy hX t15 t18 h16) kml_X12_65 kst_X12_staysBy kii_X12 kcd_X12_staysBy ds_X12_staysBy rfl ⟨Nat.le_of_ble_eq_true rfl, Nat.le_of_ble_eq_true rfl⟩ (Nat.le_of_ble_eq_true rfl) rfl dX12_mayGo_50 (fun r20 h19 => ?_)
      refine g_icmplt (tgt := 60) dX12_mayGo_53 (by decide) ?_ ?_
      · refine g_iconst (v := 0) dX12_mayGo_60 (by decide) ?_
        exact g_zreturn (by decide +kernel) rfl dX12_mayGo_61
      · refine g_iconst (v := 1) dX12_mayGo_56 (by decide) ?_
        refine g_goto (tgt := 61) dX12_mayGo_57 (by decide) ?_
        exact g_zreturn (by decide +kernel) rfl dX12_mayGo_61
abbrev p_X12_day (X : GX) (h0 : AH) : PX Unit := (X, (fun x => Sum.inl (rU x)), (3, 63, 4), h0)
def f_X12_day_b112 : Nat → Option Nat → Int32 → AH → Option (Unit × AH)
  | 0 => fun _ _ _ => none
  | n + 1 => fun x0 x2 h =>
    (iA h x0 0).bind fun t4 =>
    (if t4 ≤ x2 then
    some ((), h)
    else bd (f_X12_mayGo x0 x2 h) fun r6 h5 =>
    (if r6 = 0 then
    f_X12_day_b112 n x0 (x2 + 1) h5
    else bd (f_X12_of x2 6 h5) fun r8 h7 =>
    (iS h7 x0 r8 0).bind fun h9 =>
    (iA h9 x0 2).bind fun t10 =>
    bd (f_X12_of x2 3 h9) fun r12 h11 =>
    (iA h11 x0 r12).bind fun t13 =>
    bd (f_X12_of x2 2 h11) fun r15 h14 =>
    (iA h14 x0 r15).bind fun t16 =>
    nm ((t10 + t13) - t16) fun t17 =>
    (if t17 ≤ 9999 then
    (iS h14 x0 2 t17).bind fun h18 =>
    f_X12_day_b112 n x0 (x2 + 1) h18
    else (iS h14 x0 2 9999).bind fun h19 =>
    f_X12_day_b112 n x0 (x2 + 1) h19)))
set_option maxRecDepth 100000 in
set_option maxHeartbeats 4000000 in
theorem s_X12_day_b112 {X : GX} (hX : XOK X) {h0 : AH} : ∀ (n : Nat) (x0 : Option Nat) (x2 : Int32) (h : AH), Gp (p_X12_day X h0) RX12 "day" cX12_day none 112 [(0, vR x0), (2, vI x2)] [] h (f_X12_day_b112 n x0 x2 h) := by
  intro n
  induction n with
  | zero => intro x0 x2 h; exact g_none
  | succ n ih =>
    intro x0 x2 h
    rw [f_X12_day_b112]
    refine g_iload_n 1 dX12_day_112 rfl rfl ?_
    refine g_aload_n 0 dX12_day_113 rfl rfl ?_
    refine g_iconst (v := 0) dX12_day_114 (by decide) ?_
    refine g_iaload dX12_day_115 (fun t4 => ?_)
    refine g_icmpge (tgt := 182) dX12_day_116 (by decide) ?_ ?_
    · exact g_return rfl dX12_day_182
    · refine g_aload_n 0 dX12_day_119 rfl rfl ?_
      refine g_iload_n 1 dX12_day_120 rfl rfl ?_
      refine g_callSI (st := []) (s_X12_mayGo hX x0 x2 h) kml_X12_79 kst_X12_mayGo kii_X12 kcd_X12_mayGo ds_X12_mayGo rfl ⟨Nat.le_of_ble_eq_true rfl, Nat.le_of_ble_eq_true rfl⟩ (Nat.le_of_ble_eq_true rfl) rfl dX12_day_121 (fun r6 h5 => ?_)
      refine g_ifne (tgt := 130) dX12_day_124 (by decide) ?_ ?_
      · refine g_aload_n 0 dX12_day_130 rfl rfl ?_
        refine g_iload_n 1 dX12_day_131 rfl rfl ?_
        refine g_bipush (v := 6) dX12_day_132 (by decide) ?_
        refine g_callSI (st := [vR x0]) (s_X12_of hX x2 6 h5) kml_X12_53 kst_X12_of kii_X12 kcd_X12_of ds_X12_of rfl ⟨Nat.le_of_ble_eq_true rfl, Nat.le_of_ble_eq_true rfl⟩ (Nat.le_of_ble_eq_true rfl) rfl dX12_day_134 (fun r8 h7 => ?_)
        refine g_iconst (v := 0) dX12_day_137 (by decide) ?_
        refine g_iastore dX12_day_138 (fun h9 => ?_)
        refine g_aload_n 0 dX12_day_139 rfl rfl ?_
        refine g_iconst (v := 2) dX12_day_140 (by decide) ?_
        refine g_iaload dX12_day_141 (fun t10 => ?_)
        refine g_aload_n 0 dX12_day_142 rfl rfl ?_
        refine g_iload_n 1 dX12_day_143 rfl rfl ?_
        refine g_iconst (v := 3) dX12_day_144 (by decide) ?_
        refine g_callSI (st := [vR x0, vI t10]) (s_X12_of hX x2 3 h9) kml_X12_53 kst_X12_of kii_X12 kcd_X12_of ds_X12_of rfl ⟨Nat.le_of_ble_eq_true rfl, Nat.le_of_ble_eq_true rfl⟩ (Nat.le_of_ble_eq_true rfl) rfl dX12_day_145 (fun r12 h11 => ?_)
        refine g_iaload dX12_day_148 (fun t13 => ?_)
        refine g_iadd dX12_day_149 ?_
        refine g_aload_n 0 dX12_day_150 rfl rfl ?_
        refine g_iload_n 1 dX12_day_151 rfl rfl ?_
        refine g_iconst (v := 2) dX12_day_152 (by decide) ?_
        refine g_callSI (st := [vR x0, vI ((t10 + t13))]) (s_X12_of hX x2 2 h11) kml_X12_53 kst_X12_of kii_X12 kcd_X12_of ds_X12_of rfl ⟨Nat.le_of_ble_eq_true rfl, Nat.le_of_ble_eq_true rfl⟩ (Nat.le_of_ble_eq_true rfl) rfl dX12_day_153 (fun r15 h14 => ?_)
        refine g_iaload dX12_day_156 (fun t16 => ?_)
        refine g_isub dX12_day_157 ?_
        refine g_nmI (fun t17 => ?_)
        refine g_istore_n (ls' := [(3, vI t17), (0, vR x0), (2, vI x2)]) dX12_day_158 rfl (Nat.le_of_ble_eq_true rfl) rfl ?_
        refine g_aload_n 1 dX12_day_159 rfl rfl ?_
        refine g_iconst (v := 2) dX12_day_160 (by decide) ?_
        refine g_iload_n 0 dX12_day_161 rfl rfl ?_
        refine g_sipush (v := 9999) dX12_day_162 (by decide) ?_
        refine g_icmple (tgt := 174) dX12_day_165 (by decide) ?_ ?_
        · refine g_iload_n 0 dX12_day_174 rfl rfl ?_
          refine g_iastore dX12_day_175 (fun h18 => ?_)
          refine g_iinc 2 (v := (x2 + 1)) (ls' := [(2, vI ((x2 + 1))), (3, vI t17), (0, vR x0)]) dX12_day_176 rfl rfl (Nat.le_of_ble_eq_true rfl) rfl ?_
          refine g_goto (tgt := 112) dX12_day_179 (by decide) ?_
          exact g_sub2 [2, 0] rfl (ih x0 (x2 + 1) h18)
        · refine g_sipush (v := 9999) dX12_day_168 (by decide) ?_
          refine g_goto (tgt := 175) dX12_day_171 (by decide) ?_
          refine g_iastore dX12_day_175 (fun h19 => ?_)
          refine g_iinc 2 (v := (x2 + 1)) (ls' := [(2, vI ((x2 + 1))), (3, vI t17), (0, vR x0)]) dX12_day_176 rfl rfl (Nat.le_of_ble_eq_true rfl) rfl ?_
          refine g_goto (tgt := 112) dX12_day_179 (by decide) ?_
          exact g_sub2 [2, 0] rfl (ih x0 (x2 + 1) h19)
      · refine g_goto (tgt := 176) dX12_day_127 (by decide) ?_
        refine g_iinc 1 (v := (x2 + 1)) (ls' := [(2, vI ((x2 + 1))), (0, vR x0)]) dX12_day_176 rfl rfl (Nat.le_of_ble_eq_true rfl) rfl ?_
        refine g_goto (tgt := 112) dX12_day_179 (by decide) ?_
        exact g_sub2 [1, 0] rfl (ih x0 (x2 + 1) h5)
def f_X12_day_b67 (k9 : Option Nat → Int32 → Int32 → AH → Option (Unit × AH)) (x0 : Option Nat) (x1 : Int32) (x2 : Int32) (x3 : Int32) (y3 : Int32) (y2 : Int32) (y1 : Int32) (y0 : Option Nat) (h : AH) : Option (Unit × AH) :=
    bd (f_X12_held (y2 + y3) h) fun r36 h35 =>
    (iS h35 y0 y1 r36).bind fun h37 =>
    bd (f_X12_of x2 2 h37) fun r39 h38 =>
    bd (f_X12_of x2 2 h38) fun r41 h40 =>
    (iA h40 x0 r41).bind fun t42 =>
    bd (f_X12_of x2 1 h40) fun r44 h43 =>
    (iA h43 x0 r44).bind fun t45 =>
    (iA h43 x0 4).bind fun t46 =>
    bd (f_X12_dancesBy x3 t45 t46 h43) fun r48 h47 =>
    bd (f_X12_held (t42 - r48) h47) fun r50 h49 =>
    (iS h49 x0 r39 r50).bind fun h51 =>
    k9 x0 x1 (x2 + 1) h51
set_option maxRecDepth 100000 in
set_option maxHeartbeats 4000000 in
theorem s_X12_day_b67 {X : GX} (hX : XOK X) {h0 : AH} (k9 : Option Nat → Int32 → Int32 → AH → Option (Unit × AH)) (hk9 : ∀ (z0 : Option Nat) (z1 : Int32) (z2 : Int32) (h : AH), Gp (p_X12_day X h0) RX12 "day" cX12_day none 9 [(0, vR z0), (1, vI z1), (2, vI z2)] [] h (k9 z0 z1 z2 h)) : ∀ (x0 : Option Nat) (x1 : Int32) (x2 : Int32) (x3 : Int32) (y3 : Int32) (y2 : Int32) (y1 : Int32) (y0 : Option Nat) (h : AH), Gp (p_X12_day X h0) RX12 "day" cX12_day none 67 [(0, vR x0), (1, vI x1), (2, vI x2), (3, vI x3)] [vI y3, vI y2, vI y1, vR y0] h (f_X12_day_b67 k9 x0 x1 x2 x3 y3 y2 y1 y0 h) := by
  intro x0 x1 x2 x3 y3 y2 y1 y0 h
  unfold f_X12_day_b67
  refine g_iadd dX12_day_67 ?_
  refine g_callSI (st := [vI y1, vR y0]) (s_X12_held hX (y2 + y3) h) kml_X12_57 kst_X12_held kii_X12 kcd_X12_held ds_X12_held rfl ⟨Nat.le_of_ble_eq_true rfl, Nat.le_of_ble_eq_true rfl⟩ (Nat.le_of_ble_eq_true rfl) rfl dX12_day_68 (fun r36 h35 => ?_)
  refine g_iastore dX12_day_71 (fun h37 => ?_)
  refine g_aload_n 0 dX12_day_72 rfl rfl ?_
  refine g_iload_n 2 dX12_day_73 rfl rfl ?_
  refine g_iconst (v := 2) dX12_day_74 (by decide) ?_
  refine g_callSI (st := [vR x0]) (s_X12_of hX x2 2 h37) kml_X12_53 kst_X12_of kii_X12 kcd_X12_of ds_X12_of rfl ⟨Nat.le_of_ble_eq_true rfl, Nat.le_of_ble_eq_true rfl⟩ (Nat.le_of_ble_eq_true rfl) rfl dX12_day_75 (fun r39 h38 => ?_)
  refine g_aload_n 0 dX12_day_78 rfl rfl ?_
  refine g_iload_n 2 dX12_day_79 rfl rfl ?_
  refine g_iconst (v := 2) dX12_day_80 (by decide) ?_
  refine g_callSI (st := [vR x0, vI r39, vR x0]) (s_X12_of hX x2 2 h38) kml_X12_53 kst_X12_of kii_X12 kcd_X12_of ds_X12_of rfl ⟨Nat.le_of_ble_eq_true rfl, Nat.le_of_ble_eq_true rfl⟩ (Nat.le_of_ble_eq_true rfl) rfl dX12_day_81 (fun r41 h40 => ?_)
  refine g_iaload dX12_day_84 (fun t42 => ?_)
  refine g_iload_n 3 dX12_day_85 rfl rfl ?_
  refine g_aload_n 0 dX12_day_86 rfl rfl ?_
  refine g_iload_n 2 dX12_day_87 rfl rfl ?_
  refine g_iconst (v := 1) dX12_day_88 (by decide) ?_
  refine g_callSI (st := [vR x0, vI x3, vI t42, vI r39, vR x0]) (s_X12_of hX x2 1 h40) kml_X12_53 kst_X12_of kii_X12 kcd_X12_of ds_X12_of rfl ⟨Nat.le_of_ble_eq_true rfl, Nat.le_of_ble_eq_true rfl⟩ (Nat.le_of_ble_eq_true rfl) rfl dX12_day_89 (fun r44 h43 => ?_)
  refine g_iaload dX12_day_92 (fun t45 => ?_)
  refine g_aload_n 0 dX12_day_93 rfl rfl ?_
  refine g_iconst (v := 4) dX12_day_94 (by decide) ?_
  refine g_iaload dX12_day_95 (fun t46 => ?_)
  refine g_callSI (st := [vI t42, vI r39, vR x0]) (s_X12_dancesBy hX x3 t45 t46 h43) kml_X12_75 kst_X12_dancesBy kii_X12 kcd_X12_dancesBy ds_X12_dancesBy rfl ⟨Nat.le_of_ble_eq_true rfl, Nat.le_of_ble_eq_true rfl⟩ (Nat.le_of_ble_eq_true rfl) rfl dX12_day_96 (fun r48 h47 => ?_)
  refine g_isub dX12_day_99 ?_
  refine g_callSI (st := [vI r39, vR x0]) (s_X12_held hX (t42 - r48) h47) kml_X12_57 kst_X12_held kii_X12 kcd_X12_held ds_X12_held rfl ⟨Nat.le_of_ble_eq_true rfl, Nat.le_of_ble_eq_true rfl⟩ (Nat.le_of_ble_eq_true rfl) rfl dX12_day_100 (fun r50 h49 => ?_)
  refine g_iastore dX12_day_103 (fun h51 => ?_)
  refine g_iinc 2 (v := (x2 + 1)) (ls' := [(2, vI ((x2 + 1))), (0, vR x0), (1, vI x1), (3, vI x3)]) dX12_day_104 rfl rfl (Nat.le_of_ble_eq_true rfl) rfl ?_
  refine g_goto (tgt := 9) dX12_day_107 (by decide) ?_
  exact g_sub2 [1, 2, 0] rfl (hk9 x0 x1 (x2 + 1) h51)
def f_X12_day_b9 : Nat → Option Nat → Int32 → Int32 → AH → Option (Unit × AH)
  | 0 => fun _ _ _ _ => none
  | n + 1 => fun x0 x1 x2 h =>
    (iA h x0 0).bind fun t3 =>
    (if t3 ≤ x2 then
    f_X12_day_b112 FU x0 0 h
    else bd (f_X12_isHere x0 x2 h) fun r21 h20 =>
    (if r21 = 0 then
    f_X12_day_b9 n x0 x1 (x2 + 1) h20
    else bd (f_X12_of x2 0 h20) fun r23 h22 =>
    (iA h22 x0 r23).bind fun t24 =>
    bd (f_X12_of x2 2 h22) fun r26 h25 =>
    bd (f_X12_of x2 2 h25) fun r28 h27 =>
    (iA h27 x0 r28).bind fun t29 =>
    bd (f_X12_has x1 x2 h27) fun r31 h30 =>
    (if r31 = 0 then
    (iA h30 x0 3).bind fun t32 =>
    bd (f_X12_eatsBy t24 t32 h30) fun r34 h33 =>
    f_X12_day_b67 (f_X12_day_b9 n) x0 x1 x2 t24 r34 t29 r26 x0 h33
    else f_X12_day_b67 (f_X12_day_b9 n) x0 x1 x2 t24 0 t29 r26 x0 h30)))
set_option maxRecDepth 100000 in
set_option maxHeartbeats 4000000 in
theorem s_X12_day_b9 {X : GX} (hX : XOK X) {h0 : AH} : ∀ (n : Nat) (x0 : Option Nat) (x1 : Int32) (x2 : Int32) (h : AH), Gp (p_X12_day X h0) RX12 "day" cX12_day none 9 [(0, vR x0), (1, vI x1), (2, vI x2)] [] h (f_X12_day_b9 n x0 x1 x2 h) := by
  intro n
  induction n with
  | zero => intro x0 x1 x2 h; exact g_none
  | succ n ih =>
    intro x0 x1 x2 h
    rw [f_X12_day_b9]
    refine g_iload_n 2 dX12_day_9 rfl rfl ?_
    refine g_aload_n 0 dX12_day_10 rfl rfl ?_
    refine g_iconst (v := 0) dX12_day_11 (by decide) ?_
    refine g_iaload dX12_day_12 (fun t3 => ?_)
    refine g_icmpge (tgt := 110) dX12_day_13 (by decide) ?_ ?_
    · refine g_iconst (v := 0) dX12_day_110 (by decide) ?_
      refine g_istore_n (ls' := [(2, vI 0), (0, vR x0), (1, vI x1)]) dX12_day_111 rfl (Nat.le_of_ble_eq_true rfl) rfl ?_
      exact g_sub2 [1, 0] rfl (s_X12_day_b112 hX FU x0 0 h)
    · refine g_aload_n 0 dX12_day_16 rfl rfl ?_
      refine g_iload_n 2 dX12_day_17 rfl rfl ?_
      refine g_callSI (st := []) (s_X12_isHere hX x0 x2 h) kml_X12_61 kst_X12_isHere kii_X12 kcd_X12_isHere ds_X12_isHere rfl ⟨Nat.le_of_ble_eq_true rfl, Nat.le_of_ble_eq_true rfl⟩ (Nat.le_of_ble_eq_true rfl) rfl dX12_day_18 (fun r21 h20 => ?_)
      refine g_ifne (tgt := 27) dX12_day_21 (by decide) ?_ ?_
      · refine g_aload_n 0 dX12_day_27 rfl rfl ?_
        refine g_iload_n 2 dX12_day_28 rfl rfl ?_
        refine g_iconst (v := 0) dX12_day_29 (by decide) ?_
        refine g_callSI (st := [vR x0]) (s_X12_of hX x2 0 h20) kml_X12_53 kst_X12_of kii_X12 kcd_X12_of ds_X12_of rfl ⟨Nat.le_of_ble_eq_true rfl, Nat.le_of_ble_eq_true rfl⟩ (Nat.le_of_ble_eq_true rfl) rfl dX12_day_30 (fun r23 h22 => ?_)
        refine g_iaload dX12_day_33 (fun t24 => ?_)
        refine g_istore_n (ls' := [(3, vI t24), (0, vR x0), (1, vI x1), (2, vI x2)]) dX12_day_34 rfl (Nat.le_of_ble_eq_true rfl) rfl ?_
        refine g_aload_n 1 dX12_day_35 rfl rfl ?_
        refine g_iload_n 3 dX12_day_36 rfl rfl ?_
        refine g_iconst (v := 2) dX12_day_37 (by decide) ?_
        refine g_callSI (st := [vR x0]) (s_X12_of hX x2 2 h22) kml_X12_53 kst_X12_of kii_X12 kcd_X12_of ds_X12_of rfl ⟨Nat.le_of_ble_eq_true rfl, Nat.le_of_ble_eq_true rfl⟩ (Nat.le_of_ble_eq_true rfl) rfl dX12_day_38 (fun r26 h25 => ?_)
        refine g_aload_n 1 dX12_day_41 rfl rfl ?_
        refine g_iload_n 3 dX12_day_42 rfl rfl ?_
        refine g_iconst (v := 2) dX12_day_43 (by decide) ?_
        refine g_callSI (st := [vR x0, vI r26, vR x0]) (s_X12_of hX x2 2 h25) kml_X12_53 kst_X12_of kii_X12 kcd_X12_of ds_X12_of rfl ⟨Nat.le_of_ble_eq_true rfl, Nat.le_of_ble_eq_true rfl⟩ (Nat.le_of_ble_eq_true rfl) rfl dX12_day_44 (fun r28 h27 => ?_)
        refine g_iaload dX12_day_47 (fun t29 => ?_)
        refine g_iload_n 2 dX12_day_48 rfl rfl ?_
        refine g_iload_n 3 dX12_day_49 rfl rfl ?_
        refine g_callSI (st := [vI t29, vI r26, vR x0]) (s_X12_has hX x1 x2 h27) kml_X12_68 kst_X12_has kii_X12 kcd_X12_has ds_X12_has rfl ⟨Nat.le_of_ble_eq_true rfl, Nat.le_of_ble_eq_true rfl⟩ (Nat.le_of_ble_eq_true rfl) rfl dX12_day_50 (fun r31 h30 => ?_)
        refine g_ifeq (tgt := 60) dX12_day_53 (by decide) ?_ ?_
        · refine g_iload_n 0 dX12_day_60 rfl rfl ?_
          refine g_aload_n 1 dX12_day_61 rfl rfl ?_
          refine g_iconst (v := 3) dX12_day_62 (by decide) ?_
          refine g_iaload dX12_day_63 (fun t32 => ?_)
          refine g_callSI (st := [vI t29, vI r26, vR x0]) (s_X12_eatsBy hX t24 t32 h30) kml_X12_72 kst_X12_eatsBy kii_X12 kcd_X12_eatsBy ds_X12_eatsBy rfl ⟨Nat.le_of_ble_eq_true rfl, Nat.le_of_ble_eq_true rfl⟩ (Nat.le_of_ble_eq_true rfl) rfl dX12_day_64 (fun r34 h33 => ?_)
          exact g_sub2 [1, 2, 3, 0] rfl (s_X12_day_b67 hX (f_X12_day_b9 n) (fun z0 z1 z2 z3 => ih z0 z1 z2 z3) x0 x1 x2 t24 r34 t29 r26 x0 h33)
        · refine g_iconst (v := 0) dX12_day_56 (by decide) ?_
          refine g_goto (tgt := 67) dX12_day_57 (by decide) ?_
          exact g_sub2 [1, 2, 3, 0] rfl (s_X12_day_b67 hX (f_X12_day_b9 n) (fun z0 z1 z2 z3 => ih z0 z1 z2 z3) x0 x1 x2 t24 0 t29 r26 x0 h30)
      · refine g_goto (tgt := 104) dX12_day_24 (by decide) ?_
        refine g_iinc 2 (v := (x2 + 1)) (ls' := [(2, vI ((x2 + 1))), (0, vR x0), (1, vI x1)]) dX12_day_104 rfl rfl (Nat.le_of_ble_eq_true rfl) rfl ?_
        refine g_goto (tgt := 9) dX12_day_107 (by decide) ?_
        exact g_sub2 [1, 2, 0] rfl (ih x0 x1 (x2 + 1) h20)
def f_X12_day (v0 : Option Nat) (v1 : Int32) (h : AH) : Option (Unit × AH) :=
    (iA h v0 1).bind fun t1 =>
    (iS h v0 1 (t1 + 1)).bind fun h2 =>
    f_X12_day_b9 FU v0 v1 0 h2
set_option maxRecDepth 100000 in
set_option maxHeartbeats 4000000 in
theorem s_X12_day {X : GX} (hX : XOK X) (v0 : Option Nat) (v1 : Int32) (h : AH) : Snd X yX12_day cX12_day 4 none 3 63 rU [vR v0, vI v1] h (f_X12_day v0 v1 h) := by
  refine snd_of hX (by decide +kernel) (Nat.le_of_ble_eq_true rfl) ?_
  show Gp (p_X12_day X h) RX12 "day" cX12_day none 0 [(0, vR v0), (1, vI v1)] [] h _
  unfold f_X12_day
  refine g_aload_n 0 dX12_day_0 rfl rfl ?_
  refine g_iconst (v := 1) dX12_day_1 (by decide) ?_
  refine g_dup2 dX12_day_2 rfl rfl ?_
  refine g_iaload dX12_day_3 (fun t1 => ?_)
  refine g_iconst (v := 1) dX12_day_4 (by decide) ?_
  refine g_iadd dX12_day_5 ?_
  refine g_iastore dX12_day_6 (fun h2 => ?_)
  refine g_iconst (v := 0) dX12_day_7 (by decide) ?_
  refine g_istore_n (ls' := [(2, vI 0), (0, vR v0), (1, vI v1)]) dX12_day_8 rfl (Nat.le_of_ble_eq_true rfl) rfl ?_
  exact g_sub2 [1, 2, 0] rfl (s_X12_day_b9 hX FU v0 v1 0 h2)
abbrev p_X12_hasComeSo (X : GX) (h0 : AH) : PX Int32 := (X, (fun x => Sum.inl (rI x)), (4, 86, 5), h0)
def f_X12_hasComeSo_b25 : Nat → Option Nat → Int32 → Int32 → Int32 → AH → Option (Int32 × AH)
  | 0 => fun _ _ _ _ _ => none
  | n + 1 => fun x0 x1 x2 x4 h =>
    (gR h x0 [12] 16).bind fun t9 =>
    (iA h t9 x1).bind fun t10 =>
    (if t10 ≤ x4 then
    some (1, h)
    else (gR h x0 [12] 1).bind fun t11 =>
    bd (f_X12_of x2 6 h) fun r13 h12 =>
    (iA h12 t11 r13).bind fun t14 =>
    bd (cv h12 x0 12 (f_X12_isTold x0 x1 x4 t14 h12)) fun r16 h15 =>
    (if r16 = 0 then
    some (0, h15)
    else (gR h15 x0 [12] 1).bind fun t17 =>
    bd (f_X12_day t17 0 h15) fun u19 h18 =>
    f_X12_hasComeSo_b25 n x0 x1 x2 (x4 + 1) h18))
set_option maxRecDepth 100000 in
set_option maxHeartbeats 4000000 in
theorem s_X12_hasComeSo_b25 {X : GX} (hX : XOK X) {h0 : AH} : ∀ (n : Nat) (x0 : Option Nat) (x1 : Int32) (x2 : Int32) (x4 : Int32) (h : AH), Gp (p_X12_hasComeSo X h0) RX12 "hasComeSo" cX12_hasComeSo (some .boolean) 25 [(0, vR x0), (1, vI x1), (2, vI x2), (4, vI x4)] [] h (f_X12_hasComeSo_b25 n x0 x1 x2 x4 h) := by
  intro n
  induction n with
  | zero => intro x0 x1 x2 x4 h; exact g_none
  | succ n ih =>
    intro x0 x1 x2 x4 h
    rw [f_X12_hasComeSo_b25]
    refine g_iload 3 dX12_hasComeSo_25 rfl ?_
    refine g_aload_n 0 dX12_hasComeSo_27 rfl rfl ?_
    refine g_getR kfl_X12_43 fo_X12_size dX12_hasComeSo_28 (fun t9 => ?_)
    refine g_iload_n 1 dX12_hasComeSo_31 rfl rfl ?_
    refine g_iaload dX12_hasComeSo_32 (fun t10 => ?_)
    refine g_icmpge (tgt := 73) dX12_hasComeSo_33 (by decide) ?_ ?_
    · refine g_iconst (v := 1) dX12_hasComeSo_73 (by decide) ?_
      exact g_zreturn (by decide +kernel) rfl dX12_hasComeSo_74
    · refine g_aload_n 0 dX12_hasComeSo_36 rfl rfl ?_
      refine g_iload_n 1 dX12_hasComeSo_37 rfl rfl ?_
      refine g_iload 3 dX12_hasComeSo_38 rfl ?_
      refine g_aload_n 0 dX12_hasComeSo_40 rfl rfl ?_
      refine g_getR kfl_X12_13 fo_X12_m dX12_hasComeSo_41 (fun t11 => ?_)
      refine g_iload_n 2 dX12_hasComeSo_44 rfl rfl ?_
      refine g_bipush (v := 6) dX12_hasComeSo_45 (by decide) ?_
      refine g_callSI (st := [vR t11, vI x4, vI x1, vR x0]) (s_X12_of hX x2 6 h) kml_X12_53 kst_X12_of kii_X12 kcd_X12_of ds_X12_of rfl ⟨Nat.le_of_ble_eq_true rfl, Nat.le_of_ble_eq_true rfl⟩ (Nat.le_of_ble_eq_true rfl) rfl dX12_hasComeSo_47 (fun r13 h12 => ?_)
      refine g_iaload dX12_hasComeSo_50 (fun t14 => ?_)
      refine g_callVI (st := []) (ci := 12) rfl (s_X12_isTold hX x0 x1 x4 t14 h12) kml_X12_207 kim_X12_isTold kse_X12_isTold kii_X12 kcd_X12_isTold rfl ds_X12_isTold rfl ⟨Nat.le_of_ble_eq_true rfl, Nat.le_of_ble_eq_true rfl⟩ (Nat.le_of_ble_eq_true rfl) rfl dX12_hasComeSo_51 (fun r16 h15 => ?_)
      refine g_ifne (tgt := 59) dX12_hasComeSo_54 (by decide) ?_ ?_
      · refine g_aload_n 0 dX12_hasComeSo_59 rfl rfl ?_
        refine g_getR kfl_X12_13 fo_X12_m dX12_hasComeSo_60 (fun t17 => ?_)
        refine g_iconst (v := 0) dX12_hasComeSo_63 (by decide) ?_
        refine g_callSU (st := []) (s_X12_day hX t17 0 h15) kml_X12_82 kst_X12_day kii_X12 kcd_X12_day ds_X12_day rfl ⟨Nat.le_of_ble_eq_true rfl, Nat.le_of_ble_eq_true rfl⟩ (Nat.le_of_ble_eq_true rfl) rfl dX12_hasComeSo_64 (fun u19 h18 => ?_)
        refine g_iinc 3 (v := (x4 + 1)) (ls' := [(4, vI ((x4 + 1))), (0, vR x0), (1, vI x1), (2, vI x2)]) dX12_hasComeSo_67 rfl rfl (Nat.le_of_ble_eq_true rfl) rfl ?_
        refine g_goto (tgt := 25) dX12_hasComeSo_70 (by decide) ?_
        exact g_sub2 [1, 2, 3, 0] rfl (ih x0 x1 x2 (x4 + 1) h18)
      · refine g_iconst (v := 0) dX12_hasComeSo_57 (by decide) ?_
        exact g_zreturn (by decide +kernel) rfl dX12_hasComeSo_58
def f_X12_hasComeSo (v0 : Option Nat) (v1 : Int32) (v2 : Int32) (v3 : Int32) (h : AH) : Option (Int32 × AH) :=
    (gR h v0 [12] 0).bind fun t1 =>
    (gR h v0 [12] 1).bind fun t2 =>
    bd (f_X12_copies t1 t2 h) fun u4 h3 =>
    (gR h3 v0 [12] 1).bind fun t5 =>
    bd (f_X12_of v2 3 h3) fun r7 h6 =>
    (iS h6 t5 r7 v3).bind fun h8 =>
    f_X12_hasComeSo_b25 FU v0 v1 v2 0 h8
set_option maxRecDepth 100000 in
set_option maxHeartbeats 4000000 in
theorem s_X12_hasComeSo {X : GX} (hX : XOK X) (v0 : Option Nat) (v1 : Int32) (v2 : Int32) (v3 : Int32) (h : AH) : Snd X yX12_hasComeSo cX12_hasComeSo 5 (some .boolean) 4 86 rI [vR v0, vI v1, vI v2, vI v3] h (f_X12_hasComeSo v0 v1 v2 v3 h) := by
  refine snd_of hX (by decide +kernel) (Nat.le_of_ble_eq_true rfl) ?_
  show Gp (p_X12_hasComeSo X h) RX12 "hasComeSo" cX12_hasComeSo (some .boolean) 0 [(0, vR v0), (1, vI v1), (2, vI v2), (3, vI v3)] [] h _
  unfold f_X12_hasComeSo
  refine g_aload_n 0 dX12_hasComeSo_0 rfl rfl ?_
  refine g_getR kfl_X12_9 fo_X12_s dX12_hasComeSo_1 (fun t1 => ?_)
  refine g_aload_n 0 dX12_hasComeSo_4 rfl rfl ?_
  refine g_getR kfl_X12_13 fo_X12_m dX12_hasComeSo_5 (fun t2 => ?_)
  refine g_callSU (st := []) (s_X12_copies hX t1 t2 h) kml_X12_141 kst_X12_copies kii_X12 kcd_X12_copies ds_X12_copies rfl ⟨Nat.le_of_ble_eq_true rfl, Nat.le_of_ble_eq_true rfl⟩ (Nat.le_of_ble_eq_true rfl) rfl dX12_hasComeSo_8 (fun u4 h3 => ?_)
  refine g_aload_n 0 dX12_hasComeSo_11 rfl rfl ?_
  refine g_getR kfl_X12_13 fo_X12_m dX12_hasComeSo_12 (fun t5 => ?_)
  refine g_iload_n 2 dX12_hasComeSo_15 rfl rfl ?_
  refine g_iconst (v := 3) dX12_hasComeSo_16 (by decide) ?_
  refine g_callSI (st := [vR t5]) (s_X12_of hX v2 3 h3) kml_X12_53 kst_X12_of kii_X12 kcd_X12_of ds_X12_of rfl ⟨Nat.le_of_ble_eq_true rfl, Nat.le_of_ble_eq_true rfl⟩ (Nat.le_of_ble_eq_true rfl) rfl dX12_hasComeSo_17 (fun r7 h6 => ?_)
  refine g_iload_n 3 dX12_hasComeSo_20 rfl rfl ?_
  refine g_iastore dX12_hasComeSo_21 (fun h8 => ?_)
  refine g_iconst (v := 0) dX12_hasComeSo_22 (by decide) ?_
  refine g_istore (ls' := [(4, vI 0), (0, vR v0), (1, vI v1), (2, vI v2), (3, vI v3)]) dX12_hasComeSo_23 (Nat.le_of_ble_eq_true rfl) rfl ?_
  exact g_sub2 [1, 2, 3, 0] rfl (s_X12_hasComeSo_b25 hX FU v0 v1 v2 0 h8)
abbrev p_X12_cameWith (X : GX) (h0 : AH) : PX Int32 := (X, (fun x => Sum.inl (rI x)), (5, 110, 9), h0)
def f_X12_cameWith_b82 (k49 : Option Nat → Int32 → Int32 → Int32 → Int32 → Int32 → Int32 → Int32 → AH → Option (Int32 × AH)) (x0 : Option Nat) (x1 : Int32) (x2 : Int32) (x3 : Int32) (x5 : Int32) (x8 : Int32) (y0 : Int32) (h : AH) : Option (Int32 × AH) :=
    k49 x0 x1 x2 x3 (x5 + 1) y0 x8 (x8 + 1) h
set_option maxRecDepth 100000 in
set_option maxHeartbeats 4000000 in
theorem s_X12_cameWith_b82 {X : GX} (hX : XOK X) {h0 : AH} (k49 : Option Nat → Int32 → Int32 → Int32 → Int32 → Int32 → Int32 → Int32 → AH → Option (Int32 × AH)) (hk49 : ∀ (z0 : Option Nat) (z1 : Int32) (z2 : Int32) (z3 : Int32) (z4 : Int32) (z5 : Int32) (z6 : Int32) (z7 : Int32) (h : AH), Gp (p_X12_cameWith X h0) RX12 "cameWith" cX12_cameWith (some .int) 49 [(0, vR z0), (1, vI z1), (2, vI z2), (3, vI z3), (5, vI z4), (6, vI z5), (7, vI z6), (8, vI z7)] [] h (k49 z0 z1 z2 z3 z4 z5 z6 z7 h)) : ∀ (x0 : Option Nat) (x1 : Int32) (x2 : Int32) (x3 : Int32) (x5 : Int32) (x8 : Int32) (y0 : Int32) (h : AH), Gp (p_X12_cameWith X h0) RX12 "cameWith" cX12_cameWith (some .int) 82 [(0, vR x0), (1, vI x1), (2, vI x2), (3, vI x3), (5, vI x5), (8, vI x8)] [vI y0] h (f_X12_cameWith_b82 k49 x0 x1 x2 x3 x5 x8 y0 h) := by
  intro x0 x1 x2 x3 x5 x8 y0 h
  unfold f_X12_cameWith_b82
  refine g_istore (ls' := [(6, vI y0), (0, vR x0), (1, vI x1), (2, vI x2), (3, vI x3), (5, vI x5), (8, vI x8)]) dX12_cameWith_82 (Nat.le_of_ble_eq_true rfl) rfl ?_
  refine g_iload 6 dX12_cameWith_84 rfl ?_
  refine g_istore (ls' := [(7, vI x8), (6, vI y0), (0, vR x0), (1, vI x1), (2, vI x2), (3, vI x3), (5, vI x5), (8, vI x8)]) dX12_cameWith_86 (Nat.le_of_ble_eq_true rfl) rfl ?_
  refine g_iinc 6 (v := (x5 + 1)) (ls' := [(5, vI ((x5 + 1))), (7, vI x8), (6, vI y0), (0, vR x0), (1, vI x1), (2, vI x2), (3, vI x3), (8, vI x8)]) dX12_cameWith_88 rfl rfl (Nat.le_of_ble_eq_true rfl) rfl ?_
  refine g_iinc 7 (v := (x8 + 1)) (ls' := [(8, vI ((x8 + 1))), (5, vI ((x5 + 1))), (7, vI x8), (6, vI y0), (0, vR x0), (1, vI x1), (2, vI x2), (3, vI x3)]) dX12_cameWith_91 rfl rfl (Nat.le_of_ble_eq_true rfl) rfl ?_
  refine g_goto (tgt := 49) dX12_cameWith_94 (by decide) ?_
  exact g_sub2 [4, 5, 6, 7, 1, 3, 2, 0] rfl (hk49 x0 x1 x2 x3 (x5 + 1) y0 x8 (x8 + 1) h)
def f_X12_cameWith_b49 : Nat → Option Nat → Int32 → Int32 → Int32 → Int32 → Int32 → Int32 → Int32 → AH → Option (Int32 × AH)
  | 0 => fun _ _ _ _ _ _ _ _ _ => none
  | n + 1 => fun x0 x1 x2 x3 x5 x6 x7 x8 h =>
    (if 120 < x8 then
    (if x3 = 0 then
    some (x5, h)
    else (if x3 = 1 then
    some (x6, h)
    else some (x7, h)))
    else bd (cv h x0 12 (f_X12_hasComeSo x0 x1 x2 x8 h)) fun r8 h7 =>
    (if r8 = 0 then
    f_X12_cameWith_b49 n x0 x1 x2 x3 x5 x6 x7 (x8 + 1) h7
    else (if x5 = 0 then
    f_X12_cameWith_b82 (f_X12_cameWith_b49 n) x0 x1 x2 x3 x5 x8 x8 h7
    else f_X12_cameWith_b82 (f_X12_cameWith_b49 n) x0 x1 x2 x3 x5 x8 x6 h7)))
set_option maxRecDepth 100000 in
set_option maxHeartbeats 4000000 in
theorem s_X12_cameWith_b49 {X : GX} (hX : XOK X) {h0 : AH} : ∀ (n : Nat) (x0 : Option Nat) (x1 : Int32) (x2 : Int32) (x3 : Int32) (x5 : Int32) (x6 : Int32) (x7 : Int32) (x8 : Int32) (h : AH), Gp (p_X12_cameWith X h0) RX12 "cameWith" cX12_cameWith (some .int) 49 [(0, vR x0), (1, vI x1), (2, vI x2), (3, vI x3), (5, vI x5), (6, vI x6), (7, vI x7), (8, vI x8)] [] h (f_X12_cameWith_b49 n x0 x1 x2 x3 x5 x6 x7 x8 h) := by
  intro n
  induction n with
  | zero => intro x0 x1 x2 x3 x5 x6 x7 x8 h; exact g_none
  | succ n ih =>
    intro x0 x1 x2 x3 x5 x6 x7 x8 h
    rw [f_X12_cameWith_b49]
    refine g_iload 7 dX12_cameWith_49 rfl ?_
    refine g_bipush (v := 120) dX12_cameWith_51 (by decide) ?_
    refine g_icmpgt (tgt := 97) dX12_cameWith_53 (by decide) ?_ ?_
    · refine g_iload_n 3 dX12_cameWith_97 rfl rfl ?_
      refine g_ifne (tgt := 106) dX12_cameWith_98 (by decide) ?_ ?_
      · refine g_iload_n 3 dX12_cameWith_106 rfl rfl ?_
        refine g_iconst (v := 1) dX12_cameWith_107 (by decide) ?_
        refine g_icmpne (tgt := 116) dX12_cameWith_108 (by decide) ?_ ?_
        · refine g_iload 6 dX12_cameWith_116 rfl ?_
          exact g_ireturn rfl dX12_cameWith_118
        · refine g_iload 5 dX12_cameWith_111 rfl ?_
          refine g_goto (tgt := 118) dX12_cameWith_113 (by decide) ?_
          exact g_ireturn rfl dX12_cameWith_118
      · refine g_iload 4 dX12_cameWith_101 rfl ?_
        refine g_goto (tgt := 118) dX12_cameWith_103 (by decide) ?_
        exact g_ireturn rfl dX12_cameWith_118
    · refine g_aload_n 0 dX12_cameWith_56 rfl rfl ?_
      refine g_iload_n 1 dX12_cameWith_57 rfl rfl ?_
      refine g_iload_n 2 dX12_cameWith_58 rfl rfl ?_
      refine g_iload 7 dX12_cameWith_59 rfl ?_
      refine g_callVI (st := []) (ci := 12) rfl (s_X12_hasComeSo hX x0 x1 x2 x8 h) kml_X12_210 kim_X12_hasComeSo kse_X12_hasComeSo kii_X12 kcd_X12_hasComeSo rfl ds_X12_hasComeSo rfl ⟨Nat.le_of_ble_eq_true rfl, Nat.le_of_ble_eq_true rfl⟩ (Nat.le_of_ble_eq_true rfl) rfl dX12_cameWith_61 (fun r8 h7 => ?_)
      refine g_ifne (tgt := 70) dX12_cameWith_64 (by decide) ?_ ?_
      · refine g_iload 4 dX12_cameWith_70 rfl ?_
        refine g_ifne (tgt := 80) dX12_cameWith_72 (by decide) ?_ ?_
        · refine g_iload 5 dX12_cameWith_80 rfl ?_
          exact g_sub2 [0, 1, 2, 3, 4, 7] rfl (s_X12_cameWith_b82 hX (f_X12_cameWith_b49 n) (fun z0 z1 z2 z3 z4 z5 z6 z7 z8 => ih z0 z1 z2 z3 z4 z5 z6 z7 z8) x0 x1 x2 x3 x5 x8 x6 h7)
        · refine g_iload 7 dX12_cameWith_75 rfl ?_
          refine g_goto (tgt := 82) dX12_cameWith_77 (by decide) ?_
          exact g_sub2 [0, 1, 2, 3, 4, 7] rfl (s_X12_cameWith_b82 hX (f_X12_cameWith_b49 n) (fun z0 z1 z2 z3 z4 z5 z6 z7 z8 => ih z0 z1 z2 z3 z4 z5 z6 z7 z8) x0 x1 x2 x3 x5 x8 x8 h7)
      · refine g_goto (tgt := 91) dX12_cameWith_67 (by decide) ?_
        refine g_iinc 7 (v := (x8 + 1)) (ls' := [(8, vI ((x8 + 1))), (0, vR x0), (1, vI x1), (2, vI x2), (3, vI x3), (5, vI x5), (6, vI x6), (7, vI x7)]) dX12_cameWith_91 rfl rfl (Nat.le_of_ble_eq_true rfl) rfl ?_
        refine g_goto (tgt := 49) dX12_cameWith_94 (by decide) ?_
        exact g_sub2 [1, 2, 3, 4, 5, 6, 7, 0] rfl (ih x0 x1 x2 x3 x5 x6 x7 (x8 + 1) h7)
def f_X12_cameWith (v0 : Option Nat) (v1 : Int32) (v2 : Int32) (v3 : Int32) (h : AH) : Option (Int32 × AH) :=
    bd (cv h v0 12 (f_X12_isGuest v0 v2 h)) fun r2 h1 =>
    (if r2 = 0 then
    some ((-1), h1)
    else bd (f_X12_isIn v3 0 2 h1) fun r4 h3 =>
    (if r4 = 0 then
    some ((-1), h3)
    else bd (cv h3 v0 12 (f_X12_wrongRow v0 v1 (-1) h3)) fun r6 h5 =>
    (if r6 = 0 then
    f_X12_cameWith_b49 FU v0 v1 v2 v3 0 (-4) (-4) 0 h5
    else some (r6, h5))))
set_option maxRecDepth 100000 in
set_option maxHeartbeats 4000000 in
theorem s_X12_cameWith {X : GX} (hX : XOK X) (v0 : Option Nat) (v1 : Int32) (v2 : Int32) (v3 : Int32) (h : AH) : Snd X yX12_cameWith cX12_cameWith 9 (some .int) 5 110 rI [vR v0, vI v1, vI v2, vI v3] h (f_X12_cameWith v0 v1 v2 v3 h) := by
  refine snd_of hX (by decide +kernel) (Nat.le_of_ble_eq_true rfl) ?_
  show Gp (p_X12_cameWith X h) RX12 "cameWith" cX12_cameWith (some .int) 0 [(0, vR v0), (1, vI v1), (2, vI v2), (3, vI v3)] [] h _
  unfold f_X12_cameWith
  refine g_aload_n 0 dX12_cameWith_0 rfl rfl ?_
  refine g_iload_n 2 dX12_cameWith_1 rfl rfl ?_
  refine g_callVI (st := []) (ci := 12) rfl (s_X12_isGuest hX v0 v2 h) kml_X12_113 kim_X12_isGuest kse_X12_isGuest kii_X12 kcd_X12_isGuest rfl ds_X12_isGuest rfl ⟨Nat.le_of_ble_eq_true rfl, Nat.le_of_ble_eq_true rfl⟩ (Nat.le_of_ble_eq_true rfl) rfl dX12_cameWith_2 (fun r2 h1 => ?_)
  refine g_ifeq (tgt := 17) dX12_cameWith_5 (by decide) ?_ ?_
  · refine g_iconst (v := (-1)) dX12_cameWith_17 (by decide) ?_
    exact g_ireturn rfl dX12_cameWith_18
  · refine g_iload_n 3 dX12_cameWith_8 rfl rfl ?_
    refine g_iconst (v := 0) dX12_cameWith_9 (by decide) ?_
    refine g_iconst (v := 2) dX12_cameWith_10 (by decide) ?_
    refine g_callSI (st := []) (s_X12_isIn hX v3 0 2 h1) kml_X12_49 kst_X12_isIn kii_X12 kcd_X12_isIn ds_X12_isIn rfl ⟨Nat.le_of_ble_eq_true rfl, Nat.le_of_ble_eq_true rfl⟩ (Nat.le_of_ble_eq_true rfl) rfl dX12_cameWith_11 (fun r4 h3 => ?_)
    refine g_ifne (tgt := 19) dX12_cameWith_14 (by decide) ?_ ?_
    · refine g_aload_n 0 dX12_cameWith_19 rfl rfl ?_
      refine g_iload_n 1 dX12_cameWith_20 rfl rfl ?_
      refine g_iconst (v := (-1)) dX12_cameWith_21 (by decide) ?_
      refine g_callVI (st := []) (ci := 12) rfl (s_X12_wrongRow hX v0 v1 (-1) h3) kml_X12_134 kim_X12_wrongRow kse_X12_wrongRow kii_X12 kcd_X12_wrongRow rfl ds_X12_wrongRow rfl ⟨Nat.le_of_ble_eq_true rfl, Nat.le_of_ble_eq_true rfl⟩ (Nat.le_of_ble_eq_true rfl) rfl dX12_cameWith_22 (fun r6 h5 => ?_)
      refine g_istore (ls' := [(4, vI r6), (0, vR v0), (1, vI v1), (2, vI v2), (3, vI v3)]) dX12_cameWith_25 (Nat.le_of_ble_eq_true rfl) rfl ?_
      refine g_iload 0 dX12_cameWith_27 rfl ?_
      refine g_ifeq (tgt := 35) dX12_cameWith_29 (by decide) ?_ ?_
      · refine g_iconst (v := 0) dX12_cameWith_35 (by decide) ?_
        refine g_istore (ls' := [(5, vI 0), (4, vI r6), (0, vR v0), (1, vI v1), (2, vI v2), (3, vI v3)]) dX12_cameWith_36 (Nat.le_of_ble_eq_true rfl) rfl ?_
        refine g_bipush (v := (-4)) dX12_cameWith_38 (by decide) ?_
        refine g_istore (ls' := [(6, vI ((-4))), (5, vI 0), (4, vI r6), (0, vR v0), (1, vI v1), (2, vI v2), (3, vI v3)]) dX12_cameWith_40 (Nat.le_of_ble_eq_true rfl) rfl ?_
        refine g_bipush (v := (-4)) dX12_cameWith_42 (by decide) ?_
        refine g_istore (ls' := [(7, vI ((-4))), (6, vI ((-4))), (5, vI 0), (4, vI r6), (0, vR v0), (1, vI v1), (2, vI v2), (3, vI v3)]) dX12_cameWith_44 (Nat.le_of_ble_eq_true rfl) rfl ?_
        refine g_iconst (v := 0) dX12_cameWith_46 (by decide) ?_
        refine g_istore (ls' := [(8, vI 0), (7, vI ((-4))), (6, vI ((-4))), (5, vI 0), (4, vI r6), (0, vR v0), (1, vI v1), (2, vI v2), (3, vI v3)]) dX12_cameWith_47 (Nat.le_of_ble_eq_true rfl) rfl ?_
        exact g_sub2 [5, 6, 7, 8, 3, 2, 1, 0] rfl (s_X12_cameWith_b49 hX FU v0 v1 v2 v3 0 (-4) (-4) 0 h5)
      · refine g_iload 0 dX12_cameWith_32 rfl ?_
        exact g_ireturn rfl dX12_cameWith_34
    · refine g_iconst (v := (-1)) dX12_cameWith_17 (by decide) ?_
      exact g_ireturn rfl dX12_cameWith_18
abbrev p_X12_canLend (X : GX) (h0 : AH) : PX Int32 := (X, (fun x => Sum.inl (rI x)), (2, 42, 4), h0)
def f_X12_canLend (v0 : Option Nat) (v1 : Int32) (v2 : Int32) (v3 : Int32) (h : AH) : Option (Int32 × AH) :=
    bd (f_X12_isHere v0 v1 h) fun r2 h1 =>
    (if r2 = 0 then
    some (0, h1)
    else bd (f_X12_isHere v0 v2 h1) fun r4 h3 =>
    (if r4 = 0 then
    some (0, h3)
    else bd (f_X12_of v1 2 h3) fun r6 h5 =>
    (iA h5 v0 r6).bind fun t7 =>
    (if t7 < v3 then
    some (0, h5)
    else bd (f_X12_of v2 2 h5) fun r9 h8 =>
    (iA h8 v0 r9).bind fun t10 =>
    (if 99 < (t10 + v3) then
    some (0, h8)
    else some (1, h8)))))
set_option maxRecDepth 100000 in
set_option maxHeartbeats 4000000 in
theorem s_X12_canLend {X : GX} (hX : XOK X) (v0 : Option Nat) (v1 : Int32) (v2 : Int32) (v3 : Int32) (h : AH) : Snd X yX12_canLend cX12_canLend 4 (some .boolean) 2 42 rI [vR v0, vI v1, vI v2, vI v3] h (f_X12_canLend v0 v1 v2 v3 h) := by
  refine snd_of hX (by decide +kernel) (Nat.le_of_ble_eq_true rfl) ?_
  show Gp (p_X12_canLend X h) RX12 "canLend" cX12_canLend (some .boolean) 0 [(0, vR v0), (1, vI v1), (2, vI v2), (3, vI v3)] [] h _
  unfold f_X12_canLend
  refine g_aload_n 0 dX12_canLend_0 rfl rfl ?_
  refine g_iload_n 1 dX12_canLend_1 rfl rfl ?_
  refine g_callSI (st := []) (s_X12_isHere hX v0 v1 h) kml_X12_61 kst_X12_isHere kii_X12 kcd_X12_isHere ds_X12_isHere rfl ⟨Nat.le_of_ble_eq_true rfl, Nat.le_of_ble_eq_true rfl⟩ (Nat.le_of_ble_eq_true rfl) rfl dX12_canLend_2 (fun r2 h1 => ?_)
  refine g_ifeq (tgt := 45) dX12_canLend_5 (by decide) ?_ ?_
  · refine g_iconst (v := 0) dX12_canLend_45 (by decide) ?_
    exact g_zreturn (by decide +kernel) rfl dX12_canLend_46
  · refine g_aload_n 0 dX12_canLend_8 rfl rfl ?_
    refine g_iload_n 2 dX12_canLend_9 rfl rfl ?_
    refine g_callSI (st := []) (s_X12_isHere hX v0 v2 h1) kml_X12_61 kst_X12_isHere kii_X12 kcd_X12_isHere ds_X12_isHere rfl ⟨Nat.le_of_ble_eq_true rfl, Nat.le_of_ble_eq_true rfl⟩ (Nat.le_of_ble_eq_true rfl) rfl dX12_canLend_10 (fun r4 h3 => ?_)
    refine g_ifeq (tgt := 45) dX12_canLend_13 (by decide) ?_ ?_
    · refine g_iconst (v := 0) dX12_canLend_45 (by decide) ?_
      exact g_zreturn (by decide +kernel) rfl dX12_canLend_46
    · refine g_aload_n 0 dX12_canLend_16 rfl rfl ?_
      refine g_iload_n 1 dX12_canLend_17 rfl rfl ?_
      refine g_iconst (v := 2) dX12_canLend_18 (by decide) ?_
      refine g_callSI (st := [vR v0]) (s_X12_of hX v1 2 h3) kml_X12_53 kst_X12_of kii_X12 kcd_X12_of ds_X12_of rfl ⟨Nat.le_of_ble_eq_true rfl, Nat.le_of_ble_eq_true rfl⟩ (Nat.le_of_ble_eq_true rfl) rfl dX12_canLend_19 (fun r6 h5 => ?_)
      refine g_iaload dX12_canLend_22 (fun t7 => ?_)
      refine g_iload_n 3 dX12_canLend_23 rfl rfl ?_
      refine g_icmplt (tgt := 45) dX12_canLend_24 (by decide) ?_ ?_
      · refine g_iconst (v := 0) dX12_canLend_45 (by decide) ?_
        exact g_zreturn (by decide +kernel) rfl dX12_canLend_46
      · refine g_aload_n 0 dX12_canLend_27 rfl rfl ?_
        refine g_iload_n 2 dX12_canLend_28 rfl rfl ?_
        refine g_iconst (v := 2) dX12_canLend_29 (by decide) ?_
        refine g_callSI (st := [vR v0]) (s_X12_of hX v2 2 h5) kml_X12_53 kst_X12_of kii_X12 kcd_X12_of ds_X12_of rfl ⟨Nat.le_of_ble_eq_true rfl, Nat.le_of_ble_eq_true rfl⟩ (Nat.le_of_ble_eq_true rfl) rfl dX12_canLend_30 (fun r9 h8 => ?_)
        refine g_iaload dX12_canLend_33 (fun t10 => ?_)
        refine g_iload_n 3 dX12_canLend_34 rfl rfl ?_
        refine g_iadd dX12_canLend_35 ?_
        refine g_bipush (v := 99) dX12_canLend_36 (by decide) ?_
        refine g_icmpgt (tgt := 45) dX12_canLend_38 (by decide) ?_ ?_
        · refine g_iconst (v := 0) dX12_canLend_45 (by decide) ?_
          exact g_zreturn (by decide +kernel) rfl dX12_canLend_46
        · refine g_iconst (v := 1) dX12_canLend_41 (by decide) ?_
          refine g_goto (tgt := 46) dX12_canLend_42 (by decide) ?_
          exact g_zreturn (by decide +kernel) rfl dX12_canLend_46
abbrev p_X12_canTell (X : GX) (h0 : AH) : PX Int32 := (X, (fun x => Sum.inl (rI x)), (2, 42, 2), h0)
def f_X12_canTell (v0 : Option Nat) (v1 : Int32) (h : AH) : Option (Int32 × AH) :=
    bd (f_X12_isHere v0 v1 h) fun r2 h1 =>
    (if r2 = 0 then
    some (0, h1)
    else bd (f_X12_of v1 4 h1) fun r4 h3 =>
    (iA h3 v0 r4).bind fun t5 =>
    (if t5 ≤ 0 then
    some (0, h3)
    else some (1, h3)))
set_option maxRecDepth 100000 in
set_option maxHeartbeats 4000000 in
theorem s_X12_canTell {X : GX} (hX : XOK X) (v0 : Option Nat) (v1 : Int32) (h : AH) : Snd X yX12_canTell cX12_canTell 2 (some .boolean) 2 42 rI [vR v0, vI v1] h (f_X12_canTell v0 v1 h) := by
  refine snd_of hX (by decide +kernel) (Nat.le_of_ble_eq_true rfl) ?_
  show Gp (p_X12_canTell X h) RX12 "canTell" cX12_canTell (some .boolean) 0 [(0, vR v0), (1, vI v1)] [] h _
  unfold f_X12_canTell
  refine g_aload_n 0 dX12_canTell_0 rfl rfl ?_
  refine g_iload_n 1 dX12_canTell_1 rfl rfl ?_
  refine g_callSI (st := []) (s_X12_isHere hX v0 v1 h) kml_X12_61 kst_X12_isHere kii_X12 kcd_X12_isHere ds_X12_isHere rfl ⟨Nat.le_of_ble_eq_true rfl, Nat.le_of_ble_eq_true rfl⟩ (Nat.le_of_ble_eq_true rfl) rfl dX12_canTell_2 (fun r2 h1 => ?_)
  refine g_ifeq (tgt := 22) dX12_canTell_5 (by decide) ?_ ?_
  · refine g_iconst (v := 0) dX12_canTell_22 (by decide) ?_
    exact g_zreturn (by decide +kernel) rfl dX12_canTell_23
  · refine g_aload_n 0 dX12_canTell_8 rfl rfl ?_
    refine g_iload_n 1 dX12_canTell_9 rfl rfl ?_
    refine g_iconst (v := 4) dX12_canTell_10 (by decide) ?_
    refine g_callSI (st := [vR v0]) (s_X12_of hX v1 4 h1) kml_X12_53 kst_X12_of kii_X12 kcd_X12_of ds_X12_of rfl ⟨Nat.le_of_ble_eq_true rfl, Nat.le_of_ble_eq_true rfl⟩ (Nat.le_of_ble_eq_true rfl) rfl dX12_canTell_11 (fun r4 h3 => ?_)
    refine g_iaload dX12_canTell_14 (fun t5 => ?_)
    refine g_ifle (tgt := 22) dX12_canTell_15 (by decide) ?_ ?_
    · refine g_iconst (v := 0) dX12_canTell_22 (by decide) ?_
      exact g_zreturn (by decide +kernel) rfl dX12_canTell_23
    · refine g_iconst (v := 1) dX12_canTell_18 (by decide) ?_
      refine g_goto (tgt := 23) dX12_canTell_19 (by decide) ?_
      exact g_zreturn (by decide +kernel) rfl dX12_canTell_23
abbrev p_X12_wrongKept (X : GX) (h0 : AH) : PX Int32 := (X, (fun x => Sum.inl (rI x)), (2, 42, 2), h0)
def f_X12_wrongKept (v0 : Option Nat) (v1 : Int32) (h : AH) : Option (Int32 × AH) :=
    bd (f_X12_isShelf v1 h) fun r2 h1 =>
    (if r2 = 0 then
    some ((-1), h1)
    else (gR h1 v0 [12] 12).bind fun t3 =>
    (iA h1 t3 v1).bind fun t4 =>
    (if t4 = 0 then
    some ((-11), h1)
    else (gR h1 v0 [12] 12).bind fun t5 =>
    (iA h1 t5 v1).bind fun t6 =>
    (if t6 = 2 then
    some ((-12), h1)
    else some (0, h1))))
set_option maxRecDepth 100000 in
set_option maxHeartbeats 4000000 in
theorem s_X12_wrongKept {X : GX} (hX : XOK X) (v0 : Option Nat) (v1 : Int32) (h : AH) : Snd X yX12_wrongKept cX12_wrongKept 2 (some .int) 2 42 rI [vR v0, vI v1] h (f_X12_wrongKept v0 v1 h) := by
  refine snd_of hX (by decide +kernel) (Nat.le_of_ble_eq_true rfl) ?_
  show Gp (p_X12_wrongKept X h) RX12 "wrongKept" cX12_wrongKept (some .int) 0 [(0, vR v0), (1, vI v1)] [] h _
  unfold f_X12_wrongKept
  refine g_iload_n 1 dX12_wrongKept_0 rfl rfl ?_
  refine g_callSI (st := []) (s_X12_isShelf hX v1 h) kml_X12_246 kst_X12_isShelf kii_X12 kcd_X12_isShelf ds_X12_isShelf rfl ⟨Nat.le_of_ble_eq_true rfl, Nat.le_of_ble_eq_true rfl⟩ (Nat.le_of_ble_eq_true rfl) rfl dX12_wrongKept_1 (fun r2 h1 => ?_)
  refine g_ifne (tgt := 11) dX12_wrongKept_4 (by decide) ?_ ?_
  · refine g_aload_n 0 dX12_wrongKept_11 rfl rfl ?_
    refine g_getR kfl_X12_31 fo_X12_kept dX12_wrongKept_12 (fun t3 => ?_)
    refine g_iload_n 1 dX12_wrongKept_15 rfl rfl ?_
    refine g_iaload dX12_wrongKept_16 (fun t4 => ?_)
    refine g_ifne (tgt := 25) dX12_wrongKept_17 (by decide) ?_ ?_
    · refine g_aload_n 0 dX12_wrongKept_25 rfl rfl ?_
      refine g_getR kfl_X12_31 fo_X12_kept dX12_wrongKept_26 (fun t5 => ?_)
      refine g_iload_n 1 dX12_wrongKept_29 rfl rfl ?_
      refine g_iaload dX12_wrongKept_30 (fun t6 => ?_)
      refine g_iconst (v := 2) dX12_wrongKept_31 (by decide) ?_
      refine g_icmpne (tgt := 40) dX12_wrongKept_32 (by decide) ?_ ?_
      · refine g_iconst (v := 0) dX12_wrongKept_40 (by decide) ?_
        exact g_ireturn rfl dX12_wrongKept_41
      · refine g_bipush (v := (-12)) dX12_wrongKept_35 (by decide) ?_
        refine g_goto (tgt := 41) dX12_wrongKept_37 (by decide) ?_
        exact g_ireturn rfl dX12_wrongKept_41
    · refine g_bipush (v := (-11)) dX12_wrongKept_20 (by decide) ?_
      refine g_goto (tgt := 41) dX12_wrongKept_22 (by decide) ?_
      exact g_ireturn rfl dX12_wrongKept_41
  · refine g_iconst (v := (-1)) dX12_wrongKept_7 (by decide) ?_
    refine g_goto (tgt := 41) dX12_wrongKept_8 (by decide) ?_
    exact g_ireturn rfl dX12_wrongKept_41
abbrev p_X12_comes (X : GX) (h0 : AH) : PX Int32 := (X, (fun x => Sum.inl (rI x)), (3, 63, 4), h0)
def f_X12_comes (v0 : Option Nat) (v1 : Int32) (v2 : Int32) (h : AH) : Option (Int32 × AH) :=
    bd (f_X12_isIn v2 0 99 h) fun r2 h1 =>
    (if r2 = 0 then
    some ((-1), h1)
    else bd (cv h1 v0 12 (f_X12_wrongKept v0 v1 h1)) fun r4 h3 =>
    (if r4 = 0 then
    (gR h3 v0 [12] 0).bind fun t5 =>
    (iA h3 t5 0).bind fun t6 =>
    (if t6 = 7 then
    some ((-2), h3)
    else (gR h3 v0 [12] 13).bind fun t7 =>
    (iA h3 t7 v1).bind fun t8 =>
    (gR h3 v0 [12] 14).bind fun t9 =>
    (iA h3 t9 v1).bind fun t10 =>
    bd (cv h3 v0 12 (f_X12_adds v0 t8 t10 v2 h3)) fun u12 h11 =>
    (gR h11 v0 [12] 0).bind fun t13 =>
    (iA h11 t13 0).bind fun t14 =>
    some ((t14 - 1), h11))
    else some (r4, h3)))
set_option maxRecDepth 100000 in
set_option maxHeartbeats 4000000 in
theorem s_X12_comes {X : GX} (hX : XOK X) (v0 : Option Nat) (v1 : Int32) (v2 : Int32) (h : AH) : Snd X yX12_comes cX12_comes 4 (some .int) 3 63 rI [vR v0, vI v1, vI v2] h (f_X12_comes v0 v1 v2 h) := by
  refine snd_of hX (by decide +kernel) (Nat.le_of_ble_eq_true rfl) ?_
  show Gp (p_X12_comes X h) RX12 "comes" cX12_comes (some .int) 0 [(0, vR v0), (1, vI v1), (2, vI v2)] [] h _
  unfold f_X12_comes
  refine g_iload_n 2 dX12_comes_0 rfl rfl ?_
  refine g_iconst (v := 0) dX12_comes_1 (by decide) ?_
  refine g_bipush (v := 99) dX12_comes_2 (by decide) ?_
  refine g_callSI (st := []) (s_X12_isIn hX v2 0 99 h) kml_X12_49 kst_X12_isIn kii_X12 kcd_X12_isIn ds_X12_isIn rfl ⟨Nat.le_of_ble_eq_true rfl, Nat.le_of_ble_eq_true rfl⟩ (Nat.le_of_ble_eq_true rfl) rfl dX12_comes_4 (fun r2 h1 => ?_)
  refine g_ifne (tgt := 12) dX12_comes_7 (by decide) ?_ ?_
  · refine g_aload_n 0 dX12_comes_12 rfl rfl ?_
    refine g_iload_n 1 dX12_comes_13 rfl rfl ?_
    refine g_callVI (st := []) (ci := 12) rfl (s_X12_wrongKept hX v0 v1 h1) kml_X12_152 kim_X12_wrongKept kse_X12_wrongKept kii_X12 kcd_X12_wrongKept rfl ds_X12_wrongKept rfl ⟨Nat.le_of_ble_eq_true rfl, Nat.le_of_ble_eq_true rfl⟩ (Nat.le_of_ble_eq_true rfl) rfl dX12_comes_14 (fun r4 h3 => ?_)
    refine g_istore_n (ls' := [(3, vI r4), (0, vR v0), (1, vI v1), (2, vI v2)]) dX12_comes_17 rfl (Nat.le_of_ble_eq_true rfl) rfl ?_
    refine g_iload_n 0 dX12_comes_18 rfl rfl ?_
    refine g_ifeq (tgt := 24) dX12_comes_19 (by decide) ?_ ?_
    · refine g_aload_n 1 dX12_comes_24 rfl rfl ?_
      refine g_getR kfl_X12_9 fo_X12_s dX12_comes_25 (fun t5 => ?_)
      refine g_iconst (v := 0) dX12_comes_28 (by decide) ?_
      refine g_iaload dX12_comes_29 (fun t6 => ?_)
      refine g_bipush (v := 7) dX12_comes_30 (by decide) ?_
      refine g_icmpne (tgt := 38) dX12_comes_32 (by decide) ?_ ?_
      · refine g_aload_n 1 dX12_comes_38 rfl rfl ?_
        refine g_aload_n 1 dX12_comes_39 rfl rfl ?_
        refine g_getR kfl_X12_34 fo_X12_keptKind dX12_comes_40 (fun t7 => ?_)
        refine g_iload_n 2 dX12_comes_43 rfl rfl ?_
        refine g_iaload dX12_comes_44 (fun t8 => ?_)
        refine g_aload_n 1 dX12_comes_45 rfl rfl ?_
        refine g_getR kfl_X12_37 fo_X12_keptFigure dX12_comes_46 (fun t9 => ?_)
        refine g_iload_n 2 dX12_comes_49 rfl rfl ?_
        refine g_iaload dX12_comes_50 (fun t10 => ?_)
        refine g_iload_n 3 dX12_comes_51 rfl rfl ?_
        refine g_callVU (st := []) (ci := 12) rfl (s_X12_adds hX v0 t8 t10 v2 h3) kml_X12_109 kim_X12_adds kse_X12_adds kii_X12 kcd_X12_adds rfl ds_X12_adds rfl ⟨Nat.le_of_ble_eq_true rfl, Nat.le_of_ble_eq_true rfl⟩ (Nat.le_of_ble_eq_true rfl) rfl dX12_comes_52 (fun u12 h11 => ?_)
        refine g_aload_n 1 dX12_comes_55 rfl rfl ?_
        refine g_getR kfl_X12_9 fo_X12_s dX12_comes_56 (fun t13 => ?_)
        refine g_iconst (v := 0) dX12_comes_59 (by decide) ?_
        refine g_iaload dX12_comes_60 (fun t14 => ?_)
        refine g_iconst (v := 1) dX12_comes_61 (by decide) ?_
        refine g_isub dX12_comes_62 ?_
        exact g_ireturn rfl dX12_comes_63
      · refine g_bipush (v := (-2)) dX12_comes_35 (by decide) ?_
        exact g_ireturn rfl dX12_comes_37
    · refine g_iload_n 0 dX12_comes_22 rfl rfl ?_
      exact g_ireturn rfl dX12_comes_23
  · refine g_iconst (v := (-1)) dX12_comes_10 (by decide) ?_
    exact g_ireturn rfl dX12_comes_11
abbrev p_X12_copy (X : GX) (h0 : AH) : PX Int32 := (X, (fun x => Sum.inl (rI x)), (2, 42, 8), h0)
def f_X12_copy_b147 (k122 : Option Nat → Int32 → Int32 → Int32 → Int32 → Int32 → Int32 → AH → Option (Int32 × AH)) (x0 : Option Nat) (x1 : Int32) (x2 : Int32) (x3 : Int32) (x4 : Int32) (x5 : Int32) (x6 : Int32) (y0 : Int32) (h : AH) : Option (Int32 × AH) :=
    (gR h x0 [12] 17).bind fun t21 =>
    (gR h x0 [12] 17).bind fun t22 =>
    (iA h t22 (((100 * x1) + x2) + y0)).bind fun t23 =>
    (iS h t21 (((100 * x3) + x4) + y0) t23).bind fun h24 =>
    k122 x0 x1 x2 x3 x4 x5 (x6 + 1) h24
set_option maxRecDepth 100000 in
set_option maxHeartbeats 4000000 in
theorem s_X12_copy_b147 {X : GX} (hX : XOK X) {h0 : AH} (k122 : Option Nat → Int32 → Int32 → Int32 → Int32 → Int32 → Int32 → AH → Option (Int32 × AH)) (hk122 : ∀ (z0 : Option Nat) (z1 : Int32) (z2 : Int32) (z3 : Int32) (z4 : Int32) (z5 : Int32) (z6 : Int32) (h : AH), Gp (p_X12_copy X h0) RX12 "copy" cX12_copy (some .int) 122 [(0, vR z0), (1, vI z1), (2, vI z2), (3, vI z3), (4, vI z4), (5, vI z5), (6, vI z6)] [] h (k122 z0 z1 z2 z3 z4 z5 z6 h)) : ∀ (x0 : Option Nat) (x1 : Int32) (x2 : Int32) (x3 : Int32) (x4 : Int32) (x5 : Int32) (x6 : Int32) (y0 : Int32) (h : AH), Gp (p_X12_copy X h0) RX12 "copy" cX12_copy (some .int) 147 [(0, vR x0), (1, vI x1), (2, vI x2), (3, vI x3), (4, vI x4), (5, vI x5), (6, vI x6)] [vI y0] h (f_X12_copy_b147 k122 x0 x1 x2 x3 x4 x5 x6 y0 h) := by
  intro x0 x1 x2 x3 x4 x5 x6 y0 h
  unfold f_X12_copy_b147
  refine g_istore (ls' := [(7, vI y0), (0, vR x0), (1, vI x1), (2, vI x2), (3, vI x3), (4, vI x4), (5, vI x5), (6, vI x6)]) dX12_copy_147 (Nat.le_of_ble_eq_true rfl) rfl ?_
  refine g_aload_n 1 dX12_copy_149 rfl rfl ?_
  refine g_getR kfl_X12_46 fo_X12_element dX12_copy_150 (fun t21 => ?_)
  refine g_bipush (v := 100) dX12_copy_153 (by decide) ?_
  refine g_iload_n 4 dX12_copy_155 rfl rfl ?_
  refine g_imul dX12_copy_156 ?_
  refine g_iload 5 dX12_copy_157 rfl ?_
  refine g_iadd dX12_copy_159 ?_
  refine g_iload 0 dX12_copy_160 rfl ?_
  refine g_iadd dX12_copy_162 ?_
  refine g_aload_n 1 dX12_copy_163 rfl rfl ?_
  refine g_getR kfl_X12_46 fo_X12_element dX12_copy_164 (fun t22 => ?_)
  refine g_bipush (v := 100) dX12_copy_167 (by decide) ?_
  refine g_iload_n 2 dX12_copy_169 rfl rfl ?_
  refine g_imul dX12_copy_170 ?_
  refine g_iload_n 3 dX12_copy_171 rfl rfl ?_
  refine g_iadd dX12_copy_172 ?_
  refine g_iload 0 dX12_copy_173 rfl ?_
  refine g_iadd dX12_copy_175 ?_
  refine g_iaload dX12_copy_176 (fun t23 => ?_)
  refine g_iastore dX12_copy_177 (fun h24 => ?_)
  refine g_iinc 7 (v := (x6 + 1)) (ls' := [(6, vI ((x6 + 1))), (7, vI y0), (0, vR x0), (1, vI x1), (2, vI x2), (3, vI x3), (4, vI x4), (5, vI x5)]) dX12_copy_178 rfl rfl (Nat.le_of_ble_eq_true rfl) rfl ?_
  refine g_goto (tgt := 122) dX12_copy_181 (by decide) ?_
  exact g_sub2 [2, 3, 4, 5, 6, 7, 0] rfl (hk122 x0 x1 x2 x3 x4 x5 (x6 + 1) h24)
def f_X12_copy_b122 : Nat → Option Nat → Int32 → Int32 → Int32 → Int32 → Int32 → Int32 → AH → Option (Int32 × AH)
  | 0 => fun _ _ _ _ _ _ _ _ => none
  | n + 1 => fun x0 x1 x2 x3 x4 x5 x6 h =>
    (if x5 ≤ x6 then
    some (x5, h)
    else (if x2 ≤ x4 then
    f_X12_copy_b147 (f_X12_copy_b122 n) x0 x1 x2 x3 x4 x5 x6 ((x5 - 1) - x6) h
    else f_X12_copy_b147 (f_X12_copy_b122 n) x0 x1 x2 x3 x4 x5 x6 x6 h))
set_option maxRecDepth 100000 in
set_option maxHeartbeats 4000000 in
theorem s_X12_copy_b122 {X : GX} (hX : XOK X) {h0 : AH} : ∀ (n : Nat) (x0 : Option Nat) (x1 : Int32) (x2 : Int32) (x3 : Int32) (x4 : Int32) (x5 : Int32) (x6 : Int32) (h : AH), Gp (p_X12_copy X h0) RX12 "copy" cX12_copy (some .int) 122 [(0, vR x0), (1, vI x1), (2, vI x2), (3, vI x3), (4, vI x4), (5, vI x5), (6, vI x6)] [] h (f_X12_copy_b122 n x0 x1 x2 x3 x4 x5 x6 h) := by
  intro n
  induction n with
  | zero => intro x0 x1 x2 x3 x4 x5 x6 h; exact g_none
  | succ n ih =>
    intro x0 x1 x2 x3 x4 x5 x6 h
    rw [f_X12_copy_b122]
    refine g_iload 6 dX12_copy_122 rfl ?_
    refine g_iload 5 dX12_copy_124 rfl ?_
    refine g_icmpge (tgt := 184) dX12_copy_126 (by decide) ?_ ?_
    · refine g_iload 5 dX12_copy_184 rfl ?_
      exact g_ireturn rfl dX12_copy_186
    · refine g_iload_n 2 dX12_copy_129 rfl rfl ?_
      refine g_iload 4 dX12_copy_130 rfl ?_
      refine g_icmple (tgt := 140) dX12_copy_132 (by decide) ?_ ?_
      · refine g_iload 5 dX12_copy_140 rfl ?_
        refine g_iconst (v := 1) dX12_copy_142 (by decide) ?_
        refine g_isub dX12_copy_143 ?_
        refine g_iload 6 dX12_copy_144 rfl ?_
        refine g_isub dX12_copy_146 ?_
        exact g_sub2 [0, 1, 2, 3, 4, 5, 6] rfl (s_X12_copy_b147 hX (f_X12_copy_b122 n) (fun z0 z1 z2 z3 z4 z5 z6 z7 => ih z0 z1 z2 z3 z4 z5 z6 z7) x0 x1 x2 x3 x4 x5 x6 ((x5 - 1) - x6) h)
      · refine g_iload 6 dX12_copy_135 rfl ?_
        refine g_goto (tgt := 147) dX12_copy_137 (by decide) ?_
        exact g_sub2 [0, 1, 2, 3, 4, 5, 6] rfl (s_X12_copy_b147 hX (f_X12_copy_b122 n) (fun z0 z1 z2 z3 z4 z5 z6 z7 => ih z0 z1 z2 z3 z4 z5 z6 z7) x0 x1 x2 x3 x4 x5 x6 x6 h)
def f_X12_copy (v0 : Option Nat) (v1 : Int32) (v2 : Int32) (v3 : Int32) (v4 : Int32) (v5 : Int32) (h : AH) : Option (Int32 × AH) :=
    bd (f_X12_isShelf v1 h) fun r2 h1 =>
    (if r2 = 0 then
    some ((-1), h1)
    else bd (f_X12_isShelf v3 h1) fun r4 h3 =>
    (if r4 = 0 then
    some ((-1), h3)
    else (gR h3 v0 [12] 12).bind fun t5 =>
    (iA h3 t5 v1).bind fun t6 =>
    (if t6 = 0 then
    some ((-11), h3)
    else (gR h3 v0 [12] 12).bind fun t7 =>
    (iA h3 t7 v3).bind fun t8 =>
    (if t8 = 0 then
    some ((-11), h3)
    else (gR h3 v0 [12] 12).bind fun t9 =>
    (iA h3 t9 v1).bind fun t10 =>
    (if t10 = 2 then
    (gR h3 v0 [12] 12).bind fun t11 =>
    (iA h3 t11 v3).bind fun t12 =>
    (if t12 = 2 then
    (gR h3 v0 [12] 15).bind fun t13 =>
    (iA h3 t13 v1).bind fun t14 =>
    (gR h3 v0 [12] 15).bind fun t15 =>
    (iA h3 t15 v3).bind fun t16 =>
    (if t14 = t16 then
    (if v5 < 0 then
    some ((-13), h3)
    else (if v2 < 0 then
    some ((-13), h3)
    else (if v4 < 0 then
    some ((-13), h3)
    else (gR h3 v0 [12] 16).bind fun t17 =>
    (iA h3 t17 v1).bind fun t18 =>
    (if (t18 - v2) < v5 then
    some ((-13), h3)
    else (gR h3 v0 [12] 16).bind fun t19 =>
    (iA h3 t19 v3).bind fun t20 =>
    (if v5 ≤ (t20 - v4) then
    f_X12_copy_b122 FU v0 v1 v2 v3 v4 v5 0 h3
    else some ((-13), h3))))))
    else some ((-12), h3))
    else some ((-12), h3))
    else some ((-12), h3))))))
set_option maxRecDepth 100000 in
set_option maxHeartbeats 4000000 in
theorem s_X12_copy {X : GX} (hX : XOK X) (v0 : Option Nat) (v1 : Int32) (v2 : Int32) (v3 : Int32) (v4 : Int32) (v5 : Int32) (h : AH) : Snd X yX12_copy cX12_copy 8 (some .int) 2 42 rI [vR v0, vI v1, vI v2, vI v3, vI v4, vI v5] h (f_X12_copy v0 v1 v2 v3 v4 v5 h) := by
  refine snd_of hX (by decide +kernel) (Nat.le_of_ble_eq_true rfl) ?_
  show Gp (p_X12_copy X h) RX12 "copy" cX12_copy (some .int) 0 [(0, vR v0), (1, vI v1), (2, vI v2), (3, vI v3), (4, vI v4), (5, vI v5)] [] h _
  unfold f_X12_copy
  refine g_iload_n 1 dX12_copy_0 rfl rfl ?_
  refine g_callSI (st := []) (s_X12_isShelf hX v1 h) kml_X12_246 kst_X12_isShelf kii_X12 kcd_X12_isShelf ds_X12_isShelf rfl ⟨Nat.le_of_ble_eq_true rfl, Nat.le_of_ble_eq_true rfl⟩ (Nat.le_of_ble_eq_true rfl) rfl dX12_copy_1 (fun r2 h1 => ?_)
  refine g_ifeq (tgt := 14) dX12_copy_4 (by decide) ?_ ?_
  · refine g_iconst (v := (-1)) dX12_copy_14 (by decide) ?_
    exact g_ireturn rfl dX12_copy_15
  · refine g_iload_n 3 dX12_copy_7 rfl rfl ?_
    refine g_callSI (st := []) (s_X12_isShelf hX v3 h1) kml_X12_246 kst_X12_isShelf kii_X12 kcd_X12_isShelf ds_X12_isShelf rfl ⟨Nat.le_of_ble_eq_true rfl, Nat.le_of_ble_eq_true rfl⟩ (Nat.le_of_ble_eq_true rfl) rfl dX12_copy_8 (fun r4 h3 => ?_)
    refine g_ifne (tgt := 16) dX12_copy_11 (by decide) ?_ ?_
    · refine g_aload_n 0 dX12_copy_16 rfl rfl ?_
      refine g_getR kfl_X12_31 fo_X12_kept dX12_copy_17 (fun t5 => ?_)
      refine g_iload_n 1 dX12_copy_20 rfl rfl ?_
      refine g_iaload dX12_copy_21 (fun t6 => ?_)
      refine g_ifeq (tgt := 34) dX12_copy_22 (by decide) ?_ ?_
      · refine g_bipush (v := (-11)) dX12_copy_34 (by decide) ?_
        exact g_ireturn rfl dX12_copy_36
      · refine g_aload_n 0 dX12_copy_25 rfl rfl ?_
        refine g_getR kfl_X12_31 fo_X12_kept dX12_copy_26 (fun t7 => ?_)
        refine g_iload_n 3 dX12_copy_29 rfl rfl ?_
        refine g_iaload dX12_copy_30 (fun t8 => ?_)
        refine g_ifne (tgt := 37) dX12_copy_31 (by decide) ?_ ?_
        · refine g_aload_n 0 dX12_copy_37 rfl rfl ?_
          refine g_getR kfl_X12_31 fo_X12_kept dX12_copy_38 (fun t9 => ?_)
          refine g_iload_n 1 dX12_copy_41 rfl rfl ?_
          refine g_iaload dX12_copy_42 (fun t10 => ?_)
          refine g_iconst (v := 2) dX12_copy_43 (by decide) ?_
          refine g_icmpne (tgt := 72) dX12_copy_44 (by decide) ?_ ?_
          · refine g_bipush (v := (-12)) dX12_copy_72 (by decide) ?_
            exact g_ireturn rfl dX12_copy_74
          · refine g_aload_n 0 dX12_copy_47 rfl rfl ?_
            refine g_getR kfl_X12_31 fo_X12_kept dX12_copy_48 (fun t11 => ?_)
            refine g_iload_n 3 dX12_copy_51 rfl rfl ?_
            refine g_iaload dX12_copy_52 (fun t12 => ?_)
            refine g_iconst (v := 2) dX12_copy_53 (by decide) ?_
            refine g_icmpne (tgt := 72) dX12_copy_54 (by decide) ?_ ?_
            · refine g_bipush (v := (-12)) dX12_copy_72 (by decide) ?_
              exact g_ireturn rfl dX12_copy_74
            · refine g_aload_n 0 dX12_copy_57 rfl rfl ?_
              refine g_getR kfl_X12_40 fo_X12_sort dX12_copy_58 (fun t13 => ?_)
              refine g_iload_n 1 dX12_copy_61 rfl rfl ?_
              refine g_iaload dX12_copy_62 (fun t14 => ?_)
              refine g_aload_n 0 dX12_copy_63 rfl rfl ?_
              refine g_getR kfl_X12_40 fo_X12_sort dX12_copy_64 (fun t15 => ?_)
              refine g_iload_n 3 dX12_copy_67 rfl rfl ?_
              refine g_iaload dX12_copy_68 (fun t16 => ?_)
              refine g_icmpeq (tgt := 75) dX12_copy_69 (by decide) ?_ ?_
              · refine g_iload 5 dX12_copy_75 rfl ?_
                refine g_iflt (tgt := 116) dX12_copy_77 (by decide) ?_ ?_
                · refine g_bipush (v := (-13)) dX12_copy_116 (by decide) ?_
                  exact g_ireturn rfl dX12_copy_118
                · refine g_iload_n 2 dX12_copy_80 rfl rfl ?_
                  refine g_iflt (tgt := 116) dX12_copy_81 (by decide) ?_ ?_
                  · refine g_bipush (v := (-13)) dX12_copy_116 (by decide) ?_
                    exact g_ireturn rfl dX12_copy_118
                  · refine g_iload 4 dX12_copy_84 rfl ?_
                    refine g_iflt (tgt := 116) dX12_copy_86 (by decide) ?_ ?_
                    · refine g_bipush (v := (-13)) dX12_copy_116 (by decide) ?_
                      exact g_ireturn rfl dX12_copy_118
                    · refine g_iload 5 dX12_copy_89 rfl ?_
                      refine g_aload_n 0 dX12_copy_91 rfl rfl ?_
                      refine g_getR kfl_X12_43 fo_X12_size dX12_copy_92 (fun t17 => ?_)
                      refine g_iload_n 1 dX12_copy_95 rfl rfl ?_
                      refine g_iaload dX12_copy_96 (fun t18 => ?_)
                      refine g_iload_n 2 dX12_copy_97 rfl rfl ?_
                      refine g_isub dX12_copy_98 ?_
                      refine g_icmpgt (tgt := 116) dX12_copy_99 (by decide) ?_ ?_
                      · refine g_bipush (v := (-13)) dX12_copy_116 (by decide) ?_
                        exact g_ireturn rfl dX12_copy_118
                      · refine g_iload 5 dX12_copy_102 rfl ?_
                        refine g_aload_n 0 dX12_copy_104 rfl rfl ?_
                        refine g_getR kfl_X12_43 fo_X12_size dX12_copy_105 (fun t19 => ?_)
                        refine g_iload_n 3 dX12_copy_108 rfl rfl ?_
                        refine g_iaload dX12_copy_109 (fun t20 => ?_)
                        refine g_iload 4 dX12_copy_110 rfl ?_
                        refine g_isub dX12_copy_112 ?_
                        refine g_icmple (tgt := 119) dX12_copy_113 (by decide) ?_ ?_
                        · refine g_iconst (v := 0) dX12_copy_119 (by decide) ?_
                          refine g_istore (ls' := [(6, vI 0), (0, vR v0), (1, vI v1), (2, vI v2), (3, vI v3), (4, vI v4), (5, vI v5)]) dX12_copy_120 (Nat.le_of_ble_eq_true rfl) rfl ?_
                          exact g_sub2 [1, 2, 3, 4, 5, 6, 0] rfl (s_X12_copy_b122 hX FU v0 v1 v2 v3 v4 v5 0 h3)
                        · refine g_bipush (v := (-13)) dX12_copy_116 (by decide) ?_
                          exact g_ireturn rfl dX12_copy_118
              · refine g_bipush (v := (-12)) dX12_copy_72 (by decide) ?_
                exact g_ireturn rfl dX12_copy_74
        · refine g_bipush (v := (-11)) dX12_copy_34 (by decide) ?_
          exact g_ireturn rfl dX12_copy_36
    · refine g_iconst (v := (-1)) dX12_copy_14 (by decide) ?_
      exact g_ireturn rfl dX12_copy_15
abbrev p_X12_costBy (X : GX) (h0 : AH) : PX Int32 := (X, (fun x => Sum.inl (rI x)), (0, 0, 2), h0)
def f_X12_costBy (v0 : Int32) (v1 : Int32) (h : AH) : Option (Int32 × AH) :=
    (if v0 = 1 then
    some ((2 + v1), h)
    else (if v0 = 2 then
    some (1, h)
    else (if v0 = 3 then
    some (5, h)
    else (if v0 = 4 then
    some ((2 * (2 + v1)), h)
    else (if v0 = 5 then
    some (0, h)
    else (if v0 = 6 then
    some (0, h)
    else (if v0 = 7 then
    some ((1 + v1), h)
    else some (2, h))))))))
set_option maxRecDepth 100000 in
set_option maxHeartbeats 4000000 in
theorem s_X12_costBy {X : GX} (hX : XOK X) (v0 : Int32) (v1 : Int32) (h : AH) : Snd X yX12_costBy cX12_costBy 2 (some .int) 0 0 rI [vI v0, vI v1] h (f_X12_costBy v0 v1 h) := by
  refine snd_of hX (by decide +kernel) (Nat.le_of_ble_eq_true rfl) ?_
  show Gp (p_X12_costBy X h) RX12 "costBy" cX12_costBy (some .int) 0 [(0, vI v0), (1, vI v1)] [] h _
  unfold f_X12_costBy
  refine g_iload_n 0 dX12_costBy_0 rfl rfl ?_
  refine g_tsIn (c := 1) (off := 43) (tgt := 44) dX12_costBy_1 (by decide) (by decide) (by decide) (by decide) ?_ (fun n1 => ?_)
  · refine g_iconst (v := 2) dX12_costBy_44 (by decide) ?_
    refine g_iload_n 1 dX12_costBy_45 rfl rfl ?_
    refine g_iadd dX12_costBy_46 ?_
    exact g_ireturn rfl dX12_costBy_47
  refine g_tsIn (c := 2) (off := 47) (tgt := 48) dX12_costBy_1 (by decide) (by decide) (by decide) (by decide) ?_ (fun n2 => ?_)
  · refine g_iconst (v := 1) dX12_costBy_48 (by decide) ?_
    exact g_ireturn rfl dX12_costBy_49
  refine g_tsIn (c := 3) (off := 49) (tgt := 50) dX12_costBy_1 (by decide) (by decide) (by decide) (by decide) ?_ (fun n3 => ?_)
  · refine g_iconst (v := 5) dX12_costBy_50 (by decide) ?_
    exact g_ireturn rfl dX12_costBy_51
  refine g_tsIn (c := 4) (off := 51) (tgt := 52) dX12_costBy_1 (by decide) (by decide) (by decide) (by decide) ?_ (fun n4 => ?_)
  · refine g_iconst (v := 2) dX12_costBy_52 (by decide) ?_
    refine g_iconst (v := 2) dX12_costBy_53 (by decide) ?_
    refine g_iload_n 1 dX12_costBy_54 rfl rfl ?_
    refine g_iadd dX12_costBy_55 ?_
    refine g_imul dX12_costBy_56 ?_
    exact g_ireturn rfl dX12_costBy_57
  refine g_tsIn (c := 5) (off := 57) (tgt := 58) dX12_costBy_1 (by decide) (by decide) (by decide) (by decide) ?_ (fun n5 => ?_)
  · refine g_iconst (v := 0) dX12_costBy_58 (by decide) ?_
    exact g_ireturn rfl dX12_costBy_59
  refine g_tsIn (c := 6) (off := 57) (tgt := 58) dX12_costBy_1 (by decide) (by decide) (by decide) (by decide) ?_ (fun n6 => ?_)
  · refine g_iconst (v := 0) dX12_costBy_58 (by decide) ?_
    exact g_ireturn rfl dX12_costBy_59
  refine g_tsIn (c := 7) (off := 59) (tgt := 60) dX12_costBy_1 (by decide) (by decide) (by decide) (by decide) ?_ (fun n7 => ?_)
  · refine g_iconst (v := 1) dX12_costBy_60 (by decide) ?_
    refine g_iload_n 1 dX12_costBy_61 rfl rfl ?_
    refine g_iadd dX12_costBy_62 ?_
    exact g_ireturn rfl dX12_costBy_63
  refine g_tsDef (tgt := 64) (keys := [1, 2, 3, 4, 5, 6, 7]) (neK_cons (c := 1) (k := 1) n1 (by decide) (neK_cons (c := 2) (k := 2) n2 (by decide) (neK_cons (c := 3) (k := 3) n3 (by decide) (neK_cons (c := 4) (k := 4) n4 (by decide) (neK_cons (c := 5) (k := 5) n5 (by decide) (neK_cons (c := 6) (k := 6) n6 (by decide) (neK_cons (c := 7) (k := 7) n7 (by decide) neK_nil))))))) (by decide +kernel) dX12_costBy_1 (by decide) ?_
  refine g_iconst (v := 2) dX12_costBy_64 (by decide) ?_
  exact g_ireturn rfl dX12_costBy_65
abbrev p_X12_cost (X : GX) (h0 : AH) : PX Int32 := (X, (fun x => Sum.inl (rI x)), (3, 63, 3), h0)
def f_X12_cost (v0 : Option Nat) (v1 : Int32) (h : AH) : Option (Int32 × AH) :=
    bd (cv h v0 12 (f_X12_wrongKept v0 v1 h)) fun r2 h1 =>
    (if r2 = 0 then
    (gR h1 v0 [12] 13).bind fun t3 =>
    (iA h1 t3 v1).bind fun t4 =>
    (gR h1 v0 [12] 14).bind fun t5 =>
    (iA h1 t5 v1).bind fun t6 =>
    bd (f_X12_costBy t4 t6 h1) fun r8 h7 =>
    some (r8, h7)
    else some (r2, h1))
set_option maxRecDepth 100000 in
set_option maxHeartbeats 4000000 in
theorem s_X12_cost {X : GX} (hX : XOK X) (v0 : Option Nat) (v1 : Int32) (h : AH) : Snd X yX12_cost cX12_cost 3 (some .int) 3 63 rI [vR v0, vI v1] h (f_X12_cost v0 v1 h) := by
  refine snd_of hX (by decide +kernel) (Nat.le_of_ble_eq_true rfl) ?_
  show Gp (p_X12_cost X h) RX12 "cost" cX12_cost (some .int) 0 [(0, vR v0), (1, vI v1)] [] h _
  unfold f_X12_cost
  refine g_aload_n 0 dX12_cost_0 rfl rfl ?_
  refine g_iload_n 1 dX12_cost_1 rfl rfl ?_
  refine g_callVI (st := []) (ci := 12) rfl (s_X12_wrongKept hX v0 v1 h) kml_X12_152 kim_X12_wrongKept kse_X12_wrongKept kii_X12 kcd_X12_wrongKept rfl ds_X12_wrongKept rfl ⟨Nat.le_of_ble_eq_true rfl, Nat.le_of_ble_eq_true rfl⟩ (Nat.le_of_ble_eq_true rfl) rfl dX12_cost_2 (fun r2 h1 => ?_)
  refine g_istore_n (ls' := [(2, vI r2), (0, vR v0), (1, vI v1)]) dX12_cost_5 rfl (Nat.le_of_ble_eq_true rfl) rfl ?_
  refine g_iload_n 0 dX12_cost_6 rfl rfl ?_
  refine g_ifeq (tgt := 14) dX12_cost_7 (by decide) ?_ ?_
  · refine g_aload_n 1 dX12_cost_14 rfl rfl ?_
    refine g_getR kfl_X12_34 fo_X12_keptKind dX12_cost_15 (fun t3 => ?_)
    refine g_iload_n 2 dX12_cost_18 rfl rfl ?_
    refine g_iaload dX12_cost_19 (fun t4 => ?_)
    refine g_aload_n 1 dX12_cost_20 rfl rfl ?_
    refine g_getR kfl_X12_37 fo_X12_keptFigure dX12_cost_21 (fun t5 => ?_)
    refine g_iload_n 2 dX12_cost_24 rfl rfl ?_
    refine g_iaload dX12_cost_25 (fun t6 => ?_)
    refine g_callSI (st := []) (s_X12_costBy hX t4 t6 h1) kml_X12_249 kst_X12_costBy kii_X12 kcd_X12_costBy ds_X12_costBy rfl ⟨Nat.le_of_ble_eq_true rfl, Nat.le_of_ble_eq_true rfl⟩ (Nat.le_of_ble_eq_true rfl) rfl dX12_cost_26 (fun r8 h7 => ?_)
    exact g_ireturn rfl dX12_cost_29
  · refine g_iload_n 0 dX12_cost_10 rfl rfl ?_
    refine g_goto (tgt := 29) dX12_cost_11 (by decide) ?_
    exact g_ireturn rfl dX12_cost_29
abbrev p_X12_hereIn (X : GX) (h0 : AH) : PX Int32 := (X, (fun x => Sum.inl (rI x)), (1, 21, 3), h0)
def f_X12_hereIn_b4 : Nat → Option Nat → Int32 → Int32 → AH → Option (Int32 × AH)
  | 0 => fun _ _ _ _ => none
  | n + 1 => fun x0 x1 x2 h =>
    (iA h x0 0).bind fun t1 =>
    (if t1 ≤ x2 then
    some (x1, h)
    else bd (f_X12_of x2 6 h) fun r3 h2 =>
    (iA h2 x0 r3).bind fun t4 =>
    nm (x1 ||| (t4 <<< (x2 &&& 31))) fun t5 =>
    f_X12_hereIn_b4 n x0 t5 (x2 + 1) h2)
set_option maxRecDepth 100000 in
set_option maxHeartbeats 4000000 in
theorem s_X12_hereIn_b4 {X : GX} (hX : XOK X) {h0 : AH} : ∀ (n : Nat) (x0 : Option Nat) (x1 : Int32) (x2 : Int32) (h : AH), Gp (p_X12_hereIn X h0) RX12 "hereIn" cX12_hereIn (some .int) 4 [(0, vR x0), (1, vI x1), (2, vI x2)] [] h (f_X12_hereIn_b4 n x0 x1 x2 h) := by
  intro n
  induction n with
  | zero => intro x0 x1 x2 h; exact g_none
  | succ n ih =>
    intro x0 x1 x2 h
    rw [f_X12_hereIn_b4]
    refine g_iload_n 2 dX12_hereIn_4 rfl rfl ?_
    refine g_aload_n 0 dX12_hereIn_5 rfl rfl ?_
    refine g_iconst (v := 0) dX12_hereIn_6 (by decide) ?_
    refine g_iaload dX12_hereIn_7 (fun t1 => ?_)
    refine g_icmpge (tgt := 30) dX12_hereIn_8 (by decide) ?_ ?_
    · refine g_iload_n 1 dX12_hereIn_30 rfl rfl ?_
      exact g_ireturn rfl dX12_hereIn_31
    · refine g_iload_n 1 dX12_hereIn_11 rfl rfl ?_
      refine g_aload_n 0 dX12_hereIn_12 rfl rfl ?_
      refine g_iload_n 2 dX12_hereIn_13 rfl rfl ?_
      refine g_bipush (v := 6) dX12_hereIn_14 (by decide) ?_
      refine g_callSI (st := [vR x0, vI x1]) (s_X12_of hX x2 6 h) kml_X12_53 kst_X12_of kii_X12 kcd_X12_of ds_X12_of rfl ⟨Nat.le_of_ble_eq_true rfl, Nat.le_of_ble_eq_true rfl⟩ (Nat.le_of_ble_eq_true rfl) rfl dX12_hereIn_16 (fun r3 h2 => ?_)
      refine g_iaload dX12_hereIn_19 (fun t4 => ?_)
      refine g_iload_n 2 dX12_hereIn_20 rfl rfl ?_
      refine g_ishl dX12_hereIn_21 ?_
      refine g_ior dX12_hereIn_22 ?_
      refine g_nmI (fun t5 => ?_)
      refine g_istore_n (ls' := [(1, vI t5), (0, vR x0), (2, vI x2)]) dX12_hereIn_23 rfl (Nat.le_of_ble_eq_true rfl) rfl ?_
      refine g_iinc 2 (v := (x2 + 1)) (ls' := [(2, vI ((x2 + 1))), (1, vI t5), (0, vR x0)]) dX12_hereIn_24 rfl rfl (Nat.le_of_ble_eq_true rfl) rfl ?_
      refine g_goto (tgt := 4) dX12_hereIn_27 (by decide) ?_
      exact g_sub2 [2, 1, 0] rfl (ih x0 t5 (x2 + 1) h2)
def f_X12_hereIn (v0 : Option Nat) (h : AH) : Option (Int32 × AH) :=
    f_X12_hereIn_b4 FU v0 0 0 h
set_option maxRecDepth 100000 in
set_option maxHeartbeats 4000000 in
theorem s_X12_hereIn {X : GX} (hX : XOK X) (v0 : Option Nat) (h : AH) : Snd X yX12_hereIn cX12_hereIn 3 (some .int) 1 21 rI [vR v0] h (f_X12_hereIn v0 h) := by
  refine snd_of hX (by decide +kernel) (Nat.le_of_ble_eq_true rfl) ?_
  show Gp (p_X12_hereIn X h) RX12 "hereIn" cX12_hereIn (some .int) 0 [(0, vR v0)] [] h _
  unfold f_X12_hereIn
  refine g_iconst (v := 0) dX12_hereIn_0 (by decide) ?_
  refine g_istore_n (ls' := [(1, vI 0), (0, vR v0)]) dX12_hereIn_1 rfl (Nat.le_of_ble_eq_true rfl) rfl ?_
  refine g_iconst (v := 0) dX12_hereIn_2 (by decide) ?_
  refine g_istore_n (ls' := [(2, vI 0), (1, vI 0), (0, vR v0)]) dX12_hereIn_3 rfl (Nat.le_of_ble_eq_true rfl) rfl ?_
  exact g_sub2 [2, 1, 0] rfl (s_X12_hereIn_b4 hX FU v0 0 0 h)
abbrev p_X12_weightIn (X : GX) (h0 : AH) : PX Int32 := (X, (fun x => Sum.inl (rI x)), (2, 42, 3), h0)
def f_X12_weightIn_b31 (k4 : Option Nat → Int32 → Int32 → AH → Option (Int32 × AH)) (x0 : Option Nat) (x2 : Int32) (y1 : Int32) (y0 : Int32) (h : AH) : Option (Int32 × AH) :=
    nm (y0 + y1) fun t4 =>
    k4 x0 t4 (x2 + 1) h
set_option maxRecDepth 100000 in
set_option maxHeartbeats 4000000 in
theorem s_X12_weightIn_b31 {X : GX} (hX : XOK X) {h0 : AH} (k4 : Option Nat → Int32 → Int32 → AH → Option (Int32 × AH)) (hk4 : ∀ (z0 : Option Nat) (z1 : Int32) (z2 : Int32) (h : AH), Gp (p_X12_weightIn X h0) RX12 "weightIn" cX12_weightIn (some .int) 4 [(0, vR z0), (1, vI z1), (2, vI z2)] [] h (k4 z0 z1 z2 h)) : ∀ (x0 : Option Nat) (x2 : Int32) (y1 : Int32) (y0 : Int32) (h : AH), Gp (p_X12_weightIn X h0) RX12 "weightIn" cX12_weightIn (some .int) 31 [(0, vR x0), (2, vI x2)] [vI y1, vI y0] h (f_X12_weightIn_b31 k4 x0 x2 y1 y0 h) := by
  intro x0 x2 y1 y0 h
  unfold f_X12_weightIn_b31
  refine g_iadd dX12_weightIn_31 ?_
  refine g_nmI (fun t4 => ?_)
  refine g_istore_n (ls' := [(1, vI t4), (0, vR x0), (2, vI x2)]) dX12_weightIn_32 rfl (Nat.le_of_ble_eq_true rfl) rfl ?_
  refine g_iinc 2 (v := (x2 + 1)) (ls' := [(2, vI ((x2 + 1))), (1, vI t4), (0, vR x0)]) dX12_weightIn_33 rfl rfl (Nat.le_of_ble_eq_true rfl) rfl ?_
  refine g_goto (tgt := 4) dX12_weightIn_36 (by decide) ?_
  exact g_sub2 [2, 1, 0] rfl (hk4 x0 t4 (x2 + 1) h)
def f_X12_weightIn_b4 : Nat → Option Nat → Int32 → Int32 → AH → Option (Int32 × AH)
  | 0 => fun _ _ _ _ => none
  | n + 1 => fun x0 x1 x2 h =>
    (iA h x0 0).bind fun t1 =>
    (if t1 ≤ x2 then
    some (x1, h)
    else bd (f_X12_isHere x0 x2 h) fun r3 h2 =>
    (if r3 = 0 then
    f_X12_weightIn_b31 (f_X12_weightIn_b4 n) x0 x2 0 x1 h2
    else bd (f_X12_of x2 2 h2) fun r6 h5 =>
    (iA h5 x0 r6).bind fun t7 =>
    f_X12_weightIn_b31 (f_X12_weightIn_b4 n) x0 x2 t7 x1 h5))
set_option maxRecDepth 100000 in
set_option maxHeartbeats 4000000 in
theorem s_X12_weightIn_b4 {X : GX} (hX : XOK X) {h0 : AH} : ∀ (n : Nat) (x0 : Option Nat) (x1 : Int32) (x2 : Int32) (h : AH), Gp (p_X12_weightIn X h0) RX12 "weightIn" cX12_weightIn (some .int) 4 [(0, vR x0), (1, vI x1), (2, vI x2)] [] h (f_X12_weightIn_b4 n x0 x1 x2 h) := by
  intro n
  induction n with
  | zero => intro x0 x1 x2 h; exact g_none
  | succ n ih =>
    intro x0 x1 x2 h
    rw [f_X12_weightIn_b4]
    refine g_iload_n 2 dX12_weightIn_4 rfl rfl ?_
    refine g_aload_n 0 dX12_weightIn_5 rfl rfl ?_
    refine g_iconst (v := 0) dX12_weightIn_6 (by decide) ?_
    refine g_iaload dX12_weightIn_7 (fun t1 => ?_)
    refine g_icmpge (tgt := 39) dX12_weightIn_8 (by decide) ?_ ?_
    · refine g_iload_n 1 dX12_weightIn_39 rfl rfl ?_
      exact g_ireturn rfl dX12_weightIn_40
    · refine g_iload_n 1 dX12_weightIn_11 rfl rfl ?_
      refine g_aload_n 0 dX12_weightIn_12 rfl rfl ?_
      refine g_iload_n 2 dX12_weightIn_13 rfl rfl ?_
      refine g_callSI (st := [vI x1]) (s_X12_isHere hX x0 x2 h) kml_X12_61 kst_X12_isHere kii_X12 kcd_X12_isHere ds_X12_isHere rfl ⟨Nat.le_of_ble_eq_true rfl, Nat.le_of_ble_eq_true rfl⟩ (Nat.le_of_ble_eq_true rfl) rfl dX12_weightIn_14 (fun r3 h2 => ?_)
      refine g_ifeq (tgt := 30) dX12_weightIn_17 (by decide) ?_ ?_
      · refine g_iconst (v := 0) dX12_weightIn_30 (by decide) ?_
        exact g_sub2 [0, 2] rfl (s_X12_weightIn_b31 hX (f_X12_weightIn_b4 n) (fun z0 z1 z2 z3 => ih z0 z1 z2 z3) x0 x2 0 x1 h2)
      · refine g_aload_n 0 dX12_weightIn_20 rfl rfl ?_
        refine g_iload_n 2 dX12_weightIn_21 rfl rfl ?_
        refine g_iconst (v := 2) dX12_weightIn_22 (by decide) ?_
        refine g_callSI (st := [vR x0, vI x1]) (s_X12_of hX x2 2 h2) kml_X12_53 kst_X12_of kii_X12 kcd_X12_of ds_X12_of rfl ⟨Nat.le_of_ble_eq_true rfl, Nat.le_of_ble_eq_true rfl⟩ (Nat.le_of_ble_eq_true rfl) rfl dX12_weightIn_23 (fun r6 h5 => ?_)
        refine g_iaload dX12_weightIn_26 (fun t7 => ?_)
        refine g_goto (tgt := 31) dX12_weightIn_27 (by decide) ?_
        exact g_sub2 [0, 2] rfl (s_X12_weightIn_b31 hX (f_X12_weightIn_b4 n) (fun z0 z1 z2 z3 => ih z0 z1 z2 z3) x0 x2 t7 x1 h5)
def f_X12_weightIn (v0 : Option Nat) (h : AH) : Option (Int32 × AH) :=
    f_X12_weightIn_b4 FU v0 0 0 h
set_option maxRecDepth 100000 in
set_option maxHeartbeats 4000000 in
theorem s_X12_weightIn {X : GX} (hX : XOK X) (v0 : Option Nat) (h : AH) : Snd X yX12_weightIn cX12_weightIn 3 (some .int) 2 42 rI [vR v0] h (f_X12_weightIn v0 h) := by
  refine snd_of hX (by decide +kernel) (Nat.le_of_ble_eq_true rfl) ?_
  show Gp (p_X12_weightIn X h) RX12 "weightIn" cX12_weightIn (some .int) 0 [(0, vR v0)] [] h _
  unfold f_X12_weightIn
  refine g_iconst (v := 0) dX12_weightIn_0 (by decide) ?_
  refine g_istore_n (ls' := [(1, vI 0), (0, vR v0)]) dX12_weightIn_1 rfl (Nat.le_of_ble_eq_true rfl) rfl ?_
  refine g_iconst (v := 0) dX12_weightIn_2 (by decide) ?_
  refine g_istore_n (ls' := [(2, vI 0), (1, vI 0), (0, vR v0)]) dX12_weightIn_3 rfl (Nat.le_of_ble_eq_true rfl) rfl ?_
  exact g_sub2 [2, 1, 0] rfl (s_X12_weightIn_b4 hX FU v0 0 0 h)
abbrev p_X12_count (X : GX) (h0 : AH) : PX Int32 := (X, (fun x => Sum.inl (rI x)), (3, 64, 2), h0)
def f_X12_count (v0 : Option Nat) (v1 : Int32) (h : AH) : Option (Int32 × AH) :=
    bd (f_X12_isIn v1 0 4 h) fun r2 h1 =>
    (if r2 = 0 then
    (if v1 = 5 then
    (gR h1 v0 [12] 0).bind fun t6 =>
    bd (f_X12_hereIn t6 h1) fun r8 h7 =>
    some (r8, h7)
    else (if v1 = 6 then
    (gR h1 v0 [12] 0).bind fun t3 =>
    bd (f_X12_weightIn t3 h1) fun r5 h4 =>
    some (r5, h4)
    else some ((-1), h1)))
    else (gR h1 v0 [12] 0).bind fun t9 =>
    (iA h1 t9 v1).bind fun t10 =>
    some (t10, h1))
set_option maxRecDepth 100000 in
set_option maxHeartbeats 4000000 in
theorem s_X12_count {X : GX} (hX : XOK X) (v0 : Option Nat) (v1 : Int32) (h : AH) : Snd X yX12_count cX12_count 2 (some .int) 3 64 rI [vR v0, vI v1] h (f_X12_count v0 v1 h) := by
  refine snd_of hX (by decide +kernel) (Nat.le_of_ble_eq_true rfl) ?_
  show Gp (p_X12_count X h) RX12 "count" cX12_count (some .int) 0 [(0, vR v0), (1, vI v1)] [] h _
  unfold f_X12_count
  refine g_iload_n 1 dX12_count_0 rfl rfl ?_
  refine g_iconst (v := 0) dX12_count_1 (by decide) ?_
  refine g_iconst (v := 4) dX12_count_2 (by decide) ?_
  refine g_callSI (st := []) (s_X12_isIn hX v1 0 4 h) kml_X12_49 kst_X12_isIn kii_X12 kcd_X12_isIn ds_X12_isIn rfl ⟨Nat.le_of_ble_eq_true rfl, Nat.le_of_ble_eq_true rfl⟩ (Nat.le_of_ble_eq_true rfl) rfl dX12_count_3 (fun r2 h1 => ?_)
  refine g_ifeq (tgt := 16) dX12_count_6 (by decide) ?_ ?_
  · refine g_iload_n 1 dX12_count_16 rfl rfl ?_
    refine g_iconst (v := 5) dX12_count_17 (by decide) ?_
    refine g_icmpne (tgt := 31) dX12_count_18 (by decide) ?_ ?_
    · refine g_iload_n 1 dX12_count_31 rfl rfl ?_
      refine g_bipush (v := 6) dX12_count_32 (by decide) ?_
      refine g_icmpne (tgt := 47) dX12_count_34 (by decide) ?_ ?_
      · refine g_iconst (v := (-1)) dX12_count_47 (by decide) ?_
        exact g_ireturn rfl dX12_count_48
      · refine g_aload_n 0 dX12_count_37 rfl rfl ?_
        refine g_getR kfl_X12_9 fo_X12_s dX12_count_38 (fun t3 => ?_)
        refine g_callSI (st := []) (s_X12_weightIn hX t3 h1) kml_X12_166 kst_X12_weightIn kii_X12 kcd_X12_weightIn ds_X12_weightIn rfl ⟨Nat.le_of_ble_eq_true rfl, Nat.le_of_ble_eq_true rfl⟩ (Nat.le_of_ble_eq_true rfl) rfl dX12_count_41 (fun r5 h4 => ?_)
        refine g_goto (tgt := 48) dX12_count_44 (by decide) ?_
        exact g_ireturn rfl dX12_count_48
    · refine g_aload_n 0 dX12_count_21 rfl rfl ?_
      refine g_getR kfl_X12_9 fo_X12_s dX12_count_22 (fun t6 => ?_)
      refine g_callSI (st := []) (s_X12_hereIn hX t6 h1) kml_X12_162 kst_X12_hereIn kii_X12 kcd_X12_hereIn ds_X12_hereIn rfl ⟨Nat.le_of_ble_eq_true rfl, Nat.le_of_ble_eq_true rfl⟩ (Nat.le_of_ble_eq_true rfl) rfl dX12_count_25 (fun r8 h7 => ?_)
      refine g_goto (tgt := 48) dX12_count_28 (by decide) ?_
      exact g_ireturn rfl dX12_count_48
  · refine g_aload_n 0 dX12_count_9 rfl rfl ?_
    refine g_getR kfl_X12_9 fo_X12_s dX12_count_10 (fun t9 => ?_)
    refine g_iload_n 1 dX12_count_13 rfl rfl ?_
    refine g_iaload dX12_count_14 (fun t10 => ?_)
    exact g_ireturn rfl dX12_count_15
abbrev p_X12_daysOn (X : GX) (h0 : AH) : PX Unit := (X, (fun x => Sum.inl (rU x)), (4, 86, 3), h0)
def f_X12_daysOn_b2 : Nat → Option Nat → Int32 → Int32 → AH → Option (Unit × AH)
  | 0 => fun _ _ _ _ => none
  | n + 1 => fun x0 x1 x2 h =>
    (if x1 ≤ x2 then
    some ((), h)
    else bd (f_X12_day x0 0 h) fun u2 h1 =>
    f_X12_daysOn_b2 n x0 x1 (x2 + 1) h1)
set_option maxRecDepth 100000 in
set_option maxHeartbeats 4000000 in
theorem s_X12_daysOn_b2 {X : GX} (hX : XOK X) {h0 : AH} : ∀ (n : Nat) (x0 : Option Nat) (x1 : Int32) (x2 : Int32) (h : AH), Gp (p_X12_daysOn X h0) RX12 "daysOn" cX12_daysOn none 2 [(0, vR x0), (1, vI x1), (2, vI x2)] [] h (f_X12_daysOn_b2 n x0 x1 x2 h) := by
  intro n
  induction n with
  | zero => intro x0 x1 x2 h; exact g_none
  | succ n ih =>
    intro x0 x1 x2 h
    rw [f_X12_daysOn_b2]
    refine g_iload_n 2 dX12_daysOn_2 rfl rfl ?_
    refine g_iload_n 1 dX12_daysOn_3 rfl rfl ?_
    refine g_icmpge (tgt := 18) dX12_daysOn_4 (by decide) ?_ ?_
    · exact g_return rfl dX12_daysOn_18
    · refine g_aload_n 0 dX12_daysOn_7 rfl rfl ?_
      refine g_iconst (v := 0) dX12_daysOn_8 (by decide) ?_
      refine g_callSU (st := []) (s_X12_day hX x0 0 h) kml_X12_82 kst_X12_day kii_X12 kcd_X12_day ds_X12_day rfl ⟨Nat.le_of_ble_eq_true rfl, Nat.le_of_ble_eq_true rfl⟩ (Nat.le_of_ble_eq_true rfl) rfl dX12_daysOn_9 (fun u2 h1 => ?_)
      refine g_iinc 2 (v := (x2 + 1)) (ls' := [(2, vI ((x2 + 1))), (0, vR x0), (1, vI x1)]) dX12_daysOn_12 rfl rfl (Nat.le_of_ble_eq_true rfl) rfl ?_
      refine g_goto (tgt := 2) dX12_daysOn_15 (by decide) ?_
      exact g_sub2 [1, 2, 0] rfl (ih x0 x1 (x2 + 1) h1)
def f_X12_daysOn (v0 : Option Nat) (v1 : Int32) (h : AH) : Option (Unit × AH) :=
    f_X12_daysOn_b2 FU v0 v1 0 h
set_option maxRecDepth 100000 in
set_option maxHeartbeats 4000000 in
theorem s_X12_daysOn {X : GX} (hX : XOK X) (v0 : Option Nat) (v1 : Int32) (h : AH) : Snd X yX12_daysOn cX12_daysOn 3 none 4 86 rU [vR v0, vI v1] h (f_X12_daysOn v0 v1 h) := by
  refine snd_of hX (by decide +kernel) (Nat.le_of_ble_eq_true rfl) ?_
  show Gp (p_X12_daysOn X h) RX12 "daysOn" cX12_daysOn none 0 [(0, vR v0), (1, vI v1)] [] h _
  unfold f_X12_daysOn
  refine g_iconst (v := 0) dX12_daysOn_0 (by decide) ?_
  refine g_istore_n (ls' := [(2, vI 0), (0, vR v0), (1, vI v1)]) dX12_daysOn_1 rfl (Nat.le_of_ble_eq_true rfl) rfl ?_
  exact g_sub2 [1, 2, 0] rfl (s_X12_daysOn_b2 hX FU v0 v1 0 h)
abbrev p_X12_days (X : GX) (h0 : AH) : PX Int32 := (X, (fun x => Sum.inl (rI x)), (5, 108, 2), h0)
def f_X12_days (v0 : Option Nat) (v1 : Int32) (h : AH) : Option (Int32 × AH) :=
    bd (f_X12_isIn v1 1 60 h) fun r2 h1 =>
    (if r2 = 0 then
    some ((-1), h1)
    else (gR h1 v0 [12] 0).bind fun t3 =>
    (iA h1 t3 1).bind fun t4 =>
    (if (t4 + v1) ≤ 999 then
    (gR h1 v0 [12] 0).bind fun t5 =>
    bd (f_X12_daysOn t5 v1 h1) fun u7 h6 =>
    (gR h6 v0 [12] 0).bind fun t8 =>
    (iA h6 t8 2).bind fun t9 =>
    some (t9, h6)
    else some ((-3), h1)))
set_option maxRecDepth 100000 in
set_option maxHeartbeats 4000000 in
theorem s_X12_days {X : GX} (hX : XOK X) (v0 : Option Nat) (v1 : Int32) (h : AH) : Snd X yX12_days cX12_days 2 (some .int) 5 108 rI [vR v0, vI v1] h (f_X12_days v0 v1 h) := by
  refine snd_of hX (by decide +kernel) (Nat.le_of_ble_eq_true rfl) ?_
  show Gp (p_X12_days X h) RX12 "days" cX12_days (some .int) 0 [(0, vR v0), (1, vI v1)] [] h _
  unfold f_X12_days
  refine g_iload_n 1 dX12_days_0 rfl rfl ?_
  refine g_iconst (v := 1) dX12_days_1 (by decide) ?_
  refine g_bipush (v := 60) dX12_days_2 (by decide) ?_
  refine g_callSI (st := []) (s_X12_isIn hX v1 1 60 h) kml_X12_49 kst_X12_isIn kii_X12 kcd_X12_isIn ds_X12_isIn rfl ⟨Nat.le_of_ble_eq_true rfl, Nat.le_of_ble_eq_true rfl⟩ (Nat.le_of_ble_eq_true rfl) rfl dX12_days_4 (fun r2 h1 => ?_)
  refine g_ifne (tgt := 12) dX12_days_7 (by decide) ?_ ?_
  · refine g_aload_n 0 dX12_days_12 rfl rfl ?_
    refine g_getR kfl_X12_9 fo_X12_s dX12_days_13 (fun t3 => ?_)
    refine g_iconst (v := 1) dX12_days_16 (by decide) ?_
    refine g_iaload dX12_days_17 (fun t4 => ?_)
    refine g_iload_n 1 dX12_days_18 rfl rfl ?_
    refine g_iadd dX12_days_19 ?_
    refine g_sipush (v := 999) dX12_days_20 (by decide) ?_
    refine g_icmple (tgt := 29) dX12_days_23 (by decide) ?_ ?_
    · refine g_aload_n 0 dX12_days_29 rfl rfl ?_
      refine g_getR kfl_X12_9 fo_X12_s dX12_days_30 (fun t5 => ?_)
      refine g_iload_n 1 dX12_days_33 rfl rfl ?_
      refine g_callSU (st := []) (s_X12_daysOn hX t5 v1 h1) kml_X12_131 kst_X12_daysOn kii_X12 kcd_X12_daysOn ds_X12_daysOn rfl ⟨Nat.le_of_ble_eq_true rfl, Nat.le_of_ble_eq_true rfl⟩ (Nat.le_of_ble_eq_true rfl) rfl dX12_days_34 (fun u7 h6 => ?_)
      refine g_aload_n 0 dX12_days_37 rfl rfl ?_
      refine g_getR kfl_X12_9 fo_X12_s dX12_days_38 (fun t8 => ?_)
      refine g_iconst (v := 2) dX12_days_41 (by decide) ?_
      refine g_iaload dX12_days_42 (fun t9 => ?_)
      exact g_ireturn rfl dX12_days_43
    · refine g_bipush (v := (-3)) dX12_days_26 (by decide) ?_
      exact g_ireturn rfl dX12_days_28
  · refine g_iconst (v := (-1)) dX12_days_10 (by decide) ?_
    exact g_ireturn rfl dX12_days_11
abbrev p_X12_drawn (X : GX) (h0 : AH) : PX Int32 := (X, (fun x => Sum.inl (rI x)), (0, 0, 2), h0)
def f_X12_drawn (v0 : Option Nat) (v1 : Int32) (h : AH) : Option (Int32 × AH) :=
    (gI h v0 [12] 11).bind fun t1 =>
    (pI h v0 [12] 11 ((t1 * 1103515245) + 12345)).bind fun h2 =>
    (gI h2 v0 [12] 11).bind fun t3 =>
    (if v1 = 0 then none else some ((((t3 &&& 2147483647) / 65536) - ((t3 &&& 2147483647) / 65536) / v1 * v1), h2))
set_option maxRecDepth 100000 in
set_option maxHeartbeats 4000000 in
theorem s_X12_drawn {X : GX} (hX : XOK X) (v0 : Option Nat) (v1 : Int32) (h : AH) : Snd X yX12_drawn cX12_drawn 2 (some .int) 0 0 rI [vR v0, vI v1] h (f_X12_drawn v0 v1 h) := by
  refine snd_of hX (by decide +kernel) (Nat.le_of_ble_eq_true rfl) ?_
  show Gp (p_X12_drawn X h) RX12 "drawn" cX12_drawn (some .int) 0 [(0, vR v0), (1, vI v1)] [] h _
  unfold f_X12_drawn
  refine g_aload_n 0 dX12_drawn_0 rfl rfl ?_
  refine g_aload_n 0 dX12_drawn_1 rfl rfl ?_
  refine g_getI kfl_X12_227 fo_X12_seed dX12_drawn_2 (fun t1 => ?_)
  refine g_ldc kco_X12_230 dX12_drawn_5 ?_
  refine g_imul dX12_drawn_7 ?_
  refine g_sipush (v := 12345) dX12_drawn_8 (by decide) ?_
  refine g_iadd dX12_drawn_11 ?_
  refine g_putI kfl_X12_227 fo_X12_seed pd_I nI'.1 nI'.2 dX12_drawn_12 (fun h2 => ?_)
  refine g_aload_n 0 dX12_drawn_15 rfl rfl ?_
  refine g_getI kfl_X12_227 fo_X12_seed dX12_drawn_16 (fun t3 => ?_)
  refine g_ldc kco_X12_231 dX12_drawn_19 ?_
  refine g_iand dX12_drawn_21 ?_
  refine g_ldc kco_X12_232 dX12_drawn_22 ?_
  refine g_idivK dX12_drawn_24 (by decide) ?_
  refine g_iload_n 1 dX12_drawn_25 rfl rfl ?_
  refine g_irem dX12_drawn_26 ?_
  exact g_ireturn rfl dX12_drawn_27
abbrev p_X12_element (X : GX) (h0 : AH) : PX Int64 := (X, (fun x => Sum.inl (rJ x)), (2, 42, 3), h0)
def f_X12_element_b43 (x0 : Option Nat) (x1 : Int32) (x2 : Int32) (y1 : Int32) (y0 : Option Nat) (h : AH) : Option (Int64 × AH) :=
    (pI h y0 [12] 18 y1).bind fun h5 =>
    (gI h5 x0 [12] 18).bind fun t6 =>
    (if t6 = 0 then
    (gR h5 x0 [12] 17).bind fun t7 =>
    (iA h5 t7 ((100 * x1) + x2)).bind fun t8 =>
    some ((Int32.toInt64 t8), h5)
    else some (0, h5))
set_option maxRecDepth 100000 in
set_option maxHeartbeats 4000000 in
theorem s_X12_element_b43 {X : GX} (hX : XOK X) {h0 : AH} : ∀ (x0 : Option Nat) (x1 : Int32) (x2 : Int32) (y1 : Int32) (y0 : Option Nat) (h : AH), Gp (p_X12_element X h0) RX12 "element" cX12_element (some .long) 43 [(0, vR x0), (1, vI x1), (2, vI x2)] [vI y1, vR y0] h (f_X12_element_b43 x0 x1 x2 y1 y0 h) := by
  intro x0 x1 x2 y1 y0 h
  unfold f_X12_element_b43
  refine g_putI kfl_X12_243 fo_X12_thrown pd_I nI'.1 nI'.2 dX12_element_43 (fun h5 => ?_)
  refine g_aload_n 0 dX12_element_46 rfl rfl ?_
  refine g_getI kfl_X12_243 fo_X12_thrown dX12_element_47 (fun t6 => ?_)
  refine g_ifne (tgt := 68) dX12_element_50 (by decide) ?_ ?_
  · refine g_lconst (v := 0) dX12_element_68 (by decide) ?_
    exact g_lreturn rfl dX12_element_69
  · refine g_aload_n 0 dX12_element_53 rfl rfl ?_
    refine g_getR kfl_X12_46 fo_X12_element dX12_element_54 (fun t7 => ?_)
    refine g_bipush (v := 100) dX12_element_57 (by decide) ?_
    refine g_iload_n 1 dX12_element_59 rfl rfl ?_
    refine g_imul dX12_element_60 ?_
    refine g_iload_n 2 dX12_element_61 rfl rfl ?_
    refine g_iadd dX12_element_62 ?_
    refine g_iaload dX12_element_63 (fun t8 => ?_)
    refine g_i2l dX12_element_64 ?_
    refine g_goto (tgt := 69) dX12_element_65 (by decide) ?_
    exact g_lreturn rfl dX12_element_69
def f_X12_element_b38 (x0 : Option Nat) (x1 : Int32) (x2 : Int32) (y0 : Option Nat) (h : AH) : Option (Int64 × AH) :=
    f_X12_element_b43 x0 x1 x2 2 y0 h
set_option maxRecDepth 100000 in
set_option maxHeartbeats 4000000 in
theorem s_X12_element_b38 {X : GX} (hX : XOK X) {h0 : AH} : ∀ (x0 : Option Nat) (x1 : Int32) (x2 : Int32) (y0 : Option Nat) (h : AH), Gp (p_X12_element X h0) RX12 "element" cX12_element (some .long) 38 [(0, vR x0), (1, vI x1), (2, vI x2)] [vR y0] h (f_X12_element_b38 x0 x1 x2 y0 h) := by
  intro x0 x1 x2 y0 h
  unfold f_X12_element_b38
  refine g_iconst (v := 2) dX12_element_38 (by decide) ?_
  refine g_goto (tgt := 43) dX12_element_39 (by decide) ?_
  exact g_sub2 [0, 1, 2] rfl (s_X12_element_b43 hX x0 x1 x2 2 y0 h)
def f_X12_element (v0 : Option Nat) (v1 : Int32) (v2 : Int32) (h : AH) : Option (Int64 × AH) :=
    bd (f_X12_isShelf v1 h) fun r2 h1 =>
    (if r2 = 0 then
    f_X12_element_b43 v0 v1 v2 1 v0 h1
    else (gR h1 v0 [12] 12).bind fun t3 =>
    (iA h1 t3 v1).bind fun t4 =>
    (if t4 = 2 then
    (gR h1 v0 [12] 16).bind fun t9 =>
    (iA h1 t9 v1).bind fun t10 =>
    bd (f_X12_isIn v2 0 (t10 - 1) h1) fun r12 h11 =>
    (if r12 = 0 then
    f_X12_element_b38 v0 v1 v2 v0 h11
    else f_X12_element_b43 v0 v1 v2 0 v0 h11)
    else f_X12_element_b38 v0 v1 v2 v0 h1))
set_option maxRecDepth 100000 in
set_option maxHeartbeats 4000000 in
theorem s_X12_element {X : GX} (hX : XOK X) (v0 : Option Nat) (v1 : Int32) (v2 : Int32) (h : AH) : Snd X yX12_element cX12_element 3 (some .long) 2 42 rJ [vR v0, vI v1, vI v2] h (f_X12_element v0 v1 v2 h) := by
  refine snd_of hX (by decide +kernel) (Nat.le_of_ble_eq_true rfl) ?_
  show Gp (p_X12_element X h) RX12 "element" cX12_element (some .long) 0 [(0, vR v0), (1, vI v1), (2, vI v2)] [] h _
  unfold f_X12_element
  refine g_aload_n 0 dX12_element_0 rfl rfl ?_
  refine g_iload_n 1 dX12_element_1 rfl rfl ?_
  refine g_callSI (st := [vR v0]) (s_X12_isShelf hX v1 h) kml_X12_246 kst_X12_isShelf kii_X12 kcd_X12_isShelf ds_X12_isShelf rfl ⟨Nat.le_of_ble_eq_true rfl, Nat.le_of_ble_eq_true rfl⟩ (Nat.le_of_ble_eq_true rfl) rfl dX12_element_2 (fun r2 h1 => ?_)
  refine g_ifne (tgt := 12) dX12_element_5 (by decide) ?_ ?_
  · refine g_aload_n 0 dX12_element_12 rfl rfl ?_
    refine g_getR kfl_X12_31 fo_X12_kept dX12_element_13 (fun t3 => ?_)
    refine g_iload_n 1 dX12_element_16 rfl rfl ?_
    refine g_iaload dX12_element_17 (fun t4 => ?_)
    refine g_iconst (v := 2) dX12_element_18 (by decide) ?_
    refine g_icmpne (tgt := 38) dX12_element_19 (by decide) ?_ ?_
    · exact g_sub2 [0, 1, 2] rfl (s_X12_element_b38 hX v0 v1 v2 v0 h1)
    · refine g_iload_n 2 dX12_element_22 rfl rfl ?_
      refine g_iconst (v := 0) dX12_element_23 (by decide) ?_
      refine g_aload_n 0 dX12_element_24 rfl rfl ?_
      refine g_getR kfl_X12_43 fo_X12_size dX12_element_25 (fun t9 => ?_)
      refine g_iload_n 1 dX12_element_28 rfl rfl ?_
      refine g_iaload dX12_element_29 (fun t10 => ?_)
      refine g_iconst (v := 1) dX12_element_30 (by decide) ?_
      refine g_isub dX12_element_31 ?_
      refine g_callSI (st := [vR v0]) (s_X12_isIn hX v2 0 (t10 - 1) h1) kml_X12_49 kst_X12_isIn kii_X12 kcd_X12_isIn ds_X12_isIn rfl ⟨Nat.le_of_ble_eq_true rfl, Nat.le_of_ble_eq_true rfl⟩ (Nat.le_of_ble_eq_true rfl) rfl dX12_element_32 (fun r12 h11 => ?_)
      refine g_ifne (tgt := 42) dX12_element_35 (by decide) ?_ ?_
      · refine g_iconst (v := 0) dX12_element_42 (by decide) ?_
        exact g_sub2 [0, 1, 2] rfl (s_X12_element_b43 hX v0 v1 v2 0 v0 h11)
      · exact g_sub2 [0, 1, 2] rfl (s_X12_element_b38 hX v0 v1 v2 v0 h11)
  · refine g_iconst (v := 1) dX12_element_8 (by decide) ?_
    refine g_goto (tgt := 43) dX12_element_9 (by decide) ?_
    exact g_sub2 [0, 1, 2] rfl (s_X12_element_b43 hX v0 v1 v2 1 v0 h1)
abbrev p_X12_isLate (X : GX) (h0 : AH) : PX Int32 := (X, (fun x => Sum.inl (rI x)), (1, 22, 1), h0)
def f_X12_isLate (v0 : Int32) (h : AH) : Option (Int32 × AH) :=
    bd (f_X12_isIn v0 0 60 h) fun r2 h1 =>
    rb r2 h1
set_option maxRecDepth 100000 in
set_option maxHeartbeats 4000000 in
theorem s_X12_isLate {X : GX} (hX : XOK X) (v0 : Int32) (h : AH) : Snd X yX12_isLate cX12_isLate 1 (some .boolean) 1 22 rI [vI v0] h (f_X12_isLate v0 h) := by
  refine snd_of hX (by decide +kernel) (Nat.le_of_ble_eq_true rfl) ?_
  show Gp (p_X12_isLate X h) RX12 "isLate" cX12_isLate (some .boolean) 0 [(0, vI v0)] [] h _
  unfold f_X12_isLate
  refine g_iload_n 0 dX12_isLate_0 rfl rfl ?_
  refine g_iconst (v := 0) dX12_isLate_1 (by decide) ?_
  refine g_bipush (v := 60) dX12_isLate_2 (by decide) ?_
  refine g_callSI (st := []) (s_X12_isIn hX v0 0 60 h) kml_X12_49 kst_X12_isIn kii_X12 kcd_X12_isIn ds_X12_isIn rfl ⟨Nat.le_of_ble_eq_true rfl, Nat.le_of_ble_eq_true rfl⟩ (Nat.le_of_ble_eq_true rfl) rfl dX12_isLate_4 (fun r2 h1 => ?_)
  exact g_zreturnV (fun _ => rfl) dX12_isLate_7
abbrev p_X12_empty (X : GX) (h0 : AH) : PX Int32 := (X, (fun x => Sum.inl (rI x)), (5, 108, 3), h0)
def f_X12_empty_b11 : Nat → Option Nat → Int32 → Int32 → AH → Option (Int32 × AH)
  | 0 => fun _ _ _ _ => none
  | n + 1 => fun x0 x1 x2 h =>
    (if 10 ≤ x2 then
    some ((-4), h)
    else (gR h x0 [12] 0).bind fun t3 =>
    (gR h x0 [12] 1).bind fun t4 =>
    bd (f_X12_copies t3 t4 h) fun u6 h5 =>
    (gR h5 x0 [12] 1).bind fun t7 =>
    (iS h5 t7 4 x2).bind fun h8 =>
    (gR h8 x0 [12] 1).bind fun t9 =>
    bd (f_X12_daysOn t9 x1 h8) fun u11 h10 =>
    (gR h10 x0 [12] 1).bind fun t12 =>
    bd (f_X12_hereIn t12 h10) fun r14 h13 =>
    (if r14 = 0 then
    some (x2, h13)
    else f_X12_empty_b11 n x0 x1 (x2 + 1) h13))
set_option maxRecDepth 100000 in
set_option maxHeartbeats 4000000 in
theorem s_X12_empty_b11 {X : GX} (hX : XOK X) {h0 : AH} : ∀ (n : Nat) (x0 : Option Nat) (x1 : Int32) (x2 : Int32) (h : AH), Gp (p_X12_empty X h0) RX12 "empty" cX12_empty (some .int) 11 [(0, vR x0), (1, vI x1), (2, vI x2)] [] h (f_X12_empty_b11 n x0 x1 x2 h) := by
  intro n
  induction n with
  | zero => intro x0 x1 x2 h; exact g_none
  | succ n ih =>
    intro x0 x1 x2 h
    rw [f_X12_empty_b11]
    refine g_iload_n 2 dX12_empty_11 rfl rfl ?_
    refine g_bipush (v := 10) dX12_empty_12 (by decide) ?_
    refine g_icmpge (tgt := 61) dX12_empty_14 (by decide) ?_ ?_
    · refine g_bipush (v := (-4)) dX12_empty_61 (by decide) ?_
      exact g_ireturn rfl dX12_empty_63
    · refine g_aload_n 0 dX12_empty_17 rfl rfl ?_
      refine g_getR kfl_X12_9 fo_X12_s dX12_empty_18 (fun t3 => ?_)
      refine g_aload_n 0 dX12_empty_21 rfl rfl ?_
      refine g_getR kfl_X12_13 fo_X12_m dX12_empty_22 (fun t4 => ?_)
      refine g_callSU (st := []) (s_X12_copies hX t3 t4 h) kml_X12_141 kst_X12_copies kii_X12 kcd_X12_copies ds_X12_copies rfl ⟨Nat.le_of_ble_eq_true rfl, Nat.le_of_ble_eq_true rfl⟩ (Nat.le_of_ble_eq_true rfl) rfl dX12_empty_25 (fun u6 h5 => ?_)
      refine g_aload_n 0 dX12_empty_28 rfl rfl ?_
      refine g_getR kfl_X12_13 fo_X12_m dX12_empty_29 (fun t7 => ?_)
      refine g_iconst (v := 4) dX12_empty_32 (by decide) ?_
      refine g_iload_n 2 dX12_empty_33 rfl rfl ?_
      refine g_iastore dX12_empty_34 (fun h8 => ?_)
      refine g_aload_n 0 dX12_empty_35 rfl rfl ?_
      refine g_getR kfl_X12_13 fo_X12_m dX12_empty_36 (fun t9 => ?_)
      refine g_iload_n 1 dX12_empty_39 rfl rfl ?_
      refine g_callSU (st := []) (s_X12_daysOn hX t9 x1 h8) kml_X12_131 kst_X12_daysOn kii_X12 kcd_X12_daysOn ds_X12_daysOn rfl ⟨Nat.le_of_ble_eq_true rfl, Nat.le_of_ble_eq_true rfl⟩ (Nat.le_of_ble_eq_true rfl) rfl dX12_empty_40 (fun u11 h10 => ?_)
      refine g_aload_n 0 dX12_empty_43 rfl rfl ?_
      refine g_getR kfl_X12_13 fo_X12_m dX12_empty_44 (fun t12 => ?_)
      refine g_callSI (st := []) (s_X12_hereIn hX t12 h10) kml_X12_162 kst_X12_hereIn kii_X12 kcd_X12_hereIn ds_X12_hereIn rfl ⟨Nat.le_of_ble_eq_true rfl, Nat.le_of_ble_eq_true rfl⟩ (Nat.le_of_ble_eq_true rfl) rfl dX12_empty_47 (fun r14 h13 => ?_)
      refine g_ifne (tgt := 55) dX12_empty_50 (by decide) ?_ ?_
      · refine g_iinc 2 (v := (x2 + 1)) (ls' := [(2, vI ((x2 + 1))), (0, vR x0), (1, vI x1)]) dX12_empty_55 rfl rfl (Nat.le_of_ble_eq_true rfl) rfl ?_
        refine g_goto (tgt := 11) dX12_empty_58 (by decide) ?_
        exact g_sub2 [1, 2, 0] rfl (ih x0 x1 (x2 + 1) h13)
      · refine g_iload_n 2 dX12_empty_53 rfl rfl ?_
        exact g_ireturn rfl dX12_empty_54
def f_X12_empty (v0 : Option Nat) (v1 : Int32) (h : AH) : Option (Int32 × AH) :=
    bd (f_X12_isLate v1 h) fun r2 h1 =>
    (if r2 = 0 then
    some ((-1), h1)
    else f_X12_empty_b11 FU v0 v1 0 h1)
set_option maxRecDepth 100000 in
set_option maxHeartbeats 4000000 in
theorem s_X12_empty {X : GX} (hX : XOK X) (v0 : Option Nat) (v1 : Int32) (h : AH) : Snd X yX12_empty cX12_empty 3 (some .int) 5 108 rI [vR v0, vI v1] h (f_X12_empty v0 v1 h) := by
  refine snd_of hX (by decide +kernel) (Nat.le_of_ble_eq_true rfl) ?_
  show Gp (p_X12_empty X h) RX12 "empty" cX12_empty (some .int) 0 [(0, vR v0), (1, vI v1)] [] h _
  unfold f_X12_empty
  refine g_iload_n 1 dX12_empty_0 rfl rfl ?_
  refine g_callSI (st := []) (s_X12_isLate hX v1 h) kml_X12_155 kst_X12_isLate kii_X12 kcd_X12_isLate ds_X12_isLate rfl ⟨Nat.le_of_ble_eq_true rfl, Nat.le_of_ble_eq_true rfl⟩ (Nat.le_of_ble_eq_true rfl) rfl dX12_empty_1 (fun r2 h1 => ?_)
  refine g_ifne (tgt := 9) dX12_empty_4 (by decide) ?_ ?_
  · refine g_iconst (v := 0) dX12_empty_9 (by decide) ?_
    refine g_istore_n (ls' := [(2, vI 0), (0, vR v0), (1, vI v1)]) dX12_empty_10 rfl (Nat.le_of_ble_eq_true rfl) rfl ?_
    exact g_sub2 [1, 2, 0] rfl (s_X12_empty_b11 hX FU v0 v1 0 h1)
  · refine g_iconst (v := (-1)) dX12_empty_7 (by decide) ?_
    exact g_ireturn rfl dX12_empty_8
abbrev p_X12_gcd (X : GX) (h0 : AH) : PX Int64 := (X, (fun x => Sum.inl (rJ x)), (0, 0, 10), h0)
def f_X12_gcd_b17 : Nat → Int64 → Int64 → AH → Option (Int64 × AH)
  | 0 => fun _ _ _ => none
  | n + 1 => fun x4 x6 h =>
    (if (lg_cmp x6 0) = 0 then
    some (x4, h)
    else (if x6 = 0 then none else nm (x4 - x4 / x6 * x6) fun t1 =>
    f_X12_gcd_b17 n x6 t1 h))
set_option maxRecDepth 100000 in
set_option maxHeartbeats 4000000 in
theorem s_X12_gcd_b17 {X : GX} (hX : XOK X) {h0 : AH} : ∀ (n : Nat) (x4 : Int64) (x6 : Int64) (h : AH), Gp (p_X12_gcd X h0) RX12 "gcd" cX12_gcd (some .long) 17 [(4, vJ x4), (6, vJ x6)] [] h (f_X12_gcd_b17 n x4 x6 h) := by
  intro n
  induction n with
  | zero => intro x4 x6 h; exact g_none
  | succ n ih =>
    intro x4 x6 h
    rw [f_X12_gcd_b17]
    refine g_lload 1 dX12_gcd_17 rfl ?_
    refine g_lconst (v := 0) dX12_gcd_19 (by decide) ?_
    refine g_lcmp dX12_gcd_20 ?_
    refine g_ifeq (tgt := 42) dX12_gcd_21 (by decide) ?_ ?_
    · refine g_lload 0 dX12_gcd_42 rfl ?_
      exact g_lreturn rfl dX12_gcd_44
    · refine g_lload 0 dX12_gcd_24 rfl ?_
      refine g_lload 1 dX12_gcd_26 rfl ?_
      refine g_lrem dX12_gcd_28 ?_
      refine g_nmJ (fun t1 => ?_)
      refine g_lstore (ls' := [(8, vJ t1), (4, vJ x4), (6, vJ x6)]) dX12_gcd_29 (Nat.le_of_ble_eq_true rfl) rfl ?_
      refine g_lload 2 dX12_gcd_31 rfl ?_
      refine g_lstore (ls' := [(4, vJ x6), (8, vJ t1), (6, vJ x6)]) dX12_gcd_33 (Nat.le_of_ble_eq_true rfl) rfl ?_
      refine g_lload 1 dX12_gcd_35 rfl ?_
      refine g_lstore (ls' := [(6, vJ t1), (4, vJ x6), (8, vJ t1)]) dX12_gcd_37 (Nat.le_of_ble_eq_true rfl) rfl ?_
      refine g_goto (tgt := 17) dX12_gcd_39 (by decide) ?_
      exact g_sub2 [1, 0] rfl (ih x6 t1 h)
def f_X12_gcd_b12 (x2 : Int64) (y0 : Int64) (h : AH) : Option (Int64 × AH) :=
    f_X12_gcd_b17 FU y0 x2 h
set_option maxRecDepth 100000 in
set_option maxHeartbeats 4000000 in
theorem s_X12_gcd_b12 {X : GX} (hX : XOK X) {h0 : AH} : ∀ (x2 : Int64) (y0 : Int64) (h : AH), Gp (p_X12_gcd X h0) RX12 "gcd" cX12_gcd (some .long) 12 [(2, vJ x2)] [vJ y0] h (f_X12_gcd_b12 x2 y0 h) := by
  intro x2 y0 h
  unfold f_X12_gcd_b12
  refine g_lstore (ls' := [(4, vJ y0), (2, vJ x2)]) dX12_gcd_12 (Nat.le_of_ble_eq_true rfl) rfl ?_
  refine g_lload_n 1 dX12_gcd_14 rfl rfl ?_
  refine g_lstore (ls' := [(6, vJ x2), (4, vJ y0), (2, vJ x2)]) dX12_gcd_15 (Nat.le_of_ble_eq_true rfl) rfl ?_
  exact g_sub2 [1, 0] rfl (s_X12_gcd_b17 hX FU y0 x2 h)
def f_X12_gcd (v0 : Int64) (v1 : Int64) (h : AH) : Option (Int64 × AH) :=
    (if 0 ≤ (lg_cmp v0 0) then
    f_X12_gcd_b12 v1 v0 h
    else f_X12_gcd_b12 v1 (-v0) h)
set_option maxRecDepth 100000 in
set_option maxHeartbeats 4000000 in
theorem s_X12_gcd {X : GX} (hX : XOK X) (v0 : Int64) (v1 : Int64) (h : AH) : Snd X yX12_gcd cX12_gcd 10 (some .long) 0 0 rJ [vJ v0, vJ v1] h (f_X12_gcd v0 v1 h) := by
  refine snd_of hX (by decide +kernel) (Nat.le_of_ble_eq_true rfl) ?_
  show Gp (p_X12_gcd X h) RX12 "gcd" cX12_gcd (some .long) 0 [(0, vJ v0), (2, vJ v1)] [] h _
  unfold f_X12_gcd
  refine g_lload_n 0 dX12_gcd_0 rfl rfl ?_
  refine g_lconst (v := 0) dX12_gcd_1 (by decide) ?_
  refine g_lcmp dX12_gcd_2 ?_
  refine g_ifge (tgt := 11) dX12_gcd_3 (by decide) ?_ ?_
  · refine g_lload_n 0 dX12_gcd_11 rfl rfl ?_
    exact g_sub2 [1] rfl (s_X12_gcd_b12 hX v1 v0 h)
  · refine g_lload_n 0 dX12_gcd_6 rfl rfl ?_
    refine g_lneg dX12_gcd_7 ?_
    refine g_goto (tgt := 12) dX12_gcd_8 (by decide) ?_
    exact g_sub2 [1] rfl (s_X12_gcd_b12 hX v1 (-v0) h)
abbrev p_X12_partOf (X : GX) (h0 : AH) : PX Int64 := (X, (fun x => Sum.inl (rJ x)), (1, 29, 5), h0)
def f_X12_partOf_b20 (x0 : Int64) (x2 : Int64) (y0 : Int64) (h : AH) : Option (Int64 × AH) :=
    bd (f_X12_gcd x0 x2 h) fun r2 h1 =>
    (if r2 = 0 then none else some ((y0 / r2), h1))
set_option maxRecDepth 100000 in
set_option maxHeartbeats 4000000 in
theorem s_X12_partOf_b20 {X : GX} (hX : XOK X) {h0 : AH} : ∀ (x0 : Int64) (x2 : Int64) (y0 : Int64) (h : AH), Gp (p_X12_partOf X h0) RX12 "partOf" cX12_partOf (some .long) 20 [(0, vJ x0), (2, vJ x2)] [vJ y0] h (f_X12_partOf_b20 x0 x2 y0 h) := by
  intro x0 x2 y0 h
  unfold f_X12_partOf_b20
  refine g_lload_n 0 dX12_partOf_20 rfl rfl ?_
  refine g_lload_n 1 dX12_partOf_21 rfl rfl ?_
  refine g_callSJ (st := [vJ y0]) (s_X12_gcd hX x0 x2 h) kml_X12_217 kst_X12_gcd kii_X12 kcd_X12_gcd ds_X12_gcd rfl ⟨Nat.le_of_ble_eq_true rfl, Nat.le_of_ble_eq_true rfl⟩ (Nat.le_of_ble_eq_true rfl) rfl dX12_partOf_22 (fun r2 h1 => ?_)
  refine g_ldiv dX12_partOf_25 ?_
  exact g_lreturn rfl dX12_partOf_26
def f_X12_partOf (v0 : Int64) (v1 : Int64) (v2 : Int32) (h : AH) : Option (Int64 × AH) :=
    (if (lg_cmp v0 0) = 0 then
    some ((Int32.toInt64 v2), h)
    else (if v2 = 0 then
    f_X12_partOf_b20 v0 v1 v0 h
    else f_X12_partOf_b20 v0 v1 v1 h))
set_option maxRecDepth 100000 in
set_option maxHeartbeats 4000000 in
theorem s_X12_partOf {X : GX} (hX : XOK X) (v0 : Int64) (v1 : Int64) (v2 : Int32) (h : AH) : Snd X yX12_partOf cX12_partOf 5 (some .long) 1 29 rJ [vJ v0, vJ v1, vI v2] h (f_X12_partOf v0 v1 v2 h) := by
  refine snd_of hX (by decide +kernel) (Nat.le_of_ble_eq_true rfl) ?_
  show Gp (p_X12_partOf X h) RX12 "partOf" cX12_partOf (some .long) 0 [(0, vJ v0), (2, vJ v1), (4, vI v2)] [] h _
  unfold f_X12_partOf
  refine g_lload_n 0 dX12_partOf_0 rfl rfl ?_
  refine g_lconst (v := 0) dX12_partOf_1 (by decide) ?_
  refine g_lcmp dX12_partOf_2 ?_
  refine g_ifne (tgt := 10) dX12_partOf_3 (by decide) ?_ ?_
  · refine g_iload 2 dX12_partOf_10 rfl ?_
    refine g_ifne (tgt := 19) dX12_partOf_12 (by decide) ?_ ?_
    · refine g_lload_n 1 dX12_partOf_19 rfl rfl ?_
      exact g_sub2 [0, 1] rfl (s_X12_partOf_b20 hX v0 v1 v1 h)
    · refine g_lload_n 0 dX12_partOf_15 rfl rfl ?_
      refine g_goto (tgt := 20) dX12_partOf_16 (by decide) ?_
      exact g_sub2 [0, 1] rfl (s_X12_partOf_b20 hX v0 v1 v0 h)
  · refine g_iload 2 dX12_partOf_6 rfl ?_
    refine g_i2l dX12_partOf_8 ?_
    exact g_lreturn rfl dX12_partOf_9
abbrev p_X12_feasts (X : GX) (h0 : AH) : PX Int64 := (X, (fun x => Sum.inl (rJ x)), (4, 86, 13), h0)
def f_X12_feasts_b209 (k73 : Option Nat → Int32 → Int32 → Int32 → Int32 → Int64 → Int64 → Int32 → AH → Option (Int64 × AH)) (x0 : Option Nat) (x1 : Int32) (x2 : Int32) (x3 : Int32) (x4 : Int32) (x7 : Int64) (x9 : Int32) (y1 : Int64) (y0 : Int64) (h : AH) : Option (Int64 × AH) :=
    nm (y0 + y1) fun t18 =>
    k73 x0 x1 x2 x3 x4 t18 x7 (x9 + 1) h
set_option maxRecDepth 100000 in
set_option maxHeartbeats 4000000 in
theorem s_X12_feasts_b209 {X : GX} (hX : XOK X) {h0 : AH} (k73 : Option Nat → Int32 → Int32 → Int32 → Int32 → Int64 → Int64 → Int32 → AH → Option (Int64 × AH)) (hk73 : ∀ (z0 : Option Nat) (z1 : Int32) (z2 : Int32) (z3 : Int32) (z4 : Int32) (z5 : Int64) (z6 : Int64) (z7 : Int32) (h : AH), Gp (p_X12_feasts X h0) RX12 "feasts" cX12_feasts (some .long) 73 [(0, vR z0), (1, vI z1), (2, vI z2), (3, vI z3), (4, vI z4), (5, vJ z5), (7, vJ z6), (9, vI z7)] [] h (k73 z0 z1 z2 z3 z4 z5 z6 z7 h)) : ∀ (x0 : Option Nat) (x1 : Int32) (x2 : Int32) (x3 : Int32) (x4 : Int32) (x7 : Int64) (x9 : Int32) (y1 : Int64) (y0 : Int64) (h : AH), Gp (p_X12_feasts X h0) RX12 "feasts" cX12_feasts (some .long) 209 [(0, vR x0), (1, vI x1), (2, vI x2), (3, vI x3), (4, vI x4), (7, vJ x7), (9, vI x9)] [vJ y1, vJ y0] h (f_X12_feasts_b209 k73 x0 x1 x2 x3 x4 x7 x9 y1 y0 h) := by
  intro x0 x1 x2 x3 x4 x7 x9 y1 y0 h
  unfold f_X12_feasts_b209
  refine g_ladd dX12_feasts_209 ?_
  refine g_nmJ (fun t18 => ?_)
  refine g_lstore (ls' := [(5, vJ t18), (0, vR x0), (1, vI x1), (2, vI x2), (3, vI x3), (4, vI x4), (7, vJ x7), (9, vI x9)]) dX12_feasts_210 (Nat.le_of_ble_eq_true rfl) rfl ?_
  refine g_iinc 7 (v := (x9 + 1)) (ls' := [(9, vI ((x9 + 1))), (5, vJ t18), (0, vR x0), (1, vI x1), (2, vI x2), (3, vI x3), (4, vI x4), (7, vJ x7)]) dX12_feasts_212 rfl rfl (Nat.le_of_ble_eq_true rfl) rfl ?_
  refine g_goto (tgt := 73) dX12_feasts_215 (by decide) ?_
  exact g_sub2 [2, 3, 4, 5, 6, 1, 7, 0] rfl (hk73 x0 x1 x2 x3 x4 t18 x7 (x9 + 1) h)
def f_X12_feasts_b175 (k73 : Option Nat → Int32 → Int32 → Int32 → Int32 → Int64 → Int64 → Int32 → AH → Option (Int64 × AH)) (k98 : Option Nat → Int32 → Int32 → Int32 → Int32 → Int64 → Int64 → Int32 → Int64 → Int32 → AH → Option (Int64 × AH)) (x0 : Option Nat) (x1 : Int32) (x2 : Int32) (x3 : Int32) (x4 : Int32) (x5 : Int64) (x7 : Int64) (x9 : Int32) (x10 : Int64) (x12 : Int32) (y2 : Int32) (y1 : Int32) (y0 : Option Nat) (h : AH) : Option (Int64 × AH) :=
    (iS h y0 y1 y2).bind fun h29 =>
    (gR h29 x0 [12] 1).bind fun t30 =>
    bd (f_X12_day t30 0 h29) fun u32 h31 =>
    k98 x0 x1 x2 x3 x4 x5 x7 x9 x10 (x12 + 1) h31
set_option maxRecDepth 100000 in
set_option maxHeartbeats 4000000 in
theorem s_X12_feasts_b175 {X : GX} (hX : XOK X) {h0 : AH} (k73 : Option Nat → Int32 → Int32 → Int32 → Int32 → Int64 → Int64 → Int32 → AH → Option (Int64 × AH)) (hk73 : ∀ (z0 : Option Nat) (z1 : Int32) (z2 : Int32) (z3 : Int32) (z4 : Int32) (z5 : Int64) (z6 : Int64) (z7 : Int32) (h : AH), Gp (p_X12_feasts X h0) RX12 "feasts" cX12_feasts (some .long) 73 [(0, vR z0), (1, vI z1), (2, vI z2), (3, vI z3), (4, vI z4), (5, vJ z5), (7, vJ z6), (9, vI z7)] [] h (k73 z0 z1 z2 z3 z4 z5 z6 z7 h)) (k98 : Option Nat → Int32 → Int32 → Int32 → Int32 → Int64 → Int64 → Int32 → Int64 → Int32 → AH → Option (Int64 × AH)) (hk98 : ∀ (z0 : Option Nat) (z1 : Int32) (z2 : Int32) (z3 : Int32) (z4 : Int32) (z5 : Int64) (z6 : Int64) (z7 : Int32) (z8 : Int64) (z9 : Int32) (h : AH), Gp (p_X12_feasts X h0) RX12 "feasts" cX12_feasts (some .long) 98 [(0, vR z0), (1, vI z1), (2, vI z2), (3, vI z3), (4, vI z4), (5, vJ z5), (7, vJ z6), (9, vI z7), (10, vJ z8), (12, vI z9)] [] h (k98 z0 z1 z2 z3 z4 z5 z6 z7 z8 z9 h)) : ∀ (x0 : Option Nat) (x1 : Int32) (x2 : Int32) (x3 : Int32) (x4 : Int32) (x5 : Int64) (x7 : Int64) (x9 : Int32) (x10 : Int64) (x12 : Int32) (y2 : Int32) (y1 : Int32) (y0 : Option Nat) (h : AH), Gp (p_X12_feasts X h0) RX12 "feasts" cX12_feasts (some .long) 175 [(0, vR x0), (1, vI x1), (2, vI x2), (3, vI x3), (4, vI x4), (5, vJ x5), (7, vJ x7), (9, vI x9), (10, vJ x10), (12, vI x12)] [vI y2, vI y1, vR y0] h (f_X12_feasts_b175 k73 k98 x0 x1 x2 x3 x4 x5 x7 x9 x10 x12 y2 y1 y0 h) := by
  intro x0 x1 x2 x3 x4 x5 x7 x9 x10 x12 y2 y1 y0 h
  unfold f_X12_feasts_b175
  refine g_iastore dX12_feasts_175 (fun h29 => ?_)
  refine g_aload_n 0 dX12_feasts_176 rfl rfl ?_
  refine g_getR kfl_X12_13 fo_X12_m dX12_feasts_177 (fun t30 => ?_)
  refine g_iconst (v := 0) dX12_feasts_180 (by decide) ?_
  refine g_callSU (st := []) (s_X12_day hX t30 0 h29) kml_X12_82 kst_X12_day kii_X12 kcd_X12_day ds_X12_day rfl ⟨Nat.le_of_ble_eq_true rfl, Nat.le_of_ble_eq_true rfl⟩ (Nat.le_of_ble_eq_true rfl) rfl dX12_feasts_181 (fun u32 h31 => ?_)
  refine g_iinc 9 (v := (x12 + 1)) (ls' := [(12, vI ((x12 + 1))), (0, vR x0), (1, vI x1), (2, vI x2), (3, vI x3), (4, vI x4), (5, vJ x5), (7, vJ x7), (9, vI x9), (10, vJ x10)]) dX12_feasts_184 rfl rfl (Nat.le_of_ble_eq_true rfl) rfl ?_
  refine g_goto (tgt := 98) dX12_feasts_187 (by decide) ?_
  exact g_sub2 [1, 2, 3, 4, 5, 6, 7, 8, 9, 0] rfl (hk98 x0 x1 x2 x3 x4 x5 x7 x9 x10 (x12 + 1) h31)
def f_X12_feasts_b124 (k73 : Option Nat → Int32 → Int32 → Int32 → Int32 → Int64 → Int64 → Int32 → AH → Option (Int64 × AH)) (k98 : Option Nat → Int32 → Int32 → Int32 → Int32 → Int64 → Int64 → Int32 → Int64 → Int32 → AH → Option (Int64 × AH)) (x0 : Option Nat) (x1 : Int32) (x2 : Int32) (x3 : Int32) (x4 : Int32) (x5 : Int64) (x7 : Int64) (x9 : Int32) (x12 : Int32) (y1 : Int64) (y0 : Int64) (h : AH) : Option (Int64 × AH) :=
    nm (y0 * y1) fun t21 =>
    (gR h x0 [12] 1).bind fun t22 =>
    bd (f_X12_has x9 x12 h) fun r24 h23 =>
    (if r24 = 0 then
    (gR h23 x0 [12] 0).bind fun t33 =>
    (iA h23 t33 3).bind fun t34 =>
    f_X12_feasts_b175 k73 k98 x0 x1 x2 x3 x4 x5 x7 x9 t21 x12 t34 3 t22 h23
    else (gR h23 x0 [12] 0).bind fun t25 =>
    (iA h23 t25 3).bind fun t26 =>
    (if t26 ≤ 6 then
    (gR h23 x0 [12] 0).bind fun t27 =>
    (iA h23 t27 3).bind fun t28 =>
    f_X12_feasts_b175 k73 k98 x0 x1 x2 x3 x4 x5 x7 x9 t21 x12 (t28 + 3) 3 t22 h23
    else f_X12_feasts_b175 k73 k98 x0 x1 x2 x3 x4 x5 x7 x9 t21 x12 9 3 t22 h23))
set_option maxRecDepth 100000 in
set_option maxHeartbeats 4000000 in
theorem s_X12_feasts_b124 {X : GX} (hX : XOK X) {h0 : AH} (k73 : Option Nat → Int32 → Int32 → Int32 → Int32 → Int64 → Int64 → Int32 → AH → Option (Int64 × AH)) (hk73 : ∀ (z0 : Option Nat) (z1 : Int32) (z2 : Int32) (z3 : Int32) (z4 : Int32) (z5 : Int64) (z6 : Int64) (z7 : Int32) (h : AH), Gp (p_X12_feasts X h0) RX12 "feasts" cX12_feasts (some .long) 73 [(0, vR z0), (1, vI z1), (2, vI z2), (3, vI z3), (4, vI z4), (5, vJ z5), (7, vJ z6), (9, vI z7)] [] h (k73 z0 z1 z2 z3 z4 z5 z6 z7 h)) (k98 : Option Nat → Int32 → Int32 → Int32 → Int32 → Int64 → Int64 → Int32 → Int64 → Int32 → AH → Option (Int64 × AH)) (hk98 : ∀ (z0 : Option Nat) (z1 : Int32) (z2 : Int32) (z3 : Int32) (z4 : Int32) (z5 : Int64) (z6 : Int64) (z7 : Int32) (z8 : Int64) (z9 : Int32) (h : AH), Gp (p_X12_feasts X h0) RX12 "feasts" cX12_feasts (some .long) 98 [(0, vR z0), (1, vI z1), (2, vI z2), (3, vI z3), (4, vI z4), (5, vJ z5), (7, vJ z6), (9, vI z7), (10, vJ z8), (12, vI z9)] [] h (k98 z0 z1 z2 z3 z4 z5 z6 z7 z8 z9 h)) : ∀ (x0 : Option Nat) (x1 : Int32) (x2 : Int32) (x3 : Int32) (x4 : Int32) (x5 : Int64) (x7 : Int64) (x9 : Int32) (x12 : Int32) (y1 : Int64) (y0 : Int64) (h : AH), Gp (p_X12_feasts X h0) RX12 "feasts" cX12_feasts (some .long) 124 [(0, vR x0), (1, vI x1), (2, vI x2), (3, vI x3), (4, vI x4), (5, vJ x5), (7, vJ x7), (9, vI x9), (12, vI x12)] [vJ y1, vJ y0] h (f_X12_feasts_b124 k73 k98 x0 x1 x2 x3 x4 x5 x7 x9 x12 y1 y0 h) := by
  intro x0 x1 x2 x3 x4 x5 x7 x9 x12 y1 y0 h
  unfold f_X12_feasts_b124
  refine g_lmul dX12_feasts_124 ?_
  refine g_nmJ (fun t21 => ?_)
  refine g_lstore (ls' := [(10, vJ t21), (0, vR x0), (1, vI x1), (2, vI x2), (3, vI x3), (4, vI x4), (5, vJ x5), (7, vJ x7), (9, vI x9), (12, vI x12)]) dX12_feasts_125 (Nat.le_of_ble_eq_true rfl) rfl ?_
  refine g_aload_n 1 dX12_feasts_127 rfl rfl ?_
  refine g_getR kfl_X12_13 fo_X12_m dX12_feasts_128 (fun t22 => ?_)
  refine g_iconst (v := 3) dX12_feasts_131 (by decide) ?_
  refine g_iload 8 dX12_feasts_132 rfl ?_
  refine g_iload 9 dX12_feasts_134 rfl ?_
  refine g_callSI (st := [vI 3, vR t22]) (s_X12_has hX x9 x12 h) kml_X12_68 kst_X12_has kii_X12 kcd_X12_has ds_X12_has rfl ⟨Nat.le_of_ble_eq_true rfl, Nat.le_of_ble_eq_true rfl⟩ (Nat.le_of_ble_eq_true rfl) rfl dX12_feasts_136 (fun r24 h23 => ?_)
  refine g_ifne (tgt := 151) dX12_feasts_139 (by decide) ?_ ?_
  · refine g_aload_n 1 dX12_feasts_151 rfl rfl ?_
    refine g_getR kfl_X12_9 fo_X12_s dX12_feasts_152 (fun t25 => ?_)
    refine g_iconst (v := 3) dX12_feasts_155 (by decide) ?_
    refine g_iaload dX12_feasts_156 (fun t26 => ?_)
    refine g_bipush (v := 6) dX12_feasts_157 (by decide) ?_
    refine g_icmple (tgt := 167) dX12_feasts_159 (by decide) ?_ ?_
    · refine g_aload_n 1 dX12_feasts_167 rfl rfl ?_
      refine g_getR kfl_X12_9 fo_X12_s dX12_feasts_168 (fun t27 => ?_)
      refine g_iconst (v := 3) dX12_feasts_171 (by decide) ?_
      refine g_iaload dX12_feasts_172 (fun t28 => ?_)
      refine g_iconst (v := 3) dX12_feasts_173 (by decide) ?_
      refine g_iadd dX12_feasts_174 ?_
      exact g_sub2 [1, 2, 3, 4, 5, 6, 7, 8, 0, 9] rfl (s_X12_feasts_b175 hX k73 (fun z0 z1 z2 z3 z4 z5 z6 z7 z8 => hk73 z0 z1 z2 z3 z4 z5 z6 z7 z8) k98 (fun z0 z1 z2 z3 z4 z5 z6 z7 z8 z9 z10 => hk98 z0 z1 z2 z3 z4 z5 z6 z7 z8 z9 z10) x0 x1 x2 x3 x4 x5 x7 x9 t21 x12 (t28 + 3) 3 t22 h23)
    · refine g_bipush (v := 9) dX12_feasts_162 (by decide) ?_
      refine g_goto (tgt := 175) dX12_feasts_164 (by decide) ?_
      exact g_sub2 [1, 2, 3, 4, 5, 6, 7, 8, 0, 9] rfl (s_X12_feasts_b175 hX k73 (fun z0 z1 z2 z3 z4 z5 z6 z7 z8 => hk73 z0 z1 z2 z3 z4 z5 z6 z7 z8) k98 (fun z0 z1 z2 z3 z4 z5 z6 z7 z8 z9 z10 => hk98 z0 z1 z2 z3 z4 z5 z6 z7 z8 z9 z10) x0 x1 x2 x3 x4 x5 x7 x9 t21 x12 9 3 t22 h23)
  · refine g_aload_n 1 dX12_feasts_142 rfl rfl ?_
    refine g_getR kfl_X12_9 fo_X12_s dX12_feasts_143 (fun t33 => ?_)
    refine g_iconst (v := 3) dX12_feasts_146 (by decide) ?_
    refine g_iaload dX12_feasts_147 (fun t34 => ?_)
    refine g_goto (tgt := 175) dX12_feasts_148 (by decide) ?_
    exact g_sub2 [1, 2, 3, 4, 5, 6, 7, 8, 0, 9] rfl (s_X12_feasts_b175 hX k73 (fun z0 z1 z2 z3 z4 z5 z6 z7 z8 => hk73 z0 z1 z2 z3 z4 z5 z6 z7 z8) k98 (fun z0 z1 z2 z3 z4 z5 z6 z7 z8 z9 z10 => hk98 z0 z1 z2 z3 z4 z5 z6 z7 z8 z9 z10) x0 x1 x2 x3 x4 x5 x7 x9 t21 x12 t34 3 t22 h23)
def f_X12_feasts_b98 (k73 : Option Nat → Int32 → Int32 → Int32 → Int32 → Int64 → Int64 → Int32 → AH → Option (Int64 × AH)) : Nat → Option Nat → Int32 → Int32 → Int32 → Int32 → Int64 → Int64 → Int32 → Int64 → Int32 → AH → Option (Int64 × AH)
  | 0 => fun _ _ _ _ _ _ _ _ _ _ _ => none
  | n + 1 => fun x0 x1 x2 x3 x4 x5 x7 x9 x10 x12 h =>
    (if x2 ≤ x12 then
    (gR h x0 [12] 1).bind fun t15 =>
    bd (f_X12_isHere t15 x1 h) fun r17 h16 =>
    (if r17 = 0 then
    f_X12_feasts_b209 k73 x0 x1 x2 x3 x4 x7 x9 x10 x5 h16
    else f_X12_feasts_b209 k73 x0 x1 x2 x3 x4 x7 x9 0 x5 h16)
    else bd (f_X12_has x9 x12 h) fun r20 h19 =>
    (if r20 = 0 then
    f_X12_feasts_b124 k73 (f_X12_feasts_b98 k73 n) x0 x1 x2 x3 x4 x5 x7 x9 x12 (Int32.toInt64 (x3 - 1)) x10 h19
    else f_X12_feasts_b124 k73 (f_X12_feasts_b98 k73 n) x0 x1 x2 x3 x4 x5 x7 x9 x12 1 x10 h19))
set_option maxRecDepth 100000 in
set_option maxHeartbeats 4000000 in
theorem s_X12_feasts_b98 {X : GX} (hX : XOK X) {h0 : AH} (k73 : Option Nat → Int32 → Int32 → Int32 → Int32 → Int64 → Int64 → Int32 → AH → Option (Int64 × AH)) (hk73 : ∀ (z0 : Option Nat) (z1 : Int32) (z2 : Int32) (z3 : Int32) (z4 : Int32) (z5 : Int64) (z6 : Int64) (z7 : Int32) (h : AH), Gp (p_X12_feasts X h0) RX12 "feasts" cX12_feasts (some .long) 73 [(0, vR z0), (1, vI z1), (2, vI z2), (3, vI z3), (4, vI z4), (5, vJ z5), (7, vJ z6), (9, vI z7)] [] h (k73 z0 z1 z2 z3 z4 z5 z6 z7 h)) : ∀ (n : Nat) (x0 : Option Nat) (x1 : Int32) (x2 : Int32) (x3 : Int32) (x4 : Int32) (x5 : Int64) (x7 : Int64) (x9 : Int32) (x10 : Int64) (x12 : Int32) (h : AH), Gp (p_X12_feasts X h0) RX12 "feasts" cX12_feasts (some .long) 98 [(0, vR x0), (1, vI x1), (2, vI x2), (3, vI x3), (4, vI x4), (5, vJ x5), (7, vJ x7), (9, vI x9), (10, vJ x10), (12, vI x12)] [] h (f_X12_feasts_b98 k73 n x0 x1 x2 x3 x4 x5 x7 x9 x10 x12 h) := by
  intro n
  induction n with
  | zero => intro x0 x1 x2 x3 x4 x5 x7 x9 x10 x12 h; exact g_none
  | succ n ih =>
    intro x0 x1 x2 x3 x4 x5 x7 x9 x10 x12 h
    rw [f_X12_feasts_b98]
    refine g_iload 9 dX12_feasts_98 rfl ?_
    refine g_iload_n 2 dX12_feasts_100 rfl rfl ?_
    refine g_icmpge (tgt := 190) dX12_feasts_101 (by decide) ?_ ?_
    · refine g_lload 5 dX12_feasts_190 rfl ?_
      refine g_aload_n 0 dX12_feasts_192 rfl rfl ?_
      refine g_getR kfl_X12_13 fo_X12_m dX12_feasts_193 (fun t15 => ?_)
      refine g_iload_n 1 dX12_feasts_196 rfl rfl ?_
      refine g_callSI (st := [vJ x5]) (s_X12_isHere hX t15 x1 h) kml_X12_61 kst_X12_isHere kii_X12 kcd_X12_isHere ds_X12_isHere rfl ⟨Nat.le_of_ble_eq_true rfl, Nat.le_of_ble_eq_true rfl⟩ (Nat.le_of_ble_eq_true rfl) rfl dX12_feasts_197 (fun r17 h16 => ?_)
      refine g_ifeq (tgt := 207) dX12_feasts_200 (by decide) ?_ ?_
      · refine g_lload 8 dX12_feasts_207 rfl ?_
        exact g_sub2 [0, 1, 2, 3, 4, 6, 7] rfl (s_X12_feasts_b209 hX k73 (fun z0 z1 z2 z3 z4 z5 z6 z7 z8 => hk73 z0 z1 z2 z3 z4 z5 z6 z7 z8) x0 x1 x2 x3 x4 x7 x9 x10 x5 h16)
      · refine g_lconst (v := 0) dX12_feasts_203 (by decide) ?_
        refine g_goto (tgt := 209) dX12_feasts_204 (by decide) ?_
        exact g_sub2 [0, 1, 2, 3, 4, 6, 7] rfl (s_X12_feasts_b209 hX k73 (fun z0 z1 z2 z3 z4 z5 z6 z7 z8 => hk73 z0 z1 z2 z3 z4 z5 z6 z7 z8) x0 x1 x2 x3 x4 x7 x9 0 x5 h16)
    · refine g_lload 8 dX12_feasts_104 rfl ?_
      refine g_iload 7 dX12_feasts_106 rfl ?_
      refine g_iload 9 dX12_feasts_108 rfl ?_
      refine g_callSI (st := [vJ x10]) (s_X12_has hX x9 x12 h) kml_X12_68 kst_X12_has kii_X12 kcd_X12_has ds_X12_has rfl ⟨Nat.le_of_ble_eq_true rfl, Nat.le_of_ble_eq_true rfl⟩ (Nat.le_of_ble_eq_true rfl) rfl dX12_feasts_110 (fun r20 h19 => ?_)
      refine g_ifeq (tgt := 120) dX12_feasts_113 (by decide) ?_ ?_
      · refine g_iload_n 3 dX12_feasts_120 rfl rfl ?_
        refine g_iconst (v := 1) dX12_feasts_121 (by decide) ?_
        refine g_isub dX12_feasts_122 ?_
        refine g_i2l dX12_feasts_123 ?_
        exact g_sub2 [0, 1, 2, 3, 4, 5, 6, 7, 9] rfl (s_X12_feasts_b124 hX k73 (fun z0 z1 z2 z3 z4 z5 z6 z7 z8 => hk73 z0 z1 z2 z3 z4 z5 z6 z7 z8) (f_X12_feasts_b98 k73 n) (fun z0 z1 z2 z3 z4 z5 z6 z7 z8 z9 z10 => ih z0 z1 z2 z3 z4 z5 z6 z7 z8 z9 z10) x0 x1 x2 x3 x4 x5 x7 x9 x12 (Int32.toInt64 (x3 - 1)) x10 h19)
      · refine g_lconst (v := 1) dX12_feasts_116 (by decide) ?_
        refine g_goto (tgt := 124) dX12_feasts_117 (by decide) ?_
        exact g_sub2 [0, 1, 2, 3, 4, 5, 6, 7, 9] rfl (s_X12_feasts_b124 hX k73 (fun z0 z1 z2 z3 z4 z5 z6 z7 z8 => hk73 z0 z1 z2 z3 z4 z5 z6 z7 z8) (f_X12_feasts_b98 k73 n) (fun z0 z1 z2 z3 z4 z5 z6 z7 z8 z9 z10 => ih z0 z1 z2 z3 z4 z5 z6 z7 z8 z9 z10) x0 x1 x2 x3 x4 x5 x7 x9 x12 1 x10 h19)
def f_X12_feasts_b73 : Nat → Option Nat → Int32 → Int32 → Int32 → Int32 → Int64 → Int64 → Int32 → AH → Option (Int64 × AH)
  | 0 => fun _ _ _ _ _ _ _ _ _ => none
  | n + 1 => fun x0 x1 x2 x3 x4 x5 x7 x9 h =>
    (if ((1 : Int32) <<< (x2 &&& 31)) ≤ x9 then
    bd (f_X12_partOf x5 x7 x4 h) fun r10 h9 =>
    some (r10, h9)
    else (gR h x0 [12] 0).bind fun t11 =>
    (gR h x0 [12] 1).bind fun t12 =>
    bd (f_X12_copies t11 t12 h) fun u14 h13 =>
    f_X12_feasts_b98 (f_X12_feasts_b73 n) FU x0 x1 x2 x3 x4 x5 x7 x9 1 0 h13)
set_option maxRecDepth 100000 in
set_option maxHeartbeats 4000000 in
theorem s_X12_feasts_b73 {X : GX} (hX : XOK X) {h0 : AH} : ∀ (n : Nat) (x0 : Option Nat) (x1 : Int32) (x2 : Int32) (x3 : Int32) (x4 : Int32) (x5 : Int64) (x7 : Int64) (x9 : Int32) (h : AH), Gp (p_X12_feasts X h0) RX12 "feasts" cX12_feasts (some .long) 73 [(0, vR x0), (1, vI x1), (2, vI x2), (3, vI x3), (4, vI x4), (5, vJ x5), (7, vJ x7), (9, vI x9)] [] h (f_X12_feasts_b73 n x0 x1 x2 x3 x4 x5 x7 x9 h) := by
  intro n
  induction n with
  | zero => intro x0 x1 x2 x3 x4 x5 x7 x9 h; exact g_none
  | succ n ih =>
    intro x0 x1 x2 x3 x4 x5 x7 x9 h
    rw [f_X12_feasts_b73]
    refine g_iload 7 dX12_feasts_73 rfl ?_
    refine g_iconst (v := 1) dX12_feasts_75 (by decide) ?_
    refine g_iload_n 2 dX12_feasts_76 rfl rfl ?_
    refine g_ishl dX12_feasts_77 ?_
    refine g_icmpge (tgt := 218) dX12_feasts_78 (by decide) ?_ ?_
    · refine g_lload 5 dX12_feasts_218 rfl ?_
      refine g_lload 6 dX12_feasts_220 rfl ?_
      refine g_iload 4 dX12_feasts_222 rfl ?_
      refine g_callSJ (st := []) (s_X12_partOf hX x5 x7 x4 h) kml_X12_223 kst_X12_partOf kii_X12 kcd_X12_partOf ds_X12_partOf rfl ⟨Nat.le_of_ble_eq_true rfl, Nat.le_of_ble_eq_true rfl⟩ (Nat.le_of_ble_eq_true rfl) rfl dX12_feasts_224 (fun r10 h9 => ?_)
      exact g_lreturn rfl dX12_feasts_227
    · refine g_lconst (v := 1) dX12_feasts_81 (by decide) ?_
      refine g_lstore (ls' := [(10, vJ 1), (0, vR x0), (1, vI x1), (2, vI x2), (3, vI x3), (4, vI x4), (5, vJ x5), (7, vJ x7), (9, vI x9)]) dX12_feasts_82 (Nat.le_of_ble_eq_true rfl) rfl ?_
      refine g_aload_n 1 dX12_feasts_84 rfl rfl ?_
      refine g_getR kfl_X12_9 fo_X12_s dX12_feasts_85 (fun t11 => ?_)
      refine g_aload_n 1 dX12_feasts_88 rfl rfl ?_
      refine g_getR kfl_X12_13 fo_X12_m dX12_feasts_89 (fun t12 => ?_)
      refine g_callSU (st := []) (s_X12_copies hX t11 t12 h) kml_X12_141 kst_X12_copies kii_X12 kcd_X12_copies ds_X12_copies rfl ⟨Nat.le_of_ble_eq_true rfl, Nat.le_of_ble_eq_true rfl⟩ (Nat.le_of_ble_eq_true rfl) rfl dX12_feasts_92 (fun u14 h13 => ?_)
      refine g_iconst (v := 0) dX12_feasts_95 (by decide) ?_
      refine g_istore (ls' := [(12, vI 0), (10, vJ 1), (0, vR x0), (1, vI x1), (2, vI x2), (3, vI x3), (4, vI x4), (5, vJ x5), (7, vJ x7), (9, vI x9)]) dX12_feasts_96 (Nat.le_of_ble_eq_true rfl) rfl ?_
      exact g_sub2 [2, 3, 4, 5, 6, 7, 8, 9, 1, 0] rfl (s_X12_feasts_b98 hX (f_X12_feasts_b73 n) (fun z0 z1 z2 z3 z4 z5 z6 z7 z8 => ih z0 z1 z2 z3 z4 z5 z6 z7 z8) FU x0 x1 x2 x3 x4 x5 x7 x9 1 0 h13)
def f_X12_feasts_b51 : Nat → Option Nat → Int32 → Int32 → Int32 → Int32 → Int64 → Int64 → Int32 → AH → Option (Int64 × AH)
  | 0 => fun _ _ _ _ _ _ _ _ _ => none
  | n + 1 => fun x0 x1 x2 x3 x4 x5 x7 x9 h =>
    (if x2 ≤ x9 then
    f_X12_feasts_b73 FU x0 x1 x2 x3 x4 x5 x7 0 h
    else nm (x7 * (Int32.toInt64 x3)) fun t35 =>
    f_X12_feasts_b51 n x0 x1 x2 x3 x4 x5 t35 (x9 + 1) h)
set_option maxRecDepth 100000 in
set_option maxHeartbeats 4000000 in
theorem s_X12_feasts_b51 {X : GX} (hX : XOK X) {h0 : AH} : ∀ (n : Nat) (x0 : Option Nat) (x1 : Int32) (x2 : Int32) (x3 : Int32) (x4 : Int32) (x5 : Int64) (x7 : Int64) (x9 : Int32) (h : AH), Gp (p_X12_feasts X h0) RX12 "feasts" cX12_feasts (some .long) 51 [(0, vR x0), (1, vI x1), (2, vI x2), (3, vI x3), (4, vI x4), (5, vJ x5), (7, vJ x7), (9, vI x9)] [] h (f_X12_feasts_b51 n x0 x1 x2 x3 x4 x5 x7 x9 h) := by
  intro n
  induction n with
  | zero => intro x0 x1 x2 x3 x4 x5 x7 x9 h; exact g_none
  | succ n ih =>
    intro x0 x1 x2 x3 x4 x5 x7 x9 h
    rw [f_X12_feasts_b51]
    refine g_iload 7 dX12_feasts_51 rfl ?_
    refine g_iload_n 2 dX12_feasts_53 rfl rfl ?_
    refine g_icmpge (tgt := 70) dX12_feasts_54 (by decide) ?_ ?_
    · refine g_iconst (v := 0) dX12_feasts_70 (by decide) ?_
      refine g_istore (ls' := [(9, vI 0), (0, vR x0), (1, vI x1), (2, vI x2), (3, vI x3), (4, vI x4), (5, vJ x5), (7, vJ x7)]) dX12_feasts_71 (Nat.le_of_ble_eq_true rfl) rfl ?_
      exact g_sub2 [1, 2, 3, 4, 5, 6, 7, 0] rfl (s_X12_feasts_b73 hX FU x0 x1 x2 x3 x4 x5 x7 0 h)
    · refine g_lload 6 dX12_feasts_57 rfl ?_
      refine g_iload_n 3 dX12_feasts_59 rfl rfl ?_
      refine g_i2l dX12_feasts_60 ?_
      refine g_lmul dX12_feasts_61 ?_
      refine g_nmJ (fun t35 => ?_)
      refine g_lstore (ls' := [(7, vJ t35), (0, vR x0), (1, vI x1), (2, vI x2), (3, vI x3), (4, vI x4), (5, vJ x5), (9, vI x9)]) dX12_feasts_62 (Nat.le_of_ble_eq_true rfl) rfl ?_
      refine g_iinc 7 (v := (x9 + 1)) (ls' := [(9, vI ((x9 + 1))), (7, vJ t35), (0, vR x0), (1, vI x1), (2, vI x2), (3, vI x3), (4, vI x4), (5, vJ x5)]) dX12_feasts_64 rfl rfl (Nat.le_of_ble_eq_true rfl) rfl ?_
      refine g_goto (tgt := 51) dX12_feasts_67 (by decide) ?_
      exact g_sub2 [2, 3, 4, 5, 6, 7, 1, 0] rfl (ih x0 x1 x2 x3 x4 x5 t35 (x9 + 1) h)
def f_X12_feasts (v0 : Option Nat) (v1 : Int32) (v2 : Int32) (v3 : Int32) (v4 : Int32) (h : AH) : Option (Int64 × AH) :=
    bd (cv h v0 12 (f_X12_isGuest v0 v1 h)) fun r2 h1 =>
    (if r2 = 0 then
    some (1000000001, h1)
    else bd (f_X12_isIn v2 0 7 h1) fun r4 h3 =>
    (if r4 = 0 then
    some (1000000001, h3)
    else bd (f_X12_isIn v3 2 20 h3) fun r6 h5 =>
    (if r6 = 0 then
    some (1000000001, h5)
    else bd (f_X12_isIn v4 0 1 h5) fun r8 h7 =>
    (if r8 = 0 then
    some (1000000001, h7)
    else f_X12_feasts_b51 FU v0 v1 v2 v3 v4 0 1 0 h7))))
set_option maxRecDepth 100000 in
set_option maxHeartbeats 4000000 in
theorem s_X12_feasts {X : GX} (hX : XOK X) (v0 : Option Nat) (v1 : Int32) (v2 : Int32) (v3 : Int32) (v4 : Int32) (h : AH) : Snd X yX12_feasts cX12_feasts 13 (some .long) 4 86 rJ [vR v0, vI v1, vI v2, vI v3, vI v4] h (f_X12_feasts v0 v1 v2 v3 v4 h) := by
  refine snd_of hX (by decide +kernel) (Nat.le_of_ble_eq_true rfl) ?_
  show Gp (p_X12_feasts X h) RX12 "feasts" cX12_feasts (some .long) 0 [(0, vR v0), (1, vI v1), (2, vI v2), (3, vI v3), (4, vI v4)] [] h _
  unfold f_X12_feasts
  refine g_aload_n 0 dX12_feasts_0 rfl rfl ?_
  refine g_iload_n 1 dX12_feasts_1 rfl rfl ?_
  refine g_callVI (st := []) (ci := 12) rfl (s_X12_isGuest hX v0 v1 h) kml_X12_113 kim_X12_isGuest kse_X12_isGuest kii_X12 kcd_X12_isGuest rfl ds_X12_isGuest rfl ⟨Nat.le_of_ble_eq_true rfl, Nat.le_of_ble_eq_true rfl⟩ (Nat.le_of_ble_eq_true rfl) rfl dX12_feasts_2 (fun r2 h1 => ?_)
  refine g_ifeq (tgt := 38) dX12_feasts_5 (by decide) ?_ ?_
  · refine g_ldc2 kco_X12_221 dX12_feasts_38 ?_
    exact g_lreturn rfl dX12_feasts_41
  · refine g_iload_n 2 dX12_feasts_8 rfl rfl ?_
    refine g_iconst (v := 0) dX12_feasts_9 (by decide) ?_
    refine g_bipush (v := 7) dX12_feasts_10 (by decide) ?_
    refine g_callSI (st := []) (s_X12_isIn hX v2 0 7 h1) kml_X12_49 kst_X12_isIn kii_X12 kcd_X12_isIn ds_X12_isIn rfl ⟨Nat.le_of_ble_eq_true rfl, Nat.le_of_ble_eq_true rfl⟩ (Nat.le_of_ble_eq_true rfl) rfl dX12_feasts_12 (fun r4 h3 => ?_)
    refine g_ifeq (tgt := 38) dX12_feasts_15 (by decide) ?_ ?_
    · refine g_ldc2 kco_X12_221 dX12_feasts_38 ?_
      exact g_lreturn rfl dX12_feasts_41
    · refine g_iload_n 3 dX12_feasts_18 rfl rfl ?_
      refine g_iconst (v := 2) dX12_feasts_19 (by decide) ?_
      refine g_bipush (v := 20) dX12_feasts_20 (by decide) ?_
      refine g_callSI (st := []) (s_X12_isIn hX v3 2 20 h3) kml_X12_49 kst_X12_isIn kii_X12 kcd_X12_isIn ds_X12_isIn rfl ⟨Nat.le_of_ble_eq_true rfl, Nat.le_of_ble_eq_true rfl⟩ (Nat.le_of_ble_eq_true rfl) rfl dX12_feasts_22 (fun r6 h5 => ?_)
      refine g_ifeq (tgt := 38) dX12_feasts_25 (by decide) ?_ ?_
      · refine g_ldc2 kco_X12_221 dX12_feasts_38 ?_
        exact g_lreturn rfl dX12_feasts_41
      · refine g_iload 4 dX12_feasts_28 rfl ?_
        refine g_iconst (v := 0) dX12_feasts_30 (by decide) ?_
        refine g_iconst (v := 1) dX12_feasts_31 (by decide) ?_
        refine g_callSI (st := []) (s_X12_isIn hX v4 0 1 h5) kml_X12_49 kst_X12_isIn kii_X12 kcd_X12_isIn ds_X12_isIn rfl ⟨Nat.le_of_ble_eq_true rfl, Nat.le_of_ble_eq_true rfl⟩ (Nat.le_of_ble_eq_true rfl) rfl dX12_feasts_32 (fun r8 h7 => ?_)
        refine g_ifne (tgt := 42) dX12_feasts_35 (by decide) ?_ ?_
        · refine g_lconst (v := 0) dX12_feasts_42 (by decide) ?_
          refine g_lstore (ls' := [(5, vJ 0), (0, vR v0), (1, vI v1), (2, vI v2), (3, vI v3), (4, vI v4)]) dX12_feasts_43 (Nat.le_of_ble_eq_true rfl) rfl ?_
          refine g_lconst (v := 1) dX12_feasts_45 (by decide) ?_
          refine g_lstore (ls' := [(7, vJ 1), (5, vJ 0), (0, vR v0), (1, vI v1), (2, vI v2), (3, vI v3), (4, vI v4)]) dX12_feasts_46 (Nat.le_of_ble_eq_true rfl) rfl ?_
          refine g_iconst (v := 0) dX12_feasts_48 (by decide) ?_
          refine g_istore (ls' := [(9, vI 0), (7, vJ 1), (5, vJ 0), (0, vR v0), (1, vI v1), (2, vI v2), (3, vI v3), (4, vI v4)]) dX12_feasts_49 (Nat.le_of_ble_eq_true rfl) rfl ?_
          exact g_sub2 [3, 4, 5, 6, 7, 2, 1, 0] rfl (s_X12_feasts_b51 hX FU v0 v1 v2 v3 v4 0 1 0 h7)
        · refine g_ldc2 kco_X12_221 dX12_feasts_38 ?_
          exact g_lreturn rfl dX12_feasts_41
