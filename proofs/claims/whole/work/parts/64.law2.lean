/-! THE LAW: the switch, the loop, the start, by wip/whole/law.py -/
def f_L_sw (b Ls : Nat) (xs : Nat → Int32) (K : AH → Option (Int32 × AH)) (v1 v2 v3 : Option Nat) (x4 x : Int32) (h : AH) : Option (Int32 × AH) :=
    (if x = 0 then
    f_L_c0 b Ls xs K v1 v2 v3 x4 h
    else (if x = 1 then
    f_L_c1 b Ls xs K v1 v2 v3 x4 h
    else (if x = 2 then
    f_L_c2 b Ls xs K v1 v2 v3 x4 h
    else (if x = 3 then
    f_L_c3 b Ls xs K v1 v2 v3 x4 h
    else (if x = 4 then
    f_L_c4 b Ls xs K v1 v2 v3 x4 h
    else (if x = 5 then
    f_L_c5 b Ls xs K v1 v2 v3 x4 h
    else (if x = 6 then
    f_L_c6 b Ls xs K v1 v2 v3 x4 h
    else (if x = 7 then
    f_L_c7 b Ls xs K v1 v2 v3 x4 h
    else (if x = 8 then
    f_L_c8 b Ls xs K v1 v2 v3 x4 h
    else (if x = 9 then
    f_L_c9 b Ls xs K v1 v2 v3 x4 h
    else (if x = 10 then
    f_L_c10 b Ls xs K v1 v2 v3 x4 h
    else (if x = 11 then
    f_L_c11 b Ls xs K v1 v2 v3 x4 h
    else (if x = 12 then
    f_L_c12 b Ls xs K v1 v2 v3 x4 h
    else (if x = 13 then
    f_L_c13 b Ls xs K v1 v2 v3 x4 h
    else (if x = 14 then
    f_L_c14 b Ls xs K v1 v2 v3 x4 h
    else (if x = 15 then
    f_L_c15 b Ls xs K v1 v2 v3 x4 h
    else (if x = 16 then
    f_L_c16 b Ls xs K v1 v2 v3 x4 h
    else (if x = 17 then
    f_L_c17 b Ls xs K v1 v2 v3 x4 h
    else (if x = 18 then
    f_L_c18 b Ls xs K v1 v2 v3 x4 h
    else (if x = 19 then
    f_L_c19 b Ls xs K v1 v2 v3 x4 h
    else (if x = 20 then
    f_L_c20 b Ls xs K v1 v2 v3 x4 h
    else (if x = 21 then
    f_L_c21 b Ls xs K v1 v2 v3 x4 h
    else (if x = 22 then
    f_L_c22 b Ls xs K v1 v2 v3 x4 h
    else (if x = 23 then
    f_L_c23 b Ls xs K v1 v2 v3 x4 h
    else (if x = 24 then
    f_L_c24 b Ls xs K v1 v2 v3 x4 h
    else (if x = 25 then
    f_L_c25 b Ls xs K v1 v2 v3 x4 h
    else (if x = 26 then
    f_L_c26 b Ls xs K v1 v2 v3 x4 h
    else (if x = 27 then
    f_L_c27 b Ls xs K v1 v2 v3 x4 h
    else (if x = 28 then
    f_L_c28 b Ls xs K v1 v2 v3 x4 h
    else (if x = 29 then
    f_L_c29 b Ls xs K v1 v2 v3 x4 h
    else (if x = 30 then
    f_L_c30 b Ls xs K v1 v2 v3 x4 h
    else (if x = 31 then
    f_L_c31 b Ls xs K v1 v2 v3 x4 h
    else (if x = 32 then
    f_L_c32 b Ls xs K v1 v2 v3 x4 h
    else (if x = 33 then
    f_L_c33 b Ls xs K v1 v2 v3 x4 h
    else (if x = 34 then
    f_L_c34 b Ls xs K v1 v2 v3 x4 h
    else (if x = 35 then
    f_L_c35 b Ls xs K v1 v2 v3 x4 h
    else (if x = 36 then
    f_L_c36 b Ls xs K v1 v2 v3 x4 h
    else (if x = 37 then
    f_L_c37 b Ls xs K v1 v2 v3 x4 h
    else K h))))))))))))))))))))))))))))))))))))))
set_option maxRecDepth 100000 in
set_option maxHeartbeats 4000000 in
theorem s_L_sw {mn : String} {X : GX} (hX : XOK X) {b Ls : Nat} {xs : Nat → Int32} (hs : Scr X b Ls xs) {h0 : AH} {K : AH → Option (Int32 × AH)} {v1 v2 v3 : Option Nat} {x4 x : Int32} (hK : ∀ h, Gp (p_L_law X h0) RL mn cL_law (some .boolean) 1550 [(0, vV (.ref b)), (1, vR v1), (2, vR v2), (3, vR v3), (4, vI x4)] [] h (K h)) (h : AH) : Gp (p_L_law X h0) RL mn cL_law (some .boolean) 40 [(0, vV (.ref b)), (1, vR v1), (2, vR v2), (3, vR v3), (4, vI x4)] [vI x] h (f_L_sw b Ls xs K v1 v2 v3 x4 x h) := by
  unfold f_L_sw
  refine g_tsIn (c := 0) (off := 168) (tgt := 208) dL_law_40 (by decide) (by decide) (by decide) (by decide) (s_L_c0 hX hs hK h) (fun n0 => ?_)
  refine g_tsIn (c := 1) (off := 193) (tgt := 233) dL_law_40 (by decide) (by decide) (by decide) (by decide) (s_L_c1 hX hs hK h) (fun n1 => ?_)
  refine g_tsIn (c := 2) (off := 230) (tgt := 270) dL_law_40 (by decide) (by decide) (by decide) (by decide) (s_L_c2 hX hs hK h) (fun n2 => ?_)
  refine g_tsIn (c := 3) (off := 267) (tgt := 307) dL_law_40 (by decide) (by decide) (by decide) (by decide) (s_L_c3 hX hs hK h) (fun n3 => ?_)
  refine g_tsIn (c := 4) (off := 292) (tgt := 332) dL_law_40 (by decide) (by decide) (by decide) (by decide) (s_L_c4 hX hs hK h) (fun n4 => ?_)
  refine g_tsIn (c := 5) (off := 341) (tgt := 381) dL_law_40 (by decide) (by decide) (by decide) (by decide) (s_L_c5 hX hs hK h) (fun n5 => ?_)
  refine g_tsIn (c := 6) (off := 378) (tgt := 418) dL_law_40 (by decide) (by decide) (by decide) (by decide) (s_L_c6 hX hs hK h) (fun n6 => ?_)
  refine g_tsIn (c := 7) (off := 415) (tgt := 455) dL_law_40 (by decide) (by decide) (by decide) (by decide) (s_L_c7 hX hs hK h) (fun n7 => ?_)
  refine g_tsIn (c := 8) (off := 440) (tgt := 480) dL_law_40 (by decide) (by decide) (by decide) (by decide) (s_L_c8 hX hs hK h) (fun n8 => ?_)
  refine g_tsIn (c := 9) (off := 477) (tgt := 517) dL_law_40 (by decide) (by decide) (by decide) (by decide) (s_L_c9 hX hs hK h) (fun n9 => ?_)
  refine g_tsIn (c := 10) (off := 514) (tgt := 554) dL_law_40 (by decide) (by decide) (by decide) (by decide) (s_L_c10 hX hs hK h) (fun n10 => ?_)
  refine g_tsIn (c := 11) (off := 539) (tgt := 579) dL_law_40 (by decide) (by decide) (by decide) (by decide) (s_L_c11 hX hs hK h) (fun n11 => ?_)
  refine g_tsIn (c := 12) (off := 564) (tgt := 604) dL_law_40 (by decide) (by decide) (by decide) (by decide) (s_L_c12 hX hs hK h) (fun n12 => ?_)
  refine g_tsIn (c := 13) (off := 601) (tgt := 641) dL_law_40 (by decide) (by decide) (by decide) (by decide) (s_L_c13 hX hs hK h) (fun n13 => ?_)
  refine g_tsIn (c := 14) (off := 626) (tgt := 666) dL_law_40 (by decide) (by decide) (by decide) (by decide) (s_L_c14 hX hs hK h) (fun n14 => ?_)
  refine g_tsIn (c := 15) (off := 651) (tgt := 691) dL_law_40 (by decide) (by decide) (by decide) (by decide) (s_L_c15 hX hs hK h) (fun n15 => ?_)
  refine g_tsIn (c := 16) (off := 688) (tgt := 728) dL_law_40 (by decide) (by decide) (by decide) (by decide) (s_L_c16 hX hs hK h) (fun n16 => ?_)
  refine g_tsIn (c := 17) (off := 713) (tgt := 753) dL_law_40 (by decide) (by decide) (by decide) (by decide) (s_L_c17 hX hs hK h) (fun n17 => ?_)
  refine g_tsIn (c := 18) (off := 738) (tgt := 778) dL_law_40 (by decide) (by decide) (by decide) (by decide) (s_L_c18 hX hs hK h) (fun n18 => ?_)
  refine g_tsIn (c := 19) (off := 751) (tgt := 791) dL_law_40 (by decide) (by decide) (by decide) (by decide) (s_L_c19 hX hs hK h) (fun n19 => ?_)
  refine g_tsIn (c := 20) (off := 776) (tgt := 816) dL_law_40 (by decide) (by decide) (by decide) (by decide) (s_L_c20 hX hs hK h) (fun n20 => ?_)
  refine g_tsIn (c := 21) (off := 825) (tgt := 865) dL_law_40 (by decide) (by decide) (by decide) (by decide) (s_L_c21 hX hs hK h) (fun n21 => ?_)
  refine g_tsIn (c := 22) (off := 874) (tgt := 914) dL_law_40 (by decide) (by decide) (by decide) (by decide) (s_L_c22 hX hs hK h) (fun n22 => ?_)
  refine g_tsIn (c := 23) (off := 923) (tgt := 963) dL_law_40 (by decide) (by decide) (by decide) (by decide) (s_L_c23 hX hs hK h) (fun n23 => ?_)
  refine g_tsIn (c := 24) (off := 985) (tgt := 1025) dL_law_40 (by decide) (by decide) (by decide) (by decide) (s_L_c24 hX hs hK h) (fun n24 => ?_)
  refine g_tsIn (c := 25) (off := 1011) (tgt := 1051) dL_law_40 (by decide) (by decide) (by decide) (by decide) (s_L_c25 hX hs hK h) (fun n25 => ?_)
  refine g_tsIn (c := 26) (off := 1036) (tgt := 1076) dL_law_40 (by decide) (by decide) (by decide) (by decide) (s_L_c26 hX hs hK h) (fun n26 => ?_)
  refine g_tsIn (c := 27) (off := 1061) (tgt := 1101) dL_law_40 (by decide) (by decide) (by decide) (by decide) (s_L_c27 hX hs hK h) (fun n27 => ?_)
  refine g_tsIn (c := 28) (off := 1110) (tgt := 1150) dL_law_40 (by decide) (by decide) (by decide) (by decide) (s_L_c28 hX hs hK h) (fun n28 => ?_)
  refine g_tsIn (c := 29) (off := 1123) (tgt := 1163) dL_law_40 (by decide) (by decide) (by decide) (by decide) (s_L_c29 hX hs hK h) (fun n29 => ?_)
  refine g_tsIn (c := 30) (off := 1136) (tgt := 1176) dL_law_40 (by decide) (by decide) (by decide) (by decide) (s_L_c30 hX hs hK h) (fun n30 => ?_)
  refine g_tsIn (c := 31) (off := 1161) (tgt := 1201) dL_law_40 (by decide) (by decide) (by decide) (by decide) (s_L_c31 hX hs hK h) (fun n31 => ?_)
  refine g_tsIn (c := 32) (off := 1222) (tgt := 1262) dL_law_40 (by decide) (by decide) (by decide) (by decide) (s_L_c32 hX hs hK h) (fun n32 => ?_)
  refine g_tsIn (c := 33) (off := 1271) (tgt := 1311) dL_law_40 (by decide) (by decide) (by decide) (by decide) (s_L_c33 hX hs hK h) (fun n33 => ?_)
  refine g_tsIn (c := 34) (off := 1320) (tgt := 1360) dL_law_40 (by decide) (by decide) (by decide) (by decide) (s_L_c34 hX hs hK h) (fun n34 => ?_)
  refine g_tsIn (c := 35) (off := 1387) (tgt := 1427) dL_law_40 (by decide) (by decide) (by decide) (by decide) (s_L_c35 hX hs hK h) (fun n35 => ?_)
  refine g_tsIn (c := 36) (off := 1460) (tgt := 1500) dL_law_40 (by decide) (by decide) (by decide) (by decide) (s_L_c36 hX hs hK h) (fun n36 => ?_)
  refine g_tsIn (c := 37) (off := 1485) (tgt := 1525) dL_law_40 (by decide) (by decide) (by decide) (by decide) (s_L_c37 hX hs hK h) (fun n37 => ?_)
  exact g_tsDef (tgt := 1550) (keys := [0, 1, 2, 3, 4, 5, 6, 7, 8, 9, 10, 11, 12, 13, 14, 15, 16, 17, 18, 19, 20, 21, 22, 23, 24, 25, 26, 27, 28, 29, 30, 31, 32, 33, 34, 35, 36, 37]) (neK_cons (c := 0) (k := 0) n0 (by decide) (neK_cons (c := 1) (k := 1) n1 (by decide) (neK_cons (c := 2) (k := 2) n2 (by decide) (neK_cons (c := 3) (k := 3) n3 (by decide) (neK_cons (c := 4) (k := 4) n4 (by decide) (neK_cons (c := 5) (k := 5) n5 (by decide) (neK_cons (c := 6) (k := 6) n6 (by decide) (neK_cons (c := 7) (k := 7) n7 (by decide) (neK_cons (c := 8) (k := 8) n8 (by decide) (neK_cons (c := 9) (k := 9) n9 (by decide) (neK_cons (c := 10) (k := 10) n10 (by decide) (neK_cons (c := 11) (k := 11) n11 (by decide) (neK_cons (c := 12) (k := 12) n12 (by decide) (neK_cons (c := 13) (k := 13) n13 (by decide) (neK_cons (c := 14) (k := 14) n14 (by decide) (neK_cons (c := 15) (k := 15) n15 (by decide) (neK_cons (c := 16) (k := 16) n16 (by decide) (neK_cons (c := 17) (k := 17) n17 (by decide) (neK_cons (c := 18) (k := 18) n18 (by decide) (neK_cons (c := 19) (k := 19) n19 (by decide) (neK_cons (c := 20) (k := 20) n20 (by decide) (neK_cons (c := 21) (k := 21) n21 (by decide) (neK_cons (c := 22) (k := 22) n22 (by decide) (neK_cons (c := 23) (k := 23) n23 (by decide) (neK_cons (c := 24) (k := 24) n24 (by decide) (neK_cons (c := 25) (k := 25) n25 (by decide) (neK_cons (c := 26) (k := 26) n26 (by decide) (neK_cons (c := 27) (k := 27) n27 (by decide) (neK_cons (c := 28) (k := 28) n28 (by decide) (neK_cons (c := 29) (k := 29) n29 (by decide) (neK_cons (c := 30) (k := 30) n30 (by decide) (neK_cons (c := 31) (k := 31) n31 (by decide) (neK_cons (c := 32) (k := 32) n32 (by decide) (neK_cons (c := 33) (k := 33) n33 (by decide) (neK_cons (c := 34) (k := 34) n34 (by decide) (neK_cons (c := 35) (k := 35) n35 (by decide) (neK_cons (c := 36) (k := 36) n36 (by decide) (neK_cons (c := 37) (k := 37) n37 (by decide) neK_nil)))))))))))))))))))))))))))))))))))))) (by decide +kernel) dL_law_40 (by decide) (hK h)
theorem kcl_L_8 : Cond.classLink RL 8 RX11 ∈ Tg := mT 69 (by decide +kernel) (by decide +kernel)
theorem kcl_L_18 : Cond.classLink RL 18 RX12 ∈ Tg := mT 1057 (by decide +kernel) (by decide +kernel)
theorem kin_X11 : Cond.instantiable RX11 8 ∈ Tg := mT 70 (by decide +kernel) (by decide +kernel)
theorem kin_X12 : Cond.instantiable RX12 19 ∈ Tg := mT 1058 (by decide +kernel) (by decide +kernel)
theorem kac_long : Cond.arrayClass .long ∈ Tg := mT 1462 (by decide +kernel) (by decide +kernel)
theorem kml_L_17 : Cond.methodLink RL 17 yX11_init ∈ Tg := mT 71 (by decide +kernel) (by decide +kernel)
theorem kim_X11_init : Cond.instanceMethod yX11_init ∈ Tg := mT 72 (by decide +kernel) (by decide +kernel)
theorem kcd_X11_init : Cond.code yX11_init cX11_init 1 none ∈ Tg := mT 73 (by decide +kernel) (by decide +kernel)
theorem ds_X11_init : dsc yX11_init.cls yX11_init.desc 0 := ⟨by decide +kernel, by decide +kernel, by decide +kernel⟩
theorem kml_L_20 : Cond.methodLink RL 20 yX12_init ∈ Tg := mT 1059 (by decide +kernel) (by decide +kernel)
theorem kim_X12_init : Cond.instanceMethod yX12_init ∈ Tg := mT 1060 (by decide +kernel) (by decide +kernel)
theorem kcd_X12_init : Cond.code yX12_init cX12_init 1 none ∈ Tg := mT 1061 (by decide +kernel) (by decide +kernel)
theorem ds_X12_init : dsc yX12_init.cls yX12_init.desc 0 := ⟨by decide +kernel, by decide +kernel, by decide +kernel⟩
def f_L_lp (b Ls : Nat) (xs : Nat → Int32) (v1 v2 v3 : Option Nat) : Nat → Int32 → AH → Option (Int32 × AH)
  | 0 => fun _ _ => none
  | n + 1 => fun x4 h =>
    (scL b Ls b).bind fun t1 =>
    (if t1 - 6 < x4 then
    some (1, h)
    else (scA b Ls xs b x4).bind fun t2 =>
    f_L_sw b Ls xs (f_L_lp b Ls xs v1 v2 v3 n (x4 + 6)) v1 v2 v3 x4 (t2 &&& 63) h)
set_option maxRecDepth 100000 in
set_option maxHeartbeats 4000000 in
theorem s_L_lp {mn : String} {X : GX} (hX : XOK X) {b Ls : Nat} {xs : Nat → Int32} (hs : Scr X b Ls xs) {h0 : AH} {v1 v2 v3 : Option Nat} : ∀ (n : Nat) (x4 : Int32) (h : AH), Gp (p_L_law X h0) RL mn cL_law (some .boolean) 23 [(0, vV (.ref b)), (1, vR v1), (2, vR v2), (3, vR v3), (4, vI x4)] [] h (f_L_lp b Ls xs v1 v2 v3 n x4 h) := by
  intro n
  induction n with
  | zero => intro x4 h; exact g_none
  | succ n ih =>
    intro x4 h
    rw [f_L_lp]
    refine g_iload 4 dL_law_23 rfl ?_
    refine g_aloadV 0 dL_law_25 rfl rfl ?_
    refine g_scL hs dL_law_26 (fun t1 => ?_)
    refine g_bipush (v := 6) dL_law_27 (by decide) ?_
    refine g_isub dL_law_29 ?_
    refine g_icmpgt (tgt := 1556) dL_law_30 (by decide) ?_ ?_
    · refine g_iconst (v := 1) dL_law_1556 (by decide) ?_
      exact g_zreturn (by decide +kernel) rfl dL_law_1557
    · refine g_aloadV 0 dL_law_33 rfl rfl ?_
      refine g_iload 4 dL_law_34 rfl ?_
      refine g_scA hs dL_law_36 (fun t2 => ?_)
      refine g_bipush (v := 63) dL_law_37 (by decide) ?_
      refine g_iand dL_law_39 ?_
      refine s_L_sw hX hs (fun h2 => ?_) h
      refine g_iinc 4 (v := (x4 + 6)) (ls' := [(4, vI (x4 + 6)), (0, vV (.ref b)), (1, vR v1), (2, vR v2), (3, vR v3)]) dL_law_1550 rfl rfl (Nat.le_of_ble_eq_true rfl) rfl ?_
      refine g_goto (tgt := 23) dL_law_1553 (by decide) ?_
      exact g_sub2 [1, 2, 3, 4, 0] rfl (ih (x4 + 6) h2)
