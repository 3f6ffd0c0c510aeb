def f_X11_failureOf (v0 : Option Nat) (h : AH) : Option (Int32 × AH) := bd (f_dyn_fail v0 h) fun r h1 => match r with
  | .inl _ => some (-15, h1)
  | .inr E => if E = "java/lang/IllegalStateException" then bd (f_dyn_price v0 h1) fun r2 h2 => some ((200 + r2), h2) else if E = "java/lang/IllegalArgumentException" then (gI h1 v0 GF 1).bind fun t1 => some ((100 + t1), h1) else if E = "java/lang/UnsupportedOperationException" then (gI h1 v0 GF 1).bind fun t1 => some (t1, h1) else none
theorem mono_failureOf {X : GX} (hX : XOK X) (v0 : Option Nat) (h : AH) : Mono h (f_X11_failureOf v0 h) := by
  refine mono_bd (dyn_fail hX v0 h).1 (fun r h1 => ?_)
  cases r with
  | inl _ => exact mono_some
  | inr E => exact mono_if (mono_bd (dyn_price hX v0 h1).1 (fun _ _ => mono_some)) (mono_if (mono_bind (fun _ => mono_some)) (mono_if (mono_bind (fun _ => mono_some)) mono_none))
set_option maxHeartbeats 4000000 in
theorem s_X11_failureOf {X : GX} (hX : XOK X) (v0 : Option Nat) (h : AH) : SndW X yX11_failureOf cX11_failureOf 2 (some .int) hhF 7 110 rI [vR v0] h (f_X11_failureOf v0 h) := by
  refine sndW_of hX (by decide +kernel) kcw_failureOf (Nat.le_of_ble_eq_true rfl) (mono_failureOf hX v0 h) (fun M hK ht => ?_)
  show Go _ 0 [(0, vR v0)] [] h _
  unfold f_X11_failureOf
  refine go_aload_n hK 0 dX11_failureOf_0 rfl rfl ?_
  refine go_callDX (st := []) (vs := []) hK (dyn_fail hX v0 h) keml_357 kesm_fail kim_X4_fail kcd_X4_fail ds_X4_fail rfl ⟨Nat.le_of_ble_eq_true rfl, Nat.le_of_ble_eq_true rfl⟩ (Nat.le_of_ble_eq_true rfl) rfl dX11_failureOf_1 ?_ ?_
  · intro r v hr
    cases r with
    | inl u =>
      cases hr
      refine ⟨[], rfl, fun h1 => ?_⟩
      show Go _ 4 [(0, vR v0)] [] h1 _
      refine go_goto hK (tgt := 32) dX11_failureOf_4 (by decide) ?_
      refine go_bipush hK (v := (-15)) dX11_failureOf_32 (by decide) ?_
      exact go_ireturn hK rfl dX11_failureOf_34
    | inr E => cases hr
  · intro r E h1 hr
    cases r with
    | inl u => cases hr
    | inr E' =>
      cases hr
      by_cases e1 : E = "java/lang/IllegalStateException"
      · subst e1
        refine Or.inr ⟨7, hdl_1 ht (by decide) (by decide) kek_X11_333 kec_ISE, fun q => ?_⟩
        show Go _ 7 [(0, vR v0)] [vV (.ref q)] h1 (if "java/lang/IllegalStateException" = "java/lang/IllegalStateException" then _ else _)
        rw [if_pos rfl]
        refine go_astoreX_n hK (ls' := [(1, vV (.ref q)), (0, vR v0)]) dX11_failureOf_7 rfl (Nat.le_of_ble_eq_true rfl) rfl ?_
        refine go_sipush hK (v := 200) dX11_failureOf_8 (by decide) ?_
        refine go_aload_n hK 1 dX11_failureOf_11 rfl rfl ?_
        refine go_callD (ρ := rI) (pv := fun r => [vI r]) (st := [vI 200]) (vs := []) hK (fun _ => rfl) (dyn_price hX v0 h1) kml_X11_350 ksm_X4_price kim_X4_price kcd_X4_price ds_X4_price rfl ⟨Nat.le_of_ble_eq_true rfl, Nat.le_of_ble_eq_true rfl⟩ (Nat.le_of_ble_eq_true rfl) rfl dX11_failureOf_12 (fun r2 h2 => ?_)
        show Go _ 15 [(1, vV (.ref q)), (0, vR v0)] [vI r2, vI 200] h2 _
        refine go_iadd hK dX11_failureOf_15 ?_
        exact go_ireturn hK rfl dX11_failureOf_16
      · by_cases e2 : E = "java/lang/IllegalArgumentException"
        · subst e2
          refine Or.inr ⟨17, hdl_2 ht (by decide) (by decide) kek_X11_333 (by decide +kernel) (by decide) kek_X11_326 kec_IAE, fun q => ?_⟩
          show Go _ 17 [(0, vR v0)] [vV (.ref q)] h1 (if "java/lang/IllegalArgumentException" = "java/lang/IllegalStateException" then _ else if "java/lang/IllegalArgumentException" = "java/lang/IllegalArgumentException" then _ else _)
          rw [if_neg (by decide), if_pos rfl]
          refine go_astoreX_n hK (ls' := [(1, vV (.ref q)), (0, vR v0)]) dX11_failureOf_17 rfl (Nat.le_of_ble_eq_true rfl) rfl ?_
          refine go_bipush hK (v := 100) dX11_failureOf_18 (by decide) ?_
          refine go_aload_n hK 1 dX11_failureOf_20 rfl rfl ?_
          refine go_getI hK kfl_X11_92 fo_X4_figure dX11_failureOf_21 (fun t1 => ?_)
          refine go_iadd hK dX11_failureOf_24 ?_
          exact go_ireturn hK rfl dX11_failureOf_25
        · by_cases e3 : E = "java/lang/UnsupportedOperationException"
          · subst e3
            refine Or.inr ⟨26, hdl_3 ht (by decide) (by decide) kek_X11_333 (by decide +kernel) (by decide) kek_X11_326 (by decide +kernel) (by decide) kek_X11_360 kec_UOE, fun q => ?_⟩
            show Go _ 26 [(0, vR v0)] [vV (.ref q)] h1 (if "java/lang/UnsupportedOperationException" = "java/lang/IllegalStateException" then _ else if "java/lang/UnsupportedOperationException" = "java/lang/IllegalArgumentException" then _ else if "java/lang/UnsupportedOperationException" = "java/lang/UnsupportedOperationException" then _ else _)
            rw [if_neg (by decide), if_neg (by decide), if_pos rfl]
            refine go_astoreX_n hK (ls' := [(1, vV (.ref q)), (0, vR v0)]) dX11_failureOf_26 rfl (Nat.le_of_ble_eq_true rfl) rfl ?_
            refine go_aload_n hK 1 dX11_failureOf_27 rfl rfl ?_
            refine go_getI hK kfl_X11_92 fo_X4_figure dX11_failureOf_28 (fun t1 => ?_)
            exact go_ireturn hK rfl dX11_failureOf_31
          · refine Or.inl ?_
            show (if E = "java/lang/IllegalStateException" then _ else if E = "java/lang/IllegalArgumentException" then _ else if E = "java/lang/UnsupportedOperationException" then _ else _) = none
            rw [if_neg e1, if_neg e2, if_neg e3]
theorem keml_353 : Cond.methodLink RX11 353 yX11_failureOf ∈ Tg := mT 919 (by decide +kernel) (by decide +kernel)
theorem kest_failureOf : Cond.static yX11_failureOf ∈ Tg := mT 920 (by decide +kernel) (by decide +kernel)
theorem ds_X11_failureOf : dsc yX11_failureOf.cls yX11_failureOf.desc 1 := ⟨by decide +kernel, by decide +kernel, by decide +kernel⟩
theorem g_callSWI {α : Type} {P : PX α} {own mn : String} {cc : ByteArray} {ret : Option FieldType} {pc : Nat} {ls : List (Nat × AV)} {st st0 : List AV} {h : AH} {y : MethodName} {bytes : ByteArray} {maxL fr lo idx n : Nat} {rt : Option FieldType} {hh : List (Nat × Nat × Nat × Nat)} {vs : List AV} {o : Option (Int32 × AH)} {f : Int32 → AH → Option (α × AH)} (hs : SndW P.1 y bytes maxL rt hh fr lo rI vs h o) (hl : Cond.methodLink own idx y ∈ Tg) (hst : Cond.static y ∈ Tg) (hini : Cond.initialized y.cls ∈ Tg) (hcd : Cond.codeWith y bytes maxL rt hh ∈ Tg) (hd : dsc y.cls y.desc n) (hn : vs.length = n) (hR : fr + 1 ≤ P.2.2.1.1 ∧ 8 + (maxL + 11) + lo ≤ P.2.2.1.2.1) (hsum : (st.map ac).sum ≤ 8) (est : vs.reverse ++ st = st0) (d : decode cc pc = .ok (.invokestatic idx, 3)) (kk : ∀ r h1, Gp P own mn cc ret (pc + 3) ls (vI r :: st) h1 (f r h1)) : Gp P own mn cc ret pc ls st0 h (bd o f) :=
  ⟨mono_bd hs.1 (fun x y => (kk x y).1), fun M hK hm => go_callSW (K := mkC P M) (ρ := rI) (pv := fun r => [vI r]) hK (fun _ => rfl) hs hl hst hini hcd hd hn hR hsum est d (fun r h1 => (kk r h1).at M hK hm)⟩
abbrev p_X11_toss (X : GX) (h0 : AH) : PX Int32 := (X, (fun x => Sum.inl (rI x)), (8, 131, 3), h0)
def f_X11_toss (v0 : Option Nat) (v1 : Int32) (h : AH) : Option (Int32 × AH) :=
    bd (cv h v0 11 (f_X11_kindOn v0 v1 h)) fun r2 h1 =>
    (if r2 = none then
    bd (cv h1 v0 11 (f_X11_whyNoKind v0 v1 h1)) fun r6 h5 =>
    some (r6, h5)
    else bd (f_X11_failureOf r2 h1) fun r4 h3 =>
    some (r4, h3))
set_option maxRecDepth 100000 in
set_option maxHeartbeats 4000000 in
theorem s_X11_toss {X : GX} (hX : XOK X) (v0 : Option Nat) (v1 : Int32) (h : AH) : Snd X yX11_toss cX11_toss 3 (some .int) 8 131 rI [vR v0, vI v1] h (f_X11_toss v0 v1 h) := by
  refine snd_of hX (by decide +kernel) (Nat.le_of_ble_eq_true rfl) ?_
  show Gp (p_X11_toss X h) RX11 "toss" cX11_toss (some .int) 0 [(0, vR v0), (1, vI v1)] [] h _
  unfold f_X11_toss
  refine g_aload_n 0 dX11_toss_0 rfl rfl ?_
  refine g_iload_n 1 dX11_toss_1 rfl rfl ?_
  refine g_callVR (st := []) (ci := 11) rfl (s_X11_kindOn hX v0 v1 h) kml_X11_119 kim_X11_kindOn kse_X11_kindOn kii_X11 kcd_X11_kindOn rfl ds_X11_kindOn rfl ⟨Nat.le_of_ble_eq_true rfl, Nat.le_of_ble_eq_true rfl⟩ (Nat.le_of_ble_eq_true rfl) rfl dX11_toss_2 (fun r2 h1 => ?_)
  refine g_astore_n (ls' := [(2, vR r2), (0, vR v0), (1, vI v1)]) dX11_toss_5 rfl (Nat.le_of_ble_eq_true rfl) rfl ?_
  refine g_aload_n 0 dX11_toss_6 rfl rfl ?_
  refine g_ifnonnull (tgt := 18) dX11_toss_7 (by decide) ?_ ?_
  · refine g_aload_n 0 dX11_toss_18 rfl rfl ?_
    refine g_callSWI (st := []) (s_X11_failureOf hX r2 h1) keml_353 kest_failureOf kii_X11 kcw_failureOf ds_X11_failureOf rfl ⟨Nat.le_of_ble_eq_true rfl, Nat.le_of_ble_eq_true rfl⟩ (Nat.le_of_ble_eq_true rfl) rfl dX11_toss_19 (fun r4 h3 => ?_)
    exact g_ireturn rfl dX11_toss_22
  · refine g_aload_n 1 dX11_toss_10 rfl rfl ?_
    refine g_iload_n 2 dX11_toss_11 rfl rfl ?_
    refine g_callVI (st := []) (ci := 11) rfl (s_X11_whyNoKind hX v0 v1 h1) kml_X11_123 kim_X11_whyNoKind kse_X11_whyNoKind kii_X11 kcd_X11_whyNoKind rfl ds_X11_whyNoKind rfl ⟨Nat.le_of_ble_eq_true rfl, Nat.le_of_ble_eq_true rfl⟩ (Nat.le_of_ble_eq_true rfl) rfl dX11_toss_12 (fun r6 h5 => ?_)
    refine g_goto (tgt := 22) dX11_toss_15 (by decide) ?_
    exact g_ireturn rfl dX11_toss_22

theorem keml_320 : Cond.methodLink RX11 320 yX7_hasPlace ∈ Tg := mT 851 (by decide +kernel) (by decide +kernel)
def f_X11_element (v0 : Option Nat) (v1 v2 : Int32) (h : AH) : Option ((Int64 ⊕ String) × AH) := bd (f_X11_isShelf v1 h) fun r1 h1 =>
    (if r1 = 0 then some (.inr "java/lang/IllegalArgumentException", exH h1) else bd (cv h1 v0 11 (f_X11_rowOn v0 v1 h1)) fun r2 h2 =>
    (if r2 = none then some (.inr "java/lang/IllegalStateException", exH h2) else bd (cv h2 r2 7 (f_X7_hasPlace r2 v2 h2)) fun r3 h3 =>
    (if r3 = 0 then some (.inr "java/lang/IllegalStateException", exH h3) else bd (cv h3 r2 7 (f_X7_at r2 v2 h3)) fun r4 h4 => some (.inl (Int32.toInt64 r4), h4))))
theorem mono_element {X : GX} (hX : XOK X) (v0 : Option Nat) (v1 v2 : Int32) (h : AH) : Mono h (f_X11_element v0 v1 v2 h) :=
  mono_bd (s_X11_isShelf hX v1 h).1 (fun _ h1 => mono_if mono_exc (mono_bd (mono_cv (s_X11_rowOn hX v0 v1 h1).1) (fun r2 h2 => mono_if mono_exc (mono_bd (mono_cv (s_X7_hasPlace hX r2 v2 h2).1) (fun _ h3 => mono_if mono_exc (mono_bd (mono_cv (s_X7_at hX r2 v2 h3).1) (fun _ _ => mono_some)))))))
set_option maxHeartbeats 4000000 in
theorem s_X11_element {X : GX} (hX : XOK X) (v0 : Option Nat) (v1 v2 : Int32) (h : AH) : SndX X yX11_element cX11_element 4 (some .long) 6 90 qE [vR v0, vI v1, vI v2] h (f_X11_element v0 v1 v2 h) := by
  refine sndX_of hX (by decide +kernel) (Nat.le_of_ble_eq_true rfl) (mono_element hX v0 v1 v2 h) (fun M hK hnt => ?_)
  show Go _ 0 [(0, vR v0), (1, vI v1), (2, vI v2)] [] h _
  unfold f_X11_element
  refine go_iload_n hK 1 dX11_element_0 rfl rfl ?_
  refine go_callS (ρ := rI) (pv := fun r => [vI r]) (st := []) hK (fun _ => rfl) (s_X11_isShelf hX v1 h) kml_X11_45 kst_X11_isShelf kii_X11 kcd_X11_isShelf ds_X11_isShelf rfl ⟨Nat.le_of_ble_eq_true rfl, Nat.le_of_ble_eq_true rfl⟩ (Nat.le_of_ble_eq_true rfl) rfl dX11_element_1 (fun r1 h1 => ?_)
  show Go _ 4 [(0, vR v0), (1, vI v1), (2, vI v2)] [vI r1] h1 _
  refine go_ifne hK (tgt := 18) dX11_element_4 (by decide) ?_ ?_
  · refine go_aload_n hK 0 dX11_element_18 rfl rfl ?_
    refine go_iload_n hK 1 dX11_element_19 rfl rfl ?_
    refine go_callV (ρ := rO X.2.2.2.1) (pv := fun r => [vR r]) (st := []) (ci := 11) hK (fun _ => rfl) rfl (s_X11_rowOn hX v0 v1 h1) kml_X11_49 kim_X11_rowOn kse_X11_rowOn kii_X11 kcd_X11_rowOn rfl ds_X11_rowOn rfl ⟨Nat.le_of_ble_eq_true rfl, Nat.le_of_ble_eq_true rfl⟩ (Nat.le_of_ble_eq_true rfl) rfl dX11_element_20 (fun r2 h2 => ?_)
    show Go _ 23 [(0, vR v0), (1, vI v1), (2, vI v2)] [vR r2] h2 _
    refine go_astore_n hK (ls' := [(3, vR r2), (0, vR v0), (1, vI v1), (2, vI v2)]) dX11_element_23 rfl (Nat.le_of_ble_eq_true rfl) rfl ?_
    refine go_aload_n hK 0 dX11_element_24 rfl rfl ?_
    refine go_ifnonnull hK (tgt := 39) dX11_element_25 (by decide) ?_ ?_
    · refine go_aload_n hK 0 dX11_element_39 rfl rfl ?_
      refine go_iload_n hK 3 dX11_element_40 rfl rfl ?_
      refine go_callV (ρ := rI) (pv := fun r => [vI r]) (st := []) (ci := 7) hK (fun _ => rfl) rfl (s_X7_hasPlace hX r2 v2 h2) keml_320 kim_X7_hasPlace kse_X7_hasPlace kii_X7 kcd_X7_hasPlace rfl ds_X7_hasPlace rfl ⟨Nat.le_of_ble_eq_true rfl, Nat.le_of_ble_eq_true rfl⟩ (Nat.le_of_ble_eq_true rfl) rfl dX11_element_41 (fun r3 h3 => ?_)
      show Go _ 44 [(3, vR r2), (0, vR v0), (1, vI v1), (2, vI v2)] [vI r3] h3 _
      refine go_ifne hK (tgt := 58) dX11_element_44 (by decide) ?_ ?_
      · refine go_aload_n hK 0 dX11_element_58 rfl rfl ?_
        refine go_iload_n hK 3 dX11_element_59 rfl rfl ?_
        refine go_callV (ρ := rI) (pv := fun r => [vI r]) (st := []) (ci := 7) hK (fun _ => rfl) rfl (s_X7_at hX r2 v2 h3) kml_X11_293 kim_X7_at kse_X7_at kii_X7 kcd_X7_at rfl ds_X7_at rfl ⟨Nat.le_of_ble_eq_true rfl, Nat.le_of_ble_eq_true rfl⟩ (Nat.le_of_ble_eq_true rfl) rfl dX11_element_60 (fun r4 h4 => ?_)
        show Go _ 63 [(3, vR r2), (0, vR v0), (1, vI v1), (2, vI v2)] [vI r4] h4 _
        refine go_i2l hK dX11_element_63 ?_
        exact go_lreturnX hK rfl dX11_element_64
      · exact go_throwSW hK hnt (text := "no such place") (names := nmE) rfl kef_ISE nmE_fit kek_X11_333 kei_ISE (by decide +kernel) kat_X11_337 kag_X11_337 kao_X11_337 (Nat.le_of_ble_eq_true rfl) ⟨Nat.le_of_ble_eq_true rfl, Nat.le_of_ble_eq_true rfl⟩ dX11_element_47 dX11_element_50 dX11_element_51 dX11_element_54 dX11_element_57
    · exact go_throwSW hK hnt (text := "no row") (names := nmE) rfl kef_ISE nmE_fit kek_X11_333 kei_ISE (by decide +kernel) kat_X11_337 kag_X11_337 kao_X11_337 (Nat.le_of_ble_eq_true rfl) ⟨Nat.le_of_ble_eq_true rfl, Nat.le_of_ble_eq_true rfl⟩ dX11_element_28 dX11_element_31 dX11_element_32 dX11_element_35 dX11_element_38
  · exact go_throwSW hK hnt (text := "no such shelf") (names := nmE) rfl kef_IAE nmE_fit kek_X11_326 kei_IAE (by decide +kernel) kat_X11_330 kag_X11_330 kao_X11_330 (Nat.le_of_ble_eq_true rfl) ⟨Nat.le_of_ble_eq_true rfl, Nat.le_of_ble_eq_true rfl⟩ dX11_element_7 dX11_element_10 dX11_element_11 dX11_element_14 dX11_element_17
theorem keml_L7 : Cond.methodLink RL 7 yX11_element ∈ Tg := mT 1048 (by decide +kernel) (by decide +kernel)
theorem keim_element : Cond.instanceMethod yX11_element ∈ Tg := mT 1049 (by decide +kernel) (by decide +kernel)
theorem kese_element : Cond.selects RX11 yX11_element yX11_element ∈ Tg := mT 1050 (by decide +kernel) (by decide +kernel)
theorem kecd_element : Cond.code yX11_element cX11_element 4 (some .long) ∈ Tg := mT 1051 (by decide +kernel) (by decide +kernel)
theorem ds_X11_element : dsc yX11_element.cls yX11_element.desc 2 := ⟨by decide +kernel, by decide +kernel, by decide +kernel⟩
def f_L_element (v0 : Option Nat) (v1 v2 : Int32) (v3 : Option Nat) (h : AH) : Option (Int32 × AH) := bd (cv h v0 11 (f_X11_element v0 v1 v2 h)) fun r h1 => match r with
  | .inl x => (jS h1 v3 0 x).bind fun h2 => some (0, h2)
  | .inr E => if E = "java/lang/IllegalArgumentException" then some (1, h1) else if E = "java/lang/IllegalStateException" then some (2, h1) else none
theorem mono_L_element {X : GX} (hX : XOK X) (v0 : Option Nat) (v1 v2 : Int32) (v3 : Option Nat) (h : AH) : Mono h (f_L_element v0 v1 v2 v3 h) := by
  refine mono_bd (mono_cv (mono_element hX v0 v1 v2 h)) (fun r h1 => ?_)
  cases r with
  | inl x => exact mono_put (fun _ e => jS_1 e) (fun _ => mono_some)
  | inr E => exact mono_if mono_some (mono_if mono_some mono_none)
set_option maxHeartbeats 4000000 in
theorem s_L_element {X : GX} (hX : XOK X) (v0 : Option Nat) (v1 v2 : Int32) (v3 : Option Nat) (h : AH) : SndW X yL_element cL_element 5 (some .int) hhL 7 113 rI [vR v0, vI v1, vI v2, vR v3] h (f_L_element v0 v1 v2 v3 h) := by
  refine sndW_of hX (by decide +kernel) kcw_element (Nat.le_of_ble_eq_true rfl) (mono_L_element hX v0 v1 v2 v3 h) (fun M hK ht => ?_)
  show Go _ 0 [(0, vR v0), (1, vI v1), (2, vI v2), (3, vR v3)] [] h _
  unfold f_L_element
  refine go_aload_n hK 3 dL_element_0 rfl rfl ?_
  refine go_iconst hK (v := 0) dL_element_1 (by decide) ?_
  refine go_aload_n hK 0 dL_element_2 rfl rfl ?_
  refine go_iload_n hK 1 dL_element_3 rfl rfl ?_
  refine go_iload_n hK 2 dL_element_4 rfl rfl ?_
  refine go_callVX (st := [vI 0, vR v3]) (ci := 11) hK rfl (s_X11_element hX v0 v1 v2 h) keml_L7 keim_element kese_element kii_X11 kecd_element rfl ds_X11_element rfl ⟨Nat.le_of_ble_eq_true rfl, Nat.le_of_ble_eq_true rfl⟩ (Nat.le_of_ble_eq_true rfl) rfl dL_element_5 ?_ ?_
  · intro r v hr
    cases r with
    | inl x =>
      cases hr
      refine ⟨[vJ x], rfl, fun h1 => ?_⟩
      show Go _ 8 [(0, vR v0), (1, vI v1), (2, vI v2), (3, vR v3)] [vJ x, vI 0, vR v3] h1 _
      refine go_lastore hK dL_element_8 (fun h2 => ?_)
      refine go_goto hK (tgt := 20) dL_element_9 (by decide) ?_
      refine go_iconst hK (v := 0) dL_element_20 (by decide) ?_
      exact go_ireturn hK rfl dL_element_21
    | inr E => cases hr
  · intro r E h1 hr
    cases r with
    | inl x => cases hr
    | inr E' =>
      cases hr
      by_cases e1 : E = "java/lang/IllegalArgumentException"
      · subst e1
        refine Or.inr ⟨12, hdl_1 ht (by decide) (by decide) kek_L_13 kec_IAE, fun q => ?_⟩
        show Go _ 12 [(0, vR v0), (1, vI v1), (2, vI v2), (3, vR v3)] [vV (.ref q)] h1 (if "java/lang/IllegalArgumentException" = "java/lang/IllegalArgumentException" then _ else _)
        rw [if_pos rfl]
        refine go_astoreX hK (ls' := [(4, vV (.ref q)), (0, vR v0), (1, vI v1), (2, vI v2), (3, vR v3)]) dL_element_12 (Nat.le_of_ble_eq_true rfl) rfl ?_
        refine go_iconst hK (v := 1) dL_element_14 (by decide) ?_
        exact go_ireturn hK rfl dL_element_15
      · by_cases e2 : E = "java/lang/IllegalStateException"
        · subst e2
          refine Or.inr ⟨16, hdl_2 ht (by decide) (by decide) kek_L_13 (by decide +kernel) (by decide) kek_L_15 kec_ISE, fun q => ?_⟩
          show Go _ 16 [(0, vR v0), (1, vI v1), (2, vI v2), (3, vR v3)] [vV (.ref q)] h1 (if "java/lang/IllegalStateException" = "java/lang/IllegalArgumentException" then _ else if "java/lang/IllegalStateException" = "java/lang/IllegalStateException" then _ else _)
          rw [if_neg (by decide), if_pos rfl]
          refine go_astoreX hK (ls' := [(4, vV (.ref q)), (0, vR v0), (1, vI v1), (2, vI v2), (3, vR v3)]) dL_element_16 (Nat.le_of_ble_eq_true rfl) rfl ?_
          refine go_iconst hK (v := 2) dL_element_18 (by decide) ?_
          exact go_ireturn hK rfl dL_element_19
        · refine Or.inl ?_
          show (if E = "java/lang/IllegalArgumentException" then _ else if E = "java/lang/IllegalStateException" then _ else _) = none
          rw [if_neg e1, if_neg e2]
