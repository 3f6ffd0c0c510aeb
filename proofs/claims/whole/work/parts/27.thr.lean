def nmE : List String := ["java/lang/RuntimeException", "java/lang/Exception"]
theorem nmE_fit : ∀ n ∈ nmE, Bundle.fit n = true := by decide +kernel
def qF : Unit ⊕ String → Option Value ⊕ String
  | .inl _ => .inl none
  | .inr E => .inr E
def qE : Int64 ⊕ String → Option Value ⊕ String
  | .inl x => .inl (some (.long x))
  | .inr E => .inr E
theorem kek_X1_27 : Cond.classLink RX1 27 "java/lang/IllegalStateException" ∈ Tg := mT 933 (by decide +kernel) (by decide +kernel)
theorem kat_X1_31 : ∀ w ∈ vx_atS RX1 31 "java/lang/IllegalStateException" nmE, w ∈ lw_tbl := by decide +kernel
theorem kag_X1_31 : (vx_atS RX1 31 "java/lang/IllegalStateException" nmE).all (fun w => goodWord w || (w.onTables && w.keepsFace)) = true := by decide +kernel
theorem kao_X1_31 : ∀ w ∈ Cond.classLink RX1 27 "java/lang/IllegalStateException" :: Cond.initialized "java/lang/IllegalStateException" :: vx_atS RX1 31 "java/lang/IllegalStateException" nmE, vx_ot w = true := by decide +kernel
theorem kek_X9_17 : Cond.classLink RX9 17 "java/lang/IllegalArgumentException" ∈ Tg := mT 1007 (by decide +kernel) (by decide +kernel)
theorem kat_X9_21 : ∀ w ∈ vx_atS RX9 21 "java/lang/IllegalArgumentException" nmE, w ∈ lw_tbl := by decide +kernel
theorem kag_X9_21 : (vx_atS RX9 21 "java/lang/IllegalArgumentException" nmE).all (fun w => goodWord w || (w.onTables && w.keepsFace)) = true := by decide +kernel
theorem kao_X9_21 : ∀ w ∈ Cond.classLink RX9 17 "java/lang/IllegalArgumentException" :: Cond.initialized "java/lang/IllegalArgumentException" :: vx_atS RX9 21 "java/lang/IllegalArgumentException" nmE, vx_ot w = true := by decide +kernel
theorem kek_X4_16 : Cond.classLink RX4 16 "java/lang/UnsupportedOperationException" ∈ Tg := mT 1027 (by decide +kernel) (by decide +kernel)
theorem kat_X4_20 : ∀ w ∈ vx_atS RX4 20 "java/lang/UnsupportedOperationException" nmE, w ∈ lw_tbl := by decide +kernel
theorem kag_X4_20 : (vx_atS RX4 20 "java/lang/UnsupportedOperationException" nmE).all (fun w => goodWord w || (w.onTables && w.keepsFace)) = true := by decide +kernel
theorem kao_X4_20 : ∀ w ∈ Cond.classLink RX4 16 "java/lang/UnsupportedOperationException" :: Cond.initialized "java/lang/UnsupportedOperationException" :: vx_atS RX4 20 "java/lang/UnsupportedOperationException" nmE, vx_ot w = true := by decide +kernel
theorem kek_X11_326 : Cond.classLink RX11 326 "java/lang/IllegalArgumentException" ∈ Tg := mT 923 (by decide +kernel) (by decide +kernel)
theorem kat_X11_330 : ∀ w ∈ vx_atS RX11 330 "java/lang/IllegalArgumentException" nmE, w ∈ lw_tbl := by decide +kernel
theorem kag_X11_330 : (vx_atS RX11 330 "java/lang/IllegalArgumentException" nmE).all (fun w => goodWord w || (w.onTables && w.keepsFace)) = true := by decide +kernel
theorem kao_X11_330 : ∀ w ∈ Cond.classLink RX11 326 "java/lang/IllegalArgumentException" :: Cond.initialized "java/lang/IllegalArgumentException" :: vx_atS RX11 330 "java/lang/IllegalArgumentException" nmE, vx_ot w = true := by decide +kernel
theorem kek_X11_333 : Cond.classLink RX11 333 "java/lang/IllegalStateException" ∈ Tg := mT 922 (by decide +kernel) (by decide +kernel)
theorem kat_X11_337 : ∀ w ∈ vx_atS RX11 337 "java/lang/IllegalStateException" nmE, w ∈ lw_tbl := by decide +kernel
theorem kag_X11_337 : (vx_atS RX11 337 "java/lang/IllegalStateException" nmE).all (fun w => goodWord w || (w.onTables && w.keepsFace)) = true := by decide +kernel
theorem kao_X11_337 : ∀ w ∈ Cond.classLink RX11 333 "java/lang/IllegalStateException" :: Cond.initialized "java/lang/IllegalStateException" :: vx_atS RX11 337 "java/lang/IllegalStateException" nmE, vx_ot w = true := by decide +kernel
theorem kei_ISE : Cond.initialized "java/lang/IllegalStateException" ∈ Tg := mT 66 (by decide +kernel) (by decide +kernel)
theorem kef_ISE : Bundle.fit "java/lang/IllegalStateException" = true := by decide +kernel
theorem kec_ISE : Cond.castable "java/lang/IllegalStateException" "java/lang/IllegalStateException" ∈ lw_tbl := List.mem_of_getElem? (i := 935) (by decide +kernel)
theorem kei_IAE : Cond.initialized "java/lang/IllegalArgumentException" ∈ Tg := mT 65 (by decide +kernel) (by decide +kernel)
theorem kef_IAE : Bundle.fit "java/lang/IllegalArgumentException" = true := by decide +kernel
theorem kec_IAE : Cond.castable "java/lang/IllegalArgumentException" "java/lang/IllegalArgumentException" ∈ lw_tbl := List.mem_of_getElem? (i := 1009) (by decide +kernel)
theorem kei_UOE : Cond.initialized "java/lang/UnsupportedOperationException" ∈ Tg := mT 68 (by decide +kernel) (by decide +kernel)
theorem kef_UOE : Bundle.fit "java/lang/UnsupportedOperationException" = true := by decide +kernel
theorem kec_UOE : Cond.castable "java/lang/UnsupportedOperationException" "java/lang/UnsupportedOperationException" ∈ lw_tbl := List.mem_of_getElem? (i := 1029) (by decide +kernel)
theorem kefl_X1 : Cond.fieldLink RX1 21 "GuestWeighsLess$Bishop" "figure" "I" ∈ Tg := mT 100 (by decide +kernel) (by decide +kernel)
theorem fo_X1_figure : famOK GF 1 "GuestWeighsLess$Bishop" "figure" "I" true true := fun ci hci => by
  rcases (show ci = 0 ∨ ci = 1 ∨ ci = 2 ∨ ci = 3 ∨ ci = 4 ∨ ci = 6 ∨ ci = 8 ∨ ci = 9 by simpa using hci) with rfl | rfl | rfl | rfl | rfl | rfl | rfl | rfl
  · exact ⟨_, _, _, clX0, by decide, rfl, rfl, rfl, Or.inr (mT 101 (by decide +kernel) (by decide +kernel)), rfl⟩
  · exact ⟨_, _, _, clX1, by decide, rfl, rfl, rfl, Or.inr (mT 101 (by decide +kernel) (by decide +kernel)), rfl⟩
  · exact ⟨_, _, _, clX2, by decide, rfl, rfl, rfl, Or.inr (mT 101 (by decide +kernel) (by decide +kernel)), rfl⟩
  · exact ⟨_, _, _, clX3, by decide, rfl, rfl, rfl, Or.inr (mT 101 (by decide +kernel) (by decide +kernel)), rfl⟩
  · exact ⟨_, _, _, clX4, by decide, rfl, rfl, rfl, Or.inr (mT 101 (by decide +kernel) (by decide +kernel)), rfl⟩
  · exact ⟨_, _, _, clX6, by decide, rfl, rfl, rfl, Or.inr (mT 101 (by decide +kernel) (by decide +kernel)), rfl⟩
  · exact ⟨_, _, _, clX8, by decide, rfl, rfl, rfl, Or.inr (mT 101 (by decide +kernel) (by decide +kernel)), rfl⟩
  · exact ⟨_, _, _, clX9, by decide, rfl, rfl, rfl, Or.inr (mT 101 (by decide +kernel) (by decide +kernel)), rfl⟩
def f_X1_fail (v0 : Option Nat) (h : AH) : Option ((Unit ⊕ String) × AH) := (gI h v0 GF 1).bind fun t1 => (if t1 = 0 then some (.inl (), h) else some (.inr "java/lang/IllegalStateException", exH h))
set_option maxHeartbeats 4000000 in
theorem s_X1_fail {X : GX} (hX : XOK X) (v0 : Option Nat) (h : AH) : SndX X yX1_fail cX1_fail 1 none 6 90 qF [vR v0] h (f_X1_fail v0 h) := by
  refine sndX_of hX (by decide +kernel) (Nat.le_of_ble_eq_true rfl) (mono_bind (fun _ => mono_if mono_some mono_exc)) (fun M hK hnt => ?_)
  show Go _ 0 [(0, vR v0)] [] h _
  unfold f_X1_fail
  refine go_aload_n hK 0 dX1_fail_0 rfl rfl ?_
  refine go_getI hK kefl_X1 fo_X1_figure dX1_fail_1 (fun t1 => ?_)
  refine go_ifeq hK (tgt := 17) dX1_fail_4 (by decide) ?_ ?_
  · exact go_returnX hK rfl dX1_fail_17
  · exact go_throwS hK hnt (text := "a bishop fails") (names := nmE) rfl kef_ISE nmE_fit kek_X1_27 kei_ISE (by decide +kernel) kat_X1_31 kag_X1_31 kao_X1_31 (Nat.le_of_ble_eq_true rfl) ⟨Nat.le_of_ble_eq_true rfl, Nat.le_of_ble_eq_true rfl⟩ dX1_fail_7 dX1_fail_10 dX1_fail_11 dX1_fail_13 dX1_fail_16
theorem kefl_X9 : Cond.fieldLink RX9 7 "GuestWeighsLess$Swollen" "figure" "I" ∈ Tg := mT 95 (by decide +kernel) (by decide +kernel)
def f_X9_fail (v0 : Option Nat) (h : AH) : Option ((Unit ⊕ String) × AH) := (gI h v0 GF 1).bind fun t1 => (if t1 = 0 then some (.inl (), h) else some (.inr "java/lang/IllegalArgumentException", exH h))
set_option maxHeartbeats 4000000 in
theorem s_X9_fail {X : GX} (hX : XOK X) (v0 : Option Nat) (h : AH) : SndX X yX9_fail cX9_fail 1 none 6 90 qF [vR v0] h (f_X9_fail v0 h) := by
  refine sndX_of hX (by decide +kernel) (Nat.le_of_ble_eq_true rfl) (mono_bind (fun _ => mono_if mono_some mono_exc)) (fun M hK hnt => ?_)
  show Go _ 0 [(0, vR v0)] [] h _
  unfold f_X9_fail
  refine go_aload_n hK 0 dX9_fail_0 rfl rfl ?_
  refine go_getI hK kefl_X9 fo_X9_figure dX9_fail_1 (fun t1 => ?_)
  refine go_ifeq hK (tgt := 17) dX9_fail_4 (by decide) ?_ ?_
  · exact go_returnX hK rfl dX9_fail_17
  · exact go_throwS hK hnt (text := "a swollen one fails") (names := nmE) rfl kef_IAE nmE_fit kek_X9_17 kei_IAE (by decide +kernel) kat_X9_21 kag_X9_21 kao_X9_21 (Nat.le_of_ble_eq_true rfl) ⟨Nat.le_of_ble_eq_true rfl, Nat.le_of_ble_eq_true rfl⟩ dX9_fail_7 dX9_fail_10 dX9_fail_11 dX9_fail_13 dX9_fail_16
theorem kefl_X4 : Cond.fieldLink RX4 13 "GuestWeighsLess$Guest" "figure" "I" ∈ Tg := mT 92 (by decide +kernel) (by decide +kernel)
def f_X4_fail (v0 : Option Nat) (h : AH) : Option ((Unit ⊕ String) × AH) := (gI h v0 GF 1).bind fun t1 => (if t1 = 0 then some (.inl (), h) else some (.inr "java/lang/UnsupportedOperationException", exH h))
set_option maxHeartbeats 4000000 in
theorem s_X4_fail {X : GX} (hX : XOK X) (v0 : Option Nat) (h : AH) : SndX X yX4_fail cX4_fail 1 none 6 90 qF [vR v0] h (f_X4_fail v0 h) := by
  refine sndX_of hX (by decide +kernel) (Nat.le_of_ble_eq_true rfl) (mono_bind (fun _ => mono_if mono_some mono_exc)) (fun M hK hnt => ?_)
  show Go _ 0 [(0, vR v0)] [] h _
  unfold f_X4_fail
  refine go_aload_n hK 0 dX4_fail_0 rfl rfl ?_
  refine go_getI hK kefl_X4 fo_X4_figure dX4_fail_1 (fun t1 => ?_)
  refine go_ifeq hK (tgt := 17) dX4_fail_4 (by decide) ?_ ?_
  · exact go_returnX hK rfl dX4_fail_17
  · exact go_throwS hK hnt (text := "a guest fails") (names := nmE) rfl kef_UOE nmE_fit kek_X4_16 kei_UOE (by decide +kernel) kat_X4_20 kag_X4_20 kao_X4_20 (Nat.le_of_ble_eq_true rfl) ⟨Nat.le_of_ble_eq_true rfl, Nat.le_of_ble_eq_true rfl⟩ dX4_fail_7 dX4_fail_10 dX4_fail_11 dX4_fail_13 dX4_fail_16
def f_X2_failX (v0 : Option Nat) (h : AH) : Option ((Unit ⊕ String) × AH) := some (.inl (), h)
theorem s_X2_failX {X : GX} (hX : XOK X) (v0 : Option Nat) (h : AH) : SndX X yX2_fail cX2_fail 1 none 6 90 qF [vR v0] h (f_X2_failX v0 h) := by
  refine sndX_of hX (by decide +kernel) (Nat.le_of_ble_eq_true rfl) mono_some (fun M hK hnt => ?_)
  show Go _ 0 [(0, vR v0)] [] h _
  exact go_returnX hK rfl dX2_fail_0
theorem kim_X1_fail : Cond.instanceMethod yX1_fail ∈ Tg := mT 931 (by decide +kernel) (by decide +kernel)
theorem kcd_X1_fail : Cond.code yX1_fail cX1_fail 1 none ∈ Tg := mT 932 (by decide +kernel) (by decide +kernel)
theorem kim_X2_fail : Cond.instanceMethod yX2_fail ∈ Tg := mT 1002 (by decide +kernel) (by decide +kernel)
theorem kcd_X2_fail : Cond.code yX2_fail cX2_fail 1 none ∈ Tg := mT 1003 (by decide +kernel) (by decide +kernel)
theorem kim_X4_fail : Cond.instanceMethod yX4_fail ∈ Tg := mT 926 (by decide +kernel) (by decide +kernel)
theorem kcd_X4_fail : Cond.code yX4_fail cX4_fail 1 none ∈ Tg := mT 1026 (by decide +kernel) (by decide +kernel)
theorem kim_X9_fail : Cond.instanceMethod yX9_fail ∈ Tg := mT 1005 (by decide +kernel) (by decide +kernel)
theorem kcd_X9_fail : Cond.code yX9_fail cX9_fail 1 none ∈ Tg := mT 1006 (by decide +kernel) (by decide +kernel)
theorem kse_X9_fail : Cond.selects RX9 yX4_fail yX9_fail ∈ Tg := mT 1025 (by decide +kernel) (by decide +kernel)
theorem kse_X8_fail : Cond.selects RX8 yX4_fail yX4_fail ∈ Tg := mT 1024 (by decide +kernel) (by decide +kernel)
theorem kse_X6_fail : Cond.selects RX6 yX4_fail yX2_fail ∈ Tg := mT 1023 (by decide +kernel) (by decide +kernel)
theorem kse_X4_fail : Cond.selects RX4 yX4_fail yX4_fail ∈ Tg := mT 927 (by decide +kernel) (by decide +kernel)
theorem kse_X3_fail : Cond.selects RX3 yX4_fail yX9_fail ∈ Tg := mT 1004 (by decide +kernel) (by decide +kernel)
theorem kse_X2_fail : Cond.selects RX2 yX4_fail yX2_fail ∈ Tg := mT 1001 (by decide +kernel) (by decide +kernel)
theorem kse_X1_fail : Cond.selects RX1 yX4_fail yX1_fail ∈ Tg := mT 930 (by decide +kernel) (by decide +kernel)
theorem kse_X0_fail : Cond.selects RX0 yX4_fail yX4_fail ∈ Tg := mT 929 (by decide +kernel) (by decide +kernel)
def DynAtX {β : Type} (X : GX) (x : MethodName) (FR LO : Nat) (ρ : β → Option Value ⊕ String) (vs : List AV) (h : AH) (ci : Nat) (o : Option (β × AH)) : Prop := Mono h o ∧ ∀ (r : β) (h' : AH), o = some (r, h') → ∃ (C : String) (T : u_T) (N : Nat) (y : MethodName) (bytes : ByteArray) (maxL fr lo : Nat) (rt : Option FieldType), vwCl[ci]? = some (C, T, N) ∧ (Cond.selects C x y ∈ Tg ∧ Cond.instanceMethod y ∈ Tg ∧ Cond.initialized y.cls ∈ Tg ∧ Cond.code y bytes maxL rt ∈ Tg) ∧ (fr + 1 ≤ FR ∧ 8 + (maxL + 11) + lo ≤ LO) ∧ CtX X y bytes maxL rt fr lo ρ vs h r h'
theorem dynAtX_none {β : Type} {X : GX} {x : MethodName} {FR LO : Nat} {ρ : β → Option Value ⊕ String} {vs : List AV} {h : AH} {ci : Nat} : DynAtX X x FR LO ρ vs h ci (none : Option (β × AH)) := ⟨mono_none, fun _ _ e => by cases e⟩
theorem dynAtX_if {β : Type} {X : GX} {x : MethodName} {FR LO : Nat} {ρ : β → Option Value ⊕ String} {vs : List AV} {h : AH} {ci k : Nat} {o1 o2 : Option (β × AH)} (h1 : DynAtX X x FR LO ρ vs h k o1) (h2 : DynAtX X x FR LO ρ vs h ci o2) : DynAtX X x FR LO ρ vs h ci (if ci = k then o1 else o2) := by
  by_cases e : ci = k
  · subst e; rw [if_pos rfl]; exact h1
  · rw [if_neg e]; exact h2
theorem dynAtX_of {β : Type} {X : GX} {x y : MethodName} {FR LO : Nat} {ρ : β → Option Value ⊕ String} {vs : List AV} {h : AH} {ci : Nat} {o : Option (β × AH)} {C : String} {T : u_T} {N maxL fr lo : Nat} {bytes : ByteArray} {rt : Option FieldType} (hs : SndX X y bytes maxL rt fr lo ρ vs h o) (hc : vwCl[ci]? = some (C, T, N)) (w1 : Cond.selects C x y ∈ Tg) (w2 : Cond.instanceMethod y ∈ Tg) (w3 : Cond.initialized y.cls ∈ Tg) (w4 : Cond.code y bytes maxL rt ∈ Tg) (hR : fr + 1 ≤ FR ∧ 8 + (maxL + 11) + lo ≤ LO) : DynAtX X x FR LO ρ vs h ci o := ⟨hs.1, fun r h' e => ⟨C, T, N, y, bytes, maxL, fr, lo, rt, hc, ⟨w1, w2, w3, w4⟩, hR, hs.2 r h' e⟩⟩
theorem dynX_intro {β : Type} {X : GX} {x : MethodName} {FR LO : Nat} {ρ : β → Option Value ⊕ String} {v : Option Nat} {vs : List AV} {h : AH} {g : Nat → Option (β × AH)} (hg : ∀ c, DynAtX X x FR LO ρ (vR v :: vs) h c (g c)) : DynX X x FR LO ρ (vR v :: vs) h (dsp h v g) := by
  cases v with
  | none => exact ⟨mono_none, fun _ _ e => by cases e⟩
  | some a =>
    unfold dsp
    dsimp only
    split
    · rename_i c hT
      exact ⟨(hg c).1, fun r h' e => by
        obtain ⟨C, T, N, y, bytes, maxL, fr, lo, rt, q1, q2, q3, q4⟩ := (hg c).2 r h' e
        exact ⟨a, c, C, T, N, y, bytes, maxL, fr, lo, rt, vs, rfl, hT, q1, q2, q3, q4⟩⟩
    · exact ⟨mono_none, fun _ _ e => by cases e⟩
def f_dyn_fail (v : Option Nat) (h : AH) : Option ((Unit ⊕ String) × AH) := dsp h v (fun c => if c = 0 then f_X4_fail v h else if c = 1 then f_X1_fail v h else if c = 2 then f_X2_failX v h else if c = 3 then f_X9_fail v h else if c = 4 then f_X4_fail v h else if c = 6 then f_X2_failX v h else if c = 8 then f_X4_fail v h else if c = 9 then f_X9_fail v h else none)
theorem dyn_fail {X : GX} (hX : XOK X) (v : Option Nat) (h : AH) : DynX X yX4_fail 7 110 qF [vR v] h (f_dyn_fail v h) :=
  dynX_intro (fun c => (dynAtX_if (dynAtX_of (s_X4_fail hX v h) rfl kse_X0_fail kim_X4_fail kii_X4 kcd_X4_fail ⟨Nat.le_of_ble_eq_true rfl, Nat.le_of_ble_eq_true rfl⟩) (dynAtX_if (dynAtX_of (s_X1_fail hX v h) rfl kse_X1_fail kim_X1_fail kii_X1 kcd_X1_fail ⟨Nat.le_of_ble_eq_true rfl, Nat.le_of_ble_eq_true rfl⟩) (dynAtX_if (dynAtX_of (s_X2_failX hX v h) rfl kse_X2_fail kim_X2_fail kii_X2 kcd_X2_fail ⟨Nat.le_of_ble_eq_true rfl, Nat.le_of_ble_eq_true rfl⟩) (dynAtX_if (dynAtX_of (s_X9_fail hX v h) rfl kse_X3_fail kim_X9_fail kii_X9 kcd_X9_fail ⟨Nat.le_of_ble_eq_true rfl, Nat.le_of_ble_eq_true rfl⟩) (dynAtX_if (dynAtX_of (s_X4_fail hX v h) rfl kse_X4_fail kim_X4_fail kii_X4 kcd_X4_fail ⟨Nat.le_of_ble_eq_true rfl, Nat.le_of_ble_eq_true rfl⟩) (dynAtX_if (dynAtX_of (s_X2_failX hX v h) rfl kse_X6_fail kim_X2_fail kii_X2 kcd_X2_fail ⟨Nat.le_of_ble_eq_true rfl, Nat.le_of_ble_eq_true rfl⟩) (dynAtX_if (dynAtX_of (s_X4_fail hX v h) rfl kse_X8_fail kim_X4_fail kii_X4 kcd_X4_fail ⟨Nat.le_of_ble_eq_true rfl, Nat.le_of_ble_eq_true rfl⟩) (dynAtX_if (dynAtX_of (s_X9_fail hX v h) rfl kse_X9_fail kim_X9_fail kii_X9 kcd_X9_fail ⟨Nat.le_of_ble_eq_true rfl, Nat.le_of_ble_eq_true rfl⟩) dynAtX_none)))))))))
theorem keml_357 : Cond.methodLink RX11 357 yX4_fail ∈ Tg := mT 925 (by decide +kernel) (by decide +kernel)
theorem kesm_fail : Cond.sameMethod RX4 RX4 "fail" "()V" ∈ Tg := mT 928 (by decide +kernel) (by decide +kernel)
theorem ds_X4_fail : dsc yX4_fail.cls yX4_fail.desc 0 := ⟨by decide +kernel, by decide +kernel, by decide +kernel⟩
abbrev hhF : List (Nat × Nat × Nat × Nat) := [(0, 4, 7, 333), (0, 4, 17, 326), (0, 4, 26, 360)]
abbrev hhL : List (Nat × Nat × Nat × Nat) := [(0, 9, 12, 13), (0, 9, 16, 15)]
theorem kcw_failureOf : Cond.codeWith yX11_failureOf cX11_failureOf 2 (some .int) hhF ∈ Tg := mT 921 (by decide +kernel) (by decide +kernel)
theorem kcw_element : Cond.codeWith yL_element cL_element 5 (some .int) hhL ∈ Tg := mT 1045 (by decide +kernel) (by decide +kernel)
theorem kek_X11_360 : Cond.classLink RX11 360 "java/lang/UnsupportedOperationException" ∈ Tg := mT 924 (by decide +kernel) (by decide +kernel)
theorem kek_L_13 : Cond.classLink RL 13 "java/lang/IllegalArgumentException" ∈ Tg := mT 1046 (by decide +kernel) (by decide +kernel)
theorem kek_L_15 : Cond.classLink RL 15 "java/lang/IllegalStateException" ∈ Tg := mT 1047 (by decide +kernel) (by decide +kernel)
theorem hdl_1 {α : Type} {K : CX α} {own : String} {pc : Nat} {E : String} {a b c d : Nat} {r : List (Nat × Nat × Nat × Nat)} (ht : K.2.1.2.2.2.2.2.2.2.exceptionTable.toList = tableOf ((a, b, c, d) :: r)) (hp : a ≤ pc ∧ pc < b) (h0 : d ≠ 0) (hl : Cond.classLink own d E ∈ Tg) (hc : Cond.castable E E ∈ lw_tbl) : Hdl K own pc E c := ⟨[], ⟨a, b, c, d⟩, tableOf r, ht, (fun z hz => by cases hz), (by simp [covers, hp.1, hp.2]), h0, hl, hc, rfl⟩
theorem hdl_2 {α : Type} {K : CX α} {own : String} {pc : Nat} {E E1 : String} {a b c d a1 b1 c1 d1 : Nat} {r : List (Nat × Nat × Nat × Nat)} (ht : K.2.1.2.2.2.2.2.2.2.exceptionTable.toList = tableOf ((a1, b1, c1, d1) :: (a, b, c, d) :: r)) (hp : a ≤ pc ∧ pc < b) (h1 : d1 ≠ 0) (hl1 : Cond.classLink own d1 E1 ∈ Tg) (hn1 : (E, E1) ∈ ncs) (h0 : d ≠ 0) (hl : Cond.classLink own d E ∈ Tg) (hc : Cond.castable E E ∈ lw_tbl) : Hdl K own pc E c := ⟨[⟨a1, b1, c1, d1⟩], ⟨a, b, c, d⟩, tableOf r, ht, (fun z hz => by rw [List.mem_singleton.mp hz]; exact ⟨h1, E1, hl1, hn1⟩), (by simp [covers, hp.1, hp.2]), h0, hl, hc, rfl⟩
theorem hdl_3 {α : Type} {K : CX α} {own : String} {pc : Nat} {E E1 E2 : String} {a b c d a1 b1 c1 d1 a2 b2 c2 d2 : Nat} {r : List (Nat × Nat × Nat × Nat)} (ht : K.2.1.2.2.2.2.2.2.2.exceptionTable.toList = tableOf ((a1, b1, c1, d1) :: (a2, b2, c2, d2) :: (a, b, c, d) :: r)) (hp : a ≤ pc ∧ pc < b) (h1 : d1 ≠ 0) (hl1 : Cond.classLink own d1 E1 ∈ Tg) (hn1 : (E, E1) ∈ ncs) (h2 : d2 ≠ 0) (hl2 : Cond.classLink own d2 E2 ∈ Tg) (hn2 : (E, E2) ∈ ncs) (h0 : d ≠ 0) (hl : Cond.classLink own d E ∈ Tg) (hc : Cond.castable E E ∈ lw_tbl) : Hdl K own pc E c := ⟨[⟨a1, b1, c1, d1⟩, ⟨a2, b2, c2, d2⟩], ⟨a, b, c, d⟩, tableOf r, ht, (fun z hz => by
  rcases List.mem_cons.mp hz with rfl | hz
  · exact ⟨h1, E1, hl1, hn1⟩
  · rw [List.mem_singleton.mp hz]; exact ⟨h2, E2, hl2, hn2⟩), by simp [covers, hp.1, hp.2], h0, hl, hc, rfl⟩
