/-! THE LAW'S TURNS: each keeps the state, by wip/whole/turns.py -/
theorem sc_a {b Ls a k : Nat} {xs : Nat → Int32} (h : a + k < Ls) (hL : Ls ≤ 3072) : scA b Ls xs b (i32 (a + k)) = some (xs (a + k)) := by
  have e : ¬ (i32 (a + k) < 0 ∨ Ls ≤ (i32 (a + k)).toNatClampNeg) := by
    rintro (y | y)
    · exact i32_nn (by omega) y
    · rw [i32_cl (by omega)] at y
      omega
  unfold scA
  rw [if_pos ⟨rfl, e⟩, i32_cl (by omega)]
theorem lg_self (x : Int64) : lg_cmp x x = 0 := by
  unfold lg_cmp
  rw [if_neg (by rw [gt_iff_lt, Int64.lt_iff_toInt_lt]; omega), if_pos rfl]
/-- a turn that keeps the state -/
def NX (h : AH) (o : Option (Int32 × AH)) (K : AH → Option (Int32 × AH)) : Prop := ∃ (h2 : AH) (p' : ST), o = K h2 ∧ PS p' h2 h2 ∧ aT h2 40 = some (.inl (1, 1)) ∧ aN h2 ≤ aN h + 12 ∧ aS h2 ≤ aS h + 2400
theorem NX.mk {h h1 h2 : AH} {p' : ST} {o : Option (Int32 × AH)} {K : AH → Option (Int32 × AH)} (t40 : aT h 40 = some (.inl (1, 1))) (P : PS p' h2 h2) (F : FC0 h h1) (G : FM h1 h2) (e : o = K h2) : NX h o K := by
  have e1 : aN h2 = aN h1 := congrArg (fun q : Nat × Nat => q.1) G.1.1
  have e2 : aS h2 = aS h1 := congrArg (fun q : Nat × Nat => q.2) G.1.1
  refine ⟨h2, p', e, P, ?_, by rw [e1]; exact F.1.2.1, by rw [e2]; exact F.1.2.2.2⟩
  rw [G.1.2.1, (F.2 40 (by omega) (by omega)).1]
  exact t40
theorem RLg.step {p : ST} {h : AH} {o : Option (Int64 × AH)} {o' : AH → Option (Int64 × AH)} (P : PS p h h) (U : ∀ h', PS p h h' → RLg 0 h h' o (o' h')) : ∃ r h1 h2, o = some (r, h1) ∧ o' h1 = some (r, h2) ∧ PS p h2 h2 ∧ FC h h1 ∧ FM h1 h2 := by
  obtain ⟨r, h1, -, e1, -, F, -⟩ := U h P
  have Fc := F.c P.1.1.1 (by omega)
  have M1 : MDL h1 p := P.2.c Fc
  obtain ⟨r2, h3, h2, e2, e3, F2, G⟩ := U h1 ⟨P.1, M1⟩
  rw [e1] at e2
  cases e2
  exact ⟨r, h1, h2, e1, e3, ⟨(P.1.q F).m M1.1 G.m, M1.q G⟩, Fc, G.m⟩
section TURNS
variable {b Ls a : Nat} {xs : Nat → Int32} {K : AH → Option (Int32 × AH)} {h : AH} {p : ST}
theorem t_0 (P : PS p h h) (t40 : aT h 40 = some (.inl (1, 1))) (hL : Ls ≤ 3072) (ha : a + 6 ≤ Ls) : NX h (f_L_c0 b Ls xs K (some 0) (some 26) (some 40) (i32 a) h) K := by
  obtain ⟨r, h1, h2, p', e, e0, P', F, G⟩ := UU.step P (o' := fun g => f_X12_house (some 26) (xs (a + 1)) g) (fun h' P2 => U_house P2 (xs (a + 1)))
  have e1 : f_X12_house (some 26) (xs (a + 1)) h1 = some (r, h2) := e0
  have W := P.1.1.1
  have W1 := (P.2.c F).1
  refine NX.mk t40 P' F.fc0 G ?_
  unfold f_L_c0
  simp only [show i32 a + 1 = i32 (a + 1) from i32_add a 1, sc_a (show a + 1 < Ls by omega) hL, sb_some, cv_ok W.1.1, e, bd_some, cv_ok W1.1.1, e1, if_true]
theorem t_1 (P : PS p h h) (t40 : aT h 40 = some (.inl (1, 1))) (hL : Ls ≤ 3072) (ha : a + 6 ≤ Ls) : NX h (f_L_c1 b Ls xs K (some 0) (some 26) (some 40) (i32 a) h) K := by
  obtain ⟨r, h1, h2, p', e, e0, P', F, G⟩ := UU.step P (o' := fun g => f_X12_guest (some 26) (xs (a + 1)) (xs (a + 2)) g) (fun h' P2 => RR.q0 P2 (R_guest P2.q (xs (a + 1)) (xs (a + 2))))
  have e1 : f_X12_guest (some 26) (xs (a + 1)) (xs (a + 2)) h1 = some (r, h2) := e0
  have W := P.1.1.1
  have W1 := (P.2.c F).1
  refine NX.mk t40 P' F.fc0 G ?_
  unfold f_L_c1
  simp only [show i32 a + 1 = i32 (a + 1) from i32_add a 1, sc_a (show a + 1 < Ls by omega) hL, show i32 a + 2 = i32 (a + 2) from i32_add a 2, sc_a (show a + 2 < Ls by omega) hL, sb_some, cv_ok W.1.1, e, bd_some, cv_ok W1.1.1, e1, if_true]
theorem t_2 (P : PS p h h) (t40 : aT h 40 = some (.inl (1, 1))) (hL : Ls ≤ 3072) (ha : a + 6 ≤ Ls) : NX h (f_L_c2 b Ls xs K (some 0) (some 26) (some 40) (i32 a) h) K := by
  obtain ⟨r, h1, h2, p', e, e0, P', F, G⟩ := UU.step P (o' := fun g => f_X12_comes (some 26) (xs (a + 1)) (xs (a + 2)) g) (fun h' P2 => U_comes P2 (xs (a + 1)) (xs (a + 2)))
  have e1 : f_X12_comes (some 26) (xs (a + 1)) (xs (a + 2)) h1 = some (r, h2) := e0
  have W := P.1.1.1
  have W1 := (P.2.c F).1
  refine NX.mk t40 P' F.fc0 G ?_
  unfold f_L_c2
  simp only [show i32 a + 1 = i32 (a + 1) from i32_add a 1, sc_a (show a + 1 < Ls by omega) hL, show i32 a + 2 = i32 (a + 2) from i32_add a 2, sc_a (show a + 2 < Ls by omega) hL, sb_some, cv_ok W.1.1, e, bd_some, cv_ok W1.1.1, e1, if_true]
theorem t_3 (P : PS p h h) (t40 : aT h 40 = some (.inl (1, 1))) (hL : Ls ≤ 3072) (ha : a + 6 ≤ Ls) : NX h (f_L_c3 b Ls xs K (some 0) (some 26) (some 40) (i32 a) h) K := by
  obtain ⟨r, h1, h2, p', e, e0, P', F, G⟩ := UU.step P (o' := fun g => f_X12_tells (some 26) (xs (a + 1)) g) (fun h' P2 => U_tells P2 (xs (a + 1)))
  have e1 : f_X12_tells (some 26) (xs (a + 1)) h1 = some (r, h2) := e0
  have W := P.1.1.1
  have W1 := (P.2.c F).1
  refine NX.mk t40 P' F.fc0 G ?_
  unfold f_L_c3
  simp only [show i32 a + 1 = i32 (a + 1) from i32_add a 1, sc_a (show a + 1 < Ls by omega) hL, sb_some, cv_ok W.1.1, e, bd_some, cv_ok W1.1.1, e1, if_true]
theorem t_4 (P : PS p h h) (t40 : aT h 40 = some (.inl (1, 1))) (hL : Ls ≤ 3072) (ha : a + 6 ≤ Ls) : NX h (f_L_c4 b Ls xs K (some 0) (some 26) (some 40) (i32 a) h) K := by
  obtain ⟨r, h1, h2, p', e, e0, P', F, G⟩ := UU.step P (o' := fun g => f_X12_lends (some 26) (xs (a + 1)) (xs (a + 2)) (xs (a + 3)) g) (fun h' P2 => U_lends P2 (xs (a + 1)) (xs (a + 2)) (xs (a + 3)))
  have e1 : f_X12_lends (some 26) (xs (a + 1)) (xs (a + 2)) (xs (a + 3)) h1 = some (r, h2) := e0
  have W := P.1.1.1
  have W1 := (P.2.c F).1
  refine NX.mk t40 P' F.fc0 G ?_
  unfold f_L_c4
  simp only [show i32 a + 1 = i32 (a + 1) from i32_add a 1, sc_a (show a + 1 < Ls by omega) hL, show i32 a + 2 = i32 (a + 2) from i32_add a 2, sc_a (show a + 2 < Ls by omega) hL, show i32 a + 3 = i32 (a + 3) from i32_add a 3, sc_a (show a + 3 < Ls by omega) hL, sb_some, cv_ok W.1.1, e, bd_some, cv_ok W1.1.1, e1, if_true]
theorem t_5 (P : PS p h h) (t40 : aT h 40 = some (.inl (1, 1))) (hL : Ls ≤ 3072) (ha : a + 6 ≤ Ls) : NX h (f_L_c5 b Ls xs K (some 0) (some 26) (some 40) (i32 a) h) K := by
  obtain ⟨r, h1, h2, p', e, e0, P', F, G⟩ := UU.step P (o' := fun g => f_X12_table (some 26) (xs (a + 1)) (xs (a + 2)) g) (fun h' P2 => U_table P2 (xs (a + 1)) (xs (a + 2)))
  have e1 : f_X12_table (some 26) (xs (a + 1)) (xs (a + 2)) h1 = some (r, h2) := e0
  have W := P.1.1.1
  have W1 := (P.2.c F).1
  refine NX.mk t40 P' F.fc0 G ?_
  unfold f_L_c5
  simp only [show i32 a + 1 = i32 (a + 1) from i32_add a 1, sc_a (show a + 1 < Ls by omega) hL, show i32 a + 2 = i32 (a + 2) from i32_add a 2, sc_a (show a + 2 < Ls by omega) hL, sb_some, cv_ok W.1.1, e, bd_some, cv_ok W1.1.1, e1, if_true]
theorem t_6 (P : PS p h h) (t40 : aT h 40 = some (.inl (1, 1))) (hL : Ls ≤ 3072) (ha : a + 6 ≤ Ls) : NX h (f_L_c6 b Ls xs K (some 0) (some 26) (some 40) (i32 a) h) K := by
  obtain ⟨r, h1, h2, p', e, e0, P', F, G⟩ := UU.step P (o' := fun g => f_X12_weighs (some 26) (xs (a + 1)) (xs (a + 2)) g) (fun h' P2 => U_weighs P2 (xs (a + 1)) (xs (a + 2)))
  have e1 : f_X12_weighs (some 26) (xs (a + 1)) (xs (a + 2)) h1 = some (r, h2) := e0
  have W := P.1.1.1
  have W1 := (P.2.c F).1
  refine NX.mk t40 P' F.fc0 G ?_
  unfold f_L_c6
  simp only [show i32 a + 1 = i32 (a + 1) from i32_add a 1, sc_a (show a + 1 < Ls by omega) hL, show i32 a + 2 = i32 (a + 2) from i32_add a 2, sc_a (show a + 2 < Ls by omega) hL, sb_some, cv_ok W.1.1, e, bd_some, cv_ok W1.1.1, e1, if_true]
theorem t_7 (P : PS p h h) (t40 : aT h 40 = some (.inl (1, 1))) (hL : Ls ≤ 3072) (ha : a + 6 ≤ Ls) : NX h (f_L_c7 b Ls xs K (some 0) (some 26) (some 40) (i32 a) h) K := by
  obtain ⟨r, h1, h2, p', e, e0, P', F, G⟩ := UU.step P (o' := fun g => f_X12_days (some 26) (xs (a + 1)) g) (fun h' P2 => U_days P2 (xs (a + 1)))
  have e1 : f_X12_days (some 26) (xs (a + 1)) h1 = some (r, h2) := e0
  have W := P.1.1.1
  have W1 := (P.2.c F).1
  refine NX.mk t40 P' F.fc0 G ?_
  unfold f_L_c7
  simp only [show i32 a + 1 = i32 (a + 1) from i32_add a 1, sc_a (show a + 1 < Ls by omega) hL, sb_some, cv_ok W.1.1, e, bd_some, cv_ok W1.1.1, e1, if_true]
theorem t_8 (P : PS p h h) (t40 : aT h 40 = some (.inl (1, 1))) (hL : Ls ≤ 3072) (ha : a + 6 ≤ Ls) : NX h (f_L_c8 b Ls xs K (some 0) (some 26) (some 40) (i32 a) h) K := by
  obtain ⟨r, h1, h2, p', e, e0, P', F, G⟩ := UU.step P (o' := fun g => f_X12_weightThen (some 26) (xs (a + 1)) (xs (a + 2)) g) (fun h' P2 => RR.q0 P2 (R_weightThen P2.q (xs (a + 1)) (xs (a + 2))))
  have e1 : f_X12_weightThen (some 26) (xs (a + 1)) (xs (a + 2)) h1 = some (r, h2) := e0
  have W := P.1.1.1
  have W1 := (P.2.c F).1
  refine NX.mk t40 P' F.fc0 G ?_
  unfold f_L_c8
  simp only [show i32 a + 1 = i32 (a + 1) from i32_add a 1, sc_a (show a + 1 < Ls by omega) hL, show i32 a + 2 = i32 (a + 2) from i32_add a 2, sc_a (show a + 2 < Ls by omega) hL, sb_some, cv_ok W.1.1, e, bd_some, cv_ok W1.1.1, e1, if_true]
theorem t_9 (P : PS p h h) (t40 : aT h 40 = some (.inl (1, 1))) (hL : Ls ≤ 3072) (ha : a + 6 ≤ Ls) : NX h (f_L_c9 b Ls xs K (some 0) (some 26) (some 40) (i32 a) h) K := by
  obtain ⟨r, h1, h2, p', e, e0, P', F, G⟩ := UU.step P (o' := fun g => f_X12_then (some 26) (xs (a + 1)) (xs (a + 2)) g) (fun h' P2 => RR.q0 P2 (R_then P2.q (xs (a + 1)) (xs (a + 2))))
  have e1 : f_X12_then (some 26) (xs (a + 1)) (xs (a + 2)) h1 = some (r, h2) := e0
  have W := P.1.1.1
  have W1 := (P.2.c F).1
  refine NX.mk t40 P' F.fc0 G ?_
  unfold f_L_c9
  simp only [show i32 a + 1 = i32 (a + 1) from i32_add a 1, sc_a (show a + 1 < Ls by omega) hL, show i32 a + 2 = i32 (a + 2) from i32_add a 2, sc_a (show a + 2 < Ls by omega) hL, sb_some, cv_ok W.1.1, e, bd_some, cv_ok W1.1.1, e1, if_true]
theorem t_10 (P : PS p h h) (t40 : aT h 40 = some (.inl (1, 1))) (hL : Ls ≤ 3072) (ha : a + 6 ≤ Ls) : NX h (f_L_c10 b Ls xs K (some 0) (some 26) (some 40) (i32 a) h) K := by
  obtain ⟨r, h1, h2, p', e, e0, P', F, G⟩ := UU.step P (o' := fun g => f_X12_leaves (some 26) (xs (a + 1)) g) (fun h' P2 => RR.q0 P2 (R_leaves P2.q (xs (a + 1))))
  have e1 : f_X12_leaves (some 26) (xs (a + 1)) h1 = some (r, h2) := e0
  have W := P.1.1.1
  have W1 := (P.2.c F).1
  refine NX.mk t40 P' F.fc0 G ?_
  unfold f_L_c10
  simp only [show i32 a + 1 = i32 (a + 1) from i32_add a 1, sc_a (show a + 1 < Ls by omega) hL, sb_some, cv_ok W.1.1, e, bd_some, cv_ok W1.1.1, e1, if_true]
theorem t_11 (P : PS p h h) (t40 : aT h 40 = some (.inl (1, 1))) (hL : Ls ≤ 3072) (ha : a + 6 ≤ Ls) : NX h (f_L_c11 b Ls xs K (some 0) (some 26) (some 40) (i32 a) h) K := by
  obtain ⟨r, h1, h2, p', e, e0, P', F, G⟩ := UU.step P (o' := fun g => f_X12_order (some 26) (xs (a + 1)) g) (fun h' P2 => RR.q0 P2 (R_order P2.q (xs (a + 1))))
  have e1 : f_X12_order (some 26) (xs (a + 1)) h1 = some (r, h2) := e0
  have W := P.1.1.1
  have W1 := (P.2.c F).1
  refine NX.mk t40 P' F.fc0 G ?_
  unfold f_L_c11
  simp only [show i32 a + 1 = i32 (a + 1) from i32_add a 1, sc_a (show a + 1 < Ls by omega) hL, sb_some, cv_ok W.1.1, e, bd_some, cv_ok W1.1.1, e1, if_true]
theorem t_12 (P : PS p h h) (t40 : aT h 40 = some (.inl (1, 1))) (hL : Ls ≤ 3072) (ha : a + 6 ≤ Ls) : NX h (f_L_c12 b Ls xs K (some 0) (some 26) (some 40) (i32 a) h) K := by
  obtain ⟨r, h1, h2, p', e, e0, P', F, G⟩ := UU.step P (o' := fun g => f_X12_feed (some 26) (xs (a + 1)) (xs (a + 2)) g) (fun h' P2 => RR.q0 P2 (R_feed P2.q (xs (a + 1)) (xs (a + 2))))
  have e1 : f_X12_feed (some 26) (xs (a + 1)) (xs (a + 2)) h1 = some (r, h2) := e0
  have W := P.1.1.1
  have W1 := (P.2.c F).1
  refine NX.mk t40 P' F.fc0 G ?_
  unfold f_L_c12
  simp only [show i32 a + 1 = i32 (a + 1) from i32_add a 1, sc_a (show a + 1 < Ls by omega) hL, show i32 a + 2 = i32 (a + 2) from i32_add a 2, sc_a (show a + 2 < Ls by omega) hL, sb_some, cv_ok W.1.1, e, bd_some, cv_ok W1.1.1, e1, if_true]
theorem t_13 (P : PS p h h) (t40 : aT h 40 = some (.inl (1, 1))) (hL : Ls ≤ 3072) (ha : a + 6 ≤ Ls) : NX h (f_L_c13 b Ls xs K (some 0) (some 26) (some 40) (i32 a) h) K := by
  obtain ⟨r, h1, h2, p', e, e0, P', F, G⟩ := UU.step P (o' := fun g => f_X12_empty (some 26) (xs (a + 1)) g) (fun h' P2 => RR.q0 P2 (R_empty P2.q (xs (a + 1))))
  have e1 : f_X12_empty (some 26) (xs (a + 1)) h1 = some (r, h2) := e0
  have W := P.1.1.1
  have W1 := (P.2.c F).1
  refine NX.mk t40 P' F.fc0 G ?_
  unfold f_L_c13
  simp only [show i32 a + 1 = i32 (a + 1) from i32_add a 1, sc_a (show a + 1 < Ls by omega) hL, sb_some, cv_ok W.1.1, e, bd_some, cv_ok W1.1.1, e1, if_true]
theorem t_14 (P : PS p h h) (t40 : aT h 40 = some (.inl (1, 1))) (hL : Ls ≤ 3072) (ha : a + 6 ≤ Ls) : NX h (f_L_c14 b Ls xs K (some 0) (some 26) (some 40) (i32 a) h) K := by
  obtain ⟨r, h1, h2, p', e, e0, P', F, G⟩ := UU.step P (o' := fun g => f_X12_tell (some 26) (xs (a + 1)) g) (fun h' P2 => RR.q0 P2 (R_tell P2.q (xs (a + 1))))
  have e1 : f_X12_tell (some 26) (xs (a + 1)) h1 = some (r, h2) := e0
  have W := P.1.1.1
  have W1 := (P.2.c F).1
  refine NX.mk t40 P' F.fc0 G ?_
  unfold f_L_c14
  simp only [show i32 a + 1 = i32 (a + 1) from i32_add a 1, sc_a (show a + 1 < Ls by omega) hL, sb_some, cv_ok W.1.1, e, bd_some, cv_ok W1.1.1, e1, if_true]
theorem t_15 (P : PS p h h) (t40 : aT h 40 = some (.inl (1, 1))) (hL : Ls ≤ 3072) (ha : a + 6 ≤ Ls) : NX h (f_L_c15 b Ls xs K (some 0) (some 26) (some 40) (i32 a) h) K := by
  obtain ⟨r, h1, h2, p', e, e0, P', F, G⟩ := UU.step P (o' := fun g => f_X12_loan (some 26) (xs (a + 1)) (xs (a + 2)) g) (fun h' P2 => RR.q0 P2 (R_loan P2.q (xs (a + 1)) (xs (a + 2))))
  have e1 : f_X12_loan (some 26) (xs (a + 1)) (xs (a + 2)) h1 = some (r, h2) := e0
  have W := P.1.1.1
  have W1 := (P.2.c F).1
  refine NX.mk t40 P' F.fc0 G ?_
  unfold f_L_c15
  simp only [show i32 a + 1 = i32 (a + 1) from i32_add a 1, sc_a (show a + 1 < Ls by omega) hL, show i32 a + 2 = i32 (a + 2) from i32_add a 2, sc_a (show a + 2 < Ls by omega) hL, sb_some, cv_ok W.1.1, e, bd_some, cv_ok W1.1.1, e1, if_true]
theorem t_16 (P : PS p h h) (t40 : aT h 40 = some (.inl (1, 1))) (hL : Ls ≤ 3072) (ha : a + 6 ≤ Ls) : NX h (f_L_c16 b Ls xs K (some 0) (some 26) (some 40) (i32 a) h) K := by
  obtain ⟨r, h1, h2, p', e, e0, P', F, G⟩ := UU.step P (o' := fun g => f_X12_waits (some 26) (xs (a + 1)) g) (fun h' P2 => RR.q0 P2 (R_waits P2.q (xs (a + 1))))
  have e1 : f_X12_waits (some 26) (xs (a + 1)) h1 = some (r, h2) := e0
  have W := P.1.1.1
  have W1 := (P.2.c F).1
  refine NX.mk t40 P' F.fc0 G ?_
  unfold f_L_c16
  simp only [show i32 a + 1 = i32 (a + 1) from i32_add a 1, sc_a (show a + 1 < Ls by omega) hL, sb_some, cv_ok W.1.1, e, bd_some, cv_ok W1.1.1, e1, if_true]
theorem t_17 (P : PS p h h) (t40 : aT h 40 = some (.inl (1, 1))) (hL : Ls ≤ 3072) (ha : a + 6 ≤ Ls) : NX h (f_L_c17 b Ls xs K (some 0) (some 26) (some 40) (i32 a) h) K := by
  obtain ⟨r, h1, h2, p', e, e0, P', F, G⟩ := UU.step P (o' := fun g => f_X12_pairs (some 26) (xs (a + 1)) g) (fun h' P2 => RR.q0 P2 (R_pairs P2.q (xs (a + 1))))
  have e1 : f_X12_pairs (some 26) (xs (a + 1)) h1 = some (r, h2) := e0
  have W := P.1.1.1
  have W1 := (P.2.c F).1
  refine NX.mk t40 P' F.fc0 G ?_
  unfold f_L_c17
  simp only [show i32 a + 1 = i32 (a + 1) from i32_add a 1, sc_a (show a + 1 < Ls by omega) hL, sb_some, cv_ok W.1.1, e, bd_some, cv_ok W1.1.1, e1, if_true]
theorem t_18 (P : PS p h h) (t40 : aT h 40 = some (.inl (1, 1))) (hL : Ls ≤ 3072) (ha : a + 6 ≤ Ls) : NX h (f_L_c18 b Ls xs K (some 0) (some 26) (some 40) (i32 a) h) K := by
  obtain ⟨r, h1, h2, p', e, e0, P', F, G⟩ := UU.step P (o' := fun g => f_X12_ledger (some 26) g) (fun h' P2 => RR.q0 P2 (R_ledger P2.q))
  have e1 : f_X12_ledger (some 26) h1 = some (r, h2) := e0
  have W := P.1.1.1
  have W1 := (P.2.c F).1
  refine NX.mk t40 P' F.fc0 G ?_
  unfold f_L_c18
  simp only [cv_ok W.1.1, e, bd_some, cv_ok W1.1.1, e1, if_true]
theorem t_19 (P : PS p h h) (t40 : aT h 40 = some (.inl (1, 1))) (hL : Ls ≤ 3072) (ha : a + 6 ≤ Ls) : NX h (f_L_c19 b Ls xs K (some 0) (some 26) (some 40) (i32 a) h) K := by
  obtain ⟨r, h1, h2, p', e, e0, P', F, G⟩ := UU.step P (o' := fun g => f_X12_tears (some 26) (xs (a + 1)) g) (fun h' P2 => RR.q0 P2 (R_tears P2.q (xs (a + 1))))
  have e1 : f_X12_tears (some 26) (xs (a + 1)) h1 = some (r, h2) := e0
  have W := P.1.1.1
  have W1 := (P.2.c F).1
  refine NX.mk t40 P' F.fc0 G ?_
  unfold f_L_c19
  simp only [show i32 a + 1 = i32 (a + 1) from i32_add a 1, sc_a (show a + 1 < Ls by omega) hL, sb_some, cv_ok W.1.1, e, bd_some, cv_ok W1.1.1, e1, if_true]
theorem t_20 (P : PS p h h) (t40 : aT h 40 = some (.inl (1, 1))) (hL : Ls ≤ 3072) (ha : a + 6 ≤ Ls) : NX h (f_L_c20 b Ls xs K (some 0) (some 26) (some 40) (i32 a) h) K := by
  obtain ⟨r, h1, h2, p', e, e0, P', F, G⟩ := UU.step P (o' := fun g => f_X12_whatIs (some 26) (xs (a + 1)) (xs (a + 2)) (xs (a + 3)) g) (fun h' P2 => U_whatIs P2 (xs (a + 1)) (xs (a + 2)) (xs (a + 3)))
  have e1 : f_X12_whatIs (some 26) (xs (a + 1)) (xs (a + 2)) (xs (a + 3)) h1 = some (r, h2) := e0
  have W := P.1.1.1
  have W1 := (P.2.c F).1
  refine NX.mk t40 P' F.fc0 G ?_
  unfold f_L_c20
  simp only [show i32 a + 1 = i32 (a + 1) from i32_add a 1, sc_a (show a + 1 < Ls by omega) hL, show i32 a + 2 = i32 (a + 2) from i32_add a 2, sc_a (show a + 2 < Ls by omega) hL, show i32 a + 3 = i32 (a + 3) from i32_add a 3, sc_a (show a + 3 < Ls by omega) hL, sb_some, cv_ok W.1.1, e, bd_some, cv_ok W1.1.1, e1, if_true]
theorem t_21 (P : PS p h h) (t40 : aT h 40 = some (.inl (1, 1))) (hL : Ls ≤ 3072) (ha : a + 6 ≤ Ls) : NX h (f_L_c21 b Ls xs K (some 0) (some 26) (some 40) (i32 a) h) K := by
  obtain ⟨r, h1, h2, p', e, e0, P', F, G⟩ := UU.step P (o' := fun g => f_X12_cameWith (some 26) (xs (a + 1)) (xs (a + 2)) (xs (a + 3)) g) (fun h' P2 => U_cameWith P2 (xs (a + 1)) (xs (a + 2)) (xs (a + 3)))
  have e1 : f_X12_cameWith (some 26) (xs (a + 1)) (xs (a + 2)) (xs (a + 3)) h1 = some (r, h2) := e0
  have W := P.1.1.1
  have W1 := (P.2.c F).1
  refine NX.mk t40 P' F.fc0 G ?_
  unfold f_L_c21
  simp only [show i32 a + 1 = i32 (a + 1) from i32_add a 1, sc_a (show a + 1 < Ls by omega) hL, show i32 a + 2 = i32 (a + 2) from i32_add a 2, sc_a (show a + 2 < Ls by omega) hL, show i32 a + 3 = i32 (a + 3) from i32_add a 3, sc_a (show a + 3 < Ls by omega) hL, sb_some, cv_ok W.1.1, e, bd_some, cv_ok W1.1.1, e1, if_true]
theorem t_22 (P : PS p h h) (t40 : aT h 40 = some (.inl (1, 1))) (hL : Ls ≤ 3072) (ha : a + 6 ≤ Ls) : NX h (f_L_c22 b Ls xs K (some 0) (some 26) (some 40) (i32 a) h) K := by
  obtain ⟨r, h1, h2, p', e, e0, P', F, G⟩ := UU.step P (o' := fun g => f_X12_two (some 26) (xs (a + 1)) (xs (a + 2)) (xs (a + 3)) g) (fun h' P2 => RR.q0 P2 (R_two P2.q (xs (a + 1)) (xs (a + 2)) (xs (a + 3))))
  have e1 : f_X12_two (some 26) (xs (a + 1)) (xs (a + 2)) (xs (a + 3)) h1 = some (r, h2) := e0
  have W := P.1.1.1
  have W1 := (P.2.c F).1
  refine NX.mk t40 P' F.fc0 G ?_
  unfold f_L_c22
  simp only [show i32 a + 1 = i32 (a + 1) from i32_add a 1, sc_a (show a + 1 < Ls by omega) hL, show i32 a + 2 = i32 (a + 2) from i32_add a 2, sc_a (show a + 2 < Ls by omega) hL, show i32 a + 3 = i32 (a + 3) from i32_add a 3, sc_a (show a + 3 < Ls by omega) hL, sb_some, cv_ok W.1.1, e, bd_some, cv_ok W1.1.1, e1, if_true]
theorem t_23 (P : PS p h h) (t40 : aT h 40 = some (.inl (1, 1))) (hL : Ls ≤ 3072) (ha : a + 6 ≤ Ls) : NX h (f_L_c23 b Ls xs K (some 0) (some 26) (some 40) (i32 a) h) K := by
  obtain ⟨r, h1, h2, e, e0, P', F, G⟩ := RLg.step P (o' := fun g => f_X12_feasts (some 26) (xs (a + 1)) (xs (a + 2)) (xs (a + 3)) (xs (a + 4)) g) (fun h' P2 => R_feasts P2.q (xs (a + 1)) (xs (a + 2)) (xs (a + 3)) (xs (a + 4)))
  have e1 : f_X12_feasts (some 26) (xs (a + 1)) (xs (a + 2)) (xs (a + 3)) (xs (a + 4)) h1 = some (r, h2) := e0
  have W := P.1.1.1
  have W1 := (P.2.c F).1
  refine NX.mk t40 P' F.fc0 G ?_
  unfold f_L_c23
  simp only [show i32 a + 1 = i32 (a + 1) from i32_add a 1, sc_a (show a + 1 < Ls by omega) hL, show i32 a + 2 = i32 (a + 2) from i32_add a 2, sc_a (show a + 2 < Ls by omega) hL, show i32 a + 3 = i32 (a + 3) from i32_add a 3, sc_a (show a + 3 < Ls by omega) hL, show i32 a + 4 = i32 (a + 4) from i32_add a 4, sc_a (show a + 4 < Ls by omega) hL, sb_some, cv_ok W.1.1, e, bd_some, cv_ok W1.1.1, e1, lg_self, if_true]
theorem t_24 (P : PS p h h) (t40 : aT h 40 = some (.inl (1, 1))) (hL : Ls ≤ 3072) (ha : a + 6 ≤ Ls) : NX h (f_L_c24 b Ls xs K (some 0) (some 26) (some 40) (i32 a) h) K := by
  obtain ⟨r, h1, h2, e, e0, P', F, G⟩ := RLg.step P (o' := fun g => f_X12_mean (some 26) (xs (a + 1)) g) (fun h' P2 => R_mean P2.q P2.1.1.2.2.2 (xs (a + 1)))
  have e1 : f_X12_mean (some 26) (xs (a + 1)) h1 = some (r, h2) := e0
  have W := P.1.1.1
  have W1 := (P.2.c F).1
  refine NX.mk t40 P' F.fc0 G ?_
  unfold f_L_c24
  simp only [show i32 a + 1 = i32 (a + 1) from i32_add a 1, sc_a (show a + 1 < Ls by omega) hL, sb_some, cv_ok W.1.1, e, bd_some, cv_ok W1.1.1, e1, lg_self, if_true]
theorem t_25 (P : PS p h h) (t40 : aT h 40 = some (.inl (1, 1))) (hL : Ls ≤ 3072) (ha : a + 6 ≤ Ls) : NX h (f_L_c25 b Ls xs K (some 0) (some 26) (some 40) (i32 a) h) K := by
  obtain ⟨r, h1, h2, p', e, e0, P', F, G⟩ := UU.step P (o' := fun g => f_X12_forged (some 26) (xs (a + 1)) g) (fun h' P2 => U_forged P2 (xs (a + 1)))
  have e1 : f_X12_forged (some 26) (xs (a + 1)) h1 = some (r, h2) := e0
  have W := P.1.1.1
  have W1 := (P.2.c F).1
  refine NX.mk t40 P' F.fc0 G ?_
  unfold f_L_c25
  simp only [show i32 a + 1 = i32 (a + 1) from i32_add a 1, sc_a (show a + 1 < Ls by omega) hL, sb_some, cv_ok W.1.1, e, bd_some, cv_ok W1.1.1, e1, if_true]
theorem t_26 (P : PS p h h) (t40 : aT h 40 = some (.inl (1, 1))) (hL : Ls ≤ 3072) (ha : a + 6 ≤ Ls) : NX h (f_L_c26 b Ls xs K (some 0) (some 26) (some 40) (i32 a) h) K := by
  obtain ⟨r, h1, h2, p', e, e0, P', F, G⟩ := UU.step P (o' := fun g => f_X12_judge (some 26) (xs (a + 1)) g) (fun h' P2 => U_judge P2 (xs (a + 1)))
  have e1 : f_X12_judge (some 26) (xs (a + 1)) h1 = some (r, h2) := e0
  have W := P.1.1.1
  have W1 := (P.2.c F).1
  refine NX.mk t40 P' F.fc0 G ?_
  unfold f_L_c26
  simp only [show i32 a + 1 = i32 (a + 1) from i32_add a 1, sc_a (show a + 1 < Ls by omega) hL, sb_some, cv_ok W.1.1, e, bd_some, cv_ok W1.1.1, e1, if_true]
theorem t_27 (P : PS p h h) (t40 : aT h 40 = some (.inl (1, 1))) (hL : Ls ≤ 3072) (ha : a + 6 ≤ Ls) : NX h (f_L_c27 b Ls xs K (some 0) (some 26) (some 40) (i32 a) h) K := by
  obtain ⟨r, h1, h2, p', e, e0, P', F, G⟩ := UU.step P (o' := fun g => f_X12_seasons (some 26) (xs (a + 1)) (xs (a + 2)) (xs (a + 3)) g) (fun h' P2 => RR.q0 P2 (R_seasons P2.q (xs (a + 1)) (xs (a + 2)) (xs (a + 3))))
  have e1 : f_X12_seasons (some 26) (xs (a + 1)) (xs (a + 2)) (xs (a + 3)) h1 = some (r, h2) := e0
  have W := P.1.1.1
  have W1 := (P.2.c F).1
  refine NX.mk t40 P' F.fc0 G ?_
  unfold f_L_c27
  simp only [show i32 a + 1 = i32 (a + 1) from i32_add a 1, sc_a (show a + 1 < Ls by omega) hL, show i32 a + 2 = i32 (a + 2) from i32_add a 2, sc_a (show a + 2 < Ls by omega) hL, show i32 a + 3 = i32 (a + 3) from i32_add a 3, sc_a (show a + 3 < Ls by omega) hL, sb_some, cv_ok W.1.1, e, bd_some, cv_ok W1.1.1, e1, if_true]
theorem t_28 (P : PS p h h) (t40 : aT h 40 = some (.inl (1, 1))) (hL : Ls ≤ 3072) (ha : a + 6 ≤ Ls) : NX h (f_L_c28 b Ls xs K (some 0) (some 26) (some 40) (i32 a) h) K := by
  obtain ⟨r, h1, h2, p', e, e0, P', F, G⟩ := UU.step P (o' := fun g => f_X12_image (some 26) g) (fun h' P2 => U_image P2)
  have e1 : f_X12_image (some 26) h1 = some (r, h2) := e0
  have W := P.1.1.1
  have W1 := (P.2.c F).1
  refine NX.mk t40 P' F.fc0 G ?_
  unfold f_L_c28
  simp only [cv_ok W.1.1, e, bd_some, cv_ok W1.1.1, e1, if_true]
theorem t_29 (P : PS p h h) (t40 : aT h 40 = some (.inl (1, 1))) (hL : Ls ≤ 3072) (ha : a + 6 ≤ Ls) : NX h (f_L_c29 b Ls xs K (some 0) (some 26) (some 40) (i32 a) h) K := by
  obtain ⟨r, h1, h2, p', e, e0, P', F, G⟩ := UU.step P (o' := fun g => f_X12_restore (some 26) g) (fun h' P2 => U_restore P2)
  have e1 : f_X12_restore (some 26) h1 = some (r, h2) := e0
  have W := P.1.1.1
  have W1 := (P.2.c F).1
  refine NX.mk t40 P' F.fc0 G ?_
  unfold f_L_c29
  simp only [cv_ok W.1.1, e, bd_some, cv_ok W1.1.1, e1, if_true]
theorem t_30 (P : PS p h h) (t40 : aT h 40 = some (.inl (1, 1))) (hL : Ls ≤ 3072) (ha : a + 6 ≤ Ls) : NX h (f_L_c30 b Ls xs K (some 0) (some 26) (some 40) (i32 a) h) K := by
  obtain ⟨r, h1, h2, p', e, e0, P', F, G⟩ := UU.step P (o' := fun g => f_X12_count (some 26) (xs (a + 1)) g) (fun h' P2 => RR.q0 P2 (R_count P2.q (xs (a + 1))))
  have e1 : f_X12_count (some 26) (xs (a + 1)) h1 = some (r, h2) := e0
  have W := P.1.1.1
  have W1 := (P.2.c F).1
  refine NX.mk t40 P' F.fc0 G ?_
  unfold f_L_c30
  simp only [show i32 a + 1 = i32 (a + 1) from i32_add a 1, sc_a (show a + 1 < Ls by omega) hL, sb_some, cv_ok W.1.1, e, bd_some, cv_ok W1.1.1, e1, if_true]
theorem t_31 (P : PS p h h) (t40 : aT h 40 = some (.inl (1, 1))) (hL : Ls ≤ 3072) (ha : a + 6 ≤ Ls) : NX h (f_L_c31 b Ls xs K (some 0) (some 26) (some 40) (i32 a) h) K := by
  obtain ⟨r, h1, h2, p', e, e0, P', F, G⟩ := UU.step P (o' := fun g => f_X12_keep (some 26) (xs (a + 1)) (xs (a + 2)) (xs (a + 3)) (xs (a + 4)) g) (fun h' P2 => U_keep P2 (xs (a + 1)) (xs (a + 2)) (xs (a + 3)) (xs (a + 4)))
  have e1 : f_X12_keep (some 26) (xs (a + 1)) (xs (a + 2)) (xs (a + 3)) (xs (a + 4)) h1 = some (r, h2) := e0
  have W := P.1.1.1
  have W1 := (P.2.c F).1
  refine NX.mk t40 P' F.fc0 G ?_
  unfold f_L_c31
  simp only [show i32 a + 1 = i32 (a + 1) from i32_add a 1, sc_a (show a + 1 < Ls by omega) hL, show i32 a + 2 = i32 (a + 2) from i32_add a 2, sc_a (show a + 2 < Ls by omega) hL, show i32 a + 3 = i32 (a + 3) from i32_add a 3, sc_a (show a + 3 < Ls by omega) hL, show i32 a + 4 = i32 (a + 4) from i32_add a 4, sc_a (show a + 4 < Ls by omega) hL, sb_some, cv_ok W.1.1, e, bd_some, cv_ok W1.1.1, e1, if_true]
theorem t_32 (P : PS p h h) (t40 : aT h 40 = some (.inl (1, 1))) (hL : Ls ≤ 3072) (ha : a + 6 ≤ Ls) : NX h (f_L_c32 b Ls xs K (some 0) (some 26) (some 40) (i32 a) h) K := by
  obtain ⟨r, h1, h2, p', e, e0, P', F, G⟩ := UU.step P (o' := fun g => f_X12_row (some 26) (xs (a + 1)) (xs (a + 2)) (xs (a + 3)) g) (fun h' P2 => U_row P2 (xs (a + 1)) (xs (a + 2)) (xs (a + 3)))
  have e1 : f_X12_row (some 26) (xs (a + 1)) (xs (a + 2)) (xs (a + 3)) h1 = some (r, h2) := e0
  have W := P.1.1.1
  have W1 := (P.2.c F).1
  refine NX.mk t40 P' F.fc0 G ?_
  unfold f_L_c32
  simp only [show i32 a + 1 = i32 (a + 1) from i32_add a 1, sc_a (show a + 1 < Ls by omega) hL, show i32 a + 2 = i32 (a + 2) from i32_add a 2, sc_a (show a + 2 < Ls by omega) hL, show i32 a + 3 = i32 (a + 3) from i32_add a 3, sc_a (show a + 3 < Ls by omega) hL, sb_some, cv_ok W.1.1, e, bd_some, cv_ok W1.1.1, e1, if_true]
theorem t_33 (P : PS p h h) (t40 : aT h 40 = some (.inl (1, 1))) (hL : Ls ≤ 3072) (ha : a + 6 ≤ Ls) : NX h (f_L_c33 b Ls xs K (some 0) (some 26) (some 40) (i32 a) h) K := by
  obtain ⟨r, h1, h2, p', e, e0, P', F, G⟩ := UU.step P (o' := fun g => f_X12_put (some 26) (xs (a + 1)) (xs (a + 2)) (xs (a + 3)) g) (fun h' P2 => U_put P2 (xs (a + 1)) (xs (a + 2)) (xs (a + 3)))
  have e1 : f_X12_put (some 26) (xs (a + 1)) (xs (a + 2)) (xs (a + 3)) h1 = some (r, h2) := e0
  have W := P.1.1.1
  have W1 := (P.2.c F).1
  refine NX.mk t40 P' F.fc0 G ?_
  unfold f_L_c33
  simp only [show i32 a + 1 = i32 (a + 1) from i32_add a 1, sc_a (show a + 1 < Ls by omega) hL, show i32 a + 2 = i32 (a + 2) from i32_add a 2, sc_a (show a + 2 < Ls by omega) hL, show i32 a + 3 = i32 (a + 3) from i32_add a 3, sc_a (show a + 3 < Ls by omega) hL, sb_some, cv_ok W.1.1, e, bd_some, cv_ok W1.1.1, e1, if_true]
theorem t_34 (P : PS p h h) (t40 : aT h 40 = some (.inl (1, 1))) (hL : Ls ≤ 3072) (ha : a + 6 ≤ Ls) : NX h (f_L_c34 b Ls xs K (some 0) (some 26) (some 40) (i32 a) h) K := by
  obtain ⟨k, q, h1, -, e, -, -, v, C, -, F, -⟩ := U_element P t40 (xs (a + 1)) (xs (a + 2))
  have P1 : PS p h h1 := ⟨P.1, P.2.fc0 F⟩
  obtain ⟨k2, q2, h3, h2, e2, e3, e4, v2, C2, M2, -, G⟩ := U_element P1 t40 (xs (a + 1)) (xs (a + 2))
  rw [e] at e2
  cases e2
  have W := P1.2.1
  have W2 := M2.1
  refine NX.mk (p' := p) t40 ⟨C2.m W G, M2⟩ F G ?_
  have t2 : aT h2 40 = some (.inl (1, 1)) := by rw [G.1.2.1, (F.2 40 (by omega) (by omega)).1]; exact t40
  unfold f_L_c34
  simp only [show i32 a + 1 = i32 (a + 1) from i32_add a 1, sc_a (show a + 1 < Ls by omega) hL, show i32 a + 2 = i32 (a + 2) from i32_add a 2, sc_a (show a + 2 < Ls by omega) hL, sb_some, e, bd_some, cv_ok W.1.1, e3, cv_ok W2.1.1, e4, if_true]
  by_cases c : k = 0
  · rw [if_pos c, show jA h2 (some 40) 0 = some (aL h2 40 0) from ?_, sb_some, G.1.2.2.2, v2 c, lg_self, if_pos rfl]
    unfold jA
    simp only [t2]
    rfl
  · rw [if_neg c]
theorem t_35 (P : PS p h h) (t40 : aT h 40 = some (.inl (1, 1))) (hL : Ls ≤ 3072) (ha : a + 6 ≤ Ls) : NX h (f_L_c35 b Ls xs K (some 0) (some 26) (some 40) (i32 a) h) K := by
  obtain ⟨r, h1, h2, p', e, e0, P', F, G⟩ := UU.step P (o' := fun g => f_X12_copy (some 26) (xs (a + 1)) (xs (a + 2)) (xs (a + 3)) (xs (a + 4)) (xs (a + 5)) g) (fun h' P2 => U_copy P2 (xs (a + 1)) (xs (a + 2)) (xs (a + 3)) (xs (a + 4)) (xs (a + 5)))
  have e1 : f_X12_copy (some 26) (xs (a + 1)) (xs (a + 2)) (xs (a + 3)) (xs (a + 4)) (xs (a + 5)) h1 = some (r, h2) := e0
  have W := P.1.1.1
  have W1 := (P.2.c F).1
  refine NX.mk t40 P' F.fc0 G ?_
  unfold f_L_c35
  simp only [show i32 a + 1 = i32 (a + 1) from i32_add a 1, sc_a (show a + 1 < Ls by omega) hL, show i32 a + 2 = i32 (a + 2) from i32_add a 2, sc_a (show a + 2 < Ls by omega) hL, show i32 a + 3 = i32 (a + 3) from i32_add a 3, sc_a (show a + 3 < Ls by omega) hL, show i32 a + 4 = i32 (a + 4) from i32_add a 4, sc_a (show a + 4 < Ls by omega) hL, show i32 a + 5 = i32 (a + 5) from i32_add a 5, sc_a (show a + 5 < Ls by omega) hL, sb_some, cv_ok W.1.1, e, bd_some, cv_ok W1.1.1, e1, if_true]
theorem t_36 (P : PS p h h) (t40 : aT h 40 = some (.inl (1, 1))) (hL : Ls ≤ 3072) (ha : a + 6 ≤ Ls) : NX h (f_L_c36 b Ls xs K (some 0) (some 26) (some 40) (i32 a) h) K := by
  obtain ⟨r, h1, h2, p', e, e0, P', F, G⟩ := UU.step P (o' := fun g => f_X12_cost (some 26) (xs (a + 1)) g) (fun h' P2 => U_cost P2 (xs (a + 1)))
  have e1 : f_X12_cost (some 26) (xs (a + 1)) h1 = some (r, h2) := e0
  have W := P.1.1.1
  have W1 := (P.2.c F).1
  refine NX.mk t40 P' F.fc0 G ?_
  unfold f_L_c36
  simp only [show i32 a + 1 = i32 (a + 1) from i32_add a 1, sc_a (show a + 1 < Ls by omega) hL, sb_some, cv_ok W.1.1, e, bd_some, cv_ok W1.1.1, e1, if_true]
theorem t_37 (P : PS p h h) (t40 : aT h 40 = some (.inl (1, 1))) (hL : Ls ≤ 3072) (ha : a + 6 ≤ Ls) : NX h (f_L_c37 b Ls xs K (some 0) (some 26) (some 40) (i32 a) h) K := by
  obtain ⟨r, h1, h2, p', e, e0, P', F, G⟩ := UU.step P (o' := fun g => f_X12_toss (some 26) (xs (a + 1)) g) (fun h' P2 => U_toss P2 (xs (a + 1)))
  have e1 : f_X12_toss (some 26) (xs (a + 1)) h1 = some (r, h2) := e0
  have W := P.1.1.1
  have W1 := (P.2.c F).1
  refine NX.mk t40 P' F.fc0 G ?_
  unfold f_L_c37
  simp only [show i32 a + 1 = i32 (a + 1) from i32_add a 1, sc_a (show a + 1 < Ls by omega) hL, sb_some, cv_ok W.1.1, e, bd_some, cv_ok W1.1.1, e1, if_true]
end TURNS
