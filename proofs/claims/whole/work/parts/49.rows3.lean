/-! ELEMENT, FORGED, JUDGED, WHAT KIND -/
section ROWS3
variable {p : ST} {h h' : AH} {r e z : Nat} {srt : Int32} {el : Nat → Int32}
/-- as FC, but for the longs -/
def FC0 (h h1 : AH) : Prop := (aN h ≤ aN h1 ∧ aN h1 ≤ aN h + 12 ∧ aS h ≤ aS h1 ∧ aS h1 ≤ aS h + 2400) ∧ ∀ c, 26 ≤ c → c < 41 → aT h1 c = aT h c ∧ aI h1 c = aI h c ∧ aR h1 c = aR h c
theorem FC.fc0 {h h1 : AH} (F : FC h h1) : FC0 h h1 := ⟨F.1, fun c c1 c2 => ⟨(F.2 c c1 c2).1, (F.2 c c1 c2).2.1, (F.2 c c1 c2).2.2.1⟩⟩
theorem MDL.fc0 {h h1 : AH} {p : ST} (M : MDL h p) (F : FC0 h h1) : MDL h1 p := by
  have t : ∀ c, 26 ≤ c → c < 41 → aT h1 c = aT h c := fun c c1 c2 => (F.2 c c1 c2).1
  have i : ∀ c, 26 ≤ c → c < 41 → aI h1 c = aI h c := fun c c1 c2 => (F.2 c c1 c2).2.1
  obtain ⟨W, ⟨a1, a2, a3, a4⟩, b1, b2, b3⟩ := M
  refine ⟨?_, ⟨by rw [i 27 (by omega) (by omega)]; exact a1, by rw [i 29 (by omega) (by omega)]; exact a2, by rw [i 26 (by omega) (by omega)]; exact a3, fun j hj => by rw [i (34 + j) (by omega) (by omega)]; exact a4 j hj⟩, by rw [i 28 (by omega) (by omega)]; exact b1, b2, by rw [i 30 (by omega) (by omega)]; exact b3⟩
  unfold Wm
  rw [t 26 (by omega) (by omega), t 27 (by omega) (by omega), t 28 (by omega) (by omega), t 29 (by omega) (by omega), t 30 (by omega) (by omega), t 31 (by omega) (by omega), t 32 (by omega) (by omega), t 33 (by omega) (by omega), t 34 (by omega) (by omega), t 35 (by omega) (by omega), t 36 (by omega) (by omega), t 37 (by omega) (by omega), t 38 (by omega) (by omega), t 39 (by omega) (by omega), (F.2 26 (by omega) (by omega)).2.2]
  exact W
theorem CLS.wL {a : Nat} {f : Nat → Int64} (C : CLS h p) : CLS (wL h a f) p := C
/-- what the law asks of element -/
theorem U_element (P : PS p h h') (t40 : aT h 40 = some (.inl (1, 1))) (v1 v2 : Int32) : ∃ (k : Int32) (b : Int64) (h1 h1' : AH), f_L_element (some 0) v1 v2 (some 40) h = some (k, h1) ∧ f_X12_element (some 26) v1 v2 h' = some (b, h1') ∧ f_X12_thrown (some 26) h1' = some (k, h1') ∧ (k = 0 → aL h1 40 0 = b) ∧ CLS h1 p ∧ MDL h1' p ∧ FC0 h h1 ∧ FM h' h1' := by
  have W := P.1.1.1
  have M := P.2
  have hN := W.2.2.2
  have Mw : ∀ k, MDL (wI h' 26 (va_up (aI h' 26) 18 k)) p := fun k => M.q (Fm.w26 (by omega))
  have Gm : ∀ k, FM h' (wI h' 26 (va_up (aI h' 26) 18 k)) := fun k => (Fm.w26 (h := h') (k := 18) (v := k) (by omega)).m
  have th : ∀ k, f_X12_thrown (some 26) (wI h' 26 (va_up (aI h' 26) 18 k)) = some (k, wI h' 26 (va_up (aI h' 26) 18 k)) := fun k => by
    unfold f_X12_thrown
    rw [gI_1 (Mw k).1.1.1, sb_some, aI_eq, up_eq]
  have mt : ∀ (k : Int32) (x : Option Nat) , k ≠ 0 → f_X12_element_b43 (some 26) v1 v2 k (some 26) h' = some (0, wI h' 26 (va_up (aI h' 26) 18 k)) := fun k _ hk => by
    unfold f_X12_element_b43
    rw [pI_1' M.1.1.1, sb_some, gI_1 (Mw k).1.1.1, sb_some, aI_eq, up_eq, if_neg hk]
  have Fx : FC0 h (exH h) := ((exH_q h).c W (by omega)).fc0
  have Cx : CLS (exH h) p := P.1.q (exH_q h)
  have s1 : ¬ ("java/lang/IllegalStateException" = "java/lang/IllegalArgumentException") := by decide
  unfold f_L_element f_X11_element f_X12_element f_X12_element_b38
  rw [cv_ok W.1.1, c_isShelf, bd_some, m_isShelf, bd_some]
  cases ev : btw v1 0 7 with
  | false =>
    rw [if_pos pb0, if_pos pb0, bd_some, mt 1 none (by decide)]
    exact ⟨1, 0, exH h, _, if_pos rfl, rfl, th 1, fun y => absurd y (by decide), Cx, Mw 1, Fx, Gm 1⟩
  | true =>
    obtain ⟨d, rfl, hd7⟩ := btw_of (m := 7) (by omega) ev
    have hd : d < 8 := by omega
    have x2 : f_X12_element_b43 (some 26) (i32 d) v2 2 (some 26) h' = some (0, wI h' 26 (va_up (aI h' 26) 18 2)) := mt 2 none (by decide)
    rw [if_neg nb1, if_neg nb1, cv_ok W.1.1, c_rowOn W hd, bd_some, M.1.o12, sb_some, m_kept M hd, sb_some]
    by_cases e2 : p.2.2.2.2.2 0 d = 2
    · obtain ⟨-, r, e, z, n2, n3, R⟩ := sh_row P hd e2
      rw [n2, if_neg (fun y => nomatch y), cv_ok R.1.2.1, k_hasPlace R, bd_some, if_pos e2, M.1.o16, sb_some, m_size M hd, sb_some, n3, m_btw, bd_some, btw_z R.2.1]
      cases ez : isg z v2 with
      | false =>
        rw [if_pos pb0, if_pos pb0, bd_some, x2]
        exact ⟨2, 0, exH h, _, (if_neg s1).trans (if_pos rfl), rfl, th 2, fun y => absurd y (by decide), Cx, Mw 2, Fx, Gm 2⟩
      | true =>
        obtain ⟨j, rfl, hj⟩ := isz_of (by have := R.2.1; omega) ez
        have hz := R.2.1
        rw [if_neg nb1, if_neg nb1, cv_ok R.1.2.1, k_at R hj, bd_some, bd_some]
        have js : jS h (some 40) 0 (Int32.toInt64 (p.2.2.2.2.2 5 (100 * d + j))) = some (wL h 40 (va_up (aL h 40) 0 (Int32.toInt64 (p.2.2.2.2.2 5 (100 * d + j))))) := by
          unfold jS
          simp only [t40]
          rw [if_neg (by decide)]
          rfl
        have me : f_X12_element_b43 (some 26) (i32 d) (i32 j) 0 (some 26) h' = some (Int32.toInt64 (p.2.2.2.2.2 5 (100 * d + j)), wI h' 26 (va_up (aI h' 26) 18 0)) := by
          unfold f_X12_element_b43
          rw [pI_1' M.1.1.1, sb_some, gI_1 (Mw 0).1.1.1, sb_some, aI_eq, up_eq, if_pos rfl, (Mw 0).1.o17, sb_some, m_el (Mw 0) hd (by omega), sb_some]
        rw [me]
        refine ⟨0, _, wL h 40 (va_up (aL h 40) 0 (Int32.toInt64 (p.2.2.2.2.2 5 (100 * d + j)))), _, ?_, rfl, th 0, fun _ => ?_, P.1.wL, Mw 0, ⟨⟨Nat.le_refl _, Nat.le_add_right _ _, Nat.le_refl _, Nat.le_add_right _ _⟩, fun c _ _ => ⟨rfl, rfl, rfl⟩⟩, Gm 0⟩
        · show (jS h (some 40) 0 _).bind _ = _
          rw [js, sb_some]
        · have : aL (wL h 40 (va_up (aL h 40) 0 (Int32.toInt64 (p.2.2.2.2.2 5 (100 * d + j))))) 40 = va_up (aL h 40) 0 (Int32.toInt64 (p.2.2.2.2.2 5 (100 * d + j))) := up_eq (aL h) 40 _
          rw [this, up_eq]
    · have n2 : aR h 23 d = none := by
        by_cases e0 : p.2.2.2.2.2 0 d = 0
        · exact (sh_none P hd e0).2
        · exact (sh_kind P hd e0 e2).2.2.1
      rw [n2, if_pos rfl, bd_some, if_neg e2, x2]
      exact ⟨2, 0, exH h, _, (if_neg s1).trans (if_pos rfl), rfl, th 2, fun y => absurd y (by decide), Cx, Mw 2, Fx, Gm 2⟩
/-- a row wanted: the refusals; or the row -/
theorem row_or {d : Nat} (P : PS p h h') (hd : d < 8) : (∃ x, (aR h 23 d = none ∧ f_X11_whyNoRow (some 0) (i32 d) h = some (x, h) ∧ f_X12_wrongRow (some 26) (i32 d) (-1) h' = some (x, h') ∧ x ≠ 0)) ∨ ∃ r e z, aR h 23 d = some r ∧ p.2.2.2.2.2 4 d = i32 z ∧ RowAt h r e z (p.2.2.2.2.2 3 d) (fun j => p.2.2.2.2.2 5 (100 * d + j)) ∧ f_X12_wrongRow (some 26) (i32 d) (-1) h' = some (0, h') := by
  have W := P.1.1.1
  have M := P.2
  by_cases e0 : p.2.2.2.2.2 0 d = 0
  · obtain ⟨n1, n2⟩ := sh_none P hd e0
    refine Or.inl ⟨-11, n2, ?_, ?_, by decide⟩
    · rw [c_whyRow W hd, n1, if_pos rfl]
    · rw [m_wrongRow M hd, if_pos e0]
  · by_cases e2 : p.2.2.2.2.2 0 d = 2
    · obtain ⟨-, r, e, z, n2, n3, R⟩ := sh_row P hd e2
      refine Or.inr ⟨r, e, z, n2, n3, R, ?_⟩
      rw [m_wrongRow M hd, if_neg e0, if_pos e2, if_pos (show (-1 : Int32) < 0 by decide)]
    · obtain ⟨-, ⟨k, k1, -⟩, k2, -⟩ := sh_kind P hd e0 e2
      refine Or.inl ⟨-12, k2, ?_, ?_, by decide⟩
      · rw [c_whyRow W hd, k1, if_neg (fun y => nomatch y)]
      · rw [m_wrongRow M hd, if_neg e0, if_neg e2]
theorem rl_forged {d : Nat} (P : PS p h h') (hd : d < 8) (R : RowAt h r e z (p.2.2.2.2.2 3 d) (fun j => p.2.2.2.2.2 5 (100 * d + j))) (n3 : p.2.2.2.2.2 4 d = i32 z) : ∀ (k m m' g : Nat), k < m → k < m' → g + k = z → ∃ x, f_X11_forged_b27 m (some 0) (some r) (i32 g) h = some (x, h) ∧ f_X12_forged_b15 m' (some 26) (i32 d) (i32 g) h' = some (x, h') := by
  have W := P.1.1.1
  have M := P.2
  have Q := P.q
  have h7 := Q.h7
  have hz := R.2.1
  intro k
  induction k with
  | zero =>
    intro m m' g hm hm' hg
    obtain ⟨m, rfl⟩ := succ_of hm
    obtain ⟨m', rfl⟩ := succ_of hm'
    have y : i32 z ≤ i32 g := by rw [i32_le (by omega) (by omega)]; omega
    rw [e_X11_forged_b27, e_X12_forged_b15, cv_ok R.1.2.1, k_size R, bd_some, if_pos y, M.1.o16, sb_some, m_size M hd, sb_some, n3, if_pos y]
    exact ⟨_, rfl, rfl⟩
  | succ k ih =>
    intro m m' g hm hm' hg
    obtain ⟨m, rfl⟩ := succ_of hm
    obtain ⟨m', rfl⟩ := succ_of hm'
    have y : ¬ i32 z ≤ i32 g := by rw [i32_le (by omega) (by omega)]; omega
    rw [e_X11_forged_b27, e_X12_forged_b15, cv_ok R.1.2.1, k_size R, bd_some, if_neg y, M.1.o16, sb_some, m_size M hd, sb_some, n3, if_neg y]
    simp only [W.o0, sb_some, cv_ok W.2.2.1.1.1.1, cv_ok M.1.1.1, (Q.cg (i32 g)).1, (Q.cg (i32 g)).2, bd_some]
    cases eg : isg p.1 (i32 g) with
    | false =>
      rw [if_pos pb0, if_pos pb0]
      exact ⟨_, rfl, rfl⟩
    | true =>
      obtain ⟨g2, e2, hg2⟩ := isg_of h7 eg
      have : g = g2 := by
        have h1 := congrArg Int32.toInt e2
        rw [i32_t (by omega), i32_t (by omega)] at h1
        omega
      subst this
      have T := Q.1.2.1.1
      rw [if_neg nb1, if_neg nb1]
      simp only [cv_ok R.1.2.1, k_at R (show g < z by omega), bd_some, W.o0, sb_some, gR_1 T.1.1, T.2.1.2.2.1, iA_ok T.1.2.2.2.1 (show g < 7 by omega) (by omega), (Q.1.2.1.2.2 g hg2).2.2.1, M.1.o17, M.1.o0, m_el M hd (show g < 100 by omega), m_of3, r54 (7 * g + 8) (by omega) M.1.1.2.1, Q.2.2.1, i32_s]
      by_cases c : p.2.2.2.2.2 5 (100 * d + g) = p.2.1 (7 * g + 8)
      · rw [if_pos c, if_pos c]
        exact ih m m' (g + 1) (by omega) (by omega) (by omega)
      · rw [if_neg c, if_neg c]
        exact ⟨_, rfl, rfl⟩
theorem U_forged (P : PS p h h') (v1 : Int32) : UU h h' (f_X11_forged (some 0) v1 h) (f_X12_forged (some 26) v1 h') := by
  unfold f_X11_forged f_X12_forged
  have W := P.1.1.1
  have M := P.2
  rw [c_isShelf, bd_some, cv_ok M.1.1.1]
  cases ev : btw v1 0 7 with
  | false =>
    rw [m_wrongRowNo ev, bd_some]
    exact UU.same P (-1) (if_pos pb0) (if_neg (by decide))
  | true =>
    obtain ⟨d, rfl, hd7⟩ := btw_of (m := 7) (by omega) ev
    have hd : d < 8 := by omega
    rw [if_neg nb1, cv_ok W.1.1, c_rowOn W hd, bd_some]
    rcases row_or P hd with ⟨x, x1, x2, x3, x4⟩ | ⟨r, e, z, n2, n3, R, n4⟩
    · rw [x1, if_pos rfl, cv_ok W.1.1, x2, bd_some, x3, bd_some, if_neg x4]
      exact UU.same P x rfl rfl
    · rw [n2, if_neg (fun y => nomatch y), n4, bd_some, if_pos rfl]
      obtain ⟨x, y1, y2⟩ := rl_forged P hd R n3 z FU FU 0 (fu_pos (by have := R.2.1; omega)) (fu_pos (by have := R.2.1; omega)) (by omega)
      exact UU.same P x y1 y2
theorem PS.qq {m : Nat} {h1 h1' : AH} (P : PS p h h') (F : Fq m h h1) (G : Fm h' h1') : PS p h1 h1' := ⟨P.1.q F, P.2.q G⟩
theorem rl_judge {d : Nat} (hd : d < 8) (n3 : p.2.2.2.2.2 4 d = i32 z) : ∀ (k m m' i : Nat) (u : R54) (h h' : AH), PS p h h' → MS p.1 u h h' → RowAt h r e z (p.2.2.2.2.2 3 d) (fun j => p.2.2.2.2.2 5 (100 * d + j)) → k < m → k < m' → i + k = z → RR 0 h h' (f_X11_judge_b38 m (some 0) (some r) (i32 i) h) (f_X12_judge_b26 m' (some 26) (i32 d) (i32 i) h') := by
  intro k
  induction k with
  | zero =>
    intro m m' i u h h' P Ms R hm hm' hi
    obtain ⟨m, rfl⟩ := succ_of hm
    obtain ⟨m', rfl⟩ := succ_of hm'
    have M := P.2
    have hz := R.2.1
    have y : i32 z ≤ i32 i := by rw [i32_le (by omega) (by omega)]; omega
    rw [e_X11_judge_b38, e_X12_judge_b26, cv_ok R.1.2.1, k_size R, bd_some, if_pos y, M.1.o16, sb_some, m_size M hd, sb_some, n3, if_pos y]
    exact RR.mk (-4) rfl rfl
  | succ k ih =>
    intro m m' i u h h' P Ms R hm hm' hi
    obtain ⟨m, rfl⟩ := succ_of hm
    obtain ⟨m', rfl⟩ := succ_of hm'
    have M := P.2
    have W := P.1.1.1
    have Q := P.q
    have hz := R.2.1
    have y : ¬ i32 z ≤ i32 i := by rw [i32_le (by omega) (by omega)]; omega
    obtain ⟨h1, a1, a2, M1, Q1, F1, G1⟩ := Q_day Q Ms
    have go : RR 0 h h' (f_X11_judge_b71 (f_X11_judge_b38 m) (some 0) (some r) (i32 i) h) (f_X12_judge_b26 m' (some 26) (i32 d) (i32 (i + 1)) (wI h' 28 (dayM p.1 0 u))) := by
      unfold f_X11_judge_b71
      rw [W.o1, sb_some, cv_ok Ms.1.1.1.1, a1, bd_some, i32_s]
      exact RR.tr0 F1 G1 (ih m m' (i + 1) _ _ _ (P.qq F1 G1) M1 (R.kp (F1.kp W)) (by omega) (by omega) (by omega))
    rw [e_X11_judge_b38, e_X12_judge_b26]
    simp only [cv_ok R.1.2.1, k_size R, bd_some, if_neg y, M.1.o16, M.1.o1, sb_some, m_size M hd, n3, k_isSkipped R (show i < z by omega), k_at R (show i < z by omega), W.o1, cv_ok Ms.1.1.1.1, k_weightOfAll Ms.1 Ms.2.1, m_weightIn M.1.1.2.2.1 (by rw [Ms.2.2]; exact Ms.2.1.1.1) Q.h7, cv_ok M.1.1.1, m_isTold M hd (show i < 100 by omega), Ms.2.2, a2, i32_s]
    by_cases c : p.2.2.2.2.2 5 (100 * d + i) = lst (p.2.2.2.2.2 3 d)
    · rw [decide_eq_true c, if_neg nb1, Bool.true_or, if_neg nb1]
      exact go
    · rw [decide_eq_false c, if_pos pb0, Bool.false_or]
      by_cases c2 : p.2.2.2.2.2 5 (100 * d + i) = wA p.1 u
      · rw [if_pos c2, decide_eq_true c2, if_neg nb1]
        exact go
      · rw [if_neg c2, decide_eq_false c2, if_pos pb0]
        exact RR.mk (i32 i) rfl rfl
theorem U_judge (P : PS p h h') (v1 : Int32) : UU h h' (f_X11_judge (some 0) v1 h) (f_X12_judge (some 26) v1 h') := by
  unfold f_X11_judge f_X12_judge
  have W := P.1.1.1
  have M := P.2
  rw [c_isShelf, bd_some, cv_ok M.1.1.1]
  cases ev : btw v1 0 7 with
  | false =>
    rw [m_wrongRowNo ev, bd_some]
    exact UU.same P (-1) (if_pos pb0) (if_neg (by decide))
  | true =>
    obtain ⟨d, rfl, hd7⟩ := btw_of (m := 7) (by omega) ev
    have hd : d < 8 := by omega
    rw [if_neg nb1, cv_ok W.1.1, c_rowOn W hd, bd_some]
    rcases row_or P hd with ⟨x, x1, x2, x3, x4⟩ | ⟨r, e, z, n2, n3, R, n4⟩
    · rw [x1, if_pos rfl, cv_ok W.1.1, x2, bd_some, x3, bd_some, if_neg x4]
      exact UU.same P x rfl rfl
    · rw [n2, if_neg (fun y => nomatch y), n4, bd_some, if_pos rfl]
      obtain ⟨h1, a1, a2, M1, Q1, F1, G1⟩ := Q_mind P.q
      simp only [W.o1, W.o0, sb_some, cv_ok W.2.2.1.2.1.1.1, a1, bd_some, M.1.o0, M.1.o1, a2]
      exact RR.q0 P (RR.tr0 F1 G1 (rl_judge hd n3 z FU FU 0 _ _ _ (P.qq F1 G1) M1 (R.kp (F1.kp W)) (fu_pos (by have := R.2.1; omega)) (fu_pos (by have := R.2.1; omega)) (by omega)))
/-- another kind of guest in the house in mind -/
theorem Hs.wK {b n g k : Nat} {s : R54} {κ f : Int32} (H : Hs h b n s) (hg : g < n) (G : Gst h k κ f) : Hs (wR h (b + 1) (va_up (aR h (b + 1)) g (some k))) b n (va_up (va_up s (7 * g + 5) κ) (7 * g + 6) f) ∧ FrB b h (wR h (b + 1) (va_up (aR h (b + 1)) g (some k))) := by
  have F : FrB b h (wR h (b + 1) (va_up (aR h (b + 1)) g (some k))) := FrB.wR
  refine ⟨⟨H.1.fr F (by omega), ?_, fun j hj => ?_⟩, F⟩
  · unfold SC
    rw [sI_congr (s := s) (fun j _ => (up_ne (by omega)).trans (up_ne (by omega))), up_ne (by omega), up_ne (by omega), up_ne (by omega), up_ne (by omega), up_ne (by omega), up_ne (by omega), up_ne (by omega), up_ne (by omega)]
    exact H.2.1
  · obtain ⟨⟨k2, x0, x1⟩, x2, x3, x4, x5⟩ := H.2.2 j hj
    unfold PG
    rw [aR_eq, up_ne (show 7 * j + 7 ≠ 7 * g + 6 by omega), up_ne (show 7 * j + 7 ≠ 7 * g + 5 by omega), up_ne (show 7 * j + 8 ≠ 7 * g + 6 by omega), up_ne (show 7 * j + 8 ≠ 7 * g + 5 by omega), up_ne (show 7 * j + 9 ≠ 7 * g + 6 by omega), up_ne (show 7 * j + 9 ≠ 7 * g + 5 by omega), up_ne (show 7 * j + 10 ≠ 7 * g + 6 by omega), up_ne (show 7 * j + 10 ≠ 7 * g + 5 by omega)]
    refine ⟨?_, x2, x3, x4, x5⟩
    by_cases y : j = g
    · subst y
      rw [up_eq, up_ne (show 7 * j + 5 ≠ 7 * j + 6 by omega), up_eq, up_eq]
      exact ⟨k, rfl, G⟩
    · rw [up_ne y, up_ne (by omega), up_ne (by omega), up_ne (by omega), up_ne (by omega)]
      exact ⟨k2, x0, x1⟩
/-- all of the row is so: count, place, house in mind -/
def soB (el : Nat → Int32) (lo : Int32) (g : Nat) : Nat → Nat → R54 → Bool
  | 0, _, _ => true
  | c + 1, i, u => (decide (el i = lo) || decide (el i = u (7 * g + 7))) && soB el lo g c (i + 1) (dayO g u)
theorem c_weighed {d g : Nat} (hg : g < p.1) : ∀ (k m i : Nat) (u : R54) (h : AH), CLS h p → Hs h 8 p.1 u → Ok p.1 u → RowAt h r e z (p.2.2.2.2.2 3 d) (fun j => p.2.2.2.2.2 5 (100 * d + j)) → k < m → i + k = z → ∃ h1, f_X11_weighedSoAs_b24 m (some 0) (some r) (i32 g) (i32 i) h = some (bI (soB (fun j => p.2.2.2.2.2 5 (100 * d + j)) (lst (p.2.2.2.2.2 3 d)) g k i u), h1) ∧ Fq 0 h h1 := by
  intro k
  induction k with
  | zero =>
    intro m i u h C H O R hm hi
    obtain ⟨m, rfl⟩ := succ_of hm
    have hz := R.2.1
    rw [e_X11_weighedSoAs_b24, cv_ok R.1.2.1, k_size R, bd_some, if_pos (by rw [i32_le (by omega) (by omega)]; omega)]
    exact ⟨h, rfl, Fq.rf h⟩
  | succ k ih =>
    intro m i u h C H O R hm hi
    obtain ⟨m, rfl⟩ := succ_of hm
    have hz := R.2.1
    have h7 := O.1.2.1
    have W := C.1.1
    obtain ⟨h1, a1, H1, B1⟩ := k_passDayOf H O hg
    obtain ⟨h2, b1, b2⟩ := ih m (i + 1) (dayO g u) h1 (C.q B1.q) H1 (Ok_dayO O hg) (R.kp (B1.q.kp W)) (by omega) (by omega)
    have go : f_X11_weighedSoAs_b62 (f_X11_weighedSoAs_b24 m) (some 0) (some r) (i32 g) (i32 i) h = some (bI (soB (fun j => p.2.2.2.2.2 5 (100 * d + j)) (lst (p.2.2.2.2.2 3 d)) g k (i + 1) (dayO g u)), h2) := by
      unfold f_X11_weighedSoAs_b62
      rw [W.o1, sb_some, cv_ok H.1.1.1, a1, bd_some, i32_s, b1]
    rw [e_X11_weighedSoAs_b24]
    simp only [cv_ok R.1.2.1, k_size R, bd_some, if_neg (show ¬ i32 z ≤ i32 i by rw [i32_le (by omega) (by omega)]; omega), k_isSkipped R (show i < z by omega), k_at R (show i < z by omega), W.o1, sb_some, gR_1 H.1.1.1, H.1.2.1.2.1, iA_ok H.1.1.2.2.1 (show g < 7 by omega) (by omega), (H.2.2 g hg).2.1, go]
    have es : soB (fun j => p.2.2.2.2.2 5 (100 * d + j)) (lst (p.2.2.2.2.2 3 d)) g (k + 1) i u = ((decide (p.2.2.2.2.2 5 (100 * d + i) = lst (p.2.2.2.2.2 3 d)) || decide (p.2.2.2.2.2 5 (100 * d + i) = u (7 * g + 7))) && soB (fun j => p.2.2.2.2.2 5 (100 * d + j)) (lst (p.2.2.2.2.2 3 d)) g k (i + 1) (dayO g u)) := rfl
    rw [es]
    by_cases c : p.2.2.2.2.2 5 (100 * d + i) = lst (p.2.2.2.2.2 3 d)
    · rw [decide_eq_true c, if_neg nb1, Bool.true_or, Bool.true_and]
      exact ⟨h2, rfl, B1.q.tr0 b2⟩
    · rw [decide_eq_false c, if_pos pb0, Bool.false_or]
      by_cases c2 : p.2.2.2.2.2 5 (100 * d + i) = u (7 * g + 7)
      · rw [if_pos c2, decide_eq_true c2, Bool.true_and]
        exact ⟨h2, rfl, B1.q.tr0 b2⟩
      · rw [if_neg c2, decide_eq_false c2, Bool.false_and]
        exact ⟨h, rfl, Fq.rf h⟩
theorem bI_and (a b : Bool) : bI a &&& bI b = bI (a && b) := by cases a <;> cases b <;> decide
theorem m_whatIs86 {d g : Nat} (hd : d < 8) (hg : g < p.1) (h7 : p.1 ≤ 7) (n3 : p.2.2.2.2.2 4 d = i32 z) (hz : z ≤ 100) (K : Option Nat → Int32 → Int32 → Int32 → Int32 → Int32 → AH → Option (Int32 × AH)) (v x5 x6 : Int32) : ∀ (k m i : Nat) (b : Bool) (um uc : R54) (h' : AH), MDL h' p → aI h' 28 = um → um 0 = i32 p.1 → agr g um uc → k < m → i + k = z → ∃ q, hi q um ∧ f_X12_whatIs_b86 K m (some 26) (i32 d) (i32 g) v x5 x6 (bI b) (i32 i) h' = f_X12_whatIs_b148 K (some 26) (i32 d) (i32 g) v x6 (if (b && soB (fun j => p.2.2.2.2.2 5 (100 * d + j)) (lst (p.2.2.2.2.2 3 d)) g k i uc) then (1 : Int32) <<< (x6 &&& 31) else 0) x5 (wI h' 28 q) := by
  intro k
  induction k with
  | zero =>
    intro m i b um uc h' M e28 u0 ag hm hik
    obtain ⟨m, rfl⟩ := succ_of hm
    refine ⟨um, hi.rf um, ?_⟩
    rw [e_X12_whatIs_b86, M.1.o16, sb_some, m_size M hd, sb_some, n3, if_pos (by rw [i32_le (by omega) (by omega)]; omega), ← e28, wI_self]
    show _ = f_X12_whatIs_b148 K (some 26) (i32 d) (i32 g) v x6 (if (b && true) = true then _ else _) x5 h'
    cases b with
    | false => rw [if_pos pb0]; rfl
    | true => rw [if_neg nb1]; rfl
  | succ k ih =>
    intro m i b um uc h' M e28 u0 ag hm hik
    obtain ⟨m, rfl⟩ := succ_of hm
    have day : f_X12_day (some 28) 0 h' = some ((), wI h' 28 (dayM p.1 0 um)) := by
      rw [m_day M.1.1.2.2.1 (by rw [e28]; exact u0) h7, e28]
    have M1 : MDL (wI h' 28 (dayM p.1 0 um)) p := M.q (Fm.w28 (by rw [e28]; exact hi_dayM (hi.rf um) h7))
    rw [e_X12_whatIs_b86]
    simp only [M.1.o16, M.1.o1, sb_some, m_size M hd, n3, if_neg (show ¬ i32 z ≤ i32 i by rw [i32_le (by omega) (by omega)]; omega), m_of2, bd_some, r54 (7 * g + 7) (by omega) M.1.1.2.2.1, e28, cv_ok M.1.1.1, m_isTold M hd (show i < 100 by omega), nm_eq, bI_and, day, i32_s]
    obtain ⟨q, q1, q2⟩ := ih m (i + 1) (b && (decide (p.2.2.2.2.2 5 (100 * d + i) = lst (p.2.2.2.2.2 3 d)) || decide (p.2.2.2.2.2 5 (100 * d + i) = um (7 * g + 7)))) _ (dayO g uc) _ M1 aI_eq ((dayM_0 p.1 0 um).trans u0) (agr_dayO h7 hg ag) (by omega) (by omega)
    refine ⟨q, q1.tr (hi_dayM (hi.rf um) h7), ?_⟩
    rw [q2, wI_wI, Bool.and_assoc, ag.2.2.2.1]
    rfl
/-- who has which kind, or figure: by the row -/
def wiP (p : ST) (d g z w k : Nat) : Bool := soB (fun j => p.2.2.2.2.2 5 (100 * d + j)) (lst (p.2.2.2.2.2 3 d)) g z 0 (va_up p.2.1 (7 * g + 5 + w) (i32 k))
theorem m_whatIs41 {d g w lim : Nat} (hd : d < 8) (hg : g < p.1) (hw : (w = 0 ∧ lim = 8) ∨ (w = 1 ∧ lim = 10)) (n3 : p.2.2.2.2.2 4 d = i32 z) (hz : z ≤ 100) : ∀ (k m i : Nat) (h' : AH), MDL h' p → p.2.1 0 = i32 p.1 → p.1 ≤ 7 → k < m → i + k = lim → ∃ h1', f_X12_whatIs_b41 m (some 26) (i32 d) (i32 g) (i32 w) (i32 (cd i (wiP p d g z w))) (i32 i) h' = some (i32 (cd lim (wiP p d g z w)), h1') ∧ Fm h' h1' := by
  intro k
  induction k with
  | zero =>
    intro m i h' M u0 h7 hm hik
    obtain ⟨m, rfl⟩ := succ_of hm
    rw [e_X12_whatIs_b41]
    unfold f_X12_whatIs_b54
    rcases hw with ⟨rfl, rfl⟩ | ⟨rfl, rfl⟩
    · rw [if_pos (show i32 0 = 0 from rfl), show i = 8 by omega]
      exact ⟨h', if_pos (by decide), Fm.rf h'⟩
    · rw [if_neg (show ¬ i32 1 = 0 by decide), show i = 10 by omega]
      exact ⟨h', if_pos (by decide), Fm.rf h'⟩
  | succ k ih =>
    intro m i h' M u0 h7 hm hik
    obtain ⟨m, rfl⟩ := succ_of hm
    have e27 := M.2.1.1
    have cp : f_X12_copies (some 27) (some 28) h' = some ((), wI h' 28 p.2.1) := by
      rw [m_copies (by omega) M.1.1.2.1 M.1.1.2.2.1 (by rw [e27]; exact M.2.2.1), e27]
    have Mc : ∀ q, hi q p.2.1 → MDL (wI h' 28 q) p := fun q hq => M.q (Fm.w28 (hq.tr M.2.2.1.sy))
    have M1 := Mc p.2.1 (hi.rf _)
    have hj : 7 * g + 5 + w < 54 := by omega
    have t : f_X12_whatIs_b54 (f_X12_whatIs_b41 m) (some 26) (i32 d) (i32 g) (i32 w) (i32 (cd i (wiP p d g z w))) (i32 i) (i32 lim) (i32 i) h' = f_X12_whatIs_b86 (f_X12_whatIs_b41 m) FU (some 26) (i32 d) (i32 g) (i32 w) (i32 (cd i (wiP p d g z w))) (i32 i) 1 0 (wI h' 28 (va_up p.2.1 (7 * g + 5 + w) (i32 i))) := by
      unfold f_X12_whatIs_b54
      rw [if_neg (by rw [i32_le (by omega) (by omega)]; omega)]
      simp only [M.1.o0, M.1.o1, sb_some, cp, bd_some, M1.1.o1, m_of, w54 (7 * g + 5 + w) hj _ M1.1.1.2.2.1, aI_eq, wI_wI]
    have hh : hi (va_up p.2.1 (7 * g + 5 + w) (i32 i)) p.2.1 := (hi.rf _).up hj
    obtain ⟨q, q1, q2⟩ := m_whatIs86 hd hg h7 n3 hz (f_X12_whatIs_b41 m) (i32 w) (i32 (cd i (wiP p d g z w))) (i32 i) z FU 0 true _ _ _ (Mc _ hh) aI_eq ((up_ne (by omega)).trans u0) (agr.rf g _) (fu_pos (by omega)) (by omega)
    rw [wI_wI] at q2
    have M2 := Mc q (q1.tr hh)
    obtain ⟨h1', r1, r2⟩ := ih m (i + 1) (wI h' 28 q) M2 u0 h7 (by omega) (by omega)
    have e2 := cd_or (wiP p d g z w) (g := i) (by omega) _ rfl
    have e3 : ∀ j : Nat, j = i → i32 (cd j (wiP p d g z w)) ||| (0 : Int32) = i32 (cd j (wiP p d g z w)) := fun j hj => bt_or00 _ (Nat.lt_of_lt_of_le (cd_lt _ j) (show 2 ^ j ≤ 2 ^ 10 from Nat.pow_le_pow_right (by decide) (by omega)))
    refine ⟨h1', ?_, (Fm.w28 ((q1.tr hh).tr M.2.2.1.sy)).tr r2⟩
    rw [e_X12_whatIs_b41]
    have tt : (if i32 w = 0 then f_X12_whatIs_b54 (f_X12_whatIs_b41 m) (some 26) (i32 d) (i32 g) (i32 w) (i32 (cd i (wiP p d g z w))) (i32 i) 8 (i32 i) h' else f_X12_whatIs_b54 (f_X12_whatIs_b41 m) (some 26) (i32 d) (i32 g) (i32 w) (i32 (cd i (wiP p d g z w))) (i32 i) 10 (i32 i) h') = f_X12_whatIs_b54 (f_X12_whatIs_b41 m) (some 26) (i32 d) (i32 g) (i32 w) (i32 (cd i (wiP p d g z w))) (i32 i) (i32 lim) (i32 i) h' := by
      rcases hw with ⟨rfl, rfl⟩ | ⟨rfl, rfl⟩
      · rw [if_pos (show i32 0 = 0 from rfl)]; rfl
      · rw [if_neg (show ¬ i32 1 = 0 by decide)]; rfl
    rw [tt, t]
    have q2' : f_X12_whatIs_b86 (f_X12_whatIs_b41 m) FU (some 26) (i32 d) (i32 g) (i32 w) (i32 (cd i (wiP p d g z w))) (i32 i) 1 0 (wI h' 28 (va_up p.2.1 (7 * g + 5 + w) (i32 i))) = _ := q2
    rw [q2']
    unfold f_X12_whatIs_b148
    rw [nm_eq, i32_s, ← r1, ← e2]
    show f_X12_whatIs_b41 m (some 26) (i32 d) (i32 g) (i32 w) (i32 (cd i (wiP p d g z w)) ||| (if (true && wiP p d g z w i) = true then _ else _)) (i32 (i + 1)) _ = _
    cases wiP p d g z w i with
    | false => show f_X12_whatIs_b41 m _ _ _ _ (_ ||| (0 : Int32)) _ _ = _; rw [e3 i rfl]; rfl
    | true => rfl
theorem c_soAs {d g k : Nat} {κ f : Int32} (C : CLS h p) (hg : g < p.1) (R : RowAt h r e z (p.2.2.2.2.2 3 d) (fun j => p.2.2.2.2.2 5 (100 * d + j))) (G : Gst h k κ f) (rk : rg κ 7) (rf : rg f 9) : ∃ h1, f_X11_weighedSoAs (some 0) (some k) (some r) (i32 g) h = some (bI (soB (fun j => p.2.2.2.2.2 5 (100 * d + j)) (lst (p.2.2.2.2.2 3 d)) g z 0 (va_up (va_up p.2.1 (7 * g + 5) κ) (7 * g + 6) f)), h1) ∧ Fq 0 h h1 := by
  have W := C.1.1
  have h7 := C.1.2.2.1.1.2.1
  obtain ⟨h1, a1, H1, B1⟩ := k_becomes (b := 8) (b2 := 1) (by omega) W.2.2.1.2.1 C.1.2.1 h7
  have W1 := W.fr B1 (Or.inr (Or.inl rfl))
  have G1 : Gst h1 k κ f := G.fr W.2.2.1.2.1 B1
  obtain ⟨H2, B2⟩ := H1.wK hg G1
  have F2 : Fq 0 h (wR h1 9 (va_up (aR h1 9) g (some k))) := B1.q.tr0 B2.q
  obtain ⟨h3, b1, b2⟩ := c_weighed hg z FU 0 _ _ (C.q F2) H2 ((C.1.2.2.1.up (okV_k rk)).up (okV_f rf)) (R.kp (F2.kp W)) (fu_pos (by have := R.2.1; omega)) (by omega)
  refine ⟨h3, ?_, F2.tr0 b2⟩
  unfold f_X11_weighedSoAs
  rw [W.o1, sb_some, W.o0, sb_some, cv_ok W.2.2.1.2.1.1.1, a1, bd_some, W1.o1, sb_some, gR_1 H1.1.1.1, sb_some, H1.1.2.1.1, rS_ok H1.1.1.2.1 (show g < 7 by omega) (by omega) G1.fits, sb_some]
  exact b1
theorem va_up_id {s : R54} {a b : Nat} {v : Int32} (ne : a ≠ b) : va_up (va_up s a v) b (s b) = va_up s a v := by
  have : s b = va_up s a v b := (up_ne (Ne.symm ne)).symm
  rw [this, up_self]
theorem va_up_id2 {s : R54} {a b : Nat} {v : Int32} : va_up (va_up s a (s a)) b v = va_up s b v := by rw [up_self]
theorem c_kindsBy {d g : Nat} (hg : g < p.1) : ∀ (k m i : Nat) (h : AH), CLS h p → RowAt h r e z (p.2.2.2.2.2 3 d) (fun j => p.2.2.2.2.2 5 (100 * d + j)) → k < m → i + k = 8 → ∃ h1, f_X11_kindsBy_b5 m (some 0) (some r) (i32 g) (i32 (cd i (wiP p d g z 0))) (i32 i) h = some (i32 (cd 8 (wiP p d g z 0)), h1) ∧ Fq k h h1 := by
  intro k
  induction k with
  | zero =>
    intro m i h C R hm hi
    obtain ⟨m, rfl⟩ := succ_of hm
    rw [e_X11_kindsBy_b5, show i = 8 by omega]
    exact ⟨h, if_pos (by decide), Fq.rf h⟩
  | succ k ih =>
    intro m i h C R hm hi
    obtain ⟨m, rfl⟩ := succ_of hm
    have W := C.1.1
    have O := C.1.2.2.1
    have h7 := O.1.2.1
    have T := W.2.2.1.1
    obtain ⟨⟨kk, x0, x1⟩, -⟩ := C.1.2.1.2.2 g hg
    obtain ⟨y0, c, y1, y2, y3, y4⟩ := x1
    obtain ⟨p1, p2, p3, p4, p5⟩ := O.2.2 g hg
    obtain ⟨h1, k1, k2, k3⟩ := k_kindOf (h := h) (x := i32 i) ⟨i, by omega, rfl⟩ (p.2.1 (7 * g + 6))
    have F1 : Fq 1 h h1 := k3.q (by omega)
    have C1 := C.q F1
    obtain ⟨h2, s1, s2⟩ := c_soAs C1 hg (R.kp (F1.kp W)) k2 ⟨i, by omega, rfl⟩ p1
    rw [va_up_id (by omega)] at s1
    have F2 := F1.tr s2
    have C2 := C.q F2
    obtain ⟨h3, t1, t2⟩ := ih m (i + 1) h2 C2 (R.kp (F2.kp W)) (by omega) (by omega)
    refine ⟨h3, ?_, (F2.tr t2).mono (by omega)⟩
    have e2 := cd_or (wiP p d g z 0) (g := i) (by omega) _ rfl
    rw [e_X11_kindsBy_b5, if_neg (show ¬ (8 : Int32) ≤ i32 i by rw [show (8 : Int32) = i32 8 from rfl, i32_le (by omega) (by omega)]; omega)]
    simp only [W.o0, sb_some, gR_1 T.1.1, T.2.1.1, rA_ok T.1.2.1 (show g < 7 by omega) (by omega), x0, gI_ok y1 (gk_GF y2), y4, k1, bd_some, cv_ok C1.1.1.1.1, s1, nm_eq, i32_s]
    show (if bI (wiP p d g z 0 i) = 0 then _ else _) = _
    rw [← t1, ← e2]
    cases wiP p d g z 0 i with
    | false => rw [if_pos pb0]; rfl
    | true => rw [if_neg nb1]; rfl
theorem c_figuresBy {d g : Nat} (hg : g < p.1) : ∀ (k m i : Nat) (h : AH), CLS h p → RowAt h r e z (p.2.2.2.2.2 3 d) (fun j => p.2.2.2.2.2 5 (100 * d + j)) → k < m → i + k = 10 → ∃ h1, f_X11_figuresBy_b5 m (some 0) (some r) (i32 g) (i32 (cd i (wiP p d g z 1))) (i32 i) h = some (i32 (cd 10 (wiP p d g z 1)), h1) ∧ Fq k h h1 := by
  intro k
  induction k with
  | zero =>
    intro m i h C R hm hi
    obtain ⟨m, rfl⟩ := succ_of hm
    rw [e_X11_figuresBy_b5, show i = 10 by omega]
    exact ⟨h, if_pos (by decide), Fq.rf h⟩
  | succ k ih =>
    intro m i h C R hm hi
    obtain ⟨m, rfl⟩ := succ_of hm
    have W := C.1.1
    have O := C.1.2.2.1
    have h7 := O.1.2.1
    have T := W.2.2.1.1
    obtain ⟨⟨kk, x0, x1⟩, -⟩ := C.1.2.1.2.2 g hg
    obtain ⟨y0, c, y1, y2, y3, y4⟩ := x1
    obtain ⟨p1, p2, p3, p4, p5⟩ := O.2.2 g hg
    obtain ⟨h1, k1, k2, k3⟩ := k_kindOf (h := h) (x := p.2.1 (7 * g + 5)) p4 (i32 i)
    have F1 : Fq 1 h h1 := k3.q (by omega)
    have C1 := C.q F1
    obtain ⟨h2, s1, s2⟩ := c_soAs C1 hg (R.kp (F1.kp W)) k2 p4 ⟨i, by omega, rfl⟩
    rw [va_up_id2] at s1
    have F2 := F1.tr s2
    have C2 := C.q F2
    obtain ⟨h3, t1, t2⟩ := ih m (i + 1) h2 C2 (R.kp (F2.kp W)) (by omega) (by omega)
    refine ⟨h3, ?_, (F2.tr t2).mono (by omega)⟩
    have e2 := cd_or (wiP p d g z 1) (g := i) (by omega) _ rfl
    rw [e_X11_figuresBy_b5, if_neg (show ¬ (10 : Int32) ≤ i32 i by rw [show (10 : Int32) = i32 10 from rfl, i32_le (by omega) (by omega)]; omega)]
    simp only [W.o0, sb_some, gR_1 T.1.1, T.2.1.1, rA_ok T.1.2.1 (show g < 7 by omega) (by omega), x0, gI_ok y1 (gk_GF y2), y3, k1, bd_some, cv_ok C1.1.1.1.1, s1, nm_eq, i32_s]
    show (if bI (wiP p d g z 1 i) = 0 then _ else _) = _
    rw [← t1, ← e2]
    cases wiP p d g z 1 i with
    | false => rw [if_pos pb0]; rfl
    | true => rw [if_neg nb1]; rfl
theorem U_whatIs (P : PS p h h') (v1 v2 v3 : Int32) : UU h h' (f_X11_whatIs (some 0) v1 v2 v3 h) (f_X12_whatIs (some 26) v1 v2 v3 h') := by
  unfold f_X11_whatIs f_X12_whatIs
  have W := P.1.1.1
  have M := P.2
  have Q := P.q
  have h7 := Q.h7
  simp only [c_isShelf, m_btw, bd_some, W.o0, sb_some, cv_ok W.2.2.1.1.1.1, cv_ok M.1.1.1, cv_ok W.1.1, (Q.cg v2).1, (Q.cg v2).2, c_in]
  cases eg : isg p.1 v2 with
  | false =>
    rw [if_pos pb0, if_pos pb0]
    refine UU.same P (-1) ?_ rfl
    split <;> rfl
  | true =>
    rw [if_neg nb1, if_neg nb1]
    obtain ⟨g, rfl, hg⟩ := isg_of h7 eg
    cases ew : btw v3 0 1 with
    | false =>
      rw [if_pos rfl, if_pos pb0]
      refine UU.same P (-1) ?_ rfl
      split <;> rfl
    | true =>
      rw [if_neg ntf, if_neg nb1]
      cases ev : btw v1 0 7 with
      | false =>
        rw [if_pos pb0, m_wrongRowNo ev, bd_some]
        exact UU.same P (-1) rfl (if_neg (by decide))
      | true =>
        obtain ⟨d, rfl, hd7⟩ := btw_of (m := 7) (by omega) ev
        have hd : d < 8 := by omega
        rw [if_neg nb1, c_rowOn W hd, bd_some]
        rcases row_or P hd with ⟨x, x1, x2, x3, x4⟩ | ⟨r, e, z, n2, n3, R, n4⟩
        · rw [x1, if_pos rfl, cv_ok W.1.1, x2, bd_some, x3, bd_some, if_neg x4]
          exact UU.same P x rfl rfl
        · rw [n2, if_neg (fun y => nomatch y), n4, bd_some, if_pos rfl]
          have u0 := Q.1.2.2.1.1
          obtain ⟨w, rfl, hw⟩ := btw_of (m := 1) (by omega) ew
          have hw2 : w = 0 ∨ w = 1 := by omega
          rcases hw2 with rfl | rfl
          · obtain ⟨h1, a1, a2⟩ := c_kindsBy hg 8 FU 0 h P.1 R (fu_pos (by omega)) (by omega)
            obtain ⟨h1', b1, b2⟩ := m_whatIs41 hd hg (Or.inl ⟨rfl, rfl⟩) n3 R.2.1 8 FU 0 h' M u0 h7 (fu_pos (by omega)) (by omega)
            have a1' : f_X11_kindsBy (some 0) (some r) (i32 g) h = some (i32 (cd 8 (wiP p d g z 0)), h1) := a1
            rw [if_pos (show i32 0 = 0 from rfl), a1', cv_ok W.1.1, bd_some]
            exact RR.u P (RR.mk2 _ a2 b2 rfl b1) (by omega)
          · obtain ⟨h1, a1, a2⟩ := c_figuresBy hg 10 FU 0 h P.1 R (fu_pos (by omega)) (by omega)
            obtain ⟨h1', b1, b2⟩ := m_whatIs41 hd hg (Or.inr ⟨rfl, rfl⟩) n3 R.2.1 10 FU 0 h' M u0 h7 (fu_pos (by omega)) (by omega)
            have a1' : f_X11_figuresBy (some 0) (some r) (i32 g) h = some (i32 (cd 10 (wiP p d g z 1)), h1) := a1
            rw [if_neg (show ¬ i32 1 = 0 by decide), a1', cv_ok W.1.1, bd_some]
            exact RR.u P (RR.mk2 _ a2 b2 rfl b1) (by omega)
end ROWS3
