/-! LOAN, GUEST, COUNT, LEDGER, TEARS, ORDER -/
section Q2
variable {n : Nat} {s : R54} {h h' : AH}
theorem lnd_z {g o : Nat} : lnd g o 0 s = s := by
  unfold lnd
  rw [Int32.sub_zero, up_self, Int32.add_zero, up_self]
theorem cl_z (O : Ok n s) {g o : Nat} (hg : g < n) (ho : o < n) (ig : inP s g = true) (io : inP s o = true) : cl g o 0 s = true := by
  obtain ⟨w, w1, w2⟩ := (O.2.2 g hg).2.1
  obtain ⟨x, x1, x2⟩ := (O.2.2 o ho).2.1
  unfold cl
  rw [ig, io, w2, x2, Int32.add_zero, decide_eq_true (show (0 : Int32) ≤ i32 w from Int32.not_lt.mp (i32_nn (by omega))), decide_eq_true (show i32 x ≤ 99 by show i32 x ≤ i32 99; rw [i32_le (by omega) (by omega)]; omega)]
  rfl
theorem cl_mono (O : Ok n s) {g o : Nat} (hg : g < n) (ho : o < n) {v w : Nat} (hv : v ≤ w) (hw : w ≤ 20) (e : cl g o (i32 v) s = false) : cl g o (i32 w) s = false := by
  obtain ⟨x, x1, x2⟩ := (O.2.2 g hg).2.1
  obtain ⟨y, y1, y2⟩ := (O.2.2 o ho).2.1
  unfold cl at e ⊢
  cases ig : inP s g with
  | false => rfl
  | true =>
    cases io : inP s o with
    | false => rfl
    | true =>
      rw [ig, io, x2, y2, i32_add] at e
      rw [x2, y2, i32_add]
      have a1 : (i32 v ≤ i32 x) = (v ≤ x) := i32_le (by omega) (by omega)
      have a2 : (i32 (y + v) ≤ 99) = (y + v ≤ 99) := i32_le (b := 99) (by omega) (by omega)
      have b1 : (i32 w ≤ i32 x) = (w ≤ x) := i32_le (by omega) (by omega)
      have b2 : (i32 (y + w) ≤ 99) = (y + w ≤ 99) := i32_le (b := 99) (by omega) (by omega)
      simp only [a1, a2, b1, b2, Bool.true_and, Bool.and_eq_false_iff, decide_eq_false_iff_not] at e ⊢
      omega
/-- no loan can be any more: the reference goes on to the end -/
theorem m_loan_no (Q0 : QS n s h h') {g o : Nat} (hg : g < n) (ho : o < n) : ∀ (c m w : Nat) (h' : AH), QS n s h h' → (∀ v, w ≤ v → v ≤ 20 → cl g o (i32 v) s = false) → c < m → w + c = 21 → ∃ h1', f_X12_loan_b50 m (some 26) (i32 g) (i32 o) (i32 w) h' = some (-4, h1') ∧ Fm h' h1' := by
  intro c
  induction c with
  | zero =>
    intro m w h' Q H hm hw
    obtain ⟨m, rfl⟩ := succ_of hm
    rw [e_X12_loan_b50, show w = 21 by omega]
    exact ⟨h', if_pos (by decide), Fm.rf h'⟩
  | succ c ih =>
    intro m w h' Q H hm hw
    obtain ⟨m, rfl⟩ := succ_of hm
    have h7 := Q.h7
    obtain ⟨h1, a1, a2, M1, Q1, F1, G1⟩ := Q_mind Q
    rw [e_X12_loan_b50, if_neg (show ¬ (20 : Int32) < i32 w by rw [show (20 : Int32) = i32 20 from rfl, i32_lt (by omega) (by omega)]; omega)]
    simp only [Q.2.1.o0, Q.2.1.o1, sb_some, a2, bd_some, Q1.2.1.o1, m_canLend Q1.2.1.1.2.2.1 (show g < 7 by omega) (show o < 7 by omega), aI_eq, H w (Nat.le_refl _) (by omega), i32_s]
    rw [if_pos pb0]
    obtain ⟨h2', b1, b2⟩ := ih m (w + 1) _ (Q.q (Fq.rf h) G1) (fun v h1 h2 => H v (by omega) h2) (by omega) (by omega)
    exact ⟨h2', b1, G1.tr b2⟩
theorem rl_loan {g o : Nat} (hg : g < n) (ho : o < n) (hgo : g ≠ o) : ∀ (k m m' w : Nat) (h h' : AH), QS n s h h' → k < m → k < m' → w + k = 21 → 1 ≤ w → RR 0 h h' (f_X11_loan_b59 m (some 0) (i32 g) (i32 o) (i32 w) h) (f_X12_loan_b50 m' (some 26) (i32 g) (i32 o) (i32 w) h') := by
  intro k
  induction k with
  | zero =>
    intro m m' w h h' Q hm hm' hw h1
    obtain ⟨m, rfl⟩ := succ_of hm
    obtain ⟨m', rfl⟩ := succ_of hm'
    rw [e_X11_loan_b59, e_X12_loan_b50, show w = 21 by omega]
    exact RR.mk (-4) (if_pos (by decide)) (if_pos (by decide))
  | succ k ih =>
    intro m m' w h h' Q hm hm' hw h1
    have hm0 := hm'
    obtain ⟨m, rfl⟩ := succ_of hm
    have h7 := Q.h7
    have z : ¬ (20 : Int32) < i32 w := by rw [show (20 : Int32) = i32 20 from rfl, i32_lt (by omega) (by omega)]; omega
    rw [e_X11_loan_b59, if_neg z]
    simp only [Q.1.1.o0, sb_some, cv_ok Q.1.2.1.1.1.1, k_canLend Q.1.2.1 Q.1.2.2 hg ho, bd_some]
    cases e : cl g o (i32 w) s with
    | false =>
      rw [if_pos pb0]
      obtain ⟨h1', b1, b2⟩ := m_loan_no Q hg ho (k + 1) m' w h' Q (fun v h1 h2 => cl_mono Q.1.2.2 hg ho h1 h2 e) (by omega) (by omega)
      exact RR.mk2 (-4) (Fq.rf h) b2 rfl b1
    | true =>
      obtain ⟨m', rfl⟩ := succ_of hm'
      obtain ⟨h1, a1, a2, M1, Q1, F1, G1⟩ := Q_mind Q
      obtain ⟨h2, c1, c2, M2, Q2, F2, G2⟩ := Q_lnd Q1 hg ho hgo (w := i32 w) ⟨w, by omega, rfl⟩ M1 e
      rw [wI_wI] at c2 M2 Q2 G2
      obtain ⟨r, h3, h3', d1, d2, Q3, F3, G3⟩ := Q_goes Q2 hg M2
      rw [if_neg nb1, e_X12_loan_b50, if_neg z]
      simp only [Q.1.1.o0, Q.1.1.o1, sb_some, cv_ok Q.1.1.2.2.1.2.1.1.1, a1, bd_some, Q1.1.1.o1, cv_ok M1.1.1.1.1, c1, cv_ok Q2.1.1.1.1, d1, Q.2.1.o0, Q.2.1.o1, a2, Q1.2.1.o1, m_canLend Q1.2.1.1.2.2.1 (show g < 7 by omega) (show o < 7 by omega), aI_eq, e, c2, cv_ok Q2.2.1.1.1, d2, i32_s]
      rw [if_neg nb1]
      have F := F1.tr0 (F2.tr0 F3)
      have G := G1.tr (G2.tr G3)
      cases r with
      | true =>
        rw [if_neg nb1, if_neg nb1]
        exact RR.mk2 (i32 w) F G rfl rfl
      | false =>
        rw [if_pos pb0, if_pos pb0]
        exact RR.tr0 F G (ih m m' (w + 1) _ _ Q3 (by omega) (by omega) (by omega) (by omega))
theorem c_areTwo (Q : QS n s h h') (v1 v2 : Int32) : f_X11_areTwo (some 0) v1 v2 h = some (bI (isg n v1 && (isg n v2 && !decide (v1 = v2))), h) := by
  unfold f_X11_areTwo
  simp only [Q.1.1.o0, sb_some, cv_ok Q.1.2.1.1.1.1, (Q.cg v1).1, (Q.cg v2).1, bd_some, bI_0]
  cases isg n v1 with
  | false => rfl
  | true =>
    rw [if_neg ntf]
    cases isg n v2 with
    | false => rfl
    | true =>
      rw [if_neg ntf]
      by_cases e : v1 = v2
      · rw [if_pos e, decide_eq_true e]; rfl
      · rw [if_neg e, decide_eq_false e]; rfl
theorem R_loan (Q : QS n s h h') (v1 v2 : Int32) : RR 0 h h' (f_X11_loan (some 0) v1 v2 h) (f_X12_loan (some 26) v1 v2 h') := by
  unfold f_X11_loan f_X12_loan
  have W := Q.1.1
  have h7 := Q.h7
  simp only [cv_ok W.1.1, cv_ok Q.2.1.1.1, c_areTwo Q, (Q.cg v1).2, (Q.cg v2).2, bd_some, bI_0]
  cases e1 : isg n v1 with
  | false => exact RR.mk (-1) (if_pos rfl) (if_pos rfl)
  | true =>
    cases e2 : isg n v2 with
    | false => exact RR.mk (-1) (if_pos rfl) ((if_neg ntf).trans (if_pos rfl))
    | true =>
      rw [if_neg ntf, if_neg ntf]
      by_cases e3 : v1 = v2
      · exact RR.mk (-1) (if_pos (by rw [decide_eq_true e3]; rfl)) (if_pos e3)
      · rw [decide_eq_false e3, if_neg (show ¬ ((true && (true && !false)) = false) by decide), if_neg e3]
        obtain ⟨g, rfl, hg⟩ := isg_of h7 e1
        obtain ⟨o, rfl, ho⟩ := isg_of h7 e2
        have hgo : g ≠ o := fun z => e3 (by rw [z])
        simp only [W.o0, sb_some, cv_ok W.2.2.1.1.1.1, k_isIn Q.1.2.1 Q.1.2.2 hg, k_isIn Q.1.2.1 Q.1.2.2 ho, bd_some, Q.2.1.o0, m_isHere Q.2.1.1.2.1 (show g < 7 by omega), m_isHere Q.2.1.1.2.1 (show o < 7 by omega), Q.2.2.1]
        show RR 0 h h' (if bI (inP s g) = 0 then _ else _) (if bI (inP s g) = 0 then _ else if bI (inP s o) = 0 then _ else _)
        cases ig : inP s g with
        | false => exact RR.mk (-3) (if_pos pb0) (if_pos pb0)
        | true =>
          rw [if_neg nb1, if_neg nb1]
          cases io : inP s o with
          | false => exact RR.mk (-3) (if_pos pb0) (if_pos pb0)
          | true =>
            rw [if_neg nb1, if_neg nb1]
            have hc := cl_z Q.1.2.2 hg ho ig io
            obtain ⟨h1, a1, a2, M1, Q1, F1, G1⟩ := Q_mind Q
            obtain ⟨r, h3, h3', d1, d2, Q3, F3, G3⟩ := Q_goes Q1 hg M1
            have y : ∃ m', FU = m' + 1 ∧ 20 < m' := ⟨1048575, rfl, by omega⟩
            obtain ⟨m', em, hm'⟩ := y
            have e0 : f_X12_loan_b50 FU (some 26) (i32 g) (i32 o) 0 h' = if bI r = 0 then f_X12_loan_b50 m' (some 26) (i32 g) (i32 o) (i32 1) h3' else some (0, h3') := by
              rw [em, e_X12_loan_b50, if_neg (show ¬ (20 : Int32) < 0 by decide)]
              simp only [Q.2.1.o0, Q.2.1.o1, sb_some, a2, bd_some, Q1.2.1.o1, m_canLend Q1.2.1.1.2.2.1 (show g < 7 by omega) (show o < 7 by omega), aI_eq, hc, m_lendsIn Q1.2.1.1.2.2.1 (show g < 7 by omega) (show o < 7 by omega), lnd_z, wI_wI, cv_ok Q1.2.1.1.1, d2]
              rw [if_neg nb1]
              rfl
            rw [e0]
            simp only [W.o1, W.o0, sb_some, cv_ok W.2.2.1.2.1.1.1, a1, bd_some, cv_ok Q1.1.1.1.1, d1]
            have F := F1.tr0 F3
            have G := G1.tr G3
            cases r with
            | true =>
              rw [if_neg nb1, if_neg nb1]
              exact RR.mk2 0 F G rfl rfl
            | false =>
              rw [if_pos pb0, if_pos pb0]
              exact RR.tr0 F G (rl_loan hg ho hgo 20 FU m' 1 _ _ Q3 (fu_pos (by omega)) hm' (by omega) (by omega))
theorem btw8 {v : Int32} (e : btw v 0 8 = false) : v ≠ 0 ∧ v ≠ 1 ∧ v ≠ 2 ∧ v ≠ 3 ∧ v ≠ 4 ∧ v ≠ 5 ∧ v ≠ 6 ∧ v ≠ 7 ∧ v ≠ 8 := by
  refine ⟨?_, ?_, ?_, ?_, ?_, ?_, ?_, ?_, ?_⟩ <;> (intro z; subst z; revert e; decide)
theorem R_guest (Q : QS n s h h') (v1 v2 : Int32) : RR 0 h h' (f_X11_guest (some 0) v1 v2 h) (f_X12_guest (some 26) v1 v2 h') := by
  unfold f_X11_guest f_X12_guest
  have W := Q.1.1
  have h7 := Q.h7
  simp only [W.o0, sb_some, cv_ok W.2.2.1.1.1.1, cv_ok Q.2.1.1.1, (Q.cg v1).1, (Q.cg v1).2, bd_some, bI_0, m_btw]
  cases e1 : isg n v1 with
  | false => exact RR.mk (-1) (if_pos rfl) (if_pos rfl)
  | true =>
    rw [if_neg ntf, if_neg ntf]
    obtain ⟨g, rfl, hg⟩ := isg_of h7 e1
    cases e : btw v2 0 8 with
    | false =>
      obtain ⟨z0, z1, z2, z3, z4, z5, z6, z7, z8⟩ := btw8 e
      rw [if_neg z0, if_neg z1, if_neg z2, if_neg z3, if_neg z4, if_neg z5, if_neg z6, if_neg z7, if_neg z8]
      exact RR.mk (-1) rfl (if_pos rfl)
    | true =>
      obtain ⟨j, rfl, hj⟩ := btw_of (m := 8) (by omega) e
      rw [if_neg ntf]
      obtain ⟨⟨k, x0, x1⟩, x2, x3, x4, x5⟩ := Q.1.2.1.2.2 g hg
      have T := Q.1.2.1.1
      have r0 := Q.2.1.1.2.1
      obtain ⟨y0, c, y1, y2, y3, y4⟩ := x1
      have yc : c ∈ GF := gk_GF y2
      have hj2 : j = 0 ∨ j = 1 ∨ j = 2 ∨ j = 3 ∨ j = 4 ∨ j = 5 ∨ j = 6 ∨ j = 7 ∨ j = 8 := by omega
      rcases hj2 with rfl | rfl | rfl | rfl | rfl | rfl | rfl | rfl | rfl
      · rw [if_pos (by decide), if_neg (by decide), if_neg (by decide)]
        refine RR.mk (s (7 * g + 5)) ?_ ?_
        · simp only [gR_1 T.1.1, sb_some, T.2.1.1, rA_ok T.1.2.1 (show g < 7 by omega) (by omega), x0, gI_ok y1 yc, y3]
        · simp only [Q.2.1.o0, sb_some, m_of, bd_some, r54 (7 * g + 5 + 0) (by omega) r0, Q.2.2.1]
      · rw [if_neg (by decide), if_pos (by decide), if_neg (by decide), if_neg (by decide)]
        refine RR.mk (s (7 * g + 6)) ?_ ?_
        · simp only [gR_1 T.1.1, sb_some, T.2.1.1, rA_ok T.1.2.1 (show g < 7 by omega) (by omega), x0, gI_ok y1 yc, y4]
        · simp only [Q.2.1.o0, sb_some, m_of, bd_some, r54 (7 * g + 5 + 1) (by omega) r0, Q.2.2.1]
      · rw [if_neg (by decide), if_neg (by decide), if_pos (by decide), if_neg (by decide), if_neg (by decide)]
        refine RR.mk (s (7 * g + 7)) ?_ ?_
        · simp only [gR_1 T.1.1, sb_some, T.2.1.2.1, iA_ok T.1.2.2.1 (show g < 7 by omega) (by omega), x2]
        · simp only [Q.2.1.o0, sb_some, m_of, bd_some, r54 (7 * g + 5 + 2) (by omega) r0, Q.2.2.1]
      · rw [if_neg (by decide), if_neg (by decide), if_neg (by decide), if_pos (by decide), if_neg (by decide), if_neg (by decide)]
        refine RR.mk (s (7 * g + 8)) ?_ ?_
        · simp only [gR_1 T.1.1, sb_some, T.2.1.2.2.1, iA_ok T.1.2.2.2.1 (show g < 7 by omega) (by omega), x3]
        · simp only [Q.2.1.o0, sb_some, m_of, bd_some, r54 (7 * g + 5 + 3) (by omega) r0, Q.2.2.1]
      · rw [if_neg (by decide), if_neg (by decide), if_neg (by decide), if_neg (by decide), if_pos (by decide), if_neg (by decide), if_neg (by decide)]
        refine RR.mk (s (7 * g + 9)) ?_ ?_
        · simp only [gR_1 T.1.1, sb_some, T.2.1.2.2.2.1, iA_ok T.1.2.2.2.2.1 (show g < 7 by omega) (by omega), x4]
        · simp only [Q.2.1.o0, sb_some, m_of, bd_some, r54 (7 * g + 5 + 4) (by omega) r0, Q.2.2.1]
      · rw [if_neg (by decide), if_neg (by decide), if_neg (by decide), if_neg (by decide), if_neg (by decide), if_pos (by decide), if_neg (by decide), if_neg (by decide)]
        refine RR.mk (s (7 * g + 10)) ?_ ?_
        · simp only [gR_1 T.1.1, sb_some, T.2.1.2.2.2.2, iA_ok T.1.2.2.2.2.2 (show g < 7 by omega) (by omega), x5]
        · simp only [Q.2.1.o0, sb_some, m_of, bd_some, r54 (7 * g + 5 + 5) (by omega) r0, Q.2.2.1]
      · rw [if_neg (by decide), if_neg (by decide), if_neg (by decide), if_neg (by decide), if_neg (by decide), if_neg (by decide), if_pos (by decide), if_neg (by decide), if_neg (by decide)]
        refine RR.mk (s (7 * g + 11)) ?_ ?_
        · simp only [k_isIn Q.1.2.1 Q.1.2.2 hg, bd_some]
          rw [in_01 Q.1.2.2.1.2.2 hg]
          cases inP s g <;> rfl
        · simp only [Q.2.1.o0, sb_some, m_of, bd_some, r54 (7 * g + 5 + 6) (by omega) r0, Q.2.2.1]
      · rw [if_neg (by decide), if_neg (by decide), if_neg (by decide), if_neg (by decide), if_neg (by decide), if_neg (by decide), if_neg (by decide), if_pos (by decide), if_pos (by decide)]
        simp only [k_mayGo Q.1.2.1 Q.1.2.2 hg, bd_some, Q.2.1.o0, sb_some, m_mayGo r0 (show g < 7 by omega), Q.2.2.1]
        cases mg s g with
        | false => exact RR.mk 0 (if_pos pb0) (if_pos pb0)
        | true => exact RR.mk 1 (if_neg nb1) (if_neg nb1)
      · rw [if_neg (by decide), if_neg (by decide), if_neg (by decide), if_neg (by decide), if_neg (by decide), if_neg (by decide), if_neg (by decide), if_neg (by decide), if_pos (by decide), if_neg (by decide), if_pos (by decide)]
        simp only [k_lacks Q.1.2.1 Q.1.2.2 hg, bd_some, Q.2.1.o0, sb_some, m_lacks r0 (show g < 7 by omega), Q.2.2.1]
        exact RR.mk _ rfl rfl
theorem R_count (Q : QS n s h h') (v1 : Int32) : RR 0 h h' (f_X11_count (some 0) v1 h) (f_X12_count (some 26) v1 h') := by
  unfold f_X11_count f_X12_count
  have W := Q.1.1
  have h7 := Q.h7
  have T := Q.1.2.1.1
  have r0 := Q.2.1.1.2.1
  obtain ⟨e5, e6, e7, e8, e9, e10⟩ := Q.1.2.1.2.1
  simp only [W.o0, sb_some, gI_1 T.1.1, bd_some, cv_ok T.1.1, k_weightOfAll Q.1.2.1 Q.1.2.2, m_btw, bI_0, Q.2.1.o0, m_hereIn r0 Q.n0 h7, m_weightIn r0 Q.n0 h7, Q.2.2.1, e5, e6, e7, e8, e9, e10]
  by_cases a0 : v1 = 0
  · subst a0
    rw [if_pos rfl, if_neg (by decide), r54_0 r0, sb_some, Q.n0]
    exact RR.mk _ rfl rfl
  · rw [if_neg a0]
    by_cases a1 : v1 = 1
    · subst a1
      rw [if_pos rfl, if_neg (by decide), r54_1 r0, sb_some, Q.2.2.1]
      exact RR.mk _ rfl rfl
    · rw [if_neg a1]
      by_cases a2 : v1 = 2
      · subst a2
        rw [if_pos rfl, if_neg (by decide), r54_2 r0, sb_some, Q.2.2.1]
        exact RR.mk _ rfl rfl
      · rw [if_neg a2]
        by_cases a3 : v1 = 3
        · subst a3
          rw [if_pos rfl, if_neg (by decide), r54_3 r0, sb_some, Q.2.2.1]
          exact RR.mk _ rfl rfl
        · rw [if_neg a3]
          by_cases a4 : v1 = 4
          · subst a4
            rw [if_pos rfl, if_neg (by decide), r54_4 r0, sb_some, Q.2.2.1]
            exact RR.mk _ rfl rfl
          · rw [if_neg a4]
            have z : btw v1 0 4 = false := by
              cases e : btw v1 0 4 with
              | false => rfl
              | true =>
                obtain ⟨j, rfl, hj⟩ := btw_of (m := 4) (by omega) e
                have hj2 : j = 0 ∨ j = 1 ∨ j = 2 ∨ j = 3 ∨ j = 4 := by omega
                rcases hj2 with rfl | rfl | rfl | rfl | rfl
                · exact absurd rfl a0
                · exact absurd rfl a1
                · exact absurd rfl a2
                · exact absurd rfl a3
                · exact absurd rfl a4
            rw [z, if_pos rfl]
            by_cases a5 : v1 = 5
            · rw [if_pos a5, if_pos a5]
              exact RR.mk _ rfl rfl
            · rw [if_neg a5, if_neg a5]
              by_cases a6 : v1 = 6
              · rw [if_pos a6, if_pos a6]
                exact RR.mk _ rfl rfl
              · rw [if_neg a6, if_neg a6]
                exact RR.mk _ rfl rfl
theorem rl_ledger : ∀ (k m m' g : Nat) (a : Int32), QS n s h h' → k < m → k < m' → g + k = n → ∃ r, f_X5_ledgerOfAll_b4 m (some 1) a (i32 g) h = some (r, h) ∧ f_X12_ledger_b4 m' (some 26) a (i32 g) h' = some (r, h') := by
  intro k
  induction k with
  | zero =>
    intro m m' g a Q hm hm' hg
    obtain ⟨m, rfl⟩ := succ_of hm
    obtain ⟨m', rfl⟩ := succ_of hm'
    have h7 := Q.h7
    have z : i32 n ≤ i32 g := by rw [i32_le (by omega) (by omega)]; omega
    rw [e_X5_ledgerOfAll_b4, e_X12_ledger_b4, gI_1 Q.1.2.1.1.1.1, sb_some, Q.1.2.1.2.1.1, if_pos z, Q.2.1.o0, sb_some, r54_0 Q.2.1.1.2.1, sb_some, Q.n0, if_pos z]
    exact ⟨a, rfl, rfl⟩
  | succ k ih =>
    intro m m' g a Q hm hm' hg
    obtain ⟨m, rfl⟩ := succ_of hm
    obtain ⟨m', rfl⟩ := succ_of hm'
    have h7 := Q.h7
    have hgn : g < n := by omega
    have T := Q.1.2.1.1
    have r0 := Q.2.1.1.2.1
    have z : ¬ i32 n ≤ i32 g := by rw [i32_le (by omega) (by omega)]; omega
    rw [e_X5_ledgerOfAll_b4, e_X12_ledger_b4]
    simp only [gI_1 T.1.1, sb_some, Q.1.2.1.2.1.1, if_neg z, Q.2.1.o0, r54_0 r0, Q.n0, cv_ok T.1.1, k_isIn Q.1.2.1 Q.1.2.2 hgn, bd_some, m_isHere r0 (show g < 7 by omega), gR_1 T.1.1, T.2.1.2.1, T.2.1.2.2.1, iA_ok T.1.2.2.1 (show g < 7 by omega) (by omega), iA_ok T.1.2.2.2.1 (show g < 7 by omega) (by omega), (Q.1.2.1.2.2 g hgn).2.1, (Q.1.2.1.2.2 g hgn).2.2.1, m_of2, m_of3, r54 (7 * g + 7) (by omega) r0, r54 (7 * g + 8) (by omega) r0, Q.2.2.1, f_X5_ledgerOfAll_b38, f_X12_ledger_b51, nm_eq, i32_s]
    show ∃ r, (if bI (inP s g) = 0 then _ else _) = _ ∧ (if bI (inP s g) = 0 then _ else _) = _
    cases inP s g with
    | false =>
      rw [if_pos pb0, if_pos pb0]
      exact ih m m' (g + 1) _ Q (by omega) (by omega) (by omega)
    | true =>
      rw [if_neg nb1, if_neg nb1]
      exact ih m m' (g + 1) _ Q (by omega) (by omega) (by omega)
theorem R_ledger (Q : QS n s h h') : RR 0 h h' (f_X11_ledger (some 0) h) (f_X12_ledger (some 26) h') := by
  obtain ⟨r, e1, e2⟩ := rl_ledger n FU FU 0 0 Q (fu_pos (by have := Q.h7; omega)) (fu_pos (by have := Q.h7; omega)) (by omega)
  refine RR.mk r ?_ e2
  unfold f_X11_ledger f_X5_ledgerOfAll
  rw [Q.1.1.o0, sb_some, cv_ok Q.1.2.1.1.1.1, show (0 : Int32) = i32 0 from rfl]
  show bd (f_X5_ledgerOfAll_b4 FU (some 1) 0 (i32 0) h) _ = _
  rw [e1, bd_some]
end Q2
