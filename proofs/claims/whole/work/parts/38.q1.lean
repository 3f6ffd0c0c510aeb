/-! QUERIES: days on, what to feed, how to dance, whom to ask to stay -/
theorem RR.mk2 {m : Nat} {h h' h1 h1' : AH} {o o' : Option (Int32 × AH)} (r : Int32) (F : Fq m h h1) (G : Fm h' h1') (e : o = some (r, h1)) (e' : o' = some (r, h1')) : RR m h h' o o' := ⟨r, h1, h1', e, e', F, G⟩
theorem ntf : ¬ (true = false) := by decide
theorem nb1 : ¬ (bI true = 0) := by decide
theorem pb0 : bI false = 0 := rfl
theorem cnd_in {γ : Type} (v a b : Int32) (X Y : γ) : (if v < a then X else (if v ≤ b then Y else X)) = if (decide (a ≤ v) && decide (v ≤ b)) = false then X else Y := by
  by_cases h1 : v < a
  · rw [if_pos h1, decide_eq_false (Int32.not_le.mpr h1)]; rfl
  · rw [if_neg h1, decide_eq_true (Int32.not_lt.mp h1)]
    by_cases h2 : v ≤ b
    · rw [if_pos h2, decide_eq_true h2]; rfl
    · rw [if_neg h2, decide_eq_false h2]; rfl
theorem cnd_out {γ : Type} (v a b : Int32) (X Y : γ) : (if v < a then X else (if b < v then X else Y)) = if (decide (a ≤ v) && decide (v ≤ b)) = false then X else Y := by
  rw [← cnd_in]
  by_cases h1 : v < a
  · rw [if_pos h1, if_pos h1]
  · rw [if_neg h1, if_neg h1]
    by_cases h2 : v ≤ b
    · rw [if_pos h2, if_neg (Int32.not_lt.mpr h2)]
    · rw [if_neg h2, if_pos (Int32.not_le.mp h2)]
/-- between two bounds -/
def btw (v a b : Int32) : Bool := decide (a ≤ v) && decide (v ≤ b)
theorem btw_of {v : Int32} {m : Nat} (hm : m < 2147483648) (e : btw v 0 (i32 m) = true) : ∃ N, v = i32 N ∧ N ≤ m := by
  unfold btw at e
  simp only [Bool.and_eq_true, decide_eq_true_eq] at e
  obtain ⟨j, h1, h2⟩ := rg_of e.1 e.2 hm
  exact ⟨j, h2, h1⟩
theorem btw_of1 {v : Int32} {a m : Nat} (hm : m < 2147483648) (ha : a < 2147483648) (e : btw v (i32 a) (i32 m) = true) : ∃ N, v = i32 N ∧ a ≤ N ∧ N ≤ m := by
  unfold btw at e
  simp only [Bool.and_eq_true, decide_eq_true_eq] at e
  have h0 : 0 ≤ v := Int32.le_trans (Int32.not_lt.mp (i32_nn ha)) e.1
  obtain ⟨j, h1, rfl⟩ := rg_of h0 e.2 hm
  have := e.1
  rw [i32_le ha (by omega)] at this
  exact ⟨j, rfl, this, h1⟩
theorem c_in {γ : Type} (v a b : Int32) (X Y : γ) : (if v < a then X else (if v ≤ b then Y else X)) = if btw v a b = false then X else Y := cnd_in v a b X Y
theorem c_out {γ : Type} (v a b : Int32) (X Y : γ) : (if v < a then X else (if b < v then X else Y)) = if btw v a b = false then X else Y := cnd_out v a b X Y
theorem m_btw {h : AH} (v a b : Int32) : f_X12_isIn v a b h = some (bI (btw v a b), h) := m_isIn v a b
theorem c_isDaysOn {h : AH} (v : Int32) : f_X11_isDaysOn v h = some (bI (btw v 0 60), h) := by
  unfold f_X11_isDaysOn
  rw [c_out]
  cases btw v 0 60 <;> rfl
theorem m_isLate {h : AH} (v : Int32) : f_X12_isLate v h = some (bI (btw v 0 60), h) := by
  unfold f_X12_isLate
  rw [m_btw, bd_some, rb_bI]
section Q1
variable {n : Nat} {s : R54} {h h' : AH}
/-- the house in mind of both worlds -/
def MS (n : Nat) (u : R54) (h h' : AH) : Prop := Hs h 8 n u ∧ Ok n u ∧ aI h' 28 = u
theorem Q_mind (Q : QS n s h h') : ∃ h1, f_X5_becomes (some 8) (some 1) h = some ((), h1) ∧ f_X12_copies (some 27) (some 28) h' = some ((), wI h' 28 s) ∧ MS n s h1 (wI h' 28 s) ∧ QS n s h1 (wI h' 28 s) ∧ Fq 0 h h1 ∧ Fm h' (wI h' 28 s) := by
  obtain ⟨⟨h1, e1, H1, F1, B1⟩, e1', G1⟩ := Q.mind
  exact ⟨h1, e1, e1', ⟨H1, Q.1.2.2, aI_eq⟩, Q.q F1 G1, F1, G1⟩
/-- n days in mind -/
theorem Q_days (Q : QS n s h h') {u : R54} (M : MS n u h h') {N : Nat} (hN : N < 1000) : ∃ h1, f_X5_passDays (some 8) (i32 N) h = some ((), h1) ∧ f_X12_daysOn (some 28) (i32 N) h' = some ((), wI h' 28 (daysM n N u)) ∧ MS n (daysM n N u) h1 (wI h' 28 (daysM n N u)) ∧ QS n s h1 (wI h' 28 (daysM n N u)) ∧ Fq 0 h h1 ∧ Fm h' (wI h' 28 (daysM n N u)) := by
  obtain ⟨h1, e1, H1, O1, B1⟩ := k_passDays M.1 M.2.1 hN
  have e2 : f_X12_daysOn (some 28) (i32 N) h' = some ((), wI h' 28 (daysM n N u)) := by
    rw [m_daysOn Q.2.1.1.2.2.1 (by rw [M.2.2]; exact M.2.1.1.1) Q.h7 hN, M.2.2]
  have G : Fm h' (wI h' 28 (daysM n N u)) := Fm.w28 (by rw [M.2.2]; exact hi_daysM Q.h7 N u (hi.rf u))
  exact ⟨h1, e1, e2, ⟨H1, O1, aI_eq⟩, Q.q B1.q G, B1.q, G⟩
/-- one day in mind -/
theorem Q_day (Q : QS n s h h') {u : R54} (M : MS n u h h') : ∃ h1, f_X5_passDay (some 8) h = some ((), h1) ∧ f_X12_day (some 28) 0 h' = some ((), wI h' 28 (dayM n 0 u)) ∧ MS n (dayM n 0 u) h1 (wI h' 28 (dayM n 0 u)) ∧ QS n s h1 (wI h' 28 (dayM n 0 u)) ∧ Fq 0 h h1 ∧ Fm h' (wI h' 28 (dayM n 0 u)) := by
  obtain ⟨h1, e1, H1, O1, B1⟩ := k_passDay M.1 M.2.1
  have e2 : f_X12_day (some 28) 0 h' = some ((), wI h' 28 (dayM n 0 u)) := by
    rw [m_day Q.2.1.1.2.2.1 (by rw [M.2.2]; exact M.2.1.1.1) Q.h7, M.2.2]
  have G : Fm h' (wI h' 28 (dayM n 0 u)) := Fm.w28 (by rw [M.2.2]; exact hi_dayM (hi.rf u) Q.h7)
  exact ⟨h1, e1, e2, ⟨H1, O1, aI_eq⟩, Q.q B1.q G, B1.q, G⟩
/-- something of all is put into the house in mind -/
theorem Q_putF (Q : QS n s h h') {u : R54} (M : MS n u h h') {k i : Nat} {v : Int32} (hk : (k = 7 ∧ i = 3) ∨ (k = 8 ∧ i = 4)) (hv : rg v 9) : MS n (va_up u i v) (wI h 8 (va_up (aI h 8) k v)) (wI h' 28 (va_up u i v)) ∧ QS n s (wI h 8 (va_up (aI h 8) k v)) (wI h' 28 (va_up u i v)) ∧ Fq 0 h (wI h 8 (va_up (aI h 8) k v)) ∧ Fm h' (wI h' 28 (va_up u i v)) := by
  obtain ⟨H1, B1⟩ := M.1.wF (v := v) (k := k) (i := i) (by omega)
  have G : Fm h' (wI h' 28 (va_up u i v)) := Fm.w28 (by rw [M.2.2]; exact (hi.rf _).up (by omega))
  have O1 : Ok n (va_up u i v) := by
    rcases hk with ⟨-, rfl⟩ | ⟨-, rfl⟩
    · exact M.2.1.up (okV_3 hv)
    · exact M.2.1.up (okV_4 hv)
  exact ⟨⟨H1, O1, aI_eq⟩, Q.q B1.q G, B1.q, G⟩
theorem Q_putA (Q : QS n s h h') {u : R54} (M : MS n u h h') {t g : Nat} {v : Int32} (ht : t = 2 ∨ t = 3 ∨ t = 4 ∨ t = 5) (hg : g < 7) (hv : okV (7 * g + (5 + t)) v) : MS n (va_up u (7 * g + (5 + t)) v) (wI h (8 + t) (va_up (aI h (8 + t)) g v)) (wI h' 28 (va_up u (7 * g + (5 + t)) v)) ∧ QS n s (wI h (8 + t) (va_up (aI h (8 + t)) g v)) (wI h' 28 (va_up u (7 * g + (5 + t)) v)) ∧ Fq 0 h (wI h (8 + t) (va_up (aI h (8 + t)) g v)) ∧ Fm h' (wI h' 28 (va_up u (7 * g + (5 + t)) v)) := by
  obtain ⟨H1, B1⟩ := M.1.wA (g := g) (v := v) (t := t) (by omega)
  have G : Fm h' (wI h' 28 (va_up u (7 * g + (5 + t)) v)) := Fm.w28 (by rw [M.2.2]; exact (hi.rf _).up (by omega))
  exact ⟨⟨H1, M.2.1.up hv, aI_eq⟩, Q.q B1.q G, B1.q, G⟩
theorem k_weightOfAll_b4 {b : Nat} (H : Hs h b n s) (O : Ok n s) : ∀ (k m g : Nat) (a : Int32), k < m → g + k = n → f_X5_weightOfAll_b4 m (some b) a (i32 g) h = some (fld (fun g a => a + (if s (7 * g + 11) = 1 then s (7 * g + 7) else 0)) g k a, h) := by
  have h7 := O.1.2.1
  intro k
  induction k with
  | zero =>
    intro m g a hm hg
    obtain ⟨m, rfl⟩ := succ_of hm
    rw [e_X5_weightOfAll_b4]
    simp only [gI_1 H.1.1.1, sb_some, H.2.1.1, i32_le (a := n) (b := g) (by omega) (by omega), if_pos (show n ≤ g by omega), fld_0]
  | succ k ih =>
    intro m g a hm hg
    obtain ⟨m, rfl⟩ := succ_of hm
    rw [e_X5_weightOfAll_b4]
    simp only [gI_1 H.1.1.1, sb_some, H.2.1.1, i32_le (a := n) (b := g) (by omega) (by omega), if_neg (show ¬ n ≤ g by omega), cv_ok H.1.1.1, k_isIn H O (show g < n by omega), bd_some, bI_0, gR_1 H.1.1.1, H.1.2.1.2.1, iA_ok H.1.1.2.2.1 (show g < 7 by omega) (by omega), (H.2.2 g (by omega)).2.1, f_X5_weightOfAll_b31, nm_eq, i32_s, fld_s, ih m (g + 1) _ (by omega) (by omega)]
    unfold inP
    by_cases e : s (7 * g + 11) = 1
    · rw [if_neg (by rw [decide_eq_true e]; decide), if_pos e]
    · rw [if_pos (decide_eq_false e), if_neg e]
theorem k_weightOfAll {b : Nat} (H : Hs h b n s) (O : Ok n s) : f_X5_weightOfAll (some b) h = some (wA n s, h) :=
  k_weightOfAll_b4 H O n FU 0 0 (fu_pos (by have := O.1.2.1; omega)) (by omega)
theorem m_takes (Q : QS n s h h') {N : Nat} (hN : N < 1000) : f_X12_takes (some 26) (i32 N) h' = some ((), wI h' 28 (daysM n N s)) := by
  unfold f_X12_takes
  have M := Q.2.1
  have M2 : Wm (wI h' 28 s) := M
  rw [M.o0, sb_some, M.o1, sb_some, Q.mind.2.1, bd_some, M2.o1, sb_some, m_daysOn (by exact M.1.2.2.1) (by rw [aI_eq]; exact Q.1.2.2.1.1) Q.h7 hN, bd_some, aI_eq, wI_wI]
theorem R_then (Q : QS n s h h') (v1 v2 : Int32) : RR 0 h h' (f_X11_then (some 0) v1 v2 h) (f_X12_then (some 26) v1 v2 h') := by
  unfold f_X11_then f_X12_then
  simp only [c_isDaysOn, m_isLate, m_btw, bd_some, bI_0, c_in]
  cases e : btw v1 0 60 with
  | false => exact RR.mk (-1) (if_pos rfl) (if_pos rfl)
  | true =>
    rw [if_neg ntf, if_neg ntf]
    cases e2 : btw v2 0 2 with
    | false => exact RR.mk (-1) (if_pos rfl) (if_pos rfl)
    | true =>
      rw [if_neg ntf, if_neg ntf]
      obtain ⟨N, rfl, hN⟩ := btw_of (m := 60) (by omega) e
      obtain ⟨h1, a1, a2, M1, Q1, F1, G1⟩ := Q_mind Q
      obtain ⟨h2, b1, b2, M2, Q2, F2, G2⟩ := Q_days Q1 M1 (N := N) (by omega)
      rw [wI_wI] at G2 M2 Q2
      have G3 : Fm h' (wI h' 28 (daysM n N s)) := G1.tr G2
      have F3 : Fq 0 h h2 := F1.tr0 F2
      have W := Q.1.1
      have W1 := Q1.1.1
      have W2 := Q2.1.1
      have Mm := Q2.2.1
      simp only [W.o1, W.o0, sb_some, cv_ok W.2.2.1.2.1.1.1, a1, bd_some, W1.o1, cv_ok W1.2.2.1.2.1.1.1, b1, cv_ok Q.2.1.1.1, m_takes Q (show N < 1000 by omega)]
      by_cases c1 : v2 = 0
      · rw [if_pos c1, if_pos c1]
        refine RR.mk2 (sI n (daysM n N s)) F3 G3 ?_ ?_
        · rw [W2.o1, sb_some, gI_1 M2.1.1.1.1, sb_some, M2.1.2.1.2.1]
        · rw [Mm.o1, sb_some, m_hereIn Mm.1.2.2.1 (by rw [aI_eq]; exact M2.2.1.1.1) Q.h7, bd_some, aI_eq]
      · rw [if_neg c1, if_neg c1]
        by_cases c2 : v2 = 1
        · rw [if_pos c2, if_pos c2]
          refine RR.mk2 (daysM n N s 2) F3 G3 ?_ ?_
          · rw [W2.o1, sb_some, gI_1 M2.1.1.1.1, sb_some, M2.1.2.1.2.2.2.2.1]
          · rw [Mm.o1, sb_some, r54_2 Mm.1.2.2.1, sb_some, aI_eq]
        · rw [if_neg c2, if_neg c2]
          refine RR.mk2 (wA n (daysM n N s)) F3 G3 ?_ ?_
          · rw [W2.o1, sb_some, cv_ok M2.1.1.1.1, k_weightOfAll M2.1 M2.2.1, bd_some]
          · rw [Mm.o1, sb_some, m_weightIn Mm.1.2.2.1 (by rw [aI_eq]; exact M2.2.1.1.1) Q.h7, bd_some, aI_eq]
theorem R_weightThen (Q : QS n s h h') (v1 v2 : Int32) : RR 0 h h' (f_X11_weightThen (some 0) v1 v2 h) (f_X12_weightThen (some 26) v1 v2 h') := by
  unfold f_X11_weightThen f_X12_weightThen
  have W := Q.1.1
  simp only [W.o0, sb_some, cv_ok W.2.2.1.1.1.1, cv_ok Q.2.1.1.1, (Q.cg v1).1, (Q.cg v1).2, c_isDaysOn, m_isLate, bd_some, bI_0]
  cases e1 : isg n v1 with
  | false => exact RR.mk (-1) (if_pos rfl) (if_pos rfl)
  | true =>
    rw [if_neg ntf, if_neg ntf]
    cases e : btw v2 0 60 with
    | false => exact RR.mk (-1) (if_pos rfl) (if_pos rfl)
    | true =>
      rw [if_neg ntf, if_neg ntf]
      obtain ⟨g, rfl, hg⟩ := isg_of Q.h7 e1
      obtain ⟨N, rfl, hN⟩ := btw_of (m := 60) (by omega) e
      obtain ⟨h1, a1, a2, M1, Q1, F1, G1⟩ := Q_mind Q
      obtain ⟨h2, b1, b2, M2, Q2, F2, G2⟩ := Q_days Q1 M1 (N := N) (by omega)
      rw [wI_wI] at G2 M2 Q2
      have h7 := Q.h7
      have W1 := Q1.1.1
      have W2 := Q2.1.1
      have Mm := Q2.2.1
      refine RR.mk2 (daysM n N s (7 * g + 7)) (F1.tr0 F2) (G1.tr G2) ?_ ?_
      · rw [W.o1, sb_some, cv_ok W.2.2.1.2.1.1.1, a1, bd_some, W1.o1, sb_some, cv_ok W1.2.2.1.2.1.1.1, b1, bd_some, W2.o1, sb_some, gR_1 M2.1.1.1.1, sb_some, M2.1.1.2.1.2.1, iA_ok M2.1.1.1.2.2.1 (show g < 7 by omega) (by omega), sb_some, (M2.1.2.2 g hg).2.1]
      · rw [m_takes Q (show N < 1000 by omega), bd_some, Mm.o1, sb_some, m_of2, bd_some, r54 (7 * g + 7) (by omega) Mm.1.2.2.1, sb_some, aI_eq]
theorem rl_empty {N : Nat} (hN : N ≤ 60) : ∀ (k m m' v : Nat) (h h' : AH), QS n s h h' → k < m → k < m' → v + k = 10 → RR 0 h h' (f_X11_empty_b11 m (some 0) (i32 N) (i32 v) h) (f_X12_empty_b11 m' (some 26) (i32 N) (i32 v) h') := by
  intro k
  induction k with
  | zero =>
    intro m m' v h h' Q hm hm' hv
    obtain ⟨m, rfl⟩ := succ_of hm
    obtain ⟨m', rfl⟩ := succ_of hm'
    rw [e_X11_empty_b11, e_X12_empty_b11, show v = 10 by omega]
    exact RR.mk (-4) (if_pos (by decide)) (if_pos (by decide))
  | succ k ih =>
    intro m m' v h h' Q hm hm' hv
    obtain ⟨m, rfl⟩ := succ_of hm
    obtain ⟨m', rfl⟩ := succ_of hm'
    rw [e_X11_empty_b11, e_X12_empty_b11, if_neg (show ¬ (9 : Int32) < i32 v by rw [show (9 : Int32) = i32 9 from rfl, i32_lt (by omega) (by omega)]; omega), if_neg (show ¬ (10 : Int32) ≤ i32 v by rw [show (10 : Int32) = i32 10 from rfl, i32_le (by omega) (by omega)]; omega)]
    obtain ⟨h1, a1, a2, M1, Q1, F1, G1⟩ := Q_mind Q
    obtain ⟨M2, Q2, F2, G2⟩ := Q_putF Q1 M1 (k := 8) (i := 4) (v := i32 v) (Or.inr ⟨rfl, rfl⟩) ⟨v, by omega, rfl⟩
    obtain ⟨h3, c1, c2, M3, Q3, F3, G3⟩ := Q_days Q2 M2 (N := N) (by omega)
    simp only [wI_wI] at M2 Q2 G2 c2 M3 Q3 G3
    have W := Q.1.1
    have W1 := Q1.1.1
    have W2 := Q2.1.1
    have W3 := Q3.1.1
    simp only [W.o1, sb_some, W.o0, cv_ok W.2.2.1.2.1.1.1, a1, bd_some, W1.o1, pI_1' M1.1.1.1.1, W2.o1, cv_ok M2.1.1.1.1, c1, W3.o1, gI_1 M3.1.1.1.1, M3.1.2.1.2.1]
    simp only [Q.2.1.o0, sb_some, Q.2.1.o1, a2, bd_some, Q1.2.1.o1, w54_4 Q1.2.1.1.2.2.1, Q2.2.1.o1, c2, Q3.2.1.o1, m_hereIn Q3.2.1.1.2.2.1 (by rw [aI_eq]; exact M3.2.1.1.1) Q.h7, aI_eq, wI_wI]
    have F := F1.tr0 (F2.tr0 F3)
    have G := G1.tr (G2.tr G3)
    by_cases z : sI n (daysM n N (va_up s 4 (i32 v))) = 0
    · rw [if_pos z, if_pos z]
      exact RR.mk2 (i32 v) F G rfl rfl
    · rw [if_neg z, if_neg z, i32_s]
      exact RR.tr0 F G (ih m m' (v + 1) _ _ Q3 (by omega) (by omega) (by omega))
theorem R_empty (Q : QS n s h h') (v1 : Int32) : RR 0 h h' (f_X11_empty (some 0) v1 h) (f_X12_empty (some 26) v1 h') := by
  unfold f_X11_empty f_X12_empty
  simp only [c_isDaysOn, m_isLate, bd_some, bI_0]
  cases e : btw v1 0 60 with
  | false => exact RR.mk (-1) (if_pos rfl) (if_pos rfl)
  | true =>
    rw [if_neg ntf, if_neg ntf]
    obtain ⟨N, rfl, hN⟩ := btw_of (m := 60) (by omega) e
    exact rl_empty hN 10 FU FU 0 h h' Q (fu_pos (by omega)) (fu_pos (by omega)) (by omega)
theorem rl_feed {N : Nat} (hN : N ≤ 60) (w : Int32) : ∀ (k m m' v : Nat) (a b : Int32) (h h' : AH), QS n s h h' → k < m → k < m' → v + k = 10 → RR 0 h h' (f_X11_feed_b26 m (some 0) (i32 N) w a b (i32 v) h) (f_X12_feed_b26 m' (some 26) (i32 N) w a b (i32 v) h') := by
  intro k
  induction k with
  | zero =>
    intro m m' v a b h h' Q hm hm' hv
    obtain ⟨m, rfl⟩ := succ_of hm
    obtain ⟨m', rfl⟩ := succ_of hm'
    rw [e_X11_feed_b26, e_X12_feed_b26, show v = 10 by omega, if_pos (show (9 : Int32) < i32 10 by decide), if_pos (show (10 : Int32) ≤ i32 10 by decide)]
    by_cases z : w = 0
    · exact RR.mk a (if_pos z) (if_pos z)
    · exact RR.mk b (if_neg z) (if_neg z)
  | succ k ih =>
    intro m m' v a b h h' Q hm hm' hv
    obtain ⟨m, rfl⟩ := succ_of hm
    obtain ⟨m', rfl⟩ := succ_of hm'
    rw [e_X11_feed_b26, e_X12_feed_b26, if_neg (show ¬ (9 : Int32) < i32 v by rw [show (9 : Int32) = i32 9 from rfl, i32_lt (by omega) (by omega)]; omega), if_neg (show ¬ (10 : Int32) ≤ i32 v by rw [show (10 : Int32) = i32 10 from rfl, i32_le (by omega) (by omega)]; omega)]
    obtain ⟨h1, a1, a2, M1, Q1, F1, G1⟩ := Q_mind Q
    obtain ⟨M2, Q2, F2, G2⟩ := Q_putF Q1 M1 (k := 7) (i := 3) (v := i32 v) (Or.inl ⟨rfl, rfl⟩) ⟨v, by omega, rfl⟩
    obtain ⟨h3, c1, c2, M3, Q3, F3, G3⟩ := Q_days Q2 M2 (N := N) (by omega)
    simp only [wI_wI] at M2 Q2 G2 c2 M3 Q3 G3
    have W := Q.1.1
    have W1 := Q1.1.1
    have W2 := Q2.1.1
    have W3 := Q3.1.1
    simp only [W.o1, sb_some, W.o0, cv_ok W.2.2.1.2.1.1.1, a1, bd_some, W1.o1, pI_1' M1.1.1.1.1, W2.o1, cv_ok M2.1.1.1.1, c1, W3.o1, gI_1 M3.1.1.1.1, M3.1.2.1.2.2.2.2.1]
    simp only [Q.2.1.o0, sb_some, Q.2.1.o1, a2, bd_some, Q1.2.1.o1, w54_3 Q1.2.1.1.2.2.1, Q2.2.1.o1, c2, Q3.2.1.o1, r54_2 Q3.2.1.1.2.2.1, aI_eq, wI_wI]
    have F := F1.tr0 (F2.tr0 F3)
    have G := G1.tr (G2.tr G3)
    by_cases z : daysM n N (va_up s 3 (i32 v)) 2 ≤ b
    · rw [if_pos z, if_neg (Int32.not_lt.mpr z), i32_s]
      exact RR.tr0 F G (ih m m' (v + 1) a b _ _ Q3 (by omega) (by omega) (by omega))
    · rw [if_neg z, if_pos (Int32.not_le.mp z), i32_s]
      exact RR.tr0 F G (ih m m' (v + 1) _ _ _ _ Q3 (by omega) (by omega) (by omega))
theorem R_feed (Q : QS n s h h') (v1 v2 : Int32) : RR 0 h h' (f_X11_feed (some 0) v1 v2 h) (f_X12_feed (some 26) v1 v2 h') := by
  unfold f_X11_feed f_X12_feed
  simp only [c_isDaysOn, m_isLate, m_btw, bd_some, bI_0, c_in]
  cases e : btw v1 0 60 with
  | false => exact RR.mk (-1) (if_pos rfl) (if_pos rfl)
  | true =>
    rw [if_neg ntf, if_neg ntf]
    cases e2 : btw v2 0 1 with
    | false => exact RR.mk (-1) (if_pos rfl) (if_pos rfl)
    | true =>
      rw [if_neg ntf, if_neg ntf]
      obtain ⟨N, rfl, hN⟩ := btw_of (m := 60) (by omega) e
      exact rl_feed hN v2 10 FU FU 0 0 (-1) h h' Q (fu_pos (by omega)) (fu_pos (by omega)) (by omega)
theorem rl_waits {N : Nat} (hN : N ≤ 60) : ∀ (k m m' g : Nat) (a b : Int32) (h h' : AH), QS n s h h' → k < m → k < m' → g + k = n → RR 0 h h' (f_X11_waits_b42 m (some 0) (i32 N) a b (i32 g) h) (f_X12_waits_b27 m' (some 26) (i32 N) a b (i32 g) h') := by
  intro k
  induction k with
  | zero =>
    intro m m' g a b h h' Q hm hm' hg
    obtain ⟨m, rfl⟩ := succ_of hm
    obtain ⟨m', rfl⟩ := succ_of hm'
    have h7 := Q.h7
    rw [e_X11_waits_b42, e_X12_waits_b27]
    simp only [Q.1.1.o0, sb_some, gI_1 Q.1.2.1.1.1.1, Q.1.2.1.2.1.1, Q.2.1.o0, r54_0 Q.2.1.1.2.1, Q.n0]
    have z : i32 n ≤ i32 g := by rw [i32_le (by omega) (by omega)]; omega
    exact RR.mk b (if_pos z) (if_pos z)
  | succ k ih =>
    intro m m' g a b h h' Q hm hm' hg
    obtain ⟨m, rfl⟩ := succ_of hm
    obtain ⟨m', rfl⟩ := succ_of hm'
    have h7 := Q.h7
    have hgn : g < n := by omega
    have z : ¬ i32 n ≤ i32 g := by rw [i32_le (by omega) (by omega)]; omega
    have W := Q.1.1
    rw [e_X11_waits_b42, e_X12_waits_b27]
    simp only [W.o0, sb_some, gI_1 Q.1.2.1.1.1.1, Q.1.2.1.2.1.1, Q.2.1.o0, r54_0 Q.2.1.1.2.1, Q.n0, cv_ok Q.1.2.1.1.1.1, k_isIn Q.1.2.1 Q.1.2.2 hgn, bd_some, m_isHere Q.2.1.1.2.1 (show g < 7 by omega), Q.2.2.1]
    rw [if_neg z, if_neg z]
    show RR 0 h h' (if bI (inP s g) = 0 then _ else _) (if bI (inP s g) = 0 then _ else _)
    cases e : inP s g with
    | false =>
      rw [if_pos pb0, if_pos pb0, i32_s]
      exact ih m m' (g + 1) a b h h' Q (by omega) (by omega) (by omega)
    | true =>
      rw [if_neg nb1, if_neg nb1]
      obtain ⟨h1, a1, a2, M1, Q1, F1, G1⟩ := Q_mind Q
      have x5 : aI h1 13 g = s (7 * g + 10) := (M1.1.2.2 g hgn).2.2.2.2
      obtain ⟨M2, Q2, F2, G2⟩ := Q_putA Q1 M1 (t := 5) (g := g) (v := s (7 * g + 10) + 5) (by omega) (by omega) okV_c
      obtain ⟨h3, c1, c2, M3, Q3, F3, G3⟩ := Q_days Q2 M2 (N := N) (by omega)
      simp only [wI_wI] at M2 Q2 G2 c2 M3 Q3 G3
      have W1 := Q1.1.1
      have W2 := Q2.1.1
      have W3 := Q3.1.1
      have T1 := M1.1.1
      simp only [W.o1, sb_some, cv_ok W.2.2.1.2.1.1.1, a1, bd_some, W1.o1, gR_1 T1.1.1, T1.2.1.2.2.2.2, iA_ok T1.1.2.2.2.2.2 (show g < 7 by omega) (by omega), iS_ok T1.1.2.2.2.2.2 (show g < 7 by omega) (by omega), x5, W2.o1, cv_ok M2.1.1.1.1, c1, W3.o1, gI_1 M3.1.1.1.1, M3.1.2.1.2.2.2.2.1]
      simp only [Q.2.1.o1, sb_some, a2, bd_some, Q1.2.1.o1, m_of5, r54 (7 * g + 10) (by omega) Q1.2.1.1.2.2.1, w54 (7 * g + 10) (by omega) _ Q1.2.1.1.2.2.1, M1.2.2, Q2.2.1.o1, c2, Q3.2.1.o1, r54_2 Q3.2.1.1.2.2.1, aI_eq, wI_wI]
      have F := F1.tr0 (F2.tr0 F3)
      have G := G1.tr (G2.tr G3)
      by_cases zz : daysM n N (va_up s (7 * g + (5 + 5)) (s (7 * g + 10) + 5)) 2 ≤ a
      · rw [if_pos zz, if_neg (Int32.not_lt.mpr zz), i32_s]
        exact RR.tr0 F G (ih m m' (g + 1) a b _ _ Q3 (by omega) (by omega) (by omega))
      · rw [if_neg zz, if_pos (Int32.not_le.mp zz), i32_s]
        exact RR.tr0 F G (ih m m' (g + 1) _ _ _ _ Q3 (by omega) (by omega) (by omega))
theorem R_waits (Q : QS n s h h') (v1 : Int32) : RR 0 h h' (f_X11_waits (some 0) v1 h) (f_X12_waits (some 26) v1 h') := by
  unfold f_X11_waits f_X12_waits
  simp only [c_isDaysOn, m_isLate, bd_some, bI_0]
  cases e : btw v1 0 60 with
  | false => exact RR.mk (-1) (if_pos rfl) (if_pos rfl)
  | true =>
    rw [if_neg ntf, if_neg ntf]
    obtain ⟨N, rfl, hN⟩ := btw_of (m := 60) (by omega) e
    obtain ⟨h1, a1, a2, M1, Q1, F1, G1⟩ := Q_mind Q
    obtain ⟨h2, b1, b2, M2, Q2, F2, G2⟩ := Q_days Q1 M1 (N := N) (by omega)
    rw [wI_wI] at G2 M2 Q2
    have W := Q.1.1
    have W1 := Q1.1.1
    have W2 := Q2.1.1
    have h7 := Q.h7
    rw [W.o1, sb_some, W.o0, sb_some, cv_ok W.2.2.1.2.1.1.1, a1, bd_some, W1.o1, sb_some, cv_ok W1.2.2.1.2.1.1.1, b1, bd_some, W2.o1, sb_some, gI_1 M2.1.1.1.1, sb_some, M2.1.2.1.2.2.2.2.1]
    simp only [cv_ok Q.2.1.1.1, m_takes Q (show N < 1000 by omega), bd_some, Q2.2.1.o1, sb_some, r54_2 Q2.2.1.1.2.2.1, aI_eq]
    exact RR.tr0 (F1.tr0 F2) (G1.tr G2) (rl_waits hN n FU FU 0 _ _ _ _ Q2 (fu_pos (by omega)) (fu_pos (by omega)) (by omega))
end Q1
