/-! TWO; SEASONS -/
section TWO
variable {n : Nat} {s : R54} {h h' : AH}
def dysO (g : Nat) : Nat → R54 → R54
  | 0, u => u
  | k + 1, u => dysO g k (dayO g u)
theorem Ok_dysO {g : Nat} (hg : g < n) : ∀ (k : Nat) (u : R54), Ok n u → Ok n (dysO g k u)
  | 0, _, O => O
  | k + 1, _, O => Ok_dysO hg k _ (Ok_dayO O hg)
theorem agr_dysO {g : Nat} (h7 : n ≤ 7) (hg : g < n) : ∀ (k : Nat) (u t : R54), agr g u t → agr g (daysM n k u) (dysO g k t)
  | 0, _, _, a => a
  | k + 1, _, _, a => agr_dysO h7 hg k _ _ (agr_dayO h7 hg a)
/-- what one has, x days' fasting on the first of N -/
def wv (N g x : Nat) (s : R54) : Int32 := (if inP (dysO g (N - 1) (dayW (if x = 1 then 0 else eat (s (7 * g + 5)) (s 3)) g s)) g then dysO g (N - 1) (dayW (if x = 1 then 0 else eat (s (7 * g + 5)) (s 3)) g s) (7 * g + 7) / 20 else 6) - i32 x
theorem c_worth39 {g N x : Nat} (hg : g < n) (hN : N ≤ 30) (h7 : n ≤ 7) : ∀ (k m i : Nat) (u : R54) (h : AH), Wc h → Hs h 8 n u → Ok n u → k < m → i + k = N → ∃ h1, f_X11_worthOfChoice_b39 m (some 0) (i32 g) (i32 x) (i32 N) (i32 i) h = some ((if inP (dysO g k u) g then dysO g k u (7 * g + 7) / 20 else 6) - i32 x, h1) ∧ Fq 0 h h1 := by
  intro k
  induction k with
  | zero =>
    intro m i u h W H O hm hi
    obtain ⟨m, rfl⟩ := succ_of hm
    rw [e_X11_worthOfChoice_b39, if_pos (by rw [i32_le (by omega) (by omega)]; omega)]
    refine ⟨h, ?_, Fq.rf h⟩
    simp only [W.o1, sb_some, cv_ok H.1.1.1, k_isIn H O hg, bd_some, gR_1 H.1.1.1, H.1.2.1.2.1, iA_ok H.1.1.2.2.1 (show g < 7 by omega) (by omega), (H.2.2 g hg).2.1]
    show (if bI (inP u g) = 0 then _ else _) = some ((if inP u g then u (7 * g + 7) / 20 else 6) - i32 x, h)
    cases inP u g with
    | false => rw [if_pos pb0]; rfl
    | true => rw [if_neg nb1]; rfl
  | succ k ih =>
    intro m i u h W H O hm hi
    obtain ⟨m, rfl⟩ := succ_of hm
    obtain ⟨h1, a1, H1, B1⟩ := k_passDayOf H O hg
    have W1 := W.fr B1 (Or.inr (Or.inl rfl))
    obtain ⟨h2, b1, b2⟩ := ih m (i + 1) (dayO g u) h1 W1 H1 (Ok_dayO O hg) (by omega) (by omega)
    rw [e_X11_worthOfChoice_b39, if_neg (by rw [i32_le (by omega) (by omega)]; omega), W.o1, sb_some, cv_ok H.1.1.1, a1, bd_some, i32_s, b1]
    exact ⟨h2, rfl, B1.q.tr0 b2⟩
theorem c_worth (Q : QS n s h h') {g N x : Nat} (hg : g < n) (hN : N ≤ 30) (hN1 : 1 ≤ N) (hx : x = 0 ∨ x = 1) : ∃ h1, f_X11_worthOfChoice (some 0) (i32 g) (i32 x) (i32 N) h = some (wv N g x s, h1) ∧ Fq 0 h h1 := by
  have h7 := Q.h7
  obtain ⟨⟨h1, a1, H1, F1, B1⟩, -⟩ := Q.mind
  have W := Q.1.1
  have O := Q.1.2.2
  have W1 := W.fr B1 (Or.inr (Or.inl rfl))
  obtain ⟨p1, p2, p3, p4, p5⟩ := O.2.2 g hg
  have key : ∀ v, rg v 18 → ∃ h2, f_X11_worthOfChoice_b33 (some 0) (i32 g) (i32 x) (i32 N) v (i32 g) (some 8) h1 = some ((if inP (dysO g (N - 1) (dayW v g s)) g then dysO g (N - 1) (dayW v g s) (7 * g + 7) / 20 else 6) - i32 x, h2) ∧ Fq 0 h h2 := by
    intro v hv
    obtain ⟨h2, b1, H2, B2⟩ := k_passDayEating H1 O hg hv
    have W2 := W1.fr B2 (Or.inr (Or.inl rfl))
    obtain ⟨h3, c1, c2⟩ := c_worth39 (x := x) hg hN h7 (N - 1) FU 1 (dayW v g s) h2 W2 H2 (Ok_dayW O v hg) (fu_pos (by omega)) (by omega)
    refine ⟨h3, ?_, F1.tr0 (B2.q.tr0 c2)⟩
    unfold f_X11_worthOfChoice_b33
    rw [cv_ok H1.1.1.1, b1, bd_some]
    exact c1
  unfold f_X11_worthOfChoice wv
  simp only [W.o1, W.o0, sb_some, cv_ok W.2.2.1.2.1.1.1, a1, bd_some, W1.o1, cv_ok H1.1.1.1, k_foodOf H1 O hg]
  rcases hx with rfl | rfl
  · rw [if_neg (show ¬ i32 0 = 1 by decide), if_neg (show ¬ (0 : Nat) = 1 by decide)]
    exact key _ (eat_rg p4 O.2.1.1)
  · rw [if_pos (show i32 1 = 1 from rfl), if_pos (show (1 : Nat) = 1 from rfl)]
    exact key 0 ⟨0, by omega, rfl⟩
def fs2 (a b x y : Nat) : Bool := decide (a = b) || (fst ((i32 x <<< (i32 a &&& 31)) ||| (i32 y <<< (i32 b &&& 31))) a == decide (x = 1) && fst ((i32 x <<< (i32 a &&& 31)) ||| (i32 y <<< (i32 b &&& 31))) b == decide (y = 1))
theorem fs2_ok : ∀ a, a < 7 → ∀ b, b < 7 → ∀ x, x < 2 → ∀ y, y < 2 → fs2 a b x y = true := by decide +kernel
theorem fst_two (a : Nat) (h1 : a < 7) (b : Nat) (h2 : b < 7) (x : Nat) (h3 : x < 2) (y : Nat) (h4 : y < 2) (ne : a ≠ b) : fst ((i32 x <<< (i32 a &&& 31)) ||| (i32 y <<< (i32 b &&& 31))) a = decide (x = 1) ∧ fst ((i32 x <<< (i32 a &&& 31)) ||| (i32 y <<< (i32 b &&& 31))) b = decide (y = 1) := by
  have := fs2_ok a h1 b h2 x h3 y h4
  unfold fs2 at this
  rw [decide_eq_false ne, Bool.false_or, Bool.and_eq_true, beq_iff_eq, beq_iff_eq] at this
  exact this
theorem m_hasBy (Q : QS n s h h') {w a x b y N : Nat} (ha : a < n) (hb : b < n) (hab : a ≠ b) (hx : x < 2) (hy : y < 2) (hw : w = a ∨ w = b) (hN : N ≤ 30) (hN1 : 1 ≤ N) : ∃ h1', f_X12_hasBy (some 26) (i32 w) (i32 a) (i32 x) (i32 b) (i32 y) (i32 N) h' = some (wv N w (if w = a then x else y) s, h1') ∧ Fm h' h1' := by
  have h7 := Q.h7
  have M := Q.2.1
  have cp := Q.mind.2.1
  have W1 : ∀ q, Wm (wI h' 28 q) := fun _ => M
  obtain ⟨f1, f2⟩ := fst_two a (by omega) b (by omega) x hx y hy hab
  have hwn : w < n := by omega
  have e0 : s 0 = i32 n := Q.1.2.2.1.1
  have hF : ∀ q, hi q s → Fm h' (wI h' 28 q) := fun q hq => Fm.w28 (hq.tr Q.2.2.2.sy)
  have d1 : f_X12_day (some 28) ((i32 x <<< (i32 a &&& 31)) ||| (i32 y <<< (i32 b &&& 31))) (wI h' 28 s) = some ((), wI h' 28 (dayM n ((i32 x <<< (i32 a &&& 31)) ||| (i32 y <<< (i32 b &&& 31))) s)) := by
    rw [m_day (W1 s).1.2.2.1 (by rw [aI_eq]; exact e0) h7, aI_eq, wI_wI]
  generalize hFF : ((i32 x <<< (i32 a &&& 31)) ||| (i32 y <<< (i32 b &&& 31))) = FF at f1 f2 d1
  have d2 : f_X12_daysOn (some 28) (i32 N - 1) (wI h' 28 (dayM n FF s)) = some ((), wI h' 28 (daysM n (N - 1) (dayM n FF s))) := by
    rw [show i32 N - 1 = i32 (N - 1) by rw [show (1 : Int32) = i32 1 from rfl, i32_sub hN1], m_daysOn (W1 _).1.2.2.1 (by rw [aI_eq, dayM_0]; exact e0) h7 (by omega), aI_eq, wI_wI]
  have ag : agr w (daysM n (N - 1) (dayM n FF s)) (dysO w (N - 1) (dayW (if fst FF w then 0 else eat (s (7 * w + 5)) (s 3)) w s)) := agr_dysO h7 hwn (N - 1) _ _ (agr_day hwn FF (agr.rf w s))
  have ef : fst FF w = decide ((if w = a then x else y) = 1) := by
    rcases hw with rfl | rfl
    · rw [if_pos rfl]; exact f1
    · rw [if_neg (Ne.symm hab)]; exact f2
  have ev : (if fst FF w then (0 : Int32) else eat (s (7 * w + 5)) (s 3)) = (if (if w = a then x else y) = 1 then 0 else eat (s (7 * w + 5)) (s 3)) := by
    rw [ef]
    by_cases c : (if w = a then x else y) = 1
    · rw [decide_eq_true c, if_pos rfl, if_pos c]
    · rw [decide_eq_false c, if_neg c]; rfl
  rw [ev] at ag
  refine ⟨wI h' 28 (daysM n (N - 1) (dayM n FF s)), ?_, hF _ (hi_daysM h7 _ _ (hi_dayM (hi.rf s) h7))⟩
  unfold f_X12_hasBy f_X12_hasBy_b67 wv
  have hwa : (i32 w = i32 a) = (w = a) := i32_eq (by omega) (by omega)
  simp only [hFF, M.o0, M.o1, sb_some, cp, bd_some, (W1 _).o1, d1, d2, m_isHere (W1 _).1.2.2.1 (show w < 7 by omega), aI_eq, m_of2, r54 (7 * w + 7) (by omega) (W1 _).1.2.2.1, hwa]
  show (if bI (inP (daysM n (N - 1) (dayM n FF s)) w) = 0 then _ else _) = _
  rw [ag.in, ag.2.2.2.1]
  generalize dysO w (N - 1) (dayW (if (if w = a then x else y) = 1 then 0 else eat (s (7 * w + 5)) (s 3)) w s) = uu
  cases inP uu w with
  | false =>
    rw [if_pos pb0]
    by_cases c : w = a
    · rw [if_pos c, if_pos c]; rfl
    · rw [if_neg c, if_neg c]; rfl
  | true =>
    rw [if_neg nb1]
    by_cases c : w = a
    · rw [if_pos c, if_pos c]; rfl
    · rw [if_neg c, if_neg c]; rfl
theorem m_two1 {a b N : Nat} (ha : a < n) (hb : b < n) (hab : a ≠ b) (hN : N ≤ 30) (hN1 : 1 ≤ N) (Q : QS n s h h') {k x y m : Nat} (hk : k = 2 * x + y) (hx : x < 2) (hy : y < 2) : ∃ h1', f_X12_two_b61 (m + 1) (some 26) (i32 a) (i32 b) (i32 N) (i32 k) h' = (if wv N a x s < wv N a (1 - x) s then f_X12_two_b61 m (some 26) (i32 a) (i32 b) (i32 N) (i32 (k + 1)) h1' else if wv N b y s < wv N b (1 - y) s then f_X12_two_b61 m (some 26) (i32 a) (i32 b) (i32 N) (i32 (k + 1)) h1' else some (i32 (10 * x + y), h1')) ∧ Fm h' h1' := by
  have h7 := Q.h7
  have k4 : k < 4 := by omega
  have e1 : i32 k / 2 = i32 x := by
    have : ∀ k, k < 4 → i32 k / 2 = i32 (k / 2) := by decide +kernel
    rw [this k k4]; congr 1; omega
  have e2 : i32 k - i32 k / 2 * 2 = i32 y := by
    have : ∀ k, k < 4 → i32 k - i32 k / 2 * 2 = i32 (k % 2) := by decide +kernel
    rw [this k k4]; congr 1; omega
  have e3 : (1 : Int32) - i32 x = i32 (1 - x) := by
    have : ∀ x, x < 2 → (1 : Int32) - i32 x = i32 (1 - x) := by decide +kernel
    exact this x hx
  have e4 : (1 : Int32) - i32 y = i32 (1 - y) := by
    have : ∀ x, x < 2 → (1 : Int32) - i32 x = i32 (1 - x) := by decide +kernel
    exact this y hy
  have e5 : (10 : Int32) * i32 x + i32 y = i32 (10 * x + y) := by rw [show (10 : Int32) = i32 10 from rfl, i32_mul, i32_add]
  obtain ⟨g1, a1, a2⟩ := m_hasBy Q (w := a) (x := 1 - x) (y := y) ha hb hab (by omega) hy (Or.inl rfl) hN hN1
  have Q1 : QS n s h g1 := Q.q (Fq.rf h) a2
  obtain ⟨g2, b1, b2⟩ := m_hasBy Q1 (w := a) (x := x) (y := y) ha hb hab hx hy (Or.inl rfl) hN hN1
  have Q2 : QS n s h g2 := Q1.q (Fq.rf h) b2
  obtain ⟨g3, c1, c2⟩ := m_hasBy Q2 (w := b) (x := x) (y := 1 - y) ha hb hab hx (by omega) (Or.inr rfl) hN hN1
  have Q3 : QS n s h g3 := Q2.q (Fq.rf h) c2
  obtain ⟨g4, d1, d2⟩ := m_hasBy Q3 (w := b) (x := x) (y := y) ha hb hab hx hy (Or.inr rfl) hN hN1
  rw [if_pos rfl] at a1 b1
  rw [if_neg (Ne.symm hab)] at c1 d1
  rw [e_X12_two_b61, if_neg (show ¬ (4 : Int32) ≤ i32 k by rw [show (4 : Int32) = i32 4 from rfl, i32_le (by omega) (by omega)]; omega)]
  simp only [nm_eq, e1, e3, e4, cv_ok Q.2.1.1.1, cv_ok Q1.2.1.1.1, cv_ok Q2.2.1.1.1, cv_ok Q3.2.1.1.1, bd_some, i32_s]
  have e2' : i32 k - i32 x * 2 = i32 y := by rw [← e1]; exact e2
  simp only [e2', e4, cv_ok Q.2.1.1.1, a1, bd_some, cv_ok Q1.2.1.1.1, b1, cv_ok Q2.2.1.1.1, c1, cv_ok Q3.2.1.1.1, d1, e5]
  by_cases z : wv N a x s < wv N a (1 - x) s
  · rw [if_pos z]
    exact ⟨g2, by rw [if_pos z], a2.tr b2⟩
  · rw [if_neg z]
    exact ⟨g4, by rw [if_neg z], a2.tr (b2.tr (c2.tr d2))⟩
theorem R_two (Q : QS n s h h') (v1 v2 v3 : Int32) : RR 0 h h' (f_X11_two (some 0) v1 v2 v3 h) (f_X12_two (some 26) v1 v2 v3 h') := by
  unfold f_X11_two f_X12_two
  have W := Q.1.1
  have h7 := Q.h7
  have r0 := Q.2.1.1.2.1
  simp only [cv_ok W.1.1, cv_ok Q.2.1.1.1, c_areTwo Q, (Q.cg v1).2, (Q.cg v2).2, bd_some, bI_0, m_btw, c_in]
  cases e1 : isg n v1 with
  | false => exact RR.mk (-1) (if_pos rfl) (if_pos rfl)
  | true =>
    cases e2 : isg n v2 with
    | false => exact RR.mk (-1) (if_pos rfl) ((if_neg ntf).trans (if_pos rfl))
    | true =>
      rw [if_neg ntf, if_neg ntf]
      by_cases e3 : v1 = v2
      · exact RR.mk (-1) (if_pos (by rw [decide_eq_true e3]; rfl)) (if_pos e3)
      · rw [decide_eq_false e3, if_neg (show ¬ ((true && (true && !false)) = false) by decide), if_neg e3]
        cases e4 : btw v3 1 30 with
        | false => exact RR.mk (-1) (if_pos rfl) (if_pos rfl)
        | true =>
          rw [if_neg ntf, if_neg ntf]
          obtain ⟨a, rfl, ha⟩ := isg_of h7 e1
          obtain ⟨b, rfl, hb⟩ := isg_of h7 e2
          obtain ⟨N, rfl, hN1, hN⟩ := btw_of1 (a := 1) (m := 30) (by omega) (by omega) e4
          have hab : a ≠ b := fun z => e3 (by rw [z])
          simp only [W.o0, sb_some, cv_ok W.2.2.1.1.1.1, k_isIn Q.1.2.1 Q.1.2.2 ha, k_isIn Q.1.2.1 Q.1.2.2 hb, bd_some, Q.2.1.o0, m_isHere r0 (show a < 7 by omega), m_isHere r0 (show b < 7 by omega), Q.2.2.1, cv_ok W.1.1]
          show RR 0 h h' (if bI (inP s a) = 0 then _ else if bI (inP s b) = 0 then _ else _) (if bI (inP s a) = 0 then _ else if bI (inP s b) = 0 then _ else _)
          cases ia : inP s a with
          | false => exact RR.mk (-3) (if_pos pb0) (if_pos pb0)
          | true =>
            rw [if_neg nb1, if_neg nb1]
            cases ib : inP s b with
            | false => exact RR.mk (-3) (if_pos pb0) (if_pos pb0)
            | true =>
              rw [if_neg nb1, if_neg nb1]
              obtain ⟨g1, a1, a2⟩ := c_worth Q (x := 0) ha hN hN1 (Or.inl rfl)
              have Q1 : QS n s g1 h' := Q.q a2 (Fm.rf h')
              obtain ⟨g2, b1, b2⟩ := c_worth Q1 (x := 1) ha hN hN1 (Or.inr rfl)
              have Q2 : QS n s g2 h' := Q1.q b2 (Fm.rf h')
              obtain ⟨g3, c1, c2⟩ := c_worth Q2 (x := 0) hb hN hN1 (Or.inl rfl)
              have Q3 : QS n s g3 h' := Q2.q c2 (Fm.rf h')
              obtain ⟨g4, d1, d2⟩ := c_worth Q3 (x := 1) hb hN hN1 (Or.inr rfl)
              have a1' : f_X11_worthOfChoice (some 0) (i32 a) 0 (i32 N) h = some (wv N a 0 s, g1) := a1
              have b1' : f_X11_worthOfChoice (some 0) (i32 a) 1 (i32 N) g1 = some (wv N a 1 s, g2) := b1
              have c1' : f_X11_worthOfChoice (some 0) (i32 b) 0 (i32 N) g2 = some (wv N b 0 s, g3) := c1
              have d1' : f_X11_worthOfChoice (some 0) (i32 b) 1 (i32 N) g3 = some (wv N b 1 s, g4) := d1
              have F4 : Fq 0 h g4 := a2.tr0 (b2.tr0 (c2.tr0 d2))
              simp only [a1', bd_some, cv_ok Q1.1.1.1.1, b1', cv_ok Q2.1.1.1.1, c1', cv_ok Q3.1.1.1.1, d1']
              obtain ⟨m0, em⟩ : ∃ m0, FU = m0 + 1 + 1 + 1 + 1 := ⟨1048572, rfl⟩
              rw [em]
              obtain ⟨q1, r1, t1⟩ := m_two1 (m := m0 + 1 + 1 + 1) ha hb hab hN hN1 Q (k := 0) (x := 0) (y := 0) rfl (by omega) (by omega)
              have Q5 : QS n s h q1 := Q.q (Fq.rf h) t1
              obtain ⟨q2, r2, t2⟩ := m_two1 (m := m0 + 1 + 1) ha hb hab hN hN1 Q5 (k := 1) (x := 0) (y := 1) rfl (by omega) (by omega)
              have Q6 : QS n s h q2 := Q5.q (Fq.rf h) t2
              obtain ⟨q3, r3, t3⟩ := m_two1 (m := m0 + 1) ha hb hab hN hN1 Q6 (k := 2) (x := 1) (y := 0) rfl (by omega) (by omega)
              have Q7 : QS n s h q3 := Q6.q (Fq.rf h) t3
              obtain ⟨q4, r4, t4⟩ := m_two1 (m := m0) ha hb hab hN hN1 Q7 (k := 3) (x := 1) (y := 1) rfl (by omega) (by omega)
              have lt_asymm : ∀ {x y : Int32}, x < y → ¬ y < x := fun p q => absurd (Int32.lt_of_lt_of_le p (Int32.le_of_lt q)) Int32.lt_irrefl
              unfold f_X11_two_b95 f_X11_two_b109
              refine RR.tr0 F4 (Fm.rf h') ?_
              show RR 0 g4 h' _ (f_X12_two_b61 (m0 + 1 + 1 + 1 + 1) (some 26) (i32 a) (i32 b) (i32 N) (i32 0) h')
              rw [r1]
              by_cases zA : wv N a 0 s < wv N a 1 s
              · rw [if_pos zA, if_pos zA, r2, if_pos zA, r3, if_neg (lt_asymm zA)]
                by_cases zB : wv N b 0 s < wv N b 1 s
                · rw [if_pos zB, if_pos zB, r4, if_neg (lt_asymm zA), if_neg (lt_asymm zB)]
                  exact RR.mk2 11 (Fq.rf _) (t1.tr (t2.tr (t3.tr t4))) rfl rfl
                · rw [if_neg zB, if_neg zB]
                  exact RR.mk2 10 (Fq.rf _) (t1.tr (t2.tr t3)) rfl rfl
              · rw [if_neg zA, if_neg zA]
                by_cases zB : wv N b 0 s < wv N b 1 s
                · rw [if_pos zB, if_pos zB, r2, if_neg zA, if_neg (lt_asymm zB)]
                  exact RR.mk2 1 (Fq.rf _) (t1.tr t2) rfl rfl
                · rw [if_neg zB, if_neg zB]
                  exact RR.mk2 0 (Fq.rf _) t1 rfl rfl
end TWO
