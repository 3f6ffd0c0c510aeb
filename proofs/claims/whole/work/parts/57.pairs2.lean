/-! PAIRS: both -/
section PAIR2
variable {n : Nat} {s : R54} {h h' : AH}
/-- is b the partner of a in S -/
def ptP (V T : Nat → Int32) (a S b : Nat) : Bool := (rm S a).testBit b && decide (0 ≤ V (7 * a + b)) && decide (V (7 * a + b) + T (rm (rm S a) b) = T S)
def ptn (V T : Nat → Int32) (a S : Nat) : Int32 := srch (ptP V T a S) (a + 1) (6 - a)
theorem srch_vals (p : Nat → Bool) : ∀ (k i : Nat), srch p i k = -4 ∨ ∃ b, i ≤ b ∧ b < i + k ∧ p b = true ∧ srch p i k = i32 b
  | 0, _ => Or.inl rfl
  | k + 1, i => by
    rw [srch_s]
    cases e : p i with
    | true => exact Or.inr ⟨i, Nat.le_refl i, by omega, e, rfl⟩
    | false =>
      rw [if_neg Bool.false_ne_true]
      rcases srch_vals p k (i + 1) with y | ⟨b, b1, b2, b3, b4⟩
      · exact Or.inl y
      · exact Or.inr ⟨b, by omega, by omega, b3, b4⟩
theorem c_ptn18 (W : Wc h) {a S : Nat} (hS : S < 128) (ha : a < 7) : ∀ (k m b : Nat), k < m → b + k = 7 → f_X11_partnerOfLowest_b18 m (some 0) (i32 S) (i32 a) (i32 (rm S a)) (i32 b) h = some (srch (ptP (aI h 24) (aI h 25) a S) b k, h) := by
  intro k
  induction k with
  | zero =>
    intro m b hm hb
    obtain ⟨m, rfl⟩ := succ_of hm
    rw [e_X11_partnerOfLowest_b18, show b = 7 by omega]
    exact if_pos (by decide)
  | succ k ih =>
    intro m b hm hb
    obtain ⟨m, rfl⟩ := succ_of hm
    rw [e_X11_partnerOfLowest_b18, if_neg (show ¬ (7 : Int32) ≤ i32 b by rw [show (7 : Int32) = i32 7 from rfl, i32_le (by omega) (by omega)]; omega), cv_ok W.1.1, c_canPair W ha (show b < 7 by omega) (rm_128 hS), bd_some, srch_s]
    unfold ptP
    cases (rm S a).testBit b && decide (0 ≤ aI h 24 (7 * a + b)) with
    | false =>
      rw [if_pos pb0, i32_s, ih m (b + 1) (by omega) (by omega), Bool.false_and, if_neg Bool.false_ne_true]
      rfl
    | true =>
      rw [if_neg nb1, cv_ok W.1.1, c_goneWith W ha (show b < 7 by omega) (rm_128 hS), bd_some, W.o7, sb_some, iA_ok W.1.2.2.2.2 hS (by omega), sb_some, Bool.true_and]
      by_cases c : aI h 24 (7 * a + b) + aI h 25 (rm (rm S a) b) = aI h 25 S
      · rw [if_pos c, decide_eq_true c, if_pos rfl]
      · rw [if_neg c, decide_eq_false c, if_neg Bool.false_ne_true, i32_s, ih m (b + 1) (by omega) (by omega)]
        rfl
theorem c_ptn (W : Wc h) {a S : Nat} (hS : S < 128) (h7 : a < 7) (ha : S.testBit a = true) (hl : ∀ j, j < a → S.testBit j = false) : f_X11_partnerOfLowest (some 0) (i32 S) h = some (ptn (aI h 24) (aI h 25) a S, h) := by
  unfold f_X11_partnerOfLowest ptn
  rw [c_low hS h7 ha hl, bd_some, nm_eq, nm_eq, rm_i hS h7, i32_s]
  exact c_ptn18 W hS h7 (6 - a) FU (a + 1) (fu_pos (by omega)) (by omega)
theorem m_ptn9 (M : Wm h') (hn : aI h' 27 0 = i32 n) (h7 : n ≤ 7) {a S : Nat} (hS : S < 128) (ha : a < 7) : ∀ (k m b : Nat), k < m → b + k = n → a < b → f_X12_partnerOf_b9 m (some 26) (i32 S) (i32 a) (i32 b) h' = some (srch (ptP (aI h' 32) (aI h' 33) a S) b k, h') := by
  intro k
  induction k with
  | zero =>
    intro m b hm hb hab
    obtain ⟨m, rfl⟩ := succ_of hm
    have z : i32 n ≤ i32 b := by rw [i32_le (by omega) (by omega)]; omega
    rw [e_X12_partnerOf_b9, M.o0, sb_some, show iA h' (some 27) 0 = some (aI h' 27 0) from r54 0 (by omega) M.1.2.1, sb_some, hn, if_pos z]
    rfl
  | succ k ih =>
    intro m b hm hb hab
    obtain ⟨m, rfl⟩ := succ_of hm
    have z : ¬ i32 n ≤ i32 b := by rw [i32_le (by omega) (by omega)]; omega
    have hR := rm_128 (b := b) (rm_128 (b := a) hS)
    rw [e_X12_partnerOf_b9, M.o0, sb_some, show iA h' (some 27) 0 = some (aI h' 27 0) from r54 0 (by omega) M.1.2.1, sb_some, hn, if_neg z, m_hasS hS (show b < 7 by omega), bd_some, srch_s]
    unfold ptP f_X12_partnerOf_b42
    rw [rm_bit, decide_eq_false (show ¬ a = b by omega), Bool.not_false, Bool.and_true]
    cases S.testBit b with
    | false =>
      rw [if_pos pb0, if_pos (show (-1 : Int32) < 0 by decide), i32_s, ih m (b + 1) (by omega) (by omega) (by omega), Bool.false_and, Bool.false_and, if_neg Bool.false_ne_true]
      rfl
    | true =>
      simp only [if_neg nb1, M.o9, M.o10, sb_some, ix7', iA_ok M.2.1.2.1 (show 7 * a + b < 49 by omega) (show 49 ≤ 1000 by omega), rm_ii hS (show a < 7 by omega) (show b < 7 by omega), iA_ok M.2.1.2.2 hR (show 128 ≤ 1000 by omega), iA_ok M.2.1.2.2 hS (show 128 ≤ 1000 by omega), i32_s, Bool.true_and]
      by_cases c : aI h' 32 (7 * a + b) < 0
      · rw [if_pos c, decide_eq_false (Int32.not_le.mpr c), Bool.false_and, if_neg Bool.false_ne_true, ih m (b + 1) (by omega) (by omega) (by omega)]
        rfl
      · rw [if_neg c, decide_eq_true (Int32.not_lt.mp c), Bool.true_and]
        by_cases d : aI h' 32 (7 * a + b) + aI h' 33 (rm (rm S a) b) = aI h' 33 S
        · rw [if_pos d, decide_eq_true d, if_pos rfl]
        · rw [if_neg d, decide_eq_false d, if_neg Bool.false_ne_true, ih m (b + 1) (by omega) (by omega) (by omega)]
          rfl
theorem m_ptn (M : Wm h') (hn : aI h' 27 0 = i32 n) (h7 : n ≤ 7) {a S : Nat} (hS : S < 128) (hs : sub S (inN n s)) (h7a : a < 7) (ha : S.testBit a = true) (hl : ∀ j, j < a → S.testBit j = false) : f_X12_partnerOf (some 26) (i32 S) h' = some (ptn (aI h' 32) (aI h' 33) a S, h') := by
  have han := (inN_i (hs a h7a ha)).1
  unfold f_X12_partnerOf ptn
  rw [m_least hS h7a ha hl, bd_some, nm_eq, i32_s, m_ptn9 M hn h7 hS h7a (n - (a + 1)) FU (a + 1) (fu_pos (by omega)) (by omega) (by omega), show 6 - a = (n - (a + 1)) + (7 - n) by omega, srch_cut]
  intro j j1 j2
  unfold ptP
  have : (rm S a).testBit j = false := by
    rw [rm_bit]
    cases y : S.testBit j with
    | false => rfl
    | true =>
      have := (inN_i (hs j (by omega) y)).1
      omega
  rw [this]
  rfl
theorem ptn_eq {V V2 T T2 : Nat → Int32} {a S lim : Nat} (hV : okX n s V) (hV2 : okX n s V2) (hT : okT V T (inN n s) lim) (hT2 : okT V2 T2 (inN n s) 128) (h7 : a < 7) (ha : S.testBit a = true) (hS : S < 128) (hS2 : S < lim) (hs : sub S (inN n s)) : ptn V T a S = ptn V2 T2 a S := by
  have pa := hs a h7 ha
  have r1 := rm_lt hS h7 ha
  have te : ∀ U, U ≤ S → sub U (inN n s) → T U = T2 U := fun U h1 h2 => okT_eq hV hV2 hT hT2 U U (Nat.le_refl U) (by omega) (by omega) (by omega) h2
  unfold ptn
  refine srch_congr (6 - a) (a + 1) fun b b1 b2 => ?_
  unfold ptP
  cases c : (rm S a).testBit b with
  | false => rfl
  | true =>
    have pb : inN n s b = true := hs.rm b (by omega) c
    have r2 := rm_lt (rm_128 hS) (show b < 7 by omega) c
    rw [hV a b (by omega) (inN_i pb).1 (inN_i pa).2 (inN_i pb).2, hV2 a b (by omega) (inN_i pb).1 (inN_i pa).2 (inN_i pb).2, te (rm (rm S a) b) (by omega) hs.rm.rm, te S (Nat.le_refl S) hs]
theorem R_ptn (W : Wc h) (M : Wm h') (hn : aI h' 27 0 = i32 n) (h7 : n ≤ 7) {lim g : Nat} (hV : okX n s (aI h 24)) (hV2 : okX n s (aI h' 32)) (hT : okT (aI h 24) (aI h 25) (inN n s) lim) (hT2 : okT (aI h' 32) (aI h' 33) (inN n s) 128) : ∀ (k m m' i S : Nat), k < m → k < m' → i + k = 7 → S < 128 → S < lim → sub S (inN n s) → (∀ j, j < i → S.testBit j = false) → RR 0 h h' (f_X11_partnerOf_b10 m (some 0) (i32 g) (i32 S) (i32 i) h) (f_X12_pairs_b38 m' (some 26) (i32 g) (i32 S) h') := by
  intro k
  induction k with
  | zero =>
    intro m m' i S hm hm' hi hS hS2 hs hl
    obtain ⟨m, rfl⟩ := succ_of hm
    obtain ⟨m', rfl⟩ := succ_of hm'
    have : S = 0 := nat_ext (m := 7) hS (by decide) fun g hg => by rw [hl g (by omega), Nat.zero_testBit]
    subst this
    rw [e_X11_partnerOf_b10, e_X12_pairs_b38, if_pos (show (7 : Int32) ≤ i32 i by rw [show (7 : Int32) = i32 7 from rfl, i32_le (by omega) (by omega)]; omega)]
    exact RR.mk (-4) rfl (if_pos rfl)
  | succ k ih =>
    intro m m' i S hm hm' hi hS hS2 hs hl
    obtain ⟨m, rfl⟩ := succ_of hm
    obtain ⟨m', rfl⟩ := succ_of hm'
    rw [e_X11_partnerOf_b10, e_X12_pairs_b38, if_neg (show ¬ (7 : Int32) ≤ i32 i by rw [show (7 : Int32) = i32 7 from rfl, i32_le (by omega) (by omega)]; omega)]
    by_cases z : S = 0
    · subst z
      exact RR.mk (-4) (if_pos rfl) (if_pos rfl)
    · have nz : ¬ i32 S = 0 := by rw [i32_0 (by omega)]; exact z
      obtain ⟨a, a1, a2, a3⟩ := low_of z hS
      have hia : i ≤ a := Nat.le_of_not_lt fun y => by rw [hl a y] at a2; cases a2
      have r1 := rm_lt hS a1 a2
      rw [if_neg nz, if_neg nz, c_low hS a1 a2 a3, m_least hS a1 a2 a3, bd_some, bd_some, cv_ok W.1.1, cv_ok M.1.1, c_ptn W hS a1 a2 a3, m_ptn M hn h7 hS hs a1 a2 a3, bd_some, bd_some, ← ptn_eq hV hV2 hT hT2 a1 a2 hS hS2 hs]
      have v := srch_vals (ptP (aI h 24) (aI h 25) a S) (6 - a) (a + 1)
      change ptn (aI h 24) (aI h 25) a S = -4 ∨ ∃ b, a + 1 ≤ b ∧ b < a + 1 + (6 - a) ∧ _ ∧ ptn (aI h 24) (aI h 25) a S = i32 b at v
      by_cases c : i32 a = i32 g
      · rw [if_pos c, if_pos c]
        exact RR.mk _ rfl rfl
      · rw [if_neg c, if_neg c]
        by_cases d : ptn (aI h 24) (aI h 25) a S = i32 g
        · rw [if_pos d, if_pos d]
          exact RR.mk _ rfl rfl
        · rw [if_neg d, if_neg d, nm_eq, nm_eq, nm_eq, nm_eq, rm_i hS a1, i32_s]
          rcases v with v | ⟨b, b1, b2, b3, v⟩
          · rw [v, if_pos (show (-4 : Int32) < 0 by decide), if_neg (show ¬ (0 : Int32) ≤ -4 by decide)]
            refine ih m m' (i + 1) (rm S a) (by omega) (by omega) (by omega) (rm_128 hS) (by omega) hs.rm fun j hj => ?_
            rw [rm_bit]
            by_cases e : a = j
            · rw [decide_eq_true e, Bool.not_true, Bool.and_false]
            · rw [a3 j (by omega), Bool.false_and]
          · have b7 : b < 7 := by omega
            have cb : (rm S a).testBit b = true := by
              unfold ptP at b3
              rw [Bool.and_eq_true, Bool.and_eq_true] at b3
              exact b3.1.1
            have r2 := rm_lt (rm_128 hS) b7 cb
            rw [v, if_neg (i32_nn (by omega)), if_pos (Int32.not_lt.mp (i32_nn (show b < 2147483648 by omega))), rm_i (rm_128 hS) b7, rm_2 S hS a a1 b b7]
            refine ih m m' (i + 1) (rm (rm S a) b) (by omega) (by omega) (by omega) (rm_128 (rm_128 hS)) (by omega) hs.rm.rm fun j hj => ?_
            rw [rm_bit, rm_bit]
            by_cases e : a = j
            · rw [decide_eq_true e, Bool.not_true, Bool.and_false, Bool.false_and]
            · rw [a3 j (by omega), Bool.false_and, Bool.false_and]
theorem R_pairs (Q : QS n s h h') (v : Int32) : RR 0 h h' (f_X11_pairs (some 0) v h) (f_X12_pairs (some 26) v h') := by
  have h7 := Q.h7
  have W := Q.1.1
  have M := Q.2.1
  obtain ⟨h1, a1, Qa, F1, G1, T1⟩ := c_plan Q
  obtain ⟨h2, b1, Qb, F2, V2, T2⟩ := m_matches Q
  have Q2 : QS n s h1 h2 := Q.q F1 F2
  have V1 : okX n s (aI h1 24) := fun a b x1 x2 _ _ => G1 a b (by omega) x1 x2
  have I7 := cd_128 (inP s) h7
  have sb : sub (cd n (inP s)) (inN n s) := fun j hj e => by
    rw [cd_bit _ n (by omega) j (by omega)] at e
    exact e
  have eI : aI h1 25 (cd n (inP s)) = aI h2 33 (cd n (inP s)) := okT_eq V1 V2 T1 T2 _ _ (Nat.le_refl _) (by omega) (by omega) (by omega) sb
  have hc : sI n s = i32 (cd n (inP s)) := sI_cd h7 Q.1.2.2.1.2.2
  have all : RR 0 h h' (f_X11_pairs_b18 (some 0) (-1) h) (f_X12_pairs_b15 (some 26) (-1) h') := by
    unfold f_X11_pairs_b18 f_X12_pairs_b15
    rw [cv_ok W.1.1, a1, bd_some, if_pos rfl, Q2.1.1.o7, sb_some, Q2.1.1.o0, sb_some, gI_1 Q2.1.2.1.1.1.1, sb_some, Q2.1.2.1.2.1.2.1, hc, iA_ok Q2.1.1.1.2.2.2.2 I7 (by omega), sb_some, cv_ok M.1.1, b1, bd_some, Q2.2.1.o0, sb_some, m_hereIn Q2.2.1.1.2.1 Q2.n0 h7, bd_some, Q2.2.2.1, hc, if_neg (show ¬ (0 : Int32) ≤ -1 by decide), Q2.2.1.o10, sb_some, iA_ok Q2.2.1.2.1.2.2 I7 (by omega), sb_some, eI]
    exact RR.mk2 _ F1 F2 rfl rfl
  unfold f_X11_pairs f_X12_pairs
  by_cases z : v = -1
  · subst z
    rw [if_pos rfl, if_pos rfl]
    exact all
  · rw [if_neg z, if_neg z, W.o0, sb_some, cv_ok W.2.2.1.1.1.1, (Q.cg v).1, bd_some, cv_ok M.1.1, (Q.cg v).2, bd_some]
    cases e : isg n v with
    | false => exact RR.mk (-1) (if_pos pb0) (if_pos pb0)
    | true =>
      rw [if_neg nb1, if_neg nb1]
      obtain ⟨g, rfl, hg⟩ := isg_of h7 e
      unfold f_X11_pairs_b18 f_X12_pairs_b15
      rw [cv_ok W.1.1, a1, bd_some, if_neg z, cv_ok Q2.1.1.1.1, cv_ok M.1.1, b1, bd_some, Q2.2.1.o0, sb_some, m_hereIn Q2.2.1.1.2.1 Q2.n0 h7, bd_some, Q2.2.2.1, hc, if_pos (Int32.not_lt.mp (i32_nn (show g < 2147483648 by omega)))]
      unfold f_X11_partnerOf
      rw [Q2.1.1.o0, sb_some, gI_1 Q2.1.2.1.1.1.1, sb_some, Q2.1.2.1.2.1.2.1, hc]
      obtain ⟨r, g1, g2, e1, e2, E1, E2⟩ := R_ptn (h := h1) (h' := h2) (g := g) Q2.1.1 Q2.2.1 Q2.n0 h7 V1 V2 T1 T2 7 FU FU 0 (cd n (inP s)) (fu_pos (by omega)) (fu_pos (by omega)) (by omega) I7 (by omega) sb (fun j hj => absurd hj (Nat.not_lt_zero j))
      rw [show (0 : Int32) = i32 0 from rfl, e1, e2, bd_some]
      exact RR.mk2 r (F1.tr0 E1) (F2.tr E2) rfl rfl
end PAIR2
