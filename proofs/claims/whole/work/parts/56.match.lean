/-! PAIRS: the reference -/
theorem mmax_le (x y : Int32) : (if x ≤ y then y else x) = mmax x y := by
  unfold mmax
  by_cases c : x < y
  · rw [if_pos c, if_pos (Int32.le_of_lt c)]
  · rw [if_neg c]
    by_cases d : x ≤ y
    · rw [if_pos d]
      rcases Int32.lt_or_eq_of_le d with e | e
      · exact absurd e c
      · exact e.symm
    · rw [if_neg d]
theorem fld_add {β : Type} (f : Nat → β → β) : ∀ (k l i : Nat) (a : β), fld f i (k + l) a = fld f (i + k) l (fld f i k a)
  | 0, l, i, a => by rw [Nat.zero_add]; rfl
  | k + 1, l, i, a => by
    rw [show k + 1 + l = (k + l) + 1 by omega, fld_s, fld_add f k l (i + 1) _, fld_s, show i + 1 + k = i + (k + 1) by omega]
theorem fld_idl {β : Type} {f : Nat → β → β} : ∀ (k i : Nat) (a : β), (∀ j b, i ≤ j → j < i + k → f j b = b) → fld f i k a = a
  | 0, _, _, _ => rfl
  | k + 1, i, a, H => by
    rw [fld_s, H i a (Nat.le_refl i) (by omega)]
    exact fld_idl k (i + 1) a fun j b h1 h2 => H j b (by omega) (by omega)
theorem srch_none {p : Nat → Bool} : ∀ (k i : Nat), (∀ j, i ≤ j → j < i + k → p j = false) → srch p i k = -4
  | 0, _, _ => rfl
  | k + 1, i, H => by
    rw [srch_s, H i (Nat.le_refl i) (by omega), if_neg Bool.false_ne_true]
    exact srch_none k (i + 1) fun j h1 h2 => H j (by omega) (by omega)
theorem srch_cut {p : Nat → Bool} : ∀ (k l i : Nat), (∀ j, i + k ≤ j → j < i + k + l → p j = false) → srch p i (k + l) = srch p i k
  | 0, l, i, H => by
    rw [Nat.zero_add]
    exact (srch_none l i fun j h1 h2 => H j (by omega) (by omega)).trans rfl
  | k + 1, l, i, H => by
    rw [show k + 1 + l = (k + l) + 1 by omega, srch_s, srch_s]
    rw [srch_cut k l (i + 1) fun j h1 h2 => H j (by omega) (by omega)]
theorem fst_b {S g : Nat} (hS : S < 128) (hg : g < 7) : fst (i32 S) g = S.testBit g := by
  unfold fst
  rw [bt_at S hS g hg]
  cases S.testBit g <;> rfl
theorem m_hasS {h : AH} {S g : Nat} (hS : S < 128) (hg : g < 7) : f_X12_has (i32 S) (i32 g) h = some (bI (S.testBit g), h) := by rw [m_has, fst_b hS hg]
section MATCH
variable {n : Nat} {s : R54} {h h' : AH}
theorem m_leftBy (Q : QS n s h h') {a b : Nat} (ha : a < n) (hb : b < n) (hab : a ≠ b) : ∃ h1', f_X12_leftBy (some 26) (i32 a) (i32 b) 5 h' = some (lf n s a b, h1') ∧ Fm h' h1' ∧ aI h1' 32 = aI h' 32 ∧ aI h1' 33 = aI h' 33 := by
  have h7 := Q.h7
  have M := Q.2.1
  have cp := Q.mind.2.1
  have W1 : ∀ q, Wm (wI h' 28 q) := fun _ => M
  have e0 : lnd a b 5 s 0 = i32 n := by rw [lnd_0]; exact Q.1.2.2.1.1
  have hne : (i32 a = i32 b) = False := eq_false (fun e => hab (by rwa [i32_eq (by omega) (by omega)] at e))
  unfold f_X12_leftBy lf
  simp only [M.o0, M.o1, sb_some, cp, bd_some, if_neg (show ¬ (5 : Int32) ≤ 0 by decide), (W1 s).o1, m_canLend (W1 s).1.2.2.1 (show a < 7 by omega) (show b < 7 by omega), aI_eq]
  cases e : cl a b 5 s with
  | false =>
    rw [if_pos pb0]
    exact ⟨_, rfl, Fm.w28 Q.2.2.2.sy, aI_ne (by omega), aI_ne (by omega)⟩
  | true =>
    rw [if_neg nb1, m_lendsIn (W1 s).1.2.2.1 (show a < 7 by omega) (show b < 7 by omega), aI_eq, bd_some, wI_wI]
    refine ⟨wI h' 28 (dayM n 0 (lnd a b 5 s)), ?_, Fm.w28 ((hi_dayM (hi_lnd (hi.rf s) (by omega) (by omega)) h7).tr Q.2.2.2.sy), aI_ne (by omega), aI_ne (by omega)⟩
    unfold f_X12_leftBy_b40 f_X12_leftBy_b64
    simp only [(W1 _).o1, sb_some, m_day (W1 (lnd a b 5 s)).1.2.2.1 (show aI (wI h' 28 (lnd a b 5 s)) 28 0 = i32 n by rw [aI_eq]; exact e0) h7, aI_eq, bd_some, wI_wI, m_isHere (W1 _).1.2.2.1 (show a < 7 by omega), m_isHere (W1 _).1.2.2.1 (show b < 7 by omega), hne, if_false]
    show (if bI (inP (dayM n 0 (lnd a b 5 s)) a) = 0 then (if bI (inP (dayM n 0 (lnd a b 5 s)) b) = 0 then _ else _) else (if bI (inP (dayM n 0 (lnd a b 5 s)) b) = 0 then _ else _)) = _
    cases inP (dayM n 0 (lnd a b 5 s)) a with
    | false =>
      rw [if_pos pb0]
      cases inP (dayM n 0 (lnd a b 5 s)) b with
      | false => rw [if_pos pb0]; rfl
      | true => rw [if_neg nb1]; rfl
    | true =>
      rw [if_neg nb1]
      cases inP (dayM n 0 (lnd a b 5 s)) b with
      | false => rw [if_pos pb0]; rfl
      | true => rw [if_neg nb1]; rfl
theorem m_leftBy0 (Q : QS n s h h') {a : Nat} (ha : a < n) (hin : inP s a = true) : ∃ h1', f_X12_leftBy (some 26) (i32 a) (i32 a) 0 h' = some (gv n s a a, h1') ∧ Fm h' h1' ∧ aI h1' 32 = aI h' 32 ∧ aI h1' 33 = aI h' 33 := by
  have h7 := Q.h7
  have M := Q.2.1
  have cp := Q.mind.2.1
  have W1 : ∀ q, Wm (wI h' 28 q) := fun _ => M
  have e0 : s 0 = i32 n := Q.1.2.2.1.1
  unfold f_X12_leftBy gv
  refine ⟨wI h' 28 (dayM n 0 s), ?_, Fm.w28 ((hi_dayM (hi.rf s) h7).tr Q.2.2.2.sy), aI_ne (by omega), aI_ne (by omega)⟩
  simp only [M.o0, M.o1, sb_some, cp, bd_some, if_pos (show (0 : Int32) ≤ 0 by decide), hin, Bool.true_and, if_true]
  unfold f_X12_leftBy_b40 f_X12_leftBy_b64
  simp only [(W1 _).o1, sb_some, m_day (W1 s).1.2.2.1 (show aI (wI h' 28 s) 28 0 = i32 n by rw [aI_eq]; exact e0) h7, aI_eq, bd_some, wI_wI, m_isHere (W1 _).1.2.2.1 (show a < 7 by omega), if_true]
  show (if bI (inP (dayM n 0 s) a) = 0 then _ else _) = _
  cases inP (dayM n 0 s) a with
  | false => rw [if_pos pb0]; rfl
  | true => rw [if_neg nb1]; rfl
theorem m_pairOf (Q : QS n s h h') {a b : Nat} (ha : a < n) (hb : b < n) (hab : a ≠ b) : ∃ h1', f_X12_pairOf (some 26) (i32 a) (i32 b) h' = some (gv n s a b, h1') ∧ Fm h' h1' ∧ aI h1' 32 = aI h' 32 ∧ aI h1' 33 = aI h' 33 := by
  obtain ⟨h1, a1, a2, a3, a4⟩ := m_leftBy Q ha hb hab
  have Q1 : QS n s h h1 := Q.q (Fq.rf h) a2
  obtain ⟨h2, b1, b2, b3, b4⟩ := m_leftBy Q1 hb ha (Ne.symm hab)
  refine ⟨h2, ?_, a2.tr b2, b3.trans a3, b4.trans a4⟩
  unfold f_X12_pairOf gv
  rw [cv_ok Q.2.1.1.1, a1, bd_some, cv_ok Q1.2.1.1.1, b1, bd_some, if_neg hab, ← mmax_le]
  split <;> rfl
/-- the pairs' table of the reference -/
def okH (n : Nat) (s : R54) (G : Nat → Int32) (lim : Nat) : Prop := ∀ a b, a < lim → a ≤ b → b < n → inP s a = true → inP s b = true → G (7 * a + b) = gv n s a b
theorem m_row (hS : ∀ g, g < 7 → (cd n (inP s)).testBit g = (decide (g < n) && inP s g)) {a : Nat} (ha : a < n) (K : Option Nat → Int32 → Int32 → AH → Option (Unit × AH)) : ∀ (k m b : Nat) (h' : AH), QS n s h h' → k < m → b + k = n → ∃ h1, f_X12_matches_b22 K m (some 26) (i32 (cd n (inP s))) (i32 a) (i32 b) h' = K (some 26) (i32 (cd n (inP s))) (i32 (a + 1)) h1 ∧ QS n s h h1 ∧ Fm h' h1 ∧ aI h1 33 = aI h' 33 ∧ (∀ j, (∀ c, b ≤ c → c < n → j ≠ 7 * a + c) → aI h1 32 j = aI h' 32 j) ∧ ∀ c, b ≤ c → c < n → inP s a = true → inP s c = true → aI h1 32 (7 * a + c) = gv n s a c := by
  intro k
  induction k with
  | zero =>
    intro m b h' Q hm hb
    obtain ⟨m, rfl⟩ := succ_of hm
    have h7 := Q.h7
    have z : i32 n ≤ i32 b := by rw [i32_le (by omega) (by omega)]; omega
    rw [e_X12_matches_b22, Q.2.1.o0, sb_some, show (0 : Int32) = i32 0 from rfl, r54 0 (by omega) Q.2.1.1.2.1, sb_some, Q.n0, if_pos z, i32_s]
    exact ⟨h', rfl, Q, Fm.rf h', rfl, fun j _ => rfl, fun c c1 c2 => by omega⟩
  | succ k ih =>
    intro m b h' Q hm hb
    obtain ⟨m, rfl⟩ := succ_of hm
    have h7 := Q.h7
    have M := Q.2.1
    have hbn : b < n := by omega
    have z : ¬ i32 n ≤ i32 b := by rw [i32_le (by omega) (by omega)]; omega
    have hl := cd_128 (inP s) h7
    have fin : ∀ (h2 : AH) (v : Int32), QS n s h h2 → Fm h' h2 → aI h2 32 = aI h' 32 → aI h2 33 = aI h' 33 → (inP s a = true → inP s b = true → v = gv n s a b) → ∃ h1, f_X12_matches_b22 K m (some 26) (i32 (cd n (inP s))) (i32 a) (i32 (b + 1)) (wI h2 32 (va_up (aI h2 32) (7 * a + b) v)) = K (some 26) (i32 (cd n (inP s))) (i32 (a + 1)) h1 ∧ QS n s h h1 ∧ Fm h' h1 ∧ aI h1 33 = aI h' 33 ∧ (∀ j, (∀ c, b ≤ c → c < n → j ≠ 7 * a + c) → aI h1 32 j = aI h' 32 j) ∧ ∀ c, b ≤ c → c < n → inP s a = true → inP s c = true → aI h1 32 (7 * a + c) = gv n s a c := by
      intro h2 v Q2 F2 e1 e2 hv
      have F3 : Fm h2 (wI h2 32 (va_up (aI h2 32) (7 * a + b) v)) := Fm.w32
      obtain ⟨h4, c1, c2, c3, c4, c5, c6⟩ := ih m (b + 1) _ (Q2.q (Fq.rf h) F3) (by omega) (by omega)
      refine ⟨h4, c1, c2, F2.tr (F3.tr c3), c4.trans ((aI_ne (by omega)).trans e2), fun j hj => ?_, fun c d1 d2 d3 d4 => ?_⟩
      · rw [c5 j (fun c d1 d2 => hj c (by omega) d2), aI_eq, up_ne (hj b (Nat.le_refl b) hbn), e1]
      · by_cases y : c = b
        · subst y
          rw [c5 _ (fun c d1 d2 => by omega), aI_eq, up_eq]
          exact hv d3 d4
        · exact c6 c (by omega) d2 d3 d4
    have ix : 7 * a + b < 49 := by omega
    rw [e_X12_matches_b22, M.o0, sb_some, show (0 : Int32) = i32 0 from rfl, r54 0 (by omega) M.1.2.1, sb_some, Q.n0, if_neg z, M.o9, sb_some, m_hasS hl (show a < 7 by omega), bd_some, hS a (by omega), decide_eq_true ha, Bool.true_and]
    cases ia : inP s a with
    | false =>
      rw [ia] at fin
      rw [if_pos (show bI false = i32 0 from rfl), f_X12_matches_b58, ix7', iS_ok M.2.1.2.1 ix (by omega), sb_some, i32_s]
      exact fin h' (-1) Q (Fm.rf h') rfl rfl (fun y => absurd y Bool.false_ne_true)
    | true =>
      rw [ia] at fin
      rw [if_neg (show ¬ bI true = i32 0 by decide), m_hasS hl (show b < 7 by omega), bd_some, hS b (by omega), decide_eq_true hbn, Bool.true_and]
      cases ib : inP s b with
      | false =>
        rw [ib] at fin
        rw [if_pos (show bI false = i32 0 from rfl), f_X12_matches_b58, ix7', iS_ok M.2.1.2.1 ix (by omega), sb_some, i32_s]
        exact fin h' (-1) Q (Fm.rf h') rfl rfl (fun _ y => absurd y Bool.false_ne_true)
      | true =>
        rw [if_neg (show ¬ bI true = i32 0 by decide), cv_ok M.1.1, cv_ok M.1.1]
        by_cases e : a = b
        · subst e
          obtain ⟨h2, a1, a2, a3, a4⟩ := m_leftBy0 Q ha ia
          have Q2 : QS n s h h2 := Q.q (Fq.rf h) a2
          rw [if_pos rfl, show i32 0 = 0 from rfl, a1, bd_some, ix7', iS_ok Q2.2.1.2.1.2.1 ix (by omega), sb_some, i32_s]
          exact fin h2 _ Q2 a2 a3 a4 (fun _ _ => rfl)
        · obtain ⟨h2, a1, a2, a3, a4⟩ := m_pairOf Q ha hbn e
          have Q2 : QS n s h h2 := Q.q (Fq.rf h) a2
          rw [if_neg (show ¬ i32 a = i32 b by rw [i32_eq (by omega) (by omega)]; exact e), a1, bd_some, ix7', iS_ok Q2.2.1.2.1.2.1 ix (by omega), sb_some, i32_s]
          exact fin h2 _ Q2 a2 a3 a4 (fun _ _ => rfl)
theorem m_rows (hS : ∀ g, g < 7 → (cd n (inP s)).testBit g = (decide (g < n) && inP s g)) : ∀ (k m a : Nat) (h' : AH), QS n s h h' → okH n s (aI h' 32) a → k < m → a + k = n → ∃ h1, f_X12_matches_b10 m (some 26) (i32 (cd n (inP s))) (i32 a) h' = f_X12_matches_b98 FU (some 26) 0 h1 ∧ QS n s h h1 ∧ Fm h' h1 ∧ okH n s (aI h1 32) n := by
  intro k
  induction k with
  | zero =>
    intro m a h' Q G hm ha
    obtain ⟨m, rfl⟩ := succ_of hm
    have h7 := Q.h7
    have z : i32 n ≤ i32 a := by rw [i32_le (by omega) (by omega)]; omega
    rw [e_X12_matches_b10, Q.2.1.o0, sb_some, show (0 : Int32) = i32 0 from rfl, r54 0 (by omega) Q.2.1.1.2.1, sb_some, Q.n0, if_pos z]
    exact ⟨h', rfl, Q, Fm.rf h', by rw [show n = a by omega]; rw [show n = a by omega] at G; exact G⟩
  | succ k ih =>
    intro m a h' Q G hm ha
    obtain ⟨m, rfl⟩ := succ_of hm
    have h7 := Q.h7
    have z : ¬ i32 n ≤ i32 a := by rw [i32_le (by omega) (by omega)]; omega
    obtain ⟨h2, c1, c2, c3, c4, c5, c6⟩ := m_row hS (show a < n by omega) (f_X12_matches_b10 m) n FU 0 h' Q (fu_pos (by omega)) (by omega)
    obtain ⟨h3, d1, d2, d3, d4⟩ := ih m (a + 1) h2 c2 (fun x y x1 x2 x3 x4 x5 => by
      by_cases e : x = a
      · subst e
        exact c6 y (by omega) x3 x4 x5
      · rw [c5 _ (fun c q1 q2 => by omega)]
        exact G x y (by omega) x2 x3 x4 x5) (by omega) (by omega)
    refine ⟨h3, ?_, d2, c3.tr d3, d4⟩
    rw [e_X12_matches_b10, Q.2.1.o0, sb_some, show (0 : Int32) = i32 0 from rfl, r54 0 (by omega) Q.2.1.1.2.1, sb_some, Q.n0, if_neg z]
    exact c1.trans d1
/-- one turn of the reference's best of a set -/
def mF (V T : Nat → Int32) (a S b : Nat) (acc : Int32) : Int32 := if S.testBit b then (if V (7 * a + b) < 0 then acc else if V (7 * a + b) + T (rm (rm S a) b) ≤ acc then acc else V (7 * a + b) + T (rm (rm S a) b)) else acc
theorem rm_ii {S a b : Nat} (hS : S < 128) (ha : a < 7) (hb : b < 7) : (i32 S &&& (((1 : Int32) <<< (i32 a &&& 31)) ^^^ (-1))) &&& (((1 : Int32) <<< (i32 b &&& 31)) ^^^ (-1)) = i32 (rm (rm S a) b) := by rw [rm_i hS ha, rm_i (rm_128 hS) hb]
theorem m_best10 (M : Wm h') (hn : aI h' 27 0 = i32 n) (h7 : n ≤ 7) {a S : Nat} (ha : a < n) (hS : S < 128) : ∀ (k m b : Nat) (acc : Int32), k < m → b + k = n → f_X12_bestOf_b10 m (some 26) (i32 S) (i32 a) acc (i32 b) h' = f_X12_bestOf_b118 (fld (mF (aI h' 32) (aI h' 33) a S) b k acc) h' := by
  intro k
  induction k with
  | zero =>
    intro m b acc hm hb
    obtain ⟨m, rfl⟩ := succ_of hm
    have z : i32 n ≤ i32 b := by rw [i32_le (by omega) (by omega)]; omega
    rw [e_X12_bestOf_b10, M.o0, sb_some, show (0 : Int32) = i32 0 from rfl, r54 0 (by omega) M.1.2.1, sb_some, hn, if_pos z]
    rfl
  | succ k ih =>
    intro m b acc hm hb
    obtain ⟨m, rfl⟩ := succ_of hm
    have z : ¬ i32 n ≤ i32 b := by rw [i32_le (by omega) (by omega)]; omega
    have z2 : ¬ i32 n ≤ i32 a := by rw [i32_le (by omega) (by omega)]; omega
    have hR := rm_128 (b := b) (rm_128 (b := a) hS)
    rw [e_X12_bestOf_b10, M.o0, sb_some, show iA h' (some 27) 0 = some (aI h' 27 0) from r54 0 (by omega) M.1.2.1, sb_some, hn, if_neg z, sb_some, show iA h' (some 27) 0 = some (aI h' 27 0) from r54 0 (by omega) M.1.2.1, sb_some, hn, if_neg z2, m_hasS hS (show b < 7 by omega), bd_some, fld_s]
    unfold mF f_X12_bestOf_b56
    cases S.testBit b with
    | false =>
      rw [if_pos pb0, if_pos (show (-1 : Int32) < 0 by decide), i32_s, ih m (b + 1) acc (by omega) (by omega), if_neg Bool.false_ne_true]
      rfl
    | true =>
      simp only [if_neg nb1, M.o9, M.o10, sb_some, ix7', iA_ok M.2.1.2.1 (show 7 * a + b < 49 by omega) (show 49 ≤ 1000 by omega), if_true, rm_ii hS (show a < 7 by omega) (show b < 7 by omega), iA_ok M.2.1.2.2 hR (show 128 ≤ 1000 by omega), i32_s, nm_eq]
      by_cases c : aI h' 32 (7 * a + b) < 0
      · rw [if_pos c, if_pos c, ih m (b + 1) acc (by omega) (by omega)]
        rfl
      · rw [if_neg c, if_neg c]
        by_cases d : aI h' 32 (7 * a + b) + aI h' 33 (rm (rm S a) b) ≤ acc
        · rw [if_pos d, if_pos d, ih m (b + 1) acc (by omega) (by omega)]
          rfl
        · rw [if_neg d, if_neg d, ih m (b + 1) _ (by omega) (by omega)]
          rfl
theorem m_best0 (M : Wm h') (hn : aI h' 27 0 = i32 n) (h7 : n ≤ 7) {a S : Nat} (ha : ¬ a < n) (ha7 : a < 7) : f_X12_bestOf_b10 FU (some 26) (i32 S) (i32 a) (-1) (i32 a) h' = some (0, h') := by
  obtain ⟨m, e⟩ := succ_of (fu_pos (k := 1) (by omega))
  have z2 : i32 n ≤ i32 a := by rw [i32_le (by omega) (by omega)]; omega
  rw [e, e_X12_bestOf_b10, M.o0, sb_some, show (0 : Int32) = i32 0 from rfl, r54 0 (by omega) M.1.2.1, sb_some, hn, if_pos z2]
  rfl
/-- what the tables must be for best to work -/
def okX (n : Nat) (s : R54) (V : Nat → Int32) : Prop := ∀ a b, a ≤ b → b < n → inP s a = true → inP s b = true → V (7 * a + b) = gv n s a b
theorem inN_i {g : Nat} (e : inN n s g = true) : g < n ∧ inP s g = true := by
  unfold inN at e
  rw [Bool.and_eq_true, decide_eq_true_eq] at e
  exact e
theorem okT_rg {V T : Nat → Int32} {lim : Nat} (hV : okX n s V) (hT : okT V T (inN n s) lim) : ∀ (k U : Nat), U ≤ k → U < lim → U < 128 → sub U (inN n s) → rg (T U) (2 * U) := by
  intro k
  induction k with
  | zero =>
    intro U h1 _ _ _
    rw [show U = 0 by omega, hT.1]
    exact ⟨0, by omega, rfl⟩
  | succ k ih =>
    intro U h1 h2 h3 h4
    by_cases z : U = 0
    · rw [z, hT.1]
      exact ⟨0, by omega, rfl⟩
    · obtain ⟨a, a1, a2, a3⟩ := low_of z h3
      rw [hT.2 U a h2 h3 a1 a2 a3 h4]
      refine bst_rg h3 a1 a2 h4 (fun b b1 b2 b3 b4 b5 => ?_) (fun b3 => ?_) (fun X x1 x2 => ih X (by omega) (by omega) (by omega) x2)
      · rw [hV a b b1 (inN_i b4).1 (inN_i b3).2 (inN_i b4).2] at b5 ⊢
        exact gv_rg b5
      · rw [hV a a (Nat.le_refl a) (inN_i b3).1 (inN_i b3).2 (inN_i b3).2]
        exact gv_aa
theorem okT_eq {V V2 T T2 : Nat → Int32} {lim lim2 : Nat} (hV : okX n s V) (hV2 : okX n s V2) (hT : okT V T (inN n s) lim) (hT2 : okT V2 T2 (inN n s) lim2) : ∀ (k U : Nat), U ≤ k → U < lim → U < lim2 → U < 128 → sub U (inN n s) → T U = T2 U := by
  intro k
  induction k with
  | zero =>
    intro U h1 _ _ _ _
    rw [show U = 0 by omega, hT.1, hT2.1]
  | succ k ih =>
    intro U h1 h2 h2' h3 h4
    by_cases z : U = 0
    · rw [z, hT.1, hT2.1]
    · obtain ⟨a, a1, a2, a3⟩ := low_of z h3
      rw [hT.2 U a h2 h3 a1 a2 a3 h4, hT2.2 U a h2' h3 a1 a2 a3 h4]
      refine bst_congr h3 a1 a2 h4 (fun b b1 b2 b3 b4 => ?_) (fun X x1 x2 => ih X (by omega) (by omega) (by omega) (by omega) x2)
      rw [hV a b b1 (inN_i b4).1 (inN_i b3).2 (inN_i b4).2, hV2 a b b1 (inN_i b4).1 (inN_i b3).2 (inN_i b4).2]
theorem mF_b {V T : Nat → Int32} {a S b : Nat} (hab : a < b) (acc : Int32) : mF V T a S b acc = bsF V T a (rm S a) b acc := by
  unfold mF bsF
  rw [rm_bit, decide_eq_false (show ¬ a = b by omega), Bool.not_false, Bool.and_true]
  cases S.testBit b with
  | false => simp only [Bool.false_and, if_neg Bool.false_ne_true]
  | true =>
    rw [if_pos rfl, Bool.true_and]
    by_cases c : V (7 * a + b) < 0
    · rw [if_pos c, decide_eq_false (Int32.not_le.mpr c), if_neg Bool.false_ne_true]
    · rw [if_neg c, decide_eq_true (Int32.not_lt.mp c), if_pos rfl]
      unfold mmax
      by_cases d : V (7 * a + b) + T (rm (rm S a) b) ≤ acc
      · rw [if_pos d, if_neg (Int32.not_lt.mpr d)]
      · rw [if_neg d, if_pos (Int32.not_le.mp d)]
theorem rm_rm {S a : Nat} (hS : S < 128) : rm (rm S a) a = rm S a := by
  refine nat_ext (m := 7) (rm_128 (rm_128 hS)) (rm_128 hS) fun g hg => ?_
  rw [rm_bit, rm_bit]
  cases S.testBit g <;> cases decide (a = g) <;> rfl
theorem m_bestV {V T : Nat → Int32} {a S : Nat} (hS : S < 128) (ha : a < n) (h7 : n ≤ 7) (hb : S.testBit a = true) (hl : ∀ j, j < a → S.testBit j = false) (hs : sub S (inN n s)) (hV : okX n s V) (hT : okT V T (inN n s) S) : fld (mF V T a S) a (n - a) (-1) = bst V T a S := by
  have pa := hs a (by omega) hb
  have r1 := rm_lt hS (show a < 7 by omega) hb
  have q1 : rg (V (7 * a + a)) 1 := by
    rw [hV a a (Nat.le_refl a) (inN_i pa).1 (inN_i pa).2 (inN_i pa).2]
    exact gv_aa
  have q2 : rg (T (rm S a)) (2 * rm S a) := okT_rg hV hT _ _ (Nat.le_refl _) r1 (rm_128 hS) hs.rm
  have q3 : mF V T a S a (-1) = V (7 * a + a) + T (rm S a) := by
    unfold mF
    rw [hb, if_pos rfl, rm_rm hS, if_neg (Int32.not_lt.mpr (q1.le (by omega)).1), if_neg]
    intro y
    have := Int32.le_trans ((rg_add q1 q2).le (by omega)).1 y
    exact absurd this (by decide)
  rw [show n - a = (n - a - 1) + 1 by omega, fld_s, q3]
  unfold bst
  rw [show 6 - a = (n - a - 1) + (7 - n) by omega, fld_add]
  rw [fld_idl (7 - n) (a + 1 + (n - a - 1)) _ (fun j b j1 j2 => by
    unfold bsF
    have : (rm S a).testBit j = false := by
      rw [rm_bit]
      cases y : S.testBit j with
      | false => rfl
      | true =>
        have := (inN_i (hs j (by omega) y)).1
        omega
    rw [this, Bool.false_and, if_neg Bool.false_ne_true])]
  exact fld_congr _ _ _ fun j b j1 j2 => mF_b (by omega) b
theorem m_bestOf (M : Wm h') (hn : aI h' 27 0 = i32 n) (h7 : n ≤ 7) {S : Nat} (h0 : S ≠ 0) (hS : S < 128) (hV : okX n s (aI h' 32)) (hT : okT (aI h' 32) (aI h' 33) (inN n s) S) : ∃ v, f_X12_bestOf (some 26) (i32 S) h' = some (v, h') ∧ ∀ a, a < 7 → S.testBit a = true → (∀ j, j < a → S.testBit j = false) → sub S (inN n s) → v = bst (aI h' 32) (aI h' 33) a S := by
  obtain ⟨a, a1, a2, a3⟩ := low_of h0 hS
  unfold f_X12_bestOf
  rw [m_least hS a1 a2 a3, bd_some]
  by_cases c : a < n
  · rw [m_best10 M hn h7 c hS (n - a) FU a (-1) (fu_pos (by omega)) (by omega)]
    unfold f_X12_bestOf_b118
    have key : ∀ b, b < 7 → S.testBit b = true → (∀ j, j < b → S.testBit j = false) → sub S (inN n s) → 0 ≤ fld (mF (aI h' 32) (aI h' 33) a S) a (n - a) (-1) ∧ fld (mF (aI h' 32) (aI h' 33) a S) a (n - a) (-1) = bst (aI h' 32) (aI h' 33) b S := by
      intro b b1 b2 b3 b4
      have : a = b := by
        rcases Nat.lt_trichotomy a b with y | y | y
        · rw [b3 a y] at a2; cases a2
        · exact y
        · rw [a3 b y] at b2; cases b2
      subst this
      rw [m_bestV hS c h7 a2 a3 b4 hV hT]
      refine ⟨?_, rfl⟩
      refine ((bst_rg hS a1 a2 b4 (fun b b1 b2 b3 b4 b5 => ?_) (fun b3 => ?_) (fun X x1 x2 => okT_rg hV hT _ X (Nat.le_refl X) x1 (by omega) x2)).le (by omega)).1
      · rw [hV a b b1 (inN_i b4).1 (inN_i b3).2 (inN_i b4).2] at b5 ⊢
        exact gv_rg b5
      · rw [hV a a (Nat.le_refl a) (inN_i b3).1 (inN_i b3).2 (inN_i b3).2]
        exact gv_aa
    by_cases d : 0 ≤ fld (mF (aI h' 32) (aI h' 33) a S) a (n - a) (-1)
    · rw [if_pos d]
      exact ⟨_, rfl, fun b b1 b2 b3 b4 => (key b b1 b2 b3 b4).2⟩
    · rw [if_neg d]
      exact ⟨_, rfl, fun b b1 b2 b3 b4 => absurd (key b b1 b2 b3 b4).1 d⟩
  · rw [m_best0 M hn h7 c a1]
    exact ⟨_, rfl, fun b b1 b2 b3 b4 => absurd (inN_i (b4 a a1 a2)).1 c⟩
theorem m_sets : ∀ (k m S : Nat) (h' : AH), QS n s h h' → okX n s (aI h' 32) → okT (aI h' 32) (aI h' 33) (inN n s) S → 1 ≤ S → k < m → S + k = 128 → ∃ h1, f_X12_matches_b98 m (some 26) (i32 S) h' = some ((), h1) ∧ QS n s h h1 ∧ Fm h' h1 ∧ aI h1 32 = aI h' 32 ∧ okT (aI h1 32) (aI h1 33) (inN n s) 128 := by
  intro k
  induction k with
  | zero =>
    intro m S h' Q hV hT h0 hm hS
    obtain ⟨m, rfl⟩ := succ_of hm
    rw [e_X12_matches_b98, if_pos (show (128 : Int32) ≤ i32 S by rw [show (128 : Int32) = i32 128 from rfl, i32_le (by omega) (by omega)]; omega)]
    exact ⟨h', rfl, Q, Fm.rf h', rfl, by rw [show S = 128 by omega] at hT; exact hT⟩
  | succ k ih =>
    intro m S h' Q hV hT h0 hm hS
    obtain ⟨m, rfl⟩ := succ_of hm
    have M := Q.2.1
    obtain ⟨v, e, hv⟩ := m_bestOf M Q.n0 Q.h7 (show S ≠ 0 by omega) (show S < 128 by omega) hV hT
    have F : Fm h' (wI h' 33 (va_up (aI h' 33) S v)) := Fm.w33
    have e32 : aI (wI h' 33 (va_up (aI h' 33) S v)) 32 = aI h' 32 := aI_ne (by omega)
    obtain ⟨h1, a1, a2, a3, a4, a5⟩ := ih m (S + 1) _ (Q.q (Fq.rf h) F) (by rw [e32]; exact hV) (by
      rw [e32, aI_eq]
      exact okT_up (by omega) (by omega) hT hv) (by omega) (by omega) (by omega)
    refine ⟨h1, ?_, a2, F.tr a3, a4.trans e32, a5⟩
    rw [e_X12_matches_b98, if_neg (show ¬ (128 : Int32) ≤ i32 S by rw [show (128 : Int32) = i32 128 from rfl, i32_le (by omega) (by omega)]; omega), M.o10, sb_some, if_neg (show ¬ i32 S = 0 by rw [i32_0 (by omega)]; omega), cv_ok M.1.1, e, bd_some, iS_ok M.2.1.2.2 (show S < 128 by omega) (by omega), sb_some, i32_s]
    exact a1
theorem m_matches (Q : QS n s h h') : ∃ h1, f_X12_matches (some 26) h' = some ((), h1) ∧ QS n s h h1 ∧ Fm h' h1 ∧ okX n s (aI h1 32) ∧ okT (aI h1 32) (aI h1 33) (inN n s) 128 := by
  have h7 := Q.h7
  have M := Q.2.1
  have hS : ∀ g, g < 7 → (cd n (inP s)).testBit g = (decide (g < n) && inP s g) := fun g hg => cd_bit _ n (by omega) g (by omega)
  obtain ⟨h1, a1, a2, a3, a4⟩ := m_rows hS n FU 0 h' Q (fun a b a1 _ _ _ _ => absurd a1 (Nat.not_lt_zero a)) (fu_pos (by omega)) (by omega)
  have F : Fm h1 (wI h1 33 (va_up (aI h1 33) 0 0)) := Fm.w33
  have e32 : aI (wI h1 33 (va_up (aI h1 33) 0 0)) 32 = aI h1 32 := aI_ne (by omega)
  have hV : okX n s (aI h1 32) := fun a b b1 b2 b3 b4 => a4 a b (by omega) b1 b2 b3 b4
  obtain ⟨h2, b1, b2, b3, b4, b5⟩ := m_sets (n := n) (s := s) (h := h) 127 (FU - 1) 1 _ (a2.q (Fq.rf h) F) (by rw [e32]; exact hV) (by
    rw [aI_eq]
    exact ⟨up_eq _ _ _, fun S a x1 x2 x3 x4 _ _ => by
      have : S = 0 := by omega
      subst this
      rw [Nat.zero_testBit] at x4
      cases x4⟩) (by omega) (by have := fu_pos (k := 200) (by omega); omega) (by omega)
  refine ⟨h2, ?_, b2, a3.tr (F.tr b3), by rw [b4, e32]; exact hV, b5⟩
  unfold f_X12_matches
  rw [M.o0, sb_some, m_hereIn M.1.2.1 Q.n0 h7, bd_some, Q.2.2.1, sI_cd h7 Q.1.2.2.1.2.2, show (0 : Int32) = i32 0 from rfl, a1]
  obtain ⟨m, e⟩ := succ_of (fu_pos (k := 200) (by omega))
  rw [e, show m + 1 - 1 = m by omega] at b1
  rw [e, e_X12_matches_b98, if_neg (show ¬ (128 : Int32) ≤ 0 by decide), a2.2.1.o10, sb_some, if_pos (show (0 : Int32) = 0 from rfl), show iS h1 (some 33) 0 0 = some (wI h1 33 (va_up (aI h1 33) 0 0)) from iS_ok a2.2.1.2.1.2.2 (show 0 < 128 by omega) (by omega), sb_some]
  exact b1
end MATCH
