/-! WHAT HE CAME WITH -/
section CAME
variable {p : ST} {h h' : AH} {r e z : Nat}
def stP (u : R54) (g : Nat) : Bool := decide (sty (u (7 * g + 5)) (u (7 * g + 6)) ≤ u 1 - u (7 * g + 10))
def nW (u : R54) (g : Nat) : Nat := (u (7 * g + 7)).toNatClampNeg
/-- bounds: from l on, below b; still in: below a -/
def cw (el : Nat → Int32) (lo : Int32) (g : Nat) : Nat → Nat → Nat → Nat → Nat → R54 → Nat × Nat
  | 0, _, l, b, _, _ => (l, b)
  | k + 1, i, l, b, a, u => cw el lo g k (i + 1) (if el i = lo then l else if el i = 0 then max l a else l) (if el i = lo then b else if el i = 0 then b else if el i = 1 then min b a else 0) (if stP (dayO g u) g then min a (nW (dayO g u) g + 1) else a) (dayO g u)
theorem cw_mono (el : Nat → Int32) (lo : Int32) (g : Nat) : ∀ (k i l b a : Nat) (u : R54), l ≤ (cw el lo g k i l b a u).1 ∧ (cw el lo g k i l b a u).2 ≤ b
  | 0, _, l, b, _, _ => ⟨Nat.le_refl l, Nat.le_refl b⟩
  | k + 1, i, l, b, a, u => by
    obtain ⟨h1, h2⟩ := cw_mono el lo g k (i + 1) (if el i = lo then l else if el i = 0 then max l a else l) (if el i = lo then b else if el i = 0 then b else if el i = 1 then min b a else 0) (if stP (dayO g u) g then min a (nW (dayO g u) g + 1) else a) (dayO g u)
    refine ⟨Nat.le_trans ?_ h1, Nat.le_trans h2 ?_⟩
    · split
      · exact Nat.le_refl l
      · split
        · exact Nat.le_max_left l a
        · exact Nat.le_refl l
    · split
      · exact Nat.le_refl b
      · split
        · exact Nat.le_refl b
        · split
          · exact Nat.min_le_left b a
          · exact Nat.zero_le b
theorem t121 : ∀ a, a < 130 → (i32 a - 1).toInt = (a : Int) - 1 := by decide +kernel
theorem x_max {l a : Nat} (hl : l ≤ 121) (ha : a ≤ 121) : mmax (i32 l) (i32 a - 1 + 1) = i32 (max l a) := by
  have e : i32 a - 1 + 1 = i32 a := by
    have : ∀ a, a < 130 → i32 a - 1 + 1 = i32 a := by decide +kernel
    exact this a (by omega)
  rw [e]
  unfold mmax
  by_cases c : l < a
  · rw [if_pos (by rw [i32_lt (by omega) (by omega)]; exact c), Nat.max_eq_right (by omega)]
  · rw [if_neg (by rw [i32_lt (by omega) (by omega)]; exact c), Nat.max_eq_left (by omega)]
theorem x_min {b a : Nat} (hb : b ≤ 121) (ha : a ≤ 121) : mmin (i32 b - 1) (i32 a - 1) = i32 (min b a) - 1 := by
  unfold mmin
  have e : (i32 a - 1 < i32 b - 1) = (a < b) := by
    rw [Int32.lt_iff_toInt_lt, t121 a (by omega), t121 b (by omega)]
    exact propext ⟨fun y => by omega, fun y => by omega⟩
  by_cases c : a < b
  · rw [if_pos (by rw [e]; exact c), Nat.min_eq_right (by omega)]
  · rw [if_neg (by rw [e]; exact c), Nat.min_eq_left (by omega)]
theorem x_minw {a w : Nat} (ha : a ≤ 121) (hw : w ≤ 99) : mmin (i32 a - 1) (i32 w) = i32 (min a (w + 1)) - 1 := by
  have e : i32 w = i32 (w + 1) - 1 := by
    have : ∀ w, w < 130 → i32 w = i32 (w + 1) - 1 := by decide +kernel
    exact this w (by omega)
  rw [e]
  exact x_min ha (by omega)
def cwA (q : Nat × Nat) (what : Int32) : Int32 := if what = 0 then i32 (q.2 - q.1) else if q.1 < q.2 then (if what = 1 then i32 q.1 else i32 (q.2 - 1)) else -4
theorem c_entered {d g : Nat} (hg : g < p.1) (what : Int32) : ∀ (k m i l b a : Nat) (u : R54) (h : AH), CLS h p → Hs h 8 p.1 u → Ok p.1 u → RowAt h r e z (p.2.2.2.2.2 3 d) (fun j => p.2.2.2.2.2 5 (100 * d + j)) → l ≤ 121 → b ≤ 121 → a ≤ 121 → k < m → i + k = z → ∃ h1, f_X11_enteredBy_b50 m (some 0) (some r) (i32 g) what (i32 l) (i32 b - 1) (i32 a - 1) (i32 i) h = some (cwA (cw (fun j => p.2.2.2.2.2 5 (100 * d + j)) (lst (p.2.2.2.2.2 3 d)) g k i l b a u) what, h1) ∧ Fq 0 h h1 := by
  intro k
  induction k with
  | zero =>
    intro m i l b a u h C H O R hl hb ha hm hi
    obtain ⟨m, rfl⟩ := succ_of hm
    have hz := R.2.1
    rw [e_X11_enteredBy_b50, cv_ok R.1.2.1, k_size R, bd_some, if_pos (by rw [i32_le (by omega) (by omega)]; omega)]
    refine ⟨h, ?_, Fq.rf h⟩
    show _ = some (cwA (l, b) what, h)
    unfold cwA
    have e1 : (i32 l ≤ i32 b - 1) = (l < b) := by
      rw [Int32.le_iff_toInt_le, t121 b (by omega), i32_t (by omega)]
      exact propext ⟨fun y => by omega, fun y => by omega⟩
    have e2 : mmax 0 ((i32 b - 1 - i32 l) + 1) = i32 (b - l) := by
      have h0 : (0 : Int32).toInt = 0 := by decide
      have h1 : (1 : Int32).toInt = 1 := by decide
      have t1 : (i32 b - 1 - i32 l).toInt = (b : Int) - 1 - l := by
        rw [Int32.toInt_sub, t121 b (by omega), i32_t (by omega), Int.bmod_eq_of_le (by omega) (by omega)]
      have t2 : ((i32 b - 1 - i32 l) + 1).toInt = (b : Int) - l := by
        rw [Int32.toInt_add, t1, h1, Int.bmod_eq_of_le (by omega) (by omega)]
        omega
      unfold mmax
      by_cases c : (0 : Int32) < (i32 b - 1 - i32 l) + 1
      · rw [if_pos c]
        rw [Int32.lt_iff_toInt_lt, t2, h0] at c
        refine Int32.toInt_inj.mp ?_
        rw [t2, i32_t (by omega)]
        omega
      · rw [if_neg c]
        rw [Int32.lt_iff_toInt_lt, t2, h0] at c
        rw [show b - l = 0 by omega]
        rfl
    by_cases c : what = 0
    · rw [if_pos c, if_pos c, e2]
    · rw [if_neg c, if_neg c]
      by_cases c2 : l < b
      · rw [if_pos (by rw [e1]; exact c2), if_pos c2]
        by_cases c3 : what = 1
        · rw [if_pos c3, if_pos c3]
        · rw [if_neg c3, if_neg c3, show (1 : Int32) = i32 1 from rfl, i32_sub (by omega)]
      · rw [if_neg (by rw [e1]; exact c2), if_neg c2]
  | succ k ih =>
    intro m i l b a u h C H O R hl hb ha hm hi
    obtain ⟨m, rfl⟩ := succ_of hm
    have hz := R.2.1
    have h7 := O.1.2.1
    have W := C.1.1
    obtain ⟨h1, a1, H1, B1⟩ := k_passDayOf H O hg
    have O1 := Ok_dayO O hg
    have W1 := W.fr B1 (Or.inr (Or.inl rfl))
    obtain ⟨w, w1, w2⟩ := (O1.2.2 g hg).2.1
    have ew : nW (dayO g u) g = w := by
      unfold nW
      rw [w2, i32_cl (by omega)]
    have tail : ∀ l1 b1, l1 ≤ 121 → b1 ≤ 121 → ∃ h2, f_X11_enteredBy_b114 (f_X11_enteredBy_b50 m) (some 0) (some r) (i32 g) what (i32 l1) (i32 b1 - 1) (i32 a - 1) (i32 i) h = some (cwA (cw (fun j => p.2.2.2.2.2 5 (100 * d + j)) (lst (p.2.2.2.2.2 3 d)) g k (i + 1) l1 b1 (if stP (dayO g u) g then min a (nW (dayO g u) g + 1) else a) (dayO g u)) what, h2) ∧ Fq 0 h h2 := by
      intro l1 b1 hl1 hb1
      unfold f_X11_enteredBy_b114
      have hs : f_X5_hasStayed (some 8) (i32 g) h1 = some (bI (stP (dayO g u) g), h1) := k_hasStayed H1 h7 hg
      simp only [W.o1, sb_some, cv_ok H.1.1.1, a1, bd_some, W1.o1, cv_ok H1.1.1.1, hs, gR_1 H1.1.1.1, H1.1.2.1.2.1, iA_ok H1.1.1.2.2.1 (show g < 7 by omega) (by omega), (H1.2.2 g hg).2.1, nm_eq, i32_s, w2, x_minw ha w1, ew]
      cases stP (dayO g u) g with
      | false =>
        rw [if_pos pb0]
        obtain ⟨h2, b1, b2⟩ := ih m (i + 1) l1 b1 a (dayO g u) h1 (C.q B1.q) H1 O1 (R.kp (B1.q.kp W)) hl1 hb1 ha (by omega) (by omega)
        exact ⟨h2, b1, B1.q.tr0 b2⟩
      | true =>
        rw [if_neg nb1, if_pos rfl]
        obtain ⟨h2, b1, b2⟩ := ih m (i + 1) l1 b1 (min a (w + 1)) (dayO g u) h1 (C.q B1.q) H1 O1 (R.kp (B1.q.kp W)) hl1 hb1 (by omega) (by omega) (by omega)
        exact ⟨h2, b1, B1.q.tr0 b2⟩
    rw [e_X11_enteredBy_b50]
    have es : cw (fun j => p.2.2.2.2.2 5 (100 * d + j)) (lst (p.2.2.2.2.2 3 d)) g (k + 1) i l b a u = cw (fun j => p.2.2.2.2.2 5 (100 * d + j)) (lst (p.2.2.2.2.2 3 d)) g k (i + 1) (if p.2.2.2.2.2 5 (100 * d + i) = lst (p.2.2.2.2.2 3 d) then l else if p.2.2.2.2.2 5 (100 * d + i) = 0 then max l a else l) (if p.2.2.2.2.2 5 (100 * d + i) = lst (p.2.2.2.2.2 3 d) then b else if p.2.2.2.2.2 5 (100 * d + i) = 0 then b else if p.2.2.2.2.2 5 (100 * d + i) = 1 then min b a else 0) (if stP (dayO g u) g then min a (nW (dayO g u) g + 1) else a) (dayO g u) := rfl
    rw [es]
    have m1 : mmin (i32 b - 1) (-1) = i32 0 - 1 := by
      have := x_min (b := b) (a := 0) hb (by omega)
      rw [Nat.min_zero] at this
      exact this
    simp only [cv_ok R.1.2.1, k_size R, bd_some, if_neg (show ¬ i32 z ≤ i32 i by rw [i32_le (by omega) (by omega)]; omega), k_isSkipped R (show i < z by omega), k_at R (show i < z by omega), f_X11_enteredBy_b109, nm_eq, x_max hl ha, x_min hb ha, m1]
    by_cases c : p.2.2.2.2.2 5 (100 * d + i) = lst (p.2.2.2.2.2 3 d)
    · rw [decide_eq_true c, if_neg nb1, if_pos c, if_pos c]
      exact tail l b hl hb
    · rw [decide_eq_false c, if_pos pb0, if_neg c, if_neg c]
      by_cases c0 : p.2.2.2.2.2 5 (100 * d + i) = 0
      · rw [if_pos c0, if_pos c0, if_pos c0]
        exact tail (max l a) b (by omega) hb
      · rw [if_neg c0, if_neg c0, if_neg c0]
        by_cases c1 : p.2.2.2.2.2 5 (100 * d + i) = 1
        · rw [if_pos c1, if_pos c1]
          exact tail l (min b a) hl (by omega)
        · rw [if_neg c1, if_neg c1]
          exact tail l 0 hl (by omega)
/-- the same but for what he came with, and secrets -/
def agE (g : Nat) (u t : R54) : Prop := (u 1 = t 1 ∧ u 3 = t 3 ∧ u 4 = t 4) ∧ u (7 * g + 5) = t (7 * g + 5) ∧ u (7 * g + 6) = t (7 * g + 6) ∧ u (7 * g + 7) = t (7 * g + 7) ∧ u (7 * g + 10) = t (7 * g + 10) ∧ u (7 * g + 11) = t (7 * g + 11)
theorem agE_eat {g : Nat} {u t : R54} (v : Int32) (x : agE g u t) : agE g (eatW v g u) (eatW v g t) := by
  obtain ⟨⟨a1, a2, a3⟩, a4, a5, a6, a7, a8⟩ := id x
  unfold eatW
  rw [a8, a6, a4, a5, a3]
  split
  · refine ⟨⟨?_, ?_, ?_⟩, ?_, ?_, ?_, ?_, ?_⟩
    · rw [up_ne (by omega), up_ne (by omega)]; exact a1
    · rw [up_ne (by omega), up_ne (by omega)]; exact a2
    · rw [up_ne (by omega), up_ne (by omega)]; exact a3
    · rw [up_ne (by omega), up_ne (by omega)]; exact a4
    · rw [up_ne (by omega), up_ne (by omega)]; exact a5
    · rw [up_eq, up_eq]
    · rw [up_ne (by omega), up_ne (by omega)]; exact a7
    · rw [up_ne (by omega), up_ne (by omega)]; exact a8
  · exact x
theorem eatW_8 (v : Int32) (g : Nat) (u : R54) : eatW v g u (7 * g + 8) = u (7 * g + 8) := by
  unfold eatW
  split
  · exact up_ne (by omega)
  · rfl
theorem go1_8 (g : Nat) (u : R54) : go1 g u (7 * g + 8) = u (7 * g + 8) := by
  unfold go1
  split
  · rw [up_ne (by omega), up_ne (by omega)]
  · rfl
theorem dayO_8 (g : Nat) (u : R54) : dayO g u (7 * g + 8) = u (7 * g + 8) := by
  unfold dayO dayW
  rw [go1_8, eatW_8, up_ne (by omega)]
theorem go1_oth {g j : Nat} {u : R54} (h1 : j ≠ 2) (h2 : j ≠ 7 * g + 11) : go1 g u j = u j := by
  unfold go1
  split
  · rw [up_ne h1, up_ne h2]
  · rfl
theorem in_go1 (g : Nat) (u : R54) : inP (go1 g u) g = (inP u g && !mg u g) := by
  unfold go1
  cases c : mg u g with
  | true =>
    rw [if_pos rfl]
    unfold inP
    rw [up_ne (by omega), up_eq, Bool.not_true, Bool.and_false]
    decide
  | false =>
    rw [if_neg (by decide), Bool.not_false, Bool.and_true]
/-- a day for one with v entered and for one with nothing entered -/
theorem cw_day {n g v : Nat} {um uc : R54} (O : Ok n uc) (hg : g < n) (x : agE g um uc) (hin : inP um g = true) (ev : um (7 * g + 8) = i32 v) (ec : uc (7 * g + 8) = 0) (hv : v ≤ 120) : (inP (dayO g um) g = true ↔ ¬ (stP (dayO g uc) g = true ∧ nW (dayO g uc) g < v)) ∧ (inP (dayO g um) g = true → agE g (dayO g um) (dayO g uc)) := by
  have x0 : agE g (va_up um 1 (um 1 + 1)) (va_up uc 1 (uc 1 + 1)) := by
    obtain ⟨⟨a1, a2, a3⟩, a4, a5, a6, a7, a8⟩ := x
    rw [a1]
    exact ⟨⟨by rw [up_eq, up_eq], by rw [up_ne (by omega), up_ne (by omega)]; exact a2, by rw [up_ne (by omega), up_ne (by omega)]; exact a3⟩, by rw [up_ne (by omega), up_ne (by omega)]; exact a4, by rw [up_ne (by omega), up_ne (by omega)]; exact a5, by rw [up_ne (by omega), up_ne (by omega)]; exact a6, by rw [up_ne (by omega), up_ne (by omega)]; exact a7, by rw [up_ne (by omega), up_ne (by omega)]; exact a8⟩
  have x1 := agE_eat (eat (um (7 * g + 5)) (um 3)) x0
  have O1 : Ok n (dayO g uc) := Ok_dayO O hg
  obtain ⟨w, w1, w2⟩ := (O1.2.2 g hg).2.1
  have ew : nW (dayO g uc) g = w := by
    unfold nW
    rw [w2, i32_cl (by omega)]
  have em : dayO g um = go1 g (eatW (eat (um (7 * g + 5)) (um 3)) g (va_up um 1 (um 1 + 1))) := rfl
  have ec2 : dayO g uc = go1 g (eatW (eat (um (7 * g + 5)) (um 3)) g (va_up uc 1 (uc 1 + 1))) := by
    rw [x.2.1, x.1.2.1]
    rfl
  have e8m : eatW (eat (um (7 * g + 5)) (um 3)) g (va_up um 1 (um 1 + 1)) (7 * g + 8) = i32 v := by
    rw [eatW_8, up_ne (by omega)]; exact ev
  have e8c : eatW (eat (um (7 * g + 5)) (um 3)) g (va_up uc 1 (uc 1 + 1)) (7 * g + 8) = 0 := by
    rw [eatW_8, up_ne (by omega)]; exact ec
  have inm : inP (eatW (eat (um (7 * g + 5)) (um 3)) g (va_up um 1 (um 1 + 1))) g = true := by
    unfold inP at hin ⊢
    have : eatW (eat (um (7 * g + 5)) (um 3)) g (va_up um 1 (um 1 + 1)) (7 * g + 11) = um (7 * g + 11) := by
      unfold eatW
      split
      · rw [up_ne (by omega), up_ne (by omega)]
      · rw [up_ne (by omega)]
    rw [this]
    exact hin
  obtain ⟨X, hX⟩ : ∃ X, X = eatW (eat (um (7 * g + 5)) (um 3)) g (va_up um 1 (um 1 + 1)) := ⟨_, rfl⟩
  obtain ⟨Y, hY⟩ : ∃ Y, Y = eatW (eat (um (7 * g + 5)) (um 3)) g (va_up uc 1 (uc 1 + 1)) := ⟨_, rfl⟩
  rw [← hX, ← hY] at x1
  rw [← hX] at em e8m inm
  rw [← hY] at ec2 e8c
  have x2 := x1
  obtain ⟨⟨a1, a2, a3⟩, a4, a5, a6, a7, a8⟩ := x1
  have yw : Y (7 * g + 7) = i32 w := by
    rw [← w2, ec2, go1_oth (by omega) (by omega)]
  have my : mg Y g = false := by
    unfold mg
    rw [e8c, decide_eq_false (p := Y (7 * g + 7) < 0) (by rw [yw]; exact i32_nn (by omega)), Bool.false_and, Bool.and_false]
  have gy : dayO g uc = Y := by
    rw [ec2]
    unfold go1
    rw [my]
    rfl
  have mx : mg X g = (decide (w < v) && stP Y g) := by
    unfold mg stP
    unfold inP at inm
    rw [inm, Bool.true_and, e8m, a6, yw, a4, a5, a1, a7]
    have : (i32 w < i32 v) = (w < v) := i32_lt (by omega) (by omega)
    rw [decide_eq_decide.mpr (Iff.of_eq this)]
  have ix : inP (dayO g um) g = !mg X g := by
    rw [em, in_go1, inm, Bool.true_and]
  rw [ew, gy]
  constructor
  · rw [ix, mx]
    by_cases c : w < v
    · rw [decide_eq_true c, Bool.true_and]
      cases stP Y g with
      | true => exact ⟨fun q => absurd q (by decide), fun q => absurd (And.intro rfl c) q⟩
      | false => exact ⟨fun _ q => absurd q.1 (by decide), fun _ => rfl⟩
    · rw [decide_eq_false c, Bool.false_and]
      exact ⟨fun _ q => c q.2, fun _ => rfl⟩
  · intro hi
    rw [ix] at hi
    have : mg X g = false := by
      cases q : mg X g with
      | false => rfl
      | true => rw [q] at hi; cases hi
    have gx : dayO g um = X := by
      rw [em]
      unfold go1
      rw [this]
      rfl
    rw [gx]
    exact x2
theorem m_come25 {d g v : Nat} (hd : d < 8) (hg : g < p.1) (h7 : p.1 ≤ 7) (n3 : p.2.2.2.2.2 4 d = i32 z) (hz : z ≤ 100) (hv : v ≤ 120) : ∀ (k m i l b a : Nat) (um uc : R54) (h' : AH), MDL h' p → aI h' 28 = um → um 0 = i32 p.1 → B01 p.1 um → Ok p.1 uc → um (7 * g + 8) = i32 v → uc (7 * g + 8) = 0 → (v < a → inP um g = true ∧ agE g um uc) → (¬ v < a → inP um g = false) → l ≤ v → v < b → k < m → i + k = z → ∃ q, hi q um ∧ f_X12_hasComeSo_b25 m (some 26) (i32 d) (i32 g) (i32 i) h' = some (bI (decide ((cw (fun j => p.2.2.2.2.2 5 (100 * d + j)) (lst (p.2.2.2.2.2 3 d)) g k i l b a uc).1 ≤ v) && decide (v < (cw (fun j => p.2.2.2.2.2 5 (100 * d + j)) (lst (p.2.2.2.2.2 3 d)) g k i l b a uc).2)), wI h' 28 q) := by
  intro k
  induction k with
  | zero =>
    intro m i l b a um uc h' M e28 u0 B O ev ec r1 r2 hl hb hm hik
    obtain ⟨m, rfl⟩ := succ_of hm
    refine ⟨um, hi.rf um, ?_⟩
    rw [e_X12_hasComeSo_b25, M.1.o16, sb_some, m_size M hd, sb_some, n3, if_pos (by rw [i32_le (by omega) (by omega)]; omega), ← e28, wI_self]
    show _ = some (bI (decide (l ≤ v) && decide (v < b)), h')
    rw [decide_eq_true hl, decide_eq_true hb]
    rfl
  | succ k ih =>
    intro m i l b a um uc h' M e28 u0 B O ev ec r1 r2 hl hb hm hik
    obtain ⟨m, rfl⟩ := succ_of hm
    have O1 := Ok_dayO O hg
    have ag := agr_dayO h7 hg (agr.rf g um)
    have day : f_X12_day (some 28) 0 h' = some ((), wI h' 28 (dayM p.1 0 um)) := by
      rw [m_day M.1.1.2.2.1 (by rw [e28]; exact u0) h7, e28]
    have M1 : MDL (wI h' 28 (dayM p.1 0 um)) p := M.q (Fm.w28 (by rw [e28]; exact hi_dayM (hi.rf um) h7))
    have es : cw (fun j => p.2.2.2.2.2 5 (100 * d + j)) (lst (p.2.2.2.2.2 3 d)) g (k + 1) i l b a uc = cw (fun j => p.2.2.2.2.2 5 (100 * d + j)) (lst (p.2.2.2.2.2 3 d)) g k (i + 1) (if p.2.2.2.2.2 5 (100 * d + i) = lst (p.2.2.2.2.2 3 d) then l else if p.2.2.2.2.2 5 (100 * d + i) = 0 then max l a else l) (if p.2.2.2.2.2 5 (100 * d + i) = lst (p.2.2.2.2.2 3 d) then b else if p.2.2.2.2.2 5 (100 * d + i) = 0 then b else if p.2.2.2.2.2 5 (100 * d + i) = 1 then min b a else 0) (if stP (dayO g uc) g then min a (nW (dayO g uc) g + 1) else a) (dayO g uc) := rfl
    -- the day's end
    have B1 : B01 p.1 (dayM p.1 0 um) := by
      unfold dayM
      refine fld_ind (fun _ r => B01 p.1 r) p.1 0 _ ?_ (fun j b _ hj e => ?_)
      · refine fld_ind (fun _ r => B01 p.1 r) p.1 0 _ (fun g hg => by rw [up_ne (by omega)]; exact B g hg) (fun j b _ hj e => ?_)
        rw [eat1_W]
        unfold eatW
        split
        · intro g hg; rw [up_ne (by omega)]; exact e g hg
        · exact e
      · unfold go1
        split
        · intro g hg
          rw [up_ne (by omega)]
          by_cases y : g = j
          · subst y; rw [up_eq]; exact Or.inl rfl
          · rw [up_ne (by omega)]; exact e g hg
        · exact e
    have go : ∀ l1 b1, l1 ≤ v → v < b1 → ∃ q, hi q um ∧ (bd (f_X12_day (some 28) 0 h') fun _ h18 => f_X12_hasComeSo_b25 m (some 26) (i32 d) (i32 g) (i32 (i + 1)) h18) = some (bI (decide ((cw (fun j => p.2.2.2.2.2 5 (100 * d + j)) (lst (p.2.2.2.2.2 3 d)) g k (i + 1) l1 b1 (if stP (dayO g uc) g then min a (nW (dayO g uc) g + 1) else a) (dayO g uc)).1 ≤ v) && decide (v < (cw (fun j => p.2.2.2.2.2 5 (100 * d + j)) (lst (p.2.2.2.2.2 3 d)) g k (i + 1) l1 b1 (if stP (dayO g uc) g then min a (nW (dayO g uc) g + 1) else a) (dayO g uc)).2)), wI h' 28 q) := by
      intro l1 b1 hl1 hb1
      obtain ⟨q, q1, q2⟩ := ih m (i + 1) l1 b1 (if stP (dayO g uc) g then min a (nW (dayO g uc) g + 1) else a) (dayM p.1 0 um) (dayO g uc) (wI h' 28 (dayM p.1 0 um)) M1 aI_eq ((dayM_0 p.1 0 um).trans u0) B1 O1 (by rw [ag.2.2.2.2.1, dayO_8]; exact ev) (by rw [dayO_8]; exact ec) (fun c => by
        have va : v < a := by
          by_cases s : stP (dayO g uc) g = true
          · rw [if_pos s] at c; omega
          · rw [if_neg s] at c; exact c
        obtain ⟨i1, i2⟩ := r1 va
        obtain ⟨d1, d2⟩ := cw_day O hg i2 i1 ev ec hv
        have : inP (dayO g um) g = true := d1.mpr (fun y => by rw [if_pos y.1] at c; omega)
        have ae := d2 this
        refine ⟨by rw [ag.in]; exact this, ?_⟩
        obtain ⟨⟨x1, x2, x3⟩, x4, x5, x6, x7, x8, x9, x10⟩ := ag
        obtain ⟨⟨y1, y2, y3⟩, y4, y5, y6, y7, y8⟩ := ae
        exact ⟨⟨x1.trans y1, x2.trans y2, x3.trans y3⟩, x4.trans y4, x5.trans y5, x6.trans y6, x9.trans y7, x10.trans y8⟩) (fun c => by
        rw [ag.in]
        by_cases va : v < a
        · obtain ⟨i1, i2⟩ := r1 va
          obtain ⟨d1, d2⟩ := cw_day O hg i2 i1 ev ec hv
          cases y : inP (dayO g um) g with
          | false => rfl
          | true =>
            have nn := d1.mp y
            exfalso
            apply nn
            by_cases s : stP (dayO g uc) g = true
            · rw [if_pos s] at c
              exact ⟨s, by omega⟩
            · rw [if_neg s] at c
              exact absurd va c
        · exact inP_dayO (r2 va)) hl1 hb1 (by omega) (by omega)
      refine ⟨q, q1.tr (hi_dayM (hi.rf um) h7), ?_⟩
      rw [day, bd_some, q2, wI_wI]
    rw [e_X12_hasComeSo_b25, es]
    have ib : um (7 * g + 11) = bI (inP um g) := in_01 B hg
    simp only [M.1.o16, M.1.o1, sb_some, m_size M hd, n3, if_neg (show ¬ i32 z ≤ i32 i by rw [i32_le (by omega) (by omega)]; omega), m_of6, bd_some, r54 (7 * g + 11) (by omega) M.1.1.2.2.1, e28, cv_ok M.1.1.1, m_isTold M hd (show i < 100 by omega), ib, i32_s]
    by_cases c : p.2.2.2.2.2 5 (100 * d + i) = lst (p.2.2.2.2.2 3 d)
    · rw [decide_eq_true c, Bool.true_or, if_pos c, if_pos c]
      obtain ⟨q, q1, q2⟩ := go l b hl hb
      exact ⟨q, q1, by rw [if_neg nb1]; exact q2⟩
    · rw [decide_eq_false c, Bool.false_or, if_neg c, if_neg c]
      have stop : ∀ l1 b1, (¬ l1 ≤ v ∨ ¬ v < b1) → ∃ q, hi q um ∧ some ((0 : Int32), h') = some (bI (decide ((cw (fun j => p.2.2.2.2.2 5 (100 * d + j)) (lst (p.2.2.2.2.2 3 d)) g k (i + 1) l1 b1 (if stP (dayO g uc) g then min a (nW (dayO g uc) g + 1) else a) (dayO g uc)).1 ≤ v) && decide (v < (cw (fun j => p.2.2.2.2.2 5 (100 * d + j)) (lst (p.2.2.2.2.2 3 d)) g k (i + 1) l1 b1 (if stP (dayO g uc) g then min a (nW (dayO g uc) g + 1) else a) (dayO g uc)).2)), wI h' 28 q) := by
        intro l1 b1 hlb
        obtain ⟨m1, m2⟩ := cw_mono (fun j => p.2.2.2.2.2 5 (100 * d + j)) (lst (p.2.2.2.2.2 3 d)) g k (i + 1) l1 b1 (if stP (dayO g uc) g then min a (nW (dayO g uc) g + 1) else a) (dayO g uc)
        refine ⟨um, hi.rf um, ?_⟩
        rw [← e28, wI_self]
        rcases hlb with y | y
        · rw [decide_eq_false (by omega), Bool.false_and]; rfl
        · rw [decide_eq_false (p := v < _) (by omega), Bool.and_false]; rfl
      by_cases c0 : p.2.2.2.2.2 5 (100 * d + i) = 0
      · rw [if_pos c0, if_pos c0, c0]
        by_cases va : v < a
        · have := (r1 va).1
          rw [this, show decide ((0 : Int32) = bI true) = false from by decide, if_pos pb0]
          exact stop _ _ (Or.inl (by omega))
        · have := r2 va
          rw [this, show decide ((0 : Int32) = bI false) = true from by decide]
          obtain ⟨q, q1, q2⟩ := go (max l a) b (by omega) hb
          exact ⟨q, q1, by rw [if_neg nb1]; exact q2⟩
      · rw [if_neg c0, if_neg c0]
        by_cases c1 : p.2.2.2.2.2 5 (100 * d + i) = 1
        · rw [if_pos c1, c1]
          by_cases va : v < a
          · have := (r1 va).1
            rw [this, show decide ((1 : Int32) = bI true) = true from by decide]
            obtain ⟨q, q1, q2⟩ := go l (min b a) hl (by omega)
            exact ⟨q, q1, by rw [if_neg nb1]; exact q2⟩
          · have := r2 va
            rw [this, show decide ((1 : Int32) = bI false) = false from by decide, if_pos pb0]
            exact stop _ _ (Or.inr (by omega))
        · rw [if_neg c1]
          have : decide (p.2.2.2.2.2 5 (100 * d + i) = bI (inP um g)) = false := by
            cases inP um g with
            | false => exact decide_eq_false c0
            | true => exact decide_eq_false c1
          rw [this, if_pos pb0]
          exact stop _ _ (Or.inr (by omega))
/-- the bounds of it all -/
def cwF (p : ST) (d g z : Nat) : Nat × Nat := cw (fun j => p.2.2.2.2.2 5 (100 * d + j)) (lst (p.2.2.2.2.2 3 d)) g z 0 0 121 (if inP p.2.1 g then 121 else 0) (va_up p.2.1 (7 * g + 8) 0)
theorem m_hasCome {d g v : Nat} (M : MDL h' p) (O : Ok p.1 p.2.1) (hd : d < 8) (hg : g < p.1) (n3 : p.2.2.2.2.2 4 d = i32 z) (hz : z ≤ 100) (hv : v ≤ 120) : ∃ h1', f_X12_hasComeSo (some 26) (i32 d) (i32 g) (i32 v) h' = some (bI (decide ((cwF p d g z).1 ≤ v) && decide (v < (cwF p d g z).2)), h1') ∧ Fm h' h1' := by
  have h7 := O.1.2.1
  have e27 := M.2.1.1
  have cp : f_X12_copies (some 27) (some 28) h' = some ((), wI h' 28 p.2.1) := by
    rw [m_copies (by omega) M.1.1.2.1 M.1.1.2.2.1 (by rw [e27]; exact M.2.2.1), e27]
  have Mc : ∀ q, hi q p.2.1 → MDL (wI h' 28 q) p := fun q hq => M.q (Fm.w28 (hq.tr M.2.2.1.sy))
  have M1 := Mc p.2.1 (hi.rf _)
  have hh : hi (va_up p.2.1 (7 * g + 8) (i32 v)) p.2.1 := (hi.rf _).up (by omega)
  have O0 : Ok p.1 (va_up p.2.1 (7 * g + 8) 0) := O.up (okV_e ⟨0, by omega, rfl⟩)
  have inx : ∀ w, inP (va_up p.2.1 (7 * g + 8) w) g = inP p.2.1 g := fun w => by
    unfold inP
    rw [up_ne (by omega)]
  obtain ⟨q, q1, q2⟩ := m_come25 hd hg h7 n3 hz hv z FU 0 0 121 (if inP p.2.1 g then 121 else 0) (va_up p.2.1 (7 * g + 8) (i32 v)) (va_up p.2.1 (7 * g + 8) 0) (wI h' 28 (va_up p.2.1 (7 * g + 8) (i32 v))) (Mc _ hh) aI_eq ((up_ne (by omega)).trans O.1.1) (fun j hj => by rw [up_ne (by omega)]; exact O.1.2.2 j hj) O0 (up_eq _ _ _) (up_eq _ _ _) (fun c => by
    cases y : inP p.2.1 g with
    | false => rw [y] at c; exact absurd c (by simp)
    | true =>
      refine ⟨by rw [inx]; exact y, ⟨⟨?_, ?_, ?_⟩, ?_, ?_, ?_, ?_, ?_⟩⟩
      · rw [up_ne (by omega), up_ne (by omega)]
      · rw [up_ne (by omega), up_ne (by omega)]
      · rw [up_ne (by omega), up_ne (by omega)]
      · rw [up_ne (by omega), up_ne (by omega)]
      · rw [up_ne (by omega), up_ne (by omega)]
      · rw [up_ne (by omega), up_ne (by omega)]
      · rw [up_ne (by omega), up_ne (by omega)]
      · rw [up_ne (by omega), up_ne (by omega)]) (fun c => by
    rw [inx]
    cases y : inP p.2.1 g with
    | false => rfl
    | true => rw [y, if_pos rfl] at c; omega) (by omega) (by omega) (fu_pos (by omega)) (by omega)
  refine ⟨wI h' 28 q, ?_, Fm.w28 ((q1.tr hh).tr M.2.2.1.sy)⟩
  rw [wI_wI] at q2
  unfold f_X12_hasComeSo
  simp only [M.1.o0, M.1.o1, sb_some, cp, bd_some, M1.1.o1, m_of3, w54 (7 * g + 8) (by omega) _ M1.1.1.2.2.1, aI_eq, wI_wI]
  exact q2
theorem m_came49 {d g : Nat} (O : Ok p.1 p.2.1) (hd : d < 8) (hg : g < p.1) (n3 : p.2.2.2.2.2 4 d = i32 z) (hz : z ≤ 100) (what : Int32) (hB : (cwF p d g z).2 ≤ 121) : ∀ (k m v : Nat) (h' : AH), MDL h' p → k < m → v + k = 121 → ∃ h1', f_X12_cameWith_b49 m (some 26) (i32 d) (i32 g) what (i32 (min v (cwF p d g z).2 - (cwF p d g z).1)) (if (cwF p d g z).1 < min v (cwF p d g z).2 then i32 (cwF p d g z).1 else -4) (if (cwF p d g z).1 < min v (cwF p d g z).2 then i32 (min v (cwF p d g z).2 - 1) else -4) (i32 v) h' = some (cwA (cwF p d g z) what, h1') ∧ Fm h' h1' := by
  generalize hq : cwF p d g z = q at hB ⊢
  intro k
  induction k with
  | zero =>
    intro m v h' M hm hv
    obtain ⟨m, rfl⟩ := succ_of hm
    rw [e_X12_cameWith_b49, show v = 121 by omega, if_pos (show (120 : Int32) < i32 121 by decide), Nat.min_eq_right hB]
    refine ⟨h', ?_, Fm.rf h'⟩
    unfold cwA
    by_cases c : what = 0
    · rw [if_pos c, if_pos c]
    · rw [if_neg c, if_neg c]
      by_cases c2 : q.1 < q.2
      · rw [if_pos c2, if_pos c2, if_pos c2]
        split <;> rfl
      · rw [if_neg c2, if_neg c2, if_neg c2]
        split <;> rfl
  | succ k ih =>
    intro m v h' M hm hv
    obtain ⟨m, rfl⟩ := succ_of hm
    obtain ⟨h1', a1, a2⟩ := m_hasCome M O hd hg n3 hz (show v ≤ 120 by omega)
    rw [hq] at a1
    obtain ⟨h2', b1, b2⟩ := ih m (v + 1) h1' (M.q a2) (by omega) (by omega)
    refine ⟨h2', ?_, a2.tr b2⟩
    rw [e_X12_cameWith_b49, if_neg (show ¬ (120 : Int32) < i32 v by rw [show (120 : Int32) = i32 120 from rfl, i32_lt (by omega) (by omega)]; omega), cv_ok M.1.1.1, a1, bd_some]
    unfold f_X12_cameWith_b82
    rw [i32_s, i32_s]
    by_cases c : q.1 ≤ v ∧ v < q.2
    · rw [decide_eq_true c.1, decide_eq_true c.2, if_neg (show ¬ bI (true && true) = 0 by decide)]
      have e1 : min v q.2 = v := by omega
      have e2 : min (v + 1) q.2 = v + 1 := by omega
      rw [e2, if_pos (by omega), if_pos (by omega)] at b1
      rw [e1]
      have e3 : v - q.1 + 1 = v + 1 - q.1 := by omega
      have e4 : v + 1 - 1 = v := by omega
      rw [e4] at b1
      by_cases y : v = q.1
      · rw [show v - q.1 = 0 by omega, if_pos (show i32 0 = 0 from rfl), ← b1]
        have : v + 1 - q.1 = 0 + 1 := by omega
        rw [this, ← y]
      · rw [if_neg (by rw [i32_0 (by omega)]; omega), if_pos (by omega), e3]
        exact b1
    · rw [if_pos (show bI (decide (q.1 ≤ v) && decide (v < q.2)) = 0 by
        rw [bI_0]
        cases y : (decide (q.1 ≤ v) && decide (v < q.2)) with
        | false => rfl
        | true =>
          simp only [Bool.and_eq_true, decide_eq_true_eq] at y
          exact absurd y c)]
      have e2 : min (v + 1) q.2 - q.1 = min v q.2 - q.1 := by omega
      rw [← b1, e2]
      by_cases y : q.1 < min v q.2
      · have e3 : min (v + 1) q.2 = min v q.2 := by omega
        rw [e3]
      · rw [if_neg y, if_neg y, if_neg (by omega), if_neg (by omega)]
theorem U_cameWith (P : PS p h h') (v1 v2 v3 : Int32) : UU h h' (f_X11_cameWith (some 0) v1 v2 v3 h) (f_X12_cameWith (some 26) v1 v2 v3 h') := by
  unfold f_X11_cameWith f_X12_cameWith
  have W := P.1.1.1
  have M := P.2
  have Q := P.q
  have h7 := Q.h7
  simp only [c_isShelf, m_btw, bd_some, W.o0, sb_some, cv_ok W.2.2.1.1.1.1, cv_ok M.1.1.1, cv_ok W.1.1, (Q.cg v2).1, (Q.cg v2).2, c_in]
  cases eg : isg p.1 v2 with
  | false =>
    rw [if_pos pb0, if_pos pb0]
    refine UU.same P (-1) ?_ rfl
    split <;> rfl
  | true =>
    rw [if_neg nb1, if_neg nb1]
    obtain ⟨g, rfl, hg⟩ := isg_of h7 eg
    cases ew : btw v3 0 2 with
    | false =>
      rw [if_pos rfl, if_pos pb0]
      refine UU.same P (-1) ?_ rfl
      split <;> rfl
    | true =>
      rw [if_neg ntf, if_neg nb1]
      cases ev : btw v1 0 7 with
      | false =>
        rw [if_pos pb0, m_wrongRowNo ev, bd_some]
        exact UU.same P (-1) rfl (if_neg (by decide))
      | true =>
        obtain ⟨d, rfl, hd7⟩ := btw_of (m := 7) (by omega) ev
        have hd : d < 8 := by omega
        rw [if_neg nb1, c_rowOn W hd, bd_some]
        rcases row_or P hd with ⟨x, x1, x2, x3, x4⟩ | ⟨r, e, z, n2, n3, R, n4⟩
        · rw [x1, if_pos rfl, cv_ok W.1.1, x2, bd_some, x3, bd_some, if_neg x4]
          exact UU.same P x rfl rfl
        · rw [n2, if_neg (fun y => nomatch y), n4, bd_some, if_pos rfl, cv_ok W.1.1]
          have O := Q.1.2.2
          have hB : (cwF p d g z).2 ≤ 121 := (cw_mono _ _ g z 0 0 121 _ _).2
          obtain ⟨h1', b1, b2⟩ := m_came49 O hd hg n3 R.2.1 v3 hB 121 FU 0 h' M (fu_pos (by omega)) (by omega)
          have m0 : min 0 (cwF p d g z).2 = 0 := Nat.zero_min _
          rw [m0, Nat.zero_sub, if_neg (by omega), if_neg (by omega)] at b1
          have b1' : f_X12_cameWith_b49 FU (some 26) (i32 d) (i32 g) v3 0 (-4) (-4) 0 h' = some (cwA (cwF p d g z) v3, h1') := b1
          have cl : ∃ h1, f_X11_enteredBy (some 0) (some r) (i32 g) v3 h = some (cwA (cwF p d g z) v3, h1) ∧ Fq 0 h h1 := by
            unfold f_X11_enteredBy
            rw [W.o0, sb_some, cv_ok W.2.2.1.1.1.1, k_isIn Q.1.2.1 O hg, bd_some]
            obtain ⟨⟨h1, a1, H1, F1, B1⟩, -⟩ := Q.mind
            have W1 := W.fr B1 (Or.inr (Or.inl rfl))
            obtain ⟨H2, B2⟩ := H1.wA (g := g) (v := 0) (t := 3) (by omega)
            have F2 := F1.tr0 B2.q
            have T := H1.1
            have key : ∀ (a : Nat) (y : Int32), a ≤ 121 → y = i32 a - 1 → ∃ h2, f_X11_enteredBy_b24 (some 0) (some r) (i32 g) v3 0 120 y h = some (cwA (cw (fun j => p.2.2.2.2.2 5 (100 * d + j)) (lst (p.2.2.2.2.2 3 d)) g z 0 0 121 a (va_up p.2.1 (7 * g + 8) 0)) v3, h2) ∧ Fq 0 h h2 := by
              intro a y ha hy
              subst hy
              obtain ⟨h3, c1, c2⟩ := c_entered hg v3 z FU 0 0 121 a _ _ (P.1.q F2) H2 (O.up (okV_e ⟨0, by omega, rfl⟩)) (R.kp (F2.kp W)) (by omega) (by omega) ha (fu_pos (by have := R.2.1; omega)) (by omega)
              refine ⟨h3, ?_, F2.tr0 c2⟩
              unfold f_X11_enteredBy_b24
              simp only [W.o1, W.o0, sb_some, cv_ok W.2.2.1.2.1.1.1, a1, bd_some, W1.o1, gR_1 T.1.1, T.2.1.2.2.1, iS_ok T.1.2.2.2.1 (show g < 7 by omega) (by omega)]
              exact c1
            unfold cwF
            cases inP p.2.1 g with
            | false =>
              rw [if_pos pb0]
              exact key 0 (-1) (by omega) (by decide)
            | true =>
              rw [if_neg nb1]
              exact key 121 120 (by omega) (by decide)
          obtain ⟨h1, a1, a2⟩ := cl
          rw [a1, bd_some, b1']
          exact RR.q0 P (RR.mk2 _ a2 b2 rfl rfl)
end CAME
