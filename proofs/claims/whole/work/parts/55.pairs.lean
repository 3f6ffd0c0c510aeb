/-! PAIRS -/
def rm (S b : Nat) : Nat := S ^^^ (S &&& 2 ^ b)
theorem rm_i {S b : Nat} (hS : S < 128) (hb : b < 7) : i32 S &&& (((1 : Int32) <<< (i32 b &&& 31)) ^^^ (-1)) = i32 (rm S b) := bt_clr S hS b hb
theorem rm_128 {S b : Nat} (hS : S < 128) : rm S b < 128 := an_128 hS
theorem rm_bit (S b j : Nat) : (rm S b).testBit j = (S.testBit j && !decide (b = j)) := by
  unfold rm
  rw [tb_an, Nat.testBit_two_pow]
theorem rm_lt0 : ∀ S, S < 128 → ∀ b, b < 7 → S.testBit b = true → rm S b < S := by decide +kernel
theorem rm_lt {S b : Nat} (hS : S < 128) (hb : b < 7) (h : S.testBit b = true) : rm S b < S := rm_lt0 S hS b hb h
theorem rm_2 : ∀ S, S < 128 → ∀ a, a < 7 → ∀ b, b < 7 → i32 S &&& ((((1 : Int32) <<< (i32 a &&& 31)) ||| ((1 : Int32) <<< (i32 b &&& 31))) ^^^ (-1)) = i32 (rm (rm S a) b) := by decide +kernel
theorem low_of {S : Nat} (h0 : S ≠ 0) (hS : S < 128) : ∃ a, a < 7 ∧ S.testBit a = true ∧ ∀ j, j < a → S.testBit j = false := by
  obtain ⟨a1, a2, a3, a4⟩ := fk_sp S.testBit 7 0
  by_cases c : fk S.testBit 0 7 < 7
  · exact ⟨_, c, a3 (by omega), fun j hj => a4 j (Nat.zero_le j) hj⟩
  · exfalso
    apply h0
    refine nat_ext (m := 7) hS (by decide) fun g hg => ?_
    rw [a4 g (Nat.zero_le g) (by omega), Nat.zero_testBit]
theorem c_low {S a : Nat} {h : AH} (hS : S < 128) (h7 : a < 7) (ha : S.testBit a = true) (hl : ∀ j, j < a → S.testBit j = false) : f_X11_lowestOf (i32 S) h = some (i32 a, h) := by
  rw [k_lowestOf hS]
  congr 3
  by_cases c : a < 6
  · exact fk_eq (Nat.zero_le a) (by omega) ha (fun j _ hj => hl j hj)
  · obtain ⟨b1, b2, b3, b4⟩ := fk_sp S.testBit 6 0
    by_cases y : fk S.testBit 0 6 < 6
    · have := b3 (by omega)
      rw [hl _ (by omega)] at this
      cases this
    · omega
theorem m_low {S a : Nat} {h : AH} (hS : S < 128) (h7 : a < 7) (ha : S.testBit a = true) (hl : ∀ j, j < a → S.testBit j = false) : ∀ (k m i : Nat), k < m → i + k = a → f_X12_leastIn_b2 m (i32 S) (i32 i) h = some (i32 a, h) := by
  have hh : ∀ i, i < 7 → f_X12_has (i32 S) (i32 i) h = some (bI (S.testBit i), h) := fun i hi => by
    rw [m_has]
    unfold fst
    rw [bt_at S hS i hi]
    cases S.testBit i <;> rfl
  intro k
  induction k with
  | zero =>
    intro m i hm hi
    obtain ⟨m, rfl⟩ := succ_of hm
    rw [e_X12_leastIn_b2, show i = a by omega, hh a h7, bd_some, ha, if_neg nb1]
  | succ k ih =>
    intro m i hm hi
    obtain ⟨m, rfl⟩ := succ_of hm
    rw [e_X12_leastIn_b2, hh i (by omega), bd_some, hl i (by omega), if_pos pb0, i32_s]
    exact ih m (i + 1) (by omega) (by omega)
theorem m_least {S a : Nat} {h : AH} (hS : S < 128) (h7 : a < 7) (ha : S.testBit a = true) (hl : ∀ j, j < a → S.testBit j = false) : f_X12_leastIn (i32 S) h = some (i32 a, h) :=
  m_low hS h7 ha hl a FU 0 (fu_pos (by omega)) (by omega)
/-- one turn of the best of a set: a is the least, rest the others -/
def bsF (V T : Nat → Int32) (a rest b : Nat) (acc : Int32) : Int32 := if rest.testBit b && decide (0 ≤ V (7 * a + b)) then mmax acc (V (7 * a + b) + T (rm rest b)) else acc
def bst (V T : Nat → Int32) (a S : Nat) : Int32 := fld (bsF V T a (rm S a)) (a + 1) (6 - a) (V (7 * a + a) + T (rm S a))
def sub (S : Nat) (P : Nat → Bool) : Prop := ∀ j, j < 7 → S.testBit j = true → P j = true
theorem sub.rm {S b : Nat} {P : Nat → Bool} (x : sub S P) : sub (rm S b) P := fun j hj e => by
  rw [rm_bit, Bool.and_eq_true] at e
  exact x j hj e.1
theorem bst_congr {V V2 T T2 : Nat → Int32} {a S : Nat} {P : Nat → Bool} (hS : S < 128) (h7 : a < 7) (ha : S.testBit a = true) (hs : sub S P) (hV : ∀ b, a ≤ b → b < 7 → P a = true → P b = true → V (7 * a + b) = V2 (7 * a + b)) (hT : ∀ U, U < S → sub U P → T U = T2 U) : bst V T a S = bst V2 T2 a S := by
  have pa := hs a h7 ha
  have r1 := rm_lt hS h7 ha
  unfold bst
  rw [hV a (Nat.le_refl a) h7 pa pa, hT _ r1 hs.rm]
  refine fld_congr (6 - a) (a + 1) _ fun b acc b1 b2 => ?_
  unfold bsF
  cases c : (rm S a).testBit b with
  | false => simp only [Bool.false_and, if_neg Bool.false_ne_true]
  | true =>
    have pb : P b = true := hs.rm b (by omega) c
    have r2 := rm_lt (rm_128 hS) (show b < 7 by omega) c
    have q1 : V (7 * a + b) = V2 (7 * a + b) := hV b (Nat.le_of_lt (Nat.lt_of_succ_le b1)) (by omega) pa pb
    have q2 : T (rm (rm S a) b) = T2 (rm (rm S a) b) := hT _ (Nat.lt_trans r2 r1) hs.rm.rm
    rw [q1, q2]
theorem mmax_rg {x y : Int32} {m : Nat} (hx : rg x m) (hy : rg y m) : rg (mmax x y) m := by
  unfold mmax
  split
  · exact hy
  · exact hx
theorem rg_add {x y : Int32} {a b : Nat} (hx : rg x a) (hy : rg y b) : rg (x + y) (a + b) := by
  obtain ⟨i, i1, rfl⟩ := hx
  obtain ⟨j, j1, rfl⟩ := hy
  rw [i32_add]
  exact ⟨_, by omega, rfl⟩
theorem bst_rg {V T : Nat → Int32} {a S : Nat} {P : Nat → Bool} (hS : S < 128) (h7 : a < 7) (ha : S.testBit a = true) (hs : sub S P) (hV : ∀ b, a ≤ b → b < 7 → P a = true → P b = true → 0 ≤ V (7 * a + b) → rg (V (7 * a + b)) 2) (hA : P a = true → rg (V (7 * a + a)) 1) (hT : ∀ U, U < S → sub U P → rg (T U) (2 * U)) : rg (bst V T a S) (2 * S) := by
  have pa := hs a h7 ha
  have r1 := rm_lt hS h7 ha
  unfold bst
  refine fld_ind (fun _ x => rg x (2 * S)) (6 - a) (a + 1) _ ?_ (fun b acc b1 b2 hacc => ?_)
  · exact (rg_add (hA pa) (hT _ r1 hs.rm)).mono (by omega)
  · unfold bsF
    cases c : (rm S a).testBit b with
    | false => rw [Bool.false_and]; exact hacc
    | true =>
      have pb : P b = true := hs.rm b (by omega) c
      have r2 := rm_lt (rm_128 hS) (show b < 7 by omega) c
      rw [Bool.true_and]
      by_cases d : 0 ≤ V (7 * a + b)
      · rw [decide_eq_true d, if_pos rfl]
        exact mmax_rg hacc ((rg_add (hV b (by omega) (by omega) pa pb d) (hT _ (by omega) hs.rm.rm)).mono (by omega))
      · rw [decide_eq_false d]; exact hacc
section PAIRS
variable {n : Nat} {s : R54} {h h' : AH}
/-- how many of a, b go on the next day, a lending b 5; -1 it can't be -/
def lf (n : Nat) (s : R54) (a b : Nat) : Int32 := if cl a b 5 s then (if inP (dayM n 0 (lnd a b 5 s)) a then (0 : Int32) else 1) + (if inP (dayM n 0 (lnd a b 5 s)) b then (0 : Int32) else 1) else -1
def gv (n : Nat) (s : R54) (a b : Nat) : Int32 := if a = b then bI (inP s a && !inP (dayM n 0 s) a) else mmax (lf n s a b) (lf n s b a)
theorem lf_rg (a b : Nat) : lf n s a b = -1 ∨ rg (lf n s a b) 2 := by
  unfold lf
  split
  · right
    split
    · split
      · exact ⟨0, by omega, rfl⟩
      · exact ⟨1, by omega, rfl⟩
    · split
      · exact ⟨1, by omega, rfl⟩
      · exact ⟨2, by omega, rfl⟩
  · exact Or.inl rfl
theorem gv_rg {a b : Nat} (h0 : 0 ≤ gv n s a b) : rg (gv n s a b) 2 := by
  unfold gv at h0 ⊢
  by_cases e : a = b
  · rw [if_pos e]
    cases (inP s a && !inP (dayM n 0 s) a) with
    | false => exact ⟨0, by omega, rfl⟩
    | true => exact ⟨1, by omega, rfl⟩
  · rw [if_neg e] at h0 ⊢
    unfold mmax at h0 ⊢
    by_cases c : lf n s a b < lf n s b a
    · rw [if_pos c] at h0 ⊢
      rcases lf_rg (n := n) (s := s) b a with y | y
      · rw [y] at h0; exact absurd h0 (by decide)
      · exact y
    · rw [if_neg c] at h0 ⊢
      rcases lf_rg (n := n) (s := s) a b with y | y
      · rw [y] at h0; exact absurd h0 (by decide)
      · exact y
theorem gv_aa {a : Nat} : rg (gv n s a a) 1 := by
  unfold gv
  rw [if_pos rfl]
  cases (inP s a && !inP (dayM n 0 s) a) with
  | false => exact ⟨0, by omega, rfl⟩
  | true => exact ⟨1, by omega, rfl⟩
theorem c_gone (Q : QS n s h h') {a b : Nat} (ha : a < n) (hb : b < n) (hab : a ≠ b) : ∃ h1, f_X11_goneIfLent (some 0) (i32 a) (i32 b) h = some (lf n s a b, h1) ∧ FrB 8 h h1 := by
  unfold f_X11_goneIfLent lf
  have W := Q.1.1
  have O := Q.1.2.2
  have h7 := Q.h7
  simp only [W.o0, sb_some, cv_ok W.2.2.1.1.1.1, k_canLend Q.1.2.1 O ha hb, bd_some]
  cases e : cl a b 5 s with
  | false =>
    rw [if_pos pb0]
    exact ⟨h, rfl, FrB.rf 8 h⟩
  | true =>
    rw [if_neg nb1, if_pos rfl]
    obtain ⟨⟨h1, a1, H1, -, B1⟩, -⟩ := Q.mind
    have W1 := W.fr B1 (Or.inr (Or.inl rfl))
    obtain ⟨h2, b1, H2, B2⟩ := k_lend H1 O ha hb 5
    have W2 := W1.fr B2 (Or.inr (Or.inl rfl))
    have O2 := Ok_lnd O ha hb hab ⟨5, by omega, rfl⟩ e
    obtain ⟨h3, c1, H3, O3, B3⟩ := k_passDay H2 O2
    have W3 := W2.fr B3 (Or.inr (Or.inl rfl))
    refine ⟨h3, ?_, B1.tr (B2.tr B3)⟩
    simp only [W.o1, W.o0, sb_some, cv_ok W.2.2.1.2.1.1.1, a1, bd_some, W1.o1, cv_ok H1.1.1.1, b1, W2.o1, cv_ok H2.1.1.1, c1, W3.o1, cv_ok H3.1.1.1, k_isIn H3 O3 ha, k_isIn H3 O3 hb, f_X11_goneIfLent_b59]
    cases inP (dayM n 0 (lnd a b 5 s)) a with
    | false =>
      rw [if_pos pb0]
      cases inP (dayM n 0 (lnd a b 5 s)) b with
      | false => rw [if_pos pb0]; rfl
      | true => rw [if_neg nb1]; rfl
    | true =>
      rw [if_neg nb1]
      cases inP (dayM n 0 (lnd a b 5 s)) b with
      | false => rw [if_pos pb0]; rfl
      | true => rw [if_neg nb1]; rfl
theorem ix7 (a b : Nat) : i32 a * 7 + i32 b = i32 (7 * a + b) := by
  rw [show (7 : Int32) = i32 7 from rfl, i32_mul, i32_add, Nat.mul_comm]
theorem ix7' (a b : Nat) : (7 : Int32) * i32 a + i32 b = i32 (7 * a + b) := by
  rw [show (7 : Int32) = i32 7 from rfl, i32_mul, i32_add]
theorem c_plan38 {a : Nat} (ha : a < n) (gone : Int32) (K : Option Nat → Int32 → Int32 → AH → Option (Unit × AH)) : ∀ (k m b : Nat) (h : AH), QS n s h h' → a < b → k < m → b + k = n → ∃ h1, f_X11_planPairs_b38 K m (some 0) gone (i32 a) (i32 b) h = K (some 0) gone (i32 (a + 1)) h1 ∧ QS n s h1 h' ∧ Fq 0 h h1 ∧ (∀ j, (∀ c, b ≤ c → c < n → j ≠ 7 * a + c) → aI h1 24 j = aI h 24 j) ∧ ∀ c, b ≤ c → c < n → aI h1 24 (7 * a + c) = gv n s a c := by
  intro k
  induction k with
  | zero =>
    intro m b h Q hab hm hb
    obtain ⟨m, rfl⟩ := succ_of hm
    have h7 := Q.h7
    have z : i32 n ≤ i32 b := by rw [i32_le (by omega) (by omega)]; omega
    rw [e_X11_planPairs_b38, Q.1.1.o0, sb_some, gI_1 Q.1.2.1.1.1.1, sb_some, Q.1.2.1.2.1.1, if_pos z, i32_s]
    exact ⟨h, rfl, Q, Fq.rf h, fun j _ => rfl, fun c c1 c2 => by omega⟩
  | succ k ih =>
    intro m b h Q hab hm hb
    obtain ⟨m, rfl⟩ := succ_of hm
    have h7 := Q.h7
    have W := Q.1.1
    have hbn : b < n := by omega
    have z : ¬ i32 n ≤ i32 b := by rw [i32_le (by omega) (by omega)]; omega
    obtain ⟨h1, a1, B1⟩ := c_gone Q ha hbn (by omega)
    have Q1 : QS n s h1 h' := Q.q B1.q (Fm.rf h')
    obtain ⟨h2, b1, B2⟩ := c_gone Q1 hbn ha (by omega)
    have Q2 : QS n s h2 h' := Q1.q B2.q (Fm.rf h')
    have e24 : aI h2 24 = aI h 24 := (B2.2.2.2.1 24 (by omega) (by omega) (by omega) (by omega) (by omega)).trans (B1.2.2.2.1 24 (by omega) (by omega) (by omega) (by omega) (by omega))
    have t24 := Q2.1.1.1.2.2.2.1
    have F3 : Fq 0 h2 (wI h2 24 (va_up (aI h2 24) (7 * a + b) (mmax (lf n s a b) (lf n s b a)))) := Fq.w24
    have Q3 : QS n s (wI h2 24 (va_up (aI h2 24) (7 * a + b) (mmax (lf n s a b) (lf n s b a)))) h' := Q2.q F3 (Fm.rf h')
    obtain ⟨h4, c1, c2, c3, c4, c5⟩ := ih m (b + 1) _ Q3 (by omega) (by omega) (by omega)
    refine ⟨h4, ?_, c2, B1.q.tr0 (B2.q.tr0 (F3.tr0 c3)), fun j hj => ?_, fun c c6 c7 => ?_⟩
    · rw [e_X11_planPairs_b38]
      simp only [W.o0, W.o6, sb_some, gI_1 Q.1.2.1.1.1.1, Q.1.2.1.2.1.1, if_neg z, cv_ok W.1.1, a1, bd_some, cv_ok Q1.1.1.1.1, b1, ix7, iS_ok t24 (show 7 * a + b < 49 by omega) (show 49 ≤ 1000 by omega), i32_s]
      exact c1
    · rw [c4 j (fun c d1 d2 => hj c (by omega) d2), aI_eq, up_ne (hj b (Nat.le_refl b) hbn), e24]
    · by_cases y : c = b
      · subst y
        rw [c4 _ (fun c d1 d2 => by omega), aI_eq, up_eq]
        unfold gv
        rw [if_neg (by omega)]
      · exact c5 c (by omega) c7
/-- the pairs' table of the class is right -/
def okG (n : Nat) (s : R54) (G : Nat → Int32) (lim : Nat) : Prop := ∀ a b, a < lim → a ≤ b → b < n → G (7 * a + b) = gv n s a b
theorem c_plan7 : ∀ (k m a : Nat) (h : AH), QS n s h h' → okG n s (aI h 24) a → k < m → a + k = n → ∃ h1, f_X11_planPairs_b7 m (some 0) (i32 (cd n (fun g => inP s g && !inP (dayM n 0 s) g))) (i32 a) h = f_X11_planPairs_b96 FU (some 0) 1 (wI h1 25 (va_up (aI h1 25) 0 0)) ∧ QS n s h1 h' ∧ Fq 0 h h1 ∧ okG n s (aI h1 24) n := by
  intro k
  induction k with
  | zero =>
    intro m a h Q G hm ha
    obtain ⟨m, rfl⟩ := succ_of hm
    have h7 := Q.h7
    have W := Q.1.1
    have z : i32 n ≤ i32 a := by rw [i32_le (by omega) (by omega)]; omega
    rw [e_X11_planPairs_b7, W.o0, sb_some, gI_1 Q.1.2.1.1.1.1, sb_some, Q.1.2.1.2.1.1, if_pos z, W.o7, sb_some, show (0 : Int32) = i32 0 from rfl, iS_ok W.1.2.2.2.2 (show 0 < 128 by omega) (by omega), sb_some]
    exact ⟨h, rfl, Q, Fq.rf h, by rw [show n = a by omega]; rw [show n = a by omega] at G; exact G⟩
  | succ k ih =>
    intro m a h Q G hm ha
    obtain ⟨m, rfl⟩ := succ_of hm
    have h7 := Q.h7
    have W := Q.1.1
    have han : a < n := by omega
    have z : ¬ i32 n ≤ i32 a := by rw [i32_le (by omega) (by omega)]; omega
    have hv : ((i32 (cd n (fun g => inP s g && !inP (dayM n 0 s) g)) >>> (i32 a &&& 31)) &&& 1) = gv n s a a := by
      rw [bt_at _ (cd_128 _ h7) a (by omega), cd_bit _ n (by omega) a (by omega), decide_eq_true han, Bool.true_and]
      unfold gv
      rw [if_pos rfl]
    have F1 : Fq 0 h (wI h 24 (va_up (aI h 24) (7 * a + a) (gv n s a a))) := Fq.w24
    have Q1 : QS n s (wI h 24 (va_up (aI h 24) (7 * a + a) (gv n s a a))) h' := Q.q F1 (Fm.rf h')
    obtain ⟨h2, c1, c2, c3, c4, c5⟩ := c_plan38 han (i32 (cd n (fun g => inP s g && !inP (dayM n 0 s) g))) (f_X11_planPairs_b7 m) (n - (a + 1)) FU (a + 1) _ Q1 (by omega) (fu_pos (by omega)) (by omega)
    obtain ⟨h3, d1, d2, d3, d4⟩ := ih m (a + 1) h2 c2 (fun x y x1 x2 x3 => by
      by_cases e : x = a
      · subst e
        by_cases e2 : y = x
        · subst e2
          rw [c4 _ (fun c q1 q2 => by omega), aI_eq, up_eq]
        · exact c5 y (by omega) x3
      · rw [c4 _ (fun c q1 q2 => by omega), aI_eq, up_ne (by omega)]
        exact G x y (by omega) x2 x3) (by omega) (by omega)
    refine ⟨h3, ?_, d2, F1.tr0 (c3.tr0 d3), d4⟩
    rw [e_X11_planPairs_b7]
    simp only [W.o0, W.o6, sb_some, gI_1 Q.1.2.1.1.1.1, Q.1.2.1.2.1.1, if_neg z, ix7, hv, iS_ok W.1.2.2.2.1 (show 7 * a + a < 49 by omega) (show 49 ≤ 1000 by omega), nm_eq, i32_s]
    rw [c1, d1]
theorem c_canPair (W : Wc h) {a b R : Nat} (ha : a < 7) (hb : b < 7) (hR : R < 128) : f_X11_canPair (some 0) (i32 a) (i32 b) (i32 R) h = some (bI (R.testBit b && decide (0 ≤ aI h 24 (7 * a + b))), h) := by
  unfold f_X11_canPair
  rw [bt_at R hR b hb]
  cases R.testBit b with
  | false => rw [if_neg (show ¬ bI false = 1 by decide)]; rfl
  | true =>
    rw [if_pos (show bI true = 1 from rfl), W.o6, sb_some, ix7, iA_ok W.1.2.2.2.1 (show 7 * a + b < 49 by omega) (by omega), sb_some]
    by_cases c : aI h 24 (7 * a + b) < 0
    · rw [if_pos c, decide_eq_false (Int32.not_le.mpr c)]; rfl
    · rw [if_neg c, decide_eq_true (Int32.not_lt.mp c)]; rfl
theorem c_goneWith (W : Wc h) {a b R : Nat} (ha : a < 7) (hb : b < 7) (hR : R < 128) : f_X11_goneWithPair (some 0) (i32 a) (i32 b) (i32 R) h = some (aI h 24 (7 * a + b) + aI h 25 (rm R b), h) := by
  unfold f_X11_goneWithPair
  rw [W.o6, sb_some, ix7, iA_ok W.1.2.2.2.1 (show 7 * a + b < 49 by omega) (by omega), sb_some, W.o7, sb_some, rm_i hR hb, iA_ok W.1.2.2.2.2 (rm_128 hR) (by omega), sb_some]
theorem c_most38 (W : Wc h) {a R : Nat} (ha : a < 7) (hR : R < 128) : ∀ (k m b : Nat) (acc : Int32), k < m → b + k = 7 → f_X11_mostGoneOf_b38 m (some 0) (i32 a) (i32 R) acc (i32 b) h = some (fld (bsF (aI h 24) (aI h 25) a R) b k acc, h) := by
  intro k
  induction k with
  | zero =>
    intro m b acc hm hb
    obtain ⟨m, rfl⟩ := succ_of hm
    rw [e_X11_mostGoneOf_b38, show b = 7 by omega]
    exact if_pos (by decide)
  | succ k ih =>
    intro m b acc hm hb
    obtain ⟨m, rfl⟩ := succ_of hm
    rw [e_X11_mostGoneOf_b38, if_neg (show ¬ (7 : Int32) ≤ i32 b by rw [show (7 : Int32) = i32 7 from rfl, i32_le (by omega) (by omega)]; omega), cv_ok W.1.1, c_canPair W ha (show b < 7 by omega) hR, bd_some, fld_s]
    unfold bsF
    cases R.testBit b && decide (0 ≤ aI h 24 (7 * a + b)) with
    | false =>
      rw [if_pos pb0, i32_s, ih m (b + 1) acc (by omega) (by omega)]
      rfl
    | true =>
      rw [if_neg nb1, cv_ok W.1.1, c_goneWith W ha (show b < 7 by omega) hR, bd_some, nm_eq, i32_s, ih m (b + 1) _ (by omega) (by omega)]
      rfl
theorem c_mostOf (W : Wc h) {a S : Nat} (hS : S < 128) (h7 : a < 7) (ha : S.testBit a = true) (hl : ∀ j, j < a → S.testBit j = false) : f_X11_mostGoneOf (some 0) (i32 S) h = some (bst (aI h 24) (aI h 25) a S, h) := by
  unfold f_X11_mostGoneOf bst
  rw [c_low hS h7 ha hl, bd_some, nm_eq, rm_i hS h7, W.o6, sb_some, ix7, iA_ok W.1.2.2.2.1 (show 7 * a + a < 49 by omega) (by omega), sb_some, W.o7, sb_some, iA_ok W.1.2.2.2.2 (rm_128 hS) (by omega), sb_some, nm_eq, nm_eq, i32_s]
  exact c_most38 W h7 (rm_128 hS) (6 - a) FU (a + 1) _ (fu_pos (by omega)) (by omega)
/-- the table of sets is right up to lim -/
def okT (V T : Nat → Int32) (P : Nat → Bool) (lim : Nat) : Prop := T 0 = 0 ∧ ∀ S a, S < lim → S < 128 → a < 7 → S.testBit a = true → (∀ j, j < a → S.testBit j = false) → sub S P → T S = bst V T a S
theorem okT_up {V T : Nat → Int32} {P : Nat → Bool} {S : Nat} {v : Int32} (hS0 : S ≠ 0) (hS : S < 128) (x : okT V T P S) (hv : ∀ a, a < 7 → S.testBit a = true → (∀ j, j < a → S.testBit j = false) → sub S P → v = bst V T a S) : okT V (va_up T S v) P (S + 1) := by
  refine ⟨by rw [up_ne (Ne.symm hS0)]; exact x.1, fun U a u1 u2 u3 u4 u5 u6 => ?_⟩
  have cg : bst V (va_up T S v) a U = bst V T a U := bst_congr u2 u3 u4 u6 (fun _ _ _ _ _ => rfl) (fun X x1 _ => up_ne (by omega))
  rw [cg]
  by_cases e : U = S
  · subst e
    rw [up_eq]
    exact hv a u3 u4 u5 u6
  · rw [up_ne e]
    exact x.2 U a (by omega) u2 u3 u4 u5 u6
theorem okT_more {V T : Nat → Int32} {P : Nat → Bool} {S : Nat} (x : okT V T P S) (hn : ¬ sub S P) : okT V T P (S + 1) := by
  refine ⟨x.1, fun U a u1 u2 u3 u4 u5 u6 => ?_⟩
  by_cases e : U = S
  · subst e; exact absurd u6 hn
  · exact x.2 U a (by omega) u2 u3 u4 u5 u6
theorem sub_i {S : Nat} (hS : S < 128) (h7 : n ≤ 7) (P : Nat → Bool) : (i32 S &&& (i32 (cd n P) ^^^ (-1)) = 0) ↔ sub S (fun g => decide (g < n) && P g) := by
  rw [bt_and_not S hS _ (cd_128 _ h7), i32_0 (by have := an_128 (t := cd n P) hS; omega)]
  constructor
  · intro e j hj b
    have := tb_an S (cd n P) j
    rw [e, Nat.zero_testBit, b, Bool.true_and, cd_bit _ n (by omega) j (by omega)] at this
    cases y : (decide (j < n) && P j) with
    | true => exact y
    | false => rw [y] at this; cases this
  · intro x
    refine nat_ext (m := 7) (an_128 hS) (by decide) fun j hj => ?_
    rw [tb_an, Nat.zero_testBit, cd_bit _ n (by omega) j (by omega)]
    cases b : S.testBit j with
    | false => rfl
    | true =>
      have q : (decide (j < n) && P j) = true := x j hj b
      rw [q]; rfl
/-- who is in, of those that there are -/
def inN (n : Nat) (s : R54) (g : Nat) : Bool := decide (g < n) && inP s g
theorem c_plan96 : ∀ (k m S : Nat) (h : AH), QS n s h h' → okT (aI h 24) (aI h 25) (inN n s) S → 1 ≤ S → k < m → S + k = cd n (inP s) + 1 → ∃ h1, f_X11_planPairs_b96 m (some 0) (i32 S) h = some ((), h1) ∧ QS n s h1 h' ∧ Fq 0 h h1 ∧ aI h1 24 = aI h 24 ∧ okT (aI h1 24) (aI h1 25) (inN n s) (cd n (inP s) + 1) := by
  intro k
  induction k with
  | zero =>
    intro m S h Q T h1 hm hS
    obtain ⟨m, rfl⟩ := succ_of hm
    have h7 := Q.h7
    have hl := cd_128 (inP s) h7
    rw [e_X11_planPairs_b96, Q.1.1.o0, sb_some, gI_1 Q.1.2.1.1.1.1, sb_some, Q.1.2.1.2.1.2.1, sI_cd h7 Q.1.2.2.1.2.2, if_pos (by rw [i32_lt (by omega) (by omega)]; omega)]
    exact ⟨h, rfl, Q, Fq.rf h, rfl, by rw [← hS]; exact T⟩
  | succ k ih =>
    intro m S h Q T h1 hm hS
    obtain ⟨m, rfl⟩ := succ_of hm
    have h7 := Q.h7
    have W := Q.1.1
    have hl := cd_128 (inP s) h7
    have hS1 : S < 128 := by omega
    rw [e_X11_planPairs_b96]
    simp only [W.o0, W.o7, sb_some, gI_1 Q.1.2.1.1.1.1, Q.1.2.1.2.1.2.1, sI_cd h7 Q.1.2.2.1.2.2, if_neg (show ¬ i32 (cd n (inP s)) < i32 S by rw [i32_lt (by omega) (by omega)]; omega), cv_ok W.1.1, i32_s]
    by_cases c : sub S (inN n s)
    · rw [if_pos ((sub_i hS1 h7 (inP s)).mpr c)]
      obtain ⟨a, a1, a2, a3⟩ := low_of (by omega) hS1
      have F : Fq 0 h (wI h 25 (va_up (aI h 25) S (bst (aI h 24) (aI h 25) a S))) := Fq.w25
      have Q1 : QS n s (wI h 25 (va_up (aI h 25) S (bst (aI h 24) (aI h 25) a S))) h' := Q.q F (Fm.rf h')
      have T1 : okT (aI (wI h 25 (va_up (aI h 25) S (bst (aI h 24) (aI h 25) a S))) 24) (aI (wI h 25 (va_up (aI h 25) S (bst (aI h 24) (aI h 25) a S))) 25) (inN n s) (S + 1) := by
        rw [aI_ne (show 24 ≠ 25 by omega), aI_eq]
        refine okT_up (by omega) hS1 T fun b b1 b2 b3 _ => ?_
        have : a = b := by
          rcases Nat.lt_trichotomy a b with y | y | y
          · rw [b3 a y] at a2; cases a2
          · exact y
          · rw [a3 b y] at b2; cases b2
        rw [this]
      rw [c_mostOf W hS1 a1 a2 a3, bd_some, iS_ok W.1.2.2.2.2 hS1 (by omega), sb_some]
      obtain ⟨h2, d1, d2, d3, d4, d5⟩ := ih m (S + 1) _ Q1 T1 (by omega) (by omega) (by omega)
      exact ⟨h2, d1, d2, F.tr0 d3, d4.trans (aI_ne (by omega)), d5⟩
    · rw [if_neg (fun y => c ((sub_i hS1 h7 (inP s)).mp y))]
      exact ih m (S + 1) h Q (okT_more T c) (by omega) (by omega) (by omega)
theorem c_plan (Q : QS n s h h') : ∃ h1, f_X11_planPairs (some 0) h = some ((), h1) ∧ QS n s h1 h' ∧ Fq 0 h h1 ∧ okG n s (aI h1 24) n ∧ okT (aI h1 24) (aI h1 25) (inN n s) (cd n (inP s) + 1) := by
  have h7 := Q.h7
  have W := Q.1.1
  obtain ⟨h1, a1, a2, M1, Q1, F1, G1⟩ := Q_mind Q
  obtain ⟨h2, b1, b2, M2, Q2, F2, G2⟩ := Q_day Q1 M1
  have Q2' : QS n s h2 h' := ⟨Q2.1, Q.2⟩
  have gn : f_X11_goneNextDay (some 0) h = some (i32 (cd n (fun g => inP s g && !inP (dayM n 0 s) g)), h2) := by
    unfold f_X11_goneNextDay
    simp only [W.o0, W.o1, sb_some, cv_ok W.2.2.1.2.1.1.1, a1, bd_some, Q1.1.1.o1, cv_ok M1.1.1.1.1, b1, Q2.1.1.o0, Q2.1.1.o1, gI_1 Q2.1.2.1.1.1.1, gI_1 M2.1.1.1.1, Q2.1.2.1.2.1.2.1, M2.1.2.1.2.1, sI_next h7 Q.1.2.2.1.2.2 M2.2.1.1.2.2]
  obtain ⟨h3, c1, c2, c3, c4⟩ := c_plan7 (h' := h') n FU 0 h2 Q2' (fun a b a1 _ _ => absurd a1 (Nat.not_lt_zero a)) (fu_pos (by omega)) (by omega)
  have F4 : Fq 0 h3 (wI h3 25 (va_up (aI h3 25) 0 0)) := Fq.w25
  have Q4 : QS n s (wI h3 25 (va_up (aI h3 25) 0 0)) h' := c2.q F4 (Fm.rf h')
  obtain ⟨h5, d1, d2, d3, d4, d5⟩ := c_plan96 (h' := h') (cd n (inP s)) FU 1 _ Q4 ⟨by rw [aI_eq, up_eq], fun S a x1 x2 x3 x4 _ _ => by
    have : S = 0 := by omega
    subst this
    rw [Nat.zero_testBit] at x4
    cases x4⟩ (by omega) (fu_pos (by have := cd_128 (inP s) h7; omega)) (by omega)
  refine ⟨h5, ?_, d2, F1.tr0 (F2.tr0 (c3.tr0 (F4.tr0 d3))), ?_, d5⟩
  · unfold f_X11_planPairs
    rw [cv_ok W.1.1, gn, bd_some]
    exact c1.trans d1
  · rw [d4, aI_ne (by omega)]
    exact c4
end PAIRS
