/-! FRACTIONS: mean relief, feasts -/
def i64 (n : Nat) : Int64 := Int64.ofNat n
theorem i64_add (a b : Nat) : i64 a + i64 b = i64 (a + b) := (Int64.ofNat_add a b).symm
theorem i64_mul (a b : Nat) : i64 a * i64 b = i64 (a * b) := (Int64.ofNat_mul a b).symm
theorem i64_sub {a b : Nat} (h : b ≤ a) : i64 a - i64 b = i64 (a - b) := (Int64.ofNat_sub a b h).symm
theorem i64_div {a b : Nat} (ha : a < 9223372036854775808) (hb : b < 9223372036854775808) : i64 a / i64 b = i64 (a / b) := (Int64.ofNat_div ha hb).symm
theorem i64_t {a : Nat} (h : a < 9223372036854775808) : (i64 a).toInt = a := Int64.toInt_ofNat_of_lt h
theorem i64_0 {a : Nat} (h : a < 9223372036854775808) : (i64 a = 0) = (a = 0) := propext ⟨fun e => by
  have e1 := congrArg Int64.toInt e
  rw [i64_t h] at e1
  have : (0 : Int64).toInt = 0 := by decide
  omega, fun e => by rw [e]; rfl⟩
theorem i64_mod {a b : Nat} (ha : a < 9223372036854775808) (hb : b < 9223372036854775808) : i64 a - i64 a / i64 b * i64 b = i64 (a % b) := by
  have h1 := Nat.div_add_mod a b
  have h2 : a / b * b ≤ a := Nat.div_mul_le_self a b
  rw [i64_div ha hb, i64_mul, i64_sub h2]
  congr 1
  rw [Nat.mul_comm] at h1
  omega
theorem i64_32 {a : Nat} (h : a < 2147483648) : Int32.toInt64 (i32 a) = i64 a := Int32.toInt64_ofNat' (by
  have : Int32.maxValue.toInt = 2147483647 := by decide
  omega)
theorem lg_0 {b : Nat} (h : b < 9223372036854775808) : (lg_cmp (i64 b) 0 = 0) = (b = 0) := by
  have h0 : (0 : Int64).toInt = 0 := by decide
  unfold lg_cmp
  by_cases c : b = 0
  · subst c
    exact propext ⟨fun _ => rfl, fun _ => by decide⟩
  · have : i64 b > 0 := by
      show (0 : Int64) < i64 b
      rw [Int64.lt_iff_toInt_lt, i64_t h, h0]
      omega
    rw [if_pos this]
    exact propext ⟨fun z => absurd z (by decide), fun z => absurd z c⟩
theorem lg_nn {b : Nat} (h : b < 9223372036854775808) : 0 ≤ lg_cmp (i64 b) 0 := by
  have h0 : (0 : Int64).toInt = 0 := by decide
  unfold lg_cmp
  by_cases c : b = 0
  · subst c; decide
  · have : i64 b > 0 := by
      show (0 : Int64) < i64 b
      rw [Int64.lt_iff_toInt_lt, i64_t h, h0]
      omega
    rw [if_pos this]
    decide
theorem step_half {a b k : Nat} (hb : 0 < b) (hab : b ≤ a) (h : a * b < 2 ^ (k + 1)) : b * (a % b) < 2 ^ k := by
  have h1 : a % b < b := Nat.mod_lt a hb
  have h2 : 2 * (a % b) < a + 1 := by
    have h3 : a % b + b ≤ a := by
      have := Nat.div_add_mod a b
      have h4 : 1 ≤ a / b := Nat.div_pos hab hb
      have h5 : b * 1 ≤ b * (a / b) := Nat.mul_le_mul_left b h4
      omega
    omega
  have h6 : b * (2 * (a % b)) ≤ b * a := Nat.mul_le_mul_left b (by omega)
  rw [Nat.pow_succ, Nat.mul_comm a b] at h
  have h7 : b * (2 * (a % b)) = 2 * (b * (a % b)) := by rw [Nat.mul_left_comm]
  omega
/-- what both answer of a fraction -/
def frc (a b : Nat) (part : Int32) : Int64 := if part = 0 then i64 (a / Nat.gcd b a) else i64 (b / Nat.gcd b a)
theorem k_least9 {A B : Nat} (hA : A < 4611686018427387904) (hB : 0 < B ∧ B < 4611686018427387904) (part : Int32) {h : AH} : ∀ (k m i a b : Nat), b ≤ a → 0 < a → a < 4611686018427387904 → a * b < 2 ^ k → Nat.gcd a b = Nat.gcd B A → k < m → i + k ≤ 127 → f_X11_leastTerms_b9 m (i64 A) (i64 B) part (i64 a) (i64 b) (i32 i) h = some (frc A B part, h) := by
  have hg : 0 < Nat.gcd B A := Nat.gcd_pos_of_pos_left A hB.1
  have hgl : Nat.gcd B A ≤ B := Nat.gcd_le_left A hB.1
  have fin : ∀ m i a b, b = 0 → a < 4611686018427387904 → Nat.gcd a b = Nat.gcd B A → i ≤ 127 → f_X11_leastTerms_b9 (m + 1) (i64 A) (i64 B) part (i64 a) (i64 b) (i32 i) h = some (frc A B part, h) := by
    intro m i a b hb ha e hi
    subst hb
    rw [Nat.gcd_zero_right] at e
    rw [e_X11_leastTerms_b9, if_neg (show ¬ (128 : Int32) ≤ i32 i by rw [show (128 : Int32) = i32 128 from rfl, i32_le (by omega) (by omega)]; omega), if_pos (by rw [lg_0 (by omega)])]
    unfold f_X11_leastTerms_b45 frc
    have a0 : ¬ i64 a = 0 := by rw [i64_0 (by omega)]; omega
    rw [if_neg (by rw [lg_0 (by omega)]; omega), if_neg a0, if_neg a0, ← e]
    split
    · rw [i64_div (by omega) (by omega)]
    · rw [i64_div (by omega) (by omega)]
  intro k
  induction k with
  | zero =>
    intro m i a b hab ha ha2 hp e hm hi
    obtain ⟨m, rfl⟩ := succ_of hm
    have : b = 0 := by
      rcases Nat.eq_zero_or_pos b with z | z
      · exact z
      · have := Nat.mul_pos ha z
        omega
    exact fin m i a b this ha2 e (by omega)
  | succ k ih =>
    intro m i a b hab ha ha2 hp e hm hi
    obtain ⟨m, rfl⟩ := succ_of hm
    rcases Nat.eq_zero_or_pos b with z | z
    · exact fin m i a b z ha2 e (by omega)
    · rw [e_X11_leastTerms_b9, if_neg (show ¬ (128 : Int32) ≤ i32 i by rw [show (128 : Int32) = i32 128 from rfl, i32_le (by omega) (by omega)]; omega), if_neg (by rw [lg_0 (by omega)]; omega), if_neg (by rw [i64_0 (by omega)]; omega), nm_eq, i64_mod (by omega) (by omega), i32_s]
      have hm2 : a % b < b := Nat.mod_lt a z
      refine ih m (i + 1) b (a % b) (by omega) z (by omega) (step_half z hab hp) ?_ (by omega) (by omega)
      rw [← e, Nat.gcd_comm b, ← Nat.gcd_rec, Nat.gcd_comm]
theorem k_least {A B : Nat} (hA : A < 4611686018427387904) (hB : 0 < B ∧ B < 4611686018427387904) (part : Int32) {h : AH} : f_X11_leastTerms (i64 A) (i64 B) part h = some (frc A B part, h) := by
  unfold f_X11_leastTerms
  have p2 : ∀ x y : Nat, x < 4611686018427387904 → y < 4611686018427387904 → x * y < 2 ^ 124 := fun x y hx hy => by
    have h1 : x * y ≤ x * 4611686018427387904 := Nat.mul_le_mul_left x (by omega)
    have h2 : x * 4611686018427387904 < 4611686018427387904 * 4611686018427387904 := Nat.mul_lt_mul_of_pos_right hx (by omega)
    have h3 : 4611686018427387904 * 4611686018427387904 = 2 ^ 124 := by decide
    omega
  by_cases c : A ≤ B
  · exact k_least9 hA hB part 124 FU 0 B A c hB.1 hB.2 (p2 B A hB.2 hA) rfl (fu_pos (by omega)) (by omega)
  · obtain ⟨m, em⟩ : ∃ m, FU = m + 1 ∧ 124 < m := ⟨1048575, rfl, by omega⟩
    have e0 : B % A = B := Nat.mod_eq_of_lt (by omega)
    rw [em.1, e_X11_leastTerms_b9, if_neg (show ¬ (128 : Int32) ≤ 0 by decide), if_neg (by rw [lg_0 (by omega)]; omega), if_neg (by rw [i64_0 (by omega)]; omega), nm_eq, i64_mod (by omega) (by omega), e0]
    exact k_least9 hA hB part 124 m 1 A B (by omega) (by omega) hA (p2 A B hA hB.2) (Nat.gcd_comm A B) em.2 (by omega)
theorem m_gcd17 {h : AH} : ∀ (k m a b : Nat), b ≤ a → 0 < a → a < 4611686018427387904 → a * b < 2 ^ k → k < m → f_X12_gcd_b17 m (i64 a) (i64 b) h = some (i64 (Nat.gcd a b), h) := by
  have fin : ∀ m a b, b = 0 → f_X12_gcd_b17 (m + 1) (i64 a) (i64 b) h = some (i64 (Nat.gcd a b), h) := by
    intro m a b hb
    subst hb
    rw [Nat.gcd_zero_right, e_X12_gcd_b17, if_pos (by rw [lg_0 (by omega)])]
  intro k
  induction k with
  | zero =>
    intro m a b hab ha ha2 hp hm
    obtain ⟨m, rfl⟩ := succ_of hm
    refine fin m a b ?_
    rcases Nat.eq_zero_or_pos b with z | z
    · exact z
    · have := Nat.mul_pos ha z
      omega
  | succ k ih =>
    intro m a b hab ha ha2 hp hm
    obtain ⟨m, rfl⟩ := succ_of hm
    rcases Nat.eq_zero_or_pos b with z | z
    · exact fin m a b z
    · have hm2 : a % b < b := Nat.mod_lt a z
      rw [e_X12_gcd_b17, if_neg (by rw [lg_0 (by omega)]; omega), if_neg (by rw [i64_0 (by omega)]; omega), nm_eq, i64_mod (by omega) (by omega), ih m b (a % b) (by omega) z (by omega) (step_half z hab hp) (by omega)]
      rw [Nat.gcd_comm b, ← Nat.gcd_rec, Nat.gcd_comm]
theorem m_partOf {A B : Nat} (hA : 0 < A ∧ A < 4611686018427387904) (hB : 0 < B ∧ B < 4611686018427387904) (part : Int32) {h : AH} : f_X12_partOf (i64 A) (i64 B) part h = some (frc A B part, h) := by
  have p2 : ∀ x y : Nat, x < 4611686018427387904 → y < 4611686018427387904 → x * y < 2 ^ 124 := fun x y hx hy => by
    have h1 : x * y ≤ x * 4611686018427387904 := Nat.mul_le_mul_left x (by omega)
    have h2 : x * 4611686018427387904 < 4611686018427387904 * 4611686018427387904 := Nat.mul_lt_mul_of_pos_right hx (by omega)
    have h3 : 4611686018427387904 * 4611686018427387904 = 2 ^ 124 := by decide
    omega
  have g0 : f_X12_gcd (i64 A) (i64 B) h = some (i64 (Nat.gcd B A), h) := by
    unfold f_X12_gcd f_X12_gcd_b12
    rw [if_pos (lg_nn (by omega)), Nat.gcd_comm]
    by_cases c : B ≤ A
    · exact m_gcd17 124 FU A B c hA.1 hA.2 (p2 A B hA.2 hB.2) (fu_pos (by omega))
    · obtain ⟨m, em⟩ : ∃ m, FU = m + 1 ∧ 124 < m := ⟨1048575, rfl, by omega⟩
      have e0 : A % B = A := Nat.mod_eq_of_lt (by omega)
      rw [em.1, e_X12_gcd_b17, if_neg (by rw [lg_0 (by omega)]; omega), if_neg (by rw [i64_0 (by omega)]; omega), nm_eq, i64_mod (by omega) (by omega), e0, m_gcd17 124 m B A (by omega) hB.1 hB.2 (p2 B A hB.2 hA.2) em.2, Nat.gcd_comm]
  have hg : 0 < Nat.gcd B A := Nat.gcd_pos_of_pos_left A hB.1
  have hgl : Nat.gcd B A ≤ B := Nat.gcd_le_left A hB.1
  have z0 : ¬ i64 (Nat.gcd B A) = 0 := by rw [i64_0 (by omega)]; omega
  unfold f_X12_partOf f_X12_partOf_b20 frc
  rw [if_neg (by rw [lg_0 (by omega)]; omega), g0, bd_some, if_neg z0, bd_some, if_neg z0]
  split
  · rw [i64_div (by omega) (by omega)]
  · rw [i64_div (by omega) (by omega)]
theorem m_part0 (B : Int64) (part : Int32) {h : AH} : f_X12_partOf (i64 0) B part h = some (Int32.toInt64 part, h) := by
  unfold f_X12_partOf
  rw [if_pos (by decide)]
theorem frc_0 {B : Nat} (hB : 0 < B) {part : Int32} (hp : part = 0 ∨ part = 1) : frc 0 B part = Int32.toInt64 part := by
  unfold frc
  rw [Nat.gcd_zero_right]
  rcases hp with rfl | rfl
  · rw [if_pos rfl, Nat.zero_div]; decide
  · rw [if_neg (by decide), Nat.div_self hB]; decide
section LONGS
variable {n : Nat} {s : R54} {h h' : AH}
def RLg (m : Nat) (h h' : AH) (o o' : Option (Int64 × AH)) : Prop := ∃ (r : Int64) (h1 h1' : AH), o = some (r, h1) ∧ o' = some (r, h1') ∧ Fq m h h1 ∧ Fm h' h1'
theorem RLg.mk {h h' : AH} {o o' : Option (Int64 × AH)} (r : Int64) (e : o = some (r, h)) (e' : o' = some (r, h')) : RLg 0 h h' o o' := ⟨r, h, h', e, e', Fq.rf h, Fm.rf h'⟩
theorem RLg.tr0 {m : Nat} {h h' h1 h1' : AH} {o o' : Option (Int64 × AH)} (F : Fq 0 h h1) (G : Fm h' h1') (R : RLg m h1 h1' o o') : RLg m h h' o o' := by
  obtain ⟨r, h2, h2', e1, e2, F2, G2⟩ := R
  have F3 := F.tr F2
  rw [Nat.zero_add] at F3
  exact ⟨r, h2, h2', e1, e2, F3, G.tr G2⟩
theorem c_isPart {h : AH} (v : Int32) : f_X11_isPart v h = some (bI (btw v 0 1), h) := by
  unfold f_X11_isPart
  by_cases c0 : v = 0
  · subst c0; rfl
  · rw [if_neg c0]
    by_cases c1 : v = 1
    · subst c1; rfl
    · rw [if_neg c1]
      cases e : btw v 0 1 with
      | false => rfl
      | true =>
        obtain ⟨j, rfl, hj⟩ := btw_of (m := 1) (by omega) e
        have : j = 0 ∨ j = 1 := by omega
        rcases this with rfl | rfl
        · exact absurd rfl c0
        · exact absurd rfl c1
theorem part_of {v : Int32} (e : btw v 0 1 = true) : v = 0 ∨ v = 1 := by
  obtain ⟨j, rfl, hj⟩ := btw_of (m := 1) (by omega) e
  have : j = 0 ∨ j = 1 := by omega
  rcases this with rfl | rfl
  · exact Or.inl rfl
  · exact Or.inr rfl
theorem rl_mean (Q : QS n s h h') (L : LW n s) {part : Int32} (hp : part = 0 ∨ part = 1) : ∀ (k m m' g c l : Nat), (c = 0 → l = 0) → (0 < c → 0 < l) → c ≤ g → l ≤ 120 * g → k < m → k < m' → g + k = n → ∃ r, f_X11_mean_b18 m (some 0) part (i32 c) (i32 l) (i32 g) h = some (r, h) ∧ f_X12_mean_b21 m' (some 26) part (i64 l) (i32 c) (i32 g) h' = some (r, h') := by
  have W := Q.1.1
  have M := Q.2.1
  have h7 := Q.h7
  have T := Q.1.2.1.1
  intro k
  induction k with
  | zero =>
    intro m m' g c l c0 c1 cg lg hm hm' hg
    obtain ⟨m, rfl⟩ := succ_of hm
    obtain ⟨m', rfl⟩ := succ_of hm'
    have z : i32 n ≤ i32 g := by rw [i32_le (by omega) (by omega)]; omega
    rw [e_X11_mean_b18, e_X12_mean_b21]
    simp only [W.o0, sb_some, gI_1 T.1.1, Q.1.2.1.2.1.1, if_pos z, M.o0, r54_0 M.1.2.1, Q.n0, i64_32 (show l < 2147483648 by omega), i64_32 (show c < 2147483648 by omega)]
    rcases Nat.eq_zero_or_pos c with z0 | z0
    · have l0 := c0 z0
      subst z0
      subst l0
      have e1 : Int32.toInt64 (mmax (i32 0) 1) = i64 1 := by decide
      rw [e1, k_least (by omega) ⟨by omega, by omega⟩, bd_some, m_part0, bd_some, frc_0 (by omega) hp]
      exact ⟨_, rfl, rfl⟩
    · have e1 : mmax (i32 c) 1 = i32 c := by
        have : ∀ c, c < 8 → 0 < c → mmax (i32 c) 1 = i32 c := by decide +kernel
        exact this c (by omega) z0
      rw [e1, i64_32 (show c < 2147483648 by omega), k_least (by omega) ⟨z0, by omega⟩, bd_some, m_partOf ⟨c1 z0, by omega⟩ ⟨z0, by omega⟩, bd_some]
      exact ⟨_, rfl, rfl⟩
  | succ k ih =>
    intro m m' g c l c0 c1 cg lg hm hm' hg
    obtain ⟨m, rfl⟩ := succ_of hm
    obtain ⟨m', rfl⟩ := succ_of hm'
    have hgn : g < n := by omega
    have z : ¬ i32 n ≤ i32 g := by rw [i32_le (by omega) (by omega)]; omega
    rw [e_X11_mean_b18, e_X12_mean_b21]
    simp only [W.o0, sb_some, gI_1 T.1.1, Q.1.2.1.2.1.1, if_neg z, M.o0, r54_0 M.1.2.1, Q.n0, cv_ok T.1.1, k_isIn Q.1.2.1 Q.1.2.2 hgn, bd_some, m_isHere M.1.2.1 (show g < 7 by omega), gR_1 T.1.1, T.2.1.2.1, T.2.1.2.2.1, iA_ok T.1.2.2.1 (show g < 7 by omega) (by omega), iA_ok T.1.2.2.2.1 (show g < 7 by omega) (by omega), (Q.1.2.1.2.2 g hgn).2.1, (Q.1.2.1.2.2 g hgn).2.2.1, m_of2, m_of3, r54 (7 * g + 7) (by omega) M.1.2.1, r54 (7 * g + 8) (by omega) M.1.2.1, Q.2.2.1, nm_eq, i32_s]
    show ∃ r, (if bI (inP s g) = 0 then _ else _) = _ ∧ (if bI (inP s g) = 0 then _ else _) = _
    cases e : inP s g with
    | true =>
      rw [if_neg nb1, if_neg nb1]
      exact ih m m' (g + 1) c l c0 c1 (by omega) (by omega) (by omega) (by omega) (by omega)
    | false =>
      rw [if_pos pb0, if_pos pb0]
      have hl := L g hgn e
      obtain ⟨w, w1, w2⟩ := (Q.1.2.2.2.2 g hgn).2.1
      obtain ⟨x, x1, x2⟩ := (Q.1.2.2.2.2 g hgn).2.2.2.2
      rw [w2, x2, i32_lt (by omega) (by omega)] at hl
      rw [w2, x2, i32_sub (by omega), i32_add, i64_32 (show x - w < 2147483648 by omega), i64_add]
      exact ih m m' (g + 1) (c + 1) (l + (x - w)) (by omega) (by omega) (by omega) (by omega) (by omega) (by omega) (by omega)
theorem R_mean (Q : QS n s h h') (L : LW n s) (v1 : Int32) : RLg 0 h h' (f_X11_mean (some 0) v1 h) (f_X12_mean (some 26) v1 h') := by
  unfold f_X11_mean f_X12_mean
  rw [c_isPart, bd_some, m_btw, bd_some]
  cases e : btw v1 0 1 with
  | false => exact RLg.mk _ (if_pos pb0) (if_pos pb0)
  | true =>
    rw [if_neg nb1, if_neg nb1]
    obtain ⟨r, e1, e2⟩ := rl_mean Q L (part_of e) n FU FU 0 0 0 (fun _ => rfl) (fun z => absurd z (by omega)) (by omega) (by omega) (fu_pos (by have := Q.h7; omega)) (fu_pos (by have := Q.h7; omega)) (by omega)
    exact RLg.mk r e1 e2
end LONGS
