/-! SETS OF GUESTS AS BITS -/
def cd (n : Nat) (p : Nat → Bool) : Nat := match n with
  | 0 => 0
  | n + 1 => cd n p + (if p n then 2 ^ n else 0)
theorem cd_z (p : Nat → Bool) : cd 0 p = 0 := rfl
theorem cd_s (n : Nat) (p : Nat → Bool) : cd (n + 1) p = cd n p + (if p n then 2 ^ n else 0) := rfl
theorem cd_lt (p : Nat → Bool) : ∀ n, cd n p < 2 ^ n
  | 0 => Nat.zero_lt_one
  | n + 1 => by
    have := cd_lt p n
    rw [cd_s]
    rw [Nat.pow_succ]
    split <;> omega
theorem cd_128 (p : Nat → Bool) {n : Nat} (h : n ≤ 7) : cd n p < 128 := Nat.lt_of_lt_of_le (cd_lt p n) (Nat.pow_le_pow_right (n := 2) (by decide) h)
theorem bt_or : ∀ n, n < 10 → ∀ s, s < 2 ^ n → i32 s ||| ((1 : Int32) <<< (i32 n &&& 31)) = i32 (s + 2 ^ n) := by decide +kernel
theorem bt_or0 : ∀ n, n < 7 → ∀ s, s < 2 ^ n → i32 s ||| ((0 : Int32) <<< (i32 n &&& 31)) = i32 s := by decide +kernel
theorem bt_or00 : ∀ s, s < 1024 → i32 s ||| (0 : Int32) = i32 s := by decide +kernel
theorem bt_at : ∀ s, s < 128 → ∀ g, g < 7 → (i32 s >>> (i32 g &&& 31)) &&& 1 = bI (s.testBit g) := by decide +kernel
theorem bt_add : ∀ n, n < 10 → ∀ s, s < 2 ^ n → ∀ g, g < 10 → (s + 2 ^ n).testBit g = (decide (g = n) || s.testBit g) := by decide +kernel
theorem bt_clr : ∀ s, s < 128 → ∀ g, g < 7 → i32 s &&& (((1 : Int32) <<< (i32 g &&& 31)) ^^^ (-1)) = i32 (s ^^^ (s &&& 2 ^ g)) := by decide +kernel
theorem bt_and_not : ∀ s, s < 128 → ∀ t, t < 128 → i32 s &&& (i32 t ^^^ (-1)) = i32 (s ^^^ (s &&& t)) := by decide +kernel
theorem tb_an (s t g : Nat) : (s ^^^ (s &&& t)).testBit g = (s.testBit g && !t.testBit g) := by
  rw [Nat.testBit_xor, Nat.testBit_and]
  cases s.testBit g <;> cases t.testBit g <;> rfl
theorem an_lt {s t m : Nat} (hs : s < 2 ^ m) : s ^^^ (s &&& t) < 2 ^ m := Nat.xor_lt_two_pow hs (Nat.lt_of_le_of_lt Nat.and_le_left hs)
theorem an_128 {s t : Nat} (hs : s < 128) : s ^^^ (s &&& t) < 128 := an_lt (m := 7) hs
theorem cd_bit (p : Nat → Bool) : ∀ n, n ≤ 10 → ∀ g, g < 10 → (cd n p).testBit g = (decide (g < n) && p g)
  | 0, _, g, _ => by
    rw [cd_z, Nat.zero_testBit, decide_eq_false (Nat.not_lt_zero g)]
    rfl
  | n + 1, hn, g, hg => by
    rw [cd_s]
    have ih := cd_bit p n (by omega) g hg
    by_cases e : p n = true
    · rw [if_pos e, bt_add n (by omega) _ (cd_lt p n) g hg, ih]
      by_cases e1 : g = n
      · subst e1
        rw [decide_eq_true rfl, decide_eq_true (Nat.lt_succ_self g), e]
        rfl
      · rw [decide_eq_false e1]
        by_cases e2 : g < n
        · rw [decide_eq_true e2, decide_eq_true (show g < n + 1 by omega)]; rfl
        · rw [decide_eq_false e2, decide_eq_false (show ¬ g < n + 1 by omega)]; rfl
    · rw [if_neg e, Nat.add_zero, ih]
      by_cases e1 : g = n
      · subst e1
        rw [(Bool.not_eq_true _).mp e, Bool.and_false, Bool.and_false]
      · by_cases e2 : g < n
        · rw [decide_eq_true e2, decide_eq_true (show g < n + 1 by omega)]
        · rw [decide_eq_false e2, decide_eq_false (show ¬ g < n + 1 by omega)]
theorem cd_congr {p q : Nat → Bool} : ∀ n, (∀ g, g < n → p g = q g) → cd n p = cd n q
  | 0, _ => rfl
  | n + 1, H => by
    rw [cd_s, cd_s, cd_congr n (fun g hg => H g (by omega)), H n (Nat.lt_succ_self n)]
theorem nat_ext {s t m : Nat} (hs : s < 2 ^ m) (ht : t < 2 ^ m) (H : ∀ g, g < m → s.testBit g = t.testBit g) : s = t := by
  refine Nat.eq_of_testBit_eq fun i => ?_
  by_cases e : i < m
  · exact H i e
  · rw [Nat.testBit_lt_two_pow (Nat.lt_of_lt_of_le hs (Nat.pow_le_pow_right (by decide) (by omega))), Nat.testBit_lt_two_pow (Nat.lt_of_lt_of_le ht (Nat.pow_le_pow_right (by decide) (by omega)))]
/-- who is in -/
def inP (s : R54) (g : Nat) : Bool := decide (s (7 * g + 11) = 1)
def B01 (n : Nat) (s : R54) : Prop := ∀ g, g < n → s (7 * g + 11) = 0 ∨ s (7 * g + 11) = 1
theorem sI_cd {n : Nat} {s : R54} (h7 : n ≤ 7) (hb : B01 n s) : sI n s = i32 (cd n (inP s)) := by
  unfold sI
  have key := fld_ind (f := fun g a => a ||| (s (7 * g + 11) <<< (i32 g &&& 31))) (fun j a => a = i32 (cd j (inP s))) n 0 0 rfl (fun j b _ hj e => by
    have hj' : j < n := by omega
    show b ||| (s (7 * j + 11) <<< (i32 j &&& 31)) = _
    rw [e]
    rw [cd_s]
    rcases hb j hj' with z | z
    · rw [z, bt_or0 j (by omega) _ (cd_lt _ j), show inP s j = false from decide_eq_false (by rw [z]; decide)]; rfl
    · rw [z, bt_or j (by omega) _ (cd_lt _ j), show inP s j = true from decide_eq_true z]; rfl)
  rw [Nat.zero_add] at key
  exact key
theorem in_01 {n : Nat} {s : R54} (hb : B01 n s) {g : Nat} (hg : g < n) : s (7 * g + 11) = bI (inP s g) := by
  unfold inP
  rcases hb g hg with z | z
  · rw [z, decide_eq_false (by decide)]; rfl
  · rw [z, decide_eq_true rfl]; rfl
theorem sI_at {n : Nat} {s : R54} (h7 : n ≤ 7) (hb : B01 n s) {g : Nat} (hg : g < n) : (sI n s >>> (i32 g &&& 31)) &&& 1 = bI (inP s g) := by
  rw [sI_cd h7 hb, bt_at _ (cd_128 _ h7) g (by omega), cd_bit _ n (by omega) g (by omega), decide_eq_true hg]
  rfl
theorem sI_clr {n : Nat} {s : R54} (h7 : n ≤ 7) (hb : B01 n s) {g : Nat} (hg : g < n) : sI n s &&& (((1 : Int32) <<< (i32 g &&& 31)) ^^^ (-1)) = sI n (va_up s (7 * g + 11) 0) := by
  have hb2 : B01 n (va_up s (7 * g + 11) 0) := fun j hj => by
    by_cases e : j = g
    · subst e; exact Or.inl (up_eq _ _ _)
    · rw [up_ne (by omega)]; exact hb j hj
  rw [sI_cd h7 hb, sI_cd h7 hb2, bt_clr _ (cd_128 _ h7) g (by omega)]
  congr 1
  refine nat_ext (m := n) (an_lt (cd_lt _ n)) (cd_lt _ n) fun j hj => ?_
  rw [tb_an, cd_bit _ n (by omega) j (by omega), cd_bit _ n (by omega) j (by omega), Nat.testBit_two_pow, decide_eq_true hj]
  unfold inP
  by_cases e : j = g
  · subst e
    rw [up_eq, decide_eq_true rfl, decide_eq_false (show ¬ (0 : Int32) = 1 by decide)]
    simp
  · rw [up_ne (by omega), decide_eq_false (show ¬ g = j from fun z => e z.symm)]
    simp
theorem sI_new {n : Nat} {s s2 : R54} (h7 : n < 7) (hb : B01 n s) (h1 : s2 (7 * n + 11) = 1) (h2 : ∀ g, g < n → s2 (7 * g + 11) = s (7 * g + 11)) : sI (n + 1) s2 = sI n s ||| ((1 : Int32) <<< (i32 n &&& 31)) := by
  have hb2 : B01 (n + 1) s2 := fun j hj => by
    by_cases e : j = n
    · subst e; exact Or.inr h1
    · rw [h2 j (by omega)]; exact hb j (by omega)
  rw [sI_cd (by omega) hb2, sI_cd (by omega) hb, bt_or n (by omega) _ (cd_lt _ n)]
  congr 1
  show cd n (inP s2) + _ = _
  have e : inP s2 n = true := decide_eq_true h1
  rw [if_pos e, cd_congr (q := inP s) n (fun g hg => by unfold inP; rw [h2 g hg])]
theorem sI_congr {n : Nat} {s s2 : R54} (h2 : ∀ g, g < n → s2 (7 * g + 11) = s (7 * g + 11)) : sI n s2 = sI n s := by
  unfold sI
  exact fld_congr n 0 0 (fun j b _ hj => by rw [h2 j (by omega)])
theorem sI_next {n : Nat} {s t : R54} (h7 : n ≤ 7) (hb : B01 n s) (ht : B01 n t) : sI n s &&& (sI n t ^^^ (-1)) = i32 (cd n (fun g => inP s g && !inP t g)) := by
  rw [sI_cd h7 hb, sI_cd h7 ht, bt_and_not _ (cd_128 _ h7) _ (cd_128 _ h7)]
  congr 1
  refine nat_ext (m := n) (an_lt (cd_lt _ n)) (cd_lt _ n) fun j hj => ?_
  rw [tb_an, cd_bit _ n (by omega) j (by omega), cd_bit _ n (by omega) j (by omega), cd_bit _ n (by omega) j (by omega), decide_eq_true hj]
  rfl
theorem cd_0 {n : Nat} {p : Nat → Bool} : cd n p = 0 ↔ ∀ g, g < n → p g = false := by
  induction n with
  | zero => exact ⟨fun _ g hg => absurd hg (Nat.not_lt_zero g), fun _ => rfl⟩
  | succ n ih =>
    rw [cd_s]
    constructor
    · intro e g hg
      by_cases e1 : p n = true
      · rw [if_pos e1] at e
        have := Nat.two_pow_pos n
        omega
      · rw [if_neg e1, Nat.add_zero] at e
        by_cases e2 : g = n
        · subst e2; exact (Bool.not_eq_true _).mp e1
        · exact ih.mp e g (by omega)
    · intro H
      rw [H n (Nat.lt_succ_self n), ih.mpr (fun g hg => H g (by omega))]
      rfl
