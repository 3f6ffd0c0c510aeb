/-! A HOUSE OF THE CLASS, AT THE CELL b -/
/-- the class of a kind of guest -/
def gk (k : Int32) (c : Nat) : Prop := (k = 0 ∧ c = 4) ∨ (k = 1 ∧ c = 0) ∨ (k = 2 ∧ c = 2) ∨ (k = 3 ∧ c = 9) ∨ (k = 4 ∧ c = 1) ∨ (k = 5 ∧ c = 3) ∨ (k = 6 ∧ c = 6) ∨ (k = 7 ∧ c = 8)
theorem gk_GF {k : Int32} {c : Nat} (h : gk k c) : c ∈ GF := by
  rcases h with ⟨-, rfl⟩ | ⟨-, rfl⟩ | ⟨-, rfl⟩ | ⟨-, rfl⟩ | ⟨-, rfl⟩ | ⟨-, rfl⟩ | ⟨-, rfl⟩ | ⟨-, rfl⟩ <;> decide
/-- a guest's object: its kind and figure -/
def Gst (h : AH) (k : Nat) (κ f : Int32) : Prop := k < aN h ∧ ∃ c, aT h k = some (.inr c) ∧ gk κ c ∧ aI h k 0 = κ ∧ aI h k 1 = f
def Hty (h : AH) (b : Nat) : Prop := (aT h b = some (.inr 5) ∧ aT h (b + 1) = some (.inl (2, 7)) ∧ aT h (b + 2) = some (.inl (0, 7)) ∧ aT h (b + 3) = some (.inl (0, 7)) ∧ aT h (b + 4) = some (.inl (0, 7)) ∧ aT h (b + 5) = some (.inl (0, 7))) ∧ (aR h b 0 = some (b + 1) ∧ aR h b 1 = some (b + 2) ∧ aR h b 2 = some (b + 3) ∧ aR h b 3 = some (b + 4) ∧ aR h b 4 = some (b + 5)) ∧ b + 5 < aN h
/-- guest g as the row s has him -/
def PG (h : AH) (b : Nat) (s : R54) (g : Nat) : Prop := (∃ k, aR h (b + 1) g = some k ∧ Gst h k (s (7 * g + 5)) (s (7 * g + 6))) ∧ aI h (b + 2) g = s (7 * g + 7) ∧ aI h (b + 3) g = s (7 * g + 8) ∧ aI h (b + 4) g = s (7 * g + 9) ∧ aI h (b + 5) g = s (7 * g + 10)
/-- all but the guests -/
def SC (h : AH) (b n : Nat) (s : R54) : Prop := aI h b 5 = i32 n ∧ aI h b 6 = sI n s ∧ aI h b 7 = s 3 ∧ aI h b 8 = s 4 ∧ aI h b 9 = s 2 ∧ aI h b 10 = s 1
def rg (x : Int32) (m : Nat) : Prop := ∃ j, j ≤ m ∧ x = i32 j
/-- the row s holds numbers of their ranges -/
def Ok (n : Nat) (s : R54) : Prop := (s 0 = i32 n ∧ n ≤ 7 ∧ B01 n s) ∧ (rg (s 3) 9 ∧ rg (s 4) 9 ∧ rg (s 2) 9999) ∧ ∀ g, g < n → rg (s (7 * g + 6)) 9 ∧ rg (s (7 * g + 7)) 99 ∧ rg (s (7 * g + 9)) 9 ∧ rg (s (7 * g + 5)) 7 ∧ rg (s (7 * g + 8)) 120
def Hs (h : AH) (b n : Nat) (s : R54) : Prop := Hty h b ∧ SC h b n s ∧ ∀ g, g < n → PG h b s g
/-- only the house at b was changed -/
def FrB (b : Nat) (h h1 : AH) : Prop := h1.1 = h.1 ∧ aT h1 = aT h ∧ aL h1 = aL h ∧ (∀ c, c ≠ b → c ≠ b + 2 → c ≠ b + 3 → c ≠ b + 4 → c ≠ b + 5 → aI h1 c = aI h c) ∧ (∀ c, c ≠ b + 1 → aR h1 c = aR h c)
theorem FrB.rf (b : Nat) (h : AH) : FrB b h h := ⟨rfl, rfl, rfl, fun _ _ _ _ _ _ => rfl, fun _ _ => rfl⟩
theorem FrB.tr {b : Nat} {h h1 h2 : AH} (x : FrB b h h1) (y : FrB b h1 h2) : FrB b h h2 :=
  ⟨y.1.trans x.1, y.2.1.trans x.2.1, y.2.2.1.trans x.2.2.1, fun c e0 e1 e2 e3 e4 => (y.2.2.2.1 c e0 e1 e2 e3 e4).trans (x.2.2.2.1 c e0 e1 e2 e3 e4), fun c e => (y.2.2.2.2 c e).trans (x.2.2.2.2 c e)⟩
theorem FrB.wI {b a : Nat} {h : AH} {f : Nat → Int32} (ha : a = b ∨ a = b + 2 ∨ a = b + 3 ∨ a = b + 4 ∨ a = b + 5) : FrB b h (wI h a f) :=
  ⟨rfl, rfl, rfl, fun c e0 e1 e2 e3 e4 => aI_ne (by rcases ha with rfl | rfl | rfl | rfl | rfl <;> assumption), fun _ _ => rfl⟩
theorem FrB.wR {b : Nat} {h : AH} {f : Nat → Option Nat} : FrB b h (wR h (b + 1) f) := ⟨rfl, rfl, rfl, fun _ _ _ _ _ _ => rfl, fun _ e => aR_ne e⟩
theorem Hty.fr {b a : Nat} {h h1 : AH} (x : Hty h b) (f : FrB a h h1) (e : b ≠ a + 1) : Hty h1 b := by
  unfold Hty at x ⊢
  rw [f.2.1, f.2.2.2.2 b e, show aN h1 = aN h from congrArg (fun q : Nat × Nat => q.1) f.1]
  exact x
theorem Gst.fr {b k : Nat} {h h1 : AH} {κ f : Int32} (x : Gst h k κ f) (y : Hty h b) (z : FrB b h h1) : Gst h1 k κ f := by
  obtain ⟨x0, c, x1, x2, x3⟩ := x
  have hne : ∀ q t, aT h q = some t → (∀ j, t = .inr j → j = 5) → k ≠ q := fun q t e1 e2 e3 => by
    subst e3
    rw [x1] at e1
    cases e1
    have := e2 _ rfl
    subst this
    exact absurd (gk_GF x2) (by decide)
  obtain ⟨⟨y0, y1, y2, y3, y4, y5⟩, -, -⟩ := y
  have hi : aI h1 k = aI h k := z.2.2.2.1 k (hne _ _ y0 (fun j e => by cases e; rfl)) (hne _ _ y2 (fun j e => nomatch e)) (hne _ _ y3 (fun j e => nomatch e)) (hne _ _ y4 (fun j e => nomatch e)) (hne _ _ y5 (fun j e => nomatch e))
  exact ⟨by rw [show aN h1 = aN h from congrArg (fun q : Nat × Nat => q.1) z.1]; exact x0, c, by rw [z.2.1]; exact x1, x2, by rw [hi]; exact x3⟩
theorem PG.fr {b a g : Nat} {h h1 : AH} {s : R54} (x : PG h b s g) (y : Hty h a) (z : FrB a h h1) (e : b + 6 ≤ a ∨ a + 6 ≤ b) : PG h1 b s g := by
  obtain ⟨⟨k, x0, x1⟩, x2⟩ := x
  unfold PG
  rw [z.2.2.2.2 (b + 1) (by omega), z.2.2.2.1 (b + 2) (by omega) (by omega) (by omega) (by omega) (by omega), z.2.2.2.1 (b + 3) (by omega) (by omega) (by omega) (by omega) (by omega), z.2.2.2.1 (b + 4) (by omega) (by omega) (by omega) (by omega) (by omega), z.2.2.2.1 (b + 5) (by omega) (by omega) (by omega) (by omega) (by omega)]
  exact ⟨⟨k, x0, x1.fr y z⟩, x2⟩
theorem SC.fr {b a n : Nat} {h h1 : AH} {s : R54} (x : SC h b n s) (z : FrB a h h1) (e : b + 6 ≤ a ∨ a + 6 ≤ b) : SC h1 b n s := by
  unfold SC
  rw [z.2.2.2.1 b (by omega) (by omega) (by omega) (by omega) (by omega)]
  exact x
theorem Hs.fr {b a n : Nat} {h h1 : AH} {s : R54} (x : Hs h b n s) (y : Hty h a) (z : FrB a h h1) (e : b + 6 ≤ a ∨ a + 6 ≤ b) : Hs h1 b n s :=
  ⟨x.1.fr z (by omega), x.2.1.fr z e, fun g hg => (x.2.2 g hg).fr y z e⟩
/-- the same guest in another row -/
theorem PG.cg {h : AH} {b g : Nat} {s t : R54} (x : PG h b s g) (e : ∀ j, j < 6 → t (7 * g + (5 + j)) = s (7 * g + (5 + j))) : PG h b t g := by
  unfold PG
  rw [e 0 (by omega), e 1 (by omega), e 2 (by omega), e 3 (by omega), e 4 (by omega), e 5 (by omega)]
  exact x
section HS
variable {h : AH} {b n g : Nat} {s : R54}
theorem k_knows (H : Hs h b n s) (h7 : n ≤ 7) (v : Int32) : f_X5_knows (some b) v h = some (bI (decide (0 ≤ v) && decide (v < i32 n)), h) := by
  unfold f_X5_knows
  by_cases h1 : v < 0
  · rw [if_pos h1, decide_eq_false (Int32.not_le.mpr h1)]; rfl
  · rw [if_neg h1, gI_1 H.1.1.1, sb_some, H.2.1.1, decide_eq_true (Int32.not_lt.mp h1)]
    by_cases h2 : i32 n ≤ v
    · rw [if_pos h2, decide_eq_false (Int32.not_lt.mpr h2)]; rfl
    · rw [if_neg h2, decide_eq_true (Int32.not_le.mp h2)]; rfl
theorem k_isIn (H : Hs h b n s) (O : Ok n s) (hg : g < n) : f_X5_isIn (some b) (i32 g) h = some (bI (inP s g), h) := by
  unfold f_X5_isIn
  rw [gI_1 H.1.1.1, sb_some, H.2.1.2.1, sI_at O.1.2.1 O.1.2.2 hg]
  cases inP s g <;> rfl
theorem k_isFull (H : Hs h b n s) (h7 : n ≤ 7) : f_X5_isFull (some b) h = some (bI (decide (n = 7)), h) := by
  unfold f_X5_isFull
  rw [gI_1 H.1.1.1, sb_some, H.2.1.1]
  have e7 : (i32 n < 7) = (n < 7) := i32_lt (b := 7) (by omega) (by omega)
  by_cases e : n = 7
  · rw [if_neg (by rw [e7]; omega), decide_eq_true e]; rfl
  · rw [if_pos (by rw [e7]; omega), decide_eq_false e]; rfl
/-- what dynamic calls answer -/
theorem k_dyn_rings {k : Nat} {κ f : Int32} (G : Gst h k κ f) : f_dyn_rings (some k) h = some (rng κ f, h) := by
  obtain ⟨-, c, hT, hk, h0, h1⟩ := G
  unfold f_dyn_rings dsp
  simp only [hT]
  rcases hk with ⟨rfl, rfl⟩ | ⟨rfl, rfl⟩ | ⟨rfl, rfl⟩ | ⟨rfl, rfl⟩ | ⟨rfl, rfl⟩ | ⟨rfl, rfl⟩ | ⟨rfl, rfl⟩ | ⟨rfl, rfl⟩
  · rfl
  · show f_X0_rings _ _ = _
    unfold f_X0_rings; rw [gI_ok hT (by decide), sb_some, h1]; rfl
  · rfl
  · show f_X9_rings _ _ = _
    unfold f_X9_rings; rw [gI_ok hT (by decide), sb_some, h1]; rfl
  · show f_X1_rings _ _ = _
    unfold f_X1_rings f_X0_rings; rw [cu_ok hT (by decide), gI_ok hT (by decide), sb_some, bd_some, h1]; rfl
  · show f_X3_rings _ _ = _
    unfold f_X3_rings f_X9_rings; rw [cu_ok hT (by decide), gI_ok hT (by decide), sb_some, bd_some, h1]; rfl
  · rfl
  · show f_X0_rings _ _ = _
    unfold f_X0_rings; rw [gI_ok hT (by decide), sb_some, h1]; rfl
theorem fm_food6 : ∀ j, j < 10 → mmax 0 (i32 j + 1 - 2) = hld (i32 j - 1) := by decide +kernel
theorem fm_danced5 : ∀ j, j < 10 → mmax 0 (i32 j - 1) = hld (i32 j - 1) := by decide +kernel
theorem k_dyn_food {k : Nat} {κ f v : Int32} (G : Gst h k κ f) (hv : rg v 9) : f_dyn_food (some k) v h = some (eat κ v, h) := by
  obtain ⟨-, c, hT, hk, h0, h1⟩ := G
  unfold f_dyn_food dsp
  simp only [hT]
  rcases hk with ⟨rfl, rfl⟩ | ⟨rfl, rfl⟩ | ⟨rfl, rfl⟩ | ⟨rfl, rfl⟩ | ⟨rfl, rfl⟩ | ⟨rfl, rfl⟩ | ⟨rfl, rfl⟩ | ⟨rfl, rfl⟩
  · rfl
  · rfl
  · rfl
  · rfl
  · show f_X1_food _ _ _ = _
    unfold f_X1_food f_X0_food; rw [cu_ok hT (by decide), bd_some]; rfl
  · show f_X3_food _ _ _ = _
    unfold f_X3_food f_X4_food; rw [cu_ok hT (by decide), bd_some]; rfl
  · show f_X6_food _ _ _ = _
    obtain ⟨j, hj, rfl⟩ := hv
    unfold f_X6_food f_X2_food; rw [cu_ok hT (by decide), bd_some, fm_food6 j (by omega)]; rfl
  · rfl
theorem k_dyn_danced {k : Nat} {κ f v : Int32} (G : Gst h k κ f) (hv : rg v 9) : f_dyn_danced (some k) v h = some (dnc κ f v, h) := by
  obtain ⟨-, c, hT, hk, h0, h1⟩ := G
  unfold f_dyn_danced dsp
  simp only [hT]
  rcases hk with ⟨rfl, rfl⟩ | ⟨rfl, rfl⟩ | ⟨rfl, rfl⟩ | ⟨rfl, rfl⟩ | ⟨rfl, rfl⟩ | ⟨rfl, rfl⟩ | ⟨rfl, rfl⟩ | ⟨rfl, rfl⟩
  · rfl
  · rfl
  · show f_X2_danced _ _ _ = _
    unfold f_X2_danced; rw [gI_ok hT (by decide), sb_some, h1]; rfl
  · rfl
  · rfl
  · show f_X3_danced _ _ _ = _
    obtain ⟨j, hj, rfl⟩ := hv
    unfold f_X3_danced f_X4_danced; rw [cu_ok hT (by decide), bd_some, fm_danced5 j (by omega)]; rfl
  · show f_X6_danced _ _ _ = _
    unfold f_X6_danced f_X2_danced; rw [cu_ok hT (by decide), gI_ok hT (by decide), sb_some, bd_some, h1]; rfl
  · show f_X8_danced _ _ _ = _
    unfold f_X8_danced f_X0_danced; rw [cu_ok hT (by decide), bd_some, Int32.add_comm]; rfl
theorem k_dyn_lighter {k : Nat} {κ f : Int32} (G : Gst h k κ f) : f_dyn_lighterBySecret (some k) h = some (lgt κ f, h) := by
  obtain ⟨-, c, hT, hk, h0, h1⟩ := G
  unfold f_dyn_lighterBySecret dsp
  simp only [hT]
  rcases hk with ⟨rfl, rfl⟩ | ⟨rfl, rfl⟩ | ⟨rfl, rfl⟩ | ⟨rfl, rfl⟩ | ⟨rfl, rfl⟩ | ⟨rfl, rfl⟩ | ⟨rfl, rfl⟩ | ⟨rfl, rfl⟩
  · rfl
  · show f_X0_lighterBySecret _ _ = _
    unfold f_X0_lighterBySecret; rw [gI_ok hT (by decide), sb_some, h1]; rfl
  · rfl
  · rfl
  · show f_X1_lighterBySecret _ _ = _
    unfold f_X1_lighterBySecret f_X0_lighterBySecret; rw [cu_ok hT (by decide), gI_ok hT (by decide), sb_some, bd_some, h1]; rfl
  · rfl
  · rfl
  · show f_X0_lighterBySecret _ _ = _
    unfold f_X0_lighterBySecret; rw [gI_ok hT (by decide), sb_some, h1]; rfl
theorem k_dyn_stay {k : Nat} {κ f : Int32} (G : Gst h k κ f) : f_dyn_stay (some k) h = some (sty κ f, h) := by
  obtain ⟨-, c, hT, hk, h0, h1⟩ := G
  unfold f_dyn_stay dsp
  simp only [hT]
  rcases hk with ⟨rfl, rfl⟩ | ⟨rfl, rfl⟩ | ⟨rfl, rfl⟩ | ⟨rfl, rfl⟩ | ⟨rfl, rfl⟩ | ⟨rfl, rfl⟩ | ⟨rfl, rfl⟩ | ⟨rfl, rfl⟩
  · rfl
  · rfl
  · show f_X2_stay _ _ = _
    unfold f_X2_stay; rw [gI_ok hT (by decide), sb_some, h1]; rfl
  · rfl
  · rfl
  · rfl
  · show f_X2_stay _ _ = _
    unfold f_X2_stay; rw [gI_ok hT (by decide), sb_some, h1]; rfl
  · rfl
theorem k_dyn_price {k : Nat} {κ f : Int32} (G : Gst h k κ f) : f_dyn_price (some k) h = some (cst κ f, h) := by
  obtain ⟨-, c, hT, hk, h0, h1⟩ := G
  unfold f_dyn_price dsp
  simp only [hT]
  rcases hk with ⟨rfl, rfl⟩ | ⟨rfl, rfl⟩ | ⟨rfl, rfl⟩ | ⟨rfl, rfl⟩ | ⟨rfl, rfl⟩ | ⟨rfl, rfl⟩ | ⟨rfl, rfl⟩ | ⟨rfl, rfl⟩
  · rfl
  · show f_X0_price _ _ = _
    unfold f_X0_price f_X4_price; rw [cu_ok hT (by decide), bd_some, gI_ok hT (by decide), sb_some, h1]; rfl
  · rfl
  · show f_X9_price _ _ = _
    unfold f_X9_price f_X4_price; rw [cu_ok hT (by decide), bd_some]; rfl
  · show f_X1_price _ _ = _
    unfold f_X1_price f_X0_price f_X4_price; rw [cu_ok hT (by decide), cu_ok hT (by decide), bd_some, gI_ok hT (by decide), sb_some, h1]; rfl
  · rfl
  · show f_X6_price _ _ = _
    unfold f_X6_price f_X2_price; rw [cu_ok hT (by decide), bd_some]; rfl
  · show f_X8_price _ _ = _
    unfold f_X8_price f_X0_price f_X4_price; rw [cu_ok hT (by decide), cu_ok hT (by decide), bd_some, gI_ok hT (by decide), sb_some, h1, bd_some]
    show some (2 + f - 1, h) = some (1 + f, h)
    rw [Int32.add_comm 2 f, Int32.add_comm 1 f, Int32.sub_eq_add_neg, Int32.add_assoc]
    rfl
end HS
