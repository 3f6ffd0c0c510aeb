/-! THE REFERENCE'S OTHER STEPS; THE TWO WORLDS SIDE BY SIDE -/
def hi (s t : R54) : Prop := ∀ j, 54 ≤ j → s j = t j
theorem hi.rf (s : R54) : hi s s := fun _ _ => rfl
theorem hi.tr {s t u : R54} (x : hi s t) (y : hi t u) : hi s u := fun j hj => (x j hj).trans (y j hj)
theorem hi.sy {s t : R54} (x : hi s t) : hi t s := fun j hj => (x j hj).symm
theorem hi.up {s t : R54} {i : Nat} {v : Int32} (x : hi s t) (h : i < 54) : hi (va_up s i v) t := fun j hj => (up_ne (by omega)).trans (x j hj)
theorem hi_eatW {s t : R54} {v : Int32} {g : Nat} (x : hi s t) (hg : g < 7) : hi (eatW v g s) t := by
  unfold eatW
  split
  · exact x.up (by omega)
  · exact x
theorem hi_go1 {s t : R54} {g : Nat} (x : hi s t) (hg : g < 7) : hi (go1 g s) t := by
  unfold go1
  split
  · exact (x.up (by omega)).up (by omega)
  · exact x
theorem hi_dayM {s t : R54} {n : Nat} {F : Int32} (x : hi s t) (h7 : n ≤ 7) : hi (dayM n F s) t := by
  unfold dayM
  refine fld_ind (fun _ r => hi r t) n 0 _ ?_ (fun j b _ hj e => hi_go1 e (by omega))
  refine fld_ind (fun _ r => hi r t) n 0 _ (x.up (by omega)) (fun j b _ hj e => ?_)
  rw [eat1_W]
  exact hi_eatW e (by omega)
theorem hi_daysM {t : R54} {n : Nat} (h7 : n ≤ 7) : ∀ (k : Nat) (s : R54), hi s t → hi (daysM n k s) t
  | 0, _, x => x
  | k + 1, _, x => hi_daysM h7 k _ (hi_dayM x h7)
theorem daysM_0 (n : Nat) : ∀ (k : Nat) (s : R54), daysM n k s 0 = s 0
  | 0, _ => rfl
  | k + 1, s => (daysM_0 n k (dayM n 0 s)).trans (dayM_0 n 0 s)
section M2
variable {h : AH} {c n g o : Nat}
theorem m_copies_b2 {a c : Nat} (hac : a ≠ c) : ∀ (k m i : Nat) (h : AH), aT h a = some (.inl (0, 54)) → aT h c = some (.inl (0, 54)) → hi (aI h c) (aI h a) → (∀ j, j < i → aI h c j = aI h a j) → k < m → i + k = 54 → f_X12_copies_b2 m (some a) (some c) (i32 i) h = some ((), wI h c (aI h a)) := by
  intro k
  induction k with
  | zero =>
    intro m i h ta tc hh hl hm hi
    obtain ⟨m, rfl⟩ := succ_of hm
    rw [e_X12_copies_b2, if_pos (show (54 : Int32) ≤ i32 i by rw [show (54 : Int32) = i32 54 from rfl, i32_le (by omega) (by omega)]; omega)]
    have e : aI h c = aI h a := by
      funext j
      by_cases z : j < 54
      · exact hl j (by omega)
      · exact hh j (by omega)
    rw [← e, wI_self]
  | succ k ih =>
    intro m i h ta tc hh hl hm hi
    obtain ⟨m, rfl⟩ := succ_of hm
    rw [e_X12_copies_b2, if_neg (show ¬ (54 : Int32) ≤ i32 i by rw [show (54 : Int32) = i32 54 from rfl, i32_le (by omega) (by omega)]; omega), r54 i (by omega) ta, sb_some, w54 i (by omega) _ tc, sb_some, i32_s]
    rw [ih m (i + 1) (wI h c (va_up (aI h c) i (aI h a i))) ta tc (by rw [aI_eq, aI_ne hac]; exact hh.up (by omega)) (fun j hj => by
      rw [aI_eq, aI_ne hac]
      by_cases e : j = i
      · subst e; exact up_eq _ _ _
      · rw [up_ne e]; exact hl j (by omega)) (by omega) (by omega), aI_ne hac, wI_wI]
theorem m_copies {a c : Nat} (hac : a ≠ c) (ta : aT h a = some (.inl (0, 54))) (tc : aT h c = some (.inl (0, 54))) (hh : hi (aI h c) (aI h a)) : f_X12_copies (some a) (some c) h = some ((), wI h c (aI h a)) :=
  m_copies_b2 hac 54 FU 0 h ta tc hh (fun j hj => absurd hj (Nat.not_lt_zero j)) (fu_pos (by omega)) (by omega)
theorem m_canTell (hT : aT h c = some (.inl (0, 54))) (hg : g < 7) : f_X12_canTell (some c) (i32 g) h = some (bI (ct g (aI h c)), h) := by
  unfold f_X12_canTell ct inP
  simp only [m_isHere hT hg, bd_some, bI_0, m_of4, r54 (7 * g + 9) (by omega) hT, sb_some]
  cases decide (aI h c (7 * g + 11) = 1) with
  | false => rfl
  | true =>
    rw [if_neg (by decide)]
    by_cases e : aI h c (7 * g + 9) ≤ 0
    · rw [if_pos e, decide_eq_false (Int32.not_lt.mpr e)]; rfl
    · rw [if_neg e, decide_eq_true (Int32.not_le.mp e)]; rfl
theorem m_canLend (hT : aT h c = some (.inl (0, 54))) (hg : g < 7) (ho : o < 7) (w : Int32) : f_X12_canLend (some c) (i32 g) (i32 o) w h = some (bI (cl g o w (aI h c)), h) := by
  unfold f_X12_canLend cl inP
  simp only [m_isHere hT hg, m_isHere hT ho, bd_some, bI_0, m_of2, r54 (7 * g + 7) (by omega) hT, r54 (7 * o + 7) (by omega) hT, sb_some]
  cases decide (aI h c (7 * g + 11) = 1) with
  | false => rfl
  | true =>
    rw [if_neg (by decide)]
    cases decide (aI h c (7 * o + 11) = 1) with
    | false => rfl
    | true =>
      rw [if_neg (by decide)]
      by_cases e : aI h c (7 * g + 7) < w
      · rw [if_pos e, decide_eq_false (Int32.not_le.mpr e)]; rfl
      · rw [if_neg e, decide_eq_true (Int32.not_lt.mp e)]
        by_cases e2 : 99 < aI h c (7 * o + 7) + w
        · rw [if_pos e2, decide_eq_false (Int32.not_le.mpr e2)]; rfl
        · rw [if_neg e2, decide_eq_true (Int32.not_lt.mp e2)]; rfl
theorem m_tellsIn (hT : aT h c = some (.inl (0, 54))) (hg : g < 7) : f_X12_tellsIn (some c) (i32 g) h = some ((), wI h c (tel g (aI h c))) := by
  unfold f_X12_tellsIn tel
  have hT2 : ∀ f, aT (wI h c f) c = some (.inl (0, 54)) := fun _ => hT
  simp only [m_of4, m_of2, m_of0, m_of1, bd_some, r54 (7 * g + 9) (by omega) hT, sb_some, w54 (7 * g + 9) (by omega) _ hT, r54 (7 * g + 7) (by omega) (hT2 _), r54 (7 * g + 5) (by omega) (hT2 _), r54 (7 * g + 6) (by omega) (hT2 _), m_lighterBy, m_held, w54 (7 * g + 7) (by omega) _ (hT2 _), aI_eq, wI_wI]
  rw [up_ne (show 7 * g + 7 ≠ 7 * g + 9 by omega), up_ne (show 7 * g + 5 ≠ 7 * g + 9 by omega), up_ne (show 7 * g + 6 ≠ 7 * g + 9 by omega)]
theorem m_lendsIn (hT : aT h c = some (.inl (0, 54))) (hg : g < 7) (ho : o < 7) (w : Int32) : f_X12_lendsIn (some c) (i32 g) (i32 o) w h = some ((), wI h c (lnd g o w (aI h c))) := by
  unfold f_X12_lendsIn lnd
  have hT2 : ∀ f, aT (wI h c f) c = some (.inl (0, 54)) := fun _ => hT
  simp only [m_of2, bd_some, r54 (7 * g + 7) (by omega) hT, sb_some, w54 (7 * g + 7) (by omega) _ hT, r54 (7 * o + 7) (by omega) (hT2 _), w54 (7 * o + 7) (by omega) _ (hT2 _), aI_eq, wI_wI]
theorem hi_tel {s t : R54} (x : hi s t) (hg : g < 7) : hi (tel g s) t := (x.up (by omega)).up (by omega)
theorem hi_lnd {s t : R54} {w : Int32} (x : hi s t) (hg : g < 7) (ho : o < 7) : hi (lnd g o w s) t := (x.up (by omega)).up (by omega)
theorem tel_0 (g : Nat) (s : R54) : tel g s 0 = s 0 := by unfold tel; rw [up_ne (by omega), up_ne (by omega)]
theorem lnd_0 (g o : Nat) (w : Int32) (s : R54) : lnd g o w s 0 = s 0 := by unfold lnd; rw [up_ne (by omega), up_ne (by omega)]
theorem m_lacks (hT : aT h c = some (.inl (0, 54))) (hg : g < 7) : f_X12_lacks (some c) (i32 g) h = some ((if inP (aI h c) g then mmax 0 (aI h c (7 * g + 7) - aI h c (7 * g + 8) + 1) else 0), h) := by
  unfold f_X12_lacks inP mmax
  simp only [m_of2, m_of3, bd_some, r54 (7 * g + 7) (by omega) hT, r54 (7 * g + 8) (by omega) hT, sb_some, nm_eq, m_isHere hT hg, bI_0]
  cases decide (aI h c (7 * g + 11) = 1) with
  | false => rfl
  | true =>
    rw [if_neg (by decide), if_pos rfl]
    by_cases e : aI h c (7 * g + 7) - aI h c (7 * g + 8) + 1 ≤ 0
    · rw [if_pos e, if_neg (Int32.not_lt.mpr e)]
    · rw [if_neg e, if_pos (Int32.not_le.mp e)]
end M2
/-- the reference's object and rows -/
def Wm (h : AH) : Prop := (aT h 26 = some (.inr 12) ∧ aT h 27 = some (.inl (0, 54)) ∧ aT h 28 = some (.inl (0, 54)) ∧ aT h 29 = some (.inl (0, 54)) ∧ aT h 30 = some (.inl (0, 54))) ∧ (aT h 31 = some (.inl (0, 3)) ∧ aT h 32 = some (.inl (0, 49)) ∧ aT h 33 = some (.inl (0, 128))) ∧ (aT h 34 = some (.inl (0, 8)) ∧ aT h 35 = some (.inl (0, 8)) ∧ aT h 36 = some (.inl (0, 8)) ∧ aT h 37 = some (.inl (0, 8)) ∧ aT h 38 = some (.inl (0, 8)) ∧ aT h 39 = some (.inl (0, 800))) ∧ (aR h 26 0 = some 27 ∧ aR h 26 1 = some 28 ∧ aR h 26 2 = some 29 ∧ aR h 26 3 = some 30) ∧ (aR h 26 8 = some 31 ∧ aR h 26 9 = some 32 ∧ aR h 26 10 = some 33) ∧ (aR h 26 12 = some 34 ∧ aR h 26 13 = some 35 ∧ aR h 26 14 = some 36 ∧ aR h 26 15 = some 37 ∧ aR h 26 16 = some 38 ∧ aR h 26 17 = some 39)
/-- the class's object and rows -/
def Wc (h : AH) : Prop := (aT h 0 = some (.inr 11) ∧ aT h 22 = some (.inl (2, 8)) ∧ aT h 23 = some (.inl (3, 8)) ∧ aT h 24 = some (.inl (0, 49)) ∧ aT h 25 = some (.inl (0, 128))) ∧ (aR h 0 0 = some 1 ∧ aR h 0 1 = some 8 ∧ aR h 0 2 = some 15 ∧ aR h 0 4 = some 22 ∧ aR h 0 5 = some 23 ∧ aR h 0 6 = some 24 ∧ aR h 0 7 = some 25) ∧ (Hty h 1 ∧ Hty h 8 ∧ Hty h 15) ∧ 41 ≤ aN h
theorem Wm.o0 {h : AH} (W : Wm h) : gR h (some 26) [12] 0 = some (some 27) := by rw [gR_1 W.1.1, W.2.2.2.1.1]
theorem Wm.o1 {h : AH} (W : Wm h) : gR h (some 26) [12] 1 = some (some 28) := by rw [gR_1 W.1.1, W.2.2.2.1.2.1]
theorem Wm.o2 {h : AH} (W : Wm h) : gR h (some 26) [12] 2 = some (some 29) := by rw [gR_1 W.1.1, W.2.2.2.1.2.2.1]
theorem Wm.o3 {h : AH} (W : Wm h) : gR h (some 26) [12] 3 = some (some 30) := by rw [gR_1 W.1.1, W.2.2.2.1.2.2.2]
theorem Wm.o8 {h : AH} (W : Wm h) : gR h (some 26) [12] 8 = some (some 31) := by rw [gR_1 W.1.1, W.2.2.2.2.1.1]
theorem Wm.o9 {h : AH} (W : Wm h) : gR h (some 26) [12] 9 = some (some 32) := by rw [gR_1 W.1.1, W.2.2.2.2.1.2.1]
theorem Wm.o10 {h : AH} (W : Wm h) : gR h (some 26) [12] 10 = some (some 33) := by rw [gR_1 W.1.1, W.2.2.2.2.1.2.2]
theorem Wm.o12 {h : AH} (W : Wm h) : gR h (some 26) [12] 12 = some (some 34) := by rw [gR_1 W.1.1, W.2.2.2.2.2.1]
theorem Wm.o13 {h : AH} (W : Wm h) : gR h (some 26) [12] 13 = some (some 35) := by rw [gR_1 W.1.1, W.2.2.2.2.2.2.1]
theorem Wm.o14 {h : AH} (W : Wm h) : gR h (some 26) [12] 14 = some (some 36) := by rw [gR_1 W.1.1, W.2.2.2.2.2.2.2.1]
theorem Wm.o15 {h : AH} (W : Wm h) : gR h (some 26) [12] 15 = some (some 37) := by rw [gR_1 W.1.1, W.2.2.2.2.2.2.2.2.1]
theorem Wm.o16 {h : AH} (W : Wm h) : gR h (some 26) [12] 16 = some (some 38) := by rw [gR_1 W.1.1, W.2.2.2.2.2.2.2.2.2.1]
theorem Wm.o17 {h : AH} (W : Wm h) : gR h (some 26) [12] 17 = some (some 39) := by rw [gR_1 W.1.1, W.2.2.2.2.2.2.2.2.2.2]
theorem Wc.o0 {h : AH} (W : Wc h) : gR h (some 0) [11] 0 = some (some 1) := by rw [gR_1 W.1.1, W.2.1.1]
theorem Wc.o1 {h : AH} (W : Wc h) : gR h (some 0) [11] 1 = some (some 8) := by rw [gR_1 W.1.1, W.2.1.2.1]
theorem Wc.o2 {h : AH} (W : Wc h) : gR h (some 0) [11] 2 = some (some 15) := by rw [gR_1 W.1.1, W.2.1.2.2.1]
theorem Wc.o4 {h : AH} (W : Wc h) : gR h (some 0) [11] 4 = some (some 22) := by rw [gR_1 W.1.1, W.2.1.2.2.2.1]
theorem Wc.o5 {h : AH} (W : Wc h) : gR h (some 0) [11] 5 = some (some 23) := by rw [gR_1 W.1.1, W.2.1.2.2.2.2.1]
theorem Wc.o6 {h : AH} (W : Wc h) : gR h (some 0) [11] 6 = some (some 24) := by rw [gR_1 W.1.1, W.2.1.2.2.2.2.2.1]
theorem Wc.o7 {h : AH} (W : Wc h) : gR h (some 0) [11] 7 = some (some 25) := by rw [gR_1 W.1.1, W.2.1.2.2.2.2.2.2]
theorem Wm.wI {h : AH} {c : Nat} {f : Nat → Int32} (W : Wm h) : Wm (wI h c f) := W
/-- what a query of the reference may change -/
def Fm (h h1 : AH) : Prop := (h1.1 = h.1 ∧ aT h1 = aT h ∧ aR h1 = aR h ∧ aL h1 = aL h) ∧ (∀ c, c ≠ 26 → c ≠ 28 → c ≠ 30 → c ≠ 31 → c ≠ 32 → c ≠ 33 → aI h1 c = aI h c) ∧ aI h1 26 4 = aI h 26 4 ∧ hi (aI h1 28) (aI h 28) ∧ hi (aI h1 30) (aI h 30)
theorem Fm.rf (h : AH) : Fm h h := ⟨⟨rfl, rfl, rfl, rfl⟩, fun _ _ _ _ _ _ _ => rfl, rfl, hi.rf _, hi.rf _⟩
theorem Fm.tr {h h1 h2 : AH} (x : Fm h h1) (y : Fm h1 h2) : Fm h h2 :=
  ⟨⟨y.1.1.trans x.1.1, y.1.2.1.trans x.1.2.1, y.1.2.2.1.trans x.1.2.2.1, y.1.2.2.2.trans x.1.2.2.2⟩, fun c e1 e2 e3 e4 e5 e6 => (y.2.1 c e1 e2 e3 e4 e5 e6).trans (x.2.1 c e1 e2 e3 e4 e5 e6), y.2.2.1.trans x.2.2.1, y.2.2.2.1.tr x.2.2.2.1, y.2.2.2.2.tr x.2.2.2.2⟩
theorem Fm.w28 {h : AH} {f : R54} (e : hi f (aI h 28)) : Fm h (wI h 28 f) := ⟨⟨rfl, rfl, rfl, rfl⟩, fun c _ e2 _ _ _ _ => aI_ne e2, rfl, by rw [aI_eq]; exact e, hi.rf _⟩
theorem Fm.w32 {h : AH} {f : R54} : Fm h (wI h 32 f) := ⟨⟨rfl, rfl, rfl, rfl⟩, fun c _ _ _ _ e _ => aI_ne e, rfl, hi.rf _, hi.rf _⟩
theorem Fm.w33 {h : AH} {f : R54} : Fm h (wI h 33 f) := ⟨⟨rfl, rfl, rfl, rfl⟩, fun c _ _ _ _ _ e => aI_ne e, rfl, hi.rf _, hi.rf _⟩
theorem Fm.w31 {h : AH} {f : R54} : Fm h (wI h 31 f) := ⟨⟨rfl, rfl, rfl, rfl⟩, fun c _ _ _ e _ _ => aI_ne e, rfl, hi.rf _, hi.rf _⟩
theorem Fm.w26 {h : AH} {k : Nat} {v : Int32} (e : k ≠ 4) : Fm h (wI h 26 (va_up (aI h 26) k v)) := ⟨⟨rfl, rfl, rfl, rfl⟩, fun c e1 _ _ _ _ _ => aI_ne e1, by rw [aI_eq, up_ne (Ne.symm e)], hi.rf _, hi.rf _⟩
theorem Wm.fr {h h1 : AH} (W : Wm h) (F : Fm h h1) : Wm h1 := by
  unfold Wm
  rw [F.1.2.1, F.1.2.2.1]
  exact W
/-- what a query of the class may change; m new objects -/
def Fq (m : Nat) (h h1 : AH) : Prop := (aN h ≤ aN h1 ∧ aN h1 ≤ aN h + m ∧ aS h ≤ aS h1 ∧ aS h1 ≤ aS h + 200 * m) ∧ (∀ c, c < aN h → aT h1 c = aT h c ∧ aL h1 c = aL h c) ∧ (∀ c, c < aN h → c ≠ 8 → c ≠ 10 → c ≠ 11 → c ≠ 12 → c ≠ 13 → c ≠ 24 → c ≠ 25 → aI h1 c = aI h c) ∧ (∀ c, c < aN h → c ≠ 9 → aR h1 c = aR h c)
theorem Fq.rf (h : AH) : Fq 0 h h := ⟨⟨Nat.le_refl _, Nat.le_refl _, Nat.le_refl _, Nat.le_refl _⟩, fun _ _ => ⟨rfl, rfl⟩, fun _ _ _ _ _ _ _ _ _ => rfl, fun _ _ _ => rfl⟩
theorem Fq.tr {m1 m2 : Nat} {h h1 h2 : AH} (x : Fq m1 h h1) (y : Fq m2 h1 h2) : Fq (m1 + m2) h h2 := by
  obtain ⟨⟨a1, a2, a3, a4⟩, x1, x2, x3⟩ := x
  obtain ⟨⟨b1, b2, b3, b4⟩, y1, y2, y3⟩ := y
  refine ⟨⟨by omega, by omega, by omega, by omega⟩, fun c hc => ⟨(y1 c (by omega)).1.trans (x1 c hc).1, (y1 c (by omega)).2.trans (x1 c hc).2⟩, fun c hc e1 e2 e3 e4 e5 e6 e7 => (y2 c (by omega) e1 e2 e3 e4 e5 e6 e7).trans (x2 c hc e1 e2 e3 e4 e5 e6 e7), fun c hc e => (y3 c (by omega) e).trans (x3 c hc e)⟩
theorem Fq.tr0 {h h1 h2 : AH} (x : Fq 0 h h1) (y : Fq 0 h1 h2) : Fq 0 h h2 := x.tr y
theorem Fq.mono {m m2 : Nat} {h h1 : AH} (x : Fq m h h1) (e : m ≤ m2) : Fq m2 h h1 := by
  obtain ⟨⟨a1, a2, a3, a4⟩, x1⟩ := x
  exact ⟨⟨a1, by omega, a3, by omega⟩, x1⟩
theorem FrB.q {h h1 : AH} (x : FrB 8 h h1) : Fq 0 h h1 := by
  have e1 : aN h1 = aN h := congrArg (fun q : Nat × Nat => q.1) x.1
  have e2 : aS h1 = aS h := congrArg (fun q : Nat × Nat => q.2) x.1
  exact ⟨⟨by omega, by omega, by omega, by omega⟩, fun c _ => ⟨congrFun x.2.1 c, congrFun x.2.2.1 c⟩, fun c _ e1 e2 e3 e4 e5 _ _ => x.2.2.2.1 c e1 e2 e3 e4 e5, fun c _ e => x.2.2.2.2 c e⟩
theorem Fq.w24 {h : AH} {f : R54} : Fq 0 h (wI h 24 f) := ⟨⟨Nat.le_refl _, Nat.le_refl _, Nat.le_refl _, Nat.le_refl _⟩, fun _ _ => ⟨rfl, rfl⟩, fun c _ _ _ _ _ _ e _ => aI_ne e, fun _ _ _ => rfl⟩
theorem Fq.w25 {h : AH} {f : R54} : Fq 0 h (wI h 25 f) := ⟨⟨Nat.le_refl _, Nat.le_refl _, Nat.le_refl _, Nat.le_refl _⟩, fun _ _ => ⟨rfl, rfl⟩, fun c _ _ _ _ _ _ _ e => aI_ne e, fun _ _ _ => rfl⟩
theorem Hty.q {m b : Nat} {h h1 : AH} (x : Hty h b) (F : Fq m h h1) (hb : b ≠ 9) : Hty h1 b := by
  obtain ⟨⟨a0, a1, a2, a3, a4, a5⟩, a6, a7⟩ := x
  unfold Hty
  rw [(F.2.1 b (by omega)).1, (F.2.1 (b + 1) (by omega)).1, (F.2.1 (b + 2) (by omega)).1, (F.2.1 (b + 3) (by omega)).1, (F.2.1 (b + 4) (by omega)).1, (F.2.1 (b + 5) (by omega)).1, F.2.2.2 b (by omega) hb]
  exact ⟨⟨a0, a1, a2, a3, a4, a5⟩, a6, by have := F.1.1; omega⟩
theorem Wc.q {m : Nat} {h h1 : AH} (W : Wc h) (F : Fq m h h1) : Wc h1 := by
  obtain ⟨⟨a0, a1, a2, a3, a4⟩, b0, ⟨c0, c1, c2⟩, d⟩ := W
  unfold Wc
  rw [(F.2.1 0 (by omega)).1, (F.2.1 22 (by omega)).1, (F.2.1 23 (by omega)).1, (F.2.1 24 (by omega)).1, (F.2.1 25 (by omega)).1, F.2.2.2 0 (by omega) (by omega)]
  exact ⟨⟨a0, a1, a2, a3, a4⟩, b0, ⟨c0.q F (by omega), c1.q F (by omega), c2.q F (by omega)⟩, by have := F.1.1; omega⟩
theorem Gst.q {m k : Nat} {h h1 : AH} {κ f : Int32} (x : Gst h k κ f) (W : Wc h) (F : Fq m h h1) : Gst h1 k κ f := by
  obtain ⟨x0, c, x1, x2, x3⟩ := x
  have hne : ∀ q t, aT h q = some t → (∀ j, t = .inr j → j = 5) → k ≠ q := fun q t e1 e2 e3 => by
    subst e3
    rw [x1] at e1
    cases e1
    have := e2 _ rfl
    subst this
    exact absurd (gk_GF x2) (by decide)
  obtain ⟨⟨a0, a1, a2, a3, a4⟩, -, ⟨-, ⟨⟨y0, y1, y2, y3, y4, y5⟩, -, -⟩, -⟩, -⟩ := W
  refine ⟨Nat.lt_of_lt_of_le x0 F.1.1, c, by rw [(F.2.1 k x0).1]; exact x1, x2, ?_⟩
  rw [F.2.2.1 k x0 (hne _ _ y0 (fun j e => by cases e; rfl)) (hne _ _ y2 (fun j e => nomatch e)) (hne _ _ y3 (fun j e => nomatch e)) (hne _ _ y4 (fun j e => nomatch e)) (hne _ _ y5 (fun j e => nomatch e)) (hne _ _ a3 (fun j e => nomatch e)) (hne _ _ a4 (fun j e => nomatch e))]
  exact x3
theorem Hs.q {m b n : Nat} {h h1 : AH} {s : R54} (x : Hs h b n s) (W : Wc h) (F : Fq m h h1) (hb : b = 1 ∨ b = 15) : Hs h1 b n s := by
  have hN := W.2.2.2
  refine ⟨x.1.q F (by omega), ?_, fun g hg => ?_⟩
  · unfold SC
    rw [F.2.2.1 b (by omega) (by omega) (by omega) (by omega) (by omega) (by omega) (by omega) (by omega)]
    exact x.2.1
  · obtain ⟨⟨k, x0, x1⟩, x2⟩ := x.2.2 g hg
    unfold PG
    rw [F.2.2.2 (b + 1) (by omega) (by omega), F.2.2.1 (b + 2) (by omega) (by omega) (by omega) (by omega) (by omega) (by omega) (by omega) (by omega), F.2.2.1 (b + 3) (by omega) (by omega) (by omega) (by omega) (by omega) (by omega) (by omega) (by omega), F.2.2.1 (b + 4) (by omega) (by omega) (by omega) (by omega) (by omega) (by omega) (by omega) (by omega), F.2.2.1 (b + 5) (by omega) (by omega) (by omega) (by omega) (by omega) (by omega) (by omega) (by omega)]
    exact ⟨⟨k, x0, x1.q W F⟩, x2⟩
/-- class in h, reference in h', the house s of n guests in both -/
def QS (n : Nat) (s : R54) (h h' : AH) : Prop := (Wc h ∧ Hs h 1 n s ∧ Ok n s) ∧ Wm h' ∧ aI h' 27 = s ∧ hi (aI h' 28) s
theorem QS.q {n m : Nat} {s : R54} {h h' h1 h1' : AH} (Q : QS n s h h') (F : Fq m h h1) (G : Fm h' h1') : QS n s h1 h1' :=
  ⟨⟨Q.1.1.q F, Q.1.2.1.q Q.1.1 F (Or.inl rfl), Q.1.2.2⟩, Q.2.1.fr G, by rw [G.2.1 27 (by omega) (by omega) (by omega) (by omega) (by omega) (by omega)]; exact Q.2.2.1, G.2.2.2.1.tr Q.2.2.2⟩
/-- one answer of both, queries only -/
def RR (m : Nat) (h h' : AH) (o o' : Option (Int32 × AH)) : Prop := ∃ (r : Int32) (h1 h1' : AH), o = some (r, h1) ∧ o' = some (r, h1') ∧ Fq m h h1 ∧ Fm h' h1'
theorem RR.tr {m1 m2 : Nat} {h h' h1 h1' : AH} {o o' : Option (Int32 × AH)} (F : Fq m1 h h1) (G : Fm h' h1') (R : RR m2 h1 h1' o o') : RR (m1 + m2) h h' o o' := by
  obtain ⟨r, h2, h2', e1, e2, F2, G2⟩ := R
  exact ⟨r, h2, h2', e1, e2, F.tr F2, G.tr G2⟩
theorem RR.tr0 {m : Nat} {h h' h1 h1' : AH} {o o' : Option (Int32 × AH)} (F : Fq 0 h h1) (G : Fm h' h1') (R : RR m h1 h1' o o') : RR m h h' o o' := by
  have := RR.tr F G R
  rw [Nat.zero_add] at this
  exact this
theorem RR.mk {h h' : AH} {o o' : Option (Int32 × AH)} (r : Int32) (e : o = some (r, h)) (e' : o' = some (r, h')) : RR 0 h h' o o' := ⟨r, h, h', e, e', Fq.rf h, Fm.rf h'⟩
theorem QS.h7 {n : Nat} {s : R54} {h h' : AH} (Q : QS n s h h') : n ≤ 7 := Q.1.2.2.1.2.1
theorem QS.n0 {n : Nat} {s : R54} {h h' : AH} (Q : QS n s h h') : aI h' 27 0 = i32 n := by rw [Q.2.2.1]; exact Q.1.2.2.1.1
/-- both take the house to mind -/
theorem QS.mind {n : Nat} {s : R54} {h h' : AH} (Q : QS n s h h') : (∃ h1, f_X5_becomes (some 8) (some 1) h = some ((), h1) ∧ Hs h1 8 n s ∧ Fq 0 h h1 ∧ FrB 8 h h1) ∧ f_X12_copies (some 27) (some 28) h' = some ((), wI h' 28 s) ∧ Fm h' (wI h' 28 s) := by
  obtain ⟨⟨W, H, O⟩, M, e, hh⟩ := Q
  obtain ⟨h1, q1, q2, q3⟩ := k_becomes (b := 8) (b2 := 1) (by omega) W.2.2.1.2.1 H O.1.2.1
  refine ⟨⟨h1, q1, q2, q3.q, q3⟩, ?_, Fm.w28 hh.sy⟩
  rw [m_copies (by omega) M.1.2.1 M.1.2.2.1 (by rw [e]; exact hh), e]
theorem isG {n : Nat} (h7 : n ≤ 7) (v : Int32) : (decide (0 ≤ v) && decide (v < i32 n)) = true → ∃ g, v = i32 g ∧ g < n := fun e => by
  simp only [Bool.and_eq_true, decide_eq_true_eq] at e
  obtain ⟨g, rfl, h2, -⟩ := i32_of (Int32.not_lt.mpr e.1)
  have e2 := e.2
  rw [i32_lt h2 (by omega)] at e2
  exact ⟨g, rfl, e2⟩
/-- is it a guest -/
def isg (n : Nat) (v : Int32) : Bool := decide (0 ≤ v) && decide (v < i32 n)
theorem isg_g {n g : Nat} (hn : n ≤ 7) (hg : g < n) : isg n (i32 g) = true := by
  unfold isg
  rw [decide_eq_true (Int32.not_lt.mp (i32_nn (by omega))), decide_eq_true (by rw [i32_lt (by omega) (by omega)]; exact hg)]
  rfl
theorem isg_n {n g : Nat} (hn : n ≤ 7) (hg : n ≤ g) (h2 : g < 2147483648) : isg n (i32 g) = false := by
  unfold isg
  rw [decide_eq_false (p := i32 g < i32 n) (by rw [i32_lt (by omega) (by omega)]; omega), Bool.and_false]
theorem fm_lt : ∀ n, n < 8 → i32 n - 1 = Int32.ofInt ((n : Int) - 1) := by decide +kernel
theorem m_isGuest {h : AH} {n : Nat} (W : Wm h) (hn : aI h 27 0 = i32 n) (h7 : n ≤ 7) (v : Int32) : f_X12_isGuest (some 26) v h = some (bI (isg n v), h) := by
  unfold f_X12_isGuest isg
  rw [W.o0, sb_some, r54_0 W.1.2.1, sb_some, m_isIn, bd_some, rb_bI, hn]
  have e : (v ≤ i32 n - 1) = (v < i32 n) := by
    rw [Int32.le_iff_toInt_le, Int32.lt_iff_toInt_lt, i32_t (by omega)]
    have : ∀ n, n < 8 → (i32 n - 1).toInt = (n : Int) - 1 := by decide +kernel
    rw [this n (by omega)]
    exact propext ⟨fun z => by omega, fun z => by omega⟩
  rw [decide_eq_decide.mpr (Iff.of_eq e)]
theorem QS.cg {n : Nat} {s : R54} {h h' : AH} (Q : QS n s h h') (v : Int32) : f_X5_knows (some 1) v h = some (bI (isg n v), h) ∧ f_X12_isGuest (some 26) v h' = some (bI (isg n v), h') :=
  ⟨k_knows Q.1.2.1 Q.h7 v, m_isGuest Q.2.1 Q.n0 Q.h7 v⟩
theorem isg_of {n : Nat} {v : Int32} (h7 : n ≤ 7) (e : isg n v = true) : ∃ g, v = i32 g ∧ g < n := isG h7 v e
