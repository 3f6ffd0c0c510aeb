/-! TEARS, ORDER -/
section Q3
variable {n : Nat} {s : R54} {h h' : AH}
theorem cd_or (p : Nat → Bool) {g : Nat} (hg : g < 10) (b : Bool) (hb : p g = b) : (if b then i32 (cd g p) ||| ((1 : Int32) <<< (i32 g &&& 31)) else i32 (cd g p)) = i32 (cd (g + 1) p) := by
  subst hb
  rw [cd_s]
  by_cases e : p g = true
  · rw [if_pos e, if_pos e, bt_or g hg _ (cd_lt p g)]
  · rw [if_neg e, if_neg e]; rfl
theorem k_without (H : Hs h 1 n s) (O : Ok n s) : ∀ (k m g : Nat), k < m → g + k = n → f_X5_withoutSecrets_b4 m (some 1) (i32 (cd g (fun g => inP s g && decide (s (7 * g + 9) = 0)))) (i32 g) h = some (i32 (cd n (fun g => inP s g && decide (s (7 * g + 9) = 0))), h) := by
  have h7 := O.1.2.1
  intro k
  induction k with
  | zero =>
    intro m g hm hg
    obtain ⟨m, rfl⟩ := succ_of hm
    have z : i32 n ≤ i32 g := by rw [i32_le (by omega) (by omega)]; omega
    rw [e_X5_withoutSecrets_b4, gI_1 H.1.1.1, sb_some, H.2.1.1, if_pos z, show g = n by omega]
  | succ k ih =>
    intro m g hm hg
    obtain ⟨m, rfl⟩ := succ_of hm
    have z : ¬ i32 n ≤ i32 g := by rw [i32_le (by omega) (by omega)]; omega
    have e1 := ih m (g + 1) (by omega) (by omega)
    have e2 := cd_or (fun g => inP s g && decide (s (7 * g + 9) = 0)) (g := g) (by omega) _ rfl
    rw [← e2] at e1
    rw [e_X5_withoutSecrets_b4]
    simp only [gI_1 H.1.1.1, sb_some, H.2.1.1, if_neg z, cv_ok H.1.1.1, k_isIn H O (show g < n by omega), bd_some, gR_1 H.1.1.1, H.1.2.1.2.2.2.1, iA_ok H.1.1.2.2.2.2.1 (show g < 7 by omega) (by omega), (H.2.2 g (by omega)).2.2.2.1, nm_eq, i32_s]
    revert e1
    cases inP s g with
    | false =>
      intro e1
      rw [if_pos pb0]
      exact e1
    | true =>
      rw [if_neg nb1]
      by_cases y : s (7 * g + 9) = 0
      · rw [if_pos y, decide_eq_true y]
        intro e1; exact e1
      · rw [if_neg y, decide_eq_false y]
        intro e1; exact e1
/-- the secrets of all in, together -/
def scF (s : R54) (g : Nat) (a : Int32) : Int32 := if inP s g then a + s (7 * g + 9) else a
theorem k_secrets (H : Hs h 1 n s) (O : Ok n s) : ∀ (k m g : Nat) (a : Int32), k < m → g + k = n → f_X5_secretsOfAll_b4 m (some 1) a (i32 g) h = some (fld (scF s) g k a, h) := by
  have h7 := O.1.2.1
  intro k
  induction k with
  | zero =>
    intro m g a hm hg
    obtain ⟨m, rfl⟩ := succ_of hm
    have z : i32 n ≤ i32 g := by rw [i32_le (by omega) (by omega)]; omega
    rw [e_X5_secretsOfAll_b4, gI_1 H.1.1.1, sb_some, H.2.1.1, if_pos z, fld_0]
  | succ k ih =>
    intro m g a hm hg
    obtain ⟨m, rfl⟩ := succ_of hm
    have z : ¬ i32 n ≤ i32 g := by rw [i32_le (by omega) (by omega)]; omega
    rw [e_X5_secretsOfAll_b4]
    simp only [gI_1 H.1.1.1, sb_some, H.2.1.1, if_neg z, cv_ok H.1.1.1, k_isIn H O (show g < n by omega), bd_some, gR_1 H.1.1.1, H.1.2.1.2.2.2.1, iA_ok H.1.1.2.2.2.2.1 (show g < 7 by omega) (by omega), (H.2.2 g (by omega)).2.2.2.1, nm_eq, i32_s, f_X5_secretsOfAll_b31, fld_s, ih m (g + 1) _ (by omega) (by omega)]
    unfold scF
    cases inP s g with
    | false => rw [if_pos pb0, Int32.add_zero]; rfl
    | true => rw [if_neg nb1]; rfl
def teP (s u : R54) (v : Int32) (g : Nat) : Bool := inP s g && (if v = 0 then decide (s (7 * g + 9) = 0) else !inP u g)
theorem m_tears (W : Wm h') (h7 : n ≤ 7) {u : R54} (e27 : aI h' 27 = s) (e28 : aI h' 28 = u) (e0 : s 0 = i32 n) (v : Int32) : ∀ (k m g : Nat) (a : Int32), k < m → g + k = n → f_X12_tears_b33 m (some 26) v (i32 (cd g (teP s u v))) a (i32 g) h' = some (if v = 3 then fld (scF s) g k a else i32 (cd n (teP s u v)), h') := by
  intro k
  induction k with
  | zero =>
    intro m g a hm hg
    obtain ⟨m, rfl⟩ := succ_of hm
    have z : i32 n ≤ i32 g := by rw [i32_le (by omega) (by omega)]; omega
    rw [e_X12_tears_b33, W.o0, sb_some, r54_0 W.1.2.1, sb_some, e27, e0, if_pos z, fld_0, show g = n by omega]
    split <;> rfl
  | succ k ih =>
    intro m g a hm hg
    obtain ⟨m, rfl⟩ := succ_of hm
    have z : ¬ i32 n ≤ i32 g := by rw [i32_le (by omega) (by omega)]; omega
    have e2 := cd_or (teP s u v) (g := g) (by omega) _ rfl
    have e1 := fun a => ih m (g + 1) a (by omega) (by omega)
    rw [← e2] at e1
    have e3 : ∀ j : Nat, j = g → i32 (cd j (teP s u v)) ||| (0 : Int32) = i32 (cd j (teP s u v)) := fun j hj => bt_or00 _ (Nat.lt_of_lt_of_le (cd_lt _ j) (show 2 ^ j ≤ 2 ^ 10 from Nat.pow_le_pow_right (by decide) (by omega)))
    rw [e_X12_tears_b33]
    simp only [W.o0, W.o1, sb_some, r54_0 W.1.2.1, e27, e0, if_neg z, m_isHere W.1.2.1 (show g < 7 by omega), m_isHere W.1.2.2.1 (show g < 7 by omega), bd_some, m_of4, r54 (7 * g + 9) (by omega) W.1.2.1, e28, nm_eq, i32_s, f_X12_tears_b107, f_X12_tears_b114, f_X12_tears_b115, e3 g rfl, fld_s]
    show (if bI (inP s g) = 0 then _ else _) = _
    revert e1
    unfold scF
    cases e : inP s g with
    | false =>
      intro e1
      rw [if_pos pb0]
      have : teP s u v g = false := by unfold teP; rw [e]; rfl
      rw [this] at e1
      exact e1 a
    | true =>
      intro e1
      rw [if_neg nb1]
      show (if v = 0 then (if s (7 * g + 9) = 0 then _ else _) else (if bI (inP u g) = 0 then _ else _)) = _
      by_cases y : v = 0
      · rw [if_pos y]
        have t : teP s u v g = decide (s (7 * g + 9) = 0) := by unfold teP; rw [e, if_pos y]; rfl
        rw [t] at e1
        by_cases x : s (7 * g + 9) = 0
        · rw [if_pos x]
          rw [decide_eq_true x] at e1
          exact e1 _
        · rw [if_neg x]
          rw [decide_eq_false x] at e1
          exact e1 _
      · rw [if_neg y]
        have t : teP s u v g = !inP u g := by unfold teP; rw [e, if_neg y]; rfl
        rw [t] at e1
        revert e1
        cases inP u g with
        | false => intro e1; rw [if_pos pb0]; exact e1 _
        | true => intro e1; rw [if_neg nb1]; exact e1 _
theorem rl_same16 (Q : QS n s h h') {a : Nat} (ha : a < n) (K : Option Nat → Int32 → Int32 → AH → Option (Int32 × AH)) (K' : Option Nat → Int32 → Int32 → AH → Option (Int32 × AH)) (hk : ∀ c, ∃ r, K (some 1) c (i32 (a + 1)) h = some (r, h) ∧ K' (some 26) c (i32 (a + 1)) h' = some (r, h')) : ∀ (k m m' b : Nat) (c : Int32), k < m → k < m' → b + k = n → ∃ r, f_X5_alikeTwos_b16 K m (some 1) c (i32 a) (i32 b) h = some (r, h) ∧ f_X12_sameOnes_b18 K' m' (some 26) c (i32 a) (i32 b) h' = some (r, h') := by
  have h7 := Q.h7
  have T := Q.1.2.1.1
  have r0 := Q.2.1.1.2.1
  intro k
  induction k with
  | zero =>
    intro m m' b c hm hm' hb
    obtain ⟨m, rfl⟩ := succ_of hm
    obtain ⟨m', rfl⟩ := succ_of hm'
    have z : i32 n ≤ i32 b := by rw [i32_le (by omega) (by omega)]; omega
    rw [e_X5_alikeTwos_b16, e_X12_sameOnes_b18, gI_1 T.1.1, sb_some, Q.1.2.1.2.1.1, if_pos z, Q.2.1.o0, sb_some, r54_0 r0, sb_some, Q.n0, if_pos z, i32_s]
    exact hk c
  | succ k ih =>
    intro m m' b c hm hm' hb
    obtain ⟨m, rfl⟩ := succ_of hm
    obtain ⟨m', rfl⟩ := succ_of hm'
    have hbn : b < n := by omega
    have z : ¬ i32 n ≤ i32 b := by rw [i32_le (by omega) (by omega)]; omega
    rw [e_X5_alikeTwos_b16, e_X12_sameOnes_b18]
    simp only [gI_1 T.1.1, sb_some, Q.1.2.1.2.1.1, if_neg z, Q.2.1.o0, r54_0 r0, Q.n0, cv_ok T.1.1, k_isIn Q.1.2.1 Q.1.2.2 ha, k_isIn Q.1.2.1 Q.1.2.2 hbn, bd_some, m_isHere r0 (show a < 7 by omega), m_isHere r0 (show b < 7 by omega), gR_1 T.1.1, T.2.1.2.1, iA_ok T.1.2.2.1 (show a < 7 by omega) (by omega), iA_ok T.1.2.2.1 (show b < 7 by omega) (by omega), (Q.1.2.1.2.2 a ha).2.1, (Q.1.2.1.2.2 b hbn).2.1, m_of2, r54 (7 * a + 7) (by omega) r0, r54 (7 * b + 7) (by omega) r0, Q.2.2.1, f_X12_sameOnes_b78, f_X12_sameOnes_b79, nm_eq, i32_s, Int32.add_zero]
    show ∃ r, (if bI (inP s a) = 0 then _ else if bI (inP s b) = 0 then _ else _) = _ ∧ (if bI (inP s a) = 0 then _ else if bI (inP s b) = 0 then _ else _) = _
    cases inP s a with
    | false => rw [if_pos pb0, if_pos pb0]; exact ih m m' (b + 1) c (by omega) (by omega) (by omega)
    | true =>
      rw [if_neg nb1, if_neg nb1]
      cases inP s b with
      | false => rw [if_pos pb0, if_pos pb0]; exact ih m m' (b + 1) c (by omega) (by omega) (by omega)
      | true =>
        rw [if_neg nb1, if_neg nb1]
        by_cases y : s (7 * a + 7) = s (7 * b + 7)
        · rw [if_pos y, if_pos y]; exact ih m m' (b + 1) (c + 1) (by omega) (by omega) (by omega)
        · rw [if_neg y, if_neg y]; exact ih m m' (b + 1) c (by omega) (by omega) (by omega)
theorem rl_same4 (Q : QS n s h h') : ∀ (k m m' a : Nat) (c : Int32), k < m → k < m' → a + k = n → ∃ r, f_X5_alikeTwos_b4 m (some 1) c (i32 a) h = some (r, h) ∧ f_X12_sameOnes_b4 m' (some 26) c (i32 a) h' = some (r, h') := by
  have h7 := Q.h7
  have T := Q.1.2.1.1
  have r0 := Q.2.1.1.2.1
  intro k
  induction k with
  | zero =>
    intro m m' b c hm hm' hb
    obtain ⟨m, rfl⟩ := succ_of hm
    obtain ⟨m', rfl⟩ := succ_of hm'
    have z : i32 n ≤ i32 b := by rw [i32_le (by omega) (by omega)]; omega
    rw [e_X5_alikeTwos_b4, e_X12_sameOnes_b4, gI_1 T.1.1, sb_some, Q.1.2.1.2.1.1, if_pos z, Q.2.1.o0, sb_some, r54_0 r0, sb_some, Q.n0, if_pos z]
    exact ⟨c, rfl, rfl⟩
  | succ k ih =>
    intro m m' a c hm hm' hb
    obtain ⟨m, rfl⟩ := succ_of hm
    obtain ⟨m', rfl⟩ := succ_of hm'
    have z : ¬ i32 n ≤ i32 a := by rw [i32_le (by omega) (by omega)]; omega
    rw [e_X5_alikeTwos_b4, e_X12_sameOnes_b4, gI_1 T.1.1, sb_some, Q.1.2.1.2.1.1, if_neg z, Q.2.1.o0, sb_some, r54_0 r0, sb_some, Q.n0, if_neg z, nm_eq, nm_eq, i32_s]
    exact rl_same16 Q (show a < n by omega) _ _ (fun c => ih m m' (a + 1) c (by omega) (by omega) (by omega)) (n - (a + 1)) FU FU (a + 1) c (fu_pos (by omega)) (fu_pos (by omega)) (by omega)
theorem R_tears (Q : QS n s h h') (v1 : Int32) : RR 0 h h' (f_X11_tears (some 0) v1 h) (f_X12_tears (some 26) v1 h') := by
  unfold f_X11_tears f_X12_tears
  have W := Q.1.1
  have h7 := Q.h7
  have T := Q.1.2.1.1
  have G : Fm h' (wI h' 28 (daysM n 1 s)) := Fm.w28 ((hi_daysM h7 1 s (hi.rf s)).tr Q.2.2.2.sy)
  have tk : f_X12_takes (some 26) 1 h' = some ((), wI h' 28 (daysM n 1 s)) := m_takes Q (N := 1) (by omega)
  have mt := m_tears (n := n) (s := s) (h' := wI h' 28 (daysM n 1 s)) (u := daysM n 1 s) Q.2.1 h7 (by exact Q.2.2.1) aI_eq Q.1.2.2.1.1 v1 n FU 0 0 (fu_pos (by omega)) (by omega)
  simp only [W.o0, sb_some, cv_ok T.1.1, cv_ok W.1.1, cv_ok Q.2.1.1.1, m_btw, bd_some, bI_0, tk]
  by_cases a0 : v1 = 0
  · subst a0
    rw [if_pos rfl, if_neg (by decide), if_neg (by decide)]
    refine RR.mk2 _ (Fq.rf h) G ?_ mt
    unfold f_X5_withoutSecrets
    have e := k_without Q.1.2.1 Q.1.2.2 n FU 0 (fu_pos (by omega)) (by omega)
    have e2 : f_X5_withoutSecrets_b4 FU (some 1) 0 0 h = _ := e
    rw [e2, bd_some, if_neg (by decide)]
    congr 3
  · rw [if_neg a0]
    by_cases a1 : v1 = 1
    · subst a1
      rw [if_pos rfl, if_neg (by decide), if_pos rfl]
      obtain ⟨r, e1, e2⟩ := rl_same4 Q n FU FU 0 0 (fu_pos (by omega)) (fu_pos (by omega)) (by omega)
      have e1' : f_X5_alikeTwos (some 1) h = some (r, h) := e1
      have e2' : f_X12_sameOnes (some 26) h' = some (r, h') := e2
      rw [e1', e2', bd_some, bd_some]
      exact RR.mk r rfl rfl
    · rw [if_neg a1, if_neg a1]
      by_cases a2 : v1 = 2
      · subst a2
        rw [if_pos rfl, if_neg (by decide)]
        unfold f_X11_goneNextDay
        obtain ⟨h1, b1, b2, M1, Q1, F1, G1⟩ := Q_mind Q
        obtain ⟨h2, c1, c2, M2, Q2, F2, G2⟩ := Q_day Q1 M1
        have F := F1.tr0 F2
        simp only [W.o0, W.o1, sb_some, cv_ok W.2.2.1.2.1.1.1, b1, bd_some, Q1.1.1.o1, cv_ok M1.1.1.1.1, c1, Q2.1.1.o0, Q2.1.1.o1, gI_1 Q2.1.2.1.1.1.1, gI_1 M2.1.1.1.1, Q2.1.2.1.2.1.2.1, M2.1.2.1.2.1, sI_next h7 Q.1.2.2.1.2.2 M2.2.1.1.2.2]
        refine RR.mk2 _ F G rfl ?_
        refine mt.trans ?_
        rw [if_neg (by decide)]
        congr 3
      · rw [if_neg a2]
        by_cases a3 : v1 = 3
        · subst a3
          rw [if_pos rfl, if_neg (by decide)]
          refine RR.mk2 _ (Fq.rf h) G ?_ mt
          have e : f_X5_secretsOfAll (some 1) h = some (fld (scF s) 0 n 0, h) := k_secrets Q.1.2.1 Q.1.2.2 n FU 0 0 (fu_pos (by omega)) (by omega)
          rw [e, bd_some, if_pos rfl]
        · rw [if_neg a3]
          have z : btw v1 0 3 = false := by
            cases e : btw v1 0 3 with
            | false => rfl
            | true =>
              obtain ⟨j, rfl, hj⟩ := btw_of (m := 3) (by omega) e
              have hj2 : j = 0 ∨ j = 1 ∨ j = 2 ∨ j = 3 := by omega
              rcases hj2 with rfl | rfl | rfl | rfl
              · exact absurd rfl a0
              · exact absurd rfl a1
              · exact absurd rfl a2
              · exact absurd rfl a3
          exact RR.mk (-1) rfl (if_pos z)
/-- o stands ahead of g -/
def bef (s : R54) (g o : Nat) : Bool := inP s o && (decide (s (7 * o + 7) < s (7 * g + 7)) || (decide (s (7 * o + 7) = s (7 * g + 7)) && decide (o < g)))
def cn (p : Nat → Bool) : Nat → Nat
  | 0 => 0
  | n + 1 => cn p n + (if p n then 1 else 0)
theorem cn_le (p : Nat → Bool) : ∀ n, cn p n ≤ n
  | 0 => Nat.le_refl _
  | n + 1 => by
    have := cn_le p n
    unfold cn
    split <;> omega
theorem cn_sub {p q : Nat → Bool} : ∀ n, (∀ o, o < n → p o = true → q o = true) → cn p n ≤ cn q n
  | 0, _ => Nat.le_refl _
  | n + 1, H => by
    have := cn_sub n (fun o ho => H o (by omega))
    unfold cn
    by_cases e : p n = true
    · rw [if_pos e, if_pos (H n (Nat.lt_succ_self n) e)]; omega
    · rw [if_neg e]; omega
theorem cn_lt {p q : Nat → Bool} {a : Nat} (ha : p a = false) (hb : q a = true) : ∀ n, a < n → (∀ o, o < n → p o = true → q o = true) → cn p n < cn q n
  | 0, h, _ => absurd h (Nat.not_lt_zero a)
  | n + 1, h, H => by
    unfold cn
    by_cases e : a = n
    · subst e
      rw [if_neg (by rw [ha]; decide), if_pos hb]
      have := cn_sub a (fun o ho => H o (by omega))
      omega
    · have := cn_lt ha hb n (by omega) (fun o ho => H o (by omega))
      by_cases e2 : p n = true
      · rw [if_pos e2, if_pos (H n (Nat.lt_succ_self n) e2)]; omega
      · rw [if_neg e2]; omega
theorem bef_sub {g g2 : Nat} (hin : inP s g = true) (e : bef s g2 g = true) (n : Nat) (hg : g < n) : cn (bef s g) n < cn (bef s g2) n := by
  refine cn_lt (a := g) ?_ e n hg fun o _ ho => ?_
  · unfold bef
    rw [decide_eq_false (Int32.lt_irrefl), decide_eq_false (Nat.lt_irrefl g), Bool.and_false, Bool.false_or, Bool.and_false]
  · unfold bef at e ho ⊢
    simp only [Bool.and_eq_true, Bool.or_eq_true, decide_eq_true_eq] at e ho ⊢
    obtain ⟨o1, o2⟩ := ho
    obtain ⟨-, e2⟩ := e
    refine ⟨o1, ?_⟩
    rcases o2 with o2 | ⟨o2, o3⟩
    · rcases e2 with e2 | ⟨e2, e3⟩
      · exact Or.inl (Int32.lt_of_lt_of_le o2 (Int32.le_of_lt e2))
      · rw [← e2]; exact Or.inl o2
    · rcases e2 with e2 | ⟨e2, e3⟩
      · rw [o2]; exact Or.inl e2
      · exact Or.inr ⟨o2.trans e2, by omega⟩
theorem rank_ne {n g g2 : Nat} (hg : g < n) (hg2 : g2 < n) (i1 : inP s g = true) (i2 : inP s g2 = true) (ne : g ≠ g2) : cn (bef s g) n ≠ cn (bef s g2) n := by
  have key : bef s g2 g = true ∨ bef s g g2 = true := by
    unfold bef
    rw [i1, i2, Bool.true_and, Bool.true_and]
    simp only [Bool.and_eq_true, Bool.or_eq_true, decide_eq_true_eq]
    by_cases e : s (7 * g + 7) = s (7 * g2 + 7)
    · rcases Nat.lt_or_ge g g2 with z | z
      · exact Or.inl (Or.inr ⟨e, z⟩)
      · exact Or.inr (Or.inr ⟨e.symm, by omega⟩)
    · rcases Int32.lt_or_lt_of_ne e with z | z
      · exact Or.inl (Or.inl z)
      · exact Or.inr (Or.inl z)
  rcases key with z | z
  · have := bef_sub i1 z n hg; omega
  · have := bef_sub i2 z n hg2; omega
theorem k_lighter (H : Hs h 1 n s) (O : Ok n s) {g : Nat} (hg : g < n) : ∀ (k m o : Nat), k < m → o + k = n → f_X5_lighterThan_b4 m (some 1) (i32 g) (i32 (cn (bef s g) o)) (i32 o) h = some (i32 (cn (bef s g) n), h) := by
  have h7 := O.1.2.1
  have T := H.1
  intro k
  induction k with
  | zero =>
    intro m o hm ho
    obtain ⟨m, rfl⟩ := succ_of hm
    have z : i32 n ≤ i32 o := by rw [i32_le (by omega) (by omega)]; omega
    rw [e_X5_lighterThan_b4, gI_1 H.1.1.1, sb_some, H.2.1.1, if_pos z, show o = n by omega]
  | succ k ih =>
    intro m o hm ho
    obtain ⟨m, rfl⟩ := succ_of hm
    have z : ¬ i32 n ≤ i32 o := by rw [i32_le (by omega) (by omega)]; omega
    have hon : o < n := by omega
    have e1 := ih m (o + 1) (by omega) (by omega)
    have e2 : cn (bef s g) (o + 1) = cn (bef s g) o + (if bef s g o then 1 else 0) := rfl
    rw [e2] at e1
    rw [e_X5_lighterThan_b4]
    simp only [gI_1 T.1.1, sb_some, H.2.1.1, if_neg z, gR_1 T.1.1, T.2.1.2.1, iA_ok T.1.2.2.1 (show g < 7 by omega) (by omega), iA_ok T.1.2.2.1 (show o < 7 by omega) (by omega), (H.2.2 g hg).2.1, (H.2.2 o hon).2.1, f_X5_lighterThan_b47, f_X5_lighterThan_b51, f_X5_lighterThan_b52, cv_ok T.1.1, k_isIn H O hon, bd_some, i32_s, i32_le (a := g) (b := o) (by omega) (by omega)]
    rw [if_neg (show ¬ ((1 : Int32) = 0) by decide), if_pos trivial]
    unfold bef at e1 ⊢
    cases ei : inP s o with
    | false =>
      rw [ei] at e1
      rw [if_pos pb0, if_pos pb0]
      split
      · exact e1
      · split
        · split <;> exact e1
        · exact e1
    | true =>
      rw [ei] at e1
      rw [if_neg nb1, if_neg nb1]
      by_cases c1 : s (7 * o + 7) < s (7 * g + 7)
      · rw [if_pos c1]
        rw [decide_eq_true c1] at e1
        exact e1
      · rw [if_neg c1]
        rw [decide_eq_false c1] at e1
        by_cases c2 : s (7 * o + 7) = s (7 * g + 7)
        · rw [if_pos c2]
          rw [decide_eq_true c2] at e1
          by_cases c3 : g ≤ o
          · rw [if_pos c3]
            rw [decide_eq_false (show ¬ o < g by omega)] at e1
            exact e1
          · rw [if_neg c3]
            rw [decide_eq_true (show o < g by omega)] at e1
            exact e1
        · rw [if_neg c2]
          rw [decide_eq_false c2] at e1
          exact e1
theorem m_lighter (Q : QS n s h h') {g : Nat} (hg : g < n) : ∀ (k m o : Nat), k < m → o + k = n → f_X12_lighterThan_b16 m (some 26) (i32 g) (i32 (cn (bef s g) o)) (s (7 * g + 7)) (i32 o) h' = some (i32 (cn (bef s g) n), h') := by
  have h7 := Q.h7
  have r0 := Q.2.1.1.2.1
  intro k
  induction k with
  | zero =>
    intro m o hm ho
    obtain ⟨m, rfl⟩ := succ_of hm
    have z : i32 n ≤ i32 o := by rw [i32_le (by omega) (by omega)]; omega
    rw [e_X12_lighterThan_b16, Q.2.1.o0, sb_some, r54_0 r0, sb_some, Q.n0, if_pos z, show o = n by omega]
  | succ k ih =>
    intro m o hm ho
    obtain ⟨m, rfl⟩ := succ_of hm
    have z : ¬ i32 n ≤ i32 o := by rw [i32_le (by omega) (by omega)]; omega
    have hon : o < n := by omega
    have e1 := ih m (o + 1) (by omega) (by omega)
    have e2 : cn (bef s g) (o + 1) = cn (bef s g) o + (if bef s g o then 1 else 0) := rfl
    rw [e2] at e1
    rw [e_X12_lighterThan_b16]
    simp only [Q.2.1.o0, sb_some, r54_0 r0, Q.n0, if_neg z, m_isHere r0 (show o < 7 by omega), bd_some, m_of2, r54 (7 * o + 7) (by omega) r0, Q.2.2.1, f_X12_lighterThan_b80, f_X12_lighterThan_b76, f_X12_lighterThan_b81, nm_eq, i32_s, Int32.add_zero, i32_le (a := g) (b := o) (by omega) (by omega)]
    show (if bI (inP s o) = 0 then _ else _) = _
    unfold bef at e1 ⊢
    cases ei : inP s o with
    | false =>
      rw [ei] at e1
      rw [if_pos pb0]
      exact e1
    | true =>
      rw [ei] at e1
      rw [if_neg nb1]
      by_cases c1 : s (7 * o + 7) < s (7 * g + 7)
      · rw [if_pos c1]
        rw [decide_eq_true c1] at e1
        exact e1
      · rw [if_neg c1]
        rw [decide_eq_false c1] at e1
        by_cases c2 : s (7 * o + 7) = s (7 * g + 7)
        · rw [if_pos c2]
          rw [decide_eq_true c2] at e1
          by_cases c3 : g ≤ o
          · rw [if_pos c3]
            rw [decide_eq_false (show ¬ o < g by omega)] at e1
            exact e1
          · rw [if_neg c3]
            rw [decide_eq_true (show o < g by omega)] at e1
            exact e1
        · rw [if_neg c2]
          rw [decide_eq_false c2] at e1
          exact e1
def orP (n : Nat) (s : R54) (v : Int32) (g : Nat) : Bool := inP s g && decide (i32 (cn (bef s g) n) = v)
theorem k_byWeight (H : Hs h 1 n s) (O : Ok n s) (v : Int32) : ∀ (k m g : Nat), k < m → g + k = n → f_X5_byWeight_b2 m (some 1) v (i32 g) h = some (srch (orP n s v) g k, h) := by
  have h7 := O.1.2.1
  have T := H.1
  intro k
  induction k with
  | zero =>
    intro m g hm hg
    obtain ⟨m, rfl⟩ := succ_of hm
    have z : i32 n ≤ i32 g := by rw [i32_le (by omega) (by omega)]; omega
    rw [e_X5_byWeight_b2, gI_1 H.1.1.1, sb_some, H.2.1.1, if_pos z, srch_0]
  | succ k ih =>
    intro m g hm hg
    obtain ⟨m, rfl⟩ := succ_of hm
    have z : ¬ i32 n ≤ i32 g := by rw [i32_le (by omega) (by omega)]; omega
    have e : f_X5_lighterThan (some 1) (i32 g) h = some (i32 (cn (bef s g) n), h) := k_lighter H O (show g < n by omega) n FU 0 (fu_pos (by omega)) (by omega)
    rw [e_X5_byWeight_b2, srch_s]
    simp only [gI_1 H.1.1.1, sb_some, H.2.1.1, if_neg z, cv_ok T.1.1, k_isIn H O (show g < n by omega), bd_some, e, i32_s, ih m (g + 1) (by omega) (by omega)]
    unfold orP
    cases inP s g with
    | false => rw [if_pos pb0]; rfl
    | true =>
      rw [if_neg nb1]
      by_cases c : i32 (cn (bef s g) n) = v
      · rw [if_pos c, decide_eq_true c]; rfl
      · rw [if_neg c, decide_eq_false c]; rfl
theorem m_orderI (Q : QS n s h h') {v : Int32} (hv : ¬ v < 0) : ∀ (k m g : Nat) (f : Int32), (f ≠ -4 → ∀ j, g ≤ j → j < n → orP n s v j = false) → k < m → g + k = n → f_X12_order_b12 m (some 26) v f (i32 g) h' = some (if f = -4 then srch (orP n s v) g k else f, h') := by
  have h7 := Q.h7
  have r0 := Q.2.1.1.2.1
  intro k
  induction k with
  | zero =>
    intro m g f hf hm hg
    obtain ⟨m, rfl⟩ := succ_of hm
    have z : i32 n ≤ i32 g := by rw [i32_le (by omega) (by omega)]; omega
    rw [e_X12_order_b12, Q.2.1.o0, sb_some, r54_0 r0, sb_some, Q.n0, if_pos z, srch_0]
    by_cases e : f = -4
    · rw [if_pos e, e]
    · rw [if_neg e]
  | succ k ih =>
    intro m g f hf hm hg
    obtain ⟨m, rfl⟩ := succ_of hm
    have z : ¬ i32 n ≤ i32 g := by rw [i32_le (by omega) (by omega)]; omega
    have hgn : g < n := by omega
    have e : f_X12_lighterThan (some 26) (i32 g) h' = some (i32 (cn (bef s g) n), h') := by
      unfold f_X12_lighterThan
      rw [Q.2.1.o0, sb_some, m_of2, bd_some, r54 (7 * g + 7) (by omega) r0, sb_some, Q.2.2.1]
      exact m_lighter Q hgn n FU 0 (fu_pos (by omega)) (by omega)
    rw [e_X12_order_b12, srch_s]
    simp only [Q.2.1.o0, sb_some, r54_0 r0, Q.n0, if_neg z, m_isHere r0 (show g < 7 by omega), bd_some, Q.2.2.1, if_neg hv, cv_ok Q.2.1.1.1, e, i32_s, f_X12_order_b79]
    show (if bI (inP s g) = 0 then _ else _) = _
    cases ei : inP s g with
    | false =>
      have t : orP n s v g = false := by unfold orP; rw [ei]; rfl
      rw [if_pos pb0, ih m (g + 1) f (fun z j h1 h2 => hf z j (by omega) h2) (by omega) (by omega), t]
      rfl
    | true =>
      rw [if_neg nb1]
      by_cases c : i32 (cn (bef s g) n) = v
      · have t : orP n s v g = true := by unfold orP; rw [ei, decide_eq_true c]; rfl
        have f4 : f = -4 := by
          refine Decidable.byContradiction fun y => ?_
          have := hf y g (Nat.le_refl _) hgn
          rw [t] at this
          cases this
        have ne : i32 g ≠ -4 := by
          intro y
          have : ∀ g, g < 8 → i32 g ≠ -4 := by decide +kernel
          exact this g (by omega) y
        rw [if_pos c, ih m (g + 1) (i32 g) (fun _ j h1 h2 => ?_) (by omega) (by omega), if_neg ne, if_pos f4, t]
        · rfl
        · unfold orP
          cases ej : inP s j with
          | false => rfl
          | true =>
            have := rank_ne (n := n) h2 hgn ej ei (by omega)
            rw [← c, decide_eq_false]
            · rfl
            · intro y
              rw [i32_eq (by have := cn_le (bef s j) n; omega) (by have := cn_le (bef s g) n; omega)] at y
              exact this y
      · have t : orP n s v g = false := by unfold orP; rw [ei, decide_eq_false c]; rfl
        rw [if_neg c, ih m (g + 1) f (fun z j h1 h2 => hf z j (by omega) h2) (by omega) (by omega), t]
        rfl
theorem rl_heaviest (Q : QS n s h h') : ∀ (k m m' g : Nat) (f w : Int32), ((f = -4 ∧ w = -1) ∨ ∃ a, a < n ∧ f = i32 a ∧ w = s (7 * a + 7)) → k < m → k < m' → g + k = n → ∃ r, f_X5_heaviest_b7 m (some 1) f w (i32 g) h = some (r, h) ∧ f_X12_order_b12 m' (some 26) (-1) f (i32 g) h' = some (r, h') := by
  have h7 := Q.h7
  have T := Q.1.2.1.1
  have r0 := Q.2.1.1.2.1
  intro k
  induction k with
  | zero =>
    intro m m' g f w P hm hm' hg
    obtain ⟨m, rfl⟩ := succ_of hm
    obtain ⟨m', rfl⟩ := succ_of hm'
    have z : i32 n ≤ i32 g := by rw [i32_le (by omega) (by omega)]; omega
    rw [e_X5_heaviest_b7, e_X12_order_b12, gI_1 T.1.1, sb_some, Q.1.2.1.2.1.1, if_pos z, Q.2.1.o0, sb_some, r54_0 r0, sb_some, Q.n0, if_pos z]
    exact ⟨f, rfl, rfl⟩
  | succ k ih =>
    intro m m' g f w P hm hm' hg
    obtain ⟨m, rfl⟩ := succ_of hm
    obtain ⟨m', rfl⟩ := succ_of hm'
    have hgn : g < n := by omega
    have z : ¬ i32 n ≤ i32 g := by rw [i32_le (by omega) (by omega)]; omega
    rw [e_X5_heaviest_b7, e_X12_order_b12]
    simp only [gI_1 T.1.1, sb_some, Q.1.2.1.2.1.1, if_neg z, Q.2.1.o0, r54_0 r0, Q.n0, cv_ok T.1.1, k_isIn Q.1.2.1 Q.1.2.2 hgn, bd_some, m_isHere r0 (show g < 7 by omega), gR_1 T.1.1, T.2.1.2.1, iA_ok T.1.2.2.1 (show g < 7 by omega) (by omega), (Q.1.2.1.2.2 g hgn).2.1, m_of2, r54 (7 * g + 7) (by omega) r0, Q.2.2.1, i32_s, f_X12_order_b79, if_pos (show (-1 : Int32) < 0 by decide)]
    show ∃ r, (if bI (inP s g) = 0 then _ else _) = _ ∧ (if bI (inP s g) = 0 then _ else _) = _
    cases inP s g with
    | false => rw [if_pos pb0, if_pos pb0]; exact ih m m' (g + 1) f w P (by omega) (by omega) (by omega)
    | true =>
      rw [if_neg nb1, if_neg nb1]
      obtain ⟨wg, w1, w2⟩ := (Q.1.2.2.2.2 g hgn).2.1
      rcases P with ⟨rfl, rfl⟩ | ⟨a, a1, rfl, rfl⟩
      · have y : ¬ s (7 * g + 7) ≤ -1 := by
          rw [w2]
          exact fun y => i32_nn (a := wg) (by omega) (Int32.lt_of_le_of_lt y (by decide))
        rw [if_neg y, if_pos (by decide)]
        exact ih m m' (g + 1) (i32 g) _ (Or.inr ⟨g, hgn, rfl, rfl⟩) (by omega) (by omega) (by omega)
      · rw [if_neg (i32_nn (by omega))]
        simp only [m_of2, bd_some, r54 (7 * a + 7) (by omega) r0, sb_some, Q.2.2.1]
        by_cases y : s (7 * g + 7) ≤ s (7 * a + 7)
        · rw [if_pos y, if_pos y]
          exact ih m m' (g + 1) _ _ (Or.inr ⟨a, a1, rfl, rfl⟩) (by omega) (by omega) (by omega)
        · rw [if_neg y, if_neg y]
          exact ih m m' (g + 1) (i32 g) _ (Or.inr ⟨g, hgn, rfl, rfl⟩) (by omega) (by omega) (by omega)
theorem R_order (Q : QS n s h h') (v1 : Int32) : RR 0 h h' (f_X11_order (some 0) v1 h) (f_X12_order (some 26) v1 h') := by
  unfold f_X11_order f_X12_order
  have h7 := Q.h7
  by_cases a : -1 ≤ v1
  · rw [if_pos a, if_pos a]
    by_cases b : v1 = -1
    · subst b
      rw [if_pos rfl, Q.1.1.o0, sb_some, cv_ok Q.1.2.1.1.1.1]
      obtain ⟨r, e1, e2⟩ := rl_heaviest Q n FU FU 0 (-4) (-1) (Or.inl ⟨rfl, rfl⟩) (fu_pos (by omega)) (fu_pos (by omega)) (by omega)
      have e1' : f_X5_heaviest (some 1) h = some (r, h) := e1
      rw [e1', bd_some]
      exact RR.mk r rfl e2
    · rw [if_neg b, Q.1.1.o0, sb_some, cv_ok Q.1.2.1.1.1.1]
      have hv : ¬ v1 < 0 := by
        intro z
        rw [Int32.lt_iff_toInt_lt] at z
        rw [Int32.le_iff_toInt_le] at a
        have : v1.toInt = (-1 : Int32).toInt := by
          have : (-1 : Int32).toInt = -1 := by decide
          have : (0 : Int32).toInt = 0 := by decide
          omega
        exact b (Int32.toInt_inj.mp this)
      have e1 : f_X5_byWeight (some 1) v1 h = some (srch (orP n s v1) 0 n, h) := k_byWeight Q.1.2.1 Q.1.2.2 v1 n FU 0 (fu_pos (by omega)) (by omega)
      rw [e1, bd_some]
      exact RR.mk _ rfl (m_orderI Q hv n FU 0 (-4) (fun z => absurd rfl z) (fu_pos (by omega)) (by omega))
  · rw [if_neg a, if_neg a]
    exact RR.mk (-1) rfl rfl
end Q3
