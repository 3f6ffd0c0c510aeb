section HB2
variable {h : AH} {b b2 n g : Nat} {s : R54}
/-- one more guest -/
def addG (n : Nat) (κ f v : Int32) (s : R54) : R54 := va_up (va_up (va_up (va_up (va_up (va_up (va_up (va_up s (7 * n + 5) κ) (7 * n + 6) f) (7 * n + 7) v) (7 * n + 8) (v + rng κ f)) (7 * n + 9) 3) (7 * n + 10) (s 1)) (7 * n + 11) 1) 0 (i32 (n + 1))
theorem addG_lo {κ f v : Int32} (j : Nat) (hj : j < 7 * n + 5) (h0 : j ≠ 0) : addG n κ f v s j = s j := by
  unfold addG
  rw [up_ne h0, up_ne (by omega), up_ne (by omega), up_ne (by omega), up_ne (by omega), up_ne (by omega), up_ne (by omega), up_ne (by omega)]
theorem addG_in {κ f v : Int32} : addG n κ f v s (7 * n + 11) = 1 := by
  unfold addG
  rw [up_ne (by omega), up_eq]
theorem addG_at {κ f v : Int32} : addG n κ f v s (7 * n + 5) = κ ∧ addG n κ f v s (7 * n + 6) = f ∧ addG n κ f v s (7 * n + 7) = v ∧ addG n κ f v s (7 * n + 8) = v + rng κ f ∧ addG n κ f v s (7 * n + 9) = 3 ∧ addG n κ f v s (7 * n + 10) = s 1 := by
  unfold addG va_up
  refine ⟨?_, ?_, ?_, ?_, ?_, ?_⟩
  · rw [if_neg (show ¬ 7 * n + 5 = 0 by omega), if_neg (show ¬ 7 * n + 5 = 7 * n + 11 by omega), if_neg (show ¬ 7 * n + 5 = 7 * n + 10 by omega), if_neg (show ¬ 7 * n + 5 = 7 * n + 9 by omega), if_neg (show ¬ 7 * n + 5 = 7 * n + 8 by omega), if_neg (show ¬ 7 * n + 5 = 7 * n + 7 by omega), if_neg (show ¬ 7 * n + 5 = 7 * n + 6 by omega), if_pos rfl]
  · rw [if_neg (show ¬ 7 * n + 6 = 0 by omega), if_neg (show ¬ 7 * n + 6 = 7 * n + 11 by omega), if_neg (show ¬ 7 * n + 6 = 7 * n + 10 by omega), if_neg (show ¬ 7 * n + 6 = 7 * n + 9 by omega), if_neg (show ¬ 7 * n + 6 = 7 * n + 8 by omega), if_neg (show ¬ 7 * n + 6 = 7 * n + 7 by omega), if_pos rfl]
  · rw [if_neg (show ¬ 7 * n + 7 = 0 by omega), if_neg (show ¬ 7 * n + 7 = 7 * n + 11 by omega), if_neg (show ¬ 7 * n + 7 = 7 * n + 10 by omega), if_neg (show ¬ 7 * n + 7 = 7 * n + 9 by omega), if_neg (show ¬ 7 * n + 7 = 7 * n + 8 by omega), if_pos rfl]
  · rw [if_neg (show ¬ 7 * n + 8 = 0 by omega), if_neg (show ¬ 7 * n + 8 = 7 * n + 11 by omega), if_neg (show ¬ 7 * n + 8 = 7 * n + 10 by omega), if_neg (show ¬ 7 * n + 8 = 7 * n + 9 by omega), if_pos rfl]
  · rw [if_neg (show ¬ 7 * n + 9 = 0 by omega), if_neg (show ¬ 7 * n + 9 = 7 * n + 11 by omega), if_neg (show ¬ 7 * n + 9 = 7 * n + 10 by omega), if_pos rfl]
  · rw [if_neg (show ¬ 7 * n + 10 = 0 by omega), if_neg (show ¬ 7 * n + 10 = 7 * n + 11 by omega), if_pos rfl]
theorem k_takeIn (H : Hs h b n s) (O : Ok n s) (hn : n < 7) {k : Nat} {κ f v : Int32} (G : Gst h k κ f) : ∃ h1, f_X5_takeIn (some b) (some k) v h = some ((), h1) ∧ Hs h1 b (n + 1) (addG n κ f v s) ∧ FrB b h h1 := by
  unfold f_X5_takeIn
  have T := H.1
  obtain ⟨q5, q6, q7, q8, q9, q10⟩ := H.2.1
  rw [gR_1 T.1.1, sb_some, gI_1 T.1.1, sb_some, T.2.1.1, q5, rS_ok T.1.2.1 (show n < 7 by omega) (by omega) G.fits, sb_some]
  have F1 : FrB b h (wR h (b + 1) (va_up (aR h (b + 1)) n (some k))) := FrB.wR
  have p1 : aR (wR h (b + 1) (va_up (aR h (b + 1)) n (some k))) (b + 1) = va_up (aR h (b + 1)) n (some k) := aR_eq
  have i1 : ∀ c, aI (wR h (b + 1) (va_up (aR h (b + 1)) n (some k))) c = aI h c := fun _ => rfl
  generalize wR h (b + 1) (va_up (aR h (b + 1)) n (some k)) = h1 at F1 p1 i1 ⊢
  have T1 : Hty h1 b := T.fr F1 (by omega)
  rw [gR_1 T1.1.1, sb_some, gI_1 T1.1.1, sb_some, T1.2.1.2.1, i1, q5, iS_ok T1.1.2.2.1 (show n < 7 by omega) (by omega), sb_some]
  have F2 : FrB b h1 (wI h1 (b + 2) (va_up (aI h1 (b + 2)) n v)) := FrB.wI (by omega)
  obtain ⟨h2, e2⟩ : ∃ h2, h2 = wI h1 (b + 2) (va_up (aI h1 (b + 2)) n v) := ⟨_, rfl⟩
  rw [← e2] at F2 ⊢
  have T2 : Hty h2 b := T1.fr F2 (by omega)
  have b2 : aI h2 b = aI h b := by rw [e2, aI_ne (by omega), i1]
  have G2 : Gst h2 k κ f := (G.fr T F1).fr T1 F2
  rw [gR_1 T2.1.1, sb_some, gI_1 T2.1.1, sb_some, T2.2.1.2.2.1, b2, q5, k_dyn_rings G2, bd_some, iS_ok T2.1.2.2.2.1 (show n < 7 by omega) (by omega), sb_some]
  have F3 : FrB b h2 (wI h2 (b + 3) (va_up (aI h2 (b + 3)) n (v + rng κ f))) := FrB.wI (by omega)
  obtain ⟨h3, e3⟩ : ∃ h3, h3 = wI h2 (b + 3) (va_up (aI h2 (b + 3)) n (v + rng κ f)) := ⟨_, rfl⟩
  rw [← e3] at F3 ⊢
  have T3 : Hty h3 b := T2.fr F3 (by omega)
  have b3 : aI h3 b = aI h b := by rw [e3, aI_ne (by omega), b2]
  rw [gR_1 T3.1.1, sb_some, gI_1 T3.1.1, sb_some, T3.2.1.2.2.2.1, b3, q5, iS_ok T3.1.2.2.2.2.1 (show n < 7 by omega) (by omega), sb_some]
  have F4 : FrB b h3 (wI h3 (b + 4) (va_up (aI h3 (b + 4)) n 3)) := FrB.wI (by omega)
  obtain ⟨h4, e4⟩ : ∃ h4, h4 = wI h3 (b + 4) (va_up (aI h3 (b + 4)) n 3) := ⟨_, rfl⟩
  rw [← e4] at F4 ⊢
  have T4 : Hty h4 b := T3.fr F4 (by omega)
  have b4 : aI h4 b = aI h b := by rw [e4, aI_ne (by omega), b3]
  rw [gR_1 T4.1.1, sb_some, gI_1 T4.1.1, sb_some, gI_1 T4.1.1, sb_some, T4.2.1.2.2.2.2, b4, q5, q10, iS_ok T4.1.2.2.2.2.2 (show n < 7 by omega) (by omega), sb_some]
  have F5 : FrB b h4 (wI h4 (b + 5) (va_up (aI h4 (b + 5)) n (s 1))) := FrB.wI (by omega)
  obtain ⟨h5, e5⟩ : ∃ h5, h5 = wI h4 (b + 5) (va_up (aI h4 (b + 5)) n (s 1)) := ⟨_, rfl⟩
  rw [← e5] at F5 ⊢
  have T5 : Hty h5 b := T4.fr F5 (by omega)
  have b5 : aI h5 b = aI h b := by rw [e5, aI_ne (by omega), b4]
  rw [gI_1 T5.1.1, sb_some, gI_1 T5.1.1, sb_some, pI_1' T5.1.1, sb_some, b5, q5, q6]
  have F6 : FrB b h5 (wI h5 b (va_up (aI h b) 6 (sI n s ||| (1 : Int32) <<< (i32 n &&& 31)))) := FrB.wI (by omega)
  obtain ⟨h6, e6⟩ : ∃ h6, h6 = wI h5 b (va_up (aI h b) 6 (sI n s ||| (1 : Int32) <<< (i32 n &&& 31))) := ⟨_, rfl⟩
  rw [← e6] at F6 ⊢
  have T6 : Hty h6 b := T5.fr F6 (by omega)
  have b6 : aI h6 b = va_up (aI h b) 6 (sI n s ||| (1 : Int32) <<< (i32 n &&& 31)) := by rw [e6, aI_eq]
  rw [gI_1 T6.1.1, sb_some, pI_1' T6.1.1, sb_some, b6, up_ne (show 5 ≠ 6 by omega), q5, i32_s]
  have F7 : FrB b h6 (wI h6 b (va_up (va_up (aI h b) 6 (sI n s ||| (1 : Int32) <<< (i32 n &&& 31))) 5 (i32 (n + 1)))) := FrB.wI (by omega)
  obtain ⟨h7, e7⟩ : ∃ h7, h7 = wI h6 b (va_up (va_up (aI h b) 6 (sI n s ||| (1 : Int32) <<< (i32 n &&& 31))) 5 (i32 (n + 1))) := ⟨_, rfl⟩
  rw [← e7] at F7 ⊢
  have F : FrB b h h7 := F1.tr (F2.tr (F3.tr (F4.tr (F5.tr (F6.tr F7)))))
  have b7 : aI h7 b = va_up (va_up (aI h b) 6 (sI n s ||| (1 : Int32) <<< (i32 n &&& 31))) 5 (i32 (n + 1)) := by rw [e7, aI_eq]
  have z2 : aI h7 (b + 2) = va_up (aI h (b + 2)) n v := by
    rw [e7, aI_ne (by omega), e6, aI_ne (by omega), e5, aI_ne (by omega), e4, aI_ne (by omega), e3, aI_ne (by omega), e2, aI_eq, i1]
  have z3 : aI h7 (b + 3) = va_up (aI h (b + 3)) n (v + rng κ f) := by
    rw [e7, aI_ne (by omega), e6, aI_ne (by omega), e5, aI_ne (by omega), e4, aI_ne (by omega), e3, aI_eq, e2, aI_ne (by omega), i1]
  have z4 : aI h7 (b + 4) = va_up (aI h (b + 4)) n 3 := by
    rw [e7, aI_ne (by omega), e6, aI_ne (by omega), e5, aI_ne (by omega), e4, aI_eq, e3, aI_ne (by omega), e2, aI_ne (by omega), i1]
  have z5 : aI h7 (b + 5) = va_up (aI h (b + 5)) n (s 1) := by
    rw [e7, aI_ne (by omega), e6, aI_ne (by omega), e5, aI_eq, e4, aI_ne (by omega), e3, aI_ne (by omega), e2, aI_ne (by omega), i1]
  have zR : aR h7 (b + 1) = va_up (aR h (b + 1)) n (some k) := by
    rw [e7, e6, e5, e4, e3, e2]
    exact p1
  have key : ∀ j, j < 7 * n + 5 → j ≠ 0 → addG n κ f v s j = s j := addG_lo
  refine ⟨h7, rfl, ⟨T.fr F (by omega), ?_, fun j hj => ?_⟩, F⟩
  · unfold SC
    rw [b7, key 3 (by omega) (by omega), key 4 (by omega) (by omega), key 2 (by omega) (by omega), key 1 (by omega) (by omega)]
    refine ⟨up_eq _ _ _, ?_, ?_⟩
    · rw [up_ne (by omega), up_eq, sI_new (s := s) hn O.1.2.2 (addG_in) (fun g hg => key _ (by omega) (by omega))]
    · rw [up_ne (by omega), up_ne (by omega), up_ne (by omega), up_ne (by omega), up_ne (by omega), up_ne (by omega), up_ne (by omega), up_ne (by omega)]
      exact ⟨q7, q8, q9, q10⟩
  · unfold PG
    rw [zR, z2, z3, z4, z5]
    by_cases e : j = n
    · subst e
      obtain ⟨a1, a2, a3, a4, a5, a6⟩ := addG_at (n := j) (κ := κ) (f := f) (v := v) (s := s)
      rw [up_eq, up_eq, up_eq, up_eq, up_eq, a1, a2, a3, a4, a5, a6]
      exact ⟨⟨k, rfl, G.fr T F⟩, rfl, rfl, rfl, rfl⟩
    · obtain ⟨⟨k2, c0, c1⟩, c2, c3, c4, c5⟩ := H.2.2 j (by omega)
      rw [up_ne e, up_ne e, up_ne e, up_ne e, up_ne e, key _ (by omega) (by omega), key _ (by omega) (by omega), key _ (by omega) (by omega), key _ (by omega) (by omega), key _ (by omega) (by omega), key _ (by omega) (by omega)]
      exact ⟨⟨k2, c0, c1.fr T F⟩, c2, c3, c4, c5⟩
theorem Ok_addG (O : Ok n s) (hn : n < 7) {κ f v : Int32} (hk : rg κ 7) (hf : rg f 9) (hv : rg v 99) : Ok (n + 1) (addG n κ f v s) := by
  have key : ∀ j, j < 7 * n + 5 → j ≠ 0 → addG n κ f v s j = s j := addG_lo
  obtain ⟨a1, a2, a3, a4, a5, a6⟩ := addG_at (n := n) (κ := κ) (f := f) (v := v) (s := s)
  obtain ⟨⟨o1, o2, o3⟩, ⟨o4, o5, o6⟩, o7⟩ := O
  refine ⟨⟨up_eq _ _ _, by omega, fun g hg => ?_⟩, ⟨by rw [key 3 (by omega) (by omega)]; exact o4, by rw [key 4 (by omega) (by omega)]; exact o5, by rw [key 2 (by omega) (by omega)]; exact o6⟩, fun g hg => ?_⟩
  · by_cases e : g = n
    · subst e
      exact Or.inr addG_in
    · rw [key _ (by omega) (by omega)]
      exact o3 g (by omega)
  · by_cases e : g = n
    · subst e
      have hr : rg (v + rng κ f) 120 := by
        obtain ⟨x, x1, x2⟩ := rng_rg hk hf
        obtain ⟨w, w1, w2⟩ := hv
        rw [x2, w2, i32_add]
        exact ⟨_, by omega, rfl⟩
      rw [a1, a2, a3, a4, a5]
      exact ⟨hf, hv, ⟨3, by omega, rfl⟩, hk, hr⟩
    · rw [key _ (by omega) (by omega), key _ (by omega) (by omega), key _ (by omega) (by omega), key _ (by omega) (by omega), key _ (by omega) (by omega)]
      exact o7 g (by omega)
def tel (g : Nat) (s : R54) : R54 := va_up (va_up s (7 * g + 9) (s (7 * g + 9) - 1)) (7 * g + 7) (hld (s (7 * g + 7) - lgt (s (7 * g + 5)) (s (7 * g + 6))))
def lnd (g o : Nat) (w : Int32) (s : R54) : R54 := va_up (va_up s (7 * g + 7) (s (7 * g + 7) - w)) (7 * o + 7) (va_up s (7 * g + 7) (s (7 * g + 7) - w) (7 * o + 7) + w)
def ct (g : Nat) (s : R54) : Bool := inP s g && decide (0 < s (7 * g + 9))
def cl (g o : Nat) (w : Int32) (s : R54) : Bool := inP s g && (inP s o && (decide (w ≤ s (7 * g + 7)) && decide (s (7 * o + 7) + w ≤ 99)))
theorem k_canTell (H : Hs h b n s) (O : Ok n s) (hg : g < n) : f_X5_canTell (some b) (i32 g) h = some (bI (ct g s), h) := by
  have h7 := O.1.2.1
  have T := H.1
  unfold f_X5_canTell ct
  simp only [cv_ok T.1.1, k_isIn H O hg, bd_some, bI_0, gR_1 T.1.1, sb_some, T.2.1.2.2.2.1, iA_ok T.1.2.2.2.2.1 (show g < 7 by omega) (by omega), (H.2.2 g hg).2.2.2.1]
  cases inP s g with
  | false => rfl
  | true =>
    rw [if_neg (by decide)]
    by_cases e : s (7 * g + 9) ≤ 0
    · rw [if_pos e, decide_eq_false (Int32.not_lt.mpr e)]; rfl
    · rw [if_neg e, decide_eq_true (Int32.not_le.mp e)]; rfl
theorem k_tellSecret (H : Hs h b n s) (O : Ok n s) (hg : g < n) : ∃ h1, f_X5_tellSecret (some b) (i32 g) h = some ((), h1) ∧ Hs h1 b n (tel g s) ∧ FrB b h h1 := by
  have h7 := O.1.2.1
  have T := H.1
  obtain ⟨p1, p2, p3, p4, p5⟩ := O.2.2 g hg
  unfold f_X5_tellSecret tel
  rw [gR_1 T.1.1, sb_some, T.2.1.2.2.2.1, iA_ok T.1.2.2.2.2.1 (show g < 7 by omega) (by omega), sb_some, iS_ok T.1.2.2.2.2.1 (show g < 7 by omega) (by omega), sb_some, (H.2.2 g hg).2.2.2.1]
  obtain ⟨H1, F1⟩ := H.wA (g := g) (v := s (7 * g + 9) - 1) (t := 4) (by omega)
  generalize wI h (b + 4) (va_up (aI h (b + 4)) g (s (7 * g + 9) - 1)) = h1 at H1 F1 ⊢
  have T1 := H1.1
  obtain ⟨⟨k, x0, x1⟩, x2, x3⟩ := H1.2.2 g hg
  rw [up_ne (by omega), up_ne (by omega)] at x1
  rw [up_ne (by omega)] at x2
  rw [gR_1 T1.1.1, sb_some, gR_1 T1.1.1, sb_some, T1.2.1.2.1, iA_ok T1.1.2.2.1 (show g < 7 by omega) (by omega), sb_some, sb_some, T1.2.1.1, rA_ok T1.1.2.1 (show g < 7 by omega) (by omega), sb_some, x0, k_dyn_lighter x1, bd_some, iS_ok T1.1.2.2.1 (show g < 7 by omega) (by omega), sb_some, x2, less_eq p2 ((lgt_rg p4 p1).mono (by omega))]
  obtain ⟨H2, F2⟩ := H1.wA (g := g) (v := hld (s (7 * g + 7) - lgt (s (7 * g + 5)) (s (7 * g + 6)))) (t := 2) (by omega)
  exact ⟨_, rfl, H2, F1.tr F2⟩
theorem Ok_tel (O : Ok n s) (hg : g < n) (hc : ct g s = true) : Ok n (tel g s) := by
  obtain ⟨p1, p2, p3, p4, p5⟩ := O.2.2 g hg
  unfold tel
  refine (O.up (okV_s ?_)).up (okV_w (hld_rg _))
  unfold ct at hc
  simp only [Bool.and_eq_true, decide_eq_true_eq] at hc
  obtain ⟨j, j1, j2⟩ := p3
  have h0 := hc.2
  rw [j2] at h0 ⊢
  rw [show (0 : Int32) = i32 0 from rfl, i32_lt (by omega) (by omega)] at h0
  rw [show (1 : Int32) = i32 1 from rfl, i32_sub (by omega)]
  exact ⟨_, by omega, rfl⟩
theorem k_canLend (H : Hs h b n s) (O : Ok n s) {o : Nat} (hg : g < n) (ho : o < n) (w : Int32) : f_X5_canLend (some b) (i32 g) (i32 o) w h = some (bI (cl g o w s), h) := by
  have h7 := O.1.2.1
  have T := H.1
  unfold f_X5_canLend cl
  simp only [cv_ok T.1.1, k_isIn H O hg, k_isIn H O ho, bd_some, bI_0, gR_1 T.1.1, sb_some, T.2.1.2.1, iA_ok T.1.2.2.1 (show g < 7 by omega) (by omega), iA_ok T.1.2.2.1 (show o < 7 by omega) (by omega), (H.2.2 g hg).2.1, (H.2.2 o ho).2.1]
  cases inP s g with
  | false => rfl
  | true =>
    rw [if_neg (by decide)]
    cases inP s o with
    | false => rfl
    | true =>
      rw [if_neg (by decide)]
      by_cases e : s (7 * g + 7) < w
      · rw [if_pos e, decide_eq_false (Int32.not_le.mpr e)]; rfl
      · rw [if_neg e, decide_eq_true (Int32.not_lt.mp e)]
        by_cases e2 : 99 < s (7 * o + 7) + w
        · rw [if_pos e2, decide_eq_false (Int32.not_le.mpr e2)]; rfl
        · rw [if_neg e2, decide_eq_true (Int32.not_lt.mp e2)]; rfl
theorem k_lend (H : Hs h b n s) (O : Ok n s) {o : Nat} (hg : g < n) (ho : o < n) (w : Int32) : ∃ h1, f_X5_lendPounds (some b) (i32 g) (i32 o) w h = some ((), h1) ∧ Hs h1 b n (lnd g o w s) ∧ FrB b h h1 := by
  have h7 := O.1.2.1
  have T := H.1
  unfold f_X5_lendPounds lnd
  rw [gR_1 T.1.1, sb_some, T.2.1.2.1, iA_ok T.1.2.2.1 (show g < 7 by omega) (by omega), sb_some, iS_ok T.1.2.2.1 (show g < 7 by omega) (by omega), sb_some, (H.2.2 g hg).2.1]
  obtain ⟨H1, F1⟩ := H.wA (g := g) (v := s (7 * g + 7) - w) (t := 2) (by omega)
  generalize wI h (b + 2) (va_up (aI h (b + 2)) g (s (7 * g + 7) - w)) = h1 at H1 F1 ⊢
  have T1 := H1.1
  rw [gR_1 T1.1.1, sb_some, T1.2.1.2.1, iA_ok T1.1.2.2.1 (show o < 7 by omega) (by omega), sb_some, iS_ok T1.1.2.2.1 (show o < 7 by omega) (by omega), sb_some, (H1.2.2 o ho).2.1]
  obtain ⟨H2, F2⟩ := H1.wA (g := o) (v := va_up s (7 * g + (5 + 2)) (s (7 * g + 7) - w) (7 * o + 7) + w) (t := 2) (by omega)
  exact ⟨_, rfl, H2, F1.tr F2⟩
theorem Ok_lnd (O : Ok n s) {o : Nat} (hg : g < n) (ho : o < n) (hgo : g ≠ o) {w : Int32} (hw : rg w 20) (hc : cl g o w s = true) : Ok n (lnd g o w s) := by
  obtain ⟨-, p2, -, -, -⟩ := O.2.2 g hg
  obtain ⟨-, r2, -, -, -⟩ := O.2.2 o ho
  unfold cl at hc
  simp only [Bool.and_eq_true, decide_eq_true_eq] at hc
  obtain ⟨-, -, c1, c2⟩ := hc
  obtain ⟨x, x1, x2⟩ := p2
  obtain ⟨y, y1, y2⟩ := r2
  obtain ⟨z, z1, z2⟩ := hw
  unfold lnd
  rw [x2, z2, i32_le (by omega) (by omega)] at c1
  rw [y2, z2, i32_add, show (99 : Int32) = i32 99 from rfl, i32_le (by omega) (by omega)] at c2
  refine (O.up (okV_w ?_)).up (okV_w ?_)
  · rw [x2, z2, i32_sub c1]
    exact ⟨_, by omega, rfl⟩
  · rw [up_ne (by omega), y2, z2, i32_add]
    exact ⟨_, by omega, rfl⟩
theorem k_lacks (H : Hs h b n s) (O : Ok n s) (hg : g < n) : f_X5_lacks (some b) (i32 g) h = some ((if inP s g then mmax 0 (s (7 * g + 7) - s (7 * g + 8) + 1) else 0), h) := by
  have h7 := O.1.2.1
  have T := H.1
  unfold f_X5_lacks
  simp only [cv_ok T.1.1, k_isIn H O hg, bd_some, bI_0, gR_1 T.1.1, sb_some, T.2.1.2.1, T.2.1.2.2.1, iA_ok T.1.2.2.1 (show g < 7 by omega) (by omega), iA_ok T.1.2.2.2.1 (show g < 7 by omega) (by omega), (H.2.2 g hg).2.1, (H.2.2 g hg).2.2.1]
  cases inP s g <;> rfl
/-- a day as one guest has it -/
def dayW (v : Int32) (g : Nat) (s : R54) : R54 := go1 g (eatW v g (va_up s 1 (s 1 + 1)))
def dayO (g : Nat) (s : R54) : R54 := dayW (eat (s (7 * g + 5)) (s 3)) g s
theorem Ok_dayW (O : Ok n s) (v : Int32) (hg : g < n) : Ok n (dayW v g s) := Ok_go1 (Ok_eatW (O.up okV_1) _ _) hg
theorem Ok_dayO (O : Ok n s) (hg : g < n) : Ok n (dayO g s) := Ok_dayW O _ hg
theorem k_passDayEating (H : Hs h b n s) (O : Ok n s) (hg : g < n) {v : Int32} (hv : rg v 18) : ∃ h1, f_X5_passDayEating (some b) (i32 g) v h = some ((), h1) ∧ Hs h1 b n (dayW v g s) ∧ FrB b h h1 := by
  unfold f_X5_passDayEating dayW
  rw [gI_1 H.1.1.1, sb_some, pI_1' H.1.1.1, sb_some, H.2.1.2.2.2.2.2]
  obtain ⟨W1, W2⟩ := H.wF (v := s 1 + 1) (k := 10) (i := 1) (by omega)
  generalize wI h b (va_up (aI h b) 10 (s 1 + 1)) = h1 at W1 W2 ⊢
  have O1 := O.up (v := s 1 + 1) okV_1
  generalize va_up s 1 (s 1 + 1) = s1 at W1 O1 ⊢
  obtain ⟨h2, q1, q2, q3⟩ := k_eat W1 O1 hg hv
  have O2 := Ok_eatW O1 v g
  rw [cv_ok W1.1.1.1, q1, bd_some, cv_ok q2.1.1.1, k_mayGo q2 O2 hg, bd_some]
  simp only [bI_0]
  cases e : mg (eatW v g s1) g with
  | false =>
    rw [if_pos rfl]
    refine ⟨h2, rfl, ?_, W2.tr q3⟩
    unfold go1
    rw [e]
    exact q2
  | true =>
    rw [if_neg (by decide), cv_ok q2.1.1.1]
    obtain ⟨h3, w1, w2, w3⟩ := k_goAway q2 O2 hg e
    rw [w1, bd_some]
    exact ⟨h3, rfl, w2, W2.tr (q3.tr w3)⟩
theorem k_passDayOf (H : Hs h b n s) (O : Ok n s) (hg : g < n) : ∃ h1, f_X5_passDayOf (some b) (i32 g) h = some ((), h1) ∧ Hs h1 b n (dayO g s) ∧ FrB b h h1 := by
  unfold f_X5_passDayOf dayO
  obtain ⟨p1, p2, p3, p4, p5⟩ := O.2.2 g hg
  obtain ⟨h1, q1, q2, q3⟩ := k_passDayEating H O hg (eat_rg p4 O.2.1.1)
  rw [cv_ok H.1.1.1, k_foodOf H O hg, bd_some, cv_ok H.1.1.1, q1, bd_some]
  exact ⟨h1, rfl, q2, q3⟩
end HB2
