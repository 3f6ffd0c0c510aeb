/-! BECOMES, COMES IN, TELLS, LENDS -/
section HB
variable {h : AH} {b b2 n g : Nat} {s : R54}
theorem Gst.fits {k : Nat} {κ f : Int32} (G : Gst h k κ f) : fits1 h GF (some k) = true := by
  obtain ⟨-, c, hT, hk, -⟩ := G
  unfold fits1
  simp only [hT]
  exact decide_eq_true (gk_GF hk)
theorem Gst.wR {k a : Nat} {κ f : Int32} {q : Nat → Option Nat} (G : Gst h k κ f) : Gst (wR h a q) k κ f := G
theorem bc_w2 {β : Type} {f : AH → Option β} (T : Hty h b) (H : Hs h b2 n s) (h7 : n ≤ 7) (hg : g < n) : ((gR h (some b) [5] 1).bind fun t18 => (gR h (some b2) [5] 1).bind fun t19 => (iA h t19 (i32 g)).bind fun t20 => (iS h t18 (i32 g) t20).bind f) = f (wI h (b + 2) (va_up (aI h (b + 2)) g (s (7 * g + 7)))) := by
  rw [gR_1 T.1.1, sb_some, gR_1 H.1.1.1, sb_some, T.2.1.2.1, H.1.2.1.2.1, iA_ok H.1.1.2.2.1 (show g < 7 by omega) (by omega), sb_some, iS_ok T.1.2.2.1 (show g < 7 by omega) (by omega), sb_some, (H.2.2 g hg).2.1]
theorem bc_w3 {β : Type} {f : AH → Option β} (T : Hty h b) (H : Hs h b2 n s) (h7 : n ≤ 7) (hg : g < n) : ((gR h (some b) [5] 2).bind fun t18 => (gR h (some b2) [5] 2).bind fun t19 => (iA h t19 (i32 g)).bind fun t20 => (iS h t18 (i32 g) t20).bind f) = f (wI h (b + 3) (va_up (aI h (b + 3)) g (s (7 * g + 8)))) := by
  rw [gR_1 T.1.1, sb_some, gR_1 H.1.1.1, sb_some, T.2.1.2.2.1, H.1.2.1.2.2.1, iA_ok H.1.1.2.2.2.1 (show g < 7 by omega) (by omega), sb_some, iS_ok T.1.2.2.2.1 (show g < 7 by omega) (by omega), sb_some, (H.2.2 g hg).2.2.1]
theorem bc_w4 {β : Type} {f : AH → Option β} (T : Hty h b) (H : Hs h b2 n s) (h7 : n ≤ 7) (hg : g < n) : ((gR h (some b) [5] 3).bind fun t18 => (gR h (some b2) [5] 3).bind fun t19 => (iA h t19 (i32 g)).bind fun t20 => (iS h t18 (i32 g) t20).bind f) = f (wI h (b + 4) (va_up (aI h (b + 4)) g (s (7 * g + 9)))) := by
  rw [gR_1 T.1.1, sb_some, gR_1 H.1.1.1, sb_some, T.2.1.2.2.2.1, H.1.2.1.2.2.2.1, iA_ok H.1.1.2.2.2.2.1 (show g < 7 by omega) (by omega), sb_some, iS_ok T.1.2.2.2.2.1 (show g < 7 by omega) (by omega), sb_some, (H.2.2 g hg).2.2.2.1]
theorem bc_w5 {β : Type} {f : AH → Option β} (T : Hty h b) (H : Hs h b2 n s) (h7 : n ≤ 7) (hg : g < n) : ((gR h (some b) [5] 4).bind fun t18 => (gR h (some b2) [5] 4).bind fun t19 => (iA h t19 (i32 g)).bind fun t20 => (iS h t18 (i32 g) t20).bind f) = f (wI h (b + 5) (va_up (aI h (b + 5)) g (s (7 * g + 10)))) := by
  rw [gR_1 T.1.1, sb_some, gR_1 H.1.1.1, sb_some, T.2.1.2.2.2.2, H.1.2.1.2.2.2.2, iA_ok H.1.1.2.2.2.2.2 (show g < 7 by omega) (by omega), sb_some, iS_ok T.1.2.2.2.2.2 (show g < 7 by omega) (by omega), sb_some, (H.2.2 g hg).2.2.2.2]
theorem ex_eq {β : Type} {o o2 : Option β} {P : β → Prop} (e : o = o2) (h : ∃ x, o2 = some x ∧ P x) : ∃ x, o = some x ∧ P x := by rw [e]; exact h
/-- one turn of becomes -/
theorem bc_turn {f : AH → Option (Unit × AH)} {k : Nat} (hd : b + 6 ≤ b2 ∨ b2 + 6 ≤ b) (T : Hty h b) (H : Hs h b2 n s) (h7 : n ≤ 7) (hg : g < n) : ∃ h9 : AH, ((gR h (some b) [5] 0).bind fun t14 =>
    (gR h (some b2) [5] 0).bind fun t15 =>
    (rA h t15 2 (i32 g)).bind fun t16 =>
    (rS h t14 2 GF (i32 g) t16).bind fun h17 =>
    (gR h17 (some b) [5] 1).bind fun t18 =>
    (gR h17 (some b2) [5] 1).bind fun t19 =>
    (iA h17 t19 (i32 g)).bind fun t20 =>
    (iS h17 t18 (i32 g) t20).bind fun h21 =>
    (gR h21 (some b) [5] 2).bind fun t22 =>
    (gR h21 (some b2) [5] 2).bind fun t23 =>
    (iA h21 t23 (i32 g)).bind fun t24 =>
    (iS h21 t22 (i32 g) t24).bind fun h25 =>
    (gR h25 (some b) [5] 3).bind fun t26 =>
    (gR h25 (some b2) [5] 3).bind fun t27 =>
    (iA h25 t27 (i32 g)).bind fun t28 =>
    (iS h25 t26 (i32 g) t28).bind fun h29 =>
    (gR h29 (some b) [5] 4).bind fun t30 =>
    (gR h29 (some b2) [5] 4).bind fun t31 =>
    (iA h29 t31 (i32 g)).bind fun t32 =>
    (iS h29 t30 (i32 g) t32).bind f) = f h9 ∧ FrB b h h9 ∧ aI h9 b = aI h b ∧ PG h9 b s g ∧ ∀ j, j < g → PG h b s j → PG h9 b s j := by
  obtain ⟨⟨q, x0, x1⟩, x2, x3, x4, x5⟩ := H.2.2 g (by omega)
  rw [gR_1 T.1.1, sb_some, gR_1 H.1.1.1, sb_some, T.2.1.1, H.1.2.1.1, rA_ok H.1.1.2.1 (show g < 7 by omega) (by omega), sb_some, x0, rS_ok T.1.2.1 (show g < 7 by omega) (by omega) x1.fits, sb_some]
  have F1 : FrB b h (wR h (b + 1) (va_up (aR h (b + 1)) g (some q))) := FrB.wR
  have p1 : aR (wR h (b + 1) (va_up (aR h (b + 1)) g (some q))) (b + 1) = va_up (aR h (b + 1)) g (some q) := aR_eq
  have i1 : ∀ c, aI (wR h (b + 1) (va_up (aR h (b + 1)) g (some q))) c = aI h c := fun _ => rfl
  generalize wR h (b + 1) (va_up (aR h (b + 1)) g (some q)) = h1 at F1 p1 i1 ⊢
  have T1 : Hty h1 b := T.fr F1 (by omega)
  have H1 : Hs h1 b2 n s := H.fr T F1 (by omega)
  rw [bc_w2 T1 H1 h7 hg]
  have F2 : FrB b h1 (wI h1 (b + 2) (va_up (aI h1 (b + 2)) g (s (7 * g + 7)))) := FrB.wI (by omega)
  obtain ⟨h2, e2⟩ : ∃ h2, h2 = wI h1 (b + 2) (va_up (aI h1 (b + 2)) g (s (7 * g + 7))) := ⟨_, rfl⟩
  rw [← e2] at F2 ⊢
  have T2 : Hty h2 b := T1.fr F2 (by omega)
  have H2 : Hs h2 b2 n s := H1.fr T1 F2 (by omega)
  rw [bc_w3 T2 H2 h7 hg]
  have F3 : FrB b h2 (wI h2 (b + 3) (va_up (aI h2 (b + 3)) g (s (7 * g + 8)))) := FrB.wI (by omega)
  obtain ⟨h3, e3⟩ : ∃ h3, h3 = wI h2 (b + 3) (va_up (aI h2 (b + 3)) g (s (7 * g + 8))) := ⟨_, rfl⟩
  rw [← e3] at F3 ⊢
  have T3 : Hty h3 b := T2.fr F3 (by omega)
  have H3 : Hs h3 b2 n s := H2.fr T2 F3 (by omega)
  rw [bc_w4 T3 H3 h7 hg]
  have F4 : FrB b h3 (wI h3 (b + 4) (va_up (aI h3 (b + 4)) g (s (7 * g + 9)))) := FrB.wI (by omega)
  obtain ⟨h4, e4⟩ : ∃ h4, h4 = wI h3 (b + 4) (va_up (aI h3 (b + 4)) g (s (7 * g + 9))) := ⟨_, rfl⟩
  rw [← e4] at F4 ⊢
  have T4 : Hty h4 b := T3.fr F4 (by omega)
  have H4 : Hs h4 b2 n s := H3.fr T3 F4 (by omega)
  rw [bc_w5 T4 H4 h7 hg]
  have F5 : FrB b h4 (wI h4 (b + 5) (va_up (aI h4 (b + 5)) g (s (7 * g + 10)))) := FrB.wI (by omega)
  obtain ⟨h5, e5⟩ : ∃ h5, h5 = wI h4 (b + 5) (va_up (aI h4 (b + 5)) g (s (7 * g + 10))) := ⟨_, rfl⟩
  rw [← e5] at F5 ⊢
  have F : FrB b h h5 := F1.tr (F2.tr (F3.tr (F4.tr F5)))
  have z2 : aI h5 (b + 2) = va_up (aI h (b + 2)) g (s (7 * g + 7)) := by
    rw [e5, aI_ne (by omega), e4, aI_ne (by omega), e3, aI_ne (by omega), e2, aI_eq, i1]
  have z3 : aI h5 (b + 3) = va_up (aI h (b + 3)) g (s (7 * g + 8)) := by
    rw [e5, aI_ne (by omega), e4, aI_ne (by omega), e3, aI_eq, e2, aI_ne (by omega), i1]
  have z4 : aI h5 (b + 4) = va_up (aI h (b + 4)) g (s (7 * g + 9)) := by
    rw [e5, aI_ne (by omega), e4, aI_eq, e3, aI_ne (by omega), e2, aI_ne (by omega), i1]
  have z5 : aI h5 (b + 5) = va_up (aI h (b + 5)) g (s (7 * g + 10)) := by
    rw [e5, aI_eq, e4, aI_ne (by omega), e3, aI_ne (by omega), e2, aI_ne (by omega), i1]
  have zb : aI h5 b = aI h b := by
    rw [e5, aI_ne (by omega), e4, aI_ne (by omega), e3, aI_ne (by omega), e2, aI_ne (by omega), i1]
  have zR : aR h5 (b + 1) = va_up (aR h (b + 1)) g (some q) := by
    rw [e5, e4, e3, e2]
    exact p1
  refine ⟨h5, rfl, F, zb, ?_, fun j hj P => ?_⟩
  · unfold PG
    rw [zR, z2, z3, z4, z5, up_eq, up_eq, up_eq, up_eq, up_eq]
    exact ⟨⟨q, rfl, x1.fr T F⟩, rfl, rfl, rfl, rfl⟩
  · obtain ⟨⟨k2, c0, c1⟩, c2, c3, c4, c5⟩ := P
    unfold PG
    rw [zR, z2, z3, z4, z5, up_ne (by omega), up_ne (by omega), up_ne (by omega), up_ne (by omega), up_ne (by omega)]
    exact ⟨⟨k2, c0, c1.fr T F⟩, c2, c3, c4, c5⟩
theorem k_becomes_b10 (hd : b + 6 ≤ b2 ∨ b2 + 6 ≤ b) (h7 : n ≤ 7) : ∀ (k m g : Nat) (h : AH), Hty h b → Hs h b2 n s → aI h b 5 = i32 n → (∀ j, j < g → PG h b s j) → k < m → g + k = n → ∃ h1, f_X5_becomes_b10 m (some b) (some b2) (i32 g) h = some ((), h1) ∧ Hs h1 b n s ∧ FrB b h h1 := by
  intro k
  induction k with
  | zero =>
    intro m g h T H h5 P hm hg
    obtain ⟨m, rfl⟩ := succ_of hm
    rw [f_X5_becomes_b10]
    have tb := T.1.1
    have t2 := H.1.1.1
    simp only [gI_1 tb, sb_some, h5, i32_le (a := n) (b := g) (by omega) (by omega), if_pos (show n ≤ g by omega)]
    have tb' : ∀ f, aT (wI h b f) b = some (.inr 5) := fun _ => tb
    have t2' : ∀ f, aT (wI h b f) b2 = some (.inr 5) := fun _ => t2
    simp only [gI_1 t2, sb_some, pI_1' tb, pI_1' (tb' _), gI_1 (t2' _), aI_eq, wI_wI, aI_ne (show b2 ≠ b by omega)]
    have F : ∀ f, FrB b h (wI h b f) := fun f => FrB.wI (Or.inl rfl)
    obtain ⟨e5, e6, e7, e8, e9, e10⟩ := H.2.1
    rw [e6, e7, e8, e9, e10]
    refine ⟨_, rfl, ⟨T.fr (F _) (by omega), ?_, fun j hj => ?_⟩, F _⟩
    · unfold SC
      rw [aI_eq]
      refine ⟨?_, ?_, ?_, ?_, ?_, ?_⟩
      · rw [up_ne (by omega), up_ne (by omega), up_ne (by omega), up_ne (by omega), up_ne (by omega)]; exact h5
      · rw [up_ne (by omega), up_ne (by omega), up_ne (by omega), up_ne (by omega), up_eq]
      · rw [up_ne (by omega), up_ne (by omega), up_ne (by omega), up_eq]
      · rw [up_ne (by omega), up_ne (by omega), up_eq]
      · rw [up_ne (by omega), up_eq]
      · rw [up_eq]
    · obtain ⟨⟨k2, x0, x1⟩, x2, x3, x4, x5⟩ := P j (by omega)
      unfold PG
      rw [aI_ne (by omega), aI_ne (by omega), aI_ne (by omega), aI_ne (by omega)]
      exact ⟨⟨k2, x0, x1.fr T (F _)⟩, x2, x3, x4, x5⟩
  | succ k ih =>
    intro m g h T H h5 P hm hg
    obtain ⟨m, rfl⟩ := succ_of hm
    rw [f_X5_becomes_b10]
    simp only [gI_1 T.1.1, sb_some, h5, i32_le (a := n) (b := g) (by omega) (by omega), if_neg (show ¬ n ≤ g by omega)]
    obtain ⟨h9, z1, z2, z3, z4, z5⟩ := bc_turn (f := fun h33 => f_X5_becomes_b10 m (some b) (some b2) (i32 g + 1) h33) (g := g) (k := k) hd T H h7 (by omega)
    rw [z1, i32_s]
    obtain ⟨h10, o1, o2, o3⟩ := ih m (g + 1) h9 (T.fr z2 (by omega)) (H.fr T z2 (by omega)) (by rw [z3]; exact h5) (fun j hj => by
      by_cases e : j = g
      · rw [e]; exact z4
      · exact z5 j (by omega) (P j (by omega))) (by omega) (by omega)
    exact ⟨h10, o1, o2, z2.tr o3⟩
theorem k_becomes (hd : b + 6 ≤ b2 ∨ b2 + 6 ≤ b) (T : Hty h b) (H : Hs h b2 n s) (h7 : n ≤ 7) : ∃ h1, f_X5_becomes (some b) (some b2) h = some ((), h1) ∧ Hs h1 b n s ∧ FrB b h h1 := by
  unfold f_X5_becomes
  rw [gI_1 H.1.1.1, sb_some, pI_1' T.1.1, sb_some, H.2.1.1]
  have F : FrB b h (wI h b (va_up (aI h b) 5 (i32 n))) := FrB.wI (Or.inl rfl)
  obtain ⟨h1, o1, o2, o3⟩ := k_becomes_b10 (s := s) hd h7 n FU 0 _ (T.fr F (by omega)) (H.fr T F (by omega)) (by rw [aI_eq, up_eq]) (fun j hj => absurd hj (Nat.not_lt_zero j)) (fu_pos (by omega)) (by omega)
  exact ⟨h1, o1, o2, F.tr o3⟩
end HB
