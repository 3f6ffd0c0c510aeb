/-! THE WHOLE STATE: house, image, shelves, in both worlds -/
/-- a row of ints: the object r, its array e of z -/
def Rw (h : AH) (r : Nat) (srt : Int32) (e z : Nat) : Prop := (41 ≤ r ∧ r < aN h ∧ 41 ≤ e ∧ e < aN h) ∧ aT h r = some (.inr 7) ∧ aI h r 0 = srt ∧ aR h r 1 = some e ∧ aT h e = some (.inl (0, z))
/-- what a row of bytes holds -/
def ok8 (srt v : Int32) : Prop := srt = 0 → Int8.toInt32 (Int32.toInt8 v) = v
/-- shelf d: κ 0 what is kept, 1 kind, 2 figure, 3 sort, 4 size, 5 elements -/
def SHd (h : AH) (κ : Nat → R54) (d : Nat) : Prop :=
  (κ 0 d = 0 ∧ aR h 22 d = none ∧ aR h 23 d = none) ∨
  (κ 0 d = 1 ∧ (∃ k, aR h 22 d = some k ∧ Gst h k (κ 1 d) (κ 2 d)) ∧ aR h 23 d = none ∧ rg (κ 1 d) 7 ∧ rg (κ 2 d) 9) ∨
  (κ 0 d = 2 ∧ aR h 22 d = none ∧ (κ 3 d = 0 ∨ κ 3 d = 1 ∨ κ 3 d = 2) ∧ ∃ r e z, aR h 23 d = some r ∧ Rw h r (κ 3 d) e z ∧ κ 4 d = i32 z ∧ z ≤ 100 ∧ ∀ j, j < z → aI h e j = κ 5 (100 * d + j) ∧ ok8 (κ 3 d) (κ 5 (100 * d + j)))
/-- no two rows share their ints -/
def SHne (h : AH) : Prop := ∀ d d2, d < 8 → d2 < 8 → d ≠ d2 → ∀ r r2 e, aR h 23 d = some r → aR h 23 d2 = some r2 → aR h r 1 = some e → ¬ aR h r2 1 = some e
def SHs (h : AH) (κ : Nat → R54) : Prop := (∀ d, d < 8 → SHd h κ d) ∧ SHne h
/-- who has left weighed less -/
def LW (n : Nat) (s : R54) : Prop := ∀ g, g < n → inP s g = false → s (7 * g + 7) < s (7 * g + 8)
/-- (guests, house, guests of the image, image, is there an image, shelves) -/
abbrev ST : Type := Nat × R54 × Nat × R54 × Int32 × (Nat → R54)
def CLS (h : AH) (p : ST) : Prop := (Wc h ∧ Hs h 1 p.1 p.2.1 ∧ Ok p.1 p.2.1 ∧ LW p.1 p.2.1) ∧ (aI h 0 3 = p.2.2.2.2.1 ∧ (p.2.2.2.2.1 = 0 ∨ (p.2.2.2.2.1 = 1 ∧ Hs h 15 p.2.2.1 p.2.2.2.1 ∧ Ok p.2.2.1 p.2.2.2.1 ∧ LW p.2.2.1 p.2.2.2.1))) ∧ SHs h p.2.2.2.2.2
def MDL (h : AH) (p : ST) : Prop := Wm h ∧ (aI h 27 = p.2.1 ∧ aI h 29 = p.2.2.2.1 ∧ aI h 26 4 = p.2.2.2.2.1 ∧ ∀ i, i < 6 → aI h (34 + i) = p.2.2.2.2.2 i) ∧ hi (aI h 28) p.2.1 ∧ hi p.2.2.2.1 p.2.1 ∧ hi (aI h 30) p.2.1
/-- what lasts of the class's other things -/
def KP (h h1 : AH) : Prop := aN h ≤ aN h1 ∧ (∀ k κ f, Gst h k κ f → Gst h1 k κ f) ∧ (∀ c, 41 ≤ c → c < aN h → aT h1 c = aT h c ∧ aI h1 c = aI h c ∧ aR h1 c = aR h c) ∧ aR h1 22 = aR h 22 ∧ aR h1 23 = aR h 23
theorem KP.tr {h h1 h2 : AH} (x : KP h h1) (y : KP h1 h2) : KP h h2 := by
  obtain ⟨a1, a2, a3, a4, a5⟩ := x
  obtain ⟨b1, b2, b3, b4, b5⟩ := y
  refine ⟨by omega, fun k κ f G => b2 k κ f (a2 k κ f G), fun c c1 c2 => ?_, b4.trans a4, b5.trans a5⟩
  obtain ⟨p1, p2, p3⟩ := a3 c c1 c2
  obtain ⟨q1, q2, q3⟩ := b3 c c1 (by omega)
  exact ⟨q1.trans p1, q2.trans p2, q3.trans p3⟩
theorem Rw.kp {h h1 : AH} {r e z : Nat} {srt : Int32} (x : Rw h r srt e z) (K : KP h h1) : Rw h1 r srt e z := by
  obtain ⟨⟨x1, x2, x3, x4⟩, x5, x6, x7, x8⟩ := x
  obtain ⟨k1, -, k3, -⟩ := K
  obtain ⟨a1, a2, a3⟩ := k3 r x1 x2
  obtain ⟨b1, b2, b3⟩ := k3 e x3 x4
  exact ⟨⟨x1, by omega, x3, by omega⟩, by rw [a1]; exact x5, by rw [a2]; exact x6, by rw [a3]; exact x7, by rw [b1]; exact x8⟩
theorem SHd.kp {h h1 : AH} {κ : Nat → R54} {d : Nat} (x : SHd h κ d) (K : KP h h1) : SHd h1 κ d := by
  unfold SHd
  rw [K.2.2.2.1, K.2.2.2.2]
  rcases x with x | ⟨x1, ⟨k, x2, x3⟩, x4⟩ | ⟨x1, x2, x3, r, e, z, x4, x5, x6, x7, x8⟩
  · exact Or.inl x
  · exact Or.inr (Or.inl ⟨x1, ⟨k, x2, K.2.1 _ _ _ x3⟩, x4⟩)
  · exact Or.inr (Or.inr ⟨x1, x2, x3, r, e, z, x4, x5.kp K, x6, x7, fun j hj => by rw [(K.2.2.1 e x5.1.2.2.1 x5.1.2.2.2).2.1]; exact x8 j hj⟩)
theorem SHs.kp {h h1 : AH} {κ : Nat → R54} (x : SHs h κ) (K : KP h h1) : SHs h1 κ := by
  refine ⟨fun d hd => (x.1 d hd).kp K, fun d d2 h1 h2 ne r r2 e e1 e2 e3 => ?_⟩
  rw [K.2.2.2.2] at e1 e2
  have rr : ∀ d r, d < 8 → aR h 23 d = some r → 41 ≤ r ∧ r < aN h := fun d r hd er => by
    rcases x.1 d hd with ⟨-, -, y⟩ | ⟨-, -, y, -⟩ | ⟨-, -, -, r', e', z, y, y2, -⟩
    · rw [er] at y; cases y
    · rw [er] at y; cases y
    · rw [er] at y; cases y; exact ⟨y2.1.1, y2.1.2.1⟩
  obtain ⟨p1, p2⟩ := rr d r h1 e1
  obtain ⟨q1, q2⟩ := rr d2 r2 h2 e2
  rw [(K.2.2.1 r p1 p2).2.2] at e3
  rw [(K.2.2.1 r2 q1 q2).2.2]
  exact x.2 d d2 h1 h2 ne r r2 e e1 e2 e3
theorem Fq.kp {m : Nat} {h h1 : AH} (F : Fq m h h1) (W : Wc h) : KP h h1 := by
  have hN := W.2.2.2
  exact ⟨F.1.1, fun k κ f G => G.q W F, fun c c1 c2 => ⟨(F.2.1 c c2).1, F.2.2.1 c c2 (by omega) (by omega) (by omega) (by omega) (by omega) (by omega) (by omega), F.2.2.2 c c2 (by omega)⟩, F.2.2.2 22 (by omega) (by omega), F.2.2.2 23 (by omega) (by omega)⟩
theorem FrB.kp {b : Nat} {h h1 : AH} (F : FrB b h h1) (T : Hty h b) (hb : b = 1 ∨ b = 8 ∨ b = 15) : KP h h1 := by
  have e1 : aN h1 = aN h := congrArg (fun q : Nat × Nat => q.1) F.1
  exact ⟨by omega, fun k κ f G => G.fr T F, fun c c1 c2 => ⟨congrFun F.2.1 c, F.2.2.2.1 c (by omega) (by omega) (by omega) (by omega) (by omega), F.2.2.2.2 c (by omega)⟩, F.2.2.2.2 22 (by omega), F.2.2.2.2 23 (by omega)⟩
theorem Wc.fr {b : Nat} {h h1 : AH} (W : Wc h) (F : FrB b h h1) (hb : b = 1 ∨ b = 8 ∨ b = 15) : Wc h1 := by
  have e1 : aN h1 = aN h := congrArg (fun q : Nat × Nat => q.1) F.1
  obtain ⟨a, c, ⟨d1, d2, d3⟩, e⟩ := W
  have c1 := d1.fr F (by omega)
  have c2 := d2.fr F (by omega)
  have c3 := d3.fr F (by omega)
  unfold Wc
  rw [F.2.1, F.2.2.2.2 0 (by omega), e1]
  exact ⟨a, c, ⟨c1, c2, c3⟩, e⟩
/-- the class's call: nothing of the reference's; some new objects -/
def FC (h h1 : AH) : Prop := (aN h ≤ aN h1 ∧ aN h1 ≤ aN h + 12 ∧ aS h ≤ aS h1 ∧ aS h1 ≤ aS h + 2400) ∧ ∀ c, 26 ≤ c → c < 41 → aT h1 c = aT h c ∧ aI h1 c = aI h c ∧ aR h1 c = aR h c ∧ aL h1 c = aL h c
/-- the reference's call -/
def FM (h h1 : AH) : Prop := (h1.1 = h.1 ∧ aT h1 = aT h ∧ aR h1 = aR h ∧ aL h1 = aL h) ∧ ∀ c, c < 26 ∨ 40 ≤ c → aI h1 c = aI h c
theorem Fq.c {m : Nat} {h h1 : AH} (F : Fq m h h1) (W : Wc h) (hm : m ≤ 12) : FC h h1 := by
  have hN := W.2.2.2
  obtain ⟨⟨a1, a2, a3, a4⟩, b, c, d⟩ := F
  exact ⟨⟨a1, by omega, a3, by omega⟩, fun q q1 q2 => ⟨(b q (by omega)).1, c q (by omega) (by omega) (by omega) (by omega) (by omega) (by omega) (by omega) (by omega), d q (by omega) (by omega), (b q (by omega)).2⟩⟩
theorem Fm.m {h h1 : AH} (F : Fm h h1) : FM h h1 := ⟨F.1, fun c hc => F.2.1 c (by omega) (by omega) (by omega) (by omega) (by omega) (by omega)⟩
theorem FrB.c {b : Nat} {h h1 : AH} (F : FrB b h h1) (hb : b = 1 ∨ b = 8 ∨ b = 15) : FC h h1 := by
  have e1 : aN h1 = aN h := congrArg (fun q : Nat × Nat => q.1) F.1
  have e2 : aS h1 = aS h := congrArg (fun q : Nat × Nat => q.2) F.1
  exact ⟨⟨by omega, by omega, by omega, by omega⟩, fun q q1 q2 => ⟨congrFun F.2.1 q, F.2.2.2.1 q (by omega) (by omega) (by omega) (by omega) (by omega), F.2.2.2.2 q (by omega), congrFun F.2.2.1 q⟩⟩
theorem MDL.c {h h1 : AH} {p : ST} (M : MDL h p) (F : FC h h1) : MDL h1 p := by
  have t : ∀ c, 26 ≤ c → c < 41 → aT h1 c = aT h c := fun c c1 c2 => (F.2 c c1 c2).1
  have i : ∀ c, 26 ≤ c → c < 41 → aI h1 c = aI h c := fun c c1 c2 => (F.2 c c1 c2).2.1
  obtain ⟨W, ⟨a1, a2, a3, a4⟩, b1, b2, b3⟩ := M
  refine ⟨?_, ⟨by rw [i 27 (by omega) (by omega)]; exact a1, by rw [i 29 (by omega) (by omega)]; exact a2, by rw [i 26 (by omega) (by omega)]; exact a3, fun j hj => by rw [i (34 + j) (by omega) (by omega)]; exact a4 j hj⟩, by rw [i 28 (by omega) (by omega)]; exact b1, b2, by rw [i 30 (by omega) (by omega)]; exact b3⟩
  unfold Wm
  rw [t 26 (by omega) (by omega), t 27 (by omega) (by omega), t 28 (by omega) (by omega), t 29 (by omega) (by omega), t 30 (by omega) (by omega), t 31 (by omega) (by omega), t 32 (by omega) (by omega), t 33 (by omega) (by omega), t 34 (by omega) (by omega), t 35 (by omega) (by omega), t 36 (by omega) (by omega), t 37 (by omega) (by omega), t 38 (by omega) (by omega), t 39 (by omega) (by omega), (F.2 26 (by omega) (by omega)).2.2.1]
  exact W
theorem Gst.m {h h1 : AH} {k : Nat} {κ f : Int32} (x : Gst h k κ f) (W : Wm h) (F : FM h h1) : Gst h1 k κ f := by
  obtain ⟨x0, c, x1, x2, x3⟩ := x
  obtain ⟨⟨w0, w1, w2, w3, w4⟩, ⟨w5, w6, w7⟩, ⟨w8, w9, w10, w11, w12, w13⟩, -⟩ := W
  have hne : ∀ q t, aT h q = some t → (∀ j, t = .inr j → j = 12) → k ≠ q := fun q t e1 e2 e3 => by
    subst e3
    rw [x1] at e1
    cases e1
    have := e2 _ rfl
    subst this
    exact absurd (gk_GF x2) (by decide)
  have a0 := hne _ _ w0 (fun j e => by cases e; rfl)
  have a1 := hne _ _ w1 (fun j e => nomatch e)
  have a2 := hne _ _ w2 (fun j e => nomatch e)
  have a3 := hne _ _ w3 (fun j e => nomatch e)
  have a4 := hne _ _ w4 (fun j e => nomatch e)
  have a5 := hne _ _ w5 (fun j e => nomatch e)
  have a6 := hne _ _ w6 (fun j e => nomatch e)
  have a7 := hne _ _ w7 (fun j e => nomatch e)
  have a8 := hne _ _ w8 (fun j e => nomatch e)
  have a9 := hne _ _ w9 (fun j e => nomatch e)
  have a10 := hne _ _ w10 (fun j e => nomatch e)
  have a11 := hne _ _ w11 (fun j e => nomatch e)
  have a12 := hne _ _ w12 (fun j e => nomatch e)
  have a13 := hne _ _ w13 (fun j e => nomatch e)
  refine ⟨by rw [show aN h1 = aN h from congrArg (fun q : Nat × Nat => q.1) F.1.1]; exact x0, c, by rw [F.1.2.1]; exact x1, x2, ?_⟩
  rw [F.2 k (by omega)]
  exact x3
theorem FM.kp {h h1 : AH} (F : FM h h1) (W : Wm h) : KP h h1 := by
  have e1 : aN h1 = aN h := congrArg (fun q : Nat × Nat => q.1) F.1.1
  exact ⟨by omega, fun k κ f G => G.m W F, fun c c1 c2 => ⟨congrFun F.1.2.1 c, F.2 c (by omega), congrFun F.1.2.2.1 c⟩, congrFun F.1.2.2.1 22, congrFun F.1.2.2.1 23⟩
theorem Wc.m {h h1 : AH} (W : Wc h) (F : FM h h1) : Wc h1 := by
  unfold Wc Hty
  rw [F.1.2.1, F.1.2.2.1, show aN h1 = aN h from congrArg (fun q : Nat × Nat => q.1) F.1.1]
  exact W
theorem Hs.m {h h1 : AH} {b n : Nat} {s : R54} (H : Hs h b n s) (W : Wm h) (F : FM h h1) (hb : b = 1 ∨ b = 15) : Hs h1 b n s := by
  refine ⟨?_, ?_, fun g hg => ?_⟩
  · unfold Hty
    rw [F.1.2.1, F.1.2.2.1, show aN h1 = aN h from congrArg (fun q : Nat × Nat => q.1) F.1.1]
    exact H.1
  · unfold SC
    rw [F.2 b (by omega)]
    exact H.2.1
  · obtain ⟨⟨k, x0, x1⟩, x2⟩ := H.2.2 g hg
    unfold PG
    rw [F.1.2.2.1, F.2 (b + 2) (by omega), F.2 (b + 3) (by omega), F.2 (b + 4) (by omega), F.2 (b + 5) (by omega)]
    exact ⟨⟨k, x0, x1.m W F⟩, x2⟩
theorem CLS.m {h h1 : AH} {p : ST} (C : CLS h p) (W : Wm h) (F : FM h h1) : CLS h1 p := by
  obtain ⟨⟨a1, a2, a3, a4⟩, ⟨b1, b2⟩, c⟩ := C
  refine ⟨⟨a1.m F, a2.m W F (Or.inl rfl), a3, a4⟩, ⟨by rw [F.2 0 (by omega)]; exact b1, ?_⟩, c.kp (F.kp W)⟩
  rcases b2 with b2 | ⟨b2, b3, b4⟩
  · exact Or.inl b2
  · exact Or.inr ⟨b2, b3.m W F (Or.inr rfl), b4⟩
/-- one answer of both, and one state -/
def UU (h h' : AH) (o o' : Option (Int32 × AH)) : Prop := ∃ (r : Int32) (h1 h1' : AH) (p : ST), o = some (r, h1) ∧ o' = some (r, h1') ∧ CLS h1 p ∧ MDL h1' p ∧ FC h h1 ∧ FM h' h1'
def PS (p : ST) (h h' : AH) : Prop := CLS h p ∧ MDL h' p
theorem PS.q {p : ST} {h h' : AH} (P : PS p h h') : QS p.1 p.2.1 h h' := ⟨⟨P.1.1.1, P.1.1.2.1, P.1.1.2.2.1⟩, P.2.1, P.2.2.1.1, P.2.2.2.1⟩
theorem CLS.q {m : Nat} {h h1 : AH} {p : ST} (C : CLS h p) (F : Fq m h h1) : CLS h1 p := by
  obtain ⟨⟨a1, a2, a3, a4⟩, ⟨b1, b2⟩, c⟩ := C
  have hN := a1.2.2.2
  refine ⟨⟨a1.q F, a2.q a1 F (Or.inl rfl), a3, a4⟩, ⟨by rw [F.2.2.1 0 (by omega) (by omega) (by omega) (by omega) (by omega) (by omega) (by omega) (by omega)]; exact b1, ?_⟩, c.kp (F.kp a1)⟩
  rcases b2 with b2 | ⟨b2, b3, b4⟩
  · exact Or.inl b2
  · exact Or.inr ⟨b2, b3.q a1 F (Or.inr rfl), b4⟩
theorem MDL.q {h h1 : AH} {p : ST} (M : MDL h p) (F : Fm h h1) : MDL h1 p := by
  obtain ⟨W, ⟨a1, a2, a3, a4⟩, b1, b2, b3⟩ := M
  exact ⟨W.fr F, ⟨by rw [F.2.1 27 (by omega) (by omega) (by omega) (by omega) (by omega) (by omega)]; exact a1, by rw [F.2.1 29 (by omega) (by omega) (by omega) (by omega) (by omega) (by omega)]; exact a2, by rw [F.2.2.1]; exact a3, fun j hj => by rw [F.2.1 (34 + j) (by omega) (by omega) (by omega) (by omega) (by omega) (by omega)]; exact a4 j hj⟩, F.2.2.2.1.tr b1, b2, F.2.2.2.2.tr b3⟩
/-- a query of both -/
theorem RR.u {m : Nat} {p : ST} {h h' : AH} {o o' : Option (Int32 × AH)} (P : PS p h h') (R : RR m h h' o o') (hm : m ≤ 12) : UU h h' o o' := by
  obtain ⟨r, h1, h1', e1, e2, F, G⟩ := R
  exact ⟨r, h1, h1', p, e1, e2, P.1.q F, P.2.q G, F.c P.1.1.1 hm, G.m⟩
theorem RR.q0 {p : ST} {h h' : AH} {o o' : Option (Int32 × AH)} (P : PS p h h') (R : RR 0 h h' o o') : UU h h' o o' := R.u P (by omega)
/-- the law's turn: the class first, then the reference on what is then -/
theorem UU.step {p : ST} {h : AH} {o : Option (Int32 × AH)} {o' : AH → Option (Int32 × AH)} (P : PS p h h) (U : ∀ h', PS p h h' → UU h h' o (o' h')) : ∃ r h1 h2 p', o = some (r, h1) ∧ o' h1 = some (r, h2) ∧ PS p' h2 h2 ∧ FC h h1 ∧ FM h1 h2 := by
  obtain ⟨r, h1, -, -, e1, -, -, -, F, -⟩ := U h P
  have M1 : MDL h1 p := P.2.c F
  obtain ⟨r2, h3, h2, p', e2, e3, C, M, -, G⟩ := U h1 ⟨P.1, M1⟩
  rw [e1] at e2
  cases e2
  exact ⟨r, h1, h2, p', e1, e3, ⟨C.m M1.1 G, M⟩, F, G⟩
/-- the house changes, in both worlds -/
theorem UU.house {p : ST} {h h' h1 : AH} (P : PS p h h') (r : Int32) {n' : Nat} {s' : R54} {o o' : Option (Int32 × AH)} (H : Hs h1 1 n' s') (F : FrB 1 h h1) (O : Ok n' s') (L : LW n' s') (hh : hi s' p.2.1) (e : o = some (r, h1)) (e' : o' = some (r, wI h' 27 s')) : UU h h' o o' := by
  obtain ⟨⟨⟨a1, a2, a3, a4⟩, ⟨b1, b2⟩, c⟩, W, ⟨m1, m2, m3, m4⟩, m5, m6, m7⟩ := P
  have T := a1.2.2.1.1
  refine ⟨r, h1, wI h' 27 s', (n', s', p.2.2), e, e', ⟨⟨a1.fr F (Or.inl rfl), H, O, L⟩, ⟨by rw [F.2.2.2.1 0 (by omega) (by omega) (by omega) (by omega) (by omega)]; exact b1, ?_⟩, c.kp (F.kp T (Or.inl rfl))⟩, ⟨W, ⟨aI_eq, (aI_ne (by omega)).trans m2, m3, fun i hi => (aI_ne (by omega)).trans (m4 i hi)⟩, ?_, m6.tr hh.sy, ?_⟩, F.c (Or.inl rfl), ⟨⟨rfl, rfl, rfl, rfl⟩, fun c hc => aI_ne (by omega)⟩⟩
  · rcases b2 with b2 | ⟨b2, b3, b4⟩
    · exact Or.inl b2
    · exact Or.inr ⟨b2, b3.fr T F (by omega), b4⟩
  · rw [aI_ne (by omega)]; exact m5.tr hh.sy
  · rw [aI_ne (by omega)]; exact m7.tr hh.sy
/-- a refusal, or an answer that changes nothing -/
theorem UU.same {p : ST} {h h' : AH} (P : PS p h h') (r : Int32) {o o' : Option (Int32 × AH)} (e : o = some (r, h)) (e' : o' = some (r, h')) : UU h h' o o' := RR.q0 P (RR.mk r e e')
theorem LW.up {n : Nat} {s : R54} {j : Nat} {v : Int32} (L : LW n s) (hj : ∀ g, g < n → j ≠ 7 * g + 7 ∧ j ≠ 7 * g + 8 ∧ j ≠ 7 * g + 11) : LW n (va_up s j v) := fun g hg e => by
  obtain ⟨h1, h2, h3⟩ := hj g hg
  unfold inP at e
  rw [up_ne (Ne.symm h3)] at e
  rw [up_ne (Ne.symm h1), up_ne (Ne.symm h2)]
  exact L g hg e
/-- the weight of one who is in -/
theorem LW.w {n : Nat} {s : R54} {g : Nat} {v : Int32} (L : LW n s) (hin : inP s g = true) : LW n (va_up s (7 * g + 7) v) := fun j hj e => by
  unfold inP at e
  rw [up_ne (by omega)] at e
  have hne : j ≠ g := fun z => by
    subst z
    unfold inP at hin
    rw [hin] at e
    cases e
  rw [up_ne (by omega), up_ne (by omega)]
  exact L j hj e
theorem LW_eat {n : Nat} {s : R54} {g : Nat} (L : LW n s) (v : Int32) : LW n (eatW v g s) := by
  unfold eatW
  split
  · rename_i e
    exact L.w (decide_eq_true e)
  · exact L
theorem LW_go {n : Nat} {s : R54} {g : Nat} (L : LW n s) : LW n (go1 g s) := by
  unfold go1
  split
  · rename_i e
    intro j hj e2
    unfold inP at e2
    rw [up_ne (by omega)] at e2
    rw [up_ne (by omega), up_ne (by omega), up_ne (by omega), up_ne (by omega)]
    by_cases z : j = g
    · subst z
      unfold mg at e
      simp only [Bool.and_eq_true, decide_eq_true_eq] at e
      exact e.2.1
    · rw [up_ne (by omega)] at e2
      exact L j hj e2
  · exact L
theorem LW_dayM {n : Nat} {s : R54} (L : LW n s) (F : Int32) : LW n (dayM n F s) := by
  unfold dayM
  refine fld_ind (fun _ r => LW n r) n 0 _ ?_ (fun j b _ _ e => LW_go e)
  refine fld_ind (fun _ r => LW n r) n 0 _ (L.up fun g _ => ⟨by omega, by omega, by omega⟩) (fun j b _ _ e => ?_)
  rw [eat1_W]
  exact LW_eat e _
theorem LW_daysM {n : Nat} : ∀ (k : Nat) (s : R54), LW n s → LW n (daysM n k s)
  | 0, _, L => L
  | k + 1, _, L => LW_daysM k _ (LW_dayM L 0)
theorem LW_tel {n g : Nat} {s : R54} (L : LW n s) (hin : inP s g = true) : LW n (tel g s) := by
  unfold tel
  have L1 : LW n (va_up s (7 * g + 9) (s (7 * g + 9) - 1)) := L.up fun g _ => ⟨by omega, by omega, by omega⟩
  exact L1.w (by unfold inP at hin ⊢; rw [up_ne (by omega)]; exact hin)
theorem LW_lnd {n g o : Nat} {w : Int32} {s : R54} (L : LW n s) (hin : inP s g = true) (hio : inP s o = true) : LW n (lnd g o w s) := by
  unfold lnd
  exact (L.w hin).w (by unfold inP at hio ⊢; rw [up_ne (by omega)]; exact hio)
theorem LW_add {n : Nat} {s : R54} {κ f v : Int32} (L : LW n s) : LW (n + 1) (addG n κ f v s) := fun g hg e => by
  by_cases z : g = n
  · subst z
    unfold inP at e
    rw [addG_in] at e
    cases e
  · unfold inP at e
    rw [addG_lo _ (by omega) (by omega)] at e
    rw [addG_lo _ (by omega) (by omega), addG_lo _ (by omega) (by omega)]
    exact L g (by omega) e
