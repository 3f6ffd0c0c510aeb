/-! SHELVES -/
section SHELF
variable {p : ST} {h h' : AH}
theorem c_isShelf {h : AH} (v : Int32) : f_X11_isShelf v h = some (bI (btw v 0 7), h) := by
  unfold f_X11_isShelf
  have e : (8 ≤ v) = (7 < v) := by
    rw [Int32.le_iff_toInt_le, Int32.lt_iff_toInt_lt]
    have h8 : (8 : Int32).toInt = 8 := by decide
    have h7 : (7 : Int32).toInt = 7 := by decide
    rw [h8, h7]
    exact propext ⟨fun z => by omega, fun z => by omega⟩
  have : (if v < 0 then some ((0 : Int32), h) else (if 8 ≤ v then some (0, h) else some (1, h))) = (if v < 0 then some (0, h) else (if 7 < v then some (0, h) else some (1, h))) := by
    by_cases c : v < 0
    · rw [if_pos c, if_pos c]
    · rw [if_neg c, if_neg c]
      by_cases c2 : 8 ≤ v
      · rw [if_pos c2, if_pos (e ▸ c2)]
      · rw [if_neg c2, if_neg (e ▸ c2)]
  rw [this, c_out]
  cases btw v 0 7 <;> rfl
theorem m_isShelf {h : AH} (v : Int32) : f_X12_isShelf v h = some (bI (btw v 0 7), h) := by
  unfold f_X12_isShelf
  rw [m_btw, bd_some, rb_bI]
theorem c_rowOn (W : Wc h) {d : Nat} (hd : d < 8) : f_X11_rowOn (some 0) (i32 d) h = some (aR h 23 d, h) := by
  unfold f_X11_rowOn
  have e : btw (i32 d) 0 7 = true := by
    have : ∀ d, d < 8 → btw (i32 d) 0 7 = true := by decide +kernel
    exact this d hd
  rw [c_isShelf, bd_some, e, if_neg nb1, W.o5, sb_some, rA_ok W.1.2.2.1 hd (by omega), sb_some]
theorem c_kindOn (W : Wc h) {d : Nat} (hd : d < 8) : f_X11_kindOn (some 0) (i32 d) h = some (aR h 22 d, h) := by
  unfold f_X11_kindOn
  have e : btw (i32 d) 0 7 = true := by
    have : ∀ d, d < 8 → btw (i32 d) 0 7 = true := by decide +kernel
    exact this d hd
  rw [c_isShelf, bd_some, e, if_neg nb1, W.o4, sb_some, rA_ok W.1.2.1 hd (by omega), sb_some]
theorem sh_t {d : Nat} (hd : d < 8) : btw (i32 d) 0 7 = true := by
  have : ∀ d, d < 8 → btw (i32 d) 0 7 = true := by decide +kernel
  exact this d hd
theorem c_rowNo {v : Int32} (e : btw v 0 7 = false) : f_X11_rowOn (some 0) v h = some (none, h) := by
  unfold f_X11_rowOn
  rw [c_isShelf, bd_some, e, if_pos pb0]
theorem c_kindNo {v : Int32} (e : btw v 0 7 = false) : f_X11_kindOn (some 0) v h = some (none, h) := by
  unfold f_X11_kindOn
  rw [c_isShelf, bd_some, e, if_pos pb0]
theorem c_whyRow (W : Wc h) {d : Nat} (hd : d < 8) : f_X11_whyNoRow (some 0) (i32 d) h = some (if aR h 22 d = none then -11 else -12, h) := by
  unfold f_X11_whyNoRow
  rw [c_isShelf, bd_some, sh_t hd, if_neg nb1, cv_ok W.1.1, c_kindOn W hd, bd_some]
  split <;> rfl
theorem c_whyRowNo {v : Int32} (e : btw v 0 7 = false) : f_X11_whyNoRow (some 0) v h = some (-1, h) := by
  unfold f_X11_whyNoRow
  rw [c_isShelf, bd_some, e, if_pos pb0]
theorem c_whyKind (W : Wc h) {d : Nat} (hd : d < 8) : f_X11_whyNoKind (some 0) (i32 d) h = some (if aR h 23 d = none then -11 else -12, h) := by
  unfold f_X11_whyNoKind
  rw [c_isShelf, bd_some, sh_t hd, if_neg nb1, cv_ok W.1.1, c_rowOn W hd, bd_some]
  split <;> rfl
theorem c_whyKindNo {v : Int32} (e : btw v 0 7 = false) : f_X11_whyNoKind (some 0) v h = some (-1, h) := by
  unfold f_X11_whyNoKind
  rw [c_isShelf, bd_some, e, if_pos pb0]
theorem m_k (M : MDL h' p) (i : Nat) (hi : i < 6) : aI h' (34 + i) = p.2.2.2.2.2 i := M.2.1.2.2.2 i hi
theorem m_wrongRow (M : MDL h' p) {d : Nat} (hd : d < 8) (o : Int32) : f_X12_wrongRow (some 26) (i32 d) o h' = some (if p.2.2.2.2.2 0 d = 0 then -11 else if p.2.2.2.2.2 0 d = 2 then (if o < 0 then 0 else if p.2.2.2.2.2 3 d = o then 0 else -12) else -12, h') := by
  unfold f_X12_wrongRow
  have k0 : aI h' 34 = p.2.2.2.2.2 0 := m_k M 0 (by omega)
  have k3 : aI h' 37 = p.2.2.2.2.2 3 := m_k M 3 (by omega)
  have W := M.1
  rw [m_isShelf, bd_some, sh_t hd, if_neg nb1]
  simp only [W.o12, W.o15, sb_some, iA_ok W.2.2.1.1 hd (show 8 ≤ 1000 by omega), iA_ok W.2.2.1.2.2.2.1 hd (show 8 ≤ 1000 by omega), k0, k3]
  repeat' split
  all_goals rfl
theorem m_wrongRowNo {v : Int32} (e : btw v 0 7 = false) (o : Int32) : f_X12_wrongRow (some 26) v o h' = some (-1, h') := by
  unfold f_X12_wrongRow
  rw [m_isShelf, bd_some, e, if_pos pb0]
theorem m_wrongKept (M : MDL h' p) {d : Nat} (hd : d < 8) : f_X12_wrongKept (some 26) (i32 d) h' = some (if p.2.2.2.2.2 0 d = 0 then -11 else if p.2.2.2.2.2 0 d = 2 then -12 else 0, h') := by
  unfold f_X12_wrongKept
  have k0 : aI h' 34 = p.2.2.2.2.2 0 := m_k M 0 (by omega)
  have W := M.1
  rw [m_isShelf, bd_some, sh_t hd, if_neg nb1]
  simp only [W.o12, sb_some, iA_ok W.2.2.1.1 hd (show 8 ≤ 1000 by omega), k0]
  repeat' split
  all_goals rfl
theorem m_wrongKeptNo {v : Int32} (e : btw v 0 7 = false) : f_X12_wrongKept (some 26) v h' = some (-1, h') := by
  unfold f_X12_wrongKept
  rw [m_isShelf, bd_some, e, if_pos pb0]
/-- new objects, nothing else -/
def NW (m sl : Nat) (h h1 : AH) : Prop := (aN h1 = aN h + m ∧ aS h1 = aS h + sl) ∧ ∀ c, c < aN h → aT h1 c = aT h c ∧ aI h1 c = aI h c ∧ aR h1 c = aR h c ∧ aL h1 c = aL h c
theorem NW.q {m sl : Nat} {h h1 : AH} (x : NW m sl h h1) (e : sl ≤ 200 * m) : Fq m h h1 := by
  obtain ⟨⟨a, b⟩, c⟩ := x
  exact ⟨⟨by omega, by omega, by omega, by omega⟩, fun q hq => ⟨(c q hq).1, (c q hq).2.2.2⟩, fun q hq _ _ _ _ _ _ _ => (c q hq).2.1, fun q hq _ => (c q hq).2.2.1⟩
theorem NW.tr {m sl m2 sl2 : Nat} {h h1 h2 : AH} (x : NW m sl h h1) (y : NW m2 sl2 h1 h2) : NW (m + m2) (sl + sl2) h h2 := by
  obtain ⟨⟨a, b⟩, c⟩ := x
  obtain ⟨⟨a', b'⟩, c'⟩ := y
  refine ⟨⟨by omega, by omega⟩, fun q hq => ?_⟩
  obtain ⟨x1, x2, x3, x4⟩ := c q hq
  obtain ⟨y1, y2, y3, y4⟩ := c' q (by omega)
  exact ⟨y1.trans x1, y2.trans x2, y3.trans x3, y4.trans x4⟩
theorem Gst.new {m sl k : Nat} {h h1 : AH} {κ f : Int32} (G : Gst h k κ f) (N : NW m sl h h1) : Gst h1 k κ f := by
  obtain ⟨x0, c, x1, x2, x3⟩ := G
  obtain ⟨y1, y2, -⟩ := N.2 k x0
  exact ⟨by have := N.1.1; omega, c, by rw [y1]; exact x1, x2, by rw [y2]; exact x3⟩
theorem Hs.new {m sl b n : Nat} {h h1 : AH} {s : R54} (H : Hs h b n s) (N : NW m sl h h1) : Hs h1 b n s := by
  have hb := H.1.2.2
  have t : ∀ c, c ≤ b + 5 → aT h1 c = aT h c ∧ aI h1 c = aI h c ∧ aR h1 c = aR h c := fun c hc => ⟨(N.2 c (by omega)).1, (N.2 c (by omega)).2.1, (N.2 c (by omega)).2.2.1⟩
  refine ⟨?_, ?_, fun g hg => ?_⟩
  · unfold Hty
    rw [(t b (by omega)).1, (t (b + 1) (by omega)).1, (t (b + 2) (by omega)).1, (t (b + 3) (by omega)).1, (t (b + 4) (by omega)).1, (t (b + 5) (by omega)).1, (t b (by omega)).2.2]
    exact ⟨H.1.1, H.1.2.1, by have := N.1.1; omega⟩
  · unfold SC
    rw [(t b (by omega)).2.1]
    exact H.2.1
  · obtain ⟨⟨k, x0, x1⟩, x2⟩ := H.2.2 g hg
    unfold PG
    rw [(t (b + 1) (by omega)).2.2, (t (b + 2) (by omega)).2.1, (t (b + 3) (by omega)).2.1, (t (b + 4) (by omega)).2.1, (t (b + 5) (by omega)).2.1]
    exact ⟨⟨k, x0, x1.new N⟩, x2⟩
theorem init4 {h : AH} {a c : Nat} (hT : aT h a = some (.inr c)) (hc : c ∈ GF) (x y : Int32) : f_X4_init (some a) x y h = some ((), wI h a (va_up (va_up (aI h a) 0 x) 1 y)) := by
  unfold f_X4_init
  rw [if_neg (fun z => nomatch z), pI_ok hT hc, sb_some, pI_ok (show aT (wI h a _) a = some (.inr c) from hT) hc, sb_some, aI_eq, wI_wI]
theorem nn_some {γ : Type} (a : Nat) (o : Option γ) : nn (some a) o = o := rfl
theorem nwH_t {h : AH} {t : AT} {m : Nat} : aT (nwH h t m) (aN h) = some t := up_eq _ _ _
theorem nwH_o {h : AH} {t : AT} {m c : Nat} (hc : c < aN h) : aT (nwH h t m) c = aT h c ∧ aI (nwH h t m) c = aI h c ∧ aR (nwH h t m) c = aR h c ∧ aL (nwH h t m) c = aL h c :=
  ⟨up_ne (Nat.ne_of_lt hc), up_ne (Nat.ne_of_lt hc), up_ne (Nat.ne_of_lt hc), up_ne (Nat.ne_of_lt hc)⟩
/-- a new guest -/
theorem mk_g {h : AH} {c : Nat} {x y : Int32} (hk : gk x c) : Gst (wI (nwH h (.inr c) 2) (aN h) (va_up (va_up (aI (nwH h (.inr c) 2) (aN h)) 0 x) 1 y)) (aN h) x y ∧ NW 1 2 h (wI (nwH h (.inr c) 2) (aN h) (va_up (va_up (aI (nwH h (.inr c) 2) (aN h)) 0 x) 1 y)) := by
  refine ⟨⟨Nat.lt_succ_self _, c, nwH_t (h := h) (t := .inr c) (m := 2), hk, ?_, ?_⟩, ⟨rfl, rfl⟩, fun q hq => by
    have o := nwH_o (h := h) (t := .inr c) (m := 2) hq
    exact ⟨o.1, (aI_ne (Nat.ne_of_lt hq)).trans o.2.1, o.2.2⟩⟩
  · rw [aI_eq, up_ne (by omega), up_eq]
  · rw [aI_eq, up_eq]
theorem k_kindOf {h : AH} {x : Int32} (hx : rg x 7) (y : Int32) : ∃ h1, f_X11_kindOf x y h = some (some (aN h), h1) ∧ Gst h1 (aN h) x y ∧ NW 1 2 h h1 := by
  obtain ⟨j, hj, rfl⟩ := hx
  have hj2 : j = 0 ∨ j = 1 ∨ j = 2 ∨ j = 3 ∨ j = 4 ∨ j = 5 ∨ j = 6 ∨ j = 7 := by omega
  unfold f_X11_kindOf nO
  simp only [bd_some]
  rcases hj2 with rfl | rfl | rfl | rfl | rfl | rfl | rfl | rfl
  · rw [if_neg (by decide), if_neg (by decide), if_neg (by decide), if_neg (by decide), if_neg (by decide), if_neg (by decide), if_neg (by decide), nn_some, init4 nwH_t (by decide), bd_some]
    exact ⟨_, rfl, mk_g (c := 4) (by unfold gk; decide)⟩
  · rw [if_pos (by decide), nn_some]
    unfold f_X0_init
    rw [nn_some, init4 nwH_t (by decide), bd_some, bd_some]
    exact ⟨_, rfl, mk_g (c := 0) (by unfold gk; decide)⟩
  · rw [if_neg (by decide), if_pos (by decide), nn_some]
    unfold f_X2_init
    rw [nn_some, init4 nwH_t (by decide), bd_some, bd_some]
    exact ⟨_, rfl, mk_g (c := 2) (by unfold gk; decide)⟩
  · rw [if_neg (by decide), if_neg (by decide), if_pos (by decide), nn_some]
    unfold f_X9_init
    rw [nn_some, init4 nwH_t (by decide), bd_some, bd_some]
    exact ⟨_, rfl, mk_g (c := 9) (by unfold gk; decide)⟩
  · rw [if_neg (by decide), if_neg (by decide), if_neg (by decide), if_pos (by decide), nn_some]
    unfold f_X1_init f_X0_init
    rw [nn_some, nn_some, init4 nwH_t (by decide), bd_some, bd_some, bd_some]
    exact ⟨_, rfl, mk_g (c := 1) (by unfold gk; decide)⟩
  · rw [if_neg (by decide), if_neg (by decide), if_neg (by decide), if_neg (by decide), if_pos (by decide), nn_some]
    unfold f_X3_init f_X9_init
    rw [nn_some, nn_some, init4 nwH_t (by decide), bd_some, bd_some, bd_some]
    exact ⟨_, rfl, mk_g (c := 3) (by unfold gk; decide)⟩
  · rw [if_neg (by decide), if_neg (by decide), if_neg (by decide), if_neg (by decide), if_neg (by decide), if_pos (by decide), nn_some]
    unfold f_X6_init f_X2_init
    rw [nn_some, nn_some, init4 nwH_t (by decide), bd_some, bd_some, bd_some]
    exact ⟨_, rfl, mk_g (c := 6) (by unfold gk; decide)⟩
  · rw [if_neg (by decide), if_neg (by decide), if_neg (by decide), if_neg (by decide), if_neg (by decide), if_neg (by decide), if_pos (by decide), nn_some]
    unfold f_X8_init f_X0_init
    rw [nn_some, nn_some, init4 nwH_t (by decide), bd_some, bd_some, bd_some]
    exact ⟨_, rfl, mk_g (c := 8) (by unfold gk; decide)⟩
/-- a kind on a shelf -/
theorem sh_kind (P : PS p h h') {d : Nat} (hd : d < 8) (e : p.2.2.2.2.2 0 d ≠ 0) (e2 : p.2.2.2.2.2 0 d ≠ 2) : p.2.2.2.2.2 0 d = 1 ∧ (∃ k, aR h 22 d = some k ∧ Gst h k (p.2.2.2.2.2 1 d) (p.2.2.2.2.2 2 d)) ∧ aR h 23 d = none ∧ rg (p.2.2.2.2.2 1 d) 7 ∧ rg (p.2.2.2.2.2 2 d) 9 := by
  rcases P.1.2.2.1 d hd with ⟨x, -⟩ | x | ⟨x, -⟩
  · exact absurd x e
  · exact x
  · exact absurd x e2
theorem sh_none (P : PS p h h') {d : Nat} (hd : d < 8) (e : p.2.2.2.2.2 0 d = 0) : aR h 22 d = none ∧ aR h 23 d = none := by
  rcases P.1.2.2.1 d hd with ⟨-, x⟩ | ⟨x, -⟩ | ⟨x, -⟩
  · exact x
  · rw [e] at x; exact absurd x (by decide)
  · rw [e] at x; exact absurd x (by decide)
/-- a row on a shelf -/
def RowAt (h : AH) (r e z : Nat) (srt : Int32) (el : Nat → Int32) : Prop := Rw h r srt e z ∧ z ≤ 100 ∧ (srt = 0 ∨ srt = 1 ∨ srt = 2) ∧ ∀ j, j < z → aI h e j = el j
theorem RowAt.kp {h h1 : AH} {r e z : Nat} {srt : Int32} {el : Nat → Int32} (x : RowAt h r e z srt el) (K : KP h h1) : RowAt h1 r e z srt el :=
  ⟨x.1.kp K, x.2.1, x.2.2.1, fun j hj => by rw [(K.2.2.1 e x.1.1.2.2.1 x.1.1.2.2.2).2.1]; exact x.2.2.2 j hj⟩
theorem sh_row (P : PS p h h') {d : Nat} (hd : d < 8) (e : p.2.2.2.2.2 0 d = 2) : aR h 22 d = none ∧ ∃ r e z, aR h 23 d = some r ∧ p.2.2.2.2.2 4 d = i32 z ∧ RowAt h r e z (p.2.2.2.2.2 3 d) (fun j => p.2.2.2.2.2 5 (100 * d + j)) := by
  rcases P.1.2.2.1 d hd with ⟨x, -⟩ | ⟨x, -⟩ | ⟨-, x1, x2, r, e, z, x3, x4, x5, x6, x7⟩
  · rw [e] at x; exact absurd x (by decide)
  · rw [e] at x; exact absurd x (by decide)
  · exact ⟨x1, r, e, z, x3, x5, x4, x6, x2, fun j hj => (x7 j hj).1⟩
theorem sh_row8 (P : PS p h h') {d z : Nat} (hd : d < 8) (e : p.2.2.2.2.2 0 d = 2) (n3 : p.2.2.2.2.2 4 d = i32 z) (hz : z ≤ 100) : ∀ j, j < z → ok8 (p.2.2.2.2.2 3 d) (p.2.2.2.2.2 5 (100 * d + j)) := by
  rcases P.1.2.2.1 d hd with ⟨x, -⟩ | ⟨x, -⟩ | ⟨-, x1, x2, r, e, z', x3, x4, x5, x6, x7⟩
  · rw [e] at x; exact absurd x (by decide)
  · rw [e] at x; exact absurd x (by decide)
  · intro j hj
    rw [n3, i32_eq (by omega) (by omega)] at x5
    exact (x7 j (by omega)).2
theorem U_cost (P : PS p h h') (v1 : Int32) : UU h h' (f_X11_cost (some 0) v1 h) (f_X12_cost (some 26) v1 h') := by
  unfold f_X11_cost f_X12_cost
  have W := P.1.1.1
  have M := P.2
  rw [cv_ok W.1.1, cv_ok M.1.1.1]
  cases e : btw v1 0 7 with
  | false =>
    rw [c_kindNo e, bd_some, if_pos rfl, cv_ok W.1.1, c_whyKindNo e, bd_some, m_wrongKeptNo e, bd_some, if_neg (by decide)]
    exact UU.same P (-1) rfl rfl
  | true =>
    obtain ⟨d, rfl, hd7⟩ := btw_of (m := 7) (by omega) e
    have hd : d < 8 := by omega
    rw [c_kindOn W hd, bd_some, m_wrongKept M hd, bd_some]
    by_cases e0 : p.2.2.2.2.2 0 d = 0
    · obtain ⟨n1, n2⟩ := sh_none P hd e0
      rw [n1, if_pos rfl, cv_ok W.1.1, c_whyKind W hd, n2, bd_some, if_pos rfl, if_pos e0, if_neg (by decide)]
      exact UU.same P (-11) rfl rfl
    · by_cases e2 : p.2.2.2.2.2 0 d = 2
      · obtain ⟨n1, r, ee, z, n2, -⟩ := sh_row P hd e2
        rw [n1, if_pos rfl, cv_ok W.1.1, c_whyKind W hd, n2, bd_some, if_neg (by simp), if_neg e0, if_pos e2, if_neg (by decide)]
        exact UU.same P (-12) rfl rfl
      · obtain ⟨-, ⟨k, k1, k2⟩, -, -⟩ := sh_kind P hd e0 e2
        have x1 : aI h' 35 = p.2.2.2.2.2 1 := m_k M 1 (by omega)
        have x2 : aI h' 36 = p.2.2.2.2.2 2 := m_k M 2 (by omega)
        rw [k1, if_neg (fun z => nomatch z), k_dyn_price k2, bd_some, if_neg e0, if_neg e2, if_pos rfl, M.1.o13, sb_some, iA_ok M.1.2.2.1.2.1 hd (by omega), sb_some, M.1.o14, sb_some, iA_ok M.1.2.2.1.2.2.1 hd (by omega), sb_some, x1, x2, m_costBy, bd_some]
        exact UU.same P _ rfl rfl
theorem exH_q (h : AH) : Fq 1 h (exH h) := ⟨⟨Nat.le_succ _, Nat.le_refl _, Nat.le_add_right _ _, by show aS h + 6 ≤ aS h + 200 * 1; omega⟩, fun _ _ => ⟨rfl, rfl⟩, fun _ _ _ _ _ _ _ _ _ => rfl, fun _ _ _ => rfl⟩
theorem Gst.ex {h : AH} {k : Nat} {κ f : Int32} (G : Gst h k κ f) : Gst (exH h) k κ f := ⟨Nat.lt_succ_of_lt G.1, G.2⟩
theorem c_failure {h : AH} {k : Nat} {κ f : Int32} (G : Gst h k κ f) (hf : rg f 9) : ∃ h1 m, f_X11_failureOf (some k) h = some (if κ = 2 then -15 else if κ = 6 then -15 else if f = 0 then -15 else if κ = 4 then 200 + cst κ f else if κ = 3 then 100 + f else if κ = 5 then 100 + f else f, h1) ∧ Fq m h h1 ∧ m ≤ 1 := by
  have G0 := G
  obtain ⟨-, c, hT, hk, h0, h1⟩ := G
  have hTe : aT (exH h) k = some (.inr c) := hT
  have h1e : aI (exH h) k 1 = f := h1
  unfold f_X11_failureOf f_dyn_fail dsp
  simp only [hT]
  have x4 : f_X4_fail (some k) h = if f = 0 then some (.inl (), h) else some (.inr "java/lang/UnsupportedOperationException", exH h) := by
    unfold f_X4_fail; rw [gI_ok hT (gk_GF hk), sb_some, h1]
  have x9 : f_X9_fail (some k) h = if f = 0 then some (.inl (), h) else some (.inr "java/lang/IllegalArgumentException", exH h) := by
    unfold f_X9_fail; rw [gI_ok hT (gk_GF hk), sb_some, h1]
  have x1 : f_X1_fail (some k) h = if f = 0 then some (.inl (), h) else some (.inr "java/lang/IllegalStateException", exH h) := by
    unfold f_X1_fail; rw [gI_ok hT (gk_GF hk), sb_some, h1]
  have a1 : ¬ ("java/lang/UnsupportedOperationException" = "java/lang/IllegalStateException") := by decide
  have a2 : ¬ ("java/lang/UnsupportedOperationException" = "java/lang/IllegalArgumentException") := by decide
  have a3 : ¬ ("java/lang/IllegalArgumentException" = "java/lang/IllegalStateException") := by decide
  have g1 : gI (exH h) (some k) GF 1 = some f := by rw [gI_ok hTe (gk_GF hk), h1e]
  by_cases ef : f = 0
  · rw [if_pos ef] at x4 x9 x1
    refine ⟨h, 0, ?_, Fq.rf h, by omega⟩
    rcases hk with ⟨rfl, rfl⟩ | ⟨rfl, rfl⟩ | ⟨rfl, rfl⟩ | ⟨rfl, rfl⟩ | ⟨rfl, rfl⟩ | ⟨rfl, rfl⟩ | ⟨rfl, rfl⟩ | ⟨rfl, rfl⟩
    · show bd (f_X4_fail (some k) h) _ = _
      rw [x4, bd_some, if_neg (by decide), if_neg (by decide), if_pos ef]
    · show bd (f_X4_fail (some k) h) _ = _
      rw [x4, bd_some, if_neg (by decide), if_neg (by decide), if_pos ef]
    · rfl
    · show bd (f_X9_fail (some k) h) _ = _
      rw [x9, bd_some, if_neg (by decide), if_neg (by decide), if_pos ef]
    · show bd (f_X1_fail (some k) h) _ = _
      rw [x1, bd_some, if_neg (by decide), if_neg (by decide), if_pos ef]
    · show bd (f_X9_fail (some k) h) _ = _
      rw [x9, bd_some, if_neg (by decide), if_neg (by decide), if_pos ef]
    · rfl
    · show bd (f_X4_fail (some k) h) _ = _
      rw [x4, bd_some, if_neg (by decide), if_neg (by decide), if_pos ef]
  · rw [if_neg ef] at x4 x9 x1
    rcases hk with ⟨rfl, rfl⟩ | ⟨rfl, rfl⟩ | ⟨rfl, rfl⟩ | ⟨rfl, rfl⟩ | ⟨rfl, rfl⟩ | ⟨rfl, rfl⟩ | ⟨rfl, rfl⟩ | ⟨rfl, rfl⟩
    · refine ⟨exH h, 1, ?_, exH_q h, by omega⟩
      show bd (f_X4_fail (some k) h) _ = _
      rw [x4, bd_some, if_neg (by decide), if_neg (by decide), if_neg ef, if_neg (by decide), if_neg (by decide), if_neg (by decide)]
      show (if _ then _ else _) = _
      rw [if_neg a1, if_neg a2, if_pos rfl, g1, sb_some]
    · refine ⟨exH h, 1, ?_, exH_q h, by omega⟩
      show bd (f_X4_fail (some k) h) _ = _
      rw [x4, bd_some, if_neg (by decide), if_neg (by decide), if_neg ef, if_neg (by decide), if_neg (by decide), if_neg (by decide)]
      show (if _ then _ else _) = _
      rw [if_neg a1, if_neg a2, if_pos rfl, g1, sb_some]
    · exact ⟨h, 0, rfl, Fq.rf h, by omega⟩
    · refine ⟨exH h, 1, ?_, exH_q h, by omega⟩
      show bd (f_X9_fail (some k) h) _ = _
      rw [x9, bd_some, if_neg (by decide), if_neg (by decide), if_neg ef, if_neg (by decide), if_pos (by decide)]
      show (if _ then _ else _) = _
      rw [if_neg a3, if_pos rfl, g1, sb_some]
    · refine ⟨exH h, 1, ?_, exH_q h, by omega⟩
      show bd (f_X1_fail (some k) h) _ = _
      rw [x1, bd_some, if_neg (by decide), if_neg (by decide), if_neg ef, if_pos (by decide)]
      show (if _ then _ else _) = _
      rw [if_pos rfl, k_dyn_price G0.ex, bd_some]
    · refine ⟨exH h, 1, ?_, exH_q h, by omega⟩
      show bd (f_X9_fail (some k) h) _ = _
      rw [x9, bd_some, if_neg (by decide), if_neg (by decide), if_neg ef, if_neg (by decide), if_neg (by decide), if_pos (by decide)]
      show (if _ then _ else _) = _
      rw [if_neg a3, if_pos rfl, g1, sb_some]
    · exact ⟨h, 0, rfl, Fq.rf h, by omega⟩
    · refine ⟨exH h, 1, ?_, exH_q h, by omega⟩
      show bd (f_X4_fail (some k) h) _ = _
      rw [x4, bd_some, if_neg (by decide), if_neg (by decide), if_neg ef, if_neg (by decide), if_neg (by decide), if_neg (by decide)]
      show (if _ then _ else _) = _
      rw [if_neg a1, if_neg a2, if_pos rfl, g1, sb_some]
theorem U_toss (P : PS p h h') (v1 : Int32) : UU h h' (f_X11_toss (some 0) v1 h) (f_X12_toss (some 26) v1 h') := by
  unfold f_X11_toss f_X12_toss f_X12_toss_b74
  have W := P.1.1.1
  have M := P.2
  rw [cv_ok W.1.1, cv_ok M.1.1.1]
  cases e : btw v1 0 7 with
  | false =>
    rw [c_kindNo e, bd_some, if_pos rfl, cv_ok W.1.1, c_whyKindNo e, bd_some, m_wrongKeptNo e, bd_some, if_neg (by decide)]
    exact UU.same P (-1) rfl rfl
  | true =>
    obtain ⟨d, rfl, hd7⟩ := btw_of (m := 7) (by omega) e
    have hd : d < 8 := by omega
    rw [c_kindOn W hd, bd_some, m_wrongKept M hd, bd_some]
    by_cases e0 : p.2.2.2.2.2 0 d = 0
    · obtain ⟨n1, n2⟩ := sh_none P hd e0
      rw [n1, if_pos rfl, cv_ok W.1.1, c_whyKind W hd, n2, bd_some, if_pos rfl, if_pos e0, if_neg (by decide)]
      exact UU.same P (-11) rfl rfl
    · by_cases e2 : p.2.2.2.2.2 0 d = 2
      · obtain ⟨n1, r, ee, z, n2, -⟩ := sh_row P hd e2
        rw [n1, if_pos rfl, cv_ok W.1.1, c_whyKind W hd, n2, bd_some, if_neg (by simp), if_neg e0, if_pos e2, if_neg (by decide)]
        exact UU.same P (-12) rfl rfl
      · obtain ⟨-, ⟨k, k1, k2⟩, -, -, k5⟩ := sh_kind P hd e0 e2
        have x1 : aI h' 35 = p.2.2.2.2.2 1 := m_k M 1 (by omega)
        have x2 : aI h' 36 = p.2.2.2.2.2 2 := m_k M 2 (by omega)
        obtain ⟨h1, m, f1, f2, f3⟩ := c_failure k2 k5
        rw [k1, if_neg (fun z => nomatch z), f1, bd_some, if_neg e0, if_neg e2, if_pos rfl, M.1.o13, sb_some, iA_ok M.1.2.2.1.2.1 hd (by omega), sb_some, M.1.o14, sb_some, iA_ok M.1.2.2.1.2.2.1 hd (by omega), sb_some, x1, x2, m_costBy, bd_some]
        refine RR.u (m := m) P (RR.mk2 _ f2 (Fm.rf h') rfl ?_) (by omega)
        repeat' split
        all_goals rfl
end SHELF
