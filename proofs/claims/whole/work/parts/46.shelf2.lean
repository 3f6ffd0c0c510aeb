/-! WHAT CHANGES THE SHELVES -/
section SHELF2
variable {p : ST} {h h' : AH}
theorem rS_22 (W : Wc h) {d : Nat} (hd : d < 8) {x : Option Nat} (hx : fits1 h GF x = true) : rS h (some 22) 2 GF (i32 d) x = some (wR h 22 (va_up (aR h 22) d x)) := rS_ok W.1.2.1 hd (by omega) hx
theorem rS_23 (W : Wc h) {d : Nat} (hd : d < 8) {x : Option Nat} (hx : fits1 h [7] x = true) : rS h (some 23) 3 [7] (i32 d) x = some (wR h 23 (va_up (aR h 23) d x)) := rS_ok W.1.2.2.1 hd (by omega) hx
/-- what lasts though shelves change -/
def KP2 (h h1 : AH) : Prop := aN h ≤ aN h1 ∧ (∀ k κ f, Gst h k κ f → Gst h1 k κ f) ∧ ∀ c, 41 ≤ c → c < aN h → aT h1 c = aT h c ∧ aI h1 c = aI h c ∧ aR h1 c = aR h c
theorem RowAt.kp2 {h h1 : AH} {r e z : Nat} {srt : Int32} {el : Nat → Int32} (x : RowAt h r e z srt el) (K : KP2 h h1) : RowAt h1 r e z srt el := by
  obtain ⟨⟨⟨x1, x2, x3, x4⟩, x5, x6, x7, x8⟩, y1, y2, y3⟩ := x
  obtain ⟨k1, -, k3⟩ := K
  obtain ⟨a1, a2, a3⟩ := k3 r x1 x2
  obtain ⟨b1, b2, b3⟩ := k3 e x3 x4
  exact ⟨⟨⟨x1, by omega, x3, by omega⟩, by rw [a1]; exact x5, by rw [a2]; exact x6, by rw [a3]; exact x7, by rw [b1]; exact x8⟩, y1, y2, fun j hj => by rw [b2]; exact y3 j hj⟩
/-- one shelf holds something else -/
theorem SHs.set {κ κ' : Nat → R54} {d : Nat} (S : SHs h κ) {h2 : AH} (K : KP2 h h2) (e22 : ∀ j, j ≠ d → aR h2 22 j = aR h 22 j) (e23 : ∀ j, j ≠ d → aR h2 23 j = aR h 23 j) (eκ : ∀ i, i < 5 → ∀ j, j ≠ d → κ' i j = κ i j) (eel : ∀ j, j < 8 → j ≠ d → ∀ i, i < 100 → κ' 5 (100 * j + i) = κ 5 (100 * j + i)) (hn : SHd h2 κ' d) (hf : ∀ r e, aR h2 23 d = some r → aR h2 r 1 = some e → aN h ≤ e) : SHs h2 κ' := by
  have rr : ∀ j r, j < 8 → aR h 23 j = some r → 41 ≤ r ∧ r < aN h ∧ ∃ e, aR h r 1 = some e ∧ e < aN h := fun j r hj er => by
    rcases S.1 j hj with ⟨-, -, y⟩ | ⟨-, -, y, -⟩ | ⟨-, -, -, r', e', z, y, y2, -⟩
    · rw [er] at y; cases y
    · rw [er] at y; cases y
    · rw [er] at y; cases y; exact ⟨y2.1.1, y2.1.2.1, e', y2.2.2.2.1, y2.1.2.2.2⟩
  refine ⟨fun j hj => ?_, fun a b ha hb ne r r2 e e1 e2 e3 e4 => ?_⟩
  · by_cases z : j = d
    · subst z; exact hn
    · unfold SHd
      rw [e22 j z, e23 j z, eκ 0 (by omega) j z, eκ 1 (by omega) j z, eκ 2 (by omega) j z, eκ 3 (by omega) j z, eκ 4 (by omega) j z]
      rcases S.1 j hj with x | ⟨x1, ⟨k, x2, x3⟩, x4⟩ | ⟨x1, x2, x3, r, e, z2, x4, x5, x6, x7, x8⟩
      · exact Or.inl x
      · exact Or.inr (Or.inl ⟨x1, ⟨k, x2, K.2.1 _ _ _ x3⟩, x4⟩)
      · have R : RowAt h r e z2 (κ 3 j) (fun i => κ 5 (100 * j + i)) := ⟨x5, x7, x3, fun i hi => (x8 i hi).1⟩
        obtain ⟨y1, y2, y3, y4⟩ := R.kp2 K
        exact Or.inr (Or.inr ⟨x1, x2, x3, r, e, z2, x4, y1, x6, x7, fun i hi => by rw [eel j hj z i (by omega)]; exact ⟨y4 i hi, (x8 i hi).2⟩⟩)
  · have old : ∀ j r, j < 8 → j ≠ d → aR h2 23 j = some r → ∀ e, aR h2 r 1 = some e → aR h 23 j = some r ∧ aR h r 1 = some e ∧ e < aN h := fun j r hj ne er e ee => by
      rw [e23 j ne] at er
      obtain ⟨q1, q2, e', q3, q4⟩ := rr j r hj er
      rw [(K.2.2 r q1 q2).2.2] at ee
      rw [ee] at q3
      cases q3
      exact ⟨er, ee, q4⟩
    by_cases za : a = d
    · subst za
      have n1 := hf r e e1 e3
      obtain ⟨-, -, n2⟩ := old b r2 hb (Ne.symm ne) e2 e e4
      omega
    · by_cases zb : b = d
      · subst zb
        have n1 := hf r2 e e2 e4
        obtain ⟨-, -, n2⟩ := old a r ha za e1 e e3
        omega
      · obtain ⟨o1, o2, -⟩ := old a r ha za e1 e e3
        obtain ⟨o3, o4, -⟩ := old b r2 hb zb e2 e e4
        exact S.2 a b ha hb ne r r2 e o1 o3 o2 o4
/-- the ints of one row change -/
theorem SHs.el {κ κ' : Nat → R54} {d r e z : Nat} {q : Nat → Int32} (hd : d < 8) (S : SHs h κ) (hr : aR h 23 d = some r) (R : RowAt h r e z (κ 3 d) (fun j => κ 5 (100 * d + j))) (eκ : ∀ i, i < 5 → κ' i = κ i) (eel : ∀ j, j < 8 → j ≠ d → ∀ i, i < 100 → κ' 5 (100 * j + i) = κ 5 (100 * j + i)) (hq : ∀ i, i < z → q i = κ' 5 (100 * d + i)) (h8 : ∀ i, i < z → κ' 5 (100 * d + i) = κ 5 (100 * d + i) ∨ ok8 (κ 3 d) (κ' 5 (100 * d + i))) : SHs (wI h e q) κ' := by
  have hg : ∀ j, (Sum.inl (0, z) : AT) = .inr j → j ∉ GF := fun j y => nomatch y
  refine ⟨fun j hj => ?_, S.2⟩
  unfold SHd
  rw [eκ 0 (by omega), eκ 1 (by omega), eκ 2 (by omega), eκ 3 (by omega), eκ 4 (by omega)]
  rcases S.1 j hj with x | ⟨x1, ⟨k, x2, x3⟩, x4⟩ | ⟨x1, x2, x3, r2, e2, z2, x4, x5, x6, x7, x8⟩
  · exact Or.inl x
  · exact Or.inr (Or.inl ⟨x1, ⟨k, x2, x3.ne (x3.neT R.1.2.2.2.2 hg)⟩, x4⟩)
  · refine Or.inr (Or.inr ⟨x1, x2, x3, r2, e2, z2, x4, ?_, x6, x7, fun i hi => ?_⟩)
    · obtain ⟨y1, y2, y3, y4, y5⟩ := x5
      have ne : r2 ≠ e := fun y => by subst y; rw [R.1.2.2.2.2] at y2; cases y2
      exact ⟨y1, y2, by rw [aI_ne ne]; exact y3, y4, y5⟩
    · by_cases y : j = d
      · subst y
        rw [hr] at x4
        cases x4
        have ee : e2 = e := by
          have t1 := x5.2.2.2.1
          rw [R.1.2.2.2.1] at t1
          cases t1
          rfl
        subst ee
        have zz : z2 = z := by
          have t1 := x5.2.2.2.2
          rw [R.1.2.2.2.2] at t1
          cases t1
          rfl
        rw [aI_eq, hq i (by omega)]
        refine ⟨rfl, ?_⟩
        rcases h8 i (by omega) with y | y
        · rw [y]; exact (x8 i hi).2
        · exact y
      · have ne : e2 ≠ e := fun w => by
          subst w
          exact S.2 j d hj hd y r2 r e2 x4 hr x5.2.2.2.1 R.1.2.2.2.1
        rw [aI_ne ne, (x8 i hi).1, eel j hj y i (by omega)]
        exact ⟨rfl, (x8 i hi).2⟩
/-- the shelves change, in both worlds -/
theorem UU.shelf {h1 h1' : AH} (P : PS p h h') (r : Int32) {κ' : Nat → R54} {o o' : Option (Int32 × AH)} (W : Wc h1) (H1 : Hs h1 1 p.1 p.2.1) (H15 : Hs h 15 p.2.2.1 p.2.2.2.1 → Hs h1 15 p.2.2.1 p.2.2.2.1) (e0 : aI h1 0 = aI h 0) (S : SHs h1 κ') (F : FC h h1) (G : FM h' h1') (eo : ∀ c, c < 34 → aI h1' c = aI h' c) (ek : ∀ i, i < 6 → aI h1' (34 + i) = κ' i) (e : o = some (r, h1)) (e' : o' = some (r, h1')) : UU h h' o o' := by
  obtain ⟨⟨⟨a1, a2, a3, a4⟩, ⟨b1, b2⟩, c⟩, Wn, ⟨m1, m2, m3, m4⟩, m5, m6, m7⟩ := P
  refine ⟨r, h1, h1', (p.1, p.2.1, p.2.2.1, p.2.2.2.1, p.2.2.2.2.1, κ'), e, e', ⟨⟨W, H1, a3, a4⟩, ⟨by rw [e0]; exact b1, ?_⟩, S⟩, ⟨?_, ⟨by rw [eo 27 (by omega)]; exact m1, by rw [eo 29 (by omega)]; exact m2, by rw [eo 26 (by omega)]; exact m3, ek⟩, by rw [eo 28 (by omega)]; exact m5, m6, by rw [eo 30 (by omega)]; exact m7⟩, F, G⟩
  · rcases b2 with b2 | ⟨b2, b3, b4⟩
    · exact Or.inl b2
    · exact Or.inr ⟨b2, H15 b3, b4⟩
  · unfold Wm
    rw [G.1.2.1, G.1.2.2.1]
    exact Wn
theorem Hs.wR22 {b n d : Nat} {s : R54} {x : Nat → Option Nat} (H : Hs h b n s) (hd : d = 22 ∨ d = 23) (hb : b = 1 ∨ b = 15) : Hs (wR h d x) b n s := by
  refine ⟨?_, H.2.1, fun g hg => ?_⟩
  · unfold Hty
    rw [aR_ne (show b ≠ d by omega)]
    exact H.1
  · obtain ⟨⟨k, x0, x1⟩, x2⟩ := H.2.2 g hg
    unfold PG
    rw [aR_ne (show b + 1 ≠ d by omega)]
    exact ⟨⟨k, x0, x1⟩, x2⟩
theorem Wc.wR22 {d : Nat} {x : Nat → Option Nat} (W : Wc h) (hd : d = 22 ∨ d = 23) : Wc (wR h d x) := by
  unfold Wc Hty
  rw [aR_ne (show 0 ≠ d by omega), aR_ne (show 1 ≠ d by omega), aR_ne (show 8 ≠ d by omega), aR_ne (show 15 ≠ d by omega)]
  exact W
def upκ (κ : Nat → R54) (i j : Nat) (v : Int32) : Nat → R54 := fun i2 => if i2 = i then va_up (κ i) j v else κ i2
theorem fits_none {h : AH} {fam : List Nat} : fits1 h fam none = true := rfl
theorem U_keep (P : PS p h h') (v1 v2 v3 v4 : Int32) : UU h h' (f_X11_keep (some 0) v1 v2 v3 v4 h) (f_X12_keep (some 26) v1 v2 v3 v4 h') := by
  unfold f_X11_keep f_X12_keep
  have W := P.1.1.1
  have M := P.2
  rw [c_isShelf, bd_some, m_isShelf, bd_some]
  cases e : btw v1 0 7 with
  | false => exact UU.same P (-1) (if_pos pb0) (if_pos pb0)
  | true =>
    obtain ⟨d, rfl, hd7⟩ := btw_of (m := 7) (by omega) e
    have hd : d < 8 := by omega
    rw [if_neg nb1, if_neg nb1, c_in, m_btw, bd_some]
    cases e2 : btw v2 0 1 with
    | false => exact UU.same P (-1) (if_pos rfl) (if_pos pb0)
    | true =>
      rw [if_neg ntf, if_neg nb1]
      -- the reference's three ints
      have mk : f_X12_keep_b44 (some 26) (i32 d) v2 v3 v4 h' = some (0, wI (wI (wI h' 34 (va_up (aI h' 34) d v2)) 35 (va_up (aI h' 35) d v3)) 36 (va_up (aI h' 36) d v4)) := by
        unfold f_X12_keep_b44
        have Wn := M.1
        have W2 : ∀ c f, Wm (wI h' c f) := fun _ _ => Wn
        have W3 : ∀ c f c2 f2, Wm (wI (wI h' c f) c2 f2) := fun _ _ _ _ => Wn
        rw [Wn.o12, sb_some, iS_ok Wn.2.2.1.1 hd (by omega), sb_some, (W2 _ _).o13, sb_some, iS_ok (W2 _ _).2.2.1.2.1 hd (by omega), sb_some, (W3 _ _ _ _).o14, sb_some, iS_ok (W3 _ _ _ _).2.2.1.2.2.1 hd (by omega), sb_some, aI_ne (show 35 ≠ 34 by omega), aI_ne (show 36 ≠ 35 by omega), aI_ne (show 36 ≠ 34 by omega)]
      have fin : ∀ (x : Option Nat) (h1 : AH) (m : Nat), NW m (2 * m) h h1 → m ≤ 1 → fits1 h1 GF x = true → SHd (wR (wR h1 22 (va_up (aR h1 22) d x)) 23 (va_up (aR h1 23) d none)) (upκ (upκ (upκ p.2.2.2.2.2 0 d v2) 1 d v3) 2 d v4) d → UU h h' (f_X11_keep_b63 (some 0) (i32 d) x (i32 d) (some 22) h1) (f_X12_keep_b44 (some 26) (i32 d) v2 v3 v4 h') := by
        intro x h1 m N hm hx hS
        have W1 : Wc h1 := W.q (N.q (by omega))
        have W2 : Wc (wR h1 22 (va_up (aR h1 22) d x)) := W1.wR22 (Or.inl rfl)
        have hN := W.2.2.2
        have ck : f_X11_keep_b63 (some 0) (i32 d) x (i32 d) (some 22) h1 = some (0, wR (wR h1 22 (va_up (aR h1 22) d x)) 23 (va_up (aR h1 23) d none)) := by
          unfold f_X11_keep_b63
          rw [rS_22 W1 hd hx, sb_some, W2.o5, sb_some, rS_23 W2 hd fits_none, sb_some, aR_ne (show 23 ≠ 22 by omega)]
        have K : KP2 h (wR (wR h1 22 (va_up (aR h1 22) d x)) 23 (va_up (aR h1 23) d none)) := by
          refine ⟨by have := N.1.1; show aN h ≤ aN h1; omega, fun k κ f G => (show Gst h1 k κ f from G.new N), fun c c1 c2 => ?_⟩
          obtain ⟨n1, n2, n3, -⟩ := N.2 c c2
          exact ⟨n1, n2, by rw [aR_ne (by omega), aR_ne (by omega)]; exact n3⟩
        obtain ⟨n1, n2, n3, -⟩ := N.2 22 (by omega)
        obtain ⟨o1, o2, o3, -⟩ := N.2 23 (by omega)
        refine UU.shelf P 0 (κ' := upκ (upκ (upκ p.2.2.2.2.2 0 d v2) 1 d v3) 2 d v4) (W2.wR22 (Or.inr rfl)) (((P.1.1.2.1.new N).wR22 (Or.inl rfl) (Or.inl rfl)).wR22 (Or.inr rfl) (Or.inl rfl)) (fun H => ((H.new N).wR22 (Or.inl rfl) (Or.inr rfl)).wR22 (Or.inr rfl) (Or.inr rfl)) (N.2 0 (by omega)).2.1 ?_ ?_ ?_ ?_ ?_ ck mk
        · refine P.1.2.2.set K (d := d) (fun j hj => ?_) (fun j hj => ?_) (fun i hi j hj => ?_) (fun j _ _ i _ => rfl) hS (fun r e er _ => ?_)
          · rw [aR_ne (by omega), aR_eq, up_ne hj, n3]
          · rw [aR_eq, up_ne hj, o3]
          · have hi5 : i = 0 ∨ i = 1 ∨ i = 2 ∨ i = 3 ∨ i = 4 := by omega
            rcases hi5 with rfl | rfl | rfl | rfl | rfl
            · exact up_ne hj
            · exact up_ne hj
            · exact up_ne hj
            · rfl
            · rfl
          · rw [aR_eq, up_eq] at er; cases er
        · refine ⟨by have := N.1; show aN h ≤ aN h1 ∧ aN h1 ≤ aN h + 12 ∧ aS h ≤ aS h1 ∧ aS h1 ≤ aS h + 2400; omega, fun c c1 c2 => ?_⟩
          obtain ⟨y1, y2, y3, y4⟩ := N.2 c (by omega)
          exact ⟨y1, y2, by rw [aR_ne (by omega), aR_ne (by omega)]; exact y3, y4⟩
        · exact ⟨⟨rfl, rfl, rfl, rfl⟩, fun c hc => by rw [aI_ne (by omega), aI_ne (by omega), aI_ne (by omega)]⟩
        · intro c hc
          rw [aI_ne (by omega), aI_ne (by omega), aI_ne (by omega)]
        · intro i hi
          have hi5 : i = 0 ∨ i = 1 ∨ i = 2 ∨ i = 3 ∨ i = 4 ∨ i = 5 := by omega
          have k := m_k M
          rcases hi5 with rfl | rfl | rfl | rfl | rfl | rfl
          · rw [aI_ne (by omega), aI_ne (by omega), aI_eq]; exact congrArg (fun q => va_up q d v2) (k 0 (by omega))
          · rw [aI_ne (by omega), aI_eq]; exact congrArg (fun q => va_up q d v3) (k 1 (by omega))
          · rw [aI_eq]; exact congrArg (fun q => va_up q d v4) (k 2 (by omega))
          · rw [aI_ne (by omega), aI_ne (by omega), aI_ne (by omega)]; exact k 3 (by omega)
          · rw [aI_ne (by omega), aI_ne (by omega), aI_ne (by omega)]; exact k 4 (by omega)
          · rw [aI_ne (by omega), aI_ne (by omega), aI_ne (by omega)]; exact k 5 (by omega)
      have e3 : v2 = 0 ∨ v2 = 1 := by
        obtain ⟨j, rfl, hj⟩ := btw_of (m := 1) (by omega) e2
        have : j = 0 ∨ j = 1 := by omega
        rcases this with rfl | rfl
        · exact Or.inl rfl
        · exact Or.inr rfl
      have hN := W.2.2.2
      rcases e3 with rfl | rfl
      · rw [if_neg (by decide), if_neg (by decide)]
        unfold f_X11_keep_b43
        rw [W.o4, sb_some, if_neg (by decide)]
        refine fin none h 0 ⟨⟨rfl, rfl⟩, fun c hc => ⟨rfl, rfl, rfl, rfl⟩⟩ (by omega) fits_none (Or.inl ⟨?_, ?_, ?_⟩)
        · exact up_eq _ _ _
        · rw [aR_ne (by omega), aR_eq, up_eq]
        · rw [aR_eq, up_eq]
      · rw [if_pos rfl, if_pos rfl, m_btw, bd_some, show (if v3 < 0 then some ((-1 : Int32), h) else if 8 ≤ v3 then some (-1, h) else bd (f_X11_isDigit v4 h) fun r10 h9 => if r10 = 0 then some (-1, h9) else f_X11_keep_b43 (some 0) (i32 d) 1 v3 v4 h9) = (if btw v3 0 7 = false then some ((-1 : Int32), h) else bd (f_X11_isDigit v4 h) fun r10 h9 => if r10 = 0 then some (-1, h9) else f_X11_keep_b43 (some 0) (i32 d) 1 v3 v4 h9) from ?_]
        · cases e4 : btw v3 0 7 with
          | false => exact UU.same P (-1) (if_pos rfl) (if_pos pb0)
          | true =>
            rw [if_neg ntf, if_neg nb1, c_isDigit, bd_some, m_btw, bd_some]
            cases e5 : btw v4 0 9 with
            | false => exact UU.same P (-1) (if_pos pb0) (if_pos pb0)
            | true =>
              rw [if_neg nb1, if_neg nb1]
              unfold f_X11_keep_b43
              have r3 : rg v3 7 := by obtain ⟨j, rfl, hj⟩ := btw_of (m := 7) (by omega) e4; exact ⟨j, hj, rfl⟩
              have r4 : rg v4 9 := by obtain ⟨j, rfl, hj⟩ := btw_of (m := 9) (by omega) e5; exact ⟨j, hj, rfl⟩
              obtain ⟨h1, k1, k2, k3⟩ := k_kindOf (h := h) r3 v4
              rw [W.o4, sb_some, if_pos rfl, k1, bd_some]
              refine fin (some (aN h)) h1 1 k3 (by omega) k2.fits (Or.inr (Or.inl ⟨?_, ⟨aN h, ?_, ?_⟩, ?_, ?_, ?_⟩))
              · exact up_eq _ _ _
              · rw [aR_ne (by omega), aR_eq, up_eq]
              · show Gst _ (aN h) (va_up _ d v3 d) (va_up _ d v4 d)
                rw [up_eq, up_eq]
                exact k2
              · rw [aR_eq, up_eq]
              · show rg (va_up _ d v3 d) 7
                rw [up_eq]; exact r3
              · show rg (va_up _ d v4 d) 9
                rw [up_eq]; exact r4
        · rw [← c_in]
          by_cases c : v3 < 0
          · rw [if_pos c, if_pos c]
          · rw [if_neg c, if_neg c]
            have y : (8 ≤ v3) = ¬ (v3 ≤ 7) := by
              rw [Int32.le_iff_toInt_le, Int32.le_iff_toInt_le]
              have h8 : (8 : Int32).toInt = 8 := by decide
              have h7 : (7 : Int32).toInt = 7 := by decide
              rw [h8, h7]
              exact propext ⟨fun z => by omega, fun z => by omega⟩
            by_cases c2 : v3 ≤ 7
            · rw [if_neg (by rw [y]; exact fun z => z c2), if_pos c2]
            · rw [if_pos (by rw [y]; exact c2), if_neg c2]
theorem m_row_b55 {d : Nat} (hd : d < 8) : ∀ (k m i : Nat) (h' : AH), Wm h' → k < m → i + k = 100 → ∃ q, f_X12_row_b55 m (some 26) (i32 d) (i32 i) h' = some (0, wI h' 39 q) ∧ (∀ x, x < 100 * d + i ∨ 100 * d + 100 ≤ x → q x = aI h' 39 x) ∧ ∀ j, i ≤ j → j < 100 → q (100 * d + j) = 0 := by
  intro k
  induction k with
  | zero =>
    intro m i h' W hm hi
    obtain ⟨m, rfl⟩ := succ_of hm
    rw [e_X12_row_b55, show i = 100 by omega]
    exact ⟨aI h' 39, by rw [wI_self]; exact if_pos (by decide), fun x _ => rfl, fun j h1 h2 => by omega⟩
  | succ k ih =>
    intro m i h' W hm hi
    obtain ⟨m, rfl⟩ := succ_of hm
    rw [e_X12_row_b55, if_neg (show ¬ (100 : Int32) ≤ i32 i by rw [show (100 : Int32) = i32 100 from rfl, i32_le (by omega) (by omega)]; omega), W.o17, sb_some, show (100 : Int32) * i32 d + i32 i = i32 (100 * d + i) by rw [show (100 : Int32) = i32 100 from rfl, i32_mul, i32_add], iS_ok W.2.2.1.2.2.2.2.2 (show 100 * d + i < 800 by omega) (by omega), sb_some, i32_s]
    obtain ⟨q, q1, q2, q3⟩ := ih m (i + 1) (wI h' 39 (va_up (aI h' 39) (100 * d + i) 0)) W (by omega) (by omega)
    refine ⟨q, by rw [q1, wI_wI], fun x hx => ?_, fun j h1 h2 => ?_⟩
    · rw [q2 x (by omega), aI_eq, up_ne (by omega)]
    · by_cases z : j = i
      · subst z; rw [q2 _ (by omega), aI_eq, up_eq]
      · exact q3 j (by omega) h2
theorem U_row (P : PS p h h') (v1 v2 v3 : Int32) : UU h h' (f_X11_row (some 0) v1 v2 v3 h) (f_X12_row (some 26) v1 v2 v3 h') := by
  unfold f_X11_row f_X12_row
  have W := P.1.1.1
  have M := P.2
  rw [c_isShelf, bd_some, m_isShelf, bd_some]
  cases e : btw v1 0 7 with
  | false => exact UU.same P (-1) (if_pos pb0) (if_pos pb0)
  | true =>
    obtain ⟨d, rfl, hd7⟩ := btw_of (m := 7) (by omega) e
    have hd : d < 8 := by omega
    rw [if_neg nb1, if_neg nb1, c_out, m_btw, bd_some]
    cases e2 : btw v2 0 2 with
    | false => exact UU.same P (-1) (if_pos rfl) (if_pos pb0)
    | true =>
      rw [if_neg ntf, if_neg nb1]
      by_cases a1 : v3 ≤ 100
      · rw [if_pos a1, if_pos a1]
        by_cases a2 : 0 ≤ v3
        · rw [if_pos a2, if_pos a2]
          obtain ⟨z, hz, rfl⟩ := rg_of a2 (show v3 ≤ i32 100 from a1) (by omega)
          have s3 : v2 = 0 ∨ v2 = 1 ∨ v2 = 2 := by
            obtain ⟨j, rfl, hj⟩ := btw_of (m := 2) (by omega) e2
            have : j = 0 ∨ j = 1 ∨ j = 2 := by omega
            rcases this with rfl | rfl | rfl
            · exact Or.inl rfl
            · exact Or.inr (Or.inl rfl)
            · exact Or.inr (Or.inr rfl)
          have hN := W.2.2.2
          have Wn := M.1
          -- the class
          have W1 : Wc (wR h 22 (va_up (aR h 22) d none)) := W.wR22 (Or.inl rfl)
          have mz : mmax 0 (i32 z) = i32 z := by
            unfold mmax
            by_cases y : (0 : Int32) < i32 z
            · rw [if_pos y]
            · rw [if_neg y]
              exact Int32.le_antisymm a2 (Int32.not_lt.mp y)
          have cl : ∃ h1, ((gR h (some 0) [11] 4).bind fun t3 => (rS h t3 2 GF (i32 d) none).bind fun h4 => (gR h4 (some 0) [11] 5).bind fun t5 => bd (nO h4 7 2) fun a6 h7 => bd (nn a6 (f_X7_init a6 v2 (i32 z) h7)) fun u9 h8 => (rS h8 t5 3 [7] (i32 d) a6).bind fun h10 => some ((0 : Int32), h10)) = some (0, h1) ∧ (aN h1 = aN h + 2 ∧ aS h1 = aS h + 2 + z) ∧ (∀ c, c < aN h → aT h1 c = aT h c ∧ aI h1 c = aI h c ∧ (c ≠ 22 → c ≠ 23 → aR h1 c = aR h c) ∧ aL h1 c = aL h c) ∧ aR h1 22 = va_up (aR h 22) d none ∧ aR h1 23 = va_up (aR h 23) d (some (aN h)) ∧ Rw h1 (aN h) v2 (aN h + 1) z ∧ ∀ j, aI h1 (aN h + 1) j = 0 := by
            rw [W.o4, sb_some, rS_22 W hd fits_none, sb_some, W1.o5, sb_some]
            unfold nO f_X7_init nA
            have t7 : aT (nwH (wR h 22 (va_up (aR h 22) d none)) (.inr 7) 2) (aN h) = some (.inr 7) := nwH_t (h := wR h 22 (va_up (aR h 22) d none))
            have eN : aN (wR h 22 (va_up (aR h 22) d none)) = aN h := rfl
            rw [bd_some, eN, nn_some, if_neg (fun y => nomatch y), pI_1' t7, sb_some, mz, if_neg (show ¬ (i32 z < 0 ∨ 1000000 < (i32 z).toNatClampNeg) by
              rw [i32_cl (by omega)]
              rintro (y | y)
              · exact i32_nn (by omega) y
              · omega), bd_some, i32_cl (by omega)]
            obtain ⟨h2, e2⟩ : ∃ h2, h2 = wI (nwH (wR h 22 (va_up (aR h 22) d none)) (.inr 7) 2) (aN h) (va_up (aI (nwH (wR h 22 (va_up (aR h 22) d none)) (.inr 7) 2) (aN h)) 0 v2) := ⟨_, rfl⟩
            rw [← e2]
            have n2 : aN h2 = aN h + 1 := by rw [e2]; rfl
            have s2 : aS h2 = aS h + 2 := by rw [e2]; rfl
            have o2 : ∀ c, c < aN h → aT h2 c = aT h c ∧ aI h2 c = aI h c ∧ aR h2 c = aR (wR h 22 (va_up (aR h 22) d none)) c ∧ aL h2 c = aL h c := fun c hc => by
              have o := nwH_o (h := wR h 22 (va_up (aR h 22) d none)) (t := .inr 7) (m := 2) (c := c) hc
              rw [e2]
              exact ⟨o.1, (aI_ne (Nat.ne_of_lt hc)).trans o.2.1, o.2.2⟩
            have t2 : aT h2 (aN h) = some (.inr 7) := by rw [e2]; exact t7
            have i2 : aI h2 (aN h) 0 = v2 := by rw [e2, aI_eq, up_eq]
            obtain ⟨h3, e3⟩ : ∃ h3, h3 = nwH h2 (.inl (0, z)) z := ⟨_, rfl⟩
            rw [← e3, n2]
            have o3 : ∀ c, c < aN h + 1 → aT h3 c = aT h2 c ∧ aI h3 c = aI h2 c ∧ aR h3 c = aR h2 c ∧ aL h3 c = aL h2 c := fun c hc => by
              rw [e3]; exact nwH_o (by rw [n2]; exact hc)
            have t3 : aT h3 (aN h + 1) = some (.inl (0, z)) := by
              have := nwH_t (h := h2) (t := .inl (0, z)) (m := z)
              rw [n2] at this
              rw [e3]; exact this
            have z3 : ∀ j, aI h3 (aN h + 1) j = 0 := fun j => by
              have : aI (nwH h2 (.inl (0, z)) z) (aN h2) = fun _ => 0 := up_eq _ _ _
              rw [n2] at this
              rw [e3, this]
            have n3 : aN h3 = aN h + 2 := by rw [e3]; show aN h2 + 1 = _; omega
            have s3 : aS h3 = aS h + 2 + z := by rw [e3]; show aS h2 + z = _; omega
            rw [pR_1' (show aT h3 (aN h) = some (.inr 7) by rw [(o3 _ (by omega)).1]; exact t2), sb_some, bd_some]
            have t23 : aT (wR h3 (aN h) (va_up (aR h3 (aN h)) 1 (some (aN h + 1)))) 23 = some (.inl (3, 8)) := by
              show aT h3 23 = _
              rw [(o3 23 (by omega)).1, (o2 23 (by omega)).1]; exact W.1.2.2.1
            have tf : fits1 (wR h3 (aN h) (va_up (aR h3 (aN h)) 1 (some (aN h + 1)))) [7] (some (aN h)) = true := by
              unfold fits1
              have : aT (wR h3 (aN h) (va_up (aR h3 (aN h)) 1 (some (aN h + 1)))) (aN h) = some (.inr 7) := by
                show aT h3 (aN h) = _
                rw [(o3 _ (by omega)).1]; exact t2
              simp only [this]
              rfl
            rw [rS_ok t23 hd (by omega) tf, sb_some]
            refine ⟨_, rfl, ⟨n3, s3⟩, fun c hc => ?_, ?_, ?_, ⟨⟨by omega, by show aN h < aN h3; omega, by omega, by show aN h + 1 < aN h3; omega⟩, ?_, ?_, ?_, t3⟩, z3⟩
            · obtain ⟨x1, x2, x3, x4⟩ := o2 c hc
              obtain ⟨y1, y2, y3, y4⟩ := o3 c (by omega)
              refine ⟨y1.trans x1, y2.trans x2, fun c22 c23 => ?_, y4.trans x4⟩
              rw [aR_ne c23, aR_ne (Nat.ne_of_lt hc), y3, x3, aR_ne c22]
            · rw [aR_ne (by omega), aR_ne (by omega), (o3 22 (by omega)).2.2.1, (o2 22 (by omega)).2.2.1, aR_eq]
            · rw [aR_eq, aR_ne (by omega), (o3 23 (by omega)).2.2.1, (o2 23 (by omega)).2.2.1, aR_ne (by omega)]
            · show aT h3 (aN h) = _
              rw [(o3 _ (by omega)).1]; exact t2
            · show aI h3 (aN h) 0 = _
              rw [(o3 _ (by omega)).2.1]; exact i2
            · rw [aR_ne (by omega), aR_eq, up_eq]
          obtain ⟨h1, c1, ⟨c2, c2s⟩, c3, c4, c5, c6, c7⟩ := cl
          -- the reference
          obtain ⟨q, q1, q2, q3⟩ := m_row_b55 hd 100 FU 0 (wI (wI (wI h' 34 (va_up (aI h' 34) d 2)) 37 (va_up (aI h' 37) d v2)) 38 (va_up (aI h' 38) d (i32 z))) Wn (fu_pos (by omega)) (by omega)
          have mr : ((gR h' (some 26) [12] 12).bind fun t5 => (iS h' t5 (i32 d) 2).bind fun h6 => (gR h6 (some 26) [12] 15).bind fun t7 => (iS h6 t7 (i32 d) v2).bind fun h8 => (gR h8 (some 26) [12] 16).bind fun t9 => (iS h8 t9 (i32 d) (i32 z)).bind fun h10 => f_X12_row_b55 FU (some 26) (i32 d) 0 h10) = some (0, wI (wI (wI (wI h' 34 (va_up (aI h' 34) d 2)) 37 (va_up (aI h' 37) d v2)) 38 (va_up (aI h' 38) d (i32 z))) 39 q) := by
            have W2 : ∀ c f, Wm (wI h' c f) := fun _ _ => Wn
            have W3 : ∀ c f c2 f2, Wm (wI (wI h' c f) c2 f2) := fun _ _ _ _ => Wn
            rw [Wn.o12, sb_some, iS_ok Wn.2.2.1.1 hd (by omega), sb_some, (W2 _ _).o15, sb_some, iS_ok (W2 _ _).2.2.1.2.2.2.1 hd (by omega), sb_some, (W3 _ _ _ _).o16, sb_some, iS_ok (W3 _ _ _ _).2.2.1.2.2.2.2.1 hd (by omega), sb_some, aI_ne (show 37 ≠ 34 by omega), aI_ne (show 38 ≠ 37 by omega), aI_ne (show 38 ≠ 34 by omega)]
            exact q1
          rw [aI_ne (show 39 ≠ 38 by omega), aI_ne (show 39 ≠ 37 by omega), aI_ne (show 39 ≠ 34 by omega), show aI h' 39 = p.2.2.2.2.2 5 from m_k M 5 (by omega)] at q2
          have FQ : ∀ c, c < 22 → aT h1 c = aT h c ∧ aI h1 c = aI h c ∧ aR h1 c = aR h c := fun c hc => ⟨(c3 c (by omega)).1, (c3 c (by omega)).2.1, (c3 c (by omega)).2.2.1 (by omega) (by omega)⟩
          have gk1 : ∀ k κ f, Gst h k κ f → Gst h1 k κ f := fun k κ f G => by
            obtain ⟨x0, x, x1, x2, x3⟩ := G
            exact ⟨by omega, x, by rw [(c3 k x0).1]; exact x1, x2, by rw [(c3 k x0).2.1]; exact x3⟩
          have hsk : ∀ b n s, b + 5 < 22 → Hs h b n s → Hs h1 b n s := fun b n s hb H => by
            refine ⟨?_, ?_, fun g hg => ?_⟩
            · unfold Hty
              rw [(FQ b (by omega)).1, (FQ (b + 1) (by omega)).1, (FQ (b + 2) (by omega)).1, (FQ (b + 3) (by omega)).1, (FQ (b + 4) (by omega)).1, (FQ (b + 5) (by omega)).1, (FQ b (by omega)).2.2]
              exact ⟨H.1.1, H.1.2.1, by omega⟩
            · unfold SC
              rw [(FQ b (by omega)).2.1]
              exact H.2.1
            · obtain ⟨⟨k, x0, x1⟩, x2⟩ := H.2.2 g hg
              unfold PG
              rw [(FQ (b + 1) (by omega)).2.2, (FQ (b + 2) (by omega)).2.1, (FQ (b + 3) (by omega)).2.1, (FQ (b + 4) (by omega)).2.1, (FQ (b + 5) (by omega)).2.1]
              exact ⟨⟨k, x0, gk1 _ _ _ x1⟩, x2⟩
          have htk : ∀ b, b + 5 < 22 → Hty h b → Hty h1 b := fun b hb T => by
            unfold Hty
            rw [(FQ b (by omega)).1, (FQ (b + 1) (by omega)).1, (FQ (b + 2) (by omega)).1, (FQ (b + 3) (by omega)).1, (FQ (b + 4) (by omega)).1, (FQ (b + 5) (by omega)).1, (FQ b (by omega)).2.2]
            exact ⟨T.1, T.2.1, by omega⟩
          have Wh1 : Wc h1 := by
            obtain ⟨⟨x0, x1, x2, x3, x4⟩, y, ⟨t1, t2, t3⟩, -⟩ := W
            refine ⟨⟨by rw [(c3 0 (by omega)).1]; exact x0, by rw [(c3 22 (by omega)).1]; exact x1, by rw [(c3 23 (by omega)).1]; exact x2, by rw [(c3 24 (by omega)).1]; exact x3, by rw [(c3 25 (by omega)).1]; exact x4⟩, ?_, ⟨htk 1 (by omega) t1, htk 8 (by omega) t2, htk 15 (by omega) t3⟩, by omega⟩
            rw [(FQ 0 (by omega)).2.2]
            exact y
          refine UU.shelf P 0 (κ' := fun i => if i = 5 then q else upκ (upκ (upκ p.2.2.2.2.2 0 d 2) 3 d v2) 4 d (i32 z) i) Wh1 (hsk 1 _ _ (by omega) P.1.1.2.1) (hsk 15 _ _ (by omega)) (FQ 0 (by omega)).2.1 ?_ ?_ ?_ ?_ ?_ c1 mr
          · refine P.1.2.2.set (h2 := h1) (d := d) ⟨by omega, gk1, fun c cc1 cc2 => ⟨(c3 c cc2).1, (c3 c cc2).2.1, (c3 c cc2).2.2.1 (by omega) (by omega)⟩⟩ (fun j hj => by rw [c4, up_ne hj]) (fun j hj => by rw [c5, up_ne hj]) (fun i hi j hj => ?_) (fun j hj1 hj2 i hi => ?_) ?_ (fun r e er ee => ?_)
            · have hi5 : i = 0 ∨ i = 1 ∨ i = 2 ∨ i = 3 ∨ i = 4 := by omega
              rcases hi5 with rfl | rfl | rfl | rfl | rfl
              · exact up_ne hj
              · rfl
              · rfl
              · exact up_ne hj
              · exact up_ne hj
            · exact q2 _ (by omega)
            · refine Or.inr (Or.inr ⟨up_eq _ _ _, by rw [c4, up_eq], ?_, aN h, aN h + 1, z, by rw [c5, up_eq], ?_, up_eq _ _ _, hz, fun j hj => ?_⟩)
              · show va_up _ d v2 d = 0 ∨ va_up _ d v2 d = 1 ∨ va_up _ d v2 d = 2
                rw [up_eq]; exact s3
              · show Rw h1 (aN h) (va_up _ d v2 d) (aN h + 1) z
                rw [up_eq]; exact c6
              · rw [c7 j]
                refine ⟨(q3 j (by omega) (by omega)).symm, fun _ => ?_⟩
                show Int8.toInt32 (Int32.toInt8 (q (100 * d + j))) = q (100 * d + j)
                rw [q3 j (by omega) (by omega)]
                decide
            · rw [c5, up_eq] at er
              cases er
              rw [c6.2.2.2.1] at ee
              cases ee
              omega
          · exact ⟨⟨by omega, by omega, by omega, by omega⟩, fun c cc1 cc2 => ⟨(c3 c (by omega)).1, (c3 c (by omega)).2.1, (c3 c (by omega)).2.2.1 (by omega) (by omega), (c3 c (by omega)).2.2.2⟩⟩
          · exact ⟨⟨rfl, rfl, rfl, rfl⟩, fun c hc => by rw [aI_ne (by omega), aI_ne (by omega), aI_ne (by omega), aI_ne (by omega)]⟩
          · intro c hc
            rw [aI_ne (by omega), aI_ne (by omega), aI_ne (by omega), aI_ne (by omega)]
          · intro i hi
            have hi5 : i = 0 ∨ i = 1 ∨ i = 2 ∨ i = 3 ∨ i = 4 ∨ i = 5 := by omega
            have k := m_k M
            rcases hi5 with rfl | rfl | rfl | rfl | rfl | rfl
            · rw [aI_ne (by omega), aI_ne (by omega), aI_ne (by omega), aI_eq]; exact congrArg (fun q => va_up q d 2) (k 0 (by omega))
            · rw [aI_ne (by omega), aI_ne (by omega), aI_ne (by omega), aI_ne (by omega)]; exact k 1 (by omega)
            · rw [aI_ne (by omega), aI_ne (by omega), aI_ne (by omega), aI_ne (by omega)]; exact k 2 (by omega)
            · rw [aI_ne (by omega), aI_ne (by omega), aI_eq]; exact congrArg (fun q => va_up q d v2) (k 3 (by omega))
            · rw [aI_ne (by omega), aI_eq]; exact congrArg (fun q => va_up q d (i32 z)) (k 4 (by omega))
            · rw [aI_eq]; rfl
        · rw [if_neg a2, if_neg a2]
          exact UU.same P (-14) rfl rfl
      · rw [if_neg a1, if_neg a1]
        exact UU.same P (-1) rfl rfl
end SHELF2
