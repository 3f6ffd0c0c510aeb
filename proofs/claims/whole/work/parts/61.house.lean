/-! HOUSE -/
section HOUSE
variable {h h' : AH} {a r e z d : Nat} {c : Nat → Nat}
theorem ten_i (x y : Nat) : (10 : Int32) * i32 x + i32 y = i32 (10 * x + y) := by
  rw [show (10 : Int32) = i32 10 from rfl, i32_mul, i32_add]
theorem TX.two {h : AH} (x : TX h a r e z c) {q : Nat} (hq : q + 1 < 2000) : f_X10_twoDigits (some a) (i32 q) h = some (10 * (b8 (tx z c q) - 48) + (b8 (tx z c (q + 1)) - 48), h) := by
  unfold f_X10_twoDigits
  rw [cv_ok x.1.2.2.1, x.digit (by omega), bd_some, i32_s, cv_ok x.1.2.2.1, x.digit (by omega), bd_some]
theorem beh_in {k : Nat} (hb : beh k ≠ 0) : k = 98 ∨ k = 100 ∨ k = 103 ∨ k = 108 ∨ k = 115 ∨ k = 116 := by
  by_cases k1 : k = 98
  · exact Or.inl k1
  · by_cases k2 : k = 100
    · exact Or.inr (Or.inl k2)
    · by_cases k3 : k = 103
      · exact Or.inr (Or.inr (Or.inl k3))
      · by_cases k4 : k = 108
        · exact Or.inr (Or.inr (Or.inr (Or.inl k4)))
        · by_cases k5 : k = 115
          · exact Or.inr (Or.inr (Or.inr (Or.inr (Or.inl k5))))
          · by_cases k6 : k = 116
            · exact Or.inr (Or.inr (Or.inr (Or.inr (Or.inr k6))))
            · exfalso
              apply hb
              unfold beh
              rw [if_neg k1, if_neg k2, if_neg k3, if_neg k4, if_neg k5, if_neg k6]
theorem EX_all {h1 hx : AH} {nn p : Nat} {u : R54} {p3 : Nat × R54 × Int32 × (Nat → R54)} (x : TX h1 a r e z c) (W : Wc h1) (H : Hs h1 8 nn u) (O : Ok nn u) (L : LW nn u) (M : MDL hx (nn, u, p3)) (hp : p < z) (hb : beh (c p) ≠ 0) (hf : flw z c p = p + beh (c p) + 2) (hN : nums c p (aI hx 31)) : EX nn u h1 hx (f_X10_follow (some a) (some 8) (i32 p) h1) (f_X12_isDone (some 26) (i32 (c p)) hx) := by
  have hz := x.2.1.2.1
  have hc := x.2.2 p
  have b4 := beh_4 (c p)
  obtain ⟨f1, f2, -, -⟩ := flw_le (c := c) hp
  obtain ⟨f3, f4⟩ := f2 hf
  have dd : ∀ j, p < j → j < p + beh (c p) + 1 → b8 (tx z c j) - 48 = dv c j ∧ c j - 48 ≤ 9 := fun j j1 j2 => by
    have q := f4 j j1 j2
    have t : tx z c j = c j := if_pos (by omega)
    rw [t]
    refine ⟨(b8_d _ (x.2.2 j) q).1, ?_⟩
    unfold dgt at q
    simp only [Bool.and_eq_true, decide_eq_true_eq] at q
    omega
  obtain ⟨n0, n1, n2⟩ := hN
  have i0 : iA hx (some 31) 0 = some (aI hx 31 0) := iA_ok M.1.2.1.1 (show 0 < 3 by omega) (by omega)
  have i1 : iA hx (some 31) 1 = some (aI hx 31 1) := iA_ok M.1.2.1.1 (show 1 < 3 by omega) (by omega)
  have i2 : iA hx (some 31) 2 = some (aI hx 31 2) := iA_ok M.1.2.1.1 (show 2 < 3 by omega) (by omega)
  have t0 : tx z c p = c p := if_pos hp
  have p2 : i32 p + 2 = i32 (p + 2) := i32_add p 2
  have p3' : i32 p + 3 = i32 (p + 3) := i32_add p 3
  obtain ⟨l1, l2, l3, l4, l5, l6, -⟩ := i32_l _ hc
  unfold f_X10_follow f_X12_isDone
  rw [i32_s, cv_ok x.1.2.2.1, x.digit (by omega), bd_some, p2, cv_ok x.1.2.2.1, x.digit (by omega), bd_some, x.g0, sb_some, cv_ok x.2.1.1.2.1, x.at (by omega), bd_some, t0, M.1.o8, sb_some, i0, sb_some, sb_some, i1, sb_some, sb_some, i2, sb_some]
  simp only [b8_98 _ hc, b8_100 _ hc, b8_103 _ hc, b8_108 _ hc, b8_115 _ hc, b8_116 _ hc, l1, l3, l4, l5, l6, cv_ok x.1.2.2.1, p3', x.two (q := p + 1) (by omega), x.two (q := p + 3) (by omega), bd_some]
  rcases beh_in hb with k | k | k | k | k | k
  · have b2 : beh (c p) = 2 := by rw [k]; rfl
    obtain ⟨d1, e1⟩ := dd (p + 1) (by omega) (by omega)
    obtain ⟨d2, e2⟩ := dd (p + 2) (by omega) (by omega)
    rw [if_pos k, if_pos k, n0, n1 (by omega) (by omega), if_neg (show ¬ c p = 100 by omega), d1, d2]
    exact (EX_b W H O L M e1 e2).rb
  · have b2 : beh (c p) = 2 := by rw [k]; rfl
    obtain ⟨d1, e1⟩ := dd (p + 1) (by omega) (by omega)
    obtain ⟨d2, e2⟩ := dd (p + 2) (by omega) (by omega)
    rw [if_neg (show ¬ c p = 98 by omega), if_pos k, if_neg (show ¬ c p = 98 by omega), if_neg (show ¬ c p = 103 by omega), if_neg (show ¬ c p = 108 by omega), if_neg (show ¬ c p = 115 by omega), if_neg (show ¬ c p = 116 by omega), n0, if_pos k, d1, show p + 1 + 1 = p + 2 from rfl, d2]
    exact (EX_d W H O L M _).rb
  · have b2 : beh (c p) = 4 := by rw [k]; rfl
    obtain ⟨d1, e1⟩ := dd (p + 1) (by omega) (by omega)
    obtain ⟨d2, e2⟩ := dd (p + 2) (by omega) (by omega)
    obtain ⟨d3, e3⟩ := dd (p + 3) (by omega) (by omega)
    obtain ⟨d4, e4⟩ := dd (p + 4) (by omega) (by omega)
    rw [if_neg (show ¬ c p = 98 by omega), if_neg (show ¬ c p = 100 by omega), if_pos k, if_neg (show ¬ c p = 98 by omega), if_pos k, n0, n1 (by omega) (by omega), n2 (Or.inl k), if_neg (show ¬ c p = 100 by omega), d1, d2, d3, show p + 3 + 1 = p + 4 from rfl, d4, show 10 * dv c (p + 3) + dv c (p + 4) = i32 (10 * (c (p + 3) - 48) + (c (p + 4) - 48)) from ten_i _ _]
    exact (EX_g W H O L M e1 e2 (by omega)).rb
  · have b2 : beh (c p) = 4 := by rw [k]; rfl
    obtain ⟨d1, e1⟩ := dd (p + 1) (by omega) (by omega)
    obtain ⟨d2, e2⟩ := dd (p + 2) (by omega) (by omega)
    obtain ⟨d3, e3⟩ := dd (p + 3) (by omega) (by omega)
    obtain ⟨d4, e4⟩ := dd (p + 4) (by omega) (by omega)
    rw [if_neg (show ¬ c p = 98 by omega), if_neg (show ¬ c p = 100 by omega), if_neg (show ¬ c p = 103 by omega), if_pos k, if_neg (show ¬ c p = 98 by omega), if_neg (show ¬ c p = 103 by omega), if_pos k, n0, n1 (by omega) (by omega), n2 (Or.inr k), if_neg (show ¬ c p = 100 by omega), d1, d2, d3, show p + 3 + 1 = p + 4 from rfl, d4]
    exact (EX_l W H O L M _ _ _).rb
  · have b2 : beh (c p) = 2 := by rw [k]; rfl
    obtain ⟨d1, e1⟩ := dd (p + 1) (by omega) (by omega)
    obtain ⟨d2, e2⟩ := dd (p + 2) (by omega) (by omega)
    rw [if_neg (show ¬ c p = 98 by omega), if_neg (show ¬ c p = 100 by omega), if_neg (show ¬ c p = 103 by omega), if_neg (show ¬ c p = 108 by omega), if_pos k, if_neg (show ¬ c p = 98 by omega), if_neg (show ¬ c p = 103 by omega), if_neg (show ¬ c p = 108 by omega), if_pos k, n0, n1 (by omega) (by omega), if_neg (show ¬ c p = 100 by omega), d1, d2]
    exact (EX_s W H O L M _ e2).rb
  · have b2 : beh (c p) = 1 := by rw [k]; rfl
    obtain ⟨d1, e1⟩ := dd (p + 1) (by omega) (by omega)
    rw [if_neg (show ¬ c p = 98 by omega), if_neg (show ¬ c p = 100 by omega), if_neg (show ¬ c p = 103 by omega), if_neg (show ¬ c p = 108 by omega), if_neg (show ¬ c p = 115 by omega), if_pos k, if_neg (show ¬ c p = 98 by omega), if_neg (show ¬ c p = 103 by omega), if_neg (show ¬ c p = 108 by omega), if_neg (show ¬ c p = 115 by omega), if_pos k, n0, if_neg (show ¬ c p = 100 by omega), d1]
    exact (EX_t W H O L M _).rb
theorem le100 {t : Nat} (ht : t < 100) : ¬ (100 : Int32) ≤ i32 t := by
  rw [show (100 : Int32) = i32 100 from rfl, i32_le (by omega) (by omega)]
  omega
theorem m1000 : ∀ j, j < 101 → ¬ ((-1000 : Int32) - i32 j = 0) := by decide +kernel
theorem m2000 : ∀ j, j < 101 → ¬ ((-2000 : Int32) - i32 j = 0) := by decide +kernel
/-- a fault of kind 1, or none: both worlds look -/
theorem R_scan (x : TX h a r e z c) : ∀ (k m m' p cnt t : Nat) (h' : AH), RT h' d z c p → 2 * t ≤ p → p < z → z ≤ p + k → k < m → k < m' → ∃ v w cnt' N q, f_X10_firstFlaw_b16 m (some a) (i32 p) (i32 t) h = some (v, h) ∧ f_X12_house_b41 m' (some 26) (i32 cnt) 0 h' = f_X12_house_b77 (some 26) (i32 cnt') w (GR h' N q) ∧ q ≤ z ∧ ((v = -1 ∧ w = 0 ∧ ∃ n, cnt' = cnt + n ∧ n ≤ k ∧ good z c p n) ∨ (∃ j, j ≤ 100 ∧ v = i32 j ∧ w = -1000 - i32 j)) := by
  intro k
  induction k with
  | zero => intro m m' p cnt t h' _ _ h1 h2; omega
  | succ k ih =>
    intro m m' p cnt t h' R ht hp hk hm hm'
    obtain ⟨m, rfl⟩ := succ_of hm
    obtain ⟨m', rfl⟩ := succ_of hm'
    have hz := x.2.1.2.1
    have b4 := beh_4 (c p)
    obtain ⟨f1, f2, f3, f4⟩ := flw_le (c := c) hp
    obtain ⟨N, r0, r1⟩ := m_reads R hp
    have M := R.1
    rw [e_X10_firstFlaw_b16, if_neg (le100 (t := t) (by omega)), x.g0, sb_some, cv_ok x.2.1.1.2.1, x.size, bd_some, if_neg (show ¬ i32 z ≤ i32 p by rw [i32_le (by omega) (by omega)]; omega), cv_ok x.1.2.2.1, c_flawIn x hp, bd_some, e_X12_house_b41, cv_ok M.1.1]
    have bad : ∀ q, q ≤ 100 → q ≤ z → f_X12_readsStatement (some 26) h' = some (0, GR h' N q) → ∃ v w cnt' N q', (if i32 q < 0 then bd (cv h (some a) 10 (f_X10_lengthAt (some a) (i32 p) h)) fun r10 h9 => nm (i32 p + r10) fun t11 => f_X10_firstFlaw_b16 m (some a) t11 (i32 t + 1) h9 else some (i32 q, h)) = some (v, h) ∧ (bd (f_X12_readsStatement (some 26) h') fun r9 h8 => if r9 = 0 then (gI h8 (some 26) [12] 5).bind fun t31 => nm ((-1000) - t31) fun t32 => f_X12_house_b58 (f_X12_house_b41 m') (some 26) (i32 cnt) t32 h8 else f_X12_house_b58 (f_X12_house_b41 m') (some 26) (i32 cnt) 0 h8) = f_X12_house_b77 (some 26) (i32 cnt') w (GR h' N q') ∧ q' ≤ z ∧ ((v = -1 ∧ w = 0 ∧ ∃ n, cnt' = cnt + n ∧ n ≤ k + 1 ∧ good z c p n) ∨ (∃ j, j ≤ 100 ∧ v = i32 j ∧ w = -1000 - i32 j)) := by
      intro q q1 q2 er
      have Mq : Wm (GR h' N q) := M
      refine ⟨i32 q, -1000 - i32 q, cnt + 1, N, q, if_neg (i32_nn (by omega)), ?_, q2, Or.inr ⟨q, q1, rfl, rfl⟩⟩
      rw [er, bd_some, if_pos rfl, gI_1 Mq.1.1, sb_some, GR_5, nm_eq]
      unfold f_X12_house_b58
      rw [if_neg (m1000 q (by omega)), i32_s]
    by_cases b0 : beh (c p) = 0
    · rw [if_pos b0]
      exact bad p (by omega) (by omega) (r0 b0)
    · obtain ⟨r2, r3⟩ := r1 b0
      rw [if_neg b0]
      by_cases ff : flw z c p = p + beh (c p) + 2
      · obtain ⟨f5, f6⟩ := f2 ff
        rw [if_pos ff, if_pos (show (-1 : Int32) < 0 by decide), cv_ok x.1.2.2.1, x.len (by omega), bd_some, nm_eq, i32_add, show tx z c p = c p from if_pos hp, show p + (2 + beh (c p)) = p + beh (c p) + 2 by omega, r2, decide_eq_true ff, ff, bd_some, if_neg (show ¬ bI true = 0 from nb1)]
        unfold f_X12_house_b58
        have R2 : RT (GR h' N (p + beh (c p) + 2)) d z c (p + beh (c p) + 2) := GR_r (N := N) R f5
        rw [if_pos rfl, gI_1 R2.1.1.1, sb_some, gI_1 R2.1.1.1, sb_some, R2.2.1.1, R2.2.1.2.2, i32_s cnt, i32_s t]
        by_cases y : p + beh (c p) + 2 < z
        · rw [if_pos (show i32 (p + beh (c p) + 2) < i32 z by rw [i32_lt (by omega) (by omega)]; exact y)]
          obtain ⟨v, w, cnt', N', q, e1, e2, e3, e4⟩ := ih m m' (p + beh (c p) + 2) (cnt + 1) (t + 1) _ R2 (by omega) y (by omega) (by omega) (by omega)
          refine ⟨v, w, cnt', N', q, e1, by rw [e2, GR_GR], e3, ?_⟩
          rcases e4 with ⟨y1, y2, n, y3, y4, y5⟩ | e4
          · exact Or.inl ⟨y1, y2, n + 1, by omega, by omega, hp, b0, ff, y5⟩
          · exact Or.inr e4
        · rw [if_neg (show ¬ i32 (p + beh (c p) + 2) < i32 z by rw [i32_lt (by omega) (by omega)]; exact y)]
          obtain ⟨m, rfl⟩ : ∃ m2, m = m2 + 1 := ⟨m - 1, by omega⟩
          have pz : p + beh (c p) + 2 = z := by omega
          refine ⟨-1, 0, cnt + 1, N, _, ?_, rfl, f5, Or.inl ⟨rfl, rfl, 1, rfl, by omega, hp, b0, ff, pz⟩⟩
          rw [e_X10_firstFlaw_b16, if_neg (le100 (t := t + 1) (by omega)), x.g0, sb_some, cv_ok x.2.1.1.2.1, x.size, bd_some, if_pos (show i32 z ≤ i32 (p + beh (c p) + 2) by rw [i32_le (by omega) (by omega)]; omega)]
      · rw [if_neg ff]
        rw [decide_eq_false ff] at r2
        exact bad _ (by omega) f3 r2
theorem FM.tr {h h1 h2 : AH} (x : FM h h1) (y : FM h1 h2) : FM h h2 :=
  ⟨⟨y.1.1.trans x.1.1, y.1.2.1.trans x.1.2.1, y.1.2.2.1.trans x.1.2.2.1, y.1.2.2.2.trans x.1.2.2.2⟩, fun c hc => (y.2 c hc).trans (x.2 c hc)⟩
theorem FM.w {h : AH} {k : Nat} {f : Nat → Int32} (hk : 26 ≤ k ∧ k < 40) : FM h (wI h k f) := ⟨⟨rfl, rfl, rfl, rfl⟩, fun c hc => aI_ne (by omega)⟩
theorem Fm.gr {h : AH} {N : Nat → Int32} {q : Nat} : Fm h (GR h N q) := by
  have e : aI h 26 = aI (wI h 31 N) 26 := (aI_ne (by omega)).symm
  unfold GR
  rw [e]
  exact (Fm.w31 (f := N)).tr (Fm.w26 (by omega))
/-- the reference's house is another -/
theorem MDL.h27 {h : AH} {n n' : Nat} {u u' : R54} {p3 : Nat × R54 × Int32 × (Nat → R54)} (M : MDL h (n, u, p3)) (hu : hi u' u) : MDL (wI h 27 u') (n', u', p3) := by
  obtain ⟨W, ⟨m1, m2, m3, m4⟩, m5, m6, m7⟩ := M
  refine ⟨W, ⟨aI_eq, (aI_ne (by omega)).trans m2, by rw [aI_ne (by omega)]; exact m3, fun i hi => (aI_ne (by omega)).trans (m4 i hi)⟩, ?_, m6.tr hu.sy, ?_⟩
  · rw [aI_ne (by omega)]; exact m5.tr hu.sy
  · rw [aI_ne (by omega)]; exact m7.tr hu.sy
theorem RT.w27 {h : AH} {q : Nat} {f : R54} (R : RT h d z c q) : RT (wI h 27 f) d z c q := by
  obtain ⟨W, ⟨a1, a2, a3⟩, b, e⟩ := R
  refine ⟨W, ?_, b, fun j hj => ⟨(e j hj).1, by rw [aI_ne (by omega)]; exact (e j hj).2⟩⟩
  rw [aI_ne (by omega)]
  exact ⟨a1, a2, a3⟩
theorem U_follow {p0 : ST} (P : PS p0 h h') {tot : Nat} : ∀ (n m m' p x5 nn : Nat) (u : R54) (h1 hx : AH), TX h1 a r e z c → CLS h1 p0 → Hs h1 8 nn u → Ok nn u → LW nn u → MDL hx (nn, u, p0.2.2) → RT hx d z c p → aI hx 30 = p0.2.1 → hi u p0.2.1 → Fq (1 + nn) h h1 → FM h' hx → good z c p n → n < m → n + 1 < m' → x5 + n = tot → 2 * x5 ≤ p → UU h h' (f_X11_house_b79 m (some 0) (some r) (some a) (i32 x5) (i32 p) h1) (f_X12_house_b93 m' (some 26) (i32 tot) 0 hx) := by
  intro n
  induction n with
  | zero =>
    intro m m' p x5 nn u h1 hx x C H O L M R e30 hh F G g hm hm' ht h5
    obtain ⟨m, rfl⟩ := succ_of hm
    obtain ⟨m', rfl⟩ := succ_of hm'
    have hz := x.2.1.2.1
    have W := C.1.1
    have pz : p = z := g
    have zz : i32 z ≤ i32 z := by rw [i32_le (by omega) (by omega)]; omega
    obtain ⟨h2, a1, H2, F2⟩ := k_becomes (b := 1) (b2 := 8) (by omega) W.2.2.1.1 H O.1.2.1
    have P1 : PS p0 h1 (wI hx 27 p0.2.1) := ⟨C, M.h27 hh.sy⟩
    have M27 : aI hx 27 = u := M.2.1.1
    have U := UU.house (o := some (i32 tot, h2)) (o' := some (i32 tot, wI (wI hx 27 p0.2.1) 27 u)) P1 (i32 tot) H2 F2 O L hh rfl rfl
    obtain ⟨r', h2', hF', p', e1, e2, C', M', -, -⟩ := U
    cases e1
    cases e2
    rw [wI_wI, ← M27, wI_self] at M'
    refine ⟨i32 tot, h2, hx, p', ?_, ?_, C', M', ?_, G⟩
    · rw [e_X11_house_b79, if_neg (le100 (t := x5) (by omega)), cv_ok x.2.1.1.2.1, x.size, bd_some, pz, if_pos zz]
      unfold f_X11_house_b132
      rw [W.o0, sb_some, W.o1, sb_some, cv_ok W.2.2.1.1.1.1, a1, bd_some, show x5 = tot by omega]
    · rw [e_X12_house_b93, if_pos rfl, gI_1 M.1.1.1, sb_some, gI_1 M.1.1.1, sb_some, R.2.1.1, R.2.1.2.2, pz, if_pos zz]
      unfold f_X12_house_b161
      rw [if_pos rfl]
    · have nn7 := O.1.2.1
      have FC1 := F.c P.1.1.1 (by omega)
      have e1 : aN h2 = aN h1 := congrArg (fun q : Nat × Nat => q.1) F2.1
      have e2 : aS h2 = aS h1 := congrArg (fun q : Nat × Nat => q.2) F2.1
      refine ⟨by rw [e1, e2]; exact FC1.1, fun c c1 c2 => ?_⟩
      obtain ⟨y1, y2, y3, y4⟩ := FC1.2 c c1 c2
      exact ⟨by rw [F2.2.1]; exact y1, by rw [F2.2.2.2.1 c (by omega) (by omega) (by omega) (by omega) (by omega)]; exact y2, by rw [F2.2.2.2.2 c (by omega)]; exact y3, by rw [F2.2.2.1]; exact y4⟩
  | succ n ih =>
    intro m m' p x5 nn u h1 hx x C H O L M R e30 hh F G g hm hm' ht h5
    obtain ⟨m, rfl⟩ := succ_of hm
    obtain ⟨m', rfl⟩ := succ_of hm'
    obtain ⟨hp, b0, ff, g'⟩ := g
    have hz := x.2.1.2.1
    have W := C.1.1
    have b4 := beh_4 (c p)
    have nn7 := O.1.2.1
    have zp : ¬ i32 z ≤ i32 p := by rw [i32_le (by omega) (by omega)]; omega
    obtain ⟨f1, f2, f3, f4⟩ := flw_le (c := c) hp
    obtain ⟨f5, f6⟩ := f2 ff
    obtain ⟨N, -, r1⟩ := m_reads R hp
    obtain ⟨r2, r3⟩ := r1 b0
    rw [decide_eq_true ff, ff] at r2
    have M2 : MDL (GR hx N (p + beh (c p) + 2)) (nn, u, p0.2.2) := M.q Fm.gr
    have R2 : RT (GR hx N (p + beh (c p) + 2)) d z c (p + beh (c p) + 2) := GR_r (N := N) R f5
    have G2 : FM h' (GR hx N (p + beh (c p) + 2)) := G.tr (Fm.gr (N := N)).m
    have e30' : aI (GR hx N (p + beh (c p) + 2)) 30 = p0.2.1 := by
      unfold GR
      rw [aI_ne (by omega), aI_ne (by omega)]
      exact e30
    have X := EX_all x W H O L M2 hp b0 ff (by rw [GR_31]; exact r3 ff)
    rw [e_X11_house_b79, if_neg (le100 (t := x5) (by omega)), cv_ok x.2.1.1.2.1, x.size, bd_some, if_neg zp, W.o1, sb_some, cv_ok x.1.2.2.1, e_X12_house_b93, if_pos rfl, gI_1 M.1.1.1, sb_some, gI_1 M.1.1.1, sb_some, R.2.1.1, R.2.1.2.2, if_neg zp, sb_some, cv_ok M.1.1.1, m_here R, if_pos hp, bd_some, cv_ok M.1.1.1, r2, bd_some, cv_ok M2.1.1.1]
    rcases X with ⟨o1, o2⟩ | ⟨h2, nn', u', o1, o2, H', O', L', hu, hn, F'⟩
    · rw [o1, o2, bd_some, bd_some, if_pos rfl, if_pos rfl, nm_eq, M2.1.o3, sb_some, M2.1.o0, sb_some, m_copies (by omega) M2.1.1.2.2.2.2 M2.1.1.2.1 (by rw [M2.2.1.1, e30']; exact hh), bd_some, e30']
      obtain ⟨m', rfl⟩ := succ_of (show n + 1 < m' by omega)
      refine ⟨-2000 - i32 p, h1, wI (GR hx N (p + beh (c p) + 2)) 27 p0.2.1, p0, rfl, ?_, C, M2.h27 hh.sy, F.c P.1.1.1 (by omega), G2.tr (FM.w ⟨by omega, by omega⟩)⟩
      rw [e_X12_house_b93, if_neg (m2000 p (by omega))]
      unfold f_X12_house_b161
      rw [if_neg (m2000 p (by omega))]
    · have W2 := W.q F'
      have x2 : TX h2 a r e z c := x.kp (F'.kp W)
      rw [o1, o2, bd_some, bd_some, if_neg (by decide), if_neg (by decide), cv_ok x2.1.2.2.1, x2.len (by omega), bd_some, nm_eq, i32_add, show tx z c p = c p from if_pos hp, show p + (2 + beh (c p)) = p + beh (c p) + 2 by omega, i32_s]
      refine ih m m' (p + beh (c p) + 2) (x5 + 1) nn' u' h2 _ x2 (C.q F') H' O' L' (M2.h27 hu) R2.w27 (by rw [aI_ne (by omega)]; exact e30') (hu.tr hh) ?_ (G2.tr (FM.w ⟨by omega, by omega⟩)) g' (by omega) (by omega) (by omega) (by omega)
      have := F.tr F'
      rw [show 1 + nn + (nn' - nn) = 1 + nn' by omega] at this
      exact this
end HOUSE
