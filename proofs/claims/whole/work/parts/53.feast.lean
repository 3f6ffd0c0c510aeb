/-! FEASTS -/
section FEAST
variable {n : Nat} {s : R54} {h h' : AH}
theorem k_power5 {b K : Nat} (hb : b < 1000) (hK : K < 1000) : ∀ (k m i p : Nat), k < m → i + k = K → f_X11_power_b5 m (i32 b) (i32 K) (i64 p) (i32 i) h = some (i64 (p * b ^ k), h) := by
  intro k
  induction k with
  | zero =>
    intro m i p hm hi
    obtain ⟨m, rfl⟩ := succ_of hm
    rw [e_X11_power_b5, if_pos (by rw [i32_le (by omega) (by omega)]; omega), Nat.pow_zero, Nat.mul_one]
  | succ k ih =>
    intro m i p hm hi
    obtain ⟨m, rfl⟩ := succ_of hm
    rw [e_X11_power_b5, if_neg (by rw [i32_le (by omega) (by omega)]; omega), nm_eq, i64_32 (by omega), i64_mul, i32_s, ih m (i + 1) (p * b) (by omega) (by omega), Nat.pow_succ, Nat.mul_assoc, Nat.mul_comm b]
theorem k_power {b K : Nat} (hb : b < 1000) (hK : K < 1000) : f_X11_power (i32 b) (i32 K) h = some (i64 (b ^ K), h) := by
  have := k_power5 (h := h) hb hK K FU 0 1 (fu_pos (by omega)) (by omega)
  rw [Nat.one_mul] at this
  exact this
/-- the weight of the days i .. i + k - 1 -/
def pw (S b : Nat) : Nat → Nat → Nat
  | _, 0 => 1
  | i, k + 1 => (if S.testBit i then 1 else b) * pw S b (i + 1) k
theorem pw_end (S b : Nat) : ∀ (k i : Nat), pw S b i (k + 1) = pw S b i k * (if S.testBit (i + k) then 1 else b)
  | 0, i => by
    show _ * 1 = 1 * _
    rw [Nat.mul_one, Nat.one_mul]
    rfl
  | k + 1, i => by
    show _ * pw S b (i + 1) (k + 1) = _ * pw S b (i + 1) k * _
    rw [pw_end S b k (i + 1), Nat.mul_assoc, show i + 1 + k = i + (k + 1) by omega]
theorem pw_pow (S b : Nat) : ∀ N, pw S b 0 N = b ^ (N - cn S.testBit N)
  | 0 => rfl
  | N + 1 => by
    rw [pw_end, pw_pow S b N, Nat.zero_add]
    have hl := cn_le S.testBit N
    have e : cn S.testBit (N + 1) = cn S.testBit N + (if S.testBit N then 1 else 0) := rfl
    rw [e]
    by_cases c : S.testBit N = true
    · rw [if_pos c, if_pos c, Nat.mul_one]
      congr 1
      omega
    · rw [if_neg c, if_neg c, show N + 1 - (cn S.testBit N + 0) = (N - cn S.testBit N) + 1 by omega, Nat.pow_succ]
theorem brd_f : ∀ j, j < 10 → mmin 9 (i32 j + 3) = (if i32 j ≤ 6 then i32 j + 3 else 9) ∧ 0 ≤ mmin 9 (i32 j + 3) ∧ mmin 9 (i32 j + 3) ≤ i32 9 := by decide +kernel
/-- the board of a day -/
def brd (s : R54) (f : Bool) : Int32 := if f then mmin 9 (s 3 + 3) else s 3
theorem brd_rg (O : Ok n s) (f : Bool) : rg (brd s f) 9 := by
  unfold brd
  cases f with
  | false => exact O.2.1.1
  | true =>
    obtain ⟨j, j1, j2⟩ := O.2.1.1
    rw [if_pos rfl, j2]
    obtain ⟨-, a, b⟩ := brd_f j (by omega)
    exact rg_of a b (by omega)
theorem Q_putG (Q : QS n s h h') {g : Nat} {uc um : R54} (M : MG n g uc um h h') {v : Int32} (hv : rg v 9) : MG n g (va_up uc 3 v) (va_up um 3 v) (wI h 8 (va_up (aI h 8) 7 v)) (wI h' 28 (va_up um 3 v)) ∧ QS n s (wI h 8 (va_up (aI h 8) 7 v)) (wI h' 28 (va_up um 3 v)) ∧ Fq 0 h (wI h 8 (va_up (aI h 8) 7 v)) ∧ Fm h' (wI h' 28 (va_up um 3 v)) := by
  obtain ⟨m1, m2, m3, m4, m5⟩ := M
  obtain ⟨H1, B1⟩ := m1.wF (v := v) (k := 7) (i := 3) (by omega)
  have G : Fm h' (wI h' 28 (va_up um 3 v)) := Fm.w28 (by rw [m3]; exact (hi.rf _).up (by omega))
  exact ⟨⟨H1, m2.up (okV_3 hv), aI_eq, (up_ne (by omega)).trans m4, m5.up⟩, Q.q B1.q G, B1.q, G⟩
theorem rl_feast {g S t : Nat} (hg : g < n) (hS : S < 128) (ht : 2 ≤ t ∧ t ≤ 20) {N : Nat} (hN : N ≤ 7) (part : Int32) (x5 x7 : Int64) (K : Option Nat → Int32 → Int32 → Int32 → Int32 → Int64 → Int64 → Int32 → AH → Option (Int64 × AH)) : ∀ (k m m' i w : Nat) (uc um : R54) (h h' : AH), QS n s h h' → MG n g uc um h h' → k < m → k < m' → i + k = N → ∃ (b : Bool) (h1 h1' : AH), f_X11_hasLeftBehindFeasts_b14 m (some 0) (i32 g) (i32 N) (i32 S) (i32 i) h = some (bI b, h1) ∧ f_X12_feasts_b98 K m' (some 26) (i32 g) (i32 N) (i32 t) part x5 x7 (i32 S) (i64 w) (i32 i) h' = f_X12_feasts_b209 K (some 26) (i32 g) (i32 N) (i32 t) part x7 (i32 S) (if b then i64 (w * pw S (t - 1) i k) else 0) x5 h1' ∧ QS n s h1 h1' ∧ Fq 0 h h1 ∧ Fm h' h1' := by
  intro k
  induction k with
  | zero =>
    intro m m' i w uc um h h' Q M hm hm' hi
    obtain ⟨m, rfl⟩ := succ_of hm
    obtain ⟨m', rfl⟩ := succ_of hm'
    have z : i32 N ≤ i32 i := by rw [i32_le (by omega) (by omega)]; omega
    obtain ⟨i1, i2⟩ := M.ins Q hg
    refine ⟨!inP uc g, h, h', ?_, ?_, Q, Fq.rf h, Fm.rf h'⟩
    · rw [e_X11_hasLeftBehindFeasts_b14, if_pos z, Q.1.1.o1, sb_some, cv_ok M.1.1.1.1, i1, bd_some]
      cases inP uc g <;> rfl
    · rw [e_X12_feasts_b98, if_pos z, Q.2.1.o1, sb_some, i2, bd_some]
      have : w * pw S (t - 1) i 0 = w := Nat.mul_one w
      rw [this]
      cases inP uc g with
      | false => rw [if_pos pb0]; rfl
      | true => rw [if_neg nb1]; rfl
  | succ k ih =>
    intro m m' i w uc um h h' Q M hm hm' hi
    obtain ⟨m, rfl⟩ := succ_of hm
    obtain ⟨m', rfl⟩ := succ_of hm'
    have h7 := Q.h7
    have W := Q.1.1
    have Mm := Q.2.1
    have z : ¬ i32 N ≤ i32 i := by rw [i32_le (by omega) (by omega)]; omega
    obtain ⟨M1, Q1, F1, G1⟩ := Q_putG Q M (brd_rg Q.1.2.2 (S.testBit i))
    obtain ⟨h2, a1, a2, M2, Q2, F2, G2⟩ := Q_dayO Q1 hg M1
    rw [wI_wI] at a2 M2 Q2 G2
    obtain ⟨b, h3, h3', c1, c2, Q3, F3, G3⟩ := ih m m' (i + 1) (w * (if S.testBit i then 1 else (t - 1))) _ _ _ _ Q2 M2 (by omega) (by omega) (by omega)
    refine ⟨b, h3, h3', ?_, ?_, Q3, F1.tr0 (F2.tr0 F3), G1.tr (G2.tr G3)⟩
    · rw [e_X11_hasLeftBehindFeasts_b14, if_neg z, bt_at S hS i (by omega), ← c1]
      have W1 := Q1.1.1
      have key : ∀ v, v = brd s (S.testBit i) → f_X11_hasLeftBehindFeasts_b70 (f_X11_hasLeftBehindFeasts_b14 m) (some 0) (i32 g) (i32 N) (i32 S) (i32 i) v (some 8) h = f_X11_hasLeftBehindFeasts_b14 m (some 0) (i32 g) (i32 N) (i32 S) (i32 (i + 1)) h2 := by
        intro v hv
        subst hv
        unfold f_X11_hasLeftBehindFeasts_b70
        rw [pI_1' M.1.1.1.1, sb_some, W1.o1, sb_some, cv_ok M1.1.1.1.1, a1, bd_some, i32_s]
      unfold f_X11_hasLeftBehindFeasts_b35
      simp only [W.o1, W.o0, sb_some, gI_1 Q.1.2.1.1.1.1, Q.1.2.1.2.1.2.2.1]
      revert key
      cases S.testBit i with
      | false =>
        intro key
        rw [if_neg (show ¬ bI false = 1 by decide), if_pos trivial]
        exact key _ rfl
      | true =>
        intro key
        rw [if_pos (show bI true = 1 from rfl), if_neg (show ¬ ((1 : Int32) = 0) by decide)]
        exact key _ rfl
    · have r0 := Mm.1.2.1
      have hh : f_X12_has (i32 S) (i32 i) h' = some (bI (S.testBit i), h') := by
        rw [m_has]
        unfold fst
        rw [bt_at S hS i (by omega)]
        cases S.testBit i <;> rfl
      rw [e_X12_feasts_b98, if_neg z, hh, bd_some]
      have key : ∀ (y : Int64) (wn : Nat) (v : Int32), i64 w * y = i64 wn → v = brd s (S.testBit i) → (nm (i64 w * y) fun t21 => f_X12_feasts_b175 K (f_X12_feasts_b98 K m') (some 26) (i32 g) (i32 N) (i32 t) part x5 x7 (i32 S) t21 (i32 i) v 3 (some 28) h') = f_X12_feasts_b98 K m' (some 26) (i32 g) (i32 N) (i32 t) part x5 x7 (i32 S) (i64 wn) (i32 (i + 1)) (wI h' 28 (dayM n 0 (va_up um 3 (brd s (S.testBit i))))) := by
        intro y wn v hy hv
        subst hv
        unfold f_X12_feasts_b175
        rw [nm_eq, hy, w54_3 Mm.1.2.2.1, sb_some, M.2.2.1]
        have W2 : Wm (wI h' 28 (va_up um 3 (brd s (S.testBit i)))) := Mm
        rw [W2.o1, sb_some, a2, bd_some, i32_s]
      have tail : ∀ y wn, i64 w * y = i64 wn → f_X12_feasts_b124 K (f_X12_feasts_b98 K m') (some 26) (i32 g) (i32 N) (i32 t) part x5 x7 (i32 S) (i32 i) y (i64 w) h' = f_X12_feasts_b98 K m' (some 26) (i32 g) (i32 N) (i32 t) part x5 x7 (i32 S) (i64 wn) (i32 (i + 1)) (wI h' 28 (dayM n 0 (va_up um 3 (brd s (S.testBit i))))) := by
        intro y wn hy
        unfold f_X12_feasts_b124
        simp only [Mm.o1, Mm.o0, sb_some, hh, bd_some, r54_3 r0, Q.2.2.1]
        have k2 := key y wn
        simp only [nm_eq] at k2 ⊢
        revert k2
        cases S.testBit i with
        | false =>
          intro k2
          rw [if_pos pb0]
          exact k2 _ hy rfl
        | true =>
          intro k2
          rw [if_neg nb1]
          obtain ⟨j, j1, j2⟩ := Q.1.2.2.2.1.1
          have e1 := (brd_f j (by omega)).1
          have e2 : brd s true = mmin 9 (s 3 + 3) := rfl
          rw [← j2] at e1
          by_cases c : s 3 ≤ 6
          · rw [if_pos c]
            rw [if_pos c] at e1
            exact k2 _ hy (by rw [e2, e1])
          · rw [if_neg c]
            rw [if_neg c] at e1
            exact k2 _ hy (by rw [e2, e1])
      have et : Int32.toInt64 (i32 t - 1) = i64 (t - 1) := by
        rw [show (1 : Int32) = i32 1 from rfl, i32_sub (by omega), i64_32 (by omega)]
      have ep : ∀ f : Bool, f = S.testBit i → w * (if f then 1 else (t - 1)) * pw S (t - 1) (i + 1) k = w * pw S (t - 1) i (k + 1) := fun f hf => by
        subst hf
        show _ = w * (_ * pw S (t - 1) (i + 1) k)
        rw [Nat.mul_assoc]
      rw [ep _ rfl] at c2
      rw [← c2]
      revert tail
      cases S.testBit i with
      | false =>
        intro tail
        rw [if_pos pb0, et]
        exact tail _ _ (i64_mul _ _)
      | true =>
        intro tail
        rw [if_neg nb1]
        refine tail 1 _ ?_
        rw [if_pos rfl, Nat.mul_one]
        exact Int64.mul_one _
theorem two_pow_i : ∀ N, N < 8 → (1 : Int32) <<< (i32 N &&& 31) = i32 (2 ^ N) := by decide +kernel
theorem p19 {t : Nat} (ht : t ≤ 20) {e : Nat} (he : e ≤ 7) : (t - 1) ^ e ≤ 893871739 := by
  have h1 : (t - 1) ^ e ≤ 19 ^ e := Nat.pow_le_pow_left (by omega) e
  have h2 : 19 ^ e ≤ 19 ^ 7 := Nat.pow_le_pow_right (by decide) he
  have h3 : 19 ^ 7 = 893871739 := by decide
  omega
theorem rl_feasts {g t : Nat} (hg : g < n) (ht : 2 ≤ t ∧ t ≤ 20) {N : Nat} (hN : N ≤ 7) {part : Int32} (hp : part = 0 ∨ part = 1) : ∀ (k m m' S w : Nat) (h h' : AH), QS n s h h' → w ≤ S * 893871739 → k < m → k < m' → S + k = 2 ^ N → RLg 0 h h' (f_X11_feasts_b50 m (some 0) (i32 g) (i32 N) (i32 t) part (i64 w) (i32 S) h) (f_X12_feasts_b73 m' (some 26) (i32 g) (i32 N) (i32 t) part (i64 w) (i64 (t ^ N)) (i32 S) h') := by
  have h128 : 2 ^ N ≤ 128 := show 2 ^ N ≤ 2 ^ 7 from Nat.pow_le_pow_right (by decide) hN
  intro k
  induction k with
  | zero =>
    intro m m' S w h h' Q hw hm hm' hk
    obtain ⟨m, rfl⟩ := succ_of hm
    obtain ⟨m', rfl⟩ := succ_of hm'
    have z : i32 (2 ^ N) ≤ i32 S := by rw [i32_le (by omega) (by omega)]; omega
    have tp : 0 < t ^ N := Nat.pow_pos (by omega)
    have tl : t ^ N ≤ 1280000000 := by
      have h1 : t ^ N ≤ 20 ^ N := Nat.pow_le_pow_left (by omega) N
      have h2 : 20 ^ N ≤ 20 ^ 7 := Nat.pow_le_pow_right (by decide) hN
      have h3 : 20 ^ 7 = 1280000000 := by decide
      omega
    rw [e_X11_feasts_b50, e_X12_feasts_b73, two_pow_i N (by omega), if_pos z, if_pos z, k_power (by omega) (by omega), bd_some, k_least (by omega) ⟨tp, by omega⟩, bd_some]
    rcases Nat.eq_zero_or_pos w with z0 | z0
    · subst z0
      rw [m_part0, bd_some, frc_0 tp hp]
      exact RLg.mk _ rfl rfl
    · rw [m_partOf ⟨z0, by omega⟩ ⟨tp, by omega⟩, bd_some]
      exact RLg.mk _ rfl rfl
  | succ k ih =>
    intro m m' S w h h' Q hw hm hm' hk
    obtain ⟨m, rfl⟩ := succ_of hm
    obtain ⟨m', rfl⟩ := succ_of hm'
    have W := Q.1.1
    have z : ¬ i32 (2 ^ N) ≤ i32 S := by rw [i32_le (by omega) (by omega)]; omega
    obtain ⟨h1, a1, a2, M1, Q1, F1, G1⟩ := Q_mind Q
    obtain ⟨b, h2, h2', b1, b2, Q2, F2, G2⟩ := rl_feast hg (show S < 128 by omega) ht hN part (i64 w) (i64 (t ^ N)) (f_X12_feasts_b73 m') N FU FU 0 1 s s _ _ Q1 (M1.mg g) (fu_pos (by omega)) (fu_pos (by omega)) (by omega)
    have hl : f_X11_hasLeftBehindFeasts (some 0) (i32 g) (i32 N) (i32 S) h = some (bI b, h2) := by
      unfold f_X11_hasLeftBehindFeasts
      rw [W.o1, sb_some, W.o0, sb_some, cv_ok W.2.2.1.2.1.1.1, a1, bd_some]
      exact b1
    have b2' : f_X12_feasts_b98 (f_X12_feasts_b73 m') FU (some 26) (i32 g) (i32 N) (i32 t) part (i64 w) (i64 (t ^ N)) (i32 S) 1 0 (wI h' 28 s) = _ := b2
    rw [e_X11_feasts_b50, e_X12_feasts_b73, two_pow_i N (by omega), if_neg z, if_neg z, cv_ok W.1.1, hl, bd_some, Q.2.1.o0, sb_some, Q.2.1.o1, sb_some, a2, bd_some, b2']
    unfold f_X12_feasts_b209
    rw [nm_eq, i32_s, Nat.one_mul, pw_pow]
    have F := F1.tr0 F2
    have G := G1.tr G2
    have hl2 := cn_le S.testBit N
    cases b with
    | false =>
      rw [if_pos pb0, show (if false = true then i64 ((t - 1) ^ (N - cn S.testBit N)) else 0) = (0 : Int64) from rfl, Int64.add_zero]
      exact RLg.tr0 F G (ih m m' (S + 1) w h2 h2' Q2 (Nat.le_trans hw (Nat.mul_le_mul_right _ (Nat.le_succ S))) (by omega) (by omega) (by omega))
    | true =>
      rw [if_neg nb1, if_pos rfl, i64_add, c_bits, bd_some, bc_f N (by omega) S (by omega), show i32 t - 1 = i32 (t - 1) by rw [show (1 : Int32) = i32 1 from rfl, i32_sub (by omega)], i32_sub hl2, k_power (by omega) (by omega), bd_some, nm_eq, i64_add]
      have p := p19 ht.2 (show N - cn S.testBit N ≤ 7 by omega)
      exact RLg.tr0 F G (ih m m' (S + 1) _ _ _ Q2 (by omega) (by omega) (by omega) (by omega))
theorem m_feasts51 {t N : Nat} (ht : t ≤ 20) (hN : N ≤ 7) (v1 part : Int32) (x5 : Int64) : ∀ (k m i p : Nat), k < m → i + k = N → f_X12_feasts_b51 m (some 26) v1 (i32 N) (i32 t) part x5 (i64 p) (i32 i) h' = f_X12_feasts_b73 FU (some 26) v1 (i32 N) (i32 t) part x5 (i64 (p * t ^ k)) 0 h' := by
  intro k
  induction k with
  | zero =>
    intro m i p hm hi
    obtain ⟨m, rfl⟩ := succ_of hm
    rw [e_X12_feasts_b51, if_pos (by rw [i32_le (by omega) (by omega)]; omega), Nat.pow_zero, Nat.mul_one]
  | succ k ih =>
    intro m i p hm hi
    obtain ⟨m, rfl⟩ := succ_of hm
    rw [e_X12_feasts_b51, if_neg (by rw [i32_le (by omega) (by omega)]; omega), nm_eq, i64_32 (by omega), i64_mul, i32_s, ih m (i + 1) (p * t) (by omega) (by omega), Nat.pow_succ, Nat.mul_assoc, Nat.mul_comm t]
theorem R_feasts (Q : QS n s h h') (v1 v2 v3 v4 : Int32) : RLg 0 h h' (f_X11_feasts (some 0) v1 v2 v3 v4 h) (f_X12_feasts (some 26) v1 v2 v3 v4 h') := by
  unfold f_X11_feasts f_X12_feasts
  have W := Q.1.1
  simp only [W.o0, sb_some, cv_ok W.2.2.1.1.1.1, cv_ok Q.2.1.1.1, (Q.cg v1).1, (Q.cg v1).2, bd_some, bI_0, m_btw, c_out, c_isPart]
  cases e1 : isg n v1 with
  | false => exact RLg.mk _ (if_pos rfl) (if_pos rfl)
  | true =>
    rw [if_neg ntf, if_neg ntf]
    cases e2 : btw v2 0 7 with
    | false => exact RLg.mk _ (if_pos rfl) (if_pos rfl)
    | true =>
      rw [if_neg ntf, if_neg ntf]
      cases e3 : btw v3 2 20 with
      | false => exact RLg.mk _ (if_pos rfl) (if_pos rfl)
      | true =>
        rw [if_neg ntf, if_neg ntf]
        cases e4 : btw v4 0 1 with
        | false => exact RLg.mk _ (if_pos rfl) (if_pos rfl)
        | true =>
          rw [if_neg ntf, if_neg ntf]
          obtain ⟨g, rfl, hg⟩ := isg_of Q.h7 e1
          obtain ⟨N, rfl, hN⟩ := btw_of (m := 7) (by omega) e2
          obtain ⟨t, rfl, ht1, ht2⟩ := btw_of1 (a := 2) (m := 20) (by omega) (by omega) e3
          have e5 : f_X12_feasts_b51 FU (some 26) (i32 g) (i32 N) (i32 t) v4 0 1 0 h' = _ := m_feasts51 (h' := h') ht2 hN (i32 g) v4 0 N FU 0 1 (fu_pos (by omega)) (by omega)
          rw [e5, Nat.one_mul]
          have h128 : 2 ^ N ≤ 128 := show 2 ^ N ≤ 2 ^ 7 from Nat.pow_le_pow_right (by decide) hN
          exact rl_feasts hg ⟨ht1, ht2⟩ hN (part_of e4) (2 ^ N) FU FU 0 0 h h' Q (by omega) (fu_pos (by omega)) (fu_pos (by omega)) (by omega)
end FEAST
