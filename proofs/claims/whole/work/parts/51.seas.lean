/-! SEASONS -/
section SEAS
variable {n : Nat} {s : R54} {h h' : AH}
def nsd (x : Int32) : Int32 := x * 1103515245 + 12345
def drw (x : Int32) : Int32 := (x &&& 2147483647) / 65536 - (x &&& 2147483647) / 65536 / 100 * 100
theorem and_nn (x : Int32) : 0 ≤ (x &&& 2147483647).toInt := by
  have e : (x &&& 2147483647).toInt = (x.toBitVec &&& 2147483647#32).toInt := rfl
  rw [e]
  have m : (x.toBitVec &&& 2147483647#32).msb = false := by
    rw [BitVec.msb_and, show (2147483647#32).msb = false by decide, Bool.and_false]
  rw [BitVec.msb_eq_toInt] at m
  have := of_decide_eq_false m
  omega
theorem mod100 {t : Int32} (h0 : 0 ≤ t.toInt) : rg (t - t / 100 * 100) 99 := by
  have h1 := t.toInt_lt
  have e100 : (100 : Int32).toInt = 100 := by decide
  have a1 : (t / 100).toInt = t.toInt / 100 := by
    rw [Int32.toInt_div_of_ne_right _ _ (by decide), e100, Int.tdiv_eq_ediv_of_nonneg h0]
  have a2 : (t / 100 * 100).toInt = t.toInt / 100 * 100 := by
    rw [Int32.toInt_mul, a1, e100, Int.bmod_eq_of_le (by omega) (by omega)]
  have a3 : (t - t / 100 * 100).toInt = t.toInt - t.toInt / 100 * 100 := by
    rw [Int32.toInt_sub, a2, Int.bmod_eq_of_le (by omega) (by omega)]
  refine rg_of ?_ ?_ (by omega)
  · rw [Int32.le_iff_toInt_le, a3]
    have : (0 : Int32).toInt = 0 := by decide
    omega
  · rw [Int32.le_iff_toInt_le, a3, i32_t (by omega)]
    omega
theorem drw_rg (x : Int32) : rg (drw x) 99 := by
  refine mod100 ?_
  rw [Int32.toInt_div_of_ne_right _ _ (by decide)]
  exact Int.tdiv_nonneg (and_nn x) (by decide)
/-- how many bits are set -/
def bcJ (v0 : Int32) : Int32 :=
  let t1 := v0 - (((Int32.toUInt32 v0 >>> (Int32.toUInt32 1 &&& Int32.toUInt32 31)).toInt32) &&& 1431655765)
  let t2 := (t1 &&& 858993459) + (((Int32.toUInt32 t1 >>> (Int32.toUInt32 2 &&& Int32.toUInt32 31)).toInt32) &&& 858993459)
  let t3 := (t2 + ((Int32.toUInt32 t2 >>> (Int32.toUInt32 4 &&& Int32.toUInt32 31)).toInt32)) &&& 252645135
  let t4 := t3 + ((Int32.toUInt32 t3 >>> (Int32.toUInt32 8 &&& Int32.toUInt32 31)).toInt32)
  let t5 := t4 + ((Int32.toUInt32 t4 >>> (Int32.toUInt32 16 &&& Int32.toUInt32 31)).toInt32)
  t5 &&& 63
theorem c_bits (v : Int32) (h : AH) : f_J6_bitCount_0f7a4 v h = some (bcJ v, h) := rfl
theorem bc_f : ∀ m, m < 8 → ∀ S, S < 2 ^ m → bcJ (i32 S) = i32 (cn S.testBit m) := by decide +kernel
theorem m_bits4 {S : Nat} (hS : S < 128) : ∀ (k m i : Nat), k < m → i + k = 7 → f_X12_bits_b4 m (i32 S) (i32 (cn S.testBit i)) (i32 i) h = some (i32 (cn S.testBit 7), h) := by
  intro k
  induction k with
  | zero =>
    intro m i hm hi
    obtain ⟨m, rfl⟩ := succ_of hm
    rw [e_X12_bits_b4, show i = 7 by omega]
    exact if_pos (by decide)
  | succ k ih =>
    intro m i hm hi
    obtain ⟨m, rfl⟩ := succ_of hm
    rw [e_X12_bits_b4, if_neg (show ¬ (7 : Int32) ≤ i32 i by rw [show (7 : Int32) = i32 7 from rfl, i32_le (by omega) (by omega)]; omega), nm_eq, bt_at S hS i (by omega), i32_s, ← ih m (i + 1) (by omega) (by omega)]
    have : i32 (cn S.testBit i) + bI (S.testBit i) = i32 (cn S.testBit (i + 1)) := by
      show _ = i32 (cn S.testBit i + (if S.testBit i then 1 else 0))
      cases S.testBit i with
      | false => exact Int32.add_zero _
      | true => exact i32_s _
    rw [this]
theorem m_bits {S : Nat} (hS : S < 128) : f_X12_bits (i32 S) h = some (bcJ (i32 S), h) := by
  rw [bc_f 7 (by omega) S hS]
  exact m_bits4 hS 7 FU 0 (fu_pos (by omega)) (by omega)
theorem rl_seas54 {N x7 : Nat} {w : Int32} (K : Option Nat → Int32 → Int32 → Int32 → Int32 → Int32 → Int32 → AH → Option (Int32 × AH)) (K' : Option Nat → Int32 → Int32 → Int32 → Int32 → AH → Option (Int32 × AH)) (a5 a6 acc : Int32) (hacc : acc = if w = 0 then a5 else a6) (hk : ∀ sd b5 b6 ac h h', QS n s h h' → aI h' 26 11 = sd → (ac = if w = 0 then b5 else b6) → RR 0 h h' (K (some 0) (i32 N) w sd b5 b6 (i32 (x7 + 1)) h) (K' (some 26) (i32 N) w ac (i32 (x7 + 1)) h')) : ∀ (k m m' g : Nat) (sd : Int32) (u : R54) (h h' : AH), QS n s h h' → MS n u h h' → aI h' 26 11 = sd → k < m → k < m' → g + k = n → RR 0 h h' (f_X11_seasons_b54 K m (some 0) (i32 N) w sd a5 a6 (i32 x7) (i32 g) h) (f_X12_seasons_b52 K' m' (some 26) (i32 N) w acc (i32 x7) (i32 g) h') := by
  intro k
  induction k with
  | zero =>
    intro m m' g sd u h h' Q M esd hm hm' hg
    obtain ⟨m, rfl⟩ := succ_of hm
    obtain ⟨m', rfl⟩ := succ_of hm'
    have h7 := Q.h7
    have W := Q.1.1
    have Mm := Q.2.1
    have z : i32 n ≤ i32 g := by rw [i32_le (by omega) (by omega)]; omega
    obtain ⟨h1, a1, a2, M1, Q1, F1, G1⟩ := Q_days Q M (N := 9) (by omega)
    have W1 := Q1.1.1
    have Mm1 := Q1.2.1
    have a1' : f_X5_passDays (some 8) 9 h = some ((), h1) := a1
    have a2' : f_X12_daysOn (some 28) 9 h' = some ((), wI h' 28 (daysM n 9 u)) := a2
    rw [e_X11_seasons_b54, e_X12_seasons_b52]
    have B1 := M1.2.1.1.2.2
    have x28 : aI (wI h' 28 (daysM n 9 u)) 28 = daysM n 9 u := aI_eq
    have x27 : aI (wI h' 28 (daysM n 9 u)) 27 = s := Q1.2.2.1
    have hb : f_X12_bits (sI n (daysM n 9 u)) (wI h' 28 (daysM n 9 u)) = some (bcJ (sI n (daysM n 9 u)), wI h' 28 (daysM n 9 u)) := by
      rw [sI_cd h7 B1]
      exact m_bits (cd_128 _ h7)
    simp only [W.o0, W.o1, sb_some, gI_1 W.2.2.1.1.1.1, Q.1.2.1.2.1.1, if_pos z, cv_ok M.1.1.1.1, a1', bd_some, W1.o0, W1.o1, gI_1 M1.1.1.1.1, gI_1 Q1.1.2.1.1.1.1, M1.1.2.1.2.2.2.2.1, Q1.1.2.1.2.1.2.2.2.2.1, M1.1.2.1.2.1, c_bits, nm_eq, Mm.o0, Mm.o1, r54_0 Mm.1.2.1, Q.n0, a2', Mm1.o0, Mm1.o1, r54_2 Mm1.1.2.2.1, r54_2 Mm1.1.2.1, x28, x27, m_hereIn Mm1.1.2.2.1 (show aI (wI h' 28 (daysM n 9 u)) 28 0 = i32 n by rw [aI_eq]; exact M1.2.1.1.1) h7, hb, f_X12_seasons_b139, i32_s]
    refine RR.tr0 F1 G1 ?_
    have esd1 : aI (wI h' 28 (daysM n 9 u)) 26 11 = sd := by rw [aI_ne (by omega)]; exact esd
    by_cases c : w = 0
    · rw [if_pos c]
      rw [if_pos c] at hacc
      exact hk sd _ _ _ _ _ Q1 esd1 (by rw [if_pos c, hacc])
    · rw [if_neg c]
      rw [if_neg c] at hacc
      exact hk sd _ _ _ _ _ Q1 esd1 (by rw [if_neg c, hacc])
  | succ k ih =>
    intro m m' g sd u h h' Q M esd hm hm' hg
    obtain ⟨m, rfl⟩ := succ_of hm
    obtain ⟨m', rfl⟩ := succ_of hm'
    have h7 := Q.h7
    have W := Q.1.1
    have Mm := Q.2.1
    have hgn : g < n := by omega
    have z : ¬ i32 n ≤ i32 g := by rw [i32_le (by omega) (by omega)]; omega
    rw [e_X11_seasons_b54, e_X12_seasons_b52]
    simp only [W.o0, W.o1, sb_some, gI_1 W.2.2.1.1.1.1, Q.1.2.1.2.1.1, if_neg z, cv_ok W.2.2.1.1.1.1, k_isIn Q.1.2.1 Q.1.2.2 hgn, bd_some, Mm.o0, Mm.o1, r54_0 Mm.1.2.1, Q.n0, m_isHere Mm.1.2.1 (show g < 7 by omega), Q.2.2.1, i32_s]
    show RR 0 h h' (if bI (inP s g) = 0 then _ else _) (if bI (inP s g) = 0 then _ else _)
    cases inP s g with
    | false =>
      rw [if_pos pb0, if_pos pb0]
      exact ih m m' (g + 1) sd u h h' Q M esd (by omega) (by omega) (by omega)
    | true =>
      rw [if_neg nb1, if_neg nb1]
      have T := M.1.1
      have G0 : Fm h' (wI h' 26 (va_up (aI h' 26) 11 (nsd sd))) := Fm.w26 (by omega)
      have Q0 : QS n s h (wI h' 26 (va_up (aI h' 26) 11 (nsd sd))) := Q.q (Fq.rf h) G0
      have M0 : MS n u h (wI h' 26 (va_up (aI h' 26) 11 (nsd sd))) := ⟨M.1, M.2.1, (aI_ne (by omega)).trans M.2.2⟩
      obtain ⟨M2, Q2, F2, G2⟩ := Q_putA Q0 M0 (t := 2) (g := g) (v := drw (nsd sd)) (by omega) (by omega) (okV_w (drw_rg _))
      have ns : f_X11_nextSeed sd h = some (nsd sd, h) := rfl
      have db : f_X11_drawBelow 100 (nsd sd) h = some (drw (nsd sd), h) := by
        unfold f_X11_drawBelow
        rw [nm_eq, if_neg (show ¬ (100 : Int32) ≤ 0 by decide), if_neg (show ¬ (100 : Int32) = 0 by decide)]
        rfl
      have md : f_X12_drawn (some 26) 100 h' = some (drw (nsd sd), wI h' 26 (va_up (aI h' 26) 11 (nsd sd))) := by
        unfold f_X12_drawn
        rw [gI_1 Mm.1.1, sb_some, pI_1' Mm.1.1, sb_some, esd, gI_1 (show aT (wI h' 26 _) 26 = some (.inr 12) from Mm.1.1), sb_some, aI_eq, up_eq, if_neg (show ¬ (100 : Int32) = 0 by decide)]
        rfl
      have e28 : aI (wI h' 26 (va_up (aI h' 26) 11 (nsd sd))) 28 = u := M0.2.2
      simp only [ns, bd_some, W.o1, sb_some, gR_1 T.1.1, T.2.1.2.1, db, iS_ok T.1.2.2.1 (show g < 7 by omega) (by omega), m_of2, cv_ok Mm.1.1, md, w54 (7 * g + 7) (by omega) _ Q0.2.1.1.2.2.1, e28]
      refine RR.tr0 F2 (G0.tr G2) ?_
      exact ih m m' (g + 1) (nsd sd) _ _ _ Q2 M2 (by rw [aI_ne (by omega), aI_eq, up_eq]) (by omega) (by omega) (by omega)
theorem rl_seas34 {N : Nat} (hN : N ≤ 20) {w : Int32} : ∀ (k m m' i : Nat) (sd a5 a6 acc : Int32) (h h' : AH), QS n s h h' → aI h' 26 11 = sd → (acc = if w = 0 then a5 else a6) → k < m → k < m' → i + k = N → RR 0 h h' (f_X11_seasons_b34 m (some 0) (i32 N) w sd a5 a6 (i32 i) h) (f_X12_seasons_b32 m' (some 26) (i32 N) w acc (i32 i) h') := by
  intro k
  induction k with
  | zero =>
    intro m m' i sd a5 a6 acc h h' Q esd hacc hm hm' hi
    obtain ⟨m, rfl⟩ := succ_of hm
    obtain ⟨m', rfl⟩ := succ_of hm'
    have z : i32 N ≤ i32 i := by rw [i32_le (by omega) (by omega)]; omega
    rw [e_X11_seasons_b34, e_X12_seasons_b32, if_pos z, if_pos z]
    by_cases c : w = 0
    · rw [if_pos c] at hacc ⊢
      rw [hacc]
      exact RR.mk _ rfl rfl
    · rw [if_neg c] at hacc ⊢
      rw [hacc]
      exact RR.mk _ rfl rfl
  | succ k ih =>
    intro m m' i sd a5 a6 acc h h' Q esd hacc hm hm' hi
    obtain ⟨m, rfl⟩ := succ_of hm
    obtain ⟨m', rfl⟩ := succ_of hm'
    have z : ¬ i32 N ≤ i32 i := by rw [i32_le (by omega) (by omega)]; omega
    have W := Q.1.1
    obtain ⟨h1, a1, a2, M1, Q1, F1, G1⟩ := Q_mind Q
    rw [e_X11_seasons_b34, e_X12_seasons_b32, if_neg z, if_neg z]
    simp only [W.o1, W.o0, sb_some, cv_ok W.2.2.1.2.1.1.1, a1, bd_some, Q.2.1.o0, Q.2.1.o1, a2]
    refine RR.tr0 F1 G1 ?_
    exact rl_seas54 (f_X11_seasons_b34 m) (f_X12_seasons_b32 m') a5 a6 acc hacc (fun sd b5 b6 ac h h' Q e1 e2 => ih m m' (i + 1) sd b5 b6 ac h h' Q e1 e2 (by omega) (by omega) (by omega)) n FU FU 0 sd s _ _ Q1 M1 (by rw [aI_ne (by omega)]; exact esd) (fu_pos (by have := Q.h7; omega)) (fu_pos (by have := Q.h7; omega)) (by omega)
theorem R_seasons (Q : QS n s h h') (v1 v2 v3 : Int32) : RR 0 h h' (f_X11_seasons (some 0) v1 v2 v3 h) (f_X12_seasons (some 26) v1 v2 v3 h') := by
  unfold f_X11_seasons f_X12_seasons
  simp only [m_btw, bd_some, bI_0, c_in, c_out]
  cases e1 : btw v1 1 20 with
  | false => exact RR.mk (-1) (if_pos rfl) (if_pos rfl)
  | true =>
    rw [if_neg ntf, if_neg ntf]
    cases e2 : btw v3 0 1 with
    | false => exact RR.mk (-1) (if_pos rfl) (if_pos rfl)
    | true =>
      rw [if_neg ntf, if_neg ntf]
      obtain ⟨N, rfl, hN1, hN⟩ := btw_of1 (a := 1) (m := 20) (by omega) (by omega) e1
      rw [pI_1' Q.2.1.1.1, sb_some]
      have G0 : Fm h' (wI h' 26 (va_up (aI h' 26) 11 v2)) := Fm.w26 (by omega)
      refine RR.tr0 (Fq.rf h) G0 ?_
      exact rl_seas34 hN N FU FU 0 v2 0 0 0 _ _ (Q.q (Fq.rf h) G0) (by rw [aI_eq, up_eq]) (by split <;> rfl) (fu_pos (by omega)) (fu_pos (by omega)) (by omega)
end SEAS
