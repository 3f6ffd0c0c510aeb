/-! ROWS: put, copy, element; comes; forged; judged -/
section ROWS
variable {p : ST} {h h' : AH} {r e z : Nat} {srt : Int32} {el : Nat → Int32}
theorem isz_of {z : Nat} {v : Int32} (hz : z ≤ 1000) (c : isg z v = true) : ∃ j, v = i32 j ∧ j < z := by
  unfold isg at c
  simp only [Bool.and_eq_true, decide_eq_true_eq] at c
  obtain ⟨g, rfl, h2, -⟩ := i32_of (Int32.not_lt.mpr c.1)
  have e2 := c.2
  rw [i32_lt h2 (by omega)] at e2
  exact ⟨g, rfl, e2⟩
theorem isz_t {z j : Nat} (hz : z ≤ 1000) (hj : j < z) : isg z (i32 j) = true := by
  unfold isg
  rw [decide_eq_true (Int32.not_lt.mp (i32_nn (by omega))), decide_eq_true (by rw [i32_lt (by omega) (by omega)]; exact hj)]
  rfl
theorem fm_z1 : ∀ z, z < 101 → (i32 z - 1).toInt = (z : Int) - 1 := by decide +kernel
theorem btw_z {z : Nat} (hz : z ≤ 100) (v : Int32) : btw v 0 (i32 z - 1) = isg z v := by
  unfold btw isg
  have e : (v ≤ i32 z - 1) = (v < i32 z) := by
    rw [Int32.le_iff_toInt_le, Int32.lt_iff_toInt_lt, i32_t (by omega), fm_z1 z (by omega)]
    exact propext ⟨fun y => by omega, fun y => by omega⟩
  rw [decide_eq_decide.mpr (Iff.of_eq e)]
theorem k_size (R : RowAt h r e z srt el) : f_X7_size (some r) h = some (i32 z, h) := by
  unfold f_X7_size
  rw [gR_1 R.1.2.1, sb_some, R.1.2.2.2.1, lenI_ok R.1.2.2.2.2, sb_some]
theorem k_hasPlace (R : RowAt h r e z srt el) (v : Int32) : f_X7_hasPlace (some r) v h = some (bI (isg z v), h) := by
  unfold f_X7_hasPlace isg
  by_cases c : v < 0
  · rw [if_pos c, decide_eq_false (Int32.not_le.mpr c)]; rfl
  · rw [if_neg c, gR_1 R.1.2.1, sb_some, R.1.2.2.2.1, lenI_ok R.1.2.2.2.2, sb_some, decide_eq_true (Int32.not_lt.mp c)]
    by_cases c2 : i32 z ≤ v
    · rw [if_pos c2, decide_eq_false (Int32.not_lt.mpr c2)]; rfl
    · rw [if_neg c2, decide_eq_true (Int32.not_le.mp c2)]; rfl
theorem k_at (R : RowAt h r e z srt el) {j : Nat} (hj : j < z) : f_X7_at (some r) (i32 j) h = some (el j, h) := by
  have hz := R.2.1
  unfold f_X7_at
  rw [cv_ok R.1.2.1, k_hasPlace R, bd_some, isz_t (by omega) hj, if_neg nb1, gR_1 R.1.2.1, sb_some, R.1.2.2.2.1, iA_ok R.1.2.2.2.2 hj (by omega), sb_some, R.2.2.2 j hj]
/-- the least number of a sort -/
def lst (srt : Int32) : Int32 := if srt = 0 then -128 else if srt = 1 then -32768 else -2147483648
theorem k_isSkipped (R : RowAt h r e z srt el) {j : Nat} (hj : j < z) : f_X7_isSkipped (some r) (i32 j) h = some (bI (decide (el j = lst srt)), h) := by
  unfold f_X7_isSkipped lst
  simp only [gI_1 R.1.2.1, sb_some, R.1.2.2.1, cv_ok R.1.2.1, k_at R hj, bd_some]
  by_cases c0 : srt = 0
  · rw [if_pos c0, if_pos c0]
    split
    · rename_i y; rw [decide_eq_true y]; rfl
    · rename_i y; rw [decide_eq_false y]; rfl
  · rw [if_neg c0, if_neg c0]
    by_cases c1 : srt = 1
    · rw [if_pos c1, if_pos c1]
      split
      · rename_i y; rw [decide_eq_true y]; rfl
      · rename_i y; rw [decide_eq_false y]; rfl
    · rw [if_neg c1, if_neg c1]
      split
      · rename_i y; rw [decide_eq_true y]; rfl
      · rename_i y; rw [decide_eq_false y]; rfl
theorem m_el (M : MDL h' p) {d j : Nat} (hd : d < 8) (hj : j < 100) : iA h' (some 39) ((100 : Int32) * i32 d + i32 j) = some (p.2.2.2.2.2 5 (100 * d + j)) := by
  rw [show (100 : Int32) * i32 d + i32 j = i32 (100 * d + j) by rw [show (100 : Int32) = i32 100 from rfl, i32_mul, i32_add], iA_ok M.1.2.2.1.2.2.2.2.2 (show 100 * d + j < 800 by omega) (by omega), show aI h' 39 = p.2.2.2.2.2 5 from m_k M 5 (by omega)]
theorem m_size (M : MDL h' p) {d : Nat} (hd : d < 8) : iA h' (some 38) (i32 d) = some (p.2.2.2.2.2 4 d) := by
  rw [iA_ok M.1.2.2.1.2.2.2.2.1 hd (by omega), show aI h' 38 = p.2.2.2.2.2 4 from m_k M 4 (by omega)]
theorem m_sort (M : MDL h' p) {d : Nat} (hd : d < 8) : iA h' (some 37) (i32 d) = some (p.2.2.2.2.2 3 d) := by
  rw [iA_ok M.1.2.2.1.2.2.2.1 hd (by omega), show aI h' 37 = p.2.2.2.2.2 3 from m_k M 3 (by omega)]
theorem m_kept (M : MDL h' p) {d : Nat} (hd : d < 8) : iA h' (some 34) (i32 d) = some (p.2.2.2.2.2 0 d) := by
  rw [iA_ok M.1.2.2.1.1 hd (by omega), show aI h' 34 = p.2.2.2.2.2 0 from m_k M 0 (by omega)]
theorem m_isTold (M : MDL h' p) {d j : Nat} (hd : d < 8) (hj : j < 100) (v : Int32) : f_X12_isTold (some 26) (i32 d) (i32 j) v h' = some (bI (decide (p.2.2.2.2.2 5 (100 * d + j) = lst (p.2.2.2.2.2 3 d)) || decide (p.2.2.2.2.2 5 (100 * d + j) = v)), h') := by
  unfold f_X12_isTold f_X12_leastOf
  simp only [M.1.o17, M.1.o15, sb_some, m_el M hd hj, m_sort M hd]
  have key : (if p.2.2.2.2.2 3 d = 0 then some ((-128 : Int32), h') else if p.2.2.2.2.2 3 d = 1 then some (-32768, h') else some (-2147483648, h')) = some (lst (p.2.2.2.2.2 3 d), h') := by
    unfold lst
    split
    · rfl
    · split <;> rfl
  rw [key, bd_some]
  by_cases c : p.2.2.2.2.2 5 (100 * d + j) = lst (p.2.2.2.2.2 3 d)
  · rw [if_pos c, decide_eq_true c]; rfl
  · rw [if_neg c, decide_eq_false c]
    simp only [M.1.o17, sb_some, m_el M hd hj]
    split
    · rename_i y; rw [decide_eq_true y]; rfl
    · rename_i y; rw [decide_eq_false y]; rfl
def lwb (srt v : Int32) : Int32 := if srt = 0 then Int8.toInt32 (Int32.toInt8 v) else if srt = 1 then Int16.toInt32 (Int32.toInt16 v) else v
theorem i8_i8 (v : Int32) : Int8.toInt32 (Int32.toInt8 (Int8.toInt32 (Int32.toInt8 v))) = Int8.toInt32 (Int32.toInt8 v) := by
  rw [Int8.toInt8_toInt32]
theorem FrRow {q : Nat → Int32} (P : PS p h h') (R : RowAt h r e z srt el) : Wc (wI h e q) ∧ Hs (wI h e q) 1 p.1 p.2.1 ∧ (Hs h 15 p.2.2.1 p.2.2.2.1 → Hs (wI h e q) 15 p.2.2.1 p.2.2.2.1) ∧ aI (wI h e q) 0 = aI h 0 ∧ FC h (wI h e q) := by
  have he := R.1.1.2.2
  have hg : ∀ j, (Sum.inl (0, z) : AT) = .inr j → j ∉ GF := fun j y => nomatch y
  refine ⟨P.1.1.1, P.1.1.2.1.ne R.1.2.2.2.2 hg (by omega), fun H => H.ne R.1.2.2.2.2 hg (by omega), aI_ne (by omega), ⟨Nat.le_refl _, Nat.le_add_right _ _, Nat.le_refl _, Nat.le_add_right _ _⟩, fun c c1 c2 => ⟨rfl, aI_ne (by omega), rfl, rfl⟩⟩
theorem U_put (P : PS p h h') (v1 v2 v3 : Int32) : UU h h' (f_X11_put (some 0) v1 v2 v3 h) (f_X12_put (some 26) v1 v2 v3 h') := by
  unfold f_X11_put f_X12_put
  have W := P.1.1.1
  have M := P.2
  rw [cv_ok W.1.1, cv_ok M.1.1.1]
  cases ev : btw v1 0 7 with
  | false =>
    rw [c_rowNo ev, bd_some, if_pos rfl, cv_ok W.1.1, c_whyRowNo ev, bd_some, m_wrongRowNo ev, bd_some, if_neg (by decide)]
    exact UU.same P (-1) rfl rfl
  | true =>
    obtain ⟨d, rfl, hd7⟩ := btw_of (m := 7) (by omega) ev
    have hd : d < 8 := by omega
    rw [c_rowOn W hd, bd_some, m_wrongRow M hd, bd_some]
    by_cases e0 : p.2.2.2.2.2 0 d = 0
    · obtain ⟨n1, n2⟩ := sh_none P hd e0
      rw [n2, if_pos rfl, cv_ok W.1.1, c_whyRow W hd, n1, bd_some, if_pos rfl, if_pos e0, if_neg (by decide)]
      exact UU.same P (-11) rfl rfl
    · by_cases e2 : p.2.2.2.2.2 0 d = 2
      · obtain ⟨n1, r, e, z, n2, n3, R⟩ := sh_row P hd e2
        have hz := R.2.1
        rw [n2, if_neg (fun y => nomatch y), cv_ok R.1.2.1, k_hasPlace R, bd_some, if_neg e0, if_pos e2, if_pos (show (-1 : Int32) < 0 by decide), if_pos rfl, M.1.o16, sb_some, m_size M hd, sb_some, n3, m_btw, bd_some, btw_z hz]
        cases ez : isg z v2 with
        | false => exact UU.same P (-13) (if_pos pb0) (if_pos pb0)
        | true =>
          obtain ⟨j, rfl, hj⟩ := isz_of (by omega) ez
          rw [if_neg nb1, if_neg nb1, cv_ok R.1.2.1]
          unfold f_X7_set
          have lb : f_X7_lowestBits (some r) v3 h = some (lwb (p.2.2.2.2.2 3 d) v3, h) := by
            unfold f_X7_lowestBits lwb
            rw [gI_1 R.1.2.1, sb_some, R.1.2.2.1]
            split
            · rfl
            · split <;> rfl
          rw [cv_ok R.1.2.1, k_hasPlace R, bd_some, ez, if_neg nb1, gR_1 R.1.2.1, sb_some, R.1.2.2.2.1, cv_ok R.1.2.1, lb, bd_some, iS_ok R.1.2.2.2.2 hj (by omega), sb_some, bd_some]
          obtain ⟨f1, f2, f3, f4, f5⟩ := FrRow (q := va_up (aI h e) j (lwb (p.2.2.2.2.2 3 d) v3)) P R
          have hj100 : j < 100 := by omega
          have me : f_X12_put (some 26) (i32 d) (i32 j) v3 h' = some (0, wI h' 39 (va_up (aI h' 39) (100 * d + j) (lwb (p.2.2.2.2.2 3 d) v3))) := by
            unfold f_X12_put
            have ix : (100 : Int32) * i32 d + i32 j = i32 (100 * d + j) := by rw [show (100 : Int32) = i32 100 from rfl, i32_mul, i32_add]
            have ws : ∀ v, iS h' (some 39) (i32 (100 * d + j)) v = some (wI h' 39 (va_up (aI h' 39) (100 * d + j) v)) := fun v => iS_ok M.1.2.2.1.2.2.2.2.2 (show 100 * d + j < 800 by omega) (by omega)
            rw [cv_ok M.1.1.1, m_wrongRow M hd, bd_some, if_neg e0, if_pos e2, if_pos (show (-1 : Int32) < 0 by decide), if_pos rfl, M.1.o16, sb_some, m_size M hd, sb_some, n3, m_btw, bd_some, btw_z hz, ez, if_neg nb1]
            simp only [M.1.o17, M.1.o15, sb_some, m_sort M hd, ix, ws]
            unfold lwb
            split
            · rfl
            · split <;> rfl
          have mu : ((gR h' (some 26) [12] 17).bind fun t7 => (gR h' (some 26) [12] 15).bind fun t8 => (iA h' t8 (i32 d)).bind fun t9 => if t9 = 0 then (iS h' t7 (100 * i32 d + i32 j) (Int8.toInt32 (Int32.toInt8 v3))).bind fun h14 => some ((0 : Int32), h14) else (gR h' (some 26) [12] 15).bind fun t10 => (iA h' t10 (i32 d)).bind fun t11 => if t11 = 1 then (iS h' t7 (100 * i32 d + i32 j) (Int16.toInt32 (Int32.toInt16 v3))).bind fun h13 => some (0, h13) else (iS h' t7 (100 * i32 d + i32 j) v3).bind fun h12 => some (0, h12)) = some (0, wI h' 39 (va_up (aI h' 39) (100 * d + j) (lwb (p.2.2.2.2.2 3 d) v3))) := by
            have me2 := me
            unfold f_X12_put at me2
            rw [cv_ok M.1.1.1, m_wrongRow M hd, bd_some, if_neg e0, if_pos e2, if_pos (show (-1 : Int32) < 0 by decide), if_pos rfl, M.1.o16, sb_some, m_size M hd, sb_some, n3, m_btw, bd_some, btw_z hz, ez, if_neg nb1] at me2
            exact me2
          refine UU.shelf (h1' := wI h' 39 (va_up (aI h' 39) (100 * d + j) (lwb (p.2.2.2.2.2 3 d) v3))) P 0 (κ' := upκ p.2.2.2.2.2 5 (100 * d + j) (lwb (p.2.2.2.2.2 3 d) v3)) f1 f2 f3 f4 (P.1.2.2.el hd n2 R (fun i hi => ?_) (fun j2 hj2 ne i hi => ?_) (fun i hi => ?_) (fun i hi => ?_)) f5 ⟨⟨rfl, rfl, rfl, rfl⟩, fun c hc => aI_ne (by omega)⟩ (fun c hc => aI_ne (by omega)) (fun i hi => ?_) rfl mu
          · unfold upκ; rw [if_neg (by omega)]
          · show va_up (p.2.2.2.2.2 5) _ _ _ = _
            rw [up_ne (by omega)]
          · show va_up (aI h e) j _ i = va_up (p.2.2.2.2.2 5) (100 * d + j) _ (100 * d + i)
            by_cases y : i = j
            · subst y; rw [up_eq, up_eq]
            · rw [up_ne y, up_ne (by omega)]; exact R.2.2.2 i hi
          · show va_up (p.2.2.2.2.2 5) (100 * d + j) _ (100 * d + i) = _ ∨ ok8 _ (va_up (p.2.2.2.2.2 5) (100 * d + j) _ (100 * d + i))
            by_cases y : i = j
            · subst y
              refine Or.inr ?_
              rw [up_eq]
              intro y0
              unfold lwb
              rw [if_pos y0, i8_i8]
            · exact Or.inl (up_ne (by omega))
          · unfold upκ
            by_cases y : i = 5
            · subst y; rw [if_pos rfl]; show aI (wI h' 39 _) 39 = _; rw [aI_eq, show aI h' 39 = p.2.2.2.2.2 5 from m_k M 5 (by omega)]
            · rw [if_neg y, aI_ne (by omega)]; exact m_k M i hi
      · obtain ⟨-, ⟨k, k1, -⟩, k2, -⟩ := sh_kind P hd e0 e2
        rw [k2, if_pos rfl, cv_ok W.1.1, c_whyRow W hd, k1, bd_some, if_neg (fun y => nomatch y), if_neg e0, if_neg e2, if_neg (by decide)]
        exact UU.same P (-12) rfl rfl
theorem m_adds (M : MDL h' p) (O : Ok p.1 p.2.1) (hn : p.1 < 7) (κ f v : Int32) : f_X12_adds (some 26) κ f v h' = some ((), wI h' 27 (addG p.1 κ f v p.2.1)) := by
  have W := M.1
  have r0 := W.1.2.1
  have e27 := M.2.1.1
  have W2 : ∀ q, Wm (wI h' 27 q) := fun _ => W
  unfold f_X12_adds
  have n0 : ∀ q, aI (wI h' 27 q) 27 = q := fun _ => aI_eq
  have w : ∀ (q : R54) (j : Nat) (v : Int32), j < 54 → iS (wI h' 27 q) (some 27) (i32 j) v = some (wI h' 27 (va_up q j v)) := fun q j v hj => by
    rw [w54 j hj v (show aT (wI h' 27 q) 27 = some (.inl (0, 54)) from r0), aI_eq, wI_wI]
  have x0 : h' = wI h' 27 p.2.1 := by rw [← e27, wI_self]
  have y0 : aI h' 27 0 = i32 p.1 := by rw [e27]; exact O.1.1
  rw [W.o0, sb_some, r54_0 r0, sb_some, sb_some, y0]
  rw [x0]
  generalize hk : wI h' 27 = WW at w n0 W2 ⊢
  have ww : ∀ q, WW q = wI h' 27 q := fun q => by rw [← hk]
  have g0 : ∀ q, gR (WW q) (some 26) [12] 0 = some (some 27) := fun q => (W2 q).o0
  have i1 : ∀ q, iA (WW q) (some 27) 1 = some (q 1) := fun q => by
    rw [r54_1 (by rw [ww]; exact r0), n0]
  have i0 : ∀ q, iA (WW q) (some 27) 0 = some (q 0) := fun q => by
    rw [r54_0 (by rw [ww]; exact r0), n0]
  have s0 : ∀ q v, iS (WW q) (some 27) 0 v = some (WW (va_up q 0 v)) := fun q v => w q 0 v (by omega)
  simp only [m_of0, m_of1, m_of2, m_of3, m_of4, m_of5, m_of6, bd_some, w _ (7 * p.1 + 5) _ (show 7 * p.1 + 5 < 54 by omega), w _ (7 * p.1 + 6) _ (show 7 * p.1 + 6 < 54 by omega), w _ (7 * p.1 + 7) _ (show 7 * p.1 + 7 < 54 by omega), w _ (7 * p.1 + 8) _ (show 7 * p.1 + 8 < 54 by omega), w _ (7 * p.1 + 9) _ (show 7 * p.1 + 9 < 54 by omega), w _ (7 * p.1 + 10) _ (show 7 * p.1 + 10 < 54 by omega), w _ (7 * p.1 + 11) _ (show 7 * p.1 + 11 < 54 by omega), sb_some, g0, m_ringsBy, i1, i0, s0]
  unfold addG
  rw [up_ne (show 1 ≠ 7 * p.1 + 9 by omega), up_ne (show 1 ≠ 7 * p.1 + 8 by omega), up_ne (show 1 ≠ 7 * p.1 + 7 by omega), up_ne (show 1 ≠ 7 * p.1 + 6 by omega), up_ne (show 1 ≠ 7 * p.1 + 5 by omega)]
  rw [up_ne (show 0 ≠ 7 * p.1 + 11 by omega), up_ne (show 0 ≠ 7 * p.1 + 10 by omega), up_ne (show 0 ≠ 7 * p.1 + 9 by omega), up_ne (show 0 ≠ 7 * p.1 + 8 by omega), up_ne (show 0 ≠ 7 * p.1 + 7 by omega), up_ne (show 0 ≠ 7 * p.1 + 6 by omega), up_ne (show 0 ≠ 7 * p.1 + 5 by omega), O.1.1, i32_s]
  have e9 : ∀ q X, wI (WW q) 27 X = WW X := fun q X => by rw [ww q, wI_wI, ww X]
  rw [e9]
theorem hi_addG {n : Nat} {κ f v : Int32} {s : R54} (hn : n < 7) : hi (addG n κ f v s) s := by
  unfold addG
  exact ((((((((hi.rf s).up (by omega)).up (by omega)).up (by omega)).up (by omega)).up (by omega)).up (by omega)).up (by omega)).up (by omega)
theorem U_comes (P : PS p h h') (v1 v2 : Int32) : UU h h' (f_X11_comes (some 0) v1 v2 h) (f_X12_comes (some 26) v1 v2 h') := by
  unfold f_X11_comes f_X12_comes
  have W := P.1.1.1
  have M := P.2
  have O := P.1.1.2.2.1
  rw [c_isShelf, bd_some, m_btw, bd_some]
  cases ew : btw v2 0 99 with
  | false =>
    rw [if_pos pb0]
    cases ev : btw v1 0 7 with
    | false => exact UU.same P (-1) (if_pos pb0) rfl
    | true =>
      rw [if_neg nb1, c_isWeight, bd_some, ew, if_pos pb0]
      exact UU.same P (-1) rfl rfl
  | true =>
    rw [if_neg nb1, cv_ok M.1.1.1]
    cases ev : btw v1 0 7 with
    | false =>
      rw [if_pos pb0, m_wrongKeptNo ev, bd_some, if_neg (by decide)]
      exact UU.same P (-1) rfl rfl
    | true =>
      rw [if_neg nb1, c_isWeight, bd_some, ew, if_neg nb1, cv_ok W.1.1]
      obtain ⟨d, rfl, hd7⟩ := btw_of (m := 7) (by omega) ev
      obtain ⟨w, rfl, hw⟩ := btw_of (m := 99) (by omega) ew
      have hd : d < 8 := by omega
      rw [c_kindOn W hd, bd_some, m_wrongKept M hd, bd_some]
      by_cases e0 : p.2.2.2.2.2 0 d = 0
      · obtain ⟨n1, n2⟩ := sh_none P hd e0
        rw [n1, if_pos rfl, cv_ok W.1.1, c_whyKind W hd, n2, bd_some, if_pos rfl, if_pos e0, if_neg (by decide)]
        exact UU.same P (-11) rfl rfl
      · by_cases e2 : p.2.2.2.2.2 0 d = 2
        · obtain ⟨n1, r, ee, z, n2, -⟩ := sh_row P hd e2
          rw [n1, if_pos rfl, cv_ok W.1.1, c_whyKind W hd, n2, bd_some, if_neg (fun y => nomatch y), if_neg e0, if_pos e2, if_neg (by decide)]
          exact UU.same P (-12) rfl rfl
        · obtain ⟨-, ⟨k, k1, k2⟩, -, k4, k5⟩ := sh_kind P hd e0 e2
          have h7 : p.1 ≤ 7 := O.1.2.1
          rw [k1, if_neg (fun y => nomatch y), W.o0, sb_some, cv_ok W.2.2.1.1.1.1, k_isFull P.1.1.2.1 h7, bd_some, if_neg e0, if_neg e2, if_pos rfl, M.1.o0, sb_some, r54_0 M.1.1.2.1, sb_some, M.2.1.1, O.1.1]
          have e77 : (i32 p.1 = 7) = (p.1 = 7) := i32_eq (b := 7) (by omega) (by omega)
          by_cases e7 : p.1 = 7
          · rw [if_pos (show i32 p.1 = 7 by rw [e77]; exact e7), decide_eq_true e7, if_neg nb1]
            exact UU.same P (-2) rfl rfl
          · rw [if_neg (show ¬ i32 p.1 = 7 by rw [e77]; exact e7), decide_eq_false e7, if_pos pb0]
            obtain ⟨h1, a1, H1, F1⟩ := k_takeIn P.1.1.2.1 O (by omega) (v := i32 w) k2
            have W1 := W.fr F1 (Or.inl rfl)
            have x1 : aI h' 35 = p.2.2.2.2.2 1 := m_k M 1 (by omega)
            have x2 : aI h' 36 = p.2.2.2.2.2 2 := m_k M 2 (by omega)
            have W2 : Wm (wI h' 27 (addG p.1 (p.2.2.2.2.2 1 d) (p.2.2.2.2.2 2 d) (i32 w) p.2.1)) := M.1
            refine UU.house P (i32 (p.1 + 1) - 1) H1 F1 (Ok_addG O (by omega) k4 k5 ⟨w, hw, rfl⟩) (LW_add P.1.1.2.2.2) (hi_addG (by omega)) ?_ ?_
            · simp only [W.o0, sb_some, cv_ok W.2.2.1.1.1.1, a1, bd_some, W1.o0, gI_1 H1.1.1.1, H1.2.1.1]
            · rw [M.1.o13, sb_some, iA_ok M.1.2.2.1.2.1 hd (by omega), sb_some, M.1.o14, sb_some, iA_ok M.1.2.2.1.2.2.1 hd (by omega), sb_some, x1, x2, cv_ok M.1.1.1, m_adds M O (by omega), bd_some, W2.o0, sb_some, r54_0 W2.1.2.1, sb_some, aI_eq]
              congr 3
end ROWS
