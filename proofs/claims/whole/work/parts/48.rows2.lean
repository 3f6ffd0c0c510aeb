/-! COPY, ELEMENT, FORGED, JUDGED -/
section ROWS2
variable {p : ST} {h h' : AH} {r e z : Nat} {srt : Int32} {el : Nat → Int32}
/-- a part of a row is there: from i on, n -/
def hp (z : Nat) (i n : Int32) : Bool := decide (0 ≤ i.toInt ∧ 0 ≤ n.toInt ∧ i.toInt + n.toInt ≤ z)
theorem hp_of {z : Nat} {i n : Int32} (hz : z ≤ 100) (c : hp z i n = true) : ∃ a b : Nat, i = i32 a ∧ n = i32 b ∧ a + b ≤ z := by
  unfold hp at c
  have c := of_decide_eq_true c
  have h0 : (0 : Int32).toInt = 0 := by decide
  obtain ⟨a, rfl, a2, a3⟩ := i32_of (x := i) (by rw [Int32.lt_iff_toInt_lt, h0]; omega)
  obtain ⟨b, rfl, b2, b3⟩ := i32_of (x := n) (by rw [Int32.lt_iff_toInt_lt, h0]; omega)
  exact ⟨a, b, rfl, rfl, by omega⟩
theorem sub_t {z : Nat} {x : Int32} (hz : z ≤ 100) (hx : 0 ≤ x.toInt) : (i32 z - x).toInt = z - x.toInt := by
  have h1 := x.toInt_lt
  rw [Int32.toInt_sub, i32_t (by omega), Int.bmod_eq_of_le (by omega) (by omega)]
theorem k_hasPart (R : RowAt h r e z srt el) (i n : Int32) : f_X7_hasPart (some r) i n h = some (bI (hp z i n), h) := by
  have hz := R.2.1
  have h0 : (0 : Int32).toInt = 0 := by decide
  unfold f_X7_hasPart hp
  by_cases c1 : i < 0
  · rw [if_pos c1]
    rw [Int32.lt_iff_toInt_lt, h0] at c1
    rw [decide_eq_false (by omega)]; rfl
  · rw [if_neg c1]
    rw [Int32.lt_iff_toInt_lt, h0] at c1
    by_cases c2 : n < 0
    · rw [if_pos c2]
      rw [Int32.lt_iff_toInt_lt, h0] at c2
      rw [decide_eq_false (by omega)]; rfl
    · rw [if_neg c2]
      rw [Int32.lt_iff_toInt_lt, h0] at c2
      simp only [gR_1 R.1.2.1, sb_some, R.1.2.2.2.1, lenI_ok R.1.2.2.2.2]
      by_cases c3 : i32 z < n
      · rw [if_pos c3]
        rw [Int32.lt_iff_toInt_lt, i32_t (by omega)] at c3
        rw [decide_eq_false (by omega)]; rfl
      · rw [if_neg c3]
        rw [Int32.lt_iff_toInt_lt, i32_t (by omega)] at c3
        by_cases c4 : i32 z - n < i
        · rw [if_pos c4]
          rw [Int32.lt_iff_toInt_lt, sub_t hz (by omega)] at c4
          rw [decide_eq_false (by omega)]; rfl
        · rw [if_neg c4]
          rw [Int32.lt_iff_toInt_lt, sub_t hz (by omega)] at c4
          rw [decide_eq_true (by omega)]; rfl
theorem m_part {γ : Type} {z1 z2 : Nat} (h1 : z1 ≤ 100) (h2 : z2 ≤ 100) (i j n : Int32) (X Y : γ) : (if n < 0 then X else if i < 0 then X else if j < 0 then X else if i32 z1 - i < n then X else if n ≤ i32 z2 - j then Y else X) = if (hp z1 i n && hp z2 j n) = true then Y else X := by
  have h0 : (0 : Int32).toInt = 0 := by decide
  unfold hp
  by_cases c1 : n < 0
  · rw [if_pos c1]
    rw [Int32.lt_iff_toInt_lt, h0] at c1
    rw [decide_eq_false (by omega)]; rfl
  · rw [if_neg c1]
    rw [Int32.lt_iff_toInt_lt, h0] at c1
    by_cases c2 : i < 0
    · rw [if_pos c2]
      rw [Int32.lt_iff_toInt_lt, h0] at c2
      rw [decide_eq_false (by omega)]; rfl
    · rw [if_neg c2]
      rw [Int32.lt_iff_toInt_lt, h0] at c2
      by_cases c3 : j < 0
      · rw [if_pos c3]
        rw [Int32.lt_iff_toInt_lt, h0] at c3
        rw [decide_eq_false (p := 0 ≤ j.toInt ∧ 0 ≤ n.toInt ∧ j.toInt + n.toInt ≤ z2) (by omega), Bool.and_false]; rfl
      · rw [if_neg c3]
        rw [Int32.lt_iff_toInt_lt, h0] at c3
        by_cases c4 : i32 z1 - i < n
        · rw [if_pos c4]
          rw [Int32.lt_iff_toInt_lt, sub_t h1 (by omega)] at c4
          rw [decide_eq_false (by omega)]; rfl
        · rw [if_neg c4]
          rw [Int32.lt_iff_toInt_lt, sub_t h1 (by omega)] at c4
          rw [decide_eq_true (p := 0 ≤ i.toInt ∧ 0 ≤ n.toInt ∧ i.toInt + n.toInt ≤ z1) (by omega), Bool.true_and]
          by_cases c5 : n ≤ i32 z2 - j
          · rw [if_pos c5]
            rw [Int32.le_iff_toInt_le, sub_t h2 (by omega)] at c5
            rw [decide_eq_true (by omega)]; rfl
          · rw [if_neg c5]
            rw [Int32.le_iff_toInt_le, sub_t h2 (by omega)] at c5
            rw [decide_eq_false (by omega)]; rfl
theorem m_copy_step {d i e j st k : Nat} (W : Wm h') {q : R54} (e39 : aI h' 39 = q) (b1 : 100 * d + i + st < 800) (b2 : 100 * e + j + st < 800) (K : Option Nat → Int32 → Int32 → Int32 → Int32 → Int32 → Int32 → AH → Option (Int32 × AH)) (n : Int32) : f_X12_copy_b147 K (some 26) (i32 d) (i32 i) (i32 e) (i32 j) n (i32 k) (i32 st) h' = K (some 26) (i32 d) (i32 i) (i32 e) (i32 j) n (i32 (k + 1)) (wI h' 39 (va_up q (100 * e + j + st) (q (100 * d + i + st)))) := by
  unfold f_X12_copy_b147
  have x1 : (100 : Int32) * i32 d + i32 i + i32 st = i32 (100 * d + i + st) := by rw [show (100 : Int32) = i32 100 from rfl, i32_mul, i32_add, i32_add]
  have x2 : (100 : Int32) * i32 e + i32 j + i32 st = i32 (100 * e + j + st) := by rw [show (100 : Int32) = i32 100 from rfl, i32_mul, i32_add, i32_add]
  rw [W.o17, sb_some, sb_some, x1, x2, iA_ok W.2.2.1.2.2.2.2.2 b1 (by omega), sb_some, iS_ok W.2.2.1.2.2.2.2.2 b2 (by omega), sb_some, e39, i32_s]
theorem m_copy_asc {d i e j n : Nat} {q0 : R54} (b1 : 100 * d + i + n ≤ 800) (b2 : 100 * e + j + n ≤ 800) (hij : j < i) (ok : 100 * e + j < 100 * d + i ∨ 100 * d + i + n ≤ 100 * e + j) (hi : i < 1000) (hj : j < 1000) : ∀ (k m t : Nat) (h' : AH), Wm h' → (aI h' 39 = fun x => if 100 * e + j ≤ x ∧ x < 100 * e + j + t then q0 (100 * d + i + (x - (100 * e + j))) else q0 x) → k < m → t + k = n → f_X12_copy_b122 m (some 26) (i32 d) (i32 i) (i32 e) (i32 j) (i32 n) (i32 t) h' = some (i32 n, wI h' 39 (va_cpy q0 q0 (100 * d + i) (100 * e + j) n)) := by
  intro k
  induction k with
  | zero =>
    intro m t h' W e39 hm ht
    obtain ⟨m, rfl⟩ := succ_of hm
    rw [e_X12_copy_b122, if_pos (by rw [i32_le (by omega) (by omega)]; omega)]
    have : va_cpy q0 q0 (100 * d + i) (100 * e + j) n = aI h' 39 := by
      rw [e39, show t = n by omega]
      rfl
    rw [this, wI_self]
  | succ k ih =>
    intro m t h' W e39 hm ht
    obtain ⟨m, rfl⟩ := succ_of hm
    rw [e_X12_copy_b122, if_neg (by rw [i32_le (by omega) (by omega)]; omega), if_neg (by rw [i32_le (by omega) (by omega)]; omega), m_copy_step W e39 (by omega) (by omega), ih m (t + 1) (wI h' 39 _) W ?_ (by omega) (by omega), wI_wI]
    rw [aI_eq]
    funext x
    show (if x = 100 * e + j + t then (if 100 * e + j ≤ 100 * d + i + t ∧ 100 * d + i + t < 100 * e + j + t then q0 (100 * d + i + (100 * d + i + t - (100 * e + j))) else q0 (100 * d + i + t)) else (if 100 * e + j ≤ x ∧ x < 100 * e + j + t then q0 (100 * d + i + (x - (100 * e + j))) else q0 x)) = _
    by_cases y : x = 100 * e + j + t
    · subst y
      rw [if_pos rfl, if_neg (by omega), if_pos (by omega), show 100 * e + j + t - (100 * e + j) = t by omega]
    · rw [if_neg y]
      by_cases y2 : 100 * e + j ≤ x ∧ x < 100 * e + j + t
      · rw [if_pos y2, if_pos (by omega)]
      · rw [if_neg y2, if_neg (by omega)]
theorem m_copy_desc {d i e j n : Nat} {q0 : R54} (b1 : 100 * d + i + n ≤ 800) (b2 : 100 * e + j + n ≤ 800) (hij : i ≤ j) (ok : 100 * d + i ≤ 100 * e + j ∨ 100 * e + j + n ≤ 100 * d + i) (hi : i < 1000) (hj : j < 1000) : ∀ (k m t : Nat) (h' : AH), Wm h' → (aI h' 39 = fun x => if 100 * e + j + (n - t) ≤ x ∧ x < 100 * e + j + n then q0 (100 * d + i + (x - (100 * e + j))) else q0 x) → k < m → t + k = n → f_X12_copy_b122 m (some 26) (i32 d) (i32 i) (i32 e) (i32 j) (i32 n) (i32 t) h' = some (i32 n, wI h' 39 (va_cpy q0 q0 (100 * d + i) (100 * e + j) n)) := by
  intro k
  induction k with
  | zero =>
    intro m t h' W e39 hm ht
    obtain ⟨m, rfl⟩ := succ_of hm
    rw [e_X12_copy_b122, if_pos (by rw [i32_le (by omega) (by omega)]; omega)]
    have : va_cpy q0 q0 (100 * d + i) (100 * e + j) n = aI h' 39 := by
      rw [e39, show n - t = 0 by omega]
      rfl
    rw [this, wI_self]
  | succ k ih =>
    intro m t h' W e39 hm ht
    obtain ⟨m, rfl⟩ := succ_of hm
    have ix : i32 n - 1 - i32 t = i32 (n - 1 - t) := by
      rw [show (1 : Int32) = i32 1 from rfl, i32_sub (by omega), i32_sub (by omega)]
    rw [e_X12_copy_b122, if_neg (by rw [i32_le (by omega) (by omega)]; omega), if_pos (by rw [i32_le (by omega) (by omega)]; omega), ix, m_copy_step W e39 (by omega) (by omega), ih m (t + 1) (wI h' 39 _) W ?_ (by omega) (by omega), wI_wI]
    rw [aI_eq]
    funext x
    show (if x = 100 * e + j + (n - 1 - t) then (if 100 * e + j + (n - t) ≤ 100 * d + i + (n - 1 - t) ∧ 100 * d + i + (n - 1 - t) < 100 * e + j + n then q0 (100 * d + i + (100 * d + i + (n - 1 - t) - (100 * e + j))) else q0 (100 * d + i + (n - 1 - t))) else (if 100 * e + j + (n - t) ≤ x ∧ x < 100 * e + j + n then q0 (100 * d + i + (x - (100 * e + j))) else q0 x)) = _
    by_cases y : x = 100 * e + j + (n - 1 - t)
    · subst y
      rw [if_pos rfl, if_neg (by omega), if_pos (by omega), show 100 * e + j + (n - 1 - t) - (100 * e + j) = n - 1 - t by omega]
    · rw [if_neg y]
      by_cases y2 : 100 * e + j + (n - t) ≤ x ∧ x < 100 * e + j + n
      · rw [if_pos y2, if_pos (by omega)]
      · rw [if_neg y2, if_neg (by omega)]
theorem c_holds (W : Wc h) {d : Nat} (hd : d < 8) : f_X11_holdsNothing (some 0) (i32 d) h = some (bI (decide (aR h 22 d = none) && decide (aR h 23 d = none)), h) := by
  unfold f_X11_holdsNothing
  rw [cv_ok W.1.1, c_kindOn W hd, bd_some]
  by_cases c : aR h 22 d = none
  · rw [if_pos c, decide_eq_true c, cv_ok W.1.1, c_rowOn W hd, bd_some]
    by_cases c2 : aR h 23 d = none
    · rw [if_pos c2, decide_eq_true c2]; rfl
    · rw [if_neg c2, decide_eq_false c2]; rfl
  · rw [if_neg c, decide_eq_false c]; rfl
theorem sh_holds (P : PS p h h') {d : Nat} (hd : d < 8) : (decide (aR h 22 d = none) && decide (aR h 23 d = none)) = decide (p.2.2.2.2.2 0 d = 0) := by
  by_cases e0 : p.2.2.2.2.2 0 d = 0
  · obtain ⟨n1, n2⟩ := sh_none P hd e0
    rw [decide_eq_true n1, decide_eq_true n2, decide_eq_true e0]; rfl
  · rw [decide_eq_false e0]
    by_cases e2 : p.2.2.2.2.2 0 d = 2
    · obtain ⟨n1, r, e, z, n2, -⟩ := sh_row P hd e2
      rw [decide_eq_false (p := aR h 23 d = none) (by rw [n2]; exact fun y => nomatch y), Bool.and_false]
    · obtain ⟨-, ⟨k, k1, -⟩, -⟩ := sh_kind P hd e0 e2
      rw [decide_eq_false (by rw [k1]; exact fun y => nomatch y)]; rfl
theorem U_copy (P : PS p h h') (v1 v2 v3 v4 v5 : Int32) : UU h h' (f_X11_copy (some 0) v1 v2 v3 v4 v5 h) (f_X12_copy (some 26) v1 v2 v3 v4 v5 h') := by
  unfold f_X11_copy f_X12_copy
  have W := P.1.1.1
  have M := P.2
  rw [c_isShelf, bd_some, m_isShelf, bd_some]
  cases ev : btw v1 0 7 with
  | false => exact UU.same P (-1) (if_pos pb0) (if_pos pb0)
  | true =>
    rw [if_neg nb1, if_neg nb1, c_isShelf, bd_some, m_isShelf, bd_some]
    cases ew : btw v3 0 7 with
    | false => exact UU.same P (-1) (if_pos pb0) (if_pos pb0)
    | true =>
      obtain ⟨d, rfl, hd7⟩ := btw_of (m := 7) (by omega) ev
      obtain ⟨e, rfl, he7⟩ := btw_of (m := 7) (by omega) ew
      have hd : d < 8 := by omega
      have he : e < 8 := by omega
      rw [if_neg nb1, if_neg nb1]
      simp only [cv_ok W.1.1, c_holds W hd, c_holds W he, sh_holds P hd, sh_holds P he, bd_some, c_rowOn W hd, c_rowOn W he, M.1.o12, M.1.o15, M.1.o16, sb_some, m_kept M hd, m_kept M he, m_sort M hd, m_sort M he, m_size M hd, m_size M he]
      by_cases a0 : p.2.2.2.2.2 0 d = 0
      · rw [decide_eq_true a0, if_neg nb1, if_pos a0]
        exact UU.same P (-11) rfl rfl
      · rw [decide_eq_false a0, if_pos pb0, if_neg a0]
        by_cases b0 : p.2.2.2.2.2 0 e = 0
        · rw [decide_eq_true b0, if_neg nb1, if_pos b0]
          exact UU.same P (-11) rfl rfl
        · rw [decide_eq_false b0, if_pos pb0, if_neg b0]
          by_cases a2 : p.2.2.2.2.2 0 d = 2
          · obtain ⟨-, r1, e1, z1, n1, s1, R1⟩ := sh_row P hd a2
            rw [if_pos a2, n1, if_neg (fun y => nomatch y)]
            by_cases b2 : p.2.2.2.2.2 0 e = 2
            · obtain ⟨-, r2, e2, z2, n2, s2, R2⟩ := sh_row P he b2
              rw [if_pos b2, n2, if_neg (fun y => nomatch y)]
              simp only [gI_1 R1.1.2.1, gI_1 R2.1.2.1, sb_some, R1.1.2.2.1, R2.1.2.2.1, s1, s2, cv_ok R1.1.2.1, cv_ok R2.1.2.1, k_hasPart R1, k_hasPart R2, bd_some]
              by_cases c : p.2.2.2.2.2 3 d = p.2.2.2.2.2 3 e
              · rw [if_pos c, if_pos c, m_part R1.2.1 R2.2.1]
                cases p1 : hp z1 v2 v5 with
                | false => exact UU.same P (-13) (if_pos pb0) (if_neg (by simp))
                | true =>
                  rw [if_neg nb1]
                  cases p2 : hp z2 v4 v5 with
                  | false => exact UU.same P (-13) (if_pos pb0) (if_neg (by simp))
                  | true =>
                    obtain ⟨i, n, rfl, rfl, hin⟩ := hp_of R1.2.1 p1
                    obtain ⟨j, n', rfl, en, hjn⟩ := hp_of R2.2.1 p2
                    have hz1 := R1.2.1
                    have hz2 := R2.2.1
                    have hnn : n = n' := by
                      have := congrArg Int32.toInt en
                      have hn' : n' < 2147483648 := by omega
                      have hn0 : n < 2147483648 := by omega
                      rw [i32_t hn0, i32_t hn'] at this
                      omega
                    subst hnn
                    rw [if_neg nb1, if_pos (by rfl)]
                    have ct : f_X7_take (some r2) (i32 j) (some r1) (i32 i) (i32 n) h = some ((), wI h e2 (va_cpy (aI h e1) (aI h e2) i j n)) := by
                      unfold f_X7_take
                      rw [cv_ok R2.1.2.1, k_hasPart R2, bd_some, p2, if_neg nb1, cv_ok R1.1.2.1, k_hasPart R1, bd_some, p1, if_neg nb1, gR_1 R1.1.2.1, sb_some, gR_1 R2.1.2.1, sb_some, R1.1.2.2.2.1, R2.1.2.2.2.1]
                      unfold cpI
                      simp only [R1.1.2.2.2.2, R2.1.2.2.2.2]
                      rw [i32_cl (by omega), i32_cl (by omega), i32_cl (by omega), if_neg (by
                        rintro (y | y | y | y | y)
                        · exact i32_nn (by omega) y
                        · exact i32_nn (by omega) y
                        · exact i32_nn (by omega) y
                        · omega
                        · omega), sb_some]
                    rw [ct, bd_some]
                    have mc : f_X12_copy_b122 FU (some 26) (i32 d) (i32 i) (i32 e) (i32 j) (i32 n) 0 h' = some (i32 n, wI h' 39 (va_cpy (p.2.2.2.2.2 5) (p.2.2.2.2.2 5) (100 * d + i) (100 * e + j) n)) := by
                      have e39 : aI h' 39 = p.2.2.2.2.2 5 := m_k M 5 (by omega)
                      have dis : d = e ∨ d < e ∨ e < d := by omega
                      by_cases y : i ≤ j
                      · refine m_copy_desc (q0 := p.2.2.2.2.2 5) (by omega) (by omega) y (by omega) (by omega) (by omega) n FU 0 h' M.1 ?_ (fu_pos (by omega)) (by omega)
                        rw [e39]
                        funext x
                        rw [if_neg (by omega)]
                      · refine m_copy_asc (q0 := p.2.2.2.2.2 5) (by omega) (by omega) (by omega) (by omega) (by omega) (by omega) n FU 0 h' M.1 ?_ (fu_pos (by omega)) (by omega)
                        rw [e39]
                        funext x
                        rw [if_neg (by omega)]
                    rw [mc]
                    obtain ⟨f1, f2, f3, f4, f5⟩ := FrRow (q := va_cpy (aI h e1) (aI h e2) i j n) P R2
                    refine UU.shelf (h1' := wI h' 39 (va_cpy (p.2.2.2.2.2 5) (p.2.2.2.2.2 5) (100 * d + i) (100 * e + j) n)) P (i32 n) (κ' := fun i2 => if i2 = 5 then va_cpy (p.2.2.2.2.2 5) (p.2.2.2.2.2 5) (100 * d + i) (100 * e + j) n else p.2.2.2.2.2 i2) f1 f2 f3 f4 (P.1.2.2.el he n2 R2 (fun i2 hi2 => if_neg (by omega)) (fun j2 hj2 ne i2 hi2 => ?_) (fun i2 hi2 => ?_) (fun i2 hi2 => ?_)) f5 ⟨⟨rfl, rfl, rfl, rfl⟩, fun c hc => aI_ne (by omega)⟩ (fun c hc => aI_ne (by omega)) (fun i2 hi2 => ?_) rfl rfl
                    · show va_cpy (p.2.2.2.2.2 5) (p.2.2.2.2.2 5) (100 * d + i) (100 * e + j) n (100 * j2 + i2) = _
                      unfold va_cpy
                      rw [if_neg (by omega)]
                    · show va_cpy (aI h e1) (aI h e2) i j n i2 = va_cpy (p.2.2.2.2.2 5) (p.2.2.2.2.2 5) (100 * d + i) (100 * e + j) n (100 * e + i2)
                      unfold va_cpy
                      by_cases y : j ≤ i2 ∧ i2 < j + n
                      · rw [if_pos y, if_pos (by omega), R1.2.2.2 _ (by omega)]
                        exact congrArg (p.2.2.2.2.2 5) (show 100 * d + (i + (i2 - j)) = 100 * d + i + (100 * e + i2 - (100 * e + j)) by omega)
                      · rw [if_neg y, if_neg (by omega), R2.2.2.2 _ hi2]
                    · show va_cpy (p.2.2.2.2.2 5) (p.2.2.2.2.2 5) (100 * d + i) (100 * e + j) n (100 * e + i2) = _ ∨ ok8 _ (va_cpy (p.2.2.2.2.2 5) (p.2.2.2.2.2 5) (100 * d + i) (100 * e + j) n (100 * e + i2))
                      unfold va_cpy
                      by_cases y : j ≤ i2 ∧ i2 < j + n
                      · rw [if_pos (show 100 * e + j ≤ 100 * e + i2 ∧ 100 * e + i2 < 100 * e + j + n by omega)]
                        refine Or.inr ?_
                        rw [← c, show 100 * d + i + (100 * e + i2 - (100 * e + j)) = 100 * d + (i + (i2 - j)) by omega]
                        exact sh_row8 P hd a2 s1 hz1 _ (by omega)
                      · exact Or.inl (if_neg (by omega))
                    · by_cases y : i2 = 5
                      · subst y; rw [if_pos rfl]; exact aI_eq
                      · rw [if_neg y, aI_ne (by omega)]; exact m_k M i2 hi2
              · rw [if_neg c, if_neg c]
                exact UU.same P (-12) rfl rfl
            · obtain ⟨-, -, k2, -⟩ := sh_kind P he b0 b2
              rw [k2, if_pos rfl, if_neg b2]
              exact UU.same P (-12) rfl rfl
          · obtain ⟨-, -, k2, -⟩ := sh_kind P hd a0 a2
            rw [k2, if_pos rfl, if_neg a2]
            exact UU.same P (-12) rfl rfl
end ROWS2
