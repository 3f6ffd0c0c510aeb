/-! THE REFERENCE, IN ONE ROW OF 54 INTS: 0 guests, 1 day, 2 relief, 3 board, 4 dance; of guest g: 7g+5 kind, +6 figure, +7 weight, +8 entered, +9 secrets, +10 came, +11 in -/
abbrev R54 : Type := Nat → Int32
def hld (v : Int32) : Int32 := if 0 ≤ v then (if v ≤ 99 then v else 99) else 0
def rng (k f : Int32) : Int32 := if k = 1 then f else if k = 3 then f / 2 else if k = 4 then 2 * f else if k = 5 then f / 2 + 1 else if k = 7 then f else 0
def eat (k b : Int32) : Int32 := if k = 1 then b / 2 else if k = 2 then b + 1 else if k = 4 then b / 2 + 2 else if k = 5 then 2 * b else if k = 6 then hld (b - 1) else if k = 7 then b / 2 else b
def dnc (k f d : Int32) : Int32 := if k = 1 then 1 else if k = 2 then d + f / 3 else if k = 4 then 1 else if k = 5 then hld (d - 1) else if k = 6 then (d + f / 3) / 2 else if k = 7 then d + 1 else d
def lgt (k f : Int32) : Int32 := if k = 1 then f / 2 else if k = 2 then 0 else if k = 4 then f / 2 + 1 else if k = 5 then 3 else if k = 7 then f / 2 else 1
def sty (k f : Int32) : Int32 := if k = 2 then f else if k = 6 then f else if k = 4 then 9 else 0
def cst (k f : Int32) : Int32 := if k = 1 then 2 + f else if k = 2 then 1 else if k = 3 then 5 else if k = 4 then 2 * (2 + f) else if k = 5 then 0 else if k = 6 then 0 else if k = 7 then 1 + f else 2
def mg (s : R54) (g : Nat) : Bool := decide (s (7 * g + 11) = 1) && (decide (s (7 * g + 7) < s (7 * g + 8)) && decide (sty (s (7 * g + 5)) (s (7 * g + 6)) ≤ s 1 - s (7 * g + 10)))
def fst (F : Int32) (g : Nat) : Bool := decide ((F >>> (i32 g &&& 31)) &&& 1 = 1)
def eat1 (F : Int32) (g : Nat) (s : R54) : R54 := if s (7 * g + 11) = 1 then va_up s (7 * g + 7) (hld (hld (s (7 * g + 7) + (if fst F g then 0 else eat (s (7 * g + 5)) (s 3))) - dnc (s (7 * g + 5)) (s (7 * g + 6)) (s 4))) else s
def rlf (s : R54) (g : Nat) : Int32 := if s 2 + s (7 * g + 8) - s (7 * g + 7) ≤ 9999 then s 2 + s (7 * g + 8) - s (7 * g + 7) else 9999
def go1 (g : Nat) (s : R54) : R54 := if mg s g then va_up (va_up s (7 * g + 11) 0) 2 (rlf s g) else s
/-- a day: n guests, those of F eat nothing -/
def dayM (n : Nat) (F : Int32) (s : R54) : R54 := fld go1 0 n (fld (eat1 F) 0 n (va_up s 1 (s 1 + 1)))
def daysM (n : Nat) : Nat → R54 → R54
  | 0, s => s
  | k + 1, s => daysM n k (dayM n 0 s)
section MOD
variable {h : AH} {c n g : Nat}
theorem m_of (g w : Nat) : f_X12_of (i32 g) (i32 w) h = some (i32 (7 * g + 5 + w), h) := by
  unfold f_X12_of
  show some (i32 5 + i32 7 * i32 g + i32 w, h) = _
  rw [i32_mul, i32_add, i32_add, Nat.add_comm 5]
theorem m_of0 (g : Nat) : f_X12_of (i32 g) 0 h = some (i32 (7 * g + 5), h) := m_of g 0
theorem m_of1 (g : Nat) : f_X12_of (i32 g) 1 h = some (i32 (7 * g + 6), h) := m_of g 1
theorem m_of2 (g : Nat) : f_X12_of (i32 g) 2 h = some (i32 (7 * g + 7), h) := m_of g 2
theorem m_of3 (g : Nat) : f_X12_of (i32 g) 3 h = some (i32 (7 * g + 8), h) := m_of g 3
theorem m_of4 (g : Nat) : f_X12_of (i32 g) 4 h = some (i32 (7 * g + 9), h) := m_of g 4
theorem m_of5 (g : Nat) : f_X12_of (i32 g) 5 h = some (i32 (7 * g + 10), h) := m_of g 5
theorem m_of6 (g : Nat) : f_X12_of (i32 g) 6 h = some (i32 (7 * g + 11), h) := m_of g 6
section CELL
variable (hT : aT h c = some (.inl (0, 54)))
theorem r54 (j : Nat) (hj : j < 54) (hT : aT h c = some (.inl (0, 54))) : iA h (some c) (i32 j) = some (aI h c j) := iA_ok hT hj (by omega)
theorem w54 (j : Nat) (hj : j < 54) (v : Int32) (hT : aT h c = some (.inl (0, 54))) : iS h (some c) (i32 j) v = some (wI h c (va_up (aI h c) j v)) := iS_ok hT hj (by omega)
theorem r54_0 (hT : aT h c = some (.inl (0, 54))) : iA h (some c) 0 = some (aI h c 0) := r54 0 (by omega) hT
theorem r54_1 (hT : aT h c = some (.inl (0, 54))) : iA h (some c) 1 = some (aI h c 1) := r54 1 (by omega) hT
theorem r54_2 (hT : aT h c = some (.inl (0, 54))) : iA h (some c) 2 = some (aI h c 2) := r54 2 (by omega) hT
theorem r54_3 (hT : aT h c = some (.inl (0, 54))) : iA h (some c) 3 = some (aI h c 3) := r54 3 (by omega) hT
theorem r54_4 (hT : aT h c = some (.inl (0, 54))) : iA h (some c) 4 = some (aI h c 4) := r54 4 (by omega) hT
theorem w54_0 {v : Int32} (hT : aT h c = some (.inl (0, 54))) : iS h (some c) 0 v = some (wI h c (va_up (aI h c) 0 v)) := w54 0 (by omega) v hT
theorem w54_1 {v : Int32} (hT : aT h c = some (.inl (0, 54))) : iS h (some c) 1 v = some (wI h c (va_up (aI h c) 1 v)) := w54 1 (by omega) v hT
theorem w54_2 {v : Int32} (hT : aT h c = some (.inl (0, 54))) : iS h (some c) 2 v = some (wI h c (va_up (aI h c) 2 v)) := w54 2 (by omega) v hT
theorem w54_3 {v : Int32} (hT : aT h c = some (.inl (0, 54))) : iS h (some c) 3 v = some (wI h c (va_up (aI h c) 3 v)) := w54 3 (by omega) v hT
theorem w54_4 {v : Int32} (hT : aT h c = some (.inl (0, 54))) : iS h (some c) 4 v = some (wI h c (va_up (aI h c) 4 v)) := w54 4 (by omega) v hT
end CELL
theorem m_held (v : Int32) : f_X12_held v h = some (hld v, h) := by
  unfold f_X12_held hld
  split
  · split <;> rfl
  · rfl
theorem m_isIn (v a b : Int32) : f_X12_isIn v a b h = some (bI (decide (a ≤ v) && decide (v ≤ b)), h) := by
  unfold f_X12_isIn
  by_cases h1 : v < a
  · rw [if_pos h1, decide_eq_false (Int32.not_le.mpr h1)]; rfl
  · rw [if_neg h1, decide_eq_true (Int32.not_lt.mp h1)]
    by_cases h2 : b < v
    · rw [if_pos h2, decide_eq_false (Int32.not_le.mpr h2)]; rfl
    · rw [if_neg h2, decide_eq_true (Int32.not_lt.mp h2)]; rfl
theorem m_ringsBy (k f : Int32) : f_X12_ringsBy k f h = some (rng k f, h) := by
  unfold f_X12_ringsBy rng
  repeat' split
  all_goals rfl
theorem m_eatsBy (k b : Int32) : f_X12_eatsBy k b h = some (eat k b, h) := by
  unfold f_X12_eatsBy eat
  simp only [m_held, bd_some]
  repeat' split
  all_goals rfl
theorem m_dancesBy (k f d : Int32) : f_X12_dancesBy k f d h = some (dnc k f d, h) := by
  unfold f_X12_dancesBy dnc
  simp only [m_held, bd_some]
  repeat' split
  all_goals rfl
theorem m_lighterBy (k f : Int32) : f_X12_lighterBy k f h = some (lgt k f, h) := by
  unfold f_X12_lighterBy lgt
  repeat' split
  all_goals rfl
theorem m_staysBy (k f : Int32) : f_X12_staysBy k f h = some (sty k f, h) := by
  unfold f_X12_staysBy sty
  repeat' split
  all_goals rfl
theorem m_costBy (k f : Int32) : f_X12_costBy k f h = some (cst k f, h) := by
  unfold f_X12_costBy cst
  repeat' split
  all_goals rfl
theorem m_has (F : Int32) (g : Nat) : f_X12_has F (i32 g) h = some (bI (fst F g), h) := by
  unfold f_X12_has fst
  split
  · rename_i e; rw [decide_eq_true e]; rfl
  · rename_i e; rw [decide_eq_false e]; rfl
theorem m_isHere (hT : aT h c = some (.inl (0, 54))) (hg : g < 7) : f_X12_isHere (some c) (i32 g) h = some (bI (decide (aI h c (7 * g + 11) = 1)), h) := by
  unfold f_X12_isHere
  rw [m_of6, bd_some, r54 _ (by omega) hT, sb_some]
  split
  · rename_i e; rw [decide_eq_true e]; rfl
  · rename_i e; rw [decide_eq_false e]; rfl
theorem m_mayGo (hT : aT h c = some (.inl (0, 54))) (hg : g < 7) : f_X12_mayGo (some c) (i32 g) h = some (bI (mg (aI h c) g), h) := by
  unfold f_X12_mayGo mg
  simp only [m_isHere hT hg, bd_some, bI_0, m_of2, m_of3, m_of5, m_of0, m_of1, r54 (7 * g + 7) (by omega) hT, r54 (7 * g + 8) (by omega) hT, r54 (7 * g + 10) (by omega) hT, r54 (7 * g + 5) (by omega) hT, r54 (7 * g + 6) (by omega) hT, r54_1 hT, sb_some, m_staysBy, decide_eq_false_iff_not]
  by_cases e1 : aI h c (7 * g + 11) = 1
  · rw [if_neg (fun z => z e1), decide_eq_true e1]
    by_cases e2 : aI h c (7 * g + 8) ≤ aI h c (7 * g + 7)
    · rw [if_pos e2, decide_eq_false (Int32.not_lt.mpr e2)]; rfl
    · rw [if_neg e2, decide_eq_true (Int32.not_le.mp e2)]
      split
      · rename_i e3; rw [decide_eq_false (Int32.not_le.mpr e3)]; rfl
      · rename_i e3; rw [decide_eq_true (Int32.not_lt.mp e3)]; rfl
  · rw [if_pos e1, decide_eq_false e1]; rfl
theorem m_day_b112 (h7 : n ≤ 7) : ∀ (k m g : Nat) (h : AH), aT h c = some (.inl (0, 54)) → aI h c 0 = i32 n → k < m → g + k = n → f_X12_day_b112 m (some c) (i32 g) h = some ((), wI h c (fld go1 g k (aI h c))) := by
  intro k
  induction k with
  | zero =>
    intro m g h hT hn hm hg
    obtain ⟨m, rfl⟩ := succ_of hm
    rw [f_X12_day_b112]
    simp only [r54_0 hT, sb_some, hn, i32_le (a := n) (b := g) (by omega) (by omega), if_pos (show n ≤ g by omega), fld_0, wI_self]
  | succ k ih =>
    intro m g h hT hn hm hg
    obtain ⟨m, rfl⟩ := succ_of hm
    rw [f_X12_day_b112]
    simp only [r54_0 hT, sb_some, hn, i32_le (a := n) (b := g) (by omega) (by omega), if_neg (show ¬ n ≤ g by omega), m_mayGo hT (show g < 7 by omega), bd_some, bI_0, i32_s, fld_s]
    cases e : mg (aI h c) g with
    | false =>
      rw [if_pos rfl, ih m (g + 1) h hT hn (by omega) (by omega)]
      unfold go1
      rw [e]
      rfl
    | true =>
      rw [if_neg (by decide)]
      simp only [m_of6, m_of3, m_of2, bd_some, w54 (7 * g + 11) (by omega) _ hT, sb_some]
      have hT2 : aT (wI h c (va_up (aI h c) (7 * g + 11) 0)) c = some (.inl (0, 54)) := hT
      simp only [r54_2 hT2, r54 (7 * g + 8) (by omega) hT2, r54 (7 * g + 7) (by omega) hT2, sb_some, nm_eq, w54_2 hT2, aI_eq, wI_wI]
      rw [up_ne (show 2 ≠ 7 * g + 11 by omega), up_ne (show 7 * g + 8 ≠ 7 * g + 11 by omega), up_ne (show 7 * g + 7 ≠ 7 * g + 11 by omega)]
      have key : go1 g (aI h c) = va_up (va_up (aI h c) (7 * g + 11) 0) 2 (rlf (aI h c) g) := by
        unfold go1
        rw [e, if_pos rfl]
      rw [key]
      unfold rlf
      split
      · rw [ih m (g + 1) _ (by exact hT) (by rw [aI_eq, up_ne (by omega), up_ne (by omega)]; exact hn) (by omega) (by omega), aI_eq, wI_wI]
      · rw [ih m (g + 1) _ (by exact hT) (by rw [aI_eq, up_ne (by omega), up_ne (by omega)]; exact hn) (by omega) (by omega), aI_eq, wI_wI]
theorem m_day_b67 (hT : aT h c = some (.inl (0, 54))) (hg : g < 7) (k9 : Option Nat → Int32 → Int32 → AH → Option (Unit × AH)) (F e : Int32) : f_X12_day_b67 k9 (some c) F (i32 g) (aI h c (7 * g + 5)) e (aI h c (7 * g + 7)) (i32 (7 * g + 7)) (some c) h = k9 (some c) F (i32 (g + 1)) (wI h c (va_up (aI h c) (7 * g + 7) (hld (hld (aI h c (7 * g + 7) + e) - dnc (aI h c (7 * g + 5)) (aI h c (7 * g + 6)) (aI h c 4))))) := by
  unfold f_X12_day_b67
  simp only [m_held, bd_some, w54 (7 * g + 7) (by omega) _ hT, sb_some, m_of2, m_of1]
  have hT2 : ∀ f, aT (wI h c f) c = some (.inl (0, 54)) := fun _ => hT
  simp only [r54 (7 * g + 7) (by omega) (hT2 _), r54 (7 * g + 6) (by omega) (hT2 _), r54_4 (hT2 _), sb_some, m_dancesBy, m_held, bd_some, w54 (7 * g + 7) (by omega) _ (hT2 _), aI_eq, wI_wI, up_up, i32_s, up_eq]
  rw [up_ne (show 7 * g + 6 ≠ 7 * g + 7 by omega), up_ne (show 4 ≠ 7 * g + 7 by omega)]
theorem eat1_0 (F : Int32) (g : Nat) (s : R54) : eat1 F g s 0 = s 0 := by
  unfold eat1
  split
  · exact up_ne (by omega)
  · rfl
theorem m_day_b9 (h7 : n ≤ 7) (F : Int32) : ∀ (k m g : Nat) (h : AH), aT h c = some (.inl (0, 54)) → aI h c 0 = i32 n → k < m → g + k = n → f_X12_day_b9 m (some c) F (i32 g) h = some ((), wI h c (fld go1 0 n (fld (eat1 F) g k (aI h c)))) := by
  intro k
  induction k with
  | zero =>
    intro m g h hT hn hm hg
    obtain ⟨m, rfl⟩ := succ_of hm
    rw [f_X12_day_b9]
    simp only [r54_0 hT, sb_some, hn, i32_le (a := n) (b := g) (by omega) (by omega), if_pos (show n ≤ g by omega), fld_0]
    exact m_day_b112 h7 n FU 0 h hT hn (fu_pos (by omega)) (by omega)
  | succ k ih =>
    intro m g h hT hn hm hg
    obtain ⟨m, rfl⟩ := succ_of hm
    rw [f_X12_day_b9]
    simp only [r54_0 hT, sb_some, hn, i32_le (a := n) (b := g) (by omega) (by omega), if_neg (show ¬ n ≤ g by omega), m_isHere hT (show g < 7 by omega), bd_some, bI_0, i32_s, fld_s, decide_eq_false_iff_not]
    by_cases e : aI h c (7 * g + 11) = 1
    · rw [if_neg (fun z => z e)]
      simp only [m_of0, m_of2, bd_some, r54 (7 * g + 5) (by omega) hT, r54 (7 * g + 7) (by omega) hT, sb_some, m_has, bI_0, r54_3 hT, m_eatsBy, m_day_b67 hT (show g < 7 by omega)]
      have key : ∀ v, (if fst F g = false then eat (aI h c (7 * g + 5)) (aI h c 3) else 0) = v → eat1 F g (aI h c) = va_up (aI h c) (7 * g + 7) (hld (hld (aI h c (7 * g + 7) + v) - dnc (aI h c (7 * g + 5)) (aI h c (7 * g + 6)) (aI h c 4))) := by
        intro v hv
        unfold eat1
        rw [if_pos e, ← hv]
        cases fst F g <;> rfl
      cases ef : fst F g with
      | false =>
        rw [if_pos rfl, ih m (g + 1) _ (by exact hT) (by rw [aI_eq, up_ne (by omega)]; exact hn) (by omega) (by omega), aI_eq, wI_wI, key _ (by rw [ef, if_pos rfl])]
      | true =>
        rw [if_neg (by decide), ih m (g + 1) _ (by exact hT) (by rw [aI_eq, up_ne (by omega)]; exact hn) (by omega) (by omega), aI_eq, wI_wI, key 0 (by rw [ef]; rfl)]
    · rw [if_pos e, ih m (g + 1) h hT hn (by omega) (by omega)]
      unfold eat1
      rw [if_neg e]
theorem m_day (hT : aT h c = some (.inl (0, 54))) (hn : aI h c 0 = i32 n) (h7 : n ≤ 7) (F : Int32) : f_X12_day (some c) F h = some ((), wI h c (dayM n F (aI h c))) := by
  unfold f_X12_day dayM
  simp only [r54_1 hT, sb_some, w54_1 hT]
  exact (m_day_b9 h7 F n FU 0 _ (by exact hT) (by rw [aI_eq, up_ne (by omega)]; exact hn) (fu_pos (by omega)) (by omega)).trans (by rw [aI_eq, wI_wI])
theorem go1_0 (g : Nat) (s : R54) : go1 g s 0 = s 0 := by
  unfold go1
  split
  · rw [up_ne (by omega), up_ne (by omega)]
  · rfl
theorem dayM_0 (n : Nat) (F : Int32) (s : R54) : dayM n F s 0 = s 0 := by
  unfold dayM
  refine fld_ind (fun _ r => r 0 = s 0) n 0 _ ?_ (fun j b _ _ e => (go1_0 j b).trans e)
  refine fld_ind (fun _ r => r 0 = s 0) n 0 _ ?_ (fun j b _ _ e => (eat1_0 F j b).trans e)
  exact up_ne (by omega)
theorem m_daysOn_b2 (h7 : n ≤ 7) {N : Nat} (hN : N < 1000) : ∀ (k m g : Nat) (h : AH), aT h c = some (.inl (0, 54)) → aI h c 0 = i32 n → k < m → g + k = N → f_X12_daysOn_b2 m (some c) (i32 N) (i32 g) h = some ((), wI h c (daysM n k (aI h c))) := by
  intro k
  induction k with
  | zero =>
    intro m g h hT hn hm hg
    obtain ⟨m, rfl⟩ := succ_of hm
    rw [f_X12_daysOn_b2]
    simp only [i32_le (a := N) (b := g) (by omega) (by omega), if_pos (show N ≤ g by omega), daysM, wI_self]
  | succ k ih =>
    intro m g h hT hn hm hg
    obtain ⟨m, rfl⟩ := succ_of hm
    rw [f_X12_daysOn_b2]
    simp only [i32_le (a := N) (b := g) (by omega) (by omega), if_neg (show ¬ N ≤ g by omega), m_day hT hn h7, bd_some, i32_s, daysM]
    rw [ih m (g + 1) _ (by exact hT) (by rw [aI_eq, dayM_0]; exact hn) (by omega) (by omega), aI_eq, wI_wI]
theorem m_daysOn (hT : aT h c = some (.inl (0, 54))) (hn : aI h c 0 = i32 n) (h7 : n ≤ 7) {N : Nat} (hN : N < 1000) : f_X12_daysOn (some c) (i32 N) h = some ((), wI h c (daysM n N (aI h c))) :=
  m_daysOn_b2 h7 hN N FU 0 h hT hn (fu_pos (by omega)) (by omega)
def sI (n : Nat) (s : R54) : Int32 := fld (fun g a => a ||| (s (7 * g + 11) <<< (i32 g &&& 31))) 0 n 0
def wA (n : Nat) (s : R54) : Int32 := fld (fun g a => a + (if s (7 * g + 11) = 1 then s (7 * g + 7) else 0)) 0 n 0
theorem m_hereIn_b4 (h7 : n ≤ 7) (hT : aT h c = some (.inl (0, 54))) (hn : aI h c 0 = i32 n) : ∀ (k m g : Nat) (a : Int32), k < m → g + k = n → f_X12_hereIn_b4 m (some c) a (i32 g) h = some (fld (fun g a => a ||| (aI h c (7 * g + 11) <<< (i32 g &&& 31))) g k a, h) := by
  intro k
  induction k with
  | zero =>
    intro m g a hm hg
    obtain ⟨m, rfl⟩ := succ_of hm
    rw [f_X12_hereIn_b4]
    simp only [r54_0 hT, sb_some, hn, i32_le (a := n) (b := g) (by omega) (by omega), if_pos (show n ≤ g by omega), fld_0]
  | succ k ih =>
    intro m g a hm hg
    obtain ⟨m, rfl⟩ := succ_of hm
    rw [f_X12_hereIn_b4]
    simp only [r54_0 hT, sb_some, hn, i32_le (a := n) (b := g) (by omega) (by omega), if_neg (show ¬ n ≤ g by omega), m_of6, bd_some, r54 (7 * g + 11) (by omega) hT, nm_eq, i32_s, fld_s]
    exact ih m (g + 1) _ (by omega) (by omega)
theorem m_hereIn (hT : aT h c = some (.inl (0, 54))) (hn : aI h c 0 = i32 n) (h7 : n ≤ 7) : f_X12_hereIn (some c) h = some (sI n (aI h c), h) :=
  m_hereIn_b4 h7 hT hn n FU 0 0 (fu_pos (by omega)) (by omega)
theorem m_weightIn_b4 (h7 : n ≤ 7) (hT : aT h c = some (.inl (0, 54))) (hn : aI h c 0 = i32 n) : ∀ (k m g : Nat) (a : Int32), k < m → g + k = n → f_X12_weightIn_b4 m (some c) a (i32 g) h = some (fld (fun g a => a + (if aI h c (7 * g + 11) = 1 then aI h c (7 * g + 7) else 0)) g k a, h) := by
  intro k
  induction k with
  | zero =>
    intro m g a hm hg
    obtain ⟨m, rfl⟩ := succ_of hm
    rw [f_X12_weightIn_b4]
    simp only [r54_0 hT, sb_some, hn, i32_le (a := n) (b := g) (by omega) (by omega), if_pos (show n ≤ g by omega), fld_0]
  | succ k ih =>
    intro m g a hm hg
    obtain ⟨m, rfl⟩ := succ_of hm
    rw [f_X12_weightIn_b4]
    simp only [r54_0 hT, sb_some, hn, i32_le (a := n) (b := g) (by omega) (by omega), if_neg (show ¬ n ≤ g by omega), m_isHere hT (show g < 7 by omega), bd_some, bI_0, decide_eq_false_iff_not, m_of2, r54 (7 * g + 7) (by omega) hT, nm_eq, i32_s, fld_s, f_X12_weightIn_b31, ih m (g + 1) _ (by omega) (by omega)]
    by_cases e : aI h c (7 * g + 11) = 1
    · rw [if_neg (fun z => z e), if_pos e]
    · rw [if_pos e, if_neg e]
theorem m_weightIn (hT : aT h c = some (.inl (0, 54))) (hn : aI h c 0 = i32 n) (h7 : n ≤ 7) : f_X12_weightIn (some c) h = some (wA n (aI h c), h) :=
  m_weightIn_b4 h7 hT hn n FU 0 0 (fu_pos (by omega)) (by omega)
end MOD
