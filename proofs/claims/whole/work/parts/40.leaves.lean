/-! WHO LEAVES FIRST; LOANS -/
/-- the first of i .. i + k - 1 with p; i + k if there is none -/
def fk (p : Nat → Bool) : Nat → Nat → Nat
  | i, 0 => i
  | i, k + 1 => if p i then i else fk p (i + 1) k
theorem fk_0 (p : Nat → Bool) (i : Nat) : fk p i 0 = i := rfl
theorem fk_s (p : Nat → Bool) (i k : Nat) : fk p i (k + 1) = if p i then i else fk p (i + 1) k := rfl
theorem fk_sp (p : Nat → Bool) : ∀ (k i : Nat), i ≤ fk p i k ∧ fk p i k ≤ i + k ∧ (fk p i k < i + k → p (fk p i k) = true) ∧ ∀ j, i ≤ j → j < fk p i k → p j = false
  | 0, i => ⟨Nat.le_refl _, Nat.le_refl _, fun z => absurd z (Nat.lt_irrefl _), fun j h1 h2 => absurd h2 (Nat.not_lt.mpr h1)⟩
  | k + 1, i => by
    rw [fk_s]
    by_cases e : p i = true
    · rw [if_pos e]
      exact ⟨Nat.le_refl _, by omega, fun _ => e, fun j h1 h2 => absurd h2 (Nat.not_lt.mpr h1)⟩
    · rw [if_neg e]
      obtain ⟨a1, a2, a3, a4⟩ := fk_sp p k (i + 1)
      refine ⟨by omega, by omega, fun z => a3 (by omega), fun j h1 h2 => ?_⟩
      by_cases e2 : j = i
      · subst e2; exact (Bool.not_eq_true _).mp e
      · exact a4 j (by omega) h2
theorem fk_eq {p : Nat → Bool} {i k a : Nat} (h1 : i ≤ a) (h2 : a < i + k) (h3 : p a = true) (h4 : ∀ j, i ≤ j → j < a → p j = false) : fk p i k = a := by
  obtain ⟨a1, a2, a3, a4⟩ := fk_sp p k i
  rcases Nat.lt_trichotomy (fk p i k) a with z | z | z
  · have := h4 _ a1 z
    rw [a3 (by omega)] at this
    cases this
  · exact z
  · have := a4 a h1 z
    rw [h3] at this
    cases this
theorem daysM_end (n : Nat) : ∀ (k : Nat) (s : R54), daysM n (k + 1) s = dayM n 0 (daysM n k s)
  | 0, _ => rfl
  | k + 1, s => daysM_end n k (dayM n 0 s)
theorem k_lowestOf_b2 {S : Nat} (hS : S < 128) {h : AH} : ∀ (k m i : Nat), k < m → i + k = 6 → f_X11_lowestOf_b2 m (i32 S) (i32 i) h = some (i32 (fk S.testBit i k), h) := by
  intro k
  induction k with
  | zero =>
    intro m i hm hi
    obtain ⟨m, rfl⟩ := succ_of hm
    rw [e_X11_lowestOf_b2, show i = 6 by omega]
    exact if_pos (by decide)
  | succ k ih =>
    intro m i hm hi
    obtain ⟨m, rfl⟩ := succ_of hm
    rw [e_X11_lowestOf_b2, if_neg (show ¬ (6 : Int32) ≤ i32 i by rw [show (6 : Int32) = i32 6 from rfl, i32_le (by omega) (by omega)]; omega), bt_at S hS i (by omega), fk_s]
    cases e : S.testBit i with
    | false => rw [if_pos pb0, i32_s, ih m (i + 1) (by omega) (by omega)]; rfl
    | true => rw [if_neg nb1]; rfl
theorem k_lowestOf {S : Nat} (hS : S < 128) {h : AH} : f_X11_lowestOf (i32 S) h = some (i32 (fk S.testBit 0 6), h) :=
  k_lowestOf_b2 hS 6 FU 0 (fu_pos (by omega)) (by omega)
theorem inP_dayO {g : Nat} {u : R54} (e : inP u g = false) : inP (dayO g u) g = false := by
  unfold dayO dayW
  unfold inP at e ⊢
  have e1 := of_decide_eq_false e
  have e2 : eatW (eat (u (7 * g + 5)) (u 3)) g (va_up u 1 (u 1 + 1)) = va_up u 1 (u 1 + 1) := by
    unfold eatW
    rw [if_neg (by rw [up_ne (by omega)]; exact e1)]
  rw [e2]
  unfold go1
  split
  · rw [up_ne (by omega), up_eq]; decide
  · rw [up_ne (by omega)]; exact e
theorem inP_dayM {n g : Nat} {u : R54} (h7 : n ≤ 7) (hg : g < n) (e : inP u g = false) : inP (dayM n 0 u) g = false := by
  rw [(agr_dayO h7 hg (agr.rf g u)).in]
  exact inP_dayO e
section LV
variable {n : Nat} {s : R54} {h h' : AH}
/-- behind how many days g has left; 61: not by then -/
def Lv (n : Nat) (s : R54) (g : Nat) : Nat := fk (fun k => !inP (daysM n k s) g) 0 61
theorem out_mono (h7 : n ≤ 7) {g : Nat} (hg : g < n) : ∀ (d k : Nat), inP (daysM n k s) g = false → inP (daysM n (k + d) s) g = false
  | 0, _, e => e
  | d + 1, k, e => by
    rw [show k + (d + 1) = (k + d) + 1 by omega, daysM_end]
    exact inP_dayM h7 hg (out_mono h7 hg d k e)
theorem Lv_le (h7 : n ≤ 7) {g k : Nat} (hg : g < n) (hk : k ≤ 60) : (inP (daysM n k s) g = false) ↔ Lv n s g ≤ k := by
  obtain ⟨a1, a2, a3, a4⟩ := fk_sp (fun k => !inP (daysM n k s) g) 61 0
  constructor
  · intro e
    refine Nat.not_lt.mp fun z => ?_
    have := a4 k (Nat.zero_le _) z
    simp only [e] at this
    cases this
  · intro z
    have := a3 (by unfold Lv at z; omega)
    have e : inP (daysM n (Lv n s g) s) g = false := by
      unfold Lv
      revert this
      cases inP (daysM n (fk (fun k => !inP (daysM n k s) g) 0 61) s) g
      · intro _; rfl
      · intro q; cases q
    have := out_mono (s := s) h7 hg (k - Lv n s g) (Lv n s g) e
    rw [show Lv n s g + (k - Lv n s g) = k by omega] at this
    exact this
def goneP (n : Nat) (s : R54) (k g : Nat) : Bool := inP s g && !inP (daysM n k s) g
/-- the class's way: by days -/
def fcC (n : Nat) (s : R54) : Nat → Nat → Int32
  | _, 0 => -4
  | k, c + 1 => if cd n (goneP n s k) = 0 then fcC n s (k + 1) c else i32 (fk (cd n (goneP n s k)).testBit 0 6)
theorem i32_0 {a : Nat} (h : a < 2147483648) : (i32 a = 0) = (a = 0) := i32_eq (b := 0) h (by omega)
theorem k_first (Q : QS n s h h') : ∀ (c m k : Nat) (h : AH), QS n s h h' → Hs h 8 n (daysM n k s) → Ok n (daysM n k s) → c < m → k + c = 60 → ∃ h1, f_X11_firstToLeave_b13 m (some 0) (i32 (k + 1)) h = some (fcC n s (k + 1) c, h1) ∧ Fq 0 h h1 := by
  intro c
  induction c with
  | zero =>
    intro m k h Q H O hm hk
    obtain ⟨m, rfl⟩ := succ_of hm
    rw [e_X11_firstToLeave_b13, show k = 60 by omega]
    exact ⟨h, if_pos (by decide), Fq.rf h⟩
  | succ c ih =>
    intro m k h Q H O hm hk
    obtain ⟨m, rfl⟩ := succ_of hm
    have h7 := Q.h7
    obtain ⟨h1, a1, H1, O1, B1⟩ := k_passDay H O
    rw [← daysM_end] at H1 O1
    have Q1 : QS n s h1 h' := Q.q B1.q (Fm.rf h')
    rw [e_X11_firstToLeave_b13, if_neg (show ¬ (60 : Int32) < i32 (k + 1) by rw [show (60 : Int32) = i32 60 from rfl, i32_lt (by omega) (by omega)]; omega)]
    simp only [Q.1.1.o1, sb_some, cv_ok H.1.1.1, a1, bd_some, Q1.1.1.o0, Q1.1.1.o1, gI_1 H1.1.1.1, gI_1 Q1.1.2.1.1.1.1, H1.2.1.2.1, Q1.1.2.1.2.1.2.1, nm_eq, sI_next h7 Q.1.2.2.1.2.2 O1.1.2.2]
    have hl : cd n (goneP n s (k + 1)) < 128 := cd_128 _ h7
    show ∃ h2, (if i32 (cd n (goneP n s (k + 1))) = 0 then _ else _) = some (if cd n (goneP n s (k + 1)) = 0 then _ else _, h2) ∧ _
    by_cases e : cd n (goneP n s (k + 1)) = 0
    · rw [if_pos (by rw [e]; rfl), if_pos e, i32_s]
      obtain ⟨h2, b1, b2⟩ := ih m (k + 1) h1 Q1 H1 O1 (by omega) (by omega)
      exact ⟨h2, b1, B1.q.tr0 b2⟩
    · rw [if_neg (by rw [i32_0 (by omega)]; exact e), if_neg e]
      have z : f_X11_lowestOf (i32 (cd n (fun g => inP s g && !inP (daysM n (k + 1) s) g))) h1 = some (i32 (fk (cd n (goneP n s (k + 1))).testBit 0 6), h1) := k_lowestOf hl
      rw [z, bd_some]
      exact ⟨h1, rfl, B1.q⟩
theorem m_leavesOf {g : Nat} (hg : g < n) (h7 : n ≤ 7) : ∀ (c m k : Nat) (h' : AH), Wm h' → aI h' 28 = daysM n k s → s 0 = i32 n → c < m → k + c = 61 → ∃ f, f_X12_leavesOf_b13 m (some 26) (i32 g) (i32 k) h' = some (if fk (fun k => !inP (daysM n k s) g) k c ≤ 60 then i32 (fk (fun k => !inP (daysM n k s) g) k c) else -4, wI h' 28 f) ∧ hi f (aI h' 28) := by
  intro c
  induction c with
  | zero =>
    intro m k h' W e28 e0 hm hk
    obtain ⟨m, rfl⟩ := succ_of hm
    rw [e_X12_leavesOf_b13, fk_0, show k = 61 by omega]
    exact ⟨aI h' 28, by rw [wI_self]; exact if_pos (by decide), hi.rf _⟩
  | succ c ih =>
    intro m k h' W e28 e0 hm hk
    obtain ⟨m, rfl⟩ := succ_of hm
    rw [e_X12_leavesOf_b13, if_neg (show ¬ (60 : Int32) < i32 k by rw [show (60 : Int32) = i32 60 from rfl, i32_lt (by omega) (by omega)]; omega), fk_s]
    simp only [W.o1, sb_some, m_isHere W.1.2.2.1 (show g < 7 by omega), bd_some, e28]
    show ∃ f, (if bI (inP (daysM n k s) g) = 0 then _ else _) = _ ∧ _
    cases e : inP (daysM n k s) g with
    | false =>
      refine ⟨aI h' 28, ?_, by rw [e28]; exact hi.rf _⟩
      rw [if_pos pb0, wI_self]
      show some (i32 k, h') = some (if (if (!false) = true then k else _) ≤ 60 then i32 (if (!false) = true then k else _) else -4, h')
      rw [if_pos (show (!false) = true from rfl), if_pos (by omega)]
    | true =>
      rw [if_neg nb1, m_day W.1.2.2.1 (by rw [e28, daysM_0]; exact e0) h7, bd_some, e28, ← daysM_end, i32_s]
      have W1 : Wm (wI h' 28 (daysM n (k + 1) s)) := W
      obtain ⟨f, b1, b2⟩ := ih m (k + 1) _ W1 aI_eq e0 (by omega) (by omega)
      refine ⟨f, ?_, ?_⟩
      · rw [b1, wI_wI]
        rfl
      · refine b2.tr ?_
        rw [aI_eq, daysM_end]
        exact hi_dayM (hi.rf _) h7
theorem leavesOf_Q (Q : QS n s h h') {g : Nat} (hg : g < n) : ∃ h1', f_X12_leavesOf (some 26) (i32 g) h' = some (if Lv n s g ≤ 60 then i32 (Lv n s g) else -4, h1') ∧ Fm h' h1' := by
  unfold f_X12_leavesOf
  simp only [Q.2.1.o0, Q.2.1.o1, sb_some, Q.mind.2.1, bd_some]
  have W1 : Wm (wI h' 28 s) := Q.2.1
  obtain ⟨f, b1, b2⟩ := m_leavesOf (s := s) hg Q.h7 61 FU 0 _ W1 aI_eq Q.1.2.2.1.1 (fu_pos (by omega)) (by omega)
  rw [aI_eq] at b2
  refine ⟨wI h' 28 f, ?_, Fm.w28 (b2.tr (Q.2.2.2).sy)⟩
  rw [wI_wI] at b1
  exact b1
/-- the reference's way: by guests -/
def fmM (n : Nat) (s : R54) (g : Nat) (q : Int32 × Int32) : Int32 × Int32 := if inP s g && (decide (Lv n s g ≤ 60) && decide (i32 (Lv n s g) < q.2)) then (i32 g, i32 (Lv n s g)) else q
theorem m_first (Q0 : QS n s h h') : ∀ (c m g : Nat) (q : Int32 × Int32) (h' : AH), QS n s h h' → c < m → g + c = n → ∃ h1', f_X12_firstLeaves_b8 m (some 26) q.1 q.2 (i32 g) h' = some ((fld (fmM n s) g c q).1, h1') ∧ Fm h' h1' := by
  intro c
  induction c with
  | zero =>
    intro m g q h' Q hm hg
    obtain ⟨m, rfl⟩ := succ_of hm
    have h7 := Q.h7
    rw [e_X12_firstLeaves_b8]
    simp only [Q.2.1.o0, sb_some, r54_0 Q.2.1.1.2.1, Q.n0]
    exact ⟨h', if_pos (by rw [i32_le (by omega) (by omega)]; omega), Fm.rf h'⟩
  | succ c ih =>
    intro m g q h' Q hm hg
    obtain ⟨m, rfl⟩ := succ_of hm
    have h7 := Q.h7
    have hgn : g < n := by omega
    have z : ¬ i32 n ≤ i32 g := by rw [i32_le (by omega) (by omega)]; omega
    rw [e_X12_firstLeaves_b8, fld_s]
    simp only [Q.2.1.o0, sb_some, r54_0 Q.2.1.1.2.1, Q.n0, if_neg z, m_isHere Q.2.1.1.2.1 (show g < 7 by omega), bd_some, Q.2.2.1]
    show ∃ h1', (if bI (inP s g) = 0 then _ else _) = _ ∧ _
    have hL : Lv n s g ≤ 61 := by
      have := (fk_sp (fun k => !inP (daysM n k s) g) 61 0).2.1
      unfold Lv
      omega
    cases e : inP s g with
    | false =>
      rw [if_pos pb0]
      have z2 : fmM n s g q = q := by unfold fmM; rw [e]; rfl
      rw [z2]
      show ∃ h1', (if (-4 : Int32) < 0 then f_X12_firstLeaves_b8 m (some 26) q.1 q.2 (i32 g + 1) h' else _) = _ ∧ _
      rw [if_pos (by decide), i32_s]
      exact ih m (g + 1) q h' Q (by omega) (by omega)
    | true =>
      rw [if_neg nb1, cv_ok Q.2.1.1.1]
      obtain ⟨h1', a1, a2⟩ := leavesOf_Q Q hgn
      have Q1 : QS n s h h1' := Q.q (Fq.rf h) a2
      rw [a1, bd_some]
      unfold fmM f_X12_firstLeaves_b39
      rw [e]
      by_cases e1 : Lv n s g ≤ 60
      · rw [if_pos e1, if_neg (i32_nn (by omega)), decide_eq_true e1]
        by_cases e2 : i32 (Lv n s g) < q.2
        · rw [if_pos e2, decide_eq_true e2, i32_s]
          obtain ⟨h2', b1, b2⟩ := ih m (g + 1) (i32 g, i32 (Lv n s g)) h1' Q1 (by omega) (by omega)
          exact ⟨h2', b1, a2.tr b2⟩
        · rw [if_neg e2, decide_eq_false e2, i32_s]
          obtain ⟨h2', b1, b2⟩ := ih m (g + 1) q h1' Q1 (by omega) (by omega)
          exact ⟨h2', b1, a2.tr b2⟩
      · rw [if_neg e1, if_pos (by decide), decide_eq_false e1, i32_s]
        obtain ⟨h2', b1, b2⟩ := ih m (g + 1) q h1' Q1 (by omega) (by omega)
        exact ⟨h2', b1, a2.tr b2⟩
/-- the reference's answer is the least guest who leaves first -/
theorem fm_sp (h7 : n ≤ 7) : ((fld (fmM n s) 0 n ((-4 : Int32), (1000000000 : Int32))).1 = -4 ∧ ∀ g, g < n → inP s g = true → ¬ Lv n s g ≤ 60) ∨ ∃ a, a < n ∧ (fld (fmM n s) 0 n ((-4 : Int32), (1000000000 : Int32))).1 = i32 a ∧ inP s a = true ∧ Lv n s a ≤ 60 ∧ (∀ g, g < n → inP s g = true → Lv n s a ≤ Lv n s g) ∧ ∀ g, g < a → inP s g = true → Lv n s a < Lv n s g := by
  have key := fld_ind (f := fmM n s) (fun i q => (q = ((-4 : Int32), (1000000000 : Int32)) ∧ ∀ g, g < i → inP s g = true → ¬ Lv n s g ≤ 60) ∨ ∃ a, a < i ∧ q = (i32 a, i32 (Lv n s a)) ∧ inP s a = true ∧ Lv n s a ≤ 60 ∧ (∀ g, g < i → inP s g = true → Lv n s a ≤ Lv n s g) ∧ ∀ g, g < a → inP s g = true → Lv n s a < Lv n s g) n 0 ((-4 : Int32), (1000000000 : Int32)) (Or.inl ⟨rfl, fun g hg => absurd hg (Nat.not_lt_zero g)⟩) (fun j q _ hj P => by
    unfold fmM
    cases e : inP s j with
    | false =>
      rw [if_neg (by simp)]
      rcases P with ⟨p1, p2⟩ | ⟨a, p1, p2, p3, p4, p5, p6⟩
      · refine Or.inl ⟨p1, fun g hg hin => ?_⟩
        by_cases z : g = j
        · subst z; rw [e] at hin; cases hin
        · exact p2 g (by omega) hin
      · refine Or.inr ⟨a, by omega, p2, p3, p4, fun g hg hin => ?_, p6⟩
        by_cases z : g = j
        · subst z; rw [e] at hin; cases hin
        · exact p5 g (by omega) hin
    | true =>
      by_cases e1 : Lv n s j ≤ 60
      · rcases P with ⟨p1, p2⟩ | ⟨a, p1, p2, p3, p4, p5, p6⟩
        · have z : i32 (Lv n s j) < q.2 := by
            rw [p1]
            show i32 (Lv n s j) < i32 1000000000
            rw [i32_lt (by omega) (by omega)]
            omega
          rw [if_pos (by rw [decide_eq_true e1, decide_eq_true z]; rfl)]
          refine Or.inr ⟨j, by omega, rfl, e, e1, fun g hg hin => ?_, fun g hg hin => ?_⟩
          · by_cases y : g = j
            · subst y; exact Nat.le_refl _
            · have := p2 g (by omega) hin; omega
          · have := p2 g (by omega) hin; omega
        · by_cases e2 : Lv n s j < Lv n s a
          · have z : i32 (Lv n s j) < q.2 := by
              rw [p2]
              show i32 (Lv n s j) < i32 (Lv n s a)
              rw [i32_lt (by omega) (by omega)]
              exact e2
            rw [if_pos (by rw [decide_eq_true e1, decide_eq_true z]; rfl)]
            refine Or.inr ⟨j, by omega, rfl, e, e1, fun g hg hin => ?_, fun g hg hin => ?_⟩
            · by_cases y : g = j
              · subst y; exact Nat.le_refl _
              · have := p5 g (by omega) hin; omega
            · have := p5 g (by omega) hin; omega
          · have z : ¬ i32 (Lv n s j) < q.2 := by
              rw [p2]
              show ¬ i32 (Lv n s j) < i32 (Lv n s a)
              rw [i32_lt (by omega) (by omega)]
              exact e2
            rw [if_neg (by rw [decide_eq_false z]; simp)]
            refine Or.inr ⟨a, by omega, p2, p3, p4, fun g hg hin => ?_, p6⟩
            by_cases y : g = j
            · subst y; omega
            · exact p5 g (by omega) hin
      · rw [if_neg (by rw [decide_eq_false e1]; simp)]
        rcases P with ⟨p1, p2⟩ | ⟨a, p1, p2, p3, p4, p5, p6⟩
        · refine Or.inl ⟨p1, fun g hg hin => ?_⟩
          by_cases z : g = j
          · subst z; exact e1
          · exact p2 g (by omega) hin
        · refine Or.inr ⟨a, by omega, p2, p3, p4, fun g hg hin => ?_, p6⟩
          by_cases z : g = j
          · subst z; omega
          · exact p5 g (by omega) hin)
  rw [Nat.zero_add] at key
  rcases key with ⟨p1, p2⟩ | ⟨a, p1, p2, p3⟩
  · exact Or.inl ⟨by rw [p1], p2⟩
  · exact Or.inr ⟨a, p1, by rw [p2], p3⟩
theorem goneP_eq (h7 : n ≤ 7) {g k : Nat} (hg : g < n) (hk : k ≤ 60) : goneP n s k g = (inP s g && decide (Lv n s g ≤ k)) := by
  unfold goneP
  cases inP s g with
  | false => rfl
  | true =>
    rw [Bool.true_and, Bool.true_and]
    by_cases e : Lv n s g ≤ k
    · rw [decide_eq_true e, (Lv_le h7 hg hk).mpr e]; rfl
    · rw [decide_eq_false e]
      cases z : inP (daysM n k s) g with
      | false => exact absurd ((Lv_le h7 hg hk).mp z) e
      | true => rfl
theorem fcC_none (h7 : n ≤ 7) (H : ∀ g, g < n → inP s g = true → ¬ Lv n s g ≤ 60) : ∀ (c k : Nat), k + c = 61 → fcC n s k c = -4
  | 0, _, _ => rfl
  | c + 1, k, e => by
    show (if cd n (goneP n s k) = 0 then fcC n s (k + 1) c else _) = _
    rw [if_pos (cd_0.mpr fun g hg => by
      rw [goneP_eq h7 hg (by omega)]
      cases z : inP s g with
      | false => rfl
      | true => rw [decide_eq_false (by have := H g hg z; omega)]; rfl)]
    exact fcC_none h7 H c (k + 1) (by omega)
theorem fcC_some (h7 : n ≤ 7) {a : Nat} (ha : a < n) (hin : inP s a = true) (hL : Lv n s a ≤ 60) (h1 : ∀ g, g < n → inP s g = true → Lv n s a ≤ Lv n s g) (h2 : ∀ g, g < a → inP s g = true → Lv n s a < Lv n s g) : ∀ (c k : Nat), k + c = 61 → k ≤ Lv n s a → fcC n s k c = i32 a
  | 0, k, e, z => absurd z (by omega)
  | c + 1, k, e, z => by
    show (if cd n (goneP n s k) = 0 then fcC n s (k + 1) c else _) = _
    by_cases q : k = Lv n s a
    · have p : goneP n s k a = true := by rw [goneP_eq h7 ha (by omega), hin, decide_eq_true (by omega)]; rfl
      rw [if_neg (fun y => by rw [cd_0.mp y a ha] at p; cases p)]
      congr 1
      have hb : ∀ g, g < n → (cd n (goneP n s k)).testBit g = goneP n s k g := fun g hg => by
        rw [cd_bit _ n (by omega) g (by omega), decide_eq_true hg]; rfl
      have hz : ∀ g, g < a → (cd n (goneP n s k)).testBit g = false := fun g hg => by
        rw [hb g (by omega), goneP_eq h7 (by omega) (by omega)]
        cases y : inP s g with
        | false => rfl
        | true => rw [decide_eq_false (by have := h2 g hg y; omega)]; rfl
      by_cases a6 : a < 6
      · exact fk_eq (Nat.zero_le _) (by omega) (by rw [hb a ha]; exact p) (fun j _ hj => hz j hj)
      · obtain ⟨b1, b2, b3, b4⟩ := fk_sp (cd n (goneP n s k)).testBit 6 0
        by_cases y : fk (cd n (goneP n s k)).testBit 0 6 < 6
        · have := b3 (by omega)
          rw [hz _ (by omega)] at this
          cases this
        · omega
    · rw [if_pos (cd_0.mpr fun g hg => by
        rw [goneP_eq h7 hg (by omega)]
        cases y : inP s g with
        | false => rfl
        | true => rw [decide_eq_false (by have := h1 g hg y; omega)]; rfl)]
      exact fcC_some h7 ha hin hL h1 h2 c (k + 1) (by omega) (by omega)
theorem R_leaves (Q : QS n s h h') (v1 : Int32) : RR 0 h h' (f_X11_leaves (some 0) v1 h) (f_X12_leaves (some 26) v1 h') := by
  unfold f_X11_leaves f_X12_leaves
  have W := Q.1.1
  have h7 := Q.h7
  by_cases e : v1 = -1
  · rw [if_pos e, if_pos e, cv_ok W.1.1, cv_ok Q.2.1.1.1]
    have c : ∃ h1, f_X11_firstToLeave (some 0) h = some (fcC n s 1 60, h1) ∧ Fq 0 h h1 := by
      unfold f_X11_firstToLeave
      obtain ⟨⟨h1, a1, H1, F1, B1⟩, -⟩ := Q.mind
      simp only [W.o0, W.o1, sb_some, cv_ok W.2.2.1.2.1.1.1, a1, bd_some]
      obtain ⟨h2, b1, b2⟩ := k_first Q 60 FU 0 h1 (Q.q F1 (Fm.rf h')) H1 Q.1.2.2 (fu_pos (by omega)) (by omega)
      exact ⟨h2, b1, F1.tr0 b2⟩
    have d : ∃ h1', f_X12_firstLeaves (some 26) h' = some ((fld (fmM n s) 0 n ((-4 : Int32), (1000000000 : Int32))).1, h1') ∧ Fm h' h1' :=
      m_first Q n FU 0 ((-4 : Int32), (1000000000 : Int32)) h' Q (fu_pos (by omega)) (by omega)
    obtain ⟨h1, c1, c2⟩ := c
    obtain ⟨h1', d1, d2⟩ := d
    rw [c1, d1, bd_some, bd_some]
    refine RR.mk2 _ c2 d2 rfl ?_
    congr 2
    rcases fm_sp (s := s) h7 with ⟨p1, p2⟩ | ⟨a, p1, p2, p3, p4, p5, p6⟩
    · rw [p1, fcC_none h7 p2 60 1 (by omega)]
    · rw [p2, fcC_some h7 p1 p3 p4 p5 p6 60 1 (by omega) ?_]
      refine Nat.not_lt.mp fun z => ?_
      have y := (Lv_le (s := s) h7 p1 (k := 0) (by omega)).mpr (by omega)
      have y2 : inP s a = false := y
      rw [p3] at y2
      cases y2
  · rw [if_neg e, if_neg e]
    simp only [W.o0, W.o1, sb_some, cv_ok W.2.2.1.1.1.1, cv_ok Q.2.1.1.1, (Q.cg v1).1, (Q.cg v1).2, bd_some, bI_0]
    cases e1 : isg n v1 with
    | false => exact RR.mk (-1) (if_pos rfl) (if_pos rfl)
    | true =>
      rw [if_neg ntf, if_neg ntf]
      obtain ⟨g, rfl, hg⟩ := isg_of h7 e1
      obtain ⟨h1, a1, a2, M1, Q1, F1, G1⟩ := Q_mind Q
      unfold f_X12_leavesOf
      simp only [Q.2.1.o0, Q.2.1.o1, sb_some, a2, bd_some, cv_ok W.2.2.1.2.1.1.1, a1]
      obtain ⟨r, h2, h2', b1, b2, b3, b4⟩ := rl_leaves hg 61 FU FU 0 _ _ _ _ Q1 (M1.mg g) (fu_pos (by omega)) (fu_pos (by omega)) (by omega)
      exact RR.mk2 r (F1.tr0 b3) (G1.tr b4) b1 (by rw [show (0 : Int32) = i32 0 from rfl, b2, bd_some])
end LV
