/-! THE TEXT: the reference reads -/
theorem up_com {α : Type} {p : Nat → α} {a b : Nat} (hab : a ≠ b) {x y : α} : va_up (va_up p a x) b y = va_up (va_up p b y) a x := by
  funext j
  by_cases e : j = a
  · subst e; rw [up_ne hab, up_eq, up_eq]
  · by_cases e2 : j = b
    · subst e2; rw [up_eq, up_ne e, up_eq]
    · rw [up_ne e2, up_ne e, up_ne e, up_ne e2]
theorem wI_com {h : AH} {a b : Nat} (hab : a ≠ b) {f g : Nat → Int32} : wI (wI h a f) b g = wI (wI h b g) a f := by
  unfold wI
  have := up_com (p := h.2.2.1) hab (x := f) (y := g)
  simp only [this]
section READ
variable {h h' : AH} {z d : Nat} {c : Nat → Nat}
/-- the reference at a place of the text of shelf d -/
def RT (h : AH) (d z : Nat) (c : Nat → Nat) (q : Nat) : Prop := Wm h ∧ (aI h 26 5 = i32 q ∧ aI h 26 6 = i32 (100 * d) ∧ aI h 26 7 = i32 z) ∧ (d < 8 ∧ z ≤ 100 ∧ q ≤ z) ∧ ∀ j, j < z → c j < 256 ∧ aI h 39 (100 * d + j) = b8 (c j)
/-- only the place and the numbers have changed -/
def GR (h : AH) (N : Nat → Int32) (q : Nat) : AH := wI (wI h 31 N) 26 (va_up (aI h 26) 5 (i32 q))
theorem GR_r {N : Nat → Int32} {q : Nat} (R : RT h d z c q) {N2 : Nat → Int32} {q2 : Nat} (hq : q2 ≤ z) : RT (GR h N2 q2) d z c q2 := by
  obtain ⟨W, ⟨a1, a2, a3⟩, ⟨b1, b2, b3⟩, e⟩ := R
  unfold GR
  refine ⟨W, ⟨?_, ?_, ?_⟩, ⟨b1, b2, hq⟩, fun j hj => ⟨(e j hj).1, ?_⟩⟩
  · rw [aI_eq, up_eq]
  · rw [aI_eq, up_ne (by omega)]; exact a2
  · rw [aI_eq, up_ne (by omega)]; exact a3
  · rw [aI_ne (by omega), aI_ne (by omega)]; exact (e j hj).2
theorem GR_GR {N N2 : Nat → Int32} {q q2 : Nat} : GR (GR h N q) N2 q2 = GR h N2 q2 := by
  have e : wI (wI (wI (wI h 31 N) 26 (va_up (aI h 26) 5 (i32 q))) 31 N2) 26 (va_up (va_up (aI h 26) 5 (i32 q)) 5 (i32 q2)) = wI (wI h 31 N2) 26 (va_up (aI h 26) 5 (i32 q2)) := by
    have u : va_up (va_up (aI h 26) 5 (i32 q)) 5 (i32 q2) = va_up (aI h 26) 5 (i32 q2) := by
      funext j
      by_cases y : j = 5
      · subst y; rw [up_eq, up_eq]
      · rw [up_ne y, up_ne y, up_ne y]
    rw [u, wI_com (a := 26) (b := 31) (by omega), wI_wI, wI_wI]
  unfold GR
  rw [aI_eq]
  exact e
theorem GR_id {q : Nat} (e : aI h 26 5 = i32 q) : GR h (aI h 31) q = h := by
  unfold GR
  rw [wI_self, ← e]
  have : va_up (aI h 26) 5 (aI h 26 5) = aI h 26 := by
    funext j
    by_cases y : j = 5
    · subst y; rw [up_eq]
    · rw [up_ne y]
  rw [this, wI_self]
theorem GR_31 {N : Nat → Int32} {q : Nat} : aI (GR h N q) 31 = N := by
  unfold GR
  rw [aI_ne (by omega), aI_eq]
theorem GR_5 {N : Nat → Int32} {q : Nat} : aI (GR h N q) 26 5 = i32 q := by
  unfold GR
  rw [aI_eq, up_eq]
theorem GR_w {N N2 : Nat → Int32} {q : Nat} : wI (GR h N q) 31 N2 = GR h N2 q := by
  unfold GR
  rw [wI_com (a := 26) (b := 31) (by omega), wI_wI]
theorem GR_p {N : Nat → Int32} {q q2 : Nat} : wI (GR h N q) 26 (va_up (aI (GR h N q) 26) 5 (i32 q2)) = GR h N q2 := by
  have e := GR_GR (h := h) (N := N) (N2 := N) (q := q) (q2 := q2)
  have e2 : GR (GR h N q) N q2 = wI (wI (GR h N q) 31 N) 26 (va_up (aI (GR h N q) 26) 5 (i32 q2)) := rfl
  rw [e2, GR_w] at e
  exact e
theorem m_here {q : Nat} (R : RT h d z c q) : f_X12_here (some 26) h = some (if q < z then i32 (c q) else -1, h) := by
  obtain ⟨W, ⟨a1, a2, a3⟩, ⟨b1, b2, b3⟩, e⟩ := R
  unfold f_X12_here
  rw [gI_1 W.1.1, sb_some, gI_1 W.1.1, sb_some, a1, a3]
  by_cases y : q < z
  · rw [if_neg (show ¬ i32 z ≤ i32 q by rw [i32_le (by omega) (by omega)]; omega), if_pos y, W.o17, sb_some, gI_1 W.1.1, sb_some, sb_some, a2, i32_add, iA_ok W.2.2.1.2.2.2.2.2 (show 100 * d + q < 800 by omega) (by omega), sb_some, (e q y).2, b8_and _ (e q y).1]
  · rw [if_pos (show i32 z ≤ i32 q by rw [i32_le (by omega) (by omega)]; omega), if_neg y]
/-- is a digit there -/
def dgz (z : Nat) (c : Nat → Nat) (q : Nat) : Bool := decide (q < z) && dgt (c q)
theorem m_hereD {q : Nat} (R : RT h d z c q) : ∃ v, f_X12_here (some 26) h = some (v, h) ∧ btw v 48 57 = dgz z c q ∧ (dgz z c q = true → v - 48 = i32 (c q - 48)) ∧ (v = 59 ↔ (q < z ∧ c q = 59)) := by
  refine ⟨_, m_here R, ?_⟩
  unfold dgz
  by_cases y : q < z
  · rw [if_pos y, decide_eq_true y, Bool.true_and]
    have b := (R.2.2.2 q y).1
    refine ⟨m8_dg _ b, fun w => (b8_d _ b w).2, ?_⟩
    rw [(i32_l _ b).2.2.2.2.2.2]
    exact ⟨fun w => ⟨y, w⟩, fun w => w.2⟩
  · rw [if_neg y, decide_eq_false y, Bool.false_and]
    refine ⟨by decide, fun w => absurd w Bool.false_ne_true, ?_⟩
    exact ⟨fun w => absurd w (by decide), fun w => absurd w.1 y⟩
theorem m_rn9 {q k x n : Nat} (R : RT h d z c q) (hk : k < 3) (hx : x < n) (hn : n < 10) (m : Nat) : f_X12_readsNumber_b9 (m + 1) (some 26) (i32 k) (i32 n) (i32 x) h = if dgz z c q then f_X12_readsNumber_b9 m (some 26) (i32 k) (i32 n) (i32 (x + 1)) (GR h (va_up (aI h 31) k (10 * aI h 31 k + i32 (c q - 48))) (q + 1)) else some (0, h) := by
  obtain ⟨v, v1, v2, v3, v4⟩ := m_hereD R
  have W := R.1
  rw [e_X12_readsNumber_b9, if_neg (show ¬ i32 n ≤ i32 x by rw [i32_le (by omega) (by omega)]; omega), cv_ok W.1.1, v1, bd_some, m_btw, v2, bd_some]
  cases e : dgz z c q with
  | false => rw [if_pos pb0, if_neg Bool.false_ne_true]
  | true =>
    have W2 : Wm (wI h 31 (va_up (aI h 31) k (10 * aI h 31 k + i32 (c q - 48)))) := W
    have av : (10 : Int32) * aI h 31 k + v - 48 = 10 * aI h 31 k + i32 (c q - 48) := by
      rw [← v3 e, Int32.sub_eq_add_neg, Int32.sub_eq_add_neg, Int32.add_assoc]
    rw [if_neg nb1, if_pos rfl, W.o8, sb_some, sb_some, iA_ok W.2.1.1 hk (by omega), sb_some, v1, cv_ok W.1.1, bd_some, iS_ok W.2.1.1 hk (by omega), sb_some, av, gI_1 W2.1.1, sb_some, pI_1' W2.1.1, sb_some, aI_ne (show (26 : Nat) ≠ 31 by omega), R.2.1.1, i32_s, i32_s]
    rfl
theorem m_rnE {k n : Nat} (hn : n < 10) (m : Nat) : f_X12_readsNumber_b9 (m + 1) (some 26) (i32 k) (i32 n) (i32 n) h = some (1, h) := by
  rw [e_X12_readsNumber_b9, if_pos (show i32 n ≤ i32 n by rw [i32_le (by omega) (by omega)]; omega)]
/-- a digit's number -/
def dv (c : Nat → Nat) (q : Nat) : Int32 := i32 (c q - 48)
theorem dgz_lt {q : Nat} (e : dgz z c q = true) : q < z ∧ dgt (c q) = true := by
  unfold dgz at e
  rw [Bool.and_eq_true, decide_eq_true_eq] at e
  exact e
theorem m_rn1 {q k : Nat} (R : RT h d z c q) (hk : k < 3) : ∃ N, f_X12_readsNumber (some 26) (i32 k) 1 h = (if dgz z c q then some (1, GR h (va_up (aI h 31) k (dv c q)) (q + 1)) else some (0, GR h N q)) := by
  have W := R.1
  refine ⟨va_up (aI h 31) k 0, ?_⟩
  unfold f_X12_readsNumber
  rw [W.o8, sb_some, iS_ok W.2.1.1 hk (by omega), sb_some]
  have e0 : wI h 31 (va_up (aI h 31) k 0) = GR h (va_up (aI h 31) k 0) q := by
    rw [← GR_w (N := aI h 31), GR_id R.2.1.1]
  rw [e0]
  have R0 : RT (GR h (va_up (aI h 31) k 0) q) d z c q := GR_r (N := aI h 31) R R.2.2.1.2.2
  obtain ⟨m, em⟩ := succ_of (fu_pos (k := 9) (by omega))
  obtain ⟨m2, em2⟩ : ∃ m2, m = m2 + 1 := by
    have := fu_pos (k := 9) (by omega)
    exact ⟨m - 1, by omega⟩
  have st : f_X12_readsNumber_b9 FU (some 26) (i32 k) 1 0 (GR h (va_up (aI h 31) k 0) q) = f_X12_readsNumber_b9 (m + 1) (some 26) (i32 k) (i32 1) (i32 0) (GR h (va_up (aI h 31) k 0) q) := by rw [em]; rfl
  rw [st, m_rn9 R0 hk (by omega) (by omega)]
  cases e : dgz z c q with
  | false => rfl
  | true =>
    rw [if_pos rfl, if_pos rfl, em2, m_rnE (by omega), GR_GR, GR_31, up_eq, show (10 : Int32) * 0 + i32 (c q - 48) = dv c q from Int32.zero_add _, up_up]
theorem m_rn2 {q k : Nat} (R : RT h d z c q) (hk : k < 3) : ∃ N q', f_X12_readsNumber (some 26) (i32 k) 2 h = (if dgz z c q && dgz z c (q + 1) then some (1, GR h (va_up (aI h 31) k (10 * dv c q + dv c (q + 1))) (q + 2)) else some (0, GR h N q')) ∧ q' = (if dgz z c q then q + 1 else q) := by
  have W := R.1
  have e0 : wI h 31 (va_up (aI h 31) k 0) = GR h (va_up (aI h 31) k 0) q := by
    rw [← GR_w (N := aI h 31), GR_id R.2.1.1]
  have R0 : RT (GR h (va_up (aI h 31) k 0) q) d z c q := GR_r (N := aI h 31) R R.2.2.1.2.2
  obtain ⟨m, em⟩ : ∃ m, FU = m + 1 + 1 + 1 := by
    have := fu_pos (k := 9) (by omega)
    exact ⟨FU - 3, by omega⟩
  have st : f_X12_readsNumber (some 26) (i32 k) 2 h = f_X12_readsNumber_b9 (m + 1 + 1 + 1) (some 26) (i32 k) (i32 2) (i32 0) (GR h (va_up (aI h 31) k 0) q) := by
    unfold f_X12_readsNumber
    rw [W.o8, sb_some, iS_ok W.2.1.1 hk (by omega), sb_some, e0, em]
    rfl
  rw [st, m_rn9 R0 hk (by omega) (by omega)]
  cases e : dgz z c q with
  | false => exact ⟨_, _, rfl, rfl⟩
  | true =>
    have ql := (dgz_lt e).1
    rw [if_pos rfl, if_pos rfl, Bool.true_and, GR_GR, GR_31, up_eq, show (10 : Int32) * 0 + i32 (c q - 48) = dv c q from Int32.zero_add _, up_up]
    have R1 : RT (GR h (va_up (aI h 31) k (dv c q)) (q + 1)) d z c (q + 1) := GR_r (N := aI h 31) R (by omega)
    rw [m_rn9 R1 hk (by omega) (by omega)]
    cases e2 : dgz z c (q + 1) with
    | false => exact ⟨_, _, rfl, rfl⟩
    | true =>
      rw [if_pos rfl, m_rnE (by omega), GR_GR, GR_31, up_eq, up_up]
      exact ⟨aI h 31, _, (if_pos rfl).symm, rfl⟩
def sem (z : Nat) (c : Nat → Nat) (j : Nat) : Bool := decide (j < z) && decide (c j = 59)
theorem okc_l (l : Nat) : okc z c l l = sem z c l := by unfold okc sem; rw [if_pos rfl]
theorem okc_n {l j : Nat} (e : j ≠ l) : okc z c l j = dgz z c j := by unfold okc dgz; rw [if_neg e]
theorem m_b203 {q : Nat} (R : RT h d z c q) : f_X12_readsStatement_b203 (some 26) 1 h = if sem z c q then some (1, GR h (aI h 31) (q + 1)) else some (0, h) := by
  obtain ⟨v, v1, v2, v3, v4⟩ := m_hereD R
  have W := R.1
  unfold f_X12_readsStatement_b203
  rw [if_neg (by decide), cv_ok W.1.1, v1, bd_some]
  by_cases y : q < z ∧ c q = 59
  · have s : sem z c q = true := by
      unfold sem
      rw [decide_eq_true y.1, decide_eq_true y.2]
      rfl
    rw [if_pos (v4.mpr y), s, if_pos rfl, gI_1 W.1.1, sb_some, pI_1' W.1.1, sb_some, R.2.1.1, i32_s]
    unfold GR
    rw [wI_self]
  · have s : sem z c q = false := by
      unfold sem
      cases e : decide (q < z) with
      | false => rfl
      | true =>
        rw [decide_eq_true_eq] at e
        rw [decide_eq_false (fun w => y ⟨e, w⟩)]
        rfl
    rw [if_neg (fun w => y (v4.mp w)), s, if_neg Bool.false_ne_true]
theorem m_b203n {h : AH} : f_X12_readsStatement_b203 (some 26) 0 h = some (0, h) := if_pos rfl
theorem nf_t : (!true) = false := rfl
theorem nf_f : (!false) = true := rfl
/-- what reading ends with -/
def RD (z : Nat) (c : Nat → Nat) (q b : Nat) (N : Nat → Int32) (h : AH) (o : Option (Int32 × AH)) (Pn : (Nat → Int32) → Prop) : Prop := o = some (bI (decide (fk (fun j => !okc z c (q + b) j) q (b + 1) = q + b + 1)), GR h N (fk (fun j => !okc z c (q + b) j) q (b + 1))) ∧ (fk (fun j => !okc z c (q + b) j) q (b + 1) = q + b + 1 → Pn N)
theorem m_end {q b p : Nat} {N : Nat → Int32} (R : RT (GR h N (q + b)) d z c (q + b)) {Pn : (Nat → Int32) → Prop} (hp : Pn N) (he : fk (fun j => !okc z c (q + b) j) q (b + 1) = if sem z c (q + b) then q + b + 1 else q + b) : RD z c q b N h (f_X12_readsStatement_b203 (some 26) 1 (GR h N (q + b))) Pn := by
  unfold RD
  rw [he, m_b203 R, GR_GR, GR_31]
  cases sem z c (q + b) with
  | true =>
    rw [if_pos rfl, if_pos rfl, decide_eq_true rfl]
    exact ⟨rfl, fun _ => hp⟩
  | false =>
    simp only [if_neg Bool.false_ne_true]
    rw [decide_eq_false (show ¬ q + b = q + b + 1 by omega)]
    exact ⟨rfl, fun w => absurd w (by omega)⟩
theorem m_bad {q b f : Nat} {N : Nat → Int32} {Pn : (Nat → Int32) → Prop} (hf : f < q + b + 1) (he : fk (fun j => !okc z c (q + b) j) q (b + 1) = f) : RD z c q b N h (some (0, GR h N f)) Pn := by
  unfold RD
  rw [he, decide_eq_false (show ¬ f = q + b + 1 by omega)]
  exact ⟨rfl, fun w => absurd w (by omega)⟩
theorem m_b144 {q : Nat} (R : RT h d z c q) : ∃ N, RD z c q 2 N h (f_X12_readsStatement_b144 (some 26) h) (fun N => N 0 = dv c q ∧ N 1 = dv c (q + 1)) := by
  have W := R.1
  obtain ⟨N1, e1⟩ := m_rn1 (k := 0) R (by omega)
  have u : fk (fun j => !okc z c (q + 2) j) q 3 = if !dgz z c q then q else if !dgz z c (q + 1) then q + 1 else if !sem z c (q + 2) then q + 2 else q + 3 := by
    rw [fk_s, fk_s, fk_s, fk_0, okc_n (by omega), okc_n (by omega), show q + 1 + 1 = q + 2 from rfl, okc_l]
  unfold f_X12_readsStatement_b144 f_X12_readsStatement_b166 f_X12_readsStatement_b167
  rw [cv_ok W.1.1, show f_X12_readsNumber (some 26) 0 1 h = _ from e1]
  cases g1 : dgz z c q with
  | false =>
    rw [g1, nf_f, if_pos rfl] at u
    rw [if_neg Bool.false_ne_true, bd_some, if_pos rfl, m_b203n]
    exact ⟨N1, m_bad (by omega) u⟩
  | true =>
    have q1 := (dgz_lt g1).1
    rw [g1, nf_t, if_neg Bool.false_ne_true] at u
    have R1 : RT (GR h (va_up (aI h 31) 0 (dv c q)) (q + 1)) d z c (q + 1) := GR_r (N := aI h 31) R (by omega)
    obtain ⟨N2, e2⟩ := m_rn1 (k := 1) R1 (by omega)
    rw [if_pos rfl, bd_some, if_neg (by decide), cv_ok R1.1.1.1, show f_X12_readsNumber (some 26) 1 1 (GR h (va_up (aI h 31) 0 (dv c q)) (q + 1)) = _ from e2]
    cases g2 : dgz z c (q + 1) with
    | false =>
      rw [g2, nf_f, if_pos rfl] at u
      rw [if_neg Bool.false_ne_true, bd_some, if_pos rfl, m_b203n, GR_GR]
      exact ⟨N2, m_bad (by omega) u⟩
    | true =>
      have q2 := (dgz_lt g2).1
      rw [g2, nf_t, if_neg Bool.false_ne_true] at u
      rw [if_pos rfl, bd_some, if_neg (by decide), GR_GR, GR_31]
      refine ⟨va_up (va_up (aI h 31) 0 (dv c q)) 1 (dv c (q + 1)), m_end (p := 0) (GR_r (N := aI h 31) R (by omega)) ⟨?_, ?_⟩ ?_⟩
      · rw [up_ne (by omega), up_eq]
      · rw [up_eq]
      · rw [u]
        cases sem z c (q + 2) <;> rfl
theorem m_b108 {q : Nat} (R : RT h d z c q) : ∃ N, RD z c q 4 N h (f_X12_readsStatement_b108 (some 26) h) (fun N => N 0 = dv c q ∧ N 1 = dv c (q + 1) ∧ N 2 = 10 * dv c (q + 2) + dv c (q + 3)) := by
  have W := R.1
  obtain ⟨N1, e1⟩ := m_rn1 (k := 0) R (by omega)
  have u : fk (fun j => !okc z c (q + 4) j) q 5 = if !dgz z c q then q else if !dgz z c (q + 1) then q + 1 else if !dgz z c (q + 2) then q + 2 else if !dgz z c (q + 3) then q + 3 else if !sem z c (q + 4) then q + 4 else q + 5 := by
    rw [fk_s, fk_s, fk_s, fk_s, fk_s, fk_0, okc_n (by omega), okc_n (by omega), okc_n (by omega), okc_n (by omega), show q + 1 + 1 + 1 + 1 = q + 4 from rfl, okc_l]
  unfold f_X12_readsStatement_b108 f_X12_readsStatement_b139 f_X12_readsStatement_b140
  rw [cv_ok W.1.1, show f_X12_readsNumber (some 26) 0 1 h = _ from e1]
  cases g1 : dgz z c q with
  | false =>
    rw [g1, nf_f, if_pos rfl] at u
    rw [if_neg Bool.false_ne_true, bd_some, if_pos rfl, m_b203n]
    exact ⟨N1, m_bad (by omega) u⟩
  | true =>
    have q1 := (dgz_lt g1).1
    rw [g1, nf_t, if_neg Bool.false_ne_true] at u
    have R1 : RT (GR h (va_up (aI h 31) 0 (dv c q)) (q + 1)) d z c (q + 1) := GR_r (N := aI h 31) R (by omega)
    obtain ⟨N2, e2⟩ := m_rn1 (k := 1) R1 (by omega)
    rw [if_pos rfl, bd_some, if_neg (by decide), cv_ok R1.1.1.1, show f_X12_readsNumber (some 26) 1 1 (GR h (va_up (aI h 31) 0 (dv c q)) (q + 1)) = _ from e2]
    cases g2 : dgz z c (q + 1) with
    | false =>
      rw [g2, nf_f, if_pos rfl] at u
      rw [if_neg Bool.false_ne_true, bd_some, if_pos rfl, m_b203n, GR_GR]
      exact ⟨N2, m_bad (by omega) u⟩
    | true =>
      have q2 := (dgz_lt g2).1
      rw [g2, nf_t, if_neg Bool.false_ne_true] at u
      have R2 : RT (GR h (va_up (va_up (aI h 31) 0 (dv c q)) 1 (dv c (q + 1))) (q + 2)) d z c (q + 2) := GR_r (N := aI h 31) R (by omega)
      obtain ⟨N3, q3, e3, e3q⟩ := m_rn2 (k := 2) R2 (by omega)
      rw [if_pos rfl, bd_some, if_neg (by decide), GR_GR, GR_31, show q + 1 + 1 = q + 2 from rfl, cv_ok R2.1.1.1, show f_X12_readsNumber (some 26) 2 2 (GR h (va_up (va_up (aI h 31) 0 (dv c q)) 1 (dv c (q + 1))) (q + 2)) = _ from e3]
      cases g3 : dgz z c (q + 2) with
      | false =>
        rw [g3, nf_f, if_pos rfl] at u
        rw [g3, if_neg Bool.false_ne_true] at e3q
        rw [Bool.false_and, if_neg Bool.false_ne_true, bd_some, if_pos rfl, m_b203n, GR_GR]
        exact ⟨N3, by rw [e3q]; exact m_bad (by omega) u⟩
      | true =>
        have q3' := (dgz_lt g3).1
        rw [g3, nf_t, if_neg Bool.false_ne_true] at u
        rw [g3, if_pos rfl] at e3q
        rw [Bool.true_and]
        cases g4 : dgz z c (q + 3) with
        | false =>
          rw [g4, nf_f, if_pos rfl] at u
          rw [show q + 2 + 1 = q + 3 from rfl, if_neg Bool.false_ne_true, bd_some, if_pos rfl, m_b203n, GR_GR]
          exact ⟨N3, by rw [e3q]; exact m_bad (by omega) u⟩
        | true =>
          have q4 := (dgz_lt g4).1
          rw [g4, nf_t, if_neg Bool.false_ne_true] at u
          rw [show q + 2 + 1 = q + 3 from rfl, if_pos rfl, bd_some, if_neg (by decide), GR_GR, GR_31]
          refine ⟨va_up (va_up (va_up (aI h 31) 0 (dv c q)) 1 (dv c (q + 1))) 2 (10 * dv c (q + 2) + dv c (q + 3)), m_end (p := 0) (GR_r (N := aI h 31) R (by omega)) ⟨?_, ?_, ?_⟩ ?_⟩
          · rw [up_ne (by omega), up_ne (by omega), up_eq]
          · rw [up_ne (by omega), up_eq]
          · rw [up_eq]
          · rw [u]
            cases sem z c (q + 4) <;> rfl
theorem m_bd2 {q : Nat} (R : RT h d z c q) : ∃ N, RD z c q 2 N h (bd (cv h (some 26) 12 (f_X12_readsNumber (some 26) 0 2 h)) fun r16 h15 => f_X12_readsStatement_b203 (some 26) r16 h15) (fun N => N 0 = 10 * dv c q + dv c (q + 1)) := by
  have W := R.1
  obtain ⟨N1, f1, e1, e1q⟩ := m_rn2 (k := 0) R (by omega)
  have u : fk (fun j => !okc z c (q + 2) j) q 3 = if !dgz z c q then q else if !dgz z c (q + 1) then q + 1 else if !sem z c (q + 2) then q + 2 else q + 3 := by
    rw [fk_s, fk_s, fk_s, fk_0, okc_n (by omega), okc_n (by omega), show q + 1 + 1 = q + 2 from rfl, okc_l]
  rw [cv_ok W.1.1, show f_X12_readsNumber (some 26) 0 2 h = _ from e1]
  cases g1 : dgz z c q with
  | false =>
    rw [g1, nf_f, if_pos rfl] at u
    rw [g1, if_neg Bool.false_ne_true] at e1q
    rw [Bool.false_and, if_neg Bool.false_ne_true, bd_some, m_b203n]
    exact ⟨N1, by rw [e1q]; exact m_bad (by omega) u⟩
  | true =>
    have q1 := (dgz_lt g1).1
    rw [g1, nf_t, if_neg Bool.false_ne_true] at u
    rw [g1, if_pos rfl] at e1q
    rw [Bool.true_and]
    cases g2 : dgz z c (q + 1) with
    | false =>
      rw [g2, nf_f, if_pos rfl] at u
      rw [if_neg Bool.false_ne_true, bd_some, m_b203n]
      exact ⟨N1, by rw [e1q]; exact m_bad (by omega) u⟩
    | true =>
      have q2 := (dgz_lt g2).1
      rw [g2, nf_t, if_neg Bool.false_ne_true] at u
      rw [if_pos rfl, bd_some]
      refine ⟨va_up (aI h 31) 0 (10 * dv c q + dv c (q + 1)), m_end (p := 0) (GR_r (N := aI h 31) R (by omega)) ?_ ?_⟩
      · rw [up_eq]
      · rw [u]
        cases sem z c (q + 2) <;> rfl
theorem m_bd1 {q : Nat} (R : RT h d z c q) : ∃ N, RD z c q 1 N h (bd (cv h (some 26) 12 (f_X12_readsNumber (some 26) 0 1 h)) fun r16 h15 => f_X12_readsStatement_b203 (some 26) r16 h15) (fun N => N 0 = dv c q) := by
  have W := R.1
  obtain ⟨N1, e1⟩ := m_rn1 (k := 0) R (by omega)
  have u : fk (fun j => !okc z c (q + 1) j) q 2 = if !dgz z c q then q else if !sem z c (q + 1) then q + 1 else q + 2 := by
    rw [fk_s, fk_s, fk_0, okc_n (by omega), okc_l]
  rw [cv_ok W.1.1, show f_X12_readsNumber (some 26) 0 1 h = _ from e1]
  cases g1 : dgz z c q with
  | false =>
    rw [g1, nf_f, if_pos rfl] at u
    rw [if_neg Bool.false_ne_true, bd_some, m_b203n]
    exact ⟨N1, m_bad (by omega) u⟩
  | true =>
    have q1 := (dgz_lt g1).1
    rw [g1, nf_t, if_neg Bool.false_ne_true] at u
    rw [if_pos rfl, bd_some]
    refine ⟨va_up (aI h 31) 0 (dv c q), m_end (p := 0) (GR_r (N := aI h 31) R (by omega)) ?_ ?_⟩
    · rw [up_eq]
    · rw [u]
      cases sem z c (q + 1) <;> rfl
/-- the numbers of a statement -/
def nums (c : Nat → Nat) (p : Nat) (N : Nat → Int32) : Prop := N 0 = (if c p = 100 then 10 * dv c (p + 1) + dv c (p + 2) else dv c (p + 1)) ∧ (c p ≠ 100 → c p ≠ 116 → N 1 = dv c (p + 2)) ∧ (c p = 103 ∨ c p = 108 → N 2 = 10 * dv c (p + 3) + dv c (p + 4))
theorem m_reads {p : Nat} (R : RT h d z c p) (hp : p < z) : ∃ N, (beh (c p) = 0 → f_X12_readsStatement (some 26) h = some (0, GR h N p)) ∧ (beh (c p) ≠ 0 → f_X12_readsStatement (some 26) h = some (bI (decide (flw z c p = p + beh (c p) + 2)), GR h N (flw z c p)) ∧ (flw z c p = p + beh (c p) + 2 → nums c p N)) := by
  have W := R.1
  have hb := (R.2.2.2 p hp).1
  obtain ⟨l1, l2, l3, l4, l5, l6, -⟩ := i32_l _ hb
  have st : wI h 26 (va_up (aI h 26) 5 (i32 (p + 1))) = GR h (aI h 31) (p + 1) := by
    unfold GR
    rw [wI_self]
  have R1 : RT (GR h (aI h 31) (p + 1)) d z c (p + 1) := GR_r (N := aI h 31) R (by omega)
  have head : f_X12_readsStatement (some 26) h = (if c p = 98 then f_X12_readsStatement_b144 (some 26) (GR h (aI h 31) (p + 1)) else if c p = 100 then (bd (cv (GR h (aI h 31) (p + 1)) (some 26) 12 (f_X12_readsNumber (some 26) 0 2 (GR h (aI h 31) (p + 1)))) fun r16 h15 => f_X12_readsStatement_b203 (some 26) r16 h15) else if c p = 103 then f_X12_readsStatement_b108 (some 26) (GR h (aI h 31) (p + 1)) else if c p = 108 then f_X12_readsStatement_b108 (some 26) (GR h (aI h 31) (p + 1)) else if c p = 115 then f_X12_readsStatement_b144 (some 26) (GR h (aI h 31) (p + 1)) else if c p = 116 then (bd (cv (GR h (aI h 31) (p + 1)) (some 26) 12 (f_X12_readsNumber (some 26) 0 1 (GR h (aI h 31) (p + 1)))) fun r28 h27 => f_X12_readsStatement_b203 (some 26) r28 h27) else f_X12_readsStatement_b191 (some 26) (GR h (aI h 31) (p + 1))) := by
    unfold f_X12_readsStatement
    rw [cv_ok W.1.1, m_here R, if_pos hp, bd_some, gI_1 W.1.1, sb_some, pI_1' W.1.1, sb_some, R.2.1.1, i32_s, st]
    simp only [l1, l2, l3, l4, l5, l6]
  have fin : ∀ (b : Nat) (o : Option (Int32 × AH)) (Pn : (Nat → Int32) → Prop) (N : Nat → Int32), beh (c p) = b → b ≠ 0 → f_X12_readsStatement (some 26) h = o → RD z c (p + 1) b N (GR h (aI h 31) (p + 1)) o Pn → (∀ N, Pn N → nums c p N) → (beh (c p) = 0 → f_X12_readsStatement (some 26) h = some (0, GR h N p)) ∧ (beh (c p) ≠ 0 → f_X12_readsStatement (some 26) h = some (bI (decide (flw z c p = p + beh (c p) + 2)), GR h N (flw z c p)) ∧ (flw z c p = p + beh (c p) + 2 → nums c p N)) := by
    intro b o Pn N hbe hb0 ho hr hn
    subst hbe
    unfold RD at hr
    have fe : fk (fun j => !okc z c (p + 1 + beh (c p)) j) (p + 1) (beh (c p) + 1) = flw z c p := by
      unfold flw
      rw [show p + 1 + beh (c p) = p + beh (c p) + 1 by omega]
    rw [fe, show p + 1 + beh (c p) + 1 = p + beh (c p) + 2 by omega, GR_GR] at hr
    exact ⟨fun w => absurd w hb0, fun _ => ⟨ho.trans hr.1, fun w => hn N (hr.2 w)⟩⟩
  rw [head] at fin ⊢
  by_cases k1 : c p = 98
  · obtain ⟨N, r⟩ := m_b144 R1
    refine ⟨N, fin 2 _ _ N (by rw [k1]; rfl) (by omega) (if_pos k1) r fun M q => ⟨?_, fun _ _ => q.2, fun w => absurd w (by omega)⟩⟩
    rw [if_neg (by omega)]; exact q.1
  · by_cases k2 : c p = 100
    · obtain ⟨N, r⟩ := m_bd2 R1
      refine ⟨N, fin 2 _ _ N (by rw [k2]; rfl) (by omega) ((if_neg k1).trans (if_pos k2)) r fun M q => ⟨?_, fun w => absurd k2 w, fun w => absurd w (by omega)⟩⟩
      rw [if_pos k2]; exact q
    · by_cases k3 : c p = 103
      · obtain ⟨N, r⟩ := m_b108 R1
        refine ⟨N, fin 4 _ _ N (by rw [k3]; rfl) (by omega) ((if_neg k1).trans ((if_neg k2).trans (if_pos k3))) r fun M q => ⟨?_, fun _ _ => q.2.1, fun _ => q.2.2⟩⟩
        rw [if_neg k2]; exact q.1
      · by_cases k4 : c p = 108
        · obtain ⟨N, r⟩ := m_b108 R1
          refine ⟨N, fin 4 _ _ N (by rw [k4]; rfl) (by omega) ((if_neg k1).trans ((if_neg k2).trans ((if_neg k3).trans (if_pos k4)))) r fun M q => ⟨?_, fun _ _ => q.2.1, fun _ => q.2.2⟩⟩
          rw [if_neg k2]; exact q.1
        · by_cases k5 : c p = 115
          · obtain ⟨N, r⟩ := m_b144 R1
            refine ⟨N, fin 2 _ _ N (by rw [k5]; rfl) (by omega) ((if_neg k1).trans ((if_neg k2).trans ((if_neg k3).trans ((if_neg k4).trans (if_pos k5))))) r fun M q => ⟨?_, fun _ _ => q.2, fun w => absurd w (by omega)⟩⟩
            rw [if_neg k2]; exact q.1
          · by_cases k6 : c p = 116
            · obtain ⟨N, r⟩ := m_bd1 R1
              refine ⟨N, fin 1 _ _ N (by rw [k6]; rfl) (by omega) ((if_neg k1).trans ((if_neg k2).trans ((if_neg k3).trans ((if_neg k4).trans ((if_neg k5).trans (if_pos k6)))))) r fun M q => ⟨?_, fun _ w => absurd k6 w, fun w => absurd w (by omega)⟩⟩
              rw [if_neg k2]; exact q
            · refine ⟨aI h 31, fun _ => ?_, fun w => absurd ?_ w⟩
              · rw [if_neg k1, if_neg k2, if_neg k3, if_neg k4, if_neg k5, if_neg k6]
                unfold f_X12_readsStatement_b191
                rw [gI_1 R1.1.1.1, sb_some, pI_1' R1.1.1.1, sb_some, R1.2.1.1, show (1 : Int32) = i32 1 from rfl, i32_sub (by omega), show p + 1 - 1 = p from rfl]
                rw [GR_p]
              · unfold beh
                rw [if_neg k1, if_neg k2, if_neg k3, if_neg k4, if_neg k5, if_neg k6]
end READ
