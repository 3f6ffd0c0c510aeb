/-! THE TEXT: what is read, in both worlds -/
def b8 (k : Nat) : Int32 := Int8.toInt32 (Int8.ofBitVec (BitVec.ofNat 8 k))
theorem b8_of {v : Int32} (h : Int8.toInt32 (Int32.toInt8 v) = v) : ∃ k, k < 256 ∧ v = b8 k := by
  refine ⟨(Int32.toInt8 v).toBitVec.toNat, (Int32.toInt8 v).toBitVec.isLt, ?_⟩
  unfold b8
  rw [BitVec.ofNat_toNat, BitVec.setWidth_eq]
  exact h.symm
theorem b8_and : ∀ k, k < 256 → b8 k &&& 255 = i32 k := by decide +kernel
def dgt (k : Nat) : Bool := decide (48 ≤ k) && decide (k ≤ 57)
theorem b8_dg : ∀ k, k < 256 → btw (b8 k - 48) 0 9 = dgt k := by decide +kernel
theorem m8_dg : ∀ k, k < 256 → btw (i32 k) 48 57 = dgt k := by decide +kernel
theorem b8_d : ∀ k, k < 256 → dgt k = true → b8 k - 48 = i32 (k - 48) ∧ i32 k - 48 = i32 (k - 48) := by decide +kernel
theorem b8_59 : ∀ k, k < 256 → (b8 k = 59 ↔ k = 59) := by decide +kernel
theorem b8_98 : ∀ k, k < 256 → (b8 k = 98 ↔ k = 98) := by decide +kernel
theorem b8_100 : ∀ k, k < 256 → (b8 k = 100 ↔ k = 100) := by decide +kernel
theorem b8_103 : ∀ k, k < 256 → (b8 k = 103 ↔ k = 103) := by decide +kernel
theorem b8_108 : ∀ k, k < 256 → (b8 k = 108 ↔ k = 108) := by decide +kernel
theorem b8_115 : ∀ k, k < 256 → (b8 k = 115 ↔ k = 115) := by decide +kernel
theorem b8_116 : ∀ k, k < 256 → (b8 k = 116 ↔ k = 116) := by decide +kernel
/-- the digits behind a letter -/
def beh (k : Nat) : Nat := if k = 98 then 2 else if k = 100 then 2 else if k = 103 then 4 else if k = 108 then 4 else if k = 115 then 2 else if k = 116 then 1 else 0
theorem beh_4 (k : Nat) : beh k ≤ 4 := by
  unfold beh
  repeat' split
  all_goals omega
theorem k_behind {h : AH} {k : Nat} (hk : k < 256) : f_X10_digitsBehind (b8 k) h = some (i32 (beh k), h) := by
  unfold f_X10_digitsBehind beh
  simp only [b8_98 k hk, b8_100 k hk, b8_103 k hk, b8_108 k hk, b8_115 k hk, b8_116 k hk]
  repeat' split
  all_goals rfl
theorem i32_l : ∀ k, k < 256 → (i32 k = 98 ↔ k = 98) ∧ (i32 k = 100 ↔ k = 100) ∧ (i32 k = 103 ↔ k = 103) ∧ (i32 k = 108 ↔ k = 108) ∧ (i32 k = 115 ↔ k = 115) ∧ (i32 k = 116 ↔ k = 116) ∧ (i32 k = 59 ↔ k = 59) := by decide +kernel
section TEXT
variable {h h' : AH} {a r e z d : Nat} {c : Nat → Nat}
/-- a text of z bytes c, read by the object a -/
def TX (h : AH) (a r e z : Nat) (c : Nat → Nat) : Prop := (41 ≤ a ∧ a < aN h ∧ aT h a = some (.inr 10) ∧ aR h a 0 = some r) ∧ RowAt h r e z 0 (fun j => b8 (c j)) ∧ ∀ j, c j < 256
theorem TX.kp {h h1 : AH} (x : TX h a r e z c) (K : KP h h1) : TX h1 a r e z c := by
  obtain ⟨⟨x1, x2, x3, x4⟩, x5, x6⟩ := x
  obtain ⟨y1, y2, y3⟩ := K.2.2.1 a x1 x2
  exact ⟨⟨x1, by have := K.1; omega, by rw [y1]; exact x3, by rw [y3]; exact x4⟩, x5.kp K, x6⟩
theorem TX.g0 (x : TX h a r e z c) : gR h (some a) [10] 0 = some (some r) := by rw [gR_1 x.1.2.2.1, x.1.2.2.2]
theorem TX.size (x : TX h a r e z c) : f_X7_size (some r) h = some (i32 z, h) := k_size x.2.1
/-- the byte at a place, 0 behind the end -/
def tx (z : Nat) (c : Nat → Nat) (j : Nat) : Nat := if j < z then c j else 0
theorem tx_256 (x : TX h a r e z c) (j : Nat) : tx z c j < 256 := by
  unfold tx
  split
  · exact x.2.2 j
  · omega
theorem isz_f {z j : Nat} (hz : z ≤ 1000) (hj : ¬ j < z) (hj2 : j < 2000) : isg z (i32 j) = false := by
  unfold isg
  rw [decide_eq_false (show ¬ i32 j < i32 z by rw [i32_lt (by omega) (by omega)]; exact hj), Bool.and_false]
theorem TX.at (x : TX h a r e z c) {j : Nat} (hj : j < 2000) : f_X7_at (some r) (i32 j) h = some (b8 (tx z c j), h) := by
  unfold tx
  by_cases y : j < z
  · rw [if_pos y]
    exact k_at x.2.1 y
  · rw [if_neg y]
    unfold f_X7_at
    rw [cv_ok x.2.1.1.2.1, k_hasPlace x.2.1, bd_some, isz_f (by have := x.2.1.2.1; omega) y hj, if_pos pb0]
    rfl
theorem TX.digit (x : TX h a r e z c) {j : Nat} (hj : j < 2000) : f_X10_digit (some a) (i32 j) h = some (b8 (tx z c j) - 48, h) := by
  unfold f_X10_digit
  rw [x.g0, sb_some, cv_ok x.2.1.1.2.1, x.at hj, bd_some]
theorem TX.len (x : TX h a r e z c) {j : Nat} (hj : j < 2000) : f_X10_lengthAt (some a) (i32 j) h = some (i32 (2 + beh (tx z c j)), h) := by
  unfold f_X10_lengthAt
  rw [x.g0, sb_some, cv_ok x.2.1.1.2.1, x.at hj, bd_some, k_behind (tx_256 x j), bd_some, show (2 : Int32) = i32 2 from rfl, i32_add]
/-- is a place of a statement, that ends at l, as it must be -/
def okc (z : Nat) (c : Nat → Nat) (l j : Nat) : Bool := decide (j < z) && (if j = l then decide (c j = 59) else dgt (c j))
/-- the first place of a statement at p that is not as it must be, or what is behind it -/
def flw (z : Nat) (c : Nat → Nat) (p : Nat) : Nat := fk (fun j => !okc z c (p + beh (c p) + 1) j) (p + 1) (beh (c p) + 1)
theorem c_flaw30 (x : TX h a r e z c) {l : Nat} (hl : l < 1000) : ∀ (k m j : Nat), k < m → j + k = l + 1 → j ≤ z → f_X10_flawInStatement_b30 m (some a) (i32 l) (i32 j) h = some (if fk (fun j => !okc z c l j) j k = l + 1 then -1 else i32 (fk (fun j => !okc z c l j) j k), h) := by
  intro k
  induction k with
  | zero =>
    intro m j hm hj hz
    obtain ⟨m, rfl⟩ := succ_of hm
    rw [e_X10_flawInStatement_b30, if_pos (show i32 l < i32 j by rw [i32_lt (by omega) (by omega)]; omega), fk_0, if_pos (by omega)]
  | succ k ih =>
    intro m j hm hj hz
    obtain ⟨m, rfl⟩ := succ_of hm
    have hz1 := x.2.1.2.1
    have hjl : (i32 j = i32 l) = (j = l) := i32_eq (by omega) (by omega)
    rw [e_X10_flawInStatement_b30, if_neg (show ¬ i32 l < i32 j by rw [i32_lt (by omega) (by omega)]; omega), x.g0, sb_some, cv_ok x.2.1.1.2.1, x.size, bd_some, fk_s]
    have b88 : ∀ b : Bool, b = okc z c l j → j < z → f_X10_flawInStatement_b88 (f_X10_flawInStatement_b30 m) (some a) (i32 l) (i32 j) (bI b) h = some (if (if (!okc z c l j) = true then j else fk (fun j => !okc z c l j) (j + 1) k) = l + 1 then -1 else i32 (if (!okc z c l j) = true then j else fk (fun j => !okc z c l j) (j + 1) k), h) := by
      intro b hb jz
      rw [← hb]
      unfold f_X10_flawInStatement_b88
      cases b with
      | false =>
        rw [if_pos pb0]
        simp only [Bool.not_false, if_true]
        rw [if_neg (show ¬ j = l + 1 by omega)]
      | true =>
        rw [if_neg nb1, i32_s, ih m (j + 1) (by omega) (by omega) (by omega)]
        simp only [Bool.not_true, if_neg Bool.false_ne_true]
    by_cases y : j < z
    · rw [if_pos (show i32 j < i32 z by rw [i32_lt (by omega) (by omega)]; exact y)]
      have tj : tx z c j = c j := if_pos y
      have oc : okc z c l j = (if j = l then decide (c j = 59) else dgt (c j)) := by
        unfold okc
        rw [decide_eq_true y, Bool.true_and]
      by_cases q : j = l
      · rw [if_pos (show i32 j = i32 l by rw [hjl]; exact q), x.g0, sb_some, cv_ok x.2.1.1.2.1, x.at (by omega), bd_some, tj]
        rw [if_pos q] at oc
        by_cases w : c j = 59
        · rw [if_pos ((b8_59 _ (x.2.2 j)).mpr w)]
          exact b88 true (by rw [oc, decide_eq_true w]) y
        · rw [if_neg (fun q => w ((b8_59 _ (x.2.2 j)).mp q))]
          exact b88 false (by rw [oc, decide_eq_false w]) y
      · rw [if_neg (show ¬ i32 j = i32 l by rw [hjl]; exact q), cv_ok x.1.2.2.1, x.digit (by omega), bd_some, tj, c_isDigit, bd_some, b8_dg _ (x.2.2 j)]
        rw [if_neg q] at oc
        exact b88 _ oc.symm y
    · rw [if_neg (show ¬ i32 j < i32 z by rw [i32_lt (by omega) (by omega)]; exact y), x.g0, sb_some, cv_ok x.2.1.1.2.1, x.size, bd_some]
      have oc : okc z c l j = false := by
        unfold okc
        rw [decide_eq_false y, Bool.false_and]
      rw [oc]
      simp only [Bool.not_false, if_true]
      rw [if_neg (show ¬ j = l + 1 by omega), show j = z by omega]
theorem c_flawIn (x : TX h a r e z c) {p : Nat} (hp : p < z) : f_X10_flawInStatement (some a) (i32 p) h = some (if beh (c p) = 0 then i32 p else if flw z c p = p + beh (c p) + 2 then -1 else i32 (flw z c p), h) := by
  have hz1 := x.2.1.2.1
  have tj : tx z c p = c p := if_pos hp
  have b4 := beh_4 (c p)
  unfold f_X10_flawInStatement
  rw [x.g0, sb_some, cv_ok x.2.1.1.2.1, x.at (by omega), bd_some, tj, k_behind (x.2.2 p), bd_some]
  by_cases y : beh (c p) = 0
  · rw [if_pos (show i32 (beh (c p)) = 0 by rw [i32_0 (by omega)]; exact y), if_pos y]
  · rw [if_neg (show ¬ i32 (beh (c p)) = 0 by rw [i32_0 (by omega)]; exact y), if_neg y, cv_ok x.1.2.2.1, x.len (by omega), bd_some, nm_eq, nm_eq, tj, i32_add, show (1 : Int32) = i32 1 from rfl, i32_sub (by omega), i32_add, show p + (2 + beh (c p)) - 1 = p + beh (c p) + 1 by omega, c_flaw30 x (by omega) (beh (c p) + 1) FU (p + 1) (fu_pos (by omega)) (by omega) (by omega)]
    rfl
/-- the text is without a fault of kind 1 from p on: n statements -/
def good (z : Nat) (c : Nat → Nat) : Nat → Nat → Prop
  | p, 0 => p = z
  | p, n + 1 => p < z ∧ beh (c p) ≠ 0 ∧ flw z c p = p + beh (c p) + 2 ∧ good z c (p + beh (c p) + 2) n
theorem flw_le {p : Nat} (hp : p < z) : flw z c p ≤ p + beh (c p) + 2 ∧ (flw z c p = p + beh (c p) + 2 → p + beh (c p) + 2 ≤ z ∧ ∀ j, p < j → j < p + beh (c p) + 1 → dgt (c j) = true) ∧ flw z c p ≤ z ∧ p < flw z c p := by
  obtain ⟨a1, a2, a3, a4⟩ := fk_sp (fun j => !okc z c (p + beh (c p) + 1) j) (beh (c p) + 1) (p + 1)
  change p + 1 ≤ flw z c p at a1
  change flw z c p ≤ _ at a2
  have ok : ∀ j, p < j → j < flw z c p → okc z c (p + beh (c p) + 1) j = true := fun j j1 j2 => by
    have := a4 j (by omega) j2
    cases y : okc z c (p + beh (c p) + 1) j with
    | true => rfl
    | false => rw [y] at this; cases this
  have okz : ∀ j, p < j → j < flw z c p → j < z := fun j j1 j2 => by
    have := ok j j1 j2
    unfold okc at this
    rw [Bool.and_eq_true, decide_eq_true_eq] at this
    exact this.1
  refine ⟨by omega, fun w => ⟨?_, fun j j1 j2 => ?_⟩, ?_, by omega⟩
  · have := okz (p + beh (c p) + 1) (by omega) (by omega)
    omega
  · have := ok j j1 (by omega)
    unfold okc at this
    rw [Bool.and_eq_true, if_neg (by omega)] at this
    exact this.2
  · by_cases y : flw z c p ≤ p + 1
    · omega
    · have := okz (flw z c p - 1) (by omega) (by omega)
      omega
end TEXT
