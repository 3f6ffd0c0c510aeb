/-! PLAIN LEAN: numbers, reads, writes, loops -/
def i32 (n : Nat) : Int32 := Int32.ofNat n
theorem i32_s (g : Nat) : i32 g + 1 = i32 (g + 1) := (Int32.ofNat_add g 1).symm
theorem i32_add (a b : Nat) : i32 a + i32 b = i32 (a + b) := (Int32.ofNat_add a b).symm
theorem i32_mul (a b : Nat) : i32 a * i32 b = i32 (a * b) := (Int32.ofNat_mul a b).symm
theorem i32_sub {a b : Nat} (h : b ≤ a) : i32 a - i32 b = i32 (a - b) := (Int32.ofNat_sub a b h).symm
theorem i32_t {a : Nat} (h : a < 2147483648) : (i32 a).toInt = a := Int32.toInt_ofNat_of_lt h
theorem i32_le {a b : Nat} (ha : a < 2147483648) (hb : b < 2147483648) : (i32 a ≤ i32 b) = (a ≤ b) := propext (Int32.ofNat_le_iff_le ha hb)
theorem i32_lt {a b : Nat} (ha : a < 2147483648) (hb : b < 2147483648) : (i32 a < i32 b) = (a < b) := propext (Int32.ofNat_lt_iff_lt ha hb)
theorem i32_eq {a b : Nat} (ha : a < 2147483648) (hb : b < 2147483648) : (i32 a = i32 b) = (a = b) := propext ⟨fun e => by
  have e1 := congrArg Int32.toInt e
  rw [i32_t ha, i32_t hb] at e1
  omega, fun e => by rw [e]⟩
theorem i32_nn {a : Nat} (ha : a < 2147483648) : ¬ i32 a < 0 := by
  rw [Int32.lt_iff_toInt_lt, i32_t ha]
  show ¬ (a : Int) < 0
  omega
theorem i32_cl {a : Nat} (ha : a < 2147483648) : (i32 a).toNatClampNeg = a := Int32.toNatClampNeg_ofNat_of_lt ha
/-- any number that isn't below 0 is the picture of its own -/
theorem i32_of {x : Int32} (h : ¬ x < 0) : ∃ g : Nat, x = i32 g ∧ g < 2147483648 ∧ (g : Int) = x.toInt := by
  have h0 : 0 ≤ x := Int32.not_lt.mp h
  exact ⟨x.toNatClampNeg, (Int32.ofNat_toNatClampNeg x h0).symm, x.toNatClampNeg_lt, Int32.cast_toNatClampNeg x h0⟩
section HEAP
variable {h : AH} {a b c k N g : Nat} {f f2 : Nat → Int32} {fr : Nat → Option Nat}
theorem aT_wI : aT (wI h a f) = aT h := rfl
theorem aR_wI : aR (wI h a f) = aR h := rfl
theorem aL_wI : aL (wI h a f) = aL h := rfl
theorem aN_wI : aN (wI h a f) = aN h := rfl
theorem aS_wI : aS (wI h a f) = aS h := rfl
theorem aT_wR : aT (wR h a fr) = aT h := rfl
theorem aI_wR : aI (wR h a fr) = aI h := rfl
theorem aL_wR : aL (wR h a fr) = aL h := rfl
theorem aN_wR : aN (wR h a fr) = aN h := rfl
theorem aS_wR : aS (wR h a fr) = aS h := rfl
theorem up_eq {α : Type} (p : Nat → α) (j : Nat) (v : α) : va_up p j v j = v := if_pos rfl
theorem up_ne {α : Type} {p : Nat → α} {i j : Nat} {v : α} (e : i ≠ j) : va_up p j v i = p i := if_neg e
theorem aI_wI : aI (wI h a f) b = if b = a then f else aI h b := rfl
theorem aI_eq : aI (wI h a f) a = f := if_pos rfl
theorem aI_ne (e : b ≠ a) : aI (wI h a f) b = aI h b := if_neg e
theorem aR_wR : aR (wR h a fr) b = if b = a then fr else aR h b := rfl
theorem aR_eq : aR (wR h a fr) a = fr := if_pos rfl
theorem aR_ne (e : b ≠ a) : aR (wR h a fr) b = aR h b := if_neg e
theorem up_up {α : Type} (p : Nat → α) (j : Nat) (v w : α) : va_up (va_up p j v) j w = va_up p j w := by
  funext i
  unfold va_up
  by_cases e : i = j
  · rw [if_pos e, if_pos e]
  · rw [if_neg e, if_neg e, if_neg e]
theorem up_self {α : Type} (p : Nat → α) (j : Nat) : va_up p j (p j) = p := by
  funext i
  unfold va_up
  by_cases e : i = j
  · rw [if_pos e, e]
  · rw [if_neg e]
theorem wI_wI : wI (wI h a f) a f2 = wI h a f2 := by
  show (h.1, h.2.1, va_up (va_up h.2.2.1 a f) a f2, h.2.2.2.1, h.2.2.2.2) = (h.1, h.2.1, va_up h.2.2.1 a f2, h.2.2.2.1, h.2.2.2.2)
  rw [up_up]
theorem wI_self : wI h a (aI h a) = h := by
  show (h.1, h.2.1, va_up h.2.2.1 a (h.2.2.1 a), _, _) = h
  rw [up_self]
theorem gI_ok {fam : List Nat} (hT : aT h a = some (.inr c)) (hc : c ∈ fam) : gI h (some a) fam k = some (aI h a k) := by
  unfold gI
  simp only [hT, if_pos hc]
theorem gR_ok {fam : List Nat} (hT : aT h a = some (.inr c)) (hc : c ∈ fam) : gR h (some a) fam k = some (aR h a k) := by
  unfold gR
  simp only [hT, if_pos hc]
theorem pI_ok {fam : List Nat} {v : Int32} (hT : aT h a = some (.inr c)) (hc : c ∈ fam) : pI h (some a) fam k v = some (wI h a (va_up (aI h a) k v)) := by
  unfold pI
  simp only [hT, if_pos hc]
theorem pR_ok {fam : List Nat} {v : Option Nat} (hT : aT h a = some (.inr c)) (hc : c ∈ fam) : pR h (some a) fam k v = some (wR h a (va_up (aR h a) k v)) := by
  unfold pR
  simp only [hT, if_pos hc]
theorem gI_1 (hT : aT h a = some (.inr c)) : gI h (some a) [c] k = some (aI h a k) := gI_ok hT (List.mem_singleton.mpr rfl)
theorem gR_1 (hT : aT h a = some (.inr c)) : gR h (some a) [c] k = some (aR h a k) := gR_ok hT (List.mem_singleton.mpr rfl)
theorem pI_1' {v : Int32} (hT : aT h a = some (.inr c)) : pI h (some a) [c] k v = some (wI h a (va_up (aI h a) k v)) := pI_ok hT (List.mem_singleton.mpr rfl)
theorem pR_1' {v : Option Nat} (hT : aT h a = some (.inr c)) : pR h (some a) [c] k v = some (wR h a (va_up (aR h a) k v)) := pR_ok hT (List.mem_singleton.mpr rfl)
theorem cv_ok {γ : Type} {o : Option γ} (hT : aT h a = some (.inr c)) : cv h (some a) c o = o := if_pos hT
theorem cu_ok {γ : Type} {fam : List Nat} {o : Option γ} (hT : aT h a = some (.inr c)) (hc : c ∈ fam) : cu h fam (some a) o = o := by
  unfold cu fits1
  simp only [hT]
  rw [if_pos ⟨decide_eq_true hc, fun z => nomatch z⟩]
theorem ix_ok (hg : g < N) (hN : N ≤ 1000) : ¬ (i32 g < 0 ∨ N ≤ (i32 g).toNatClampNeg) := by
  rw [i32_cl (by omega)]
  rintro (z | z)
  · exact i32_nn (by omega) z
  · omega
theorem iA_ok (hT : aT h a = some (.inl (0, N))) (hg : g < N) (hN : N ≤ 1000) : iA h (some a) (i32 g) = some (aI h a g) := by
  unfold iA
  simp only [hT, if_neg (ix_ok hg hN)]
  rw [i32_cl (by omega)]
theorem iS_ok {v : Int32} (hT : aT h a = some (.inl (0, N))) (hg : g < N) (hN : N ≤ 1000) : iS h (some a) (i32 g) v = some (wI h a (va_up (aI h a) g v)) := by
  unfold iS
  simp only [hT, if_neg (ix_ok hg hN)]
  rw [i32_cl (by omega)]
theorem rA_ok {kd : Nat} (hT : aT h a = some (.inl (kd, N))) (hg : g < N) (hN : N ≤ 1000) : rA h (some a) kd (i32 g) = some (aR h a g) := by
  unfold rA
  simp only [hT]
  rw [if_pos ⟨trivial, ix_ok hg hN⟩, i32_cl (by omega)]
theorem rS_ok {kd : Nat} {fam : List Nat} {v : Option Nat} (hT : aT h a = some (.inl (kd, N))) (hg : g < N) (hN : N ≤ 1000) (hf : fits1 h fam v = true) : rS h (some a) kd fam (i32 g) v = some (wR h a (va_up (aR h a) g v)) := by
  unfold rS
  simp only [hT]
  rw [if_pos ⟨trivial, ix_ok hg hN, hf⟩, i32_cl (by omega)]
theorem lenI_ok (hT : aT h a = some (.inl (0, N))) : lenI h (some a) = some (i32 N) := by
  unfold lenI
  simp only [hT]
  rfl
end HEAP
theorem bd_some {β γ : Type} (x : β) (h : AH) (f : β → AH → Option γ) : bd (some (x, h)) f = f x h := rfl
theorem sb_some {β γ : Type} (x : β) (f : β → Option γ) : (some x).bind f = f x := rfl
theorem nm_eq {β γ : Type} (x : β) (f : β → γ) : nm x f = f x := rfl
/-- a Boolean as Java has it -/
def bI (p : Bool) : Int32 := if p then 1 else 0
theorem bI_t : bI true = 1 := rfl
theorem bI_f : bI false = 0 := rfl
theorem bI_0 (p : Bool) : (bI p = 0) = (p = false) := by cases p <;> decide
theorem bI_1 (p : Bool) : (bI p = 1) = (p = true) := by cases p <;> decide
theorem rb_bI (p : Bool) (h : AH) : rb (bI p) h = some (bI p, h) := by cases p <;> rfl
theorem rb_1 (h : AH) : rb 1 h = some (1, h) := rfl
theorem rb_0 (h : AH) : rb 0 h = some (0, h) := rfl
/-- for i in start .. start + count - 1 -/
def fld {β : Type} (f : Nat → β → β) : Nat → Nat → β → β
  | _, 0, a => a
  | i, k + 1, a => fld f (i + 1) k (f i a)
theorem fld_0 {β : Type} (f : Nat → β → β) (i : Nat) (a : β) : fld f i 0 a = a := rfl
theorem fld_s {β : Type} (f : Nat → β → β) (i k : Nat) (a : β) : fld f i (k + 1) a = fld f (i + 1) k (f i a) := rfl
theorem fld_congr {β : Type} {f f' : Nat → β → β} : ∀ (k i : Nat) (a : β), (∀ j b, i ≤ j → j < i + k → f j b = f' j b) → fld f i k a = fld f' i k a
  | 0, _, _, _ => rfl
  | k + 1, i, a, H => by
    rw [fld_s, fld_s, H i a (Nat.le_refl _) (by omega)]
    exact fld_congr k (i + 1) _ (fun j b h1 h2 => H j b (by omega) (by omega))
/-- a predicate that each turn keeps -/
theorem fld_ind {β : Type} {f : Nat → β → β} (P : Nat → β → Prop) : ∀ (k i : Nat) (a : β), P i a → (∀ j b, i ≤ j → j < i + k → P j b → P (j + 1) (f j b)) → P (i + k) (fld f i k a)
  | 0, _, _, h0, _ => h0
  | k + 1, i, a, h0, H => by
    rw [fld_s]
    have e := fld_ind P k (i + 1) (f i a) (H i a (Nat.le_refl _) (by omega) h0) (fun j b h1 h2 h3 => H j b (by omega) (by omega) h3)
    rw [show i + (k + 1) = i + 1 + k by omega]
    exact e
theorem fld_end {β : Type} (f : Nat → β → β) : ∀ (k i : Nat) (a : β), fld f i (k + 1) a = f (i + k) (fld f i k a)
  | 0, _, _ => rfl
  | k + 1, i, a => by
    rw [fld_s, fld_end f k (i + 1) (f i a), show i + 1 + k = i + (k + 1) by omega]
    rfl
/-- the first i of start .. start + count - 1 with p, -4 if there is none -/
def srch (p : Nat → Bool) : Nat → Nat → Int32
  | _, 0 => -4
  | i, k + 1 => if p i then i32 i else srch p (i + 1) k
theorem srch_0 (p : Nat → Bool) (i : Nat) : srch p i 0 = -4 := rfl
theorem srch_s (p : Nat → Bool) (i k : Nat) : srch p i (k + 1) = if p i then i32 i else srch p (i + 1) k := rfl
theorem srch_congr {p q : Nat → Bool} : ∀ (k i : Nat), (∀ j, i ≤ j → j < i + k → p j = q j) → srch p i k = srch q i k
  | 0, _, _ => rfl
  | k + 1, i, H => by
    rw [srch_s, srch_s, H i (Nat.le_refl _) (by omega), srch_congr k (i + 1) (fun j h1 h2 => H j (by omega) (by omega))]
theorem fu_pos {k : Nat} (hk : k < 1000000) : k < FU := by unfold FU; omega
theorem succ_of {k m : Nat} (h : k < m) : ∃ m', m = m' + 1 := ⟨m - 1, by omega⟩
