/-! FIELDS AND ROWS -/
def gI (h : AH) (o : Option Nat) (fam : List Nat) (k : Nat) : Option Int32 := match o with
  | none => none
  | some a => match aT h a with
    | some (.inr ci) => if ci ∈ fam then some (aI h a k) else none
    | _ => none
def gR (h : AH) (o : Option Nat) (fam : List Nat) (k : Nat) : Option (Option Nat) := match o with
  | none => none
  | some a => match aT h a with
    | some (.inr ci) => if ci ∈ fam then some (aR h a k) else none
    | _ => none
def pI (h : AH) (o : Option Nat) (fam : List Nat) (k : Nat) (v : Int32) : Option AH := match o with
  | none => none
  | some a => match aT h a with
    | some (.inr ci) => if ci ∈ fam then some (wI h a (va_up (aI h a) k v)) else none
    | _ => none
def pR (h : AH) (o : Option Nat) (fam : List Nat) (k : Nat) (v : Option Nat) : Option AH := match o with
  | none => none
  | some a => match aT h a with
    | some (.inr ci) => if ci ∈ fam then some (wR h a (va_up (aR h a) k v)) else none
    | _ => none
/-- the array's kind and length -/
def aK (h : AH) (o : Option Nat) : Option (Nat × Nat × Nat) := match o with
  | none => none
  | some a => match aT h a with
    | some (.inl q) => some (a, q.1, q.2)
    | _ => none
def iA (h : AH) (o : Option Nat) (i : Int32) : Option Int32 := match o with
  | none => none
  | some a => match aT h a with
    | some (.inl (0, n)) => if i < 0 ∨ n ≤ i.toNatClampNeg then none else some (aI h a i.toNatClampNeg)
    | _ => none
def jA (h : AH) (o : Option Nat) (i : Int32) : Option Int64 := match o with
  | none => none
  | some a => match aT h a with
    | some (.inl (1, n)) => if i < 0 ∨ n ≤ i.toNatClampNeg then none else some (aL h a i.toNatClampNeg)
    | _ => none
def rA (h : AH) (o : Option Nat) (kd : Nat) (i : Int32) : Option (Option Nat) := match o with
  | none => none
  | some a => match aT h a with
    | some (.inl (k, n)) => if k = kd ∧ ¬ (i < 0 ∨ n ≤ i.toNatClampNeg) then some (aR h a i.toNatClampNeg) else none
    | _ => none
def iS (h : AH) (o : Option Nat) (i v : Int32) : Option AH := match o with
  | none => none
  | some a => match aT h a with
    | some (.inl (0, n)) => if i < 0 ∨ n ≤ i.toNatClampNeg then none else some (wI h a (va_up (aI h a) i.toNatClampNeg v))
    | _ => none
def jS (h : AH) (o : Option Nat) (i : Int32) (v : Int64) : Option AH := match o with
  | none => none
  | some a => match aT h a with
    | some (.inl (1, n)) => if i < 0 ∨ n ≤ i.toNatClampNeg then none else some (wL h a (va_up (aL h a) i.toNatClampNeg v))
    | _ => none
/-- v is null or an object of the family -/
def fits1 (h : AH) (fam : List Nat) (v : Option Nat) : Bool := match v with
  | none => true
  | some b => match aT h b with
    | some (.inr ci) => decide (ci ∈ fam)
    | _ => false
def rS (h : AH) (o : Option Nat) (kd : Nat) (fam : List Nat) (i : Int32) (v : Option Nat) : Option AH := match o with
  | none => none
  | some a => match aT h a with
    | some (.inl (k, n)) => if k = kd ∧ ¬ (i < 0 ∨ n ≤ i.toNatClampNeg) ∧ fits1 h fam v = true then some (wR h a (va_up (aR h a) i.toNatClampNeg v)) else none
    | _ => none
def lenA (h : AH) (o : Option Nat) : Option Int32 := match o with
  | none => none
  | some a => match aT h a with
    | some (.inl q) => some (Int32.ofNat q.2)
    | _ => none
def nA (h : AH) (kd : Nat) (n : Int32) : Option (Option Nat × AH) := if n < 0 ∨ 1000000 < n.toNatClampNeg then none else some (some (aN h), nwH h (.inl (kd, n.toNatClampNeg)) n.toNatClampNeg)
def nO (h : AH) (ci N : Nat) : Option (Option Nat × AH) := some (some (aN h), nwH h (.inr ci) N)
def bd {β γ : Type} (o : Option (β × AH)) (f : β → AH → Option γ) : Option γ := match o with
  | none => none
  | some q => f q.1 q.2
/-- a class of the tables -/
def clsOK (ci : Nat) (C : String) (T : u_T) (N : Nat) : Prop := vwCl[ci]? = some (C, T, N) ∧ (∀ w ∈ u_ws C T N, w ∈ Tg) ∧ ∃ ty : Nat → FieldType, (∀ k, k < N → parseFieldDescriptor (T k).2.2.1 = some (ty k)) ∧ (∀ a, a < N → ∀ b, b < N → a ≠ b → (T a).2.1 ≠ (T b).2.1) ∧ ∀ j, j < N → defaultValue (ty j) = if (fty ci).getD j true = true then .int 0 else .null
/-- the field k of each class of the family is ref's nm -/
def famOK (fam : List Nat) (k : Nat) (ref nm ds : String) (b fin : Bool) : Prop := ∀ ci ∈ fam, ∃ (C : String) (T : u_T) (N : Nat), clsOK ci C T N ∧ k < N ∧ (T k).2.1 = nm ∧ (T k).2.2.1 = ds ∧ (T k).2.2.2 = fin ∧ ((T k).1 = ref ∨ Cond.sameField ref (T k).1 nm ds ∈ Tg) ∧ (fty ci).getD k true = b
theorem HP.set {X : GX} {h h' : AH} {H H' : Heap} {a : Nat} {ty : AT} (hP : HP X h H) (hT : aT h a = some ty) (z : H'.size = H.size) (oq : ∀ q, q ≠ X.2.2.2.1 + a → H'[q]? = H[q]?) (e1 : aN h' = aN h) (e2 : aT h' = aT h) (eI : ∀ b, b ≠ a → aI h' b = aI h b) (eL : ∀ b, b ≠ a → aL h' b = aL h b) (eR : ∀ b, b ≠ a → aR h' b = aR h b) (hc : cAt X h' a ty H') : HP X h' H' := by
  refine ⟨by rw [z, e1]; exact hP.1, fun b ty' hb => ?_⟩
  rw [e2] at hb
  obtain ⟨g1, g2⟩ := hP.2 b ty' hb
  refine ⟨by rw [e1]; exact g1, ?_⟩
  by_cases hba : b = a
  · subst hba
    have : ty' = ty := Option.some.inj (hb.symm.trans hT)
    subst this
    exact hc
  · have hq : H'[X.2.2.2.1 + b]? = H[X.2.2.2.1 + b]? := oq _ (by omega)
    have f1 : elV X.2.2.2.1 h' b = elV X.2.2.2.1 h b := by funext k j; unfold elV; rw [eI b hba, eL b hba, eR b hba]
    have f2 : fiV X.2.2.2.1 h' b = fiV X.2.2.2.1 h b := by funext k j; unfold fiV; rw [eI b hba, eR b hba]
    rcases ty' with q | ci
    · show H'[_]? = _
      rw [hq, f1]
      exact g2
    · obtain ⟨r, r1, r2⟩ := g2
      refine ⟨r, r1, ?_⟩
      rw [f2]
      exact r2.kept hq
theorem HP.add {X : GX} {h : AH} {H H' : Heap} {ty : AT} {n : Nat} (hP : HP X h H) (z : H'.size = H.size + 1) (oq : ∀ q, q < H.size → H'[q]? = H[q]?) (hc : cAt X (nwH h ty n) (aN h) ty H') : HP X (nwH h ty n) H' := by
  refine ⟨by rw [z, hP.1]; show _ = _ + (h.1.1 + 1); show X.2.2.2.1 + h.1.1 + 1 = _; omega, fun b ty' hb => ?_⟩
  by_cases hba : b = aN h
  · subst hba
    have : ty' = ty := by
      have h1 : va_up h.2.1 h.1.1 (some ty) h.1.1 = some ty' := hb
      rw [va_up_self] at h1
      exact (Option.some.inj h1).symm
    subst this
    exact ⟨Nat.lt_succ_self _, hc⟩
  · have hb2 : aT h b = some ty' := by
      have h1 : va_up h.2.1 h.1.1 (some ty) b = some ty' := hb
      exact (va_up_ne h.2.1 (some ty) (k := h.1.1) hba).symm.trans h1
    obtain ⟨g1, g2⟩ := hP.2 b ty' hb2
    have hq : H'[X.2.2.2.1 + b]? = H[X.2.2.2.1 + b]? := oq _ (by rw [hP.1]; omega)
    have eI : aI (nwH h ty n) b = aI h b := va_up_ne _ _ hba
    have eL : aL (nwH h ty n) b = aL h b := va_up_ne _ _ hba
    have eR : aR (nwH h ty n) b = aR h b := va_up_ne _ _ hba
    have f1 : elV X.2.2.2.1 (nwH h ty n) b = elV X.2.2.2.1 h b := by funext k j; unfold elV; rw [eI, eL, eR]
    have f2 : fiV X.2.2.2.1 (nwH h ty n) b = fiV X.2.2.2.1 h b := by funext k j; unfold fiV; rw [eI, eR]
    refine ⟨Nat.lt_succ_of_lt g1, ?_⟩
    rcases ty' with q | ci
    · show H'[_]? = _
      rw [hq, f1]
      exact g2
    · obtain ⟨r, r1, r2⟩ := g2
      refine ⟨r, r1, ?_⟩
      rw [f2]
      exact r2.kept hq
