/-! METHODS: what a method's function says of it; calls -/
/-- y, called with vs over the heap h, answers r over h' -/
def Ct (X : GX) (y : MethodName) (cc : ByteArray) (maxL : Nat) (ret : Option FieldType) (fr lo : Nat) (vs : List AV) (h : AH) (r : Option Value) (h' : AH) : Prop :=
  Met X.1 y [Cond.code y cc maxL ret] { frames := fr, cells := aN h' - aN h, slots := aS h' - aS h, locals := lo } (va_Pc (stV X.2.2.2.1 vs) (fun U => X.2.1.WarmedH U.vm ∧ HP X h U.heap ∧ blw X U.heap)) (Qf X r h') (aN h' - aN h) (aS h' - aS h) (fun q => X.2.2.2.1 ≤ q)
def Snd {α : Type} (X : GX) (y : MethodName) (cc : ByteArray) (maxL : Nat) (ret : Option FieldType) (fr lo : Nat) (ρ : α → Option Value) (vs : List AV) (h : AH) (o : Option (α × AH)) : Prop :=
  Mono h o ∧ ∀ (r : α) (h' : AH), o = some (r, h') → Ct X y cc maxL ret fr lo vs h (ρ r) h'
def lvA : Nat → List AV → List (Nat × AV)
  | _, [] => []
  | i, v :: vs => (i, v) :: lvA (if ac v = 2 then i + 2 else i + 1) vs
theorem lvA_V (B : Nat) : ∀ (vs : List AV) (i : Nat), lsV B (lvA i vs) = lv_args i (stV B vs)
  | [], _ => rfl
  | v :: vs, i => by
    show (i, av B v) :: lsV B (lvA _ vs) = (i, av B v) :: lv_args (if (av B v).category = 2 then i + 2 else i + 1) (stV B vs)
    rw [lvA_V B vs, av_cat]
def slN : List AV → Nat
  | [] => 0
  | v :: vs => (if ac v = 2 then 2 else 1) + slN vs
theorem slN_eq (B : Nat) : ∀ vs : List AV, (lg_sl (stV B vs)).length = slN vs
  | [] => rfl
  | v :: vs => by
    have ih := slN_eq B vs
    show ((if (av B v).category = 2 then [Slot.val (av B v), Slot.second] else [Slot.val (av B v)]) ++ lg_sl (stV B vs)).length = _
    rw [List.length_append, ih, av_cat]
    show _ = (if ac v = 2 then 2 else 1) + slN vs
    by_cases hc : ac v = 2
    · rw [if_pos hc, if_pos hc]; rfl
    · rw [if_neg hc, if_neg hc]; rfl
/-- a method, out of the walk of its body -/
theorem snd_of {α : Type} {X : GX} (hX : XOK X) {y : MethodName} {cc : ByteArray} {maxL fr lo : Nat} {ret : Option FieldType} {ρ : α → Option Value} {vs : List AV} {h : AH} {o : Option (α × AH)} (hy : plainName y.cls = true) (hv : slN vs ≤ maxL) (body : Gp (X, (fun x => Sum.inl (ρ x)), (fr, lo, maxL), h) y.cls y.name cc ret 0 (lvA 0 vs) [] h o) : Snd X y cc maxL ret fr lo ρ vs h o := by
  refine ⟨body.1, fun r h' ho => ?_⟩
  refine Met.ofW (cc := cc) (maxL := maxL) (ret := ret) hy rfl ?_
  intro p e s m args below meth c s₁ B hml hv0
  obtain ⟨rfl, hwm, hP, hbl⟩ := hv0
  have hn := findClass_of_methodNamed B.named
  have hK : KOK (mkC (X, (fun x => Sum.inl (ρ x)), (fr, lo, maxL), h) (p, e, s, m, (stV X.2.2.2.1 vs).toArray, below, meth, c)) y.cls cc ret := ⟨B.exec, B.bytes, hml, hn, hwm, B.returns, B.notSynchronized, hX.1, hX.2.1, hX.2.2, hbl⟩
  have hw := (body.2 (p, e, s, m, (stV X.2.2.2.1 vs).toArray, below, meth, c) hK (name_of_methodNamed B.named B.method).1 r h' ho).2 (aLe.rf h) s.heap []
  have hl := lv_entry (stV X.2.2.2.1 vs) (n := maxL) (by rw [slN_eq]; exact hv)
  rw [lg_entry_eq]
  have hw2 := hw _ hP va_S.rf (by rw [lvA_V]; exact hl)
  have z1 : aN h - aN h = 0 := Nat.sub_self _
  have z2 : aS h - aS h = 0 := Nat.sub_self _
  have hw3 : Wk (mkC (X, (fun x => Sum.inl (ρ x)), (fr, lo, maxL), h) (p, e, s, m, (stV X.2.2.2.1 vs).toArray, below, meth, c)) (kR (mkC (X, (fun x => Sum.inl (ρ x)), (fr, lo, maxL), h) (p, e, s, m, (stV X.2.2.2.1 vs).toArray, below, meth, c)) h') (kQ (mkC (X, (fun x => Sum.inl (ρ x)), (fr, lo, maxL), h) (p, e, s, m, (stV X.2.2.2.1 vs).toArray, below, meth, c)) r h') s.heap [] (aN h - aN h) (aS h - aS h) 0 _ [] := hw2
  rw [z1, z2] at hw3
  exact hw3
