section FLD
variable {α : Type} {K : CX α} {own : String} {cc : ByteArray} {ret : Option FieldType} {pc : Nat} {ls : List (Nat × AV)} {st : List AV} {h : AH}
theorem gI_some {o : Option Nat} {fam : List Nat} {k : Nat} {x : Int32} (e : gI h o fam k = some x) : ∃ a ci, o = some a ∧ aT h a = some (.inr ci) ∧ ci ∈ fam ∧ aI h a k = x := by
  unfold gI at e
  split at e
  · cases e
  · split at e
    · split at e
      · exact ⟨_, _, rfl, by assumption, by assumption, Option.some.inj e⟩
      · cases e
    · cases e
theorem gR_some {o : Option Nat} {fam : List Nat} {k : Nat} {x : Option Nat} (e : gR h o fam k = some x) : ∃ a ci, o = some a ∧ aT h a = some (.inr ci) ∧ ci ∈ fam ∧ aR h a k = x := by
  unfold gR at e
  split at e
  · cases e
  · split at e
    · split at e
      · exact ⟨_, _, rfl, by assumption, by assumption, Option.some.inj e⟩
      · cases e
    · cases e
theorem pI_some {o : Option Nat} {fam : List Nat} {k : Nat} {v : Int32} {h' : AH} (e : pI h o fam k v = some h') : ∃ a ci, o = some a ∧ aT h a = some (.inr ci) ∧ ci ∈ fam ∧ wI h a (va_up (aI h a) k v) = h' := by
  unfold pI at e
  split at e
  · cases e
  · split at e
    · split at e
      · exact ⟨_, _, rfl, by assumption, by assumption, Option.some.inj e⟩
      · cases e
    · cases e
theorem pR_some {o : Option Nat} {fam : List Nat} {k : Nat} {v : Option Nat} {h' : AH} (e : pR h o fam k v = some h') : ∃ a ci, o = some a ∧ aT h a = some (.inr ci) ∧ ci ∈ fam ∧ wR h a (va_up (aR h a) k v) = h' := by
  unfold pR at e
  split at e
  · cases e
  · split at e
    · split at e
      · exact ⟨_, _, rfl, by assumption, by assumption, Option.some.inj e⟩
      · cases e
    · cases e
/-- the field's facts at an object of the family -/
theorem fld_at (hK : KOK K own cc ret) {fam : List Nat} {k : Nat} {ref nm ds : String} {b fin : Bool} (hf : famOK fam k ref nm ds b fin) {a ci : Nat} (hci : ci ∈ fam) (hT : aT h a = some (.inr ci)) {H : Heap} (hP : HP K.1 h H) :
    ∃ (C : String) (T : u_T) (N : Nat) (cell : Cell) (cf : ClassId) (kf : Class) (fi : Nat) (f : Field) (kC : Class), clsOK ci C T N ∧ k < N ∧ (T k).2.1 = nm ∧ (T k).2.2.1 = ds ∧ (T k).2.2.2 = fin ∧ (fty ci).getD k true = b ∧
      H[K.1.2.2.2.1 + a]? = some cell ∧ cell.cls = K.1.2.2.2.2.1.1 ci ∧ cell.vm = .none ∧ (∀ j, j < N → cell.slots[K.1.2.2.2.2.1.2 ci j]? = some (fiV K.1.2.2.2.1 h a ci j)) ∧
      K.2.1.2.2.1.fieldFound? (T k).1 nm ds = some (cf, kf, fi, f) ∧ K.2.1.2.2.1.fieldFound? ref nm ds = some (cf, kf, fi, f) ∧ f.slot = K.1.2.2.2.2.1.2 ci k ∧ f.isStatic = false ∧ K.2.1.2.2.1.vm.findClass C = some (K.1.2.2.2.2.1.1 ci) ∧ K.2.1.2.2.1.vm.classes[K.1.2.2.2.2.1.1 ci]? = some kC ∧ kC.kind = .ordinary := by
  obtain ⟨C, T, N, hc, hk, e1, e2, e3, e4, e5⟩ := hf ci hci
  obtain ⟨-, r, r1, cell, q1, q2, q3, q4⟩ := hP.2 a _ hT
  have hr : r = (C, T, N) := Option.some.inj (r1.symm.trans hc.1)
  subst hr
  obtain ⟨hS, hfc, kC, hkC, hkind⟩ := hK.vk.1 ci _ hc.1
  obtain ⟨cf, kf, fi, f, hi, hsl⟩ := hS k hk
  have hst := (u_facts hfc hkC (u_lays hK.hts hc.2.1 hk) hi).1
  refine ⟨C, T, N, cell, cf, kf, fi, f, kC, hc, hk, e1, e2, e3, e5, q1, q2, q3, q4, by rw [← e1, ← e2]; exact hi, ?_, hsl, hst, hfc, hkC, hkind⟩
  rcases e4 with e4 | e4
  · rw [← e1, ← e2, ← e4]; exact hi
  · exact u_same (hK.hts _ e4) _ (by rw [← e1, ← e2]; exact hi)
theorem go_getI (hK : KOK K own cc ret) {fam : List Nat} {k : Nat} {ref nm ds : String} {fin : Bool} {idx : Nat} (hl : Cond.fieldLink own idx ref nm ds ∈ Tg) (hf : famOK fam k ref nm ds true fin) {o : Option Nat} {f : Int32 → Option (α × AH)} (d : decode cc pc = .ok (.getfield idx, 3)) (kk : ∀ x, Go K (pc + 3) ls (vI x :: st) h (f x)) : Go K pc ls (vR o :: st) h ((gI h o fam k).bind f) := by
  intro r h' ho
  cases e : gI h o fam k with
  | none => rw [e] at ho; cases ho
  | some x =>
    rw [e] at ho
    obtain ⟨a, ci, rfl, hT, hci, hx⟩ := gI_some e
    obtain ⟨m1, m2⟩ := kk x r h' ho
    refine ⟨m1, fun ha H locs lsA hP hS hls => ?_⟩
    obtain ⟨C, T, N, cell, cf, kf, fi, fd, kC, hc, hk, e1, e2, e3, e5, q1, q2, q3, q4, hi, hi2, hsl, hst, -⟩ := fld_at hK hf hci hT hP
    refine W.getf hK.1 hK.2.1 hK.2.2.2.1 (hK.hts _ hl) hi2 hst q1 (by rw [q3]; exact fun z => by cases z) (v := .int x) ?_ rfl rfl d (m2 ha H locs lsA hP hS hls)
    rw [hsl, q4 k hk]
    unfold fiV
    rw [if_pos e5, hx]
theorem go_getR (hK : KOK K own cc ret) {fam : List Nat} {k : Nat} {ref nm ds : String} {fin : Bool} {idx : Nat} (hl : Cond.fieldLink own idx ref nm ds ∈ Tg) (hf : famOK fam k ref nm ds false fin) {o : Option Nat} {f : Option Nat → Option (α × AH)} (d : decode cc pc = .ok (.getfield idx, 3)) (kk : ∀ x, Go K (pc + 3) ls (vR x :: st) h (f x)) : Go K pc ls (vR o :: st) h ((gR h o fam k).bind f) := by
  intro r h' ho
  cases e : gR h o fam k with
  | none => rw [e] at ho; cases ho
  | some x =>
    rw [e] at ho
    obtain ⟨a, ci, rfl, hT, hci, hx⟩ := gR_some e
    obtain ⟨m1, m2⟩ := kk x r h' ho
    refine ⟨m1, fun ha H locs lsA hP hS hls => ?_⟩
    obtain ⟨C, T, N, cell, cf, kf, fi, fd, kC, hc, hk, e1, e2, e3, e5, q1, q2, q3, q4, hi, hi2, hsl, hst, -⟩ := fld_at hK hf hci hT hP
    refine W.getf hK.1 hK.2.1 hK.2.2.2.1 (hK.hts _ hl) hi2 hst q1 (by rw [q3]; exact fun z => by cases z) (v := rv K.1.2.2.2.1 x) ?_ rfl rfl d (m2 ha H locs lsA hP hS hls)
    rw [hsl, q4 k hk]
    unfold fiV
    rw [if_neg (by rw [e5]; decide), hx]
/-- the heap behind a store into a field -/
theorem fld_put {X : GX} {H H' : Heap} {a ci k N : Nat} {C : String} {T : u_T} {cell : Cell} {h' : AH} {v : Value} {s : State} {A : Array Value} {tys : List (ClassId × FieldType)} (hc : clsOK ci C T N) (hk : k < N) (hvk : va_K X.2.2.2.2.1 vwCl tys s) (hts : ∀ w ∈ Tg, w.before A s = true) (hP : HP X h H) (hT : aT h a = some (.inr ci)) (q2 : cell.cls = X.2.2.2.2.1.1 ci) (q3 : cell.vm = .none) (q4 : ∀ j, j < N → cell.slots[X.2.2.2.2.1.2 ci j]? = some (fiV X.2.2.2.1 h a ci j))
    (e1 : H'[X.2.2.2.1 + a]? = some (cell.setSlot (X.2.2.2.2.1.2 ci k) v)) (z : H'.size = H.size) (oq : ∀ q, q ≠ X.2.2.2.1 + a → H'[q]? = H[q]?) (en : aN h' = aN h) (eT : aT h' = aT h) (eI : ∀ b, b ≠ a → aI h' b = aI h b) (eL : ∀ b, b ≠ a → aL h' b = aL h b) (eR : ∀ b, b ≠ a → aR h' b = aR h b) (ev : ∀ j, j < N → updV (fiV X.2.2.2.1 h a ci) k v j = fiV X.2.2.2.1 h' a ci j) : HP X h' H' := by
  obtain ⟨hc1, hin, ty, hty, hnm, -⟩ := hc
  have hap := va_apart (own := C) hts hin ty hty hnm hvk hc1
  exact hP.set hT z oq en eT eI eL eR ⟨_, hc1, t_OB.to (V := updV (fiV X.2.2.2.1 h a ci) k v) ⟨_, e1, q2, q3, t_set q4 hap hk v⟩ ev⟩
theorem updV_I {B a ci k N : Nat} {v : Int32} (e : (fty ci).getD k true = true) : ∀ j, j < N → updV (fiV B h a ci) k (.int v) j = fiV B (wI h a (va_up (aI h a) k v)) a ci j := by
  intro j _
  unfold updV fiV
  have e1 : aI (wI h a (va_up (aI h a) k v)) a = va_up (aI h a) k v := va_up_self _ _ _
  rw [e1]
  by_cases hj : j = k
  · subst hj
    rw [if_pos rfl, if_pos e, va_up_self]
  · rw [if_neg hj, va_up_ne _ _ hj]
    rfl
theorem updV_R {B a ci k N : Nat} {v : Option Nat} (e : (fty ci).getD k true = false) : ∀ j, j < N → updV (fiV B h a ci) k (rv B v) j = fiV B (wR h a (va_up (aR h a) k v)) a ci j := by
  intro j _
  unfold updV fiV
  have e1 : aR (wR h a (va_up (aR h a) k v)) a = va_up (aR h a) k v := va_up_self _ _ _
  rw [e1]
  by_cases hj : j = k
  · subst hj
    rw [if_pos rfl, if_neg (by rw [e]; decide), va_up_self]
  · rw [if_neg hj, va_up_ne _ _ hj]
    rfl
end FLD
