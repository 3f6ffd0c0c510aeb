section ACOPY
variable {α : Type} {K : CX α} {own : String} {cc : ByteArray} {ret : Option FieldType} {pc : Nat} {ls : List (Nat × AV)} {st : List AV} {h : AH}
/-- System.arraycopy of ints -/
def cpI (h : AH) (s : Option Nat) (sp : Int32) (d : Option Nat) (dp n : Int32) : Option AH := match s, d with
  | some a0, some a => match aT h a0, aT h a with
    | some (.inl (0, n0)), some (.inl (0, n1)) => if sp < 0 ∨ dp < 0 ∨ n < 0 ∨ n0 < sp.toNatClampNeg + n.toNatClampNeg ∨ n1 < dp.toNatClampNeg + n.toNatClampNeg then none else some (wI h a (va_cpy (aI h a0) (aI h a) sp.toNatClampNeg dp.toNatClampNeg n.toNatClampNeg))
    | _, _ => none
  | _, _ => none
theorem cpI_some {s d : Option Nat} {sp dp n : Int32} {h2 : AH} (e : cpI h s sp d dp n = some h2) : ∃ a0 a n0 n1, s = some a0 ∧ d = some a ∧ aT h a0 = some (.inl (0, n0)) ∧ aT h a = some (.inl (0, n1)) ∧ ¬ (sp < 0 ∨ dp < 0 ∨ n < 0 ∨ n0 < sp.toNatClampNeg + n.toNatClampNeg ∨ n1 < dp.toNatClampNeg + n.toNatClampNeg) ∧ wI h a (va_cpy (aI h a0) (aI h a) sp.toNatClampNeg dp.toNatClampNeg n.toNatClampNeg) = h2 := by
  unfold cpI at e
  split at e
  · split at e
    · split at e
      · cases e
      · exact ⟨_, _, _, _, rfl, rfl, by assumption, by assumption, by assumption, Option.some.inj e⟩
    · cases e
  · cases e
theorem go_acopy (hK : KOK K own cc ret) {idx : Nat} {s d : Option Nat} {sp dp n : Int32} {f : AH → Option (α × AH)} (hl : Cond.methodLink own idx arraycopyName ∈ Tg) (hnat : Cond.native arraycopyName ∈ Tg) (hst : Cond.static arraycopyName ∈ Tg) (hini : Cond.initialized "java/lang/System" ∈ Tg) (hR : 1 ≤ K.2.2.2.1.1 ∧ 8 + (nativeFrameWords "java/lang/System" "arraycopy" 5 + 11) ≤ K.2.2.2.1.2.1) (hsum : (st.map ac).sum ≤ 8) (hdg : decode cc pc = .ok (.invokestatic idx, 3)) (kk : ∀ h2, Go K (pc + 3) ls st h2 (f h2)) : Go K pc ls (vI n :: vI dp :: vR d :: vI sp :: vR s :: st) h ((cpI h s sp d dp n).bind f) := by
  intro r h' ho
  cases e : cpI h s sp d dp n with
  | none => rw [e] at ho; cases ho
  | some h2 =>
    rw [e] at ho
    obtain ⟨a0, a, n0, n1, rfl, rfl, hT0, hT1, hc, rfl⟩ := cpI_some e
    obtain ⟨m1, m2⟩ := kk _ r h' ho
    refine ⟨aLe_of (h2 := wI h a (va_cpy (aI h a0) (aI h a) sp.toNatClampNeg dp.toNatClampNeg n.toNatClampNeg)) rfl m1, fun ha H locs lsA hP hS hls => ?_⟩
    have h1 : ¬ sp < 0 := fun z => hc (Or.inl z)
    have h2 : ¬ dp < 0 := fun z => hc (Or.inr (Or.inl z))
    have h3 : ¬ n < 0 := fun z => hc (Or.inr (Or.inr (Or.inl z)))
    have h4 : sp.toNatClampNeg + n.toNatClampNeg ≤ n0 := Nat.not_lt.mp fun z => hc (Or.inr (Or.inr (Or.inr (Or.inl z))))
    have h5 : dp.toNatClampNeg + n.toNatClampNeg ≤ n1 := Nat.not_lt.mp fun z => hc (Or.inr (Or.inr (Or.inr (Or.inr z))))
    have nn : ∀ z : Int32, ¬ z < 0 → z.toInt = (z.toNatClampNeg : Int) := by
      intro z hz
      have hz0 : (0 : Int) ≤ z.toInt := by
        have := Int32.not_lt.mp hz
        simpa using Int32.le_iff_toInt_le.mp this
      show z.toInt = ((z.toInt.toNat : Nat) : Int)
      omega
    have el : ∀ b : Nat, elV K.1.2.2.2.1 h b 0 = fun j => Value.int (aI h b j) := fun b => rfl
    have hc0 := arr_at hK hT0 hP
    have hc1 := arr_at hK hT1 hP
    rw [el] at hc0 hc1
    intro T hT X
    obtain ⟨-, k0, hk0, cm0, hkk0⟩ := (tys_at hK 0 (by decide)).1 n0 (fun j => .int (aI h a0 j))
    obtain ⟨-, k1, hk1, cm1, hkk1⟩ := (tys_at hK 0 (by decide)).1 n1 (fun j => .int (aI h a j))
    obtain ⟨vm', X', step⟩ := X.arraycopy hK.1 hK.2.2.2.1 (hK.hts _ hl) (hK.hts _ hnat) (hK.hts _ hst) (hK.hts _ hini) (src := K.1.2.2.2.1 + a0) (dst := K.1.2.2.2.1 + a) (cs := arrV (K.1.2.2.2.2.2 0) n0 (fun j => .int (aI h a0 j))) (cd := arrV (K.1.2.2.2.2.2 0) n1 (fun j => .int (aI h a j))) (srcPos := sp) (destPos := dp) (n := n) (by rw [hT]; exact hc0) (by rw [hT]; exact hc1)
      (fun _ z => by cases z) (fun _ z => by cases z) (fun z => by cases z) (fun z => by cases z) hk0 hk1 hkk0 hkk1 (by simp [arT, refKind]) h1 h2 h3
      (by rw [nn sp h1, nn n h3, arrV_size]; omega)
      (by rw [nn dp h2, nn n h3, arrV_size]; omega)
      (fun vm₁ _ i hi => by
        have e : (arrV (K.1.2.2.2.2.2 0) n0 (fun j => Value.int (aI h a0 j))).slots.getD (sp.toNatClampNeg + i) .null = .int (aI h a0 (sp.toNatClampNeg + i)) := by
          rw [Array.getD_eq_getD_getElem?, arrV_read _ _ (by omega)]
          rfl
        refine ⟨?_, ?_⟩
        · rw [e]; rfl
        · rw [e]; exact trivial)
      (g := F0 K.2.1.2.2.2.1 pc lsA (stV K.1.2.2.2.1 (vI n :: vI dp :: vR (some a) :: vI sp :: vR (some a0) :: st))) rfl (hls.1.trans hK.2.2.1.symm) (rest := stV K.1.2.2.2.1 st) rfl (by rw [hK.2.1]; exact hdg) hR.1 (by have := st_room K.1.2.2.2.1 hsum; show 2 * 0 + _ + _ ≤ K.2.2.2.1.2.1; omega)
    have e1 : copied (arrV (K.1.2.2.2.2.2 0) n0 (fun j => .int (aI h a0 j))) (arrV (K.1.2.2.2.2.2 0) n1 (fun j => .int (aI h a j))) sp dp n = arrV (K.1.2.2.2.2.2 0) n1 (fun j => .int (va_cpy (aI h a0) (aI h a) sp.toNatClampNeg dp.toNatClampNeg n.toNatClampNeg j)) := va_copied (fun z => .int z) _ _ (aI h a0) (aI h a) h4
    rw [e1] at X' step
    have hlt : K.1.2.2.2.1 + a < H.size := (Array.getElem?_eq_some_iff.mp hc1).1
    generalize hcell : arrV (K.1.2.2.2.2.2 0) n1 (fun j => .int (va_cpy (aI h a0) (aI h a) sp.toNatClampNeg dp.toNatClampNeg n.toNatClampNeg j)) = cell at X' step
    have hheap : ((T.setVm vm').setCell (K.1.2.2.2.1 + a) cell).heap = H.setIfInBounds (K.1.2.2.2.1 + a) cell := by rw [← hT]; rfl
    have oq : ∀ q : Nat, q ≠ K.1.2.2.2.1 + a → (H.setIfInBounds (K.1.2.2.2.1 + a) cell)[q]? = H[q]? := fun q hq => by simp [Array.getElem?_setIfInBounds, Ne.symm hq]
    have zz : (H.setIfInBounds (K.1.2.2.2.1 + a) cell).size = H.size := by simp
    have hP1 : HP K.1 (wI h a (va_cpy (aI h a0) (aI h a) sp.toNatClampNeg dp.toNatClampNeg n.toNatClampNeg)) (H.setIfInBounds (K.1.2.2.2.1 + a) cell) := hP.set hT1 zz oq rfl rfl (fun b hb => va_up_ne _ _ hb) (fun _ _ => rfl) (fun _ _ => rfl) (by
      show (H.setIfInBounds (K.1.2.2.2.1 + a) cell)[K.1.2.2.2.1 + a]? = _
      rw [← hcell]
      simp only [Array.getElem?_setIfInBounds, hlt, if_true]
      refine congrArg (fun g => some (arrV _ n1 g)) (funext fun j => ?_)
      have q1 : aI (wI h a (va_cpy (aI h a0) (aI h a) sp.toNatClampNeg dp.toNatClampNeg n.toNatClampNeg)) a = va_cpy (aI h a0) (aI h a) sp.toNatClampNeg dp.toNatClampNeg n.toNatClampNeg := va_up_self _ _ _
      show _ = Value.int (aI (wI h a (va_cpy (aI h a0) (aI h a) sp.toNatClampNeg dp.toNatClampNeg n.toNatClampNeg)) a j)
      rw [q1])
    obtain ⟨t, a1, b1⟩ := m2 ha _ _ lsA hP1 ⟨by rw [zz]; exact hS.1, fun q g1 g2 => by
        rw [oq q (fun e => g2 (by rw [e]; exact Nat.le_add_right _ _))]
        exact hS.2.1 q g1 g2, fun q hq => by
        rcases List.mem_append.mp hq with z | z
        · exact hS.2.2 q z
        · obtain ⟨y, -, hy⟩ := List.mem_map.mp z
          rw [← hy]
          exact Nat.le_add_right _ _⟩ hls _ hheap X'
    exact ⟨t, step t a1, b1⟩
theorem cpI_1 {h h2 : AH} {s d : Option Nat} {sp dp n : Int32} (e : cpI h s sp d dp n = some h2) : h2.1 = h.1 := by obtain ⟨_, _, _, _, -, -, -, -, -, rfl⟩ := cpI_some e; rfl
theorem g_acopy {P : PX α} {mn : String} {idx : Nat} {s d : Option Nat} {sp dp n : Int32} {f : AH → Option (α × AH)} (hl : Cond.methodLink own idx arraycopyName ∈ Tg) (hnat : Cond.native arraycopyName ∈ Tg) (hst : Cond.static arraycopyName ∈ Tg) (hini : Cond.initialized "java/lang/System" ∈ Tg) (hR : 1 ≤ P.2.2.1.1 ∧ 8 + (nativeFrameWords "java/lang/System" "arraycopy" 5 + 11) ≤ P.2.2.1.2.1) (hsum : (st.map ac).sum ≤ 8) (hdg : decode cc pc = .ok (.invokestatic idx, 3)) (kk : ∀ h2, Gp P own mn cc ret (pc + 3) ls st h2 (f h2)) : Gp P own mn cc ret pc ls (vI n :: vI dp :: vR d :: vI sp :: vR s :: st) h ((cpI h s sp d dp n).bind f) :=
  ⟨mono_put (fun _ e => cpI_1 e) (fun x => (kk x).1), fun M hK hm => go_acopy (K := mkC P M) hK hl hnat hst hini hR hsum hdg (fun h2 => (kk h2).at M hK hm)⟩
end ACOPY
