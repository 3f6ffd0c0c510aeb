section NEW
variable {α : Type} {K : CX α} {own : String} {cc : ByteArray} {ret : Option FieldType} {pc : Nat} {ls : List (Nat × AV)} {st : List AV} {h : AH}
theorem go_alen (hK : KOK K own cc ret) {o : Option Nat} {f : Int32 → Option (α × AH)} (d : decode cc pc = .ok (.arraylength, 1)) (kk : ∀ x, Go K (pc + 1) ls (vI x :: st) h (f x)) (hk : ∀ a k n, aT h a = some (.inl (k, n)) → o = some a → k < 4) : Go K pc ls (vR o :: st) h ((lenA h o).bind f) := by
  intro r h' ho
  cases e : lenA h o with
  | none => rw [e] at ho; cases ho
  | some x =>
    rw [e] at ho
    obtain ⟨a, k, n, rfl, hT, hx⟩ := lenA_some e
    obtain ⟨m1, m2⟩ := kk x r h' ho
    refine ⟨m1, fun ha H locs lsA hP hS hls => ?_⟩
    exact W.alen (n := x) hK.1 hK.2.1 (arr_at hK hT hP) ((tys_at hK k (hk a k n hT rfl)).1 n _) (by rw [arrV_size]; exact hx) rfl rfl d (m2 ha H locs lsA hP hS hls)
/-- the length of an array of ints -/
def lenI (h : AH) (o : Option Nat) : Option Int32 := match o with
  | none => none
  | some a => match aT h a with
    | some (.inl (0, n)) => some (Int32.ofNat n)
    | _ => none
theorem lenI_some {o : Option Nat} {x : Int32} (e : lenI h o = some x) : ∃ a n, o = some a ∧ aT h a = some (.inl (0, n)) ∧ Int32.ofNat n = x := by
  unfold lenI at e
  split at e
  · cases e
  · split at e
    · exact ⟨_, _, rfl, by assumption, Option.some.inj e⟩
    · cases e
theorem go_alenI (hK : KOK K own cc ret) {o : Option Nat} {f : Int32 → Option (α × AH)} (d : decode cc pc = .ok (.arraylength, 1)) (kk : ∀ x, Go K (pc + 1) ls (vI x :: st) h (f x)) : Go K pc ls (vR o :: st) h ((lenI h o).bind f) := by
  intro r h' ho
  cases e : lenI h o with
  | none => rw [e] at ho; cases ho
  | some x =>
    rw [e] at ho
    obtain ⟨a, n, rfl, hT, hx⟩ := lenI_some e
    obtain ⟨m1, m2⟩ := kk x r h' ho
    refine ⟨m1, fun ha H locs lsA hP hS hls => ?_⟩
    exact W.alen (n := x) hK.1 hK.2.1 (arr_at hK hT hP) ((tys_at hK 0 (by decide)).1 n _) (by rw [arrV_size]; exact hx) rfl rfl d (m2 ha H locs lsA hP hS hls)
/-- objects of the family may lie in rows of kind kd -/
def asgOK (kd : Nat) (fam : List Nat) : Prop := ∃ E : String, arT kd = .object E ∧ ∀ ci ∈ fam, ∃ r : vw_C, vwCl[ci]? = some r ∧ (r.1 = E ∨ Cond.castable r.1 E ∈ lw_tbl)
theorem rS_some {o : Option Nat} {kd : Nat} {fam : List Nat} {i : Int32} {v : Option Nat} {h2 : AH} (e : rS h o kd fam i v = some h2) : ∃ a n, o = some a ∧ aT h a = some (.inl (kd, n)) ∧ ¬ (i < 0 ∨ n ≤ i.toNatClampNeg) ∧ fits1 h fam v = true ∧ wR h a (va_up (aR h a) i.toNatClampNeg v) = h2 := by
  unfold rS at e
  split at e
  · cases e
  · split at e
    · rename_i k n hT
      split at e
      · rename_i hc
        obtain ⟨rfl, h1, h2⟩ := hc
        exact ⟨_, _, rfl, hT, h1, h2, Option.some.inj e⟩
      · cases e
    · cases e
theorem fits1_some {fam : List Nat} {b : Nat} (e : fits1 h fam (some b) = true) : ∃ ci, aT h b = some (.inr ci) ∧ ci ∈ fam := by
  unfold fits1 at e
  dsimp only at e
  split at e
  · exact ⟨_, by assumption, of_decide_eq_true e⟩
  · cases e
theorem go_aastore (hK : KOK K own cc ret) {kd : Nat} {fam : List Nat} (h2 : 2 ≤ kd) (h4 : kd < 4) (hasg : asgOK kd fam) {o : Option Nat} {i : Int32} {v : Option Nat} {f : AH → Option (α × AH)} (d : decode cc pc = .ok (.aastore, 1)) (kk : ∀ h2, Go K (pc + 1) ls st h2 (f h2)) : Go K pc ls (vR v :: vI i :: vR o :: st) h ((rS h o kd fam i v).bind f) := by
  intro r h' ho
  cases e : rS h o kd fam i v with
  | none => rw [e] at ho; cases ho
  | some h2 =>
    rw [e] at ho
    obtain ⟨a, n, rfl, hT, hin, hfit, rfl⟩ := rS_some e
    obtain ⟨m1, m2⟩ := kk _ r h' ho
    refine ⟨aLe_of (h2 := wR h a (va_up (aR h a) i.toNatClampNeg v)) rfl m1, fun ha H locs lsA hP hS hls => ?_⟩
    obtain ⟨E, hE, hcl⟩ := hasg
    have hAr := arr_at hK hT hP
    have hty := tys_at hK kd h4
    rw [hE] at hty
    have fin : ∀ (H1 : Heap) (L : List Loc), H1[K.1.2.2.2.1 + a]? = some ((arrV (K.1.2.2.2.2.2 kd) n (elV K.1.2.2.2.1 h a kd)).setSlot i.toNatClampNeg (rv K.1.2.2.2.1 v)) → H1.size = H.size → (∀ q, q ≠ K.1.2.2.2.1 + a → H1[q]? = H[q]?) → va_S (fun q => K.1.2.2.2.1 ≤ q) K.2.1.2.2.1.heap H1 L → Wk K (kR K h') (kQ K r h') H1 L (aN h - aN K.2.2.2.2) (aS h - aS K.2.2.2.2) (pc + 1) lsA st := by
      intro H1 L e1 z oq hS1
      refine m2 ha H1 _ lsA (hP.set hT z oq rfl rfl (fun _ _ => rfl) (fun _ _ => rfl) (fun b hb => va_up_ne _ _ hb) ?_) hS1 hls
      show H1[_]? = _
      rw [e1, arrV_store]
      refine congrArg (fun g => some (arrV _ n g)) (upd_el fun j => ?_)
      rw [elV_R h2, elV_R h2]
      have q1 : aR (wR h a (va_up (aR h a) i.toNatClampNeg v)) a = va_up (aR h a) i.toNatClampNeg v := va_up_self _ _ _
      rw [q1]
      unfold va_up
      by_cases hj : j = i.toNatClampNeg
      · rw [if_pos hj, if_pos hj]
      · rw [if_neg hj, if_neg hj]
    have hlt : i.toNatClampNeg < n := Nat.not_le.mp fun q => hin (Or.inr q)
    cases v with
    | none => exact va_WaastN (C := E) hK.1 hK.2.1 hAr (hty.1 n _) (fun q => by cases q) (by rw [arrV_size]; exact hin) rfl rfl d fun H1 e1 z oq => fin H1 _ e1 z oq (hS.put z oq (Nat.le_add_right _ _))
    | some b =>
      obtain ⟨ci, hTb, hci⟩ := fits1_some hfit
      obtain ⟨kA, comp, k1, k2, k3, -⟩ := hty.2
      obtain ⟨kE, hkE, -⟩ := Vm.findClass_spec k3
      obtain ⟨-, r0, hr0, cellV, g1, g2, g3, -⟩ := hP.2 b _ hTb
      obtain ⟨r1, hr1, hca⟩ := hcl ci hci
      cases hr0.symm.trans hr1
      have hcls := (hK.vk.1 ci r0 hr0).2
      obtain ⟨kC, hkC, -⟩ := hcls.2
      have hasg : K.2.1.2.2.1.vm.assignable (K.1.2.2.2.2.1.1 ci) comp = true := by
        rcases hca with hca | hca
        · have hcomp : comp = K.1.2.2.2.2.1.1 ci := Option.some.inj (k3.symm.trans (by rw [← hca]; exact hcls.1))
          rw [hcomp]; exact va_assign hcls
        · have hz := va_Nw.warmC hK.2.2.2.2.1 (va_Nw.of rfl (hK.2.2.2.2.2.2.2.1 _ hca))
          obtain ⟨c0, t1, f1, f2, f3⟩ := Cond.castable_spec (va_Nw.use (A := #[]) rfl hz)
          cases hcls.1.symm.trans f1
          cases k3.symm.trans f2
          exact f3
      exact W.aast hK.1 hK.2.1 hAr (fun q z => by cases z) (fun z => by cases z) k1 k2 rfl hkE ⟨fun q => hin (Or.inl q), by rw [arrV_size]; exact hlt⟩ g1 (fun q z => by rw [g3] at z; cases z) (by rw [g2]; exact hkC) (by rw [g2]; exact hasg) rfl rfl d fun H1 e1 z oq => fin H1 _ e1 z oq (hS.put z oq (Nat.le_add_right _ _))
/-- the room for a new cell -/
theorem room_new {h0 h h' : AH} {ty : AT} {n : Nat} (a : aLe h0 h) (m : aLe (nwH h ty n) h') : (aN h - aN h0) + 1 ≤ aN h' - aN h0 ∧ (aS h - aS h0) + n ≤ aS h' - aS h0 ∧ aLe h0 (nwH h ty n) ∧ aN (nwH h ty n) - aN h0 = (aN h - aN h0) + 1 ∧ aS (nwH h ty n) - aS h0 = (aS h - aS h0) + n := by
  unfold aLe at *
  have e1 : aN (nwH h ty n) = aN h + 1 := rfl
  have e2 : aS (nwH h ty n) = aS h + n := rfl
  generalize aN (nwH h ty n) = x1 at *
  generalize aS (nwH h ty n) = x2 at *
  omega
theorem aLe_nw {h h' : AH} {ty : AT} {n : Nat} (m : aLe (nwH h ty n) h') : aLe h h' := by
  unfold aLe at *
  have e1 : aN (nwH h ty n) = aN h + 1 := rfl
  have e2 : aS (nwH h ty n) = aS h + n := rfl
  rw [e1, e2] at m
  omega
theorem go_new (hK : KOK K own cc ret) {ci N idx : Nat} {C : String} {T : u_T} (hc : clsOK ci C T N) (hl : Cond.classLink own idx C ∈ Tg) (hi : Cond.instantiable C N ∈ Tg) (hz : Cond.initialized C ∈ Tg) {f : Option Nat → AH → Option (α × AH)} (d : decode cc pc = .ok (.new idx, 3)) (kk : ∀ a h2, Go K (pc + 3) ls (vR a :: st) h2 (f a h2)) : Go K pc ls st h (bd (nO h ci N) f) := by
  intro r h' ho
  have ho : f (some (aN h)) (nwH h (.inr ci) N) = some (r, h') := ho
  obtain ⟨m1, m2⟩ := kk _ _ r h' ho
  refine ⟨aLe_nw m1, fun ha H locs lsA hP hS hls => ?_⟩
  obtain ⟨r1, r2, r3, r4, r5⟩ := room_new ha m1
  obtain ⟨hc1, hin, ty, hty, hnm, hdf⟩ := hc
  have hKn := hK.vk.1 ci _ hc1
  refine W.newcK hK.1 hK.2.1 hK.2.2.2.1 (hK.hts _ hl) (hK.hts _ hi) (hK.hts _ hz) rfl d r1 r2 hKn.2.1 hP.1 fun H1 kC hkC e1 z1 o1 => ?_
  have hP1 : HP K.1 (nwH h (.inr ci) N) H1 := hP.add (by rw [z1, hP.1]) (fun q hq => o1 q (by rw [← hP.1]; exact hq)) ⟨_, hc1, (u_born ty hK.hts hin hKn hkC e1 hty).to (fun j hj => by
    rw [hdf j hj]
    unfold fiV
    have q1 : aI (nwH h (.inr ci) N) (aN h) = fun _ => 0 := va_up_self _ _ _
    have q2 : aR (nwH h (.inr ci) N) (aN h) = fun _ => none := va_up_self _ _ _
    rw [q1, q2]
    rfl)⟩
  have := m2 r3 H1 locs lsA hP1 ⟨Nat.le_trans hS.1 (by rw [z1, hP.1]; exact Nat.le_succ _), fun x h1 h2 => (o1 x (by rw [← hP.1]; exact Nat.lt_of_lt_of_le h1 hS.1)).trans (hS.2.1 x h1 h2), hS.2.2⟩ hls
  rw [r4, r5] at this
  exact this
end NEW
