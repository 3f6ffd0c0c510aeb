section ARR
variable {α : Type} {K : CX α} {own : String} {cc : ByteArray} {ret : Option FieldType} {pc : Nat} {ls : List (Nat × AV)} {st : List AV} {h : AH}
theorem arr_at (hK : KOK K own cc ret) {a k n : Nat} (hT : aT h a = some (.inl (k, n))) {H : Heap} (hP : HP K.1 h H) : H[K.1.2.2.2.1 + a]? = some (arrV (K.1.2.2.2.2.2 k) n (elV K.1.2.2.2.1 h a k)) := (hP.2 a _ hT).2
theorem tys_at (hK : KOK K own cc ret) (k : Nat) (hk : k < 4) : ArrOfT K.2.1.2.2.1 (K.1.2.2.2.2.2 k) (arT k) ∧ va_RA K.2.1.2.2.1 (K.1.2.2.2.2.2 k) (arT k) := by
  refine hK.vk.2 k (K.1.2.2.2.2.2 k, arT k) ?_
  rcases (show k = 0 ∨ k = 1 ∨ k = 2 ∨ k = 3 by omega) with rfl | rfl | rfl | rfl <;> rfl
theorem upd_el {B a k i : Nat} {v : Value} {h' : AH} (e : ∀ j, elV B h' a k j = if j = i then v else elV B h a k j) : updV (elV B h a k) i v = elV B h' a k := by
  funext j
  rw [e j]
  rfl
theorem iA_some {o : Option Nat} {i : Int32} {x : Int32} (e : iA h o i = some x) : ∃ a n, o = some a ∧ aT h a = some (.inl (0, n)) ∧ ¬ (i < 0 ∨ n ≤ i.toNatClampNeg) ∧ aI h a i.toNatClampNeg = x := by
  unfold iA at e
  split at e
  · cases e
  · split at e
    · split at e
      · cases e
      · exact ⟨_, _, rfl, by assumption, by assumption, Option.some.inj e⟩
    · cases e
theorem go_iaload (hK : KOK K own cc ret) {o : Option Nat} {i : Int32} {f : Int32 → Option (α × AH)} (d : decode cc pc = .ok (.iaload, 1)) (kk : ∀ x, Go K (pc + 1) ls (vI x :: st) h (f x)) : Go K pc ls (vI i :: vR o :: st) h ((iA h o i).bind f) := by
  intro r h' ho
  cases e : iA h o i with
  | none => rw [e] at ho; cases ho
  | some x =>
    rw [e] at ho
    obtain ⟨a, n, rfl, hT, hin, hx⟩ := iA_some e
    obtain ⟨m1, m2⟩ := kk x r h' ho
    refine ⟨m1, fun ha H locs lsA hP hS hls => ?_⟩
    have hlt : i.toNatClampNeg < n := Nat.not_le.mp fun q => hin (Or.inr q)
    refine W.iald (v := .int x) hK.1 hK.2.1 (arr_at hK hT hP) ((tys_at hK 0 (by decide)).1 n _) (fun q => by cases q) (by rw [arrV_size]; exact hin) (by rw [arrV_read _ _ hlt]; unfold elV; rw [← hx]; rfl) rfl rfl d (m2 ha H locs lsA hP hS hls)
theorem jA_some {o : Option Nat} {i : Int32} {x : Int64} (e : jA h o i = some x) : ∃ a n, o = some a ∧ aT h a = some (.inl (1, n)) ∧ ¬ (i < 0 ∨ n ≤ i.toNatClampNeg) ∧ aL h a i.toNatClampNeg = x := by
  unfold jA at e
  split at e
  · cases e
  · split at e
    · split at e
      · cases e
      · exact ⟨_, _, rfl, by assumption, by assumption, Option.some.inj e⟩
    · cases e
theorem go_laload (hK : KOK K own cc ret) {o : Option Nat} {i : Int32} {f : Int64 → Option (α × AH)} (d : decode cc pc = .ok (.laload, 1)) (kk : ∀ x, Go K (pc + 1) ls (vJ x :: st) h (f x)) : Go K pc ls (vI i :: vR o :: st) h ((jA h o i).bind f) := by
  intro r h' ho
  cases e : jA h o i with
  | none => rw [e] at ho; cases ho
  | some x =>
    rw [e] at ho
    obtain ⟨a, n, rfl, hT, hin, hx⟩ := jA_some e
    obtain ⟨m1, m2⟩ := kk x r h' ho
    refine ⟨m1, fun ha H locs lsA hP hS hls => ?_⟩
    have hlt : i.toNatClampNeg < n := Nat.not_le.mp fun q => hin (Or.inr q)
    refine W.lald (v := .long x) hK.1 hK.2.1 (arr_at hK hT hP) ((tys_at hK 1 (by decide)).1 n _) (fun q => by cases q) (by rw [arrV_size]; exact hin) (by rw [arrV_read _ _ hlt]; unfold elV; rw [← hx]; rfl) rfl rfl d (m2 ha H locs lsA hP hS hls)
theorem iS_some {o : Option Nat} {i v : Int32} {h2 : AH} (e : iS h o i v = some h2) : ∃ a n, o = some a ∧ aT h a = some (.inl (0, n)) ∧ ¬ (i < 0 ∨ n ≤ i.toNatClampNeg) ∧ wI h a (va_up (aI h a) i.toNatClampNeg v) = h2 := by
  unfold iS at e
  split at e
  · cases e
  · split at e
    · split at e
      · cases e
      · exact ⟨_, _, rfl, by assumption, by assumption, Option.some.inj e⟩
    · cases e
theorem go_iastore (hK : KOK K own cc ret) {o : Option Nat} {i v : Int32} {f : AH → Option (α × AH)} (d : decode cc pc = .ok (.iastore, 1)) (kk : ∀ h2, Go K (pc + 1) ls st h2 (f h2)) : Go K pc ls (vI v :: vI i :: vR o :: st) h ((iS h o i v).bind f) := by
  intro r h' ho
  cases e : iS h o i v with
  | none => rw [e] at ho; cases ho
  | some h2 =>
    rw [e] at ho
    obtain ⟨a, n, rfl, hT, hin, rfl⟩ := iS_some e
    obtain ⟨m1, m2⟩ := kk _ r h' ho
    refine ⟨aLe_of (h2 := wI h a (va_up (aI h a) i.toNatClampNeg v)) rfl m1, fun ha H locs lsA hP hS hls => ?_⟩
    refine W.iast hK.1 hK.2.1 (arr_at hK hT hP) ((tys_at hK 0 (by decide)).1 n _) (fun q => by cases q) (by rw [arrV_size]; exact hin) rfl rfl d fun H1 e1 z oq => ?_
    refine m2 ha H1 _ lsA (hP.set hT z oq rfl rfl (fun b hb => va_up_ne _ _ hb) (fun _ _ => rfl) (fun _ _ => rfl) ?_) (hS.put z oq (Nat.le_add_right _ _)) hls
    show H1[_]? = _
    rw [e1, arrV_store]
    refine congrArg (fun g => some (arrV _ n g)) (upd_el fun j => ?_)
    have q1 : aI (wI h a (va_up (aI h a) i.toNatClampNeg v)) a = va_up (aI h a) i.toNatClampNeg v := va_up_self _ _ _
    show (Value.int (aI (wI h a (va_up (aI h a) i.toNatClampNeg v)) a j) : Value) = if j = i.toNatClampNeg then Value.int v else Value.int (aI h a j)
    rw [q1]
    unfold va_up
    by_cases hj : j = i.toNatClampNeg
    · rw [if_pos hj, if_pos hj]
    · rw [if_neg hj, if_neg hj]
theorem jS_some {o : Option Nat} {i : Int32} {v : Int64} {h2 : AH} (e : jS h o i v = some h2) : ∃ a n, o = some a ∧ aT h a = some (.inl (1, n)) ∧ ¬ (i < 0 ∨ n ≤ i.toNatClampNeg) ∧ wL h a (va_up (aL h a) i.toNatClampNeg v) = h2 := by
  unfold jS at e
  split at e
  · cases e
  · split at e
    · split at e
      · cases e
      · exact ⟨_, _, rfl, by assumption, by assumption, Option.some.inj e⟩
    · cases e
theorem go_lastore (hK : KOK K own cc ret) {o : Option Nat} {i : Int32} {v : Int64} {f : AH → Option (α × AH)} (d : decode cc pc = .ok (.lastore, 1)) (kk : ∀ h2, Go K (pc + 1) ls st h2 (f h2)) : Go K pc ls (vJ v :: vI i :: vR o :: st) h ((jS h o i v).bind f) := by
  intro r h' ho
  cases e : jS h o i v with
  | none => rw [e] at ho; cases ho
  | some h2 =>
    rw [e] at ho
    obtain ⟨a, n, rfl, hT, hin, rfl⟩ := jS_some e
    obtain ⟨m1, m2⟩ := kk _ r h' ho
    refine ⟨aLe_of (h2 := wL h a (va_up (aL h a) i.toNatClampNeg v)) rfl m1, fun ha H locs lsA hP hS hls => ?_⟩
    refine W.last hK.1 hK.2.1 (arr_at hK hT hP) ((tys_at hK 1 (by decide)).1 n _) (fun q => by cases q) (by rw [arrV_size]; exact hin) rfl rfl d fun H1 e1 z oq => ?_
    refine m2 ha H1 _ lsA (hP.set hT z oq rfl rfl (fun _ _ => rfl) (fun b hb => va_up_ne _ _ hb) (fun _ _ => rfl) ?_) (hS.put z oq (Nat.le_add_right _ _)) hls
    show H1[_]? = _
    rw [e1, arrV_store]
    refine congrArg (fun g => some (arrV _ n g)) (upd_el fun j => ?_)
    have q1 : aL (wL h a (va_up (aL h a) i.toNatClampNeg v)) a = va_up (aL h a) i.toNatClampNeg v := va_up_self _ _ _
    show (Value.long (aL (wL h a (va_up (aL h a) i.toNatClampNeg v)) a j) : Value) = if j = i.toNatClampNeg then Value.long v else Value.long (aL h a j)
    rw [q1]
    unfold va_up
    by_cases hj : j = i.toNatClampNeg
    · rw [if_pos hj, if_pos hj]
    · rw [if_neg hj, if_neg hj]
theorem rA_some {o : Option Nat} {kd : Nat} {i : Int32} {x : Option Nat} (e : rA h o kd i = some x) : ∃ a n, o = some a ∧ aT h a = some (.inl (kd, n)) ∧ ¬ (i < 0 ∨ n ≤ i.toNatClampNeg) ∧ aR h a i.toNatClampNeg = x := by
  unfold rA at e
  split at e
  · cases e
  · split at e
    · rename_i k n hT
      split at e
      · rename_i hc
        obtain ⟨rfl, hc⟩ := hc
        exact ⟨_, _, rfl, hT, hc, Option.some.inj e⟩
      · cases e
    · cases e
theorem elV_R {B a k j : Nat} (h2 : 2 ≤ k) : elV B h a k j = rv B (aR h a j) := by
  unfold elV
  rw [if_neg (by omega), if_neg (by omega)]
theorem go_aaload (hK : KOK K own cc ret) {kd : Nat} (h2 : 2 ≤ kd) (h4 : kd < 4) {o : Option Nat} {i : Int32} {f : Option Nat → Option (α × AH)} (d : decode cc pc = .ok (.aaload, 1)) (kk : ∀ x, Go K (pc + 1) ls (vR x :: st) h (f x)) : Go K pc ls (vI i :: vR o :: st) h ((rA h o kd i).bind f) := by
  intro r h' ho
  cases e : rA h o kd i with
  | none => rw [e] at ho; cases ho
  | some x =>
    rw [e] at ho
    obtain ⟨a, n, rfl, hT, hin, hx⟩ := rA_some e
    obtain ⟨m1, m2⟩ := kk x r h' ho
    refine ⟨m1, fun ha H locs lsA hP hS hls => ?_⟩
    have hlt : i.toNatClampNeg < n := Nat.not_le.mp fun q => hin (Or.inr q)
    refine W.aald (v := rv K.1.2.2.2.1 x) (ty := arT kd) hK.1 hK.2.1 (arr_at hK hT hP) ((tys_at hK kd h4).1 n _) (by rcases (show kd = 2 ∨ kd = 3 by omega) with rfl | rfl <;> rfl) (fun q => by cases q) (by rw [arrV_size]; exact hin) (by rw [arrV_read _ _ hlt, elV_R h2, hx]) rfl rfl d (m2 ha H locs lsA hP hS hls)
theorem lenA_some {o : Option Nat} {x : Int32} (e : lenA h o = some x) : ∃ a k n, o = some a ∧ aT h a = some (.inl (k, n)) ∧ Int32.ofNat n = x := by
  unfold lenA at e
  split at e
  · cases e
  · split at e
    · rename_i q hT
      exact ⟨_, q.1, q.2, rfl, hT, Option.some.inj e⟩
    · cases e
end ARR
