section NEWA
variable {α : Type} {K : CX α} {own : String} {cc : ByteArray} {ret : Option FieldType} {pc : Nat} {ls : List (Nat × AV)} {st : List AV} {h : AH}
theorem nA_some {kd : Nat} {n : Int32} {q : Option Nat × AH} (e : nA h kd n = some q) : ¬ n < 0 ∧ n.toNatClampNeg ≤ 1000000 ∧ q = (some (aN h), nwH h (.inl (kd, n.toNatClampNeg)) n.toNatClampNeg) := by
  unfold nA at e
  split at e
  · cases e
  · rename_i hc
    exact ⟨fun z => hc (Or.inl z), Nat.not_lt.mp fun z => hc (Or.inr z), (Option.some.inj e).symm⟩
theorem nA_cell {X : GX} {kd N : Nat} {H1 : Heap} {z : Value} (e1 : H1[X.2.2.2.1 + aN h]? = some (arrV (X.2.2.2.2.2 kd) N (fun _ => z))) (hz : ∀ j, elV X.2.2.2.1 (nwH h (.inl (kd, N)) N) (aN h) kd j = z) : cAt X (nwH h (.inl (kd, N)) N) (aN h) (.inl (kd, N)) H1 := by
  show H1[_]? = _
  rw [e1]
  exact congrArg (fun g => some (arrV _ N g)) (funext fun j => (hz j).symm)
theorem go_newarrayI (hK : KOK K own cc ret) (hw : Cond.arrayClass .int ∈ Tg) {n : Int32} {f : Option Nat → AH → Option (α × AH)} (d : decode cc pc = .ok (.newarray .int, 2)) (kk : ∀ a h2, Go K (pc + 2) ls (vR a :: st) h2 (f a h2)) : Go K pc ls (vI n :: st) h (bd (nA h 0 n) f) := by
  intro r h' ho
  cases e : nA h 0 n with
  | none => rw [e] at ho; cases ho
  | some q =>
    rw [e] at ho
    obtain ⟨hn, hle, rfl⟩ := nA_some e
    have ho : f (some (aN h)) (nwH h (.inl (0, n.toNatClampNeg)) n.toNatClampNeg) = some (r, h') := ho
    obtain ⟨m1, m2⟩ := kk _ _ r h' ho
    refine ⟨aLe_nw m1, fun ha H locs lsA hP hS hls => ?_⟩
    obtain ⟨r1, r2, r3, r4, r5⟩ := room_new ha m1
    refine va_newaK (atype := .int) hK.1 hK.2.1 (hK.hts _ hw) rfl d rfl hn rfl (show n.toNatClampNeg * 4 ≤ 536870912 by omega) r1 r2 hP.1 fun H1 cA e1 z1 o1 hAr hNm => ?_
    have hcA : cA = K.1.2.2.2.2.2 0 := Option.some.inj (hNm.symm.trans (tys_at hK 0 (by decide)).2)
    subst hcA
    have hP1 : HP K.1 (nwH h (.inl (0, n.toNatClampNeg)) n.toNatClampNeg) H1 := hP.add (by rw [z1, hP.1]) (fun q hq => o1 q (by rw [← hP.1]; exact hq)) (nA_cell (z := .int 0) e1 (fun j => by
      have q1 : aI (nwH h (.inl (0, n.toNatClampNeg)) n.toNatClampNeg) (aN h) = fun _ => 0 := va_up_self _ _ _
      unfold elV
      rw [q1]
      rfl))
    have := m2 r3 H1 locs lsA hP1 ⟨Nat.le_trans hS.1 (by rw [z1, hP.1]; exact Nat.le_succ _), fun x h1 h2 => (o1 x (by rw [← hP.1]; exact Nat.lt_of_lt_of_le h1 hS.1)).trans (hS.2.1 x h1 h2), hS.2.2⟩ hls
    rw [r4, r5] at this
    exact this
theorem go_newarrayJ (hK : KOK K own cc ret) (hw : Cond.arrayClass .long ∈ Tg) {n : Int32} {f : Option Nat → AH → Option (α × AH)} (d : decode cc pc = .ok (.newarray .long, 2)) (kk : ∀ a h2, Go K (pc + 2) ls (vR a :: st) h2 (f a h2)) : Go K pc ls (vI n :: st) h (bd (nA h 1 n) f) := by
  intro r h' ho
  cases e : nA h 1 n with
  | none => rw [e] at ho; cases ho
  | some q =>
    rw [e] at ho
    obtain ⟨hn, hle, rfl⟩ := nA_some e
    have ho : f (some (aN h)) (nwH h (.inl (1, n.toNatClampNeg)) n.toNatClampNeg) = some (r, h') := ho
    obtain ⟨m1, m2⟩ := kk _ _ r h' ho
    refine ⟨aLe_nw m1, fun ha H locs lsA hP hS hls => ?_⟩
    obtain ⟨r1, r2, r3, r4, r5⟩ := room_new ha m1
    refine va_newaK (atype := .long) hK.1 hK.2.1 (hK.hts _ hw) rfl d rfl hn rfl (show n.toNatClampNeg * 8 ≤ 536870912 by omega) r1 r2 hP.1 fun H1 cA e1 z1 o1 hAr hNm => ?_
    have hcA : cA = K.1.2.2.2.2.2 1 := Option.some.inj (hNm.symm.trans (tys_at hK 1 (by decide)).2)
    subst hcA
    have hP1 : HP K.1 (nwH h (.inl (1, n.toNatClampNeg)) n.toNatClampNeg) H1 := hP.add (by rw [z1, hP.1]) (fun q hq => o1 q (by rw [← hP.1]; exact hq)) (nA_cell (z := .long 0) e1 (fun j => by
      have q1 : aL (nwH h (.inl (1, n.toNatClampNeg)) n.toNatClampNeg) (aN h) = fun _ => 0 := va_up_self _ _ _
      unfold elV
      rw [q1]
      rfl))
    have := m2 r3 H1 locs lsA hP1 ⟨Nat.le_trans hS.1 (by rw [z1, hP.1]; exact Nat.le_succ _), fun x h1 h2 => (o1 x (by rw [← hP.1]; exact Nat.lt_of_lt_of_le h1 hS.1)).trans (hS.2.1 x h1 h2), hS.2.2⟩ hls
    rw [r4, r5] at this
    exact this
theorem go_anewarray (hK : KOK K own cc ret) {kd idx : Nat} {C : String} (h2 : 2 ≤ kd) (h4 : kd < 4) (hE : arT kd = .object C) (hl : Cond.classLink own idx C ∈ Tg) (hw : Cond.arrayOver (.object C) ∈ lw_tbl) {n : Int32} {f : Option Nat → AH → Option (α × AH)} (d : decode cc pc = .ok (.anewarray idx, 3)) (kk : ∀ a h2, Go K (pc + 3) ls (vR a :: st) h2 (f a h2)) : Go K pc ls (vI n :: st) h (bd (nA h kd n) f) := by
  intro r h' ho
  cases e : nA h kd n with
  | none => rw [e] at ho; cases ho
  | some q =>
    rw [e] at ho
    obtain ⟨hn, hle, rfl⟩ := nA_some e
    have ho : f (some (aN h)) (nwH h (.inl (kd, n.toNatClampNeg)) n.toNatClampNeg) = some (r, h') := ho
    obtain ⟨m1, m2⟩ := kk _ _ r h' ho
    refine ⟨aLe_nw m1, fun ha H locs lsA hP hS hls => ?_⟩
    obtain ⟨r1, r2, r3, r4, r5⟩ := room_new ha m1
    have hAO : va_AO C K.2.1.2.2.1 := va_AO.moved hK.2.2.2.2.1.alike (va_AO.of (hK.2.2.2.2.2.2.2.1 _ hw))
    refine W.anew hK.1 hK.2.1 hK.2.2.2.1 (hK.hts _ hl) (va_AO.use hAO) rfl d rfl hn (by omega) r1 r2 fun cA kA comp f1 f2 f3 f4 => ?_
    have hra := (tys_at hK kd h4).2
    rw [hE] at hra
    obtain ⟨kB, cb, -, -, -, g1⟩ := hra
    have hcA : cA = K.1.2.2.2.2.2 kd := Option.some.inj (f1.symm.trans g1)
    subst hcA
    generalize hH1 : H.push ({ cls := K.1.2.2.2.2.2 kd, slots := Array.replicate n.toNatClampNeg .null, vm := .none } : Cell) = H1
    have z1 : H1.size = H.size + 1 := by rw [← hH1, Array.size_push]
    have e1 : H1[H.size]? = some (arrV (K.1.2.2.2.2.2 kd) n.toNatClampNeg (fun _ => .null)) := by rw [← hH1, Array.getElem?_push_size, ← arrV_new]
    have o1 : ∀ q : Nat, q < H.size → H1[q]? = H[q]? := fun q hq => by rw [← hH1, Array.getElem?_push, if_neg (Nat.ne_of_lt hq)]
    have hP1 : HP K.1 (nwH h (.inl (kd, n.toNatClampNeg)) n.toNatClampNeg) H1 := hP.add z1 o1 (nA_cell (z := .null) (by rw [← hP.1]; exact e1) (fun j => by
      have q1 : aR (nwH h (.inl (kd, n.toNatClampNeg)) n.toNatClampNeg) (aN h) = fun _ => none := va_up_self _ _ _
      rw [elV_R h2, q1]
      rfl))
    have := m2 r3 H1 locs lsA hP1 ⟨Nat.le_trans hS.1 (by rw [z1]; exact Nat.le_succ _), fun x h1 h2 => (o1 x (Nat.lt_of_lt_of_le h1 hS.1)).trans (hS.2.1 x h1 h2), hS.2.2⟩ hls
    rw [r4, r5] at this
    rw [hP.1]
    exact this
end NEWA
section RET
variable {K0 : GX × MX} {own : String} {cc : ByteArray} {ret : Option FieldType} {pc : Nat} {ls : List (Nat × AV)} {h : AH}
theorem go_ireturn {K : CX Int32} (hK : KOK K own cc (some .int)) {x : Int32} (hr : K.2.2.1 x = .inl (some (.int x))) (d : decode cc pc = .ok (.ireturn, 1)) : Go K pc ls [vI x] h (some (x, h)) := by
  intro r h' ho
  cases ho
  refine ⟨aLe.rf h, fun ha H locs lsA hP hS hls => ?_⟩
  rw [kQ_inl hr]
  exact W.iret hK.1 hK.2.1 hK.2.2.2.2.2.1 (fun t ht hW => ⟨rfl, by rw [ht]; exact hP, hS.F ht⟩) hS.2.2 d hK.2.2.2.2.2.2.1
theorem go_zreturn {K : CX Int32} (hK : KOK K own cc (some .boolean)) {x : Int32} (hn : narrow .boolean (.int x) = .int x) (hr : K.2.2.1 x = .inl (some (.int x))) (d : decode cc pc = .ok (.ireturn, 1)) : Go K pc ls [vI x] h (some (x, h)) := by
  intro r h' ho
  cases ho
  refine ⟨aLe.rf h, fun ha H locs lsA hP hS hls => ?_⟩
  rw [kQ_inl hr]
  exact W.zret hK.1 hK.2.1 hK.2.2.2.2.2.1 hn (fun t ht hW => ⟨rfl, by rw [ht]; exact hP, hS.F ht⟩) hS.2.2 d hK.2.2.2.2.2.2.1
/-- a boolean that was computed -/
def rb (x : Int32) (h : AH) : Option (Int32 × AH) := if x = 0 then some (0, h) else if x = 1 then some (1, h) else none
theorem go_zreturnV {K : CX Int32} (hK : KOK K own cc (some .boolean)) {x : Int32} (hr : ∀ x, K.2.2.1 x = .inl (some (.int x))) (d : decode cc pc = .ok (.ireturn, 1)) : Go K pc ls [vI x] h (rb x h) := by
  unfold rb
  by_cases h0 : x = 0
  · subst h0
    rw [if_pos rfl]
    exact go_zreturn hK (by decide +kernel) (hr _) d
  · rw [if_neg h0]
    by_cases h1 : x = 1
    · subst h1
      rw [if_pos rfl]
      exact go_zreturn hK (by decide +kernel) (hr _) d
    · rw [if_neg h1]
      intro r h' ho
      cases ho
theorem go_lreturn {K : CX Int64} (hK : KOK K own cc (some .long)) {x : Int64} (hr : K.2.2.1 x = .inl (some (.long x))) (d : decode cc pc = .ok (.lreturn, 1)) : Go K pc ls [vJ x] h (some (x, h)) := by
  intro r h' ho
  cases ho
  refine ⟨aLe.rf h, fun ha H locs lsA hP hS hls => ?_⟩
  rw [kQ_inl hr]
  exact W.lret hK.1 hK.2.1 hK.2.2.2.2.2.1 (fun t ht hW => ⟨rfl, by rw [ht]; exact hP, hS.F ht⟩) hS.2.2 d hK.2.2.2.2.2.2.1
theorem go_areturn {K : CX (Option Nat)} {C : String} (hK : KOK K own cc (some (.object C))) {x : Option Nat} (hr : K.2.2.1 x = .inl (some (rv K.1.2.2.2.1 x))) (d : decode cc pc = .ok (.areturn, 1)) : Go K pc ls [vR x] h (some (x, h)) := by
  intro r h' ho
  cases ho
  refine ⟨aLe.rf h, fun ha H locs lsA hP hS hls => ?_⟩
  rw [kQ_inl hr]
  exact W.aret hK.1 hK.2.1 hK.2.2.2.2.2.1 (Or.inl ⟨C, rfl⟩) (by cases x with
    | none => exact Or.inl rfl
    | some a => exact Or.inr ⟨_, rfl⟩) (fun t ht hW => ⟨rfl, by rw [ht]; exact hP, hS.F ht⟩) hS.2.2 d hK.2.2.2.2.2.2.1
theorem go_return {K : CX Unit} (hK : KOK K own cc none) (hr : K.2.2.1 () = .inl none) (d : decode cc pc = .ok (.return_, 1)) : Go K pc ls [] h (some ((), h)) := by
  intro r h' ho
  cases ho
  refine ⟨aLe.rf h, fun ha H locs lsA hP hS hls => ?_⟩
  rw [kQ_inl hr]
  exact W.vret hK.1 hK.2.1 hK.2.2.2.2.2.1 (fun t ht hW => ⟨rfl, by rw [ht]; exact hP, hS.F ht⟩) hS.2.2 d hK.2.2.2.2.2.2.1
end RET
