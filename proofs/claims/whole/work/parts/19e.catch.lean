/-! METHODS THAT THROW, METHODS THAT CATCH -/
def CtX {β : Type} (X : GX) (y : MethodName) (cc : ByteArray) (maxL : Nat) (ret : Option FieldType) (fr lo : Nat) (ρ : β → Option Value ⊕ String) (vs : List AV) (h : AH) (r : β) (h' : AH) : Prop :=
  vx_Met X.1 y [Cond.code y cc maxL ret] { frames := fr, cells := aN h' - aN h, slots := aS h' - aS h, locals := lo } (va_Pc (stV X.2.2.2.1 vs) (fun U => X.2.1.WarmedH U.vm ∧ HP X h U.heap ∧ blw X U.heap)) (fun a st o t => ∃ v, ρ r = .inl v ∧ Qf X v h' a st o t) (fun E st t => ρ r = .inr E ∧ HP X h' t.heap ∧ va_F (fun q => X.2.2.2.1 ≤ q) st t) (aN h' - aN h) (aS h' - aS h) (fun q => X.2.2.2.1 ≤ q)
def SndX {β : Type} (X : GX) (y : MethodName) (cc : ByteArray) (maxL : Nat) (ret : Option FieldType) (fr lo : Nat) (ρ : β → Option Value ⊕ String) (vs : List AV) (h : AH) (o : Option (β × AH)) : Prop :=
  Mono h o ∧ ∀ (r : β) (h' : AH), o = some (r, h') → CtX X y cc maxL ret fr lo ρ vs h r h'
theorem W_mono {p : Program} {l : Launch} {e : Env} {R : Room} {s : State} {m : MethodId} {args : Array Value} {below : List Frame} {meth : Method} {c : Code} {H : Heap} {locs : List Loc} {cells slots : Nat} {Q Q' : State → Prop} {g : JFrame} (hq : ∀ t, Q t → Q' t) (k : W p l e R s m args below meth c H locs cells slots Q g) : W p l e R s m args below meth c H locs cells slots Q' g := fun T hT X => by
  obtain ⟨t, a, b⟩ := k T hT X
  exact ⟨t, a, hq t b⟩
theorem kQ_X {β : Type} {K : CX β} {r : β} {h' : AH} {t : State} (k : kQ K r h' t) : vx_MQ K.2.1.2.2.2.2.2.1 (fun a st o t => ∃ v, K.2.2.1 r = .inl v ∧ Qf K.1 v h' a st o t) (fun E st t => K.2.2.1 r = .inr E ∧ HP K.1 h' t.heap ∧ va_F (fun q => K.1.2.2.2.1 ≤ q) st t) K.2.1.2.2.2.2.1 K.2.1.2.2.1 (aN h' - aN K.2.2.2.2) (aS h' - aS K.2.2.2.2) (fun q => K.1.2.2.2.1 ≤ q) t := by
  cases e : K.2.2.1 r with
  | inl v =>
    rw [kQ_inl e] at k
    obtain ⟨o, b1, b2, b3, b4⟩ := k
    exact ⟨o, b1, b2, Or.inl ⟨⟨v, rfl, b3⟩, b4⟩⟩
  | inr E =>
    rw [kQ_inr e] at k
    obtain ⟨o, b1, b2, b3⟩ := k
    rcases b3 with b3 | ⟨q, eo, E', ce, L, ⟨rfl, x2, x3⟩, y2, y3, y4, y5, y6, y7⟩
    · exact absurd b3.1 id
    · exact ⟨o, b1, b2, Or.inr ⟨q, eo, E', ce, L, ⟨rfl, x2, x3⟩, y2, y3, y4, y5, y6, y7⟩⟩
/-- a method that may throw, without a table -/
theorem sndX_of {β : Type} {X : GX} (hX : XOK X) {y : MethodName} {cc : ByteArray} {maxL fr lo : Nat} {ret : Option FieldType} {ρ : β → Option Value ⊕ String} {vs : List AV} {h : AH} {o : Option (β × AH)} (hy : plainName y.cls = true) (hv : slN vs ≤ maxL) (hm : Mono h o) (body : ∀ M : MX, KOK (mkC (X, ρ, (fr, lo, maxL), h) M) y.cls cc ret → (∀ x ∈ M.2.2.2.2.2.2.2.exceptionTable.toList, False) → Go (mkC (X, ρ, (fr, lo, maxL), h) M) 0 (lvA 0 vs) [] h o) : SndX X y cc maxL ret fr lo ρ vs h o := by
  refine ⟨hm, fun r h' ho => ?_⟩
  refine vx_ofW (cc := cc) (maxL := maxL) (ret := ret) hy rfl ?_
  intro p e s m args below meth c s₁ B hml hnt hv0
  obtain ⟨rfl, hwm, hP, hbl⟩ := hv0
  have hK : KOK (mkC (X, ρ, (fr, lo, maxL), h) (p, e, s, m, (stV X.2.2.2.1 vs).toArray, below, meth, c)) y.cls cc ret := ⟨B.exec, B.bytes, hml, findClass_of_methodNamed B.named, hwm, B.returns, B.notSynchronized, hX.1, hX.2.1, hX.2.2, hbl⟩
  have hw := (body (p, e, s, m, (stV X.2.2.2.1 vs).toArray, below, meth, c) hK hnt r h' ho).2 (aLe.rf h) s.heap []
  have hl := lv_entry (stV X.2.2.2.1 vs) (n := maxL) (by rw [slN_eq]; exact hv)
  rw [lg_entry_eq]
  have hw2 := hw _ hP va_S.rf (by rw [lvA_V]; exact hl)
  have hw3 : Wk (mkC (X, ρ, (fr, lo, maxL), h) (p, e, s, m, (stV X.2.2.2.1 vs).toArray, below, meth, c)) (kR (mkC (X, ρ, (fr, lo, maxL), h) (p, e, s, m, (stV X.2.2.2.1 vs).toArray, below, meth, c)) h') (kQ (mkC (X, ρ, (fr, lo, maxL), h) (p, e, s, m, (stV X.2.2.2.1 vs).toArray, below, meth, c)) r h') s.heap [] (aN h - aN h) (aS h - aS h) 0 _ [] := hw2
  rw [Nat.sub_self, Nat.sub_self] at hw3
  exact W_mono (fun t k => kQ_X k) hw3
/-- a method with a table, that doesn't throw -/
def SndW {β : Type} (X : GX) (y : MethodName) (cc : ByteArray) (maxL : Nat) (ret : Option FieldType) (hh : List (Nat × Nat × Nat × Nat)) (fr lo : Nat) (ρ : β → Option Value) (vs : List AV) (h : AH) (o : Option (β × AH)) : Prop :=
  Mono h o ∧ ∀ (r : β) (h' : AH), o = some (r, h') → Met X.1 y [Cond.codeWith y cc maxL ret hh] { frames := fr, cells := aN h' - aN h, slots := aS h' - aS h, locals := lo } (va_Pc (stV X.2.2.2.1 vs) (fun U => X.2.1.WarmedH U.vm ∧ HP X h U.heap ∧ blw X U.heap)) (Qf X (ρ r) h') (aN h' - aN h) (aS h' - aS h) (fun q => X.2.2.2.1 ≤ q)
theorem sndW_of {β : Type} {X : GX} (hX : XOK X) {y : MethodName} {cc : ByteArray} {maxL fr lo : Nat} {ret : Option FieldType} {hh : List (Nat × Nat × Nat × Nat)} {ρ : β → Option Value} {vs : List AV} {h : AH} {o : Option (β × AH)} (hy : plainName y.cls = true) (hcw : Cond.codeWith y cc maxL ret hh ∈ Tg) (hv : slN vs ≤ maxL) (hm : Mono h o) (body : ∀ M : MX, KOK (mkC (X, (fun x => Sum.inl (ρ x)), (fr, lo, maxL), h) M) y.cls cc ret → M.2.2.2.2.2.2.2.exceptionTable.toList = tableOf hh → Go (mkC (X, (fun x => Sum.inl (ρ x)), (fr, lo, maxL), h) M) 0 (lvA 0 vs) [] h o) : SndW X y cc maxL ret hh fr lo ρ vs h o := by
  refine ⟨hm, fun r h' ho => ?_⟩
  refine va_MetW (cc := cc) (maxL := maxL) (ret := ret) (hh := hh) hy rfl ?_
  intro p e s m args below meth c s₁ B hml hv0
  obtain ⟨rfl, hwm, hP, hbl⟩ := hv0
  have hK : KOK (mkC (X, (fun x => Sum.inl (ρ x)), (fr, lo, maxL), h) (p, e, s, m, (stV X.2.2.2.1 vs).toArray, below, meth, c)) y.cls cc ret := ⟨B.exec, B.bytes, hml, findClass_of_methodNamed B.named, hwm, B.returns, B.notSynchronized, hX.1, hX.2.1, hX.2.2, hbl⟩
  have hw := (body (p, e, s, m, (stV X.2.2.2.1 vs).toArray, below, meth, c) hK (vx_table (x := y) B (hK.hts _ hcw)) r h' ho).2 (aLe.rf h) s.heap []
  have hl := lv_entry (stV X.2.2.2.1 vs) (n := maxL) (by rw [slN_eq]; exact hv)
  rw [lg_entry_eq]
  have hw2 := hw _ hP va_S.rf (by rw [lvA_V]; exact hl)
  have hw3 : Wk (mkC (X, (fun x => Sum.inl (ρ x)), (fr, lo, maxL), h) (p, e, s, m, (stV X.2.2.2.1 vs).toArray, below, meth, c)) (kR (mkC (X, (fun x => Sum.inl (ρ x)), (fr, lo, maxL), h) (p, e, s, m, (stV X.2.2.2.1 vs).toArray, below, meth, c)) h') (kQ (mkC (X, (fun x => Sum.inl (ρ x)), (fr, lo, maxL), h) (p, e, s, m, (stV X.2.2.2.1 vs).toArray, below, meth, c)) r h') s.heap [] (aN h - aN h) (aS h - aS h) 0 _ [] := hw2
  rw [Nat.sub_self, Nat.sub_self] at hw3
  exact hw3
section CATCH
variable {α β : Type} {K : CX α} {own : String} {cc : ByteArray} {ret : Option FieldType} {pc : Nat} {ls : List (Nat × AV)} {st st0 : List AV} {h : AH}
theorem go_callSW (hK : KOK K own cc ret) {ρ : β → Option Value} {pv : β → List AV} (hpv : ∀ r, (ρ r).toList = stV K.1.2.2.2.1 (pv r)) {y : MethodName} {bytes : ByteArray} {maxL fr lo idx n : Nat} {rt : Option FieldType} {hh : List (Nat × Nat × Nat × Nat)} {vs : List AV} {o : Option (β × AH)} {f : β → AH → Option (α × AH)} (hs : SndW K.1 y bytes maxL rt hh fr lo ρ vs h o) (hl : Cond.methodLink own idx y ∈ Tg) (hst : Cond.static y ∈ Tg) (hini : Cond.initialized y.cls ∈ Tg) (hcd : Cond.codeWith y bytes maxL rt hh ∈ Tg) (hd : dsc y.cls y.desc n) (hn : vs.length = n) (hR : fr + 1 ≤ K.2.2.2.1.1 ∧ 8 + (maxL + 11) + lo ≤ K.2.2.2.1.2.1) (hsum : (st.map ac).sum ≤ 8) (est : vs.reverse ++ st = st0) (d : decode cc pc = .ok (.invokestatic idx, 3)) (kk : ∀ r h1, Go K (pc + 3) ls (pv r ++ st) h1 (f r h1)) : Go K pc ls st0 h (bd o f) := by
  subst est
  refine call_go (ar := (stV K.1.2.2.2.1 vs).toArray) hpv hs.1 kk fun r1 h1 h' e hle ha H locs lsA hP hS hls => ?_
  have hC := hs.2 r1 h1 e
  refine vx_runSW (As := stV K.1.2.2.2.1 vs) (rest := stV K.1.2.2.2.1 st) ⟨hK.1, hK.2.1, hK.2.2.1, hK.2.2.2.1, hK.hts⟩ hC (vx_cwSW n hK.hts (gT ?_) rfl rfl rfl hd hR) ⟨blindP _ _ _, fun U hU hW => ⟨rfl, State.WarmedH.trans hK.2.2.2.2.1 hW, by rw [hU]; exact hP, by rw [hU]; exact hK.blw hS⟩⟩ rfl (by show (stV K.1.2.2.2.1 vs).length = n; unfold stV; rw [List.length_map]; exact hn) hls.1 ?_ (lv_room (st_room _ hsum)) d (room_call ha (hs.1 _ _ e) hle)
  · intro w hw
    simp only [va_wsS, List.cons_append, List.nil_append, List.mem_cons, List.not_mem_nil, or_false] at hw
    rcases hw with rfl | rfl | rfl | rfl <;> assumption
  · show stV _ (vs.reverse ++ st) = _
    unfold stV
    rw [List.map_append, List.map_reverse]
/-- the handler of E: the row x of the table, the rows ahead don't take it -/
def Hdl (K : CX α) (own : String) (pc : Nat) (E : String) (hp : Nat) : Prop := ∃ (pre : List ExceptionTableEntry) (x : ExceptionTableEntry) (suf : List ExceptionTableEntry), K.2.1.2.2.2.2.2.2.2.exceptionTable.toList = pre ++ x :: suf ∧ (∀ z ∈ pre, z.catchType ≠ 0 ∧ ∃ nm : String, Cond.classLink own z.catchType nm ∈ Tg ∧ (E, nm) ∈ ncs) ∧ covers x pc = true ∧ x.catchType ≠ 0 ∧ Cond.classLink own x.catchType E ∈ Tg ∧ Cond.castable E E ∈ lw_tbl ∧ x.handlerPc = hp
theorem call_goX (hK : KOK K own cc ret) {ρ : β → Option Value ⊕ String} {o : Option (β × AH)} {f : β → AH → Option (α × AH)} {ar : Array Value} (hm : Mono h o)
    (kr : ∀ r v, ρ r = .inl v → ∃ pv : List AV, v.toList = stV K.1.2.2.2.1 pv ∧ ∀ h1, Go K (pc + 3) ls (pv ++ st) h1 (f r h1))
    (kx : ∀ r E h1, ρ r = .inr E → f r h1 = none ∨ ∃ hp, Hdl K own pc E hp ∧ ∀ q, Go K hp ls [vV (.ref q)] h1 (f r h1))
    (run : ∀ (r1 : β) (h1 h' : AH), o = some (r1, h1) → aLe h1 h' → aLe K.2.2.2.2 h → ∀ (H : Heap) (locs : List Loc) (lsA : Array Slot), HP K.1 h H → va_S (fun q => K.1.2.2.2.1 ≤ q) K.2.1.2.2.1.heap H locs → lv_has lsA K.2.2.2.1.2.2 (lsV K.1.2.2.2.1 ls) → vx_Run K.2.1.1 K.1.1 K.2.1.2.1 (kR K h') K.2.1.2.2.1 K.2.1.2.2.2.1 K.2.1.2.2.2.2.1 K.2.1.2.2.2.2.2.1 K.2.1.2.2.2.2.2.2.1 K.2.1.2.2.2.2.2.2.2 H locs (aN h - aN K.2.2.2.2) (aS h - aS K.2.2.2.2) (aN h1 - aN h) (aS h1 - aS h) (F0 K.2.1.2.2.2.1 pc lsA (stV K.1.2.2.2.1 st0)) (stV K.1.2.2.2.1 st) (fun st o t => ∃ v, ρ r1 = .inl v ∧ Qf K.1 v h1 ar st o t) (fun E st t => ρ r1 = .inr E ∧ HP K.1 h1 t.heap ∧ va_F (fun q => K.1.2.2.2.1 ≤ q) st t) (fun q => K.1.2.2.2.1 ≤ q)) : Go K pc ls st0 h (bd o f) := by
  intro r h' ho
  cases e : o with
  | none => rw [e] at ho; cases ho
  | some q =>
    rw [e] at ho
    obtain ⟨q1, h1⟩ := q
    have ho : f q1 h1 = some (r, h') := ho
    have hle := hm q1 h1 e
    have z1 : aLe K.2.2.2.2 h → (aN h - aN K.2.2.2.2) + (aN h1 - aN h) = aN h1 - aN K.2.2.2.2 := fun ha => by have := ha.1; have := hle.1; omega
    have z2 : aLe K.2.2.2.2 h → (aS h - aS K.2.2.2.2) + (aS h1 - aS h) = aS h1 - aS K.2.2.2.2 := fun ha => by have := ha.2; have := hle.2; omega
    cases er : ρ q1 with
    | inl v0 =>
      obtain ⟨pv, hpv, kk⟩ := kr q1 v0 er
      obtain ⟨m1, m2⟩ := kk h1 r h' ho
      refine ⟨hle.tr m1, fun ha H locs lsA hP hS hls T hT X => ?_⟩
      rcases run q1 h1 h' e m1 ha H locs lsA hP hS hls T hT X with ⟨v, st₀, t, T', L, h0, X', hL, e1, e2, ⟨v', ev, hv, hp, hF⟩, step⟩ | ⟨q9, st₀, t, T', L, E, ce, h0, X', hL, e1, e2, ⟨eE, -⟩, -⟩
      · cases ev.symm.trans er
        have hv2 : v = v0 := Outcome.returned.inj hv
        rw [hv2] at step
        obtain ⟨k1, k2, k3⟩ := vx_keep h0 e1 hS (fun _ _ z => z) (fun _ z => z) hL hF
        rw [z1 ha, z2 ha] at X'
        obtain ⟨t2, a1, b1⟩ := m2 (ha.tr hle) T'.heap (locs ++ L) lsA (by rw [e1]; exact hp) k3 hls T' rfl X'
        refine ⟨t2, step t2 ?_, b1⟩
        have hst : stV K.1.2.2.2.1 (pv ++ st) = v0.toList ++ stV K.1.2.2.2.1 st := by
          rw [hpv]
          unfold stV
          rw [List.map_append]
        rw [← hst]
        exact a1
      · cases eE.symm.trans er
    | inr E0 =>
      rcases kx q1 E0 h1 er with hno | ⟨hp0, ⟨pre, x, suf, t1, t2, t3, t4, t5, t6, t7⟩, kk⟩
      · rw [hno] at ho; cases ho
      have m1 := (kk 0 r h' ho).1
      refine ⟨hle.tr m1, fun ha H locs lsA hP hS hls T hT X => ?_⟩
      rcases run q1 h1 h' e m1 ha H locs lsA hP hS hls T hT X with ⟨v, st₀, t, T', L, h0, X', hL, e1, e2, ⟨v', ev, -⟩, -⟩ | ⟨q9, st₀, t, T', L, E, ce, h0, X', hL, e1, e2, ⟨eE, hp, hF⟩, hce, hcv, hcl, step⟩
      · cases ev.symm.trans er
      · cases eE.symm.trans er
        obtain ⟨k1, k2, k3⟩ := vx_keep h0 e1 hS (fun _ _ z => z) (fun _ z => z) hL hF
        rw [z1 ha, z2 ha] at X'
        have hW := (kk q9 r h' ho).2 (ha.tr hle) T'.heap (locs ++ L) lsA (by rw [e1]; exact hp) k3 hls
        rw [← t7] at hW
        have hXE := hK.2.2.2.2.2.2.2.2.2.1
        have hcat := vx_catch (pc := pc) (rest := stV K.1.2.2.2.1 st) (own := own) (name := E0) (E := E0) (ce := ce) (q := q9) hK.2.2.2.1 pre x suf t1 (fun z hz => by
          obtain ⟨g1, nm, g2, g3⟩ := t2 z hz
          exact Or.inr ⟨g1, nm, hK.hts _ g2, va_Nc.moved hK.2.2.2.2.1.alike (hXE.2.2.2.2.2 _ g3)⟩) t3 t4 (hK.hts _ t5) (cast_at hK.2.2.2.2.1 rfl (hK.2.2.2.2.2.2.2.1 _ t6)) (by rw [e1]; exact hce) hcv hcl hW
        obtain ⟨tt, a1, b1⟩ := hcat T' rfl X'
        exact ⟨tt, step.trans a1, b1⟩
end CATCH
