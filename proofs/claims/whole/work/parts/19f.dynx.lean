section DYNX
variable {α β : Type} {K : CX α} {own : String} {cc : ByteArray} {ret : Option FieldType} {pc : Nat} {ls : List (Nat × AV)} {st st0 : List AV} {h : AH}
def DynX (X : GX) (x : MethodName) (FR LO : Nat) (ρ : β → Option Value ⊕ String) (vs : List AV) (h : AH) (o : Option (β × AH)) : Prop := Mono h o ∧ ∀ (r : β) (h' : AH), o = some (r, h') → ∃ (a ci : Nat) (C : String) (T : u_T) (N : Nat) (y : MethodName) (bytes : ByteArray) (maxL fr lo : Nat) (rt : Option FieldType) (vs' : List AV), vs = vR (some a) :: vs' ∧ aT h a = some (.inr ci) ∧ vwCl[ci]? = some (C, T, N) ∧ (Cond.selects C x y ∈ Tg ∧ Cond.instanceMethod y ∈ Tg ∧ Cond.initialized y.cls ∈ Tg ∧ Cond.code y bytes maxL rt ∈ Tg) ∧ (fr + 1 ≤ FR ∧ 8 + (maxL + 11) + lo ≤ LO) ∧ CtX X y bytes maxL rt fr lo ρ vs h r h'
theorem go_callDX (hK : KOK K own cc ret) {ρ : β → Option Value ⊕ String} {x : MethodName} {b0 : ByteArray} {m0 FR LO idx n : Nat} {r0 : Option FieldType} {v : Option Nat} {vs : List AV} {o : Option (β × AH)} {f : β → AH → Option (α × AH)} (hs : DynX K.1 x FR LO ρ (vR v :: vs) h o) (hl : Cond.methodLink own idx x ∈ Tg) (hsm : Cond.sameMethod x.cls x.cls x.name x.desc ∈ Tg) (hst : Cond.instanceMethod x ∈ Tg) (hcd : Cond.code x b0 m0 r0 ∈ Tg) (hd : dsc x.cls x.desc n) (hn : vs.length = n) (hR : FR ≤ K.2.2.2.1.1 ∧ LO ≤ K.2.2.2.1.2.1) (hsum : (st.map ac).sum ≤ 8) (est : vs.reverse ++ vR v :: st = st0) (d : decode cc pc = .ok (.invokevirtual idx, 3))
    (kr : ∀ r v, ρ r = .inl v → ∃ pv : List AV, v.toList = stV K.1.2.2.2.1 pv ∧ ∀ h1, Go K (pc + 3) ls (pv ++ st) h1 (f r h1))
    (kx : ∀ r E h1, ρ r = .inr E → f r h1 = none ∨ ∃ hp, Hdl K own pc E hp ∧ ∀ q, Go K hp ls [vV (.ref q)] h1 (f r h1)) : Go K pc ls st0 h (bd o f) := by
  subst est
  refine call_goX (ar := (av K.1.2.2.2.1 (vR v) :: stV K.1.2.2.2.1 vs).toArray) hK hs.1 kr kx fun r1 h1 h' e hle ha H locs lsA hP hS hls => ?_
  obtain ⟨a, ci, C, T, N, y, bytes, maxL, fr, lo, rt, vs', evs, hT, hc, ⟨w1, w2, w3, w4⟩, hR2, hC⟩ := hs.2 r1 h1 e
  cases evs
  have hrm := room_call (K := K) ha (hs.1 _ _ e) hle
  have hbk := vx_back (R := kR K h') (p := K.2.1.1) (e := K.2.1.2.1) (below := K.2.1.2.2.2.2.2.1) (s := K.2.1.2.2.1) (sargs := K.2.1.2.2.2.2.1) (len := 3) (W9 := 8) (bytes := bytes) (maxL := maxL) (ret := rt) hC (blindP _ _ _) rfl rfl (Nat.le_trans hR2.1 hR.1) (Nat.le_trans hR2.2 hR.2) (pay_in hK.hts (gT (fun w hw => by simp only [List.mem_cons, List.not_mem_nil, or_false] at hw; rw [hw]; exact w4))) List.mem_cons_self (fun a' U hW => word_at hW (Or.inl (by first | rfl | simp [Cond.onTables, Cond.keeps, Cond.steady])) (hK.hts _ w3))
  obtain ⟨cellB, hcB, hoB, hclB⟩ := recv hK hc hT hP
  intro T0 hT0 X
  obtain ⟨x0, xm, hxn, hxm, hxs, hxsig⟩ := va_Decl.of (hK.hts _ hst) (hK.hts _ hcd)
  obtain ⟨cn, ck, r9, hcn, hck, hni, hf, hn1⟩ := Cond.sameMethod_found (hK.hts _ hsm)
  cases hxn.symm.trans hn1
  obtain ⟨mk, methM, hnamed, hmethM, -, habM⟩ := Cond.instanceMethod_spec (hK.hts _ w2)
  obtain ⟨c2, r2, m2, q1, q2, q3, q4, kP, hkP, hkPi⟩ := Cond.selects_spec (hK.hts _ w1)
  cases hclB.symm.trans q1
  cases hf.symm.trans q2
  cases hnamed.symm.trans q3
  have hselP : selectMethod K.2.1.2.1.platform K.2.1.2.2.1.vm cellB.cls x0 = .method mk := by rw [Launch.admits_selectMethod X.admits]; exact q4
  have hlen2 : (stV K.1.2.2.2.1 vs).length = xm.sig.parameters.length := by
    have h2 := hd.2.2
    have hxsig : parseMethodDescriptor x.desc = some xm.sig := hxsig
    rw [hxsig] at h2
    unfold stV
    rw [List.length_map, hn]
    exact (Option.some.inj h2).symm
  obtain ⟨vm₁, X₁, hstep₁⟩ := X.invokevirtualUp hK.1 hK.2.2.2.1 (hK.hts _ hl) (hK.hts _ hsm) ⟨hd.1, hd.2.1⟩ hxn hxm hxs (a := K.1.2.2.2.1 + a) (cell := cellB) (by rw [hT0]; exact hcB) (fun z q => by rw [q] at hoB; cases hoB) hselP hmethM habM hkP hkPi (g := F0 K.2.1.2.2.2.1 pc lsA (stV K.1.2.2.2.1 (vs.reverse ++ vR (some a) :: st))) rfl (argsL := stV K.1.2.2.2.1 vs) (rest := stV K.1.2.2.2.1 st) hlen2 (stk_rev _ _ _ _) (by rw [hK.2.1]; exact d)
  rcases hbk K.2.1.2.2.2.1 K.2.1.2.2.2.2.2.2.1 K.2.1.2.2.2.2.2.2.2 ⟨T0.setVm vm₁, locs, aN h - aN K.2.2.2.2, aS h - aS K.2.2.2.2⟩ { F0 K.2.1.2.2.2.1 pc lsA (stV K.1.2.2.2.1 (vs.reverse ++ vR (some a) :: st)) with stack := stV K.1.2.2.2.1 st } (.invokevirtual idx) mk (Value.ref (K.1.2.2.2.1 + a) :: stV K.1.2.2.2.1 vs).toArray X₁ rfl (hls.1.trans hK.2.2.1.symm) (by rw [hK.2.1]; exact d) (lv_room (st_room _ hsum)) (X₁.named hnamed) ⟨hrm.1, hrm.2, rfl, State.WarmedH.trans hK.2.2.2.2.1 X₁.warmed, by show HP K.1 h T0.heap; rw [hT0]; exact hP, by show blw K.1 T0.heap; rw [hT0]; exact hK.blw hS⟩ with ⟨v, ⟨U', l2, c2, s2⟩, X', ⟨g', mk', t, L, e1, e2, hq, g1, hL, g2, g3⟩, hsteps⟩ | ⟨q9, ⟨U', l2, c2, s2⟩, X', ⟨g', mk', t, L, E, ce, e1, e2, hq, hce, hcv, hcl, g1, hL, g2, g3⟩, hsteps⟩
  · dsimp only [Pt.U, Pt.locs, Pt.cells, Pt.slots] at X' e1 e2 g1 g2 g3 hsteps
    subst g1; subst g2; subst g3
    exact Or.inl ⟨v, (T0.setVm vm₁).calling g' mk' (Value.ref (K.1.2.2.2.1 + a) :: stV K.1.2.2.2.1 vs).toArray, t, U', L, hT0, X', hL, e1, e2, hq, fun target hh => hstep₁ _ fun acts => by rw [doInvoke_state]; exact hsteps.trans hh⟩
  · dsimp only [Pt.U, Pt.locs, Pt.cells, Pt.slots] at X' e1 e2 g1 g2 g3 hsteps hcl
    subst g1; subst g2; subst g3
    exact Or.inr ⟨q9, (T0.setVm vm₁).calling g' mk' (Value.ref (K.1.2.2.2.1 + a) :: stV K.1.2.2.2.1 vs).toArray, t, U', L, E, ce, hT0, X', hL, e1, e2, hq, hce, hcv, vx_cls X₁.warmed hcl, hstep₁ _ fun acts => by rw [doInvoke_state]; exact hsteps⟩
/-- a virtual call of a known class that may throw -/
theorem go_callVX (hK : KOK K own cc ret) {ρ : β → Option Value ⊕ String} {y : MethodName} {bytes : ByteArray} {maxL fr lo idx n ci N : Nat} {C : String} {T : u_T} (hc : vwCl[ci]? = some (C, T, N)) {rt : Option FieldType} {v : Option Nat} {vs : List AV} {o : Option (β × AH)} {f : β → AH → Option (α × AH)} (hs : SndX K.1 y bytes maxL rt fr lo ρ (vR v :: vs) h o) (hl : Cond.methodLink own idx y ∈ Tg) (hst : Cond.instanceMethod y ∈ Tg) (hse : Cond.selects C y y ∈ Tg) (hini : Cond.initialized C ∈ Tg) (hcd : Cond.code y bytes maxL rt ∈ Tg) (hyc : y.cls = C) (hd : dsc y.cls y.desc n) (hn : vs.length = n) (hR : fr + 1 ≤ K.2.2.2.1.1 ∧ 8 + (maxL + 11) + lo ≤ K.2.2.2.1.2.1) (hsum : (st.map ac).sum ≤ 8) (est : vs.reverse ++ vR v :: st = st0) (d : decode cc pc = .ok (.invokevirtual idx, 3))
    (kr : ∀ r v, ρ r = .inl v → ∃ pv : List AV, v.toList = stV K.1.2.2.2.1 pv ∧ ∀ h1, Go K (pc + 3) ls (pv ++ st) h1 (f r h1))
    (kx : ∀ r E h1, ρ r = .inr E → f r h1 = none ∨ ∃ hp, Hdl K own pc E hp ∧ ∀ q, Go K hp ls [vV (.ref q)] h1 (f r h1)) : Go K pc ls st0 h (bd (cv h v ci o) f) := by
  subst est
  cases v with
  | none => intro r h' ho; cases ho
  | some a =>
  refine call_goX (ar := (Value.ref (K.1.2.2.2.1 + a) :: stV K.1.2.2.2.1 vs).toArray) hK (fun r h' e => hs.1 r h' (by obtain ⟨_, _, _, e⟩ := cv_some e; exact e)) kr kx fun r1 h1 h' e hle ha H locs lsA hP hS hls => ?_
  obtain ⟨a', ea, hT, e⟩ := cv_some e
  cases ea
  have hC := hs.2 r1 h1 e
  refine vx_runV (C := C) (b := K.1.2.2.2.1 + a) (As := stV K.1.2.2.2.1 vs) (rest := stV K.1.2.2.2.1 st) ⟨hK.1, hK.2.1, hK.2.2.1, hK.2.2.2.1, hK.hts⟩ hC (cwV n hK.hts (gT ?_) rfl rfl rfl ⟨hyc, hd⟩ hR) ⟨blindP _ _ _, recv hK hc hT hP, fun U hU hW => ⟨rfl, State.WarmedH.trans hK.2.2.2.2.1 hW, by rw [hU]; exact hP, by rw [hU]; exact hK.blw hS⟩⟩ rfl (by show (stV K.1.2.2.2.1 vs).length = n; unfold stV; rw [List.length_map]; exact hn) hls.1 ?_ (lv_room (st_room _ hsum)) d (room_call ha (hs.1 _ _ e) hle)
  · intro w hw
    simp only [wsV, List.cons_append, List.nil_append, List.mem_cons, List.not_mem_nil, or_false] at hw
    rcases hw with rfl | rfl | rfl | rfl | rfl <;> assumption
  · exact stk_rev _ _ _ _
/-- the thrown cell is stored and forgotten -/
theorem go_astoreX_n (hK : KOK K own cc ret) {n : Fin 4} {i q : Nat} (d : decode cc pc = .ok (.astore_n n, 1)) (hi : (n : Nat) = i) (hn : i < K.2.2.2.1.2.2) {ls' : List (Nat × AV)} {o : Option (α × AH)} (e : (i, vV (.ref q)) :: ls.filter (fun q => !(q.1 == i) && !(q.1 + 1 == i && ac q.2 == 2)) = ls') (k : Go K (pc + 1) ls' st h o) : Go K pc ls (vV (.ref q) :: st) h o :=
  go_stepL k (fun _ _ _ _ _ _ _ hl w => lv_astore_n hK.1 hK.2.1 d hi hl hn (lsV_s1 e) w)
theorem go_astoreX (hK : KOK K own cc ret) {i q : Nat} (d : decode cc pc = .ok (.astore i, 2)) (hn : i < K.2.2.2.1.2.2) {ls' : List (Nat × AV)} {o : Option (α × AH)} (e : (i, vV (.ref q)) :: ls.filter (fun q => !(q.1 == i) && !(q.1 + 1 == i && ac q.2 == 2)) = ls') (k : Go K (pc + 2) ls' st h o) : Go K pc ls (vV (.ref q) :: st) h o :=
  go_stepL k (fun _ _ _ _ _ _ _ hl w => lv_astore hK.1 hK.2.1 d hl hn (lsV_s1 e) w)
/-- returns of a method that may throw -/
theorem go_returnX {K : CX β} (hK : KOK K own cc none) {r : β} (hr : K.2.2.1 r = .inl none) (d : decode cc pc = .ok (.return_, 1)) : Go K pc ls [] h (some (r, h)) := by
  intro r' h' ho
  cases ho
  refine ⟨aLe.rf h, fun ha H locs lsA hP hS hls => ?_⟩
  rw [kQ_inl hr]
  exact W.vret hK.1 hK.2.1 hK.2.2.2.2.2.1 (fun t ht hW => ⟨rfl, by rw [ht]; exact hP, hS.F ht⟩) hS.2.2 d hK.2.2.2.2.2.2.1
theorem go_lreturnX {K : CX β} (hK : KOK K own cc (some .long)) {r : β} {x : Int64} (hr : K.2.2.1 r = .inl (some (.long x))) (d : decode cc pc = .ok (.lreturn, 1)) : Go K pc ls [vJ x] h (some (r, h)) := by
  intro r' h' ho
  cases ho
  refine ⟨aLe.rf h, fun ha H locs lsA hP hS hls => ?_⟩
  rw [kQ_inl hr]
  exact W.lret hK.1 hK.2.1 hK.2.2.2.2.2.1 (fun t ht hW => ⟨rfl, by rw [ht]; exact hP, hS.F ht⟩) hS.2.2 d hK.2.2.2.2.2.2.1
theorem mono_exc {r : β} : Mono h (some (r, exH h)) := fun _ _ e => by cases e; exact ⟨Nat.le_succ _, Nat.le_add_right _ _⟩
end DYNX
