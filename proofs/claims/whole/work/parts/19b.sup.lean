section SUP2
variable {α β : Type} {K : CX α} {own : String} {cc : ByteArray} {ret : Option FieldType} {pc : Nat} {ls : List (Nat × AV)} {st st0 : List AV} {h : AH}
theorem sub2 {vm : Vm} {a b : ClassId} {k : Class} (hk : vm.classes[a]? = some k) (hs : k.super = some b) : vm.isSubclass a b = true := by
  have hlt : a < vm.classes.size := (Array.getElem?_eq_some_iff.mp hk).1
  obtain ⟨n, hn⟩ := Nat.exists_eq_succ_of_ne_zero (Nat.ne_of_gt (Nat.lt_of_le_of_lt (Nat.zero_le a) hlt))
  unfold Vm.isSubclass
  rw [hn]
  unfold Vm.isSubclassAux
  rw [hk]
  dsimp only
  rw [hs]
  dsimp only
  unfold Vm.isSubclassAux
  simp
/-- super.m(..), m inherited by the superclass from its own superclass -/
theorem go_callU2 (hK : KOK K own cc ret) {ρ : β → Option Value} {pv : β → List AV} (hpv : ∀ r, (ρ r).toList = stV K.1.2.2.2.1 (pv r)) {y : MethodName} {Cx : String} {bytes : ByteArray} {maxL fr lo idx n : Nat} {fam : List Nat} (hfam : ∀ ci ∈ fam, ∃ C T N, vwCl[ci]? = some (C, T, N)) {rt : Option FieldType} {v : Option Nat} {vs : List AV} {o : Option (β × AH)} {f : β → AH → Option (α × AH)} (hs : Snd K.1 y bytes maxL rt fr lo ρ (vR v :: vs) h o) (hl : Cond.methodLink own idx ⟨Cx, y.name, y.desc⟩ ∈ Tg) (hsm : Cond.sameMethod Cx y.cls y.name y.desc ∈ Tg) (hsp : Cond.superclass own Cx ∈ Tg) (hsp2 : Cond.superclass Cx y.cls ∈ Tg) (hst : Cond.instanceMethod y ∈ Tg) (hini : Cond.initialized y.cls ∈ Tg) (hcd : Cond.code y bytes maxL rt ∈ Tg) (hd : y.name ≠ "<init>" ∧ (parseMethodDescriptor y.desc).map (fun d => d.parameters.length) = some n) (hn : vs.length = n) (hR : fr + 1 ≤ K.2.2.2.1.1 ∧ 8 + (maxL + 11) + lo ≤ K.2.2.2.1.2.1) (hsum : (st.map ac).sum ≤ 8) (est : vs.reverse ++ vR v :: st = st0) (d : decode cc pc = .ok (.invokespecial idx, 3)) (kk : ∀ r h1, Go K (pc + 3) ls (pv r ++ st) h1 (f r h1)) : Go K pc ls st0 h (bd (cu h fam v o) f) := by
  subst est
  cases v with
  | none => intro r h' ho; unfold cu at ho; rw [if_neg (fun z => z.2 rfl)] at ho; cases ho
  | some a =>
  refine call_go (ar := (Value.ref (K.1.2.2.2.1 + a) :: stV K.1.2.2.2.1 vs).toArray) hpv (mono_if hs.1 mono_none) kk fun r1 h1 h' e hle ha H locs lsA hP hS hls => ?_
  unfold cu at e
  by_cases hfit : fits1 h fam (some a) = true ∧ (some a : Option Nat) ≠ none
  · rw [if_pos hfit] at e
    obtain ⟨ci, hT, hci⟩ := fits1_some hfit.1
    obtain ⟨C, T, N, hc⟩ := hfam ci hci
    have hC := hs.2 r1 h1 e
    have hrm := room_call (K := K) ha (hs.1 _ _ e) hle
    have hbk := back_of (R := kR K h') (p := K.2.1.1) (e := K.2.1.2.1) (below := K.2.1.2.2.2.2.2.1) (s := K.2.1.2.2.1) (sargs := K.2.1.2.2.2.2.1) (len := 3) (W := 8) (bytes := bytes) (maxL := maxL) (ret := rt) hC (blindP _ _ _) rfl rfl hR.1 hR.2 (pay_in hK.hts (gT (fun w hw => by simp only [List.mem_cons, List.not_mem_nil, or_false] at hw; rw [hw]; exact hcd))) List.mem_cons_self (fun a' U hW => word_at hW (Or.inl (by first | rfl | simp [Cond.onTables, Cond.keeps, Cond.steady])) (hK.hts _ hini))
    obtain ⟨cellB, hcB, hoB, hclB⟩ := recv hK hc hT hP
    obtain ⟨hfc, kB, hkB, -⟩ := (hK.vk.1 ci _ hc).2
    have hkB : K.2.1.2.2.1.vm.classes[cellB.cls]? = some kB := by rw [← Option.some.inj (hfc.symm.trans hclB)]; exact hkB
    intro T0 hT0 X
    obtain ⟨mk, methM, hnamed, hmethM, hstM, habM⟩ := Cond.instanceMethod_spec (hK.hts _ hst)
    obtain ⟨methM', cM, hmethM', -, -, -, -, -, -, hsigM⟩ := Cond.code_spec hnamed (hK.hts _ hcd)
    cases hmethM.symm.trans hmethM'
    obtain ⟨ps, dk, kp, hps, hdk, hkp, hsuper, -, -, hnid⟩ := Cond.superclass_spec hK.2.2.2.1 (hK.hts _ hsp)
    obtain ⟨ps2, dk2, kp2, hps2, hdk2, hkp2, hsuper2, -, -, -⟩ := Cond.superclass_spec hps (hK.hts _ hsp2)
    have hpm : ps2 = mk.cls := Option.some.inj (hps2.symm.trans (findClass_of_methodNamed hnamed))
    have hsub : K.2.1.2.2.1.vm.isSubclass ps mk.cls = true := by rw [← hpm]; exact sub2 hdk2 hsuper2
    have hlen2 : (stV K.1.2.2.2.1 vs).length = methM.sig.parameters.length := by
      have h2 := hd.2
      rw [hsigM] at h2
      unfold stV
      rw [List.length_map, hn]
      exact (Option.some.inj h2).symm
    obtain ⟨vm₁, X₁, hstep₁⟩ := X.invokespecialUp hK.1 hK.2.2.2.1 (hK.hts _ hl) (hK.hts _ hsm) (show K.2.1.2.2.1.methodNamed? ⟨y.cls, y.name, y.desc⟩ = some mk from hnamed) hmethM hstM habM hd.1 hdk hnid hps hsuper hsub (a := K.1.2.2.2.1 + a) (cell := cellB) (by rw [hT0]; exact hcB) (fun z q => by rw [q] at hoB; cases hoB) hkB (g := F0 K.2.1.2.2.2.1 pc lsA (stV K.1.2.2.2.1 (vs.reverse ++ vR (some a) :: st))) rfl (argsL := stV K.1.2.2.2.1 vs) (rest := stV K.1.2.2.2.1 st) hlen2 (stk_rev _ _ _ _) (by rw [hK.2.1]; exact d)
    obtain ⟨v, ⟨U', l2, c2, s2⟩, X', ⟨g', mk', t, L, e1, e2, hq, g1, hL, g2, g3⟩, hsteps⟩ := hbk K.2.1.2.2.2.1 K.2.1.2.2.2.2.2.2.1 K.2.1.2.2.2.2.2.2.2 ⟨T0.setVm vm₁, locs, aN h - aN K.2.2.2.2, aS h - aS K.2.2.2.2⟩ { F0 K.2.1.2.2.2.1 pc lsA (stV K.1.2.2.2.1 (vs.reverse ++ vR (some a) :: st)) with stack := stV K.1.2.2.2.1 st } (.invokespecial idx) mk (Value.ref (K.1.2.2.2.1 + a) :: stV K.1.2.2.2.1 vs).toArray X₁ rfl (hls.1.trans hK.2.2.1.symm) (by rw [hK.2.1]; exact d) (lv_room (st_room _ hsum)) (X₁.named hnamed) ⟨hrm.1, hrm.2, rfl, State.WarmedH.trans hK.2.2.2.2.1 X₁.warmed, by show HP K.1 h T0.heap; rw [hT0]; exact hP, by show blw K.1 T0.heap; rw [hT0]; exact hK.blw hS⟩
    dsimp only [Pt.U, Pt.locs, Pt.cells, Pt.slots] at X' e1 e2 g1 g2 g3 hsteps
    subst g1; subst g2; subst g3
    exact ⟨v, (T0.setVm vm₁).calling g' mk' (Value.ref (K.1.2.2.2.1 + a) :: stV K.1.2.2.2.1 vs).toArray, t, U', L, hT0, X', hL, e1, e2, hq, fun target hh => hstep₁ _ (by rw [doInvoke_state]; exact hsteps.trans hh)⟩
  · rw [if_neg hfit] at e; cases e
theorem g_callU2I {P : PX α} {mn : String} {y : MethodName} {Cx : String} {bytes : ByteArray} {maxL fr lo idx n : Nat} {fam : List Nat} (hfam : ∀ ci ∈ fam, ∃ C T N, vwCl[ci]? = some (C, T, N)) {rt : Option FieldType} {v : Option Nat} {vs : List AV} {o : Option (Int32 × AH)} {f : Int32 → AH → Option (α × AH)} (hs : Snd P.1 y bytes maxL rt fr lo rI (vR v :: vs) h o) (hl : Cond.methodLink own idx ⟨Cx, y.name, y.desc⟩ ∈ Tg) (hsm : Cond.sameMethod Cx y.cls y.name y.desc ∈ Tg) (hsp : Cond.superclass own Cx ∈ Tg) (hsp2 : Cond.superclass Cx y.cls ∈ Tg) (hst : Cond.instanceMethod y ∈ Tg) (hini : Cond.initialized y.cls ∈ Tg) (hcd : Cond.code y bytes maxL rt ∈ Tg) (hd : y.name ≠ "<init>" ∧ (parseMethodDescriptor y.desc).map (fun d => d.parameters.length) = some n) (hn : vs.length = n) (hR : fr + 1 ≤ P.2.2.1.1 ∧ 8 + (maxL + 11) + lo ≤ P.2.2.1.2.1) (hsum : (st.map ac).sum ≤ 8) (est : vs.reverse ++ vR v :: st = st0) (d : decode cc pc = .ok (.invokespecial idx, 3)) (kk : ∀ r h1, Gp P own mn cc ret (pc + 3) ls (vI r :: st) h1 (f r h1)) : Gp P own mn cc ret pc ls st0 h (bd (cu h fam v o) f) :=
  ⟨mono_bd (mono_if hs.1 mono_none) (fun x y => (kk x y).1), fun M hK hm => go_callU2 (K := mkC P M) (ρ := rI) (pv := fun r => [vI r]) hK (fun _ => rfl) hfam hs hl hsm hsp hsp2 hst hini hcd hd hn hR hsum est d (fun r h1 => (kk r h1).at M hK hm)⟩
end SUP2
