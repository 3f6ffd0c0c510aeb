section THROW
variable {p : Program} {l : Launch} {e : Env} {R : Room} {s : State} {m : MethodId} {args : Array Value} {below : List Frame} {meth : Method} {c : Code} {H : Heap} {locs : List Loc} {cells slots : Nat} {Q : State → Prop} {ls : Array Slot} {rest : List Value} {Qc : Array Value → State → Outcome → State → Prop} {XC : String → State → State → Prop} {free : Addr → Prop}
/-! as vx_throwS, vx_throwSW, with the heap's size behind it -/
theorem vy_throwS {cc : ByteArray} {pc : Nat} (hexec : p.tables.exec = Jvm.exec) (hb : c.code = cc) (hl : l.stackTraces = false) {own cls text : String} {names : List String} {ik is ic mc ms sa : Nat} {A : Nat → Prop}
    (hown : s.vm.findClass own = some m.cls) (hcls : Bundle.fit cls = true) (hnames : ∀ n ∈ names, Bundle.fit n = true)
    (hk : (Cond.classLink own ik cls).before args s = true) (hini : (Cond.initialized cls).before args s = true) (hstr : vk_R own is text sa s) (hat : ∀ w ∈ vx_atS own ic cls names, w.before args s = true)
    (hgood : ∀ w ∈ Cond.classLink own ik cls :: Cond.initialized cls :: vx_atS own ic cls names, vx_ot w = true)
    (hU : vx_Zq Bundle.tN "UNASSIGNED_STACK" Bundle.steD A s s.heap) (hN : vx_Zq Bundle.tN "SUPPRESSED_SENTINEL" Bundle.listD A s s.heap) (hS : va_S A s.heap H locs) (hsize : ls.size = c.maxLocals)
    (d0 : decode cc pc = .ok (.new ik, 3)) (d3 : decode cc (pc + 3) = .ok (.dup, 1)) (d4 : decode cc (pc + 4) = .ok (.ldc is, 2)) (d6 : decode cc (pc + 6) = .ok (.invokespecial ic, 3)) (d9 : decode cc (pc + 9) = .ok (.athrow, 1))
    (hout : ∀ x ∈ c.exceptionTable.toList, covers x (pc + 9) = false)
    (hRframes : names.length + 3 < R.frames) (hRlocals : (rest.map fun v => v.category).sum + (13 * (names.length + 1) + 43) ≤ R.locals) (hRcells : cells + 1 ≤ R.cells) (hRslots : slots + 6 ≤ R.slots) (hlocks : meth.locks = false)
    (hx : ∀ t : State, s.vm.Alike t.vm → t.heap.size = H.size + 1 → (∀ q : Nat, q < H.size → t.heap[q]? = H[q]?) → XC cls s t)
    (hf : ∀ z ∈ locs, free z.base) (hc : cells + 1 ≤ mc) (hs : slots + 6 ≤ ms) :
    W p l e R s m args below meth c H locs cells slots (vx_MQ below Qc XC args s mc ms free) (F0 m pc ls rest) := by
  intro T hT X
  have htr : e.platform.stackTraces = false := (show e.platform.stackTraces = l.stackTraces by rw [X.admits.platform]).trans hl
  have Y := vx_rebase X (R' := { frames := R.frames, locals := R.locals, cells := 1, slots := 6 }) (Nat.le_refl _) (Nat.le_refl _) hRcells hRslots
  obtain ⟨s', hA⟩ : ∃ z, z = (T.setVm s.vm).setFrames (.invoking m args :: below) := ⟨_, rfl⟩
  rw [← hA] at Y
  have hvm : s'.vm = s.vm := by rw [hA]; rfl
  have hhp : s'.heap = H := by rw [hA]; exact hT
  have hW0 : s.WarmedH s'.vm := by rw [hvm]; exact State.WarmedH.refl s
  have hat' : ∀ w ∈ vx_atS own ic cls names, w.before args s' = true := fun w hw => vx_ot_at hW0 hvm.symm (hgood w (List.mem_cons_of_mem _ (List.mem_cons_of_mem _ hw))) (hat w hw)
  have hk' : (Cond.classLink own ik cls).before args s' = true := vx_ot_at hW0 hvm.symm (hgood _ List.mem_cons_self) hk
  have hini' : (Cond.initialized cls).before args s' = true := vx_ot_at hW0 hvm.symm (hgood _ (List.mem_cons_of_mem _ List.mem_cons_self)) hini
  have hU' : vx_Zq Bundle.tN "UNASSIGNED_STACK" Bundle.steD A s' s'.heap := by rw [hhp]; exact vx_Zq.moved hW0.alike (hU.kept hS.2.1)
  have hN' : vx_Zq Bundle.tN "SUPPRESSED_SENTINEL" Bundle.listD A s' s'.heap := by rw [hhp]; exact vx_Zq.moved hW0.alike (hN.kept hS.2.1)
  have h : ∀ w ∈ Bundle.ownAtoms own ic cls names, w.before args s' = true := vx_own hat' (vx_isRefq hU'.1) (vx_isRefq hN'.1) hU'.2.word hN'.2.word
  have hown' : s'.vm.findClass own = some m.cls := by rw [hvm]; exact hown
  have hins : (Cond.instantiable cls 6).before args s' = true := h _ (by simp [Bundle.ownAtoms])
  obtain ⟨vm₁, cX, kX, hfX, hkX, -, -, X₁, st1⟩ := Y.newCold hexec (own := own) (C := cls) (index := ik) (n := 6) hown' hk' hins hini'
    (g := F0 m pc ls rest) rfl (by rw [hb]; exact d0) (Nat.le_refl _) (Nat.le_refl _)
  generalize hT1 : (T.setVm vm₁).pushCell { cls := cX, slots := kX.instanceTypes.map defaultValue, vm := .none } = T1 at X₁ st1
  have hcat : (Value.ref T.heap.size).category = 1 := rfl
  have hcellA : T1.heap[T.heap.size]? = some (freshCell cX kX) := by rw [← hT1]; exact State.heap_pushCell_size _ _
  have d3' : decode c.code (pc + 3) = .ok (.dup, 1) := by rw [hb]; exact d3
  have d4' : decode c.code (pc + 4) = .ok (.ldc is, 2) := by rw [hb]; exact d4
  have hstr' : vk_R own is text sa s' := vk_R.warm hW0 hstr
  obtain ⟨U, hsteps, hrun, hend, hW, hsame, ce, hce, hO⟩ := X₁.ctorThrowS hexec htr (own := own) (cls := cls) (names := names) (ic := ic) hown' hcls hnames h (fun x hx => nomatch hx) hfX hkX hcellA (by rw [hhp, hT]; exact Nat.le_refl _) (msg := .ref sa) rfl
    (g := { method := m, pc := pc + 6, locals := ls, stack := .ref sa :: .ref T.heap.size :: .ref T.heap.size :: rest, locked := none }) rfl hsize rfl rfl (rest := rest) rfl
    (by rw [hb]; exact d6) (by rw [hb]; exact d9) hout hRframes (by simp only [List.map_cons, List.sum_cons, hcat]; omega) hlocks
  obtain ⟨f1, f2⟩ := vx_frame hsame
  rw [hhp] at f1 f2
  have hsz : U.heap.size = H.size + 1 := by
    have z1 : T.heap.size < U.heap.size := (Array.getElem?_eq_some_iff.mp hce).1
    rw [hT] at z1
    have z2 : U.heap.size ≤ s'.heap.size + (0 + 1) := hsame.2.2.1
    rw [hhp] at z2
    omega
  have hWs : s.WarmedH U.vm := State.WarmedH.trans hW0 hW
  have hcl : s.vm.findClass cls = some ce.cls := by
    have h9 := hO.cls
    rw [hvm] at h9
    exact h9
  have hall : s.sameButNew ({ U with vm := s.vm } : State) locs mc ms := by
    subst hA
    obtain ⟨e1, e2⟩ := hsame
    rw [State.setFrames_setFrames] at e1
    have h2 : (T.setVm s.vm).sameButNew ({ U with vm := s.vm } : State) [] (0 + 1) (0 + 6) := ⟨e1, e2⟩
    have h3 := X.same.trans h2
    rw [List.append_nil] at h3
    exact h3.mono hc hs
  refine ⟨U, ?_, .threw T.heap.size, hrun, hend, Or.inr ⟨T.heap.size, rfl, cls, ce, locs, hx U hWs.alike hsz (fun q hq => f2 q hq (fun z hz => nomatch hz)), hce, hO.vm, hcl, hWs, hall, hf⟩⟩
  refine st1 _ ?_
  show Steps p.tables e below (T1.setTop { method := m, pc := pc + 3, locals := ls, stack := .ref T.heap.size :: rest, locked := none }) _
  jvm_step X₁.here [X₁.here.top, hexec, d3', Value.category]
  exact X₁.ldcString hexec (own := own) (text := text) (index := is) (a := sa) hown' hstr'.1 hstr'.2
    (g := { method := m, pc := pc + 4, locals := ls, stack := .ref T.heap.size :: .ref T.heap.size :: rest, locked := none }) rfl d4' _ hsteps
theorem vy_throwSW {cc : ByteArray} {pc : Nat} (hexec : p.tables.exec = Jvm.exec) (hb : c.code = cc) (hl : l.stackTraces = false) {own cls text : String} {names : List String} {ik is ic mc ms sa : Nat} {A : Nat → Prop}
    (hown : s.vm.findClass own = some m.cls) (hcls : Bundle.fit cls = true) (hnames : ∀ n ∈ names, Bundle.fit n = true)
    (hk : (Cond.classLink own ik cls).before args s = true) (hini : (Cond.initialized cls).before args s = true) (hstr : vk_R own is text sa s) (hat : ∀ w ∈ vx_atS own ic cls names, w.before args s = true)
    (hgood : ∀ w ∈ Cond.classLink own ik cls :: Cond.initialized cls :: vx_atS own ic cls names, vx_ot w = true)
    (hU : vx_Zq Bundle.tN "UNASSIGNED_STACK" Bundle.steD A s s.heap) (hN : vx_Zq Bundle.tN "SUPPRESSED_SENTINEL" Bundle.listD A s s.heap) (hS : va_S A s.heap H locs) (hsize : ls.size = c.maxLocals)
    (d0 : decode cc pc = .ok (.new ik, 3)) (d3 : decode cc (pc + 3) = .ok (.dup, 1)) (d4 : decode cc (pc + 4) = .ok (.ldc_w is, 3)) (d7 : decode cc (pc + 7) = .ok (.invokespecial ic, 3)) (d10 : decode cc (pc + 10) = .ok (.athrow, 1))
    (hout : ∀ x ∈ c.exceptionTable.toList, covers x (pc + 10) = false)
    (hRframes : names.length + 3 < R.frames) (hRlocals : (rest.map fun v => v.category).sum + (13 * (names.length + 1) + 43) ≤ R.locals) (hRcells : cells + 1 ≤ R.cells) (hRslots : slots + 6 ≤ R.slots) (hlocks : meth.locks = false)
    (hx : ∀ t : State, s.vm.Alike t.vm → t.heap.size = H.size + 1 → (∀ q : Nat, q < H.size → t.heap[q]? = H[q]?) → XC cls s t)
    (hf : ∀ z ∈ locs, free z.base) (hc : cells + 1 ≤ mc) (hs : slots + 6 ≤ ms) :
    W p l e R s m args below meth c H locs cells slots (vx_MQ below Qc XC args s mc ms free) (F0 m pc ls rest) := by
  intro T hT X
  have htr : e.platform.stackTraces = false := (show e.platform.stackTraces = l.stackTraces by rw [X.admits.platform]).trans hl
  have Y := vx_rebase X (R' := { frames := R.frames, locals := R.locals, cells := 1, slots := 6 }) (Nat.le_refl _) (Nat.le_refl _) hRcells hRslots
  obtain ⟨s', hA⟩ : ∃ z, z = (T.setVm s.vm).setFrames (.invoking m args :: below) := ⟨_, rfl⟩
  rw [← hA] at Y
  have hvm : s'.vm = s.vm := by rw [hA]; rfl
  have hhp : s'.heap = H := by rw [hA]; exact hT
  have hW0 : s.WarmedH s'.vm := by rw [hvm]; exact State.WarmedH.refl s
  have hat' : ∀ w ∈ vx_atS own ic cls names, w.before args s' = true := fun w hw => vx_ot_at hW0 hvm.symm (hgood w (List.mem_cons_of_mem _ (List.mem_cons_of_mem _ hw))) (hat w hw)
  have hk' : (Cond.classLink own ik cls).before args s' = true := vx_ot_at hW0 hvm.symm (hgood _ List.mem_cons_self) hk
  have hini' : (Cond.initialized cls).before args s' = true := vx_ot_at hW0 hvm.symm (hgood _ (List.mem_cons_of_mem _ List.mem_cons_self)) hini
  have hU' : vx_Zq Bundle.tN "UNASSIGNED_STACK" Bundle.steD A s' s'.heap := by rw [hhp]; exact vx_Zq.moved hW0.alike (hU.kept hS.2.1)
  have hN' : vx_Zq Bundle.tN "SUPPRESSED_SENTINEL" Bundle.listD A s' s'.heap := by rw [hhp]; exact vx_Zq.moved hW0.alike (hN.kept hS.2.1)
  have h : ∀ w ∈ Bundle.ownAtoms own ic cls names, w.before args s' = true := vx_own hat' (vx_isRefq hU'.1) (vx_isRefq hN'.1) hU'.2.word hN'.2.word
  have hown' : s'.vm.findClass own = some m.cls := by rw [hvm]; exact hown
  have hins : (Cond.instantiable cls 6).before args s' = true := h _ (by simp [Bundle.ownAtoms])
  obtain ⟨vm₁, cX, kX, hfX, hkX, -, -, X₁, st1⟩ := Y.newCold hexec (own := own) (C := cls) (index := ik) (n := 6) hown' hk' hins hini'
    (g := F0 m pc ls rest) rfl (by rw [hb]; exact d0) (Nat.le_refl _) (Nat.le_refl _)
  generalize hT1 : (T.setVm vm₁).pushCell { cls := cX, slots := kX.instanceTypes.map defaultValue, vm := .none } = T1 at X₁ st1
  have hcat : (Value.ref T.heap.size).category = 1 := rfl
  have hcellA : T1.heap[T.heap.size]? = some (freshCell cX kX) := by rw [← hT1]; exact State.heap_pushCell_size _ _
  have d3' : decode c.code (pc + 3) = .ok (.dup, 1) := by rw [hb]; exact d3
  have d4' : decode c.code (pc + 4) = .ok (.ldc_w is, 3) := by rw [hb]; exact d4
  have hstr' : vk_R own is text sa s' := vk_R.warm hW0 hstr
  obtain ⟨U, hsteps, hrun, hend, hW, hsame, ce, hce, hO⟩ := X₁.ctorThrowS hexec htr (own := own) (cls := cls) (names := names) (ic := ic) hown' hcls hnames h (fun x hx => nomatch hx) hfX hkX hcellA (by rw [hhp, hT]; exact Nat.le_refl _) (msg := .ref sa) rfl
    (g := { method := m, pc := pc + 7, locals := ls, stack := .ref sa :: .ref T.heap.size :: .ref T.heap.size :: rest, locked := none }) rfl hsize rfl rfl (rest := rest) rfl
    (by rw [hb]; exact d7) (by rw [hb]; exact d10) hout hRframes (by simp only [List.map_cons, List.sum_cons, hcat]; omega) hlocks
  obtain ⟨f1, f2⟩ := vx_frame hsame
  rw [hhp] at f1 f2
  have hsz : U.heap.size = H.size + 1 := by
    have z1 : T.heap.size < U.heap.size := (Array.getElem?_eq_some_iff.mp hce).1
    rw [hT] at z1
    have z2 : U.heap.size ≤ s'.heap.size + (0 + 1) := hsame.2.2.1
    rw [hhp] at z2
    omega
  have hWs : s.WarmedH U.vm := State.WarmedH.trans hW0 hW
  have hcl : s.vm.findClass cls = some ce.cls := by
    have h9 := hO.cls
    rw [hvm] at h9
    exact h9
  have hall : s.sameButNew ({ U with vm := s.vm } : State) locs mc ms := by
    subst hA
    obtain ⟨e1, e2⟩ := hsame
    rw [State.setFrames_setFrames] at e1
    have h2 : (T.setVm s.vm).sameButNew ({ U with vm := s.vm } : State) [] (0 + 1) (0 + 6) := ⟨e1, e2⟩
    have h3 := X.same.trans h2
    rw [List.append_nil] at h3
    exact h3.mono hc hs
  refine ⟨U, ?_, .threw T.heap.size, hrun, hend, Or.inr ⟨T.heap.size, rfl, cls, ce, locs, hx U hWs.alike hsz (fun q hq => f2 q hq (fun z hz => nomatch hz)), hce, hO.vm, hcl, hWs, hall, hf⟩⟩
  refine st1 _ ?_
  show Steps p.tables e below (T1.setTop { method := m, pc := pc + 3, locals := ls, stack := .ref T.heap.size :: rest, locked := none }) _
  jvm_step X₁.here [X₁.here.top, hexec, d3', Value.category]
  exact X₁.ldcStringW hexec (own := own) (text := text) (index := is) (a := sa) hown' hstr'.1 hstr'.2
    (g := { method := m, pc := pc + 4, locals := ls, stack := .ref T.heap.size :: .ref T.heap.size :: rest, locked := none }) rfl d4' _ hsteps
end THROW
def exH (h : AH) : AH := ((h.1.1 + 1, h.1.2 + 6), h.2)
theorem HP.exc {X : GX} {h : AH} {H H' : Heap} (hP : HP X h H) (z : H'.size = H.size + 1) (oq : ∀ q, q < H.size → H'[q]? = H[q]?) : HP X (exH h) H' := by
  refine ⟨by rw [z, hP.1]; show X.2.2.2.1 + h.1.1 + 1 = X.2.2.2.1 + (h.1.1 + 1); omega, fun b ty hb => ?_⟩
  obtain ⟨g1, g2⟩ := hP.2 b ty hb
  have hq : H'[X.2.2.2.1 + b]? = H[X.2.2.2.1 + b]? := oq _ (by rw [hP.1]; omega)
  refine ⟨Nat.lt_succ_of_lt g1, ?_⟩
  rcases ty with q | ci
  · show H'[_]? = _
    rw [hq]
    exact g2
  · obtain ⟨r, r1, r2⟩ := g2
    exact ⟨r, r1, r2.kept hq⟩
def isCast : Cond → Bool
  | .castable _ _ => true
  | _ => false
theorem cast_at {X : GX} {s : State} {A : Array Value} {a0 : Array Value} {w : Cond} (hW : X.2.1.WarmedH s.vm) (hc : isCast w = true) (h : w.before a0 X.2.1 = true) : w.before A s = true := by
  cases w <;> simp only [isCast, Bool.false_eq_true] at hc
  exact va_Nw.use rfl (va_Nw.warmC hW (va_Nw.of rfl h))
theorem face_at {X : GX} {s : State} {A : Array Value} {a0 : Array Value} {w : Cond} (hW : X.2.1.WarmedH s.vm) (hc : (w.onTables && w.keepsFace) = true) (h : w.before a0 X.2.1 = true) : w.before A s = true := by
  rw [Bool.and_eq_true] at hc
  have h1 : w.before a0 (X.2.1.setVm s.vm) = true := Cond.before_shiftedFace (State.Shifted.of_warmed hW) w hc.2 h
  exact va_tabs (u := X.2.1.setVm s.vm) hc.1 rfl h1
theorem room_exc {h0 h : AH} (a : aLe h0 h) : (aN h - aN h0) + 1 ≤ aN (exH h) - aN h0 ∧ (aS h - aS h0) + 6 ≤ aS (exH h) - aS h0 := by
  obtain ⟨a1, a2⟩ := a
  have e1 : aN (exH h) = aN h + 1 := rfl
  have e2 : aS (exH h) = aS h + 6 := rfl
  omega
section GOTHROW
variable {α : Type} {K : CX α} {own : String} {cc : ByteArray} {ret : Option FieldType} {pc : Nat} {ls : List (Nat × AV)} {st : List AV} {h : AH}
theorem go_throwS (hK : KOK K own cc ret) (hnt : ∀ x ∈ K.2.1.2.2.2.2.2.2.2.exceptionTable.toList, False) {E text : String} {names : List String} {ik is ic : Nat} {r : α} (hr : K.2.2.1 r = .inr E) (hcls : Bundle.fit E = true) (hnames : ∀ n ∈ names, Bundle.fit n = true) (hk : Cond.classLink own ik E ∈ Tg) (hini : Cond.initialized E ∈ Tg) (hstr : (own, is, text) ∈ strs) (hat : ∀ w ∈ vx_atS own ic E names, w ∈ lw_tbl) (hat2 : (vx_atS own ic E names).all (fun w => goodWord w || (w.onTables && w.keepsFace)) = true) (hgood : ∀ w ∈ Cond.classLink own ik E :: Cond.initialized E :: vx_atS own ic E names, vx_ot w = true) (hsum : (st.map ac).sum ≤ 8) (hR : names.length + 3 < K.2.2.2.1.1 ∧ 8 + (13 * (names.length + 1) + 43) ≤ K.2.2.2.1.2.1) (d0 : decode cc pc = .ok (.new ik, 3)) (d3 : decode cc (pc + 3) = .ok (.dup, 1)) (d4 : decode cc (pc + 4) = .ok (.ldc is, 2)) (d6 : decode cc (pc + 6) = .ok (.invokespecial ic, 3)) (d9 : decode cc (pc + 9) = .ok (.athrow, 1)) : Go K pc ls st h (some (r, exH h)) := by
  intro r' h' ho
  cases ho
  refine ⟨⟨Nat.le_succ _, Nat.le_add_right _ _⟩, fun ha H locs lsA hP hS hls => ?_⟩
  obtain ⟨x1, x2, x3, x4, x5, x6⟩ := hK.2.2.2.2.2.2.2.2.2.1
  obtain ⟨sa, hsa⟩ := x2 _ hstr
  have hal := hK.2.2.2.2.1.alike
  have hbl := hK.2.2.2.2.2.2.2.2.2.2
  have hq : ∀ a : Nat, a < K.1.2.1.heap.size → ¬ (fun q => K.1.2.2.2.1 ≤ q) a → K.2.1.2.2.1.heap[a]? = K.1.2.1.heap[a]? := fun a _ g => hbl.2 a (Nat.not_le.mp g)
  have hw : ∀ w ∈ vx_atS own ic E names, w.before K.2.1.2.2.2.2.1 K.2.1.2.2.1 = true := fun w hw => by
    have h1 := List.all_eq_true.mp hat2 w hw
    rw [Bool.or_eq_true] at h1
    rcases h1 with h1 | h1
    · exact hK.hts w (List.mem_filter.mpr ⟨hat w hw, h1⟩)
    · exact face_at hK.2.2.2.2.1 h1 (hK.2.2.2.2.2.2.2.1 w (hat w hw))
  obtain ⟨r1, r2⟩ := room_exc ha
  rw [kQ_inr hr]
  exact vy_throwS (A := fun q => K.1.2.2.2.1 ≤ q) hK.1 hK.2.1 x1 hK.2.2.2.1 hcls hnames (hK.hts _ hk) (hK.hts _ hini) (vk_R.warm hK.2.2.2.2.1 hsa) hw hgood (vx_Zq.moved hal (x3.kept hq)) (vx_Zq.moved hal (x4.kept hq)) hS (hls.1.trans hK.2.2.1.symm) d0 d3 d4 d6 d9 (fun x hx => absurd hx (fun z => hnt x z)) hR.1 (by have := st_room K.1.2.2.2.1 hsum; show _ ≤ K.2.2.2.1.2.1; omega) r1 r2 hK.2.2.2.2.2.2.1 (fun t hal2 z oq => ⟨rfl, hP.exc z oq, ⟨Nat.le_trans hS.1 (by rw [z]; exact Nat.le_succ _), fun q g1 g2 => (oq q (Nat.lt_of_lt_of_le g1 hS.1)).trans (hS.2.1 q g1 g2)⟩⟩) hS.2.2 r1 r2
theorem go_throwSW (hK : KOK K own cc ret) (hnt : ∀ x ∈ K.2.1.2.2.2.2.2.2.2.exceptionTable.toList, False) {E text : String} {names : List String} {ik is ic : Nat} {r : α} (hr : K.2.2.1 r = .inr E) (hcls : Bundle.fit E = true) (hnames : ∀ n ∈ names, Bundle.fit n = true) (hk : Cond.classLink own ik E ∈ Tg) (hini : Cond.initialized E ∈ Tg) (hstr : (own, is, text) ∈ strs) (hat : ∀ w ∈ vx_atS own ic E names, w ∈ lw_tbl) (hat2 : (vx_atS own ic E names).all (fun w => goodWord w || (w.onTables && w.keepsFace)) = true) (hgood : ∀ w ∈ Cond.classLink own ik E :: Cond.initialized E :: vx_atS own ic E names, vx_ot w = true) (hsum : (st.map ac).sum ≤ 8) (hR : names.length + 3 < K.2.2.2.1.1 ∧ 8 + (13 * (names.length + 1) + 43) ≤ K.2.2.2.1.2.1) (d0 : decode cc pc = .ok (.new ik, 3)) (d3 : decode cc (pc + 3) = .ok (.dup, 1)) (d4 : decode cc (pc + 4) = .ok (.ldc_w is, 3)) (d6 : decode cc (pc + 7) = .ok (.invokespecial ic, 3)) (d9 : decode cc (pc + 10) = .ok (.athrow, 1)) : Go K pc ls st h (some (r, exH h)) := by
  intro r' h' ho
  cases ho
  refine ⟨⟨Nat.le_succ _, Nat.le_add_right _ _⟩, fun ha H locs lsA hP hS hls => ?_⟩
  obtain ⟨x1, x2, x3, x4, x5, x6⟩ := hK.2.2.2.2.2.2.2.2.2.1
  obtain ⟨sa, hsa⟩ := x2 _ hstr
  have hal := hK.2.2.2.2.1.alike
  have hbl := hK.2.2.2.2.2.2.2.2.2.2
  have hq : ∀ a : Nat, a < K.1.2.1.heap.size → ¬ (fun q => K.1.2.2.2.1 ≤ q) a → K.2.1.2.2.1.heap[a]? = K.1.2.1.heap[a]? := fun a _ g => hbl.2 a (Nat.not_le.mp g)
  have hw : ∀ w ∈ vx_atS own ic E names, w.before K.2.1.2.2.2.2.1 K.2.1.2.2.1 = true := fun w hw => by
    have h1 := List.all_eq_true.mp hat2 w hw
    rw [Bool.or_eq_true] at h1
    rcases h1 with h1 | h1
    · exact hK.hts w (List.mem_filter.mpr ⟨hat w hw, h1⟩)
    · exact face_at hK.2.2.2.2.1 h1 (hK.2.2.2.2.2.2.2.1 w (hat w hw))
  obtain ⟨r1, r2⟩ := room_exc ha
  rw [kQ_inr hr]
  exact vy_throwSW (A := fun q => K.1.2.2.2.1 ≤ q) hK.1 hK.2.1 x1 hK.2.2.2.1 hcls hnames (hK.hts _ hk) (hK.hts _ hini) (vk_R.warm hK.2.2.2.2.1 hsa) hw hgood (vx_Zq.moved hal (x3.kept hq)) (vx_Zq.moved hal (x4.kept hq)) hS (hls.1.trans hK.2.2.1.symm) d0 d3 d4 d6 d9 (fun x hx => absurd hx (fun z => hnt x z)) hR.1 (by have := st_room K.1.2.2.2.1 hsum; show _ ≤ K.2.2.2.1.2.1; omega) r1 r2 hK.2.2.2.2.2.2.1 (fun t hal2 z oq => ⟨rfl, hP.exc z oq, ⟨Nat.le_trans hS.1 (by rw [z]; exact Nat.le_succ _), fun q g1 g2 => (oq q (Nat.lt_of_lt_of_le g1 hS.1)).trans (hS.2.1 q g1 g2)⟩⟩) hS.2.2 r1 r2
end GOTHROW
