section CALLS
variable {α β : Type} {K : CX α} {own : String} {cc : ByteArray} {ret : Option FieldType} {pc : Nat} {ls : List (Nat × AV)} {st st0 : List AV} {h : AH}
/-- behind a call whose run is known -/
theorem call_go {ρ : β → Option Value} {o : Option (β × AH)} {f : β → AH → Option (α × AH)} {pv : β → List AV} {ar : Array Value} (hpv : ∀ r, (ρ r).toList = stV K.1.2.2.2.1 (pv r)) (hm : Mono h o) (kk : ∀ r h1, Go K (pc + 3) ls (pv r ++ st) h1 (f r h1))
    (run : ∀ (r1 : β) (h1 h' : AH), o = some (r1, h1) → aLe h1 h' → aLe K.2.2.2.2 h → ∀ (H : Heap) (locs : List Loc) (lsA : Array Slot), HP K.1 h H → va_S (fun q => K.1.2.2.2.1 ≤ q) K.2.1.2.2.1.heap H locs → lv_has lsA K.2.2.2.1.2.2 (lsV K.1.2.2.2.1 ls) → va_Run K.2.1.1 K.1.1 K.2.1.2.1 (kR K h') K.2.1.2.2.1 K.2.1.2.2.2.1 K.2.1.2.2.2.2.1 K.2.1.2.2.2.2.2.1 K.2.1.2.2.2.2.2.2.1 K.2.1.2.2.2.2.2.2.2 H locs (aN h - aN K.2.2.2.2) (aS h - aS K.2.2.2.2) (aN h1 - aN h) (aS h1 - aS h) (F0 K.2.1.2.2.2.1 pc lsA (stV K.1.2.2.2.1 st0)) (stV K.1.2.2.2.1 st) (Qf K.1 (ρ r1) h1 ar) (fun q => K.1.2.2.2.1 ≤ q)) : Go K pc ls st0 h (bd o f) := by
  intro r h' ho
  cases e : o with
  | none => rw [e] at ho; cases ho
  | some q =>
    rw [e] at ho
    obtain ⟨q1, h1⟩ := q
    have ho : f q1 h1 = some (r, h') := ho
    obtain ⟨m1, m2⟩ := kk q1 h1 r h' ho
    have hle := hm q1 h1 e
    refine ⟨hle.tr m1, fun ha H locs lsA hP hS hls T hT X => ?_⟩
    obtain ⟨v, st₀, t, T', L, h0, X', hL, e1, e2, ⟨hv, hp, hz, hk⟩, step⟩ := run q1 h1 h' e m1 ha H locs lsA hP hS hls T hT X
    have hv2 : v = ρ q1 := Outcome.returned.inj hv
    subst hv2
    rw [h0] at hz hk
    have hS1 : va_S (fun q => K.1.2.2.2.1 ≤ q) K.2.1.2.2.1.heap T'.heap (locs ++ L) := ⟨Nat.le_trans hS.1 (by rw [e1]; exact hz), fun q g1 g2 => by rw [e1, hk q (Nat.lt_of_lt_of_le g1 hS.1) g2]; exact hS.2.1 q g1 g2, fun q hq => by
      rcases List.mem_append.mp hq with g | g
      · exact hS.2.2 q g
      · exact hL q g⟩
    have z1 : (aN h - aN K.2.2.2.2) + (aN h1 - aN h) = aN h1 - aN K.2.2.2.2 := by have := ha.1; have := hle.1; omega
    have z2 : (aS h - aS K.2.2.2.2) + (aS h1 - aS h) = aS h1 - aS K.2.2.2.2 := by have := ha.2; have := hle.2; omega
    rw [z1, z2] at X'
    obtain ⟨t2, a1, b1⟩ := m2 (ha.tr hle) T'.heap (locs ++ L) lsA (by rw [e1]; exact hp) hS1 hls T' rfl X'
    refine ⟨t2, step t2 ?_, b1⟩
    have hst : stV K.1.2.2.2.1 (pv q1 ++ st) = (ρ q1).toList ++ stV K.1.2.2.2.1 st := by
      rw [hpv]
      unfold stV
      rw [List.map_append]
    rw [← hst]
    exact a1
theorem room_call {K : CX α} {h h1 h' : AH} (ha : aLe K.2.2.2.2 h) (hle : aLe h h1) (m : aLe h1 h') : (aN h - aN K.2.2.2.2) + (aN h1 - aN h) ≤ (kR K h').cells ∧ (aS h - aS K.2.2.2.2) + (aS h1 - aS h) ≤ (kR K h').slots := by
  show _ ≤ aN h' - aN K.2.2.2.2 ∧ _ ≤ aS h' - aS K.2.2.2.2
  obtain ⟨a1, a2⟩ := ha
  obtain ⟨b1, b2⟩ := hle
  obtain ⟨c1, c2⟩ := m
  omega
theorem st_room (B : Nat) {st : List AV} (hs : (st.map ac).sum ≤ 8) : ((stV B st).map fun v => v.category).sum ≤ 8 := by
  have : (stV B st).map (fun v => v.category) = st.map ac := by
    unfold stV
    rw [List.map_map]
    exact List.map_congr_left fun v _ => av_cat B v
  rw [this]
  exact hs
theorem blindP (X : GX) (vs : List Value) (h : AH) : FrameBlind (va_Pc vs (fun U => X.2.1.WarmedH U.vm ∧ HP X h U.heap ∧ blw X U.heap)) := fun _ _ _ _ q => ⟨q.1, q.2.1, q.2.2.1, q.2.2.2⟩
/-- the number of a descriptor's parameters, no handle's class -/
def dsc (c ds : String) (n : Nat) : Prop := c ≠ "java/lang/invoke/MethodHandle" ∧ c ≠ "java/lang/invoke/VarHandle" ∧ (parseMethodDescriptor ds).map (fun d => d.parameters.length) = some n
theorem go_callS (hK : KOK K own cc ret) {ρ : β → Option Value} {pv : β → List AV} (hpv : ∀ r, (ρ r).toList = stV K.1.2.2.2.1 (pv r)) {y : MethodName} {bytes : ByteArray} {maxL fr lo idx n : Nat} {rt : Option FieldType} {vs : List AV} {o : Option (β × AH)} {f : β → AH → Option (α × AH)} (hs : Snd K.1 y bytes maxL rt fr lo ρ vs h o) (hl : Cond.methodLink own idx y ∈ Tg) (hst : Cond.static y ∈ Tg) (hini : Cond.initialized y.cls ∈ Tg) (hcd : Cond.code y bytes maxL rt ∈ Tg) (hd : dsc y.cls y.desc n) (hn : vs.length = n) (hR : fr + 1 ≤ K.2.2.2.1.1 ∧ 8 + (maxL + 11) + lo ≤ K.2.2.2.1.2.1) (hsum : (st.map ac).sum ≤ 8) (est : vs.reverse ++ st = st0) (d : decode cc pc = .ok (.invokestatic idx, 3)) (kk : ∀ r h1, Go K (pc + 3) ls (pv r ++ st) h1 (f r h1)) : Go K pc ls st0 h (bd o f) := by
  subst est
  refine call_go (ar := (stV K.1.2.2.2.1 vs).toArray) hpv hs.1 kk fun r1 h1 h' e hle ha H locs lsA hP hS hls => ?_
  have hC := hs.2 r1 h1 e
  refine va_runS (As := stV K.1.2.2.2.1 vs) (rest := stV K.1.2.2.2.1 st) ⟨hK.1, hK.2.1, hK.2.2.1, hK.2.2.2.1, hK.hts⟩ hC (va_cwS n hK.hts (gT ?_) rfl rfl rfl hd hR) ⟨blindP _ _ _, fun U hU hW => ⟨rfl, State.WarmedH.trans hK.2.2.2.2.1 hW, by rw [hU]; exact hP, by rw [hU]; exact hK.blw hS⟩⟩ rfl (by show (stV K.1.2.2.2.1 vs).length = n; unfold stV; rw [List.length_map]; exact hn) hls.1 ?_ (lv_room (st_room _ hsum)) d (room_call ha (hs.1 _ _ e) hle)
  · intro w hw
    simp only [va_wsS, List.cons_append, List.nil_append, List.mem_cons, List.not_mem_nil, or_false] at hw
    rcases hw with rfl | rfl | rfl | rfl <;> assumption
  · show stV _ (vs.reverse ++ st) = _
    unfold stV
    rw [List.map_append, List.map_reverse]
theorem go_callSN (hK : KOK K own cc ret) {ρ : β → Option Value} {pv : β → List AV} (hpv : ∀ r, (ρ r).toList = stV K.1.2.2.2.1 (pv r)) {y : MethodName} {host : String} {bytes : ByteArray} {maxL fr lo idx n : Nat} {rt : Option FieldType} {vs : List AV} {o : Option (β × AH)} {f : β → AH → Option (α × AH)} (hs : Snd K.1 y bytes maxL rt fr lo ρ vs h o) (hl : Cond.methodLinkNest own idx y host ∈ lw_tbl) (hst : Cond.static y ∈ Tg) (hini : Cond.initialized y.cls ∈ Tg) (hcd : Cond.code y bytes maxL rt ∈ Tg) (hd : dsc y.cls y.desc n) (hn : vs.length = n) (hR : fr + 1 ≤ K.2.2.2.1.1 ∧ 8 + (maxL + 11) + lo ≤ K.2.2.2.1.2.1) (hsum : (st.map ac).sum ≤ 8) (est : vs.reverse ++ st = st0) (d : decode cc pc = .ok (.invokestatic idx, 3)) (kk : ∀ r h1, Go K (pc + 3) ls (pv r ++ st) h1 (f r h1)) : Go K pc ls st0 h (bd o f) := by
  subst est
  refine call_go (ar := (stV K.1.2.2.2.1 vs).toArray) hpv hs.1 kk fun r1 h1 h' e hle ha H locs lsA hP hS hls => ?_
  have hC := hs.2 r1 h1 e
  have hnw := va_Nw.warmM hK.2.2.2.2.1 (va_Nw.of rfl (hK.2.2.2.2.2.2.2.1 _ hl))
  refine va_runSN (As := stV K.1.2.2.2.1 vs) (rest := stV K.1.2.2.2.1 st) ⟨hK.1, hK.2.1, hK.2.2.1, hK.2.2.2.1, hK.hts⟩ hC ⟨va_cnB n hK.hts (gT ?_) rfl rfl rfl hnw (hK.hts _ hini) hd hR, hK.hts _ hst, trivial⟩ ⟨blindP _ _ _, fun U hU hW => ⟨rfl, State.WarmedH.trans hK.2.2.2.2.1 hW, by rw [hU]; exact hP, by rw [hU]; exact hK.blw hS⟩⟩ rfl (by show (stV K.1.2.2.2.1 vs).length = n; unfold stV; rw [List.length_map]; exact hn) hls.1 ?_ (lv_room (st_room _ hsum)) d (room_call ha (hs.1 _ _ e) hle)
  · intro w hw
    simp only [List.mem_cons, List.not_mem_nil, or_false] at hw
    rw [hw]; exact hcd
  · show stV _ (vs.reverse ++ st) = _
    unfold stV
    rw [List.map_append, List.map_reverse]
/-- the receiver is an object of class ci -/
def cv {γ : Type} (h : AH) (v : Option Nat) (ci : Nat) (o : Option γ) : Option γ := match v with
  | none => none
  | some a => if aT h a = some (.inr ci) then o else none
theorem cv_some {γ : Type} {v : Option Nat} {ci : Nat} {o : Option γ} {x : γ} (e : cv h v ci o = some x) : ∃ a, v = some a ∧ aT h a = some (.inr ci) ∧ o = some x := by
  unfold cv at e
  split at e
  · cases e
  · split at e
    · exact ⟨_, rfl, by assumption, e⟩
    · cases e
theorem recv (hK : KOK K own cc ret) {a ci : Nat} {C : String} {T : u_T} {N : Nat} (hc : vwCl[ci]? = some (C, T, N)) (hT : aT h a = some (.inr ci)) {H : Heap} (hP : HP K.1 h H) : ∃ cellB : Cell, H[K.1.2.2.2.1 + a]? = some cellB ∧ cellB.vm.isStatics = false ∧ K.2.1.2.2.1.vm.findClass C = some cellB.cls := by
  obtain ⟨-, r, r1, cell, q1, q2, q3, -⟩ := hP.2 a _ hT
  cases r1.symm.trans hc
  exact ⟨cell, q1, by rw [q3]; rfl, by rw [q2]; exact (hK.vk.1 ci _ hc).2.1⟩
theorem stk_rev (B : Nat) (vs : List AV) (v : AV) (st : List AV) : stV B (vs.reverse ++ v :: st) = (stV B vs).reverse ++ av B v :: stV B st := by
  unfold stV
  rw [List.map_append, List.map_reverse]
  rfl
theorem go_callV (hK : KOK K own cc ret) {ρ : β → Option Value} {pv : β → List AV} (hpv : ∀ r, (ρ r).toList = stV K.1.2.2.2.1 (pv r)) {y : MethodName} {bytes : ByteArray} {maxL fr lo idx n ci N : Nat} {C : String} {T : u_T} (hc : vwCl[ci]? = some (C, T, N)) {rt : Option FieldType} {v : Option Nat} {vs : List AV} {o : Option (β × AH)} {f : β → AH → Option (α × AH)} (hs : Snd K.1 y bytes maxL rt fr lo ρ (vR v :: vs) h o) (hl : Cond.methodLink own idx y ∈ Tg) (hst : Cond.instanceMethod y ∈ Tg) (hse : Cond.selects C y y ∈ Tg) (hini : Cond.initialized C ∈ Tg) (hcd : Cond.code y bytes maxL rt ∈ Tg) (hyc : y.cls = C) (hd : dsc y.cls y.desc n) (hn : vs.length = n) (hR : fr + 1 ≤ K.2.2.2.1.1 ∧ 8 + (maxL + 11) + lo ≤ K.2.2.2.1.2.1) (hsum : (st.map ac).sum ≤ 8) (est : vs.reverse ++ vR v :: st = st0) (d : decode cc pc = .ok (.invokevirtual idx, 3)) (kk : ∀ r h1, Go K (pc + 3) ls (pv r ++ st) h1 (f r h1)) : Go K pc ls st0 h (bd (cv h v ci o) f) := by
  subst est
  cases v with
  | none => intro r h' ho; cases ho
  | some a =>
  refine call_go (ar := (Value.ref (K.1.2.2.2.1 + a) :: stV K.1.2.2.2.1 vs).toArray) hpv (fun r h' e => hs.1 r h' (by obtain ⟨_, _, _, e⟩ := cv_some e; exact e)) kk fun r1 h1 h' e hle ha H locs lsA hP hS hls => ?_
  obtain ⟨a', ea, hT, e⟩ := cv_some e
  cases ea
  have hC := hs.2 r1 h1 e
  refine va_runV (C := C) (b := K.1.2.2.2.1 + a) (As := stV K.1.2.2.2.1 vs) (rest := stV K.1.2.2.2.1 st) ⟨hK.1, hK.2.1, hK.2.2.1, hK.2.2.2.1, hK.hts⟩ hC (cwV n hK.hts (gT ?_) rfl rfl rfl ⟨hyc, hd⟩ hR) ⟨blindP _ _ _, recv hK hc hT hP, fun U hU hW => ⟨rfl, State.WarmedH.trans hK.2.2.2.2.1 hW, by rw [hU]; exact hP, by rw [hU]; exact hK.blw hS⟩⟩ rfl (by show (stV K.1.2.2.2.1 vs).length = n; unfold stV; rw [List.length_map]; exact hn) hls.1 ?_ (lv_room (st_room _ hsum)) d (room_call ha (hs.1 _ _ e) hle)
  · intro w hw
    simp only [wsV, List.cons_append, List.nil_append, List.mem_cons, List.not_mem_nil, or_false] at hw
    rcases hw with rfl | rfl | rfl | rfl | rfl <;> assumption
  · exact stk_rev _ _ _ _
theorem go_callI (hK : KOK K own cc ret) {y : MethodName} {bytes : ByteArray} {maxL fr lo idx n : Nat} {v : Option Nat} {vs : List AV} {o : Option (Unit × AH)} {f : Unit → AH → Option (α × AH)} (hs : Snd K.1 y bytes maxL none fr lo (fun _ => none) (vR v :: vs) h o) (hl : Cond.methodLink own idx y ∈ Tg) (hst : Cond.instanceMethod y ∈ Tg) (hini : Cond.initialized y.cls ∈ Tg) (hcd : Cond.code y bytes maxL none ∈ Tg) (hyn : y.name = "<init>") (hd : dsc y.cls y.desc n) (hn : vs.length = n) (hR : fr + 1 ≤ K.2.2.2.1.1 ∧ 8 + (maxL + 11) + lo ≤ K.2.2.2.1.2.1) (hsum : (st.map ac).sum ≤ 8) (est : vs.reverse ++ vR v :: st = st0) (d : decode cc pc = .ok (.invokespecial idx, 3)) (kk : ∀ r h1, Go K (pc + 3) ls st h1 (f r h1)) : Go K pc ls st0 h (bd (match v with | none => none | some _ => o) f) := by
  subst est
  cases v with
  | none => intro r h' ho; cases ho
  | some a =>
  refine call_go (ρ := fun _ => none) (pv := fun _ => []) (ar := (Value.ref (K.1.2.2.2.1 + a) :: stV K.1.2.2.2.1 vs).toArray) (fun _ => rfl) hs.1 kk fun r1 h1 h' e hle ha H locs lsA hP hS hls => ?_
  have hC := hs.2 r1 h1 e
  refine va_runI (b := K.1.2.2.2.1 + a) (As := stV K.1.2.2.2.1 vs) (rest := stV K.1.2.2.2.1 st) ⟨hK.1, hK.2.1, hK.2.2.1, hK.2.2.2.1, hK.hts⟩ hC (cwI n hK.hts (gT ?_) rfl rfl rfl (hK.hts _ hini) (hK.hts _ hl) (hK.hts _ hst) hyn hd hR) ⟨blindP _ _ _, fun U hU hW => ⟨rfl, State.WarmedH.trans hK.2.2.2.2.1 hW, by rw [hU]; exact hP, by rw [hU]; exact hK.blw hS⟩⟩ rfl (by show (stV K.1.2.2.2.1 vs).length = n; unfold stV; rw [List.length_map]; exact hn) hls.1 ?_ (lv_room (st_room _ hsum)) d (room_call ha (hs.1 _ _ e) hle)
  · intro w hw
    simp only [List.mem_cons, List.not_mem_nil, or_false] at hw
    rw [hw]; exact hcd
  · exact stk_rev _ _ _ _
/-- super.m(..) on an object of class ci -/
theorem go_callU (hK : KOK K own cc ret) {ρ : β → Option Value} {pv : β → List AV} (hpv : ∀ r, (ρ r).toList = stV K.1.2.2.2.1 (pv r)) {y : MethodName} {bytes : ByteArray} {maxL fr lo idx n : Nat} {fam : List Nat} (hfam : ∀ ci ∈ fam, ∃ C T N, vwCl[ci]? = some (C, T, N)) {rt : Option FieldType} {v : Option Nat} {vs : List AV} {o : Option (β × AH)} {f : β → AH → Option (α × AH)} (hs : Snd K.1 y bytes maxL rt fr lo ρ (vR v :: vs) h o) (hl : Cond.methodLink own idx y ∈ Tg) (hsm : Cond.sameMethod y.cls y.cls y.name y.desc ∈ Tg) (hsp : Cond.superclass own y.cls ∈ Tg) (hst : Cond.instanceMethod y ∈ Tg) (hini : Cond.initialized y.cls ∈ Tg) (hcd : Cond.code y bytes maxL rt ∈ Tg) (hd : y.name ≠ "<init>" ∧ (parseMethodDescriptor y.desc).map (fun d => d.parameters.length) = some n) (hn : vs.length = n) (hR : fr + 1 ≤ K.2.2.2.1.1 ∧ 8 + (maxL + 11) + lo ≤ K.2.2.2.1.2.1) (hsum : (st.map ac).sum ≤ 8) (est : vs.reverse ++ vR v :: st = st0) (d : decode cc pc = .ok (.invokespecial idx, 3)) (kk : ∀ r h1, Go K (pc + 3) ls (pv r ++ st) h1 (f r h1)) : Go K pc ls st0 h (bd (if fits1 h fam v = true ∧ v ≠ none then o else none) f) := by
  subst est
  cases v with
  | none => intro r h' ho; rw [if_neg (fun z => z.2 rfl)] at ho; cases ho
  | some a =>
  refine call_go (ar := (Value.ref (K.1.2.2.2.1 + a) :: stV K.1.2.2.2.1 vs).toArray) hpv (mono_if hs.1 mono_none) kk fun r1 h1 h' e hle ha H locs lsA hP hS hls => ?_
  by_cases hfit : fits1 h fam (some a) = true ∧ (some a : Option Nat) ≠ none
  · rw [if_pos hfit] at e
    obtain ⟨ci, hT, hci⟩ := fits1_some hfit.1
    obtain ⟨C, T, N, hc⟩ := hfam ci hci
    have hC := hs.2 r1 h1 e
    refine va_runSU (C := C) (hK.vk.1 ci _ hc).2 (b := K.1.2.2.2.1 + a) (As := stV K.1.2.2.2.1 vs) (rest := stV K.1.2.2.2.1 st) ⟨hK.1, hK.2.1, hK.2.2.1, hK.2.2.2.1, hK.hts⟩ hC (va_cwSU n hK.hts (gT ?_) rfl rfl rfl hd hR) ⟨blindP _ _ _, recv hK hc hT hP, fun U hU hW => ⟨rfl, State.WarmedH.trans hK.2.2.2.2.1 hW, by rw [hU]; exact hP, by rw [hU]; exact hK.blw hS⟩⟩ rfl (by show (stV K.1.2.2.2.1 vs).length = n; unfold stV; rw [List.length_map]; exact hn) hls.1 ?_ (lv_room (st_room _ hsum)) d (room_call ha (hs.1 _ _ e) hle)
    · intro w hw
      simp only [va_wsSU, List.cons_append, List.nil_append, List.mem_cons, List.not_mem_nil, or_false] at hw
      rcases hw with rfl | rfl | rfl | rfl | rfl | rfl <;> assumption
    · exact stk_rev _ _ _ _
  · rw [if_neg hfit] at e; cases e
/-- a call of x that the receiver's class selects -/
def Dyn (X : GX) (x : MethodName) (FR LO : Nat) (ρ : β → Option Value) (vs : List AV) (h : AH) (o : Option (β × AH)) : Prop := Mono h o ∧ ∀ (r : β) (h' : AH), o = some (r, h') → ∃ (a ci : Nat) (C : String) (T : u_T) (N : Nat) (y : MethodName) (bytes : ByteArray) (maxL fr lo : Nat) (rt : Option FieldType) (vs' : List AV), vs = vR (some a) :: vs' ∧ aT h a = some (.inr ci) ∧ vwCl[ci]? = some (C, T, N) ∧ (Cond.selects C x y ∈ Tg ∧ Cond.instanceMethod y ∈ Tg ∧ Cond.initialized y.cls ∈ Tg ∧ Cond.code y bytes maxL rt ∈ Tg) ∧ (fr + 1 ≤ FR ∧ 8 + (maxL + 11) + lo ≤ LO) ∧ Ct X y bytes maxL rt fr lo vs h (ρ r) h'
theorem go_callD (hK : KOK K own cc ret) {ρ : β → Option Value} {pv : β → List AV} (hpv : ∀ r, (ρ r).toList = stV K.1.2.2.2.1 (pv r)) {x : MethodName} {b0 : ByteArray} {m0 FR LO idx n : Nat} {r0 : Option FieldType} {v : Option Nat} {vs : List AV} {o : Option (β × AH)} {f : β → AH → Option (α × AH)} (hs : Dyn K.1 x FR LO ρ (vR v :: vs) h o) (hl : Cond.methodLink own idx x ∈ Tg) (hsm : Cond.sameMethod x.cls x.cls x.name x.desc ∈ Tg) (hst : Cond.instanceMethod x ∈ Tg) (hcd : Cond.code x b0 m0 r0 ∈ Tg) (hd : dsc x.cls x.desc n) (hn : vs.length = n) (hR : FR ≤ K.2.2.2.1.1 ∧ LO ≤ K.2.2.2.1.2.1) (hsum : (st.map ac).sum ≤ 8) (est : vs.reverse ++ vR v :: st = st0) (d : decode cc pc = .ok (.invokevirtual idx, 3)) (kk : ∀ r h1, Go K (pc + 3) ls (pv r ++ st) h1 (f r h1)) : Go K pc ls st0 h (bd o f) := by
  subst est
  refine call_go (ar := (av K.1.2.2.2.1 (vR v) :: stV K.1.2.2.2.1 vs).toArray) hpv hs.1 kk fun r1 h1 h' e hle ha H locs lsA hP hS hls => ?_
  obtain ⟨a, ci, C, T, N, y, bytes, maxL, fr, lo, rt, vs', evs, hT, hc, ⟨w1, w2, w3, w4⟩, hR2, hC⟩ := hs.2 r1 h1 e
  cases evs
  refine va_runU (C := C) (owner := x.cls) (b := K.1.2.2.2.1 + a) (As := stV K.1.2.2.2.1 vs) (rest := stV K.1.2.2.2.1 st) ⟨hK.1, hK.2.1, hK.2.2.1, hK.2.2.2.1, hK.hts⟩ hC (va_cwO (x := x) (b0 := b0) (m0 := m0) (r0 := r0) n hK.hts (gT ?_) rfl rfl rfl hcd hd ⟨Nat.le_trans hR2.1 hR.1, Nat.le_trans hR2.2 hR.2⟩) ⟨blindP _ _ _, recv hK hc hT hP, fun U hU hW => ⟨rfl, State.WarmedH.trans hK.2.2.2.2.1 hW, by rw [hU]; exact hP, by rw [hU]; exact hK.blw hS⟩⟩ rfl (by show (stV K.1.2.2.2.1 vs).length = n; unfold stV; rw [List.length_map]; exact hn) hls.1 ?_ (lv_room (st_room _ hsum)) d (room_call ha (hs.1 _ _ e) hle)
  · intro w hw
    simp only [va_wsO, List.cons_append, List.nil_append, List.mem_cons, List.not_mem_nil, or_false] at hw
    rcases hw with rfl | rfl | rfl | rfl | rfl | rfl | rfl <;> assumption
  · exact stk_rev _ _ _ _
/-- Object.<init> -/
theorem go_objInit (hK : KOK K own cc ret) {idx : Nat} {v : Option Nat} {f : Option (α × AH)} (hl : Cond.methodLink own idx Lib.objectInit ∈ Tg) (hi : Cond.instanceMethod Lib.objectInit ∈ Tg) (hcd : Cond.code Lib.objectInit ⟨#[0xb1]⟩ 1 none ∈ Tg) (hR : 1 ≤ K.2.2.2.1.1 ∧ 20 ≤ K.2.2.2.1.2.1) (hsum : (st.map ac).sum ≤ 8) (d : decode cc pc = .ok (.invokespecial idx, 3)) (k : Go K (pc + 3) ls st h f) : Go K pc ls (vR v :: st) h (if v = none then none else f) := by
  cases v with
  | none => rw [if_pos rfl]; intro r h' ho; cases ho
  | some a =>
    rw [if_neg (fun z => by cases z)]
    intro r h' ho
    obtain ⟨m1, m2⟩ := k r h' ho
    refine ⟨m1, fun ha H locs lsA hP hS hls => ?_⟩
    refine W.objInit hK.1 hK.2.1 hK.2.2.2.1 (hK.hts _ hl) (hK.hts _ hi) (hK.hts _ hcd) rfl (by rw [hK.2.2.1]; exact hls.1) rfl d hR.1 ?_ (m2 ha H locs lsA hP hS hls)
    have := lv_room (m := K.2.1.2.2.2.1) (pc := pc) (ls := lsA) (rest := stV K.1.2.2.2.1 (vR (some a) :: st)) (st_room K.1.2.2.2.1 hsum)
    exact Nat.le_trans (Nat.add_le_add_right this 12) hR.2
end CALLS
