/-! THE ABSTRACT HEAP: cells from B on, by their numbers; what each is, what it holds. -/
/-- what a cell is: .inl (kind, length) an array (0 ints, 1 longs, else references), .inr ci an object of the class vwCl has at ci -/
abbrev AT : Type := (Nat × Nat) ⊕ Nat
/-- ((cells, slots), what each cell is, ints, longs, references) -/
abbrev AH : Type := (Nat × Nat) × (Nat → Option AT) × (Nat → Nat → Int32) × (Nat → Nat → Int64) × (Nat → Nat → Option Nat)
def aN (h : AH) : Nat := h.1.1
def aS (h : AH) : Nat := h.1.2
def aT (h : AH) : Nat → Option AT := h.2.1
def aI (h : AH) : Nat → Nat → Int32 := h.2.2.1
def aL (h : AH) : Nat → Nat → Int64 := h.2.2.2.1
def aR (h : AH) : Nat → Nat → Option Nat := h.2.2.2.2
def wI (h : AH) (a : Nat) (f : Nat → Int32) : AH := (h.1, h.2.1, va_up h.2.2.1 a f, h.2.2.2.1, h.2.2.2.2)
def wL (h : AH) (a : Nat) (f : Nat → Int64) : AH := (h.1, h.2.1, h.2.2.1, va_up h.2.2.2.1 a f, h.2.2.2.2)
def wR (h : AH) (a : Nat) (f : Nat → Option Nat) : AH := (h.1, h.2.1, h.2.2.1, h.2.2.2.1, va_up h.2.2.2.2 a f)
/-- a new cell of n slots -/
def nwH (h : AH) (ty : AT) (n : Nat) : AH := ((h.1.1 + 1, h.1.2 + n), va_up h.2.1 h.1.1 (some ty), va_up h.2.2.1 h.1.1 (fun _ => 0), va_up h.2.2.2.1 h.1.1 (fun _ => 0), va_up h.2.2.2.2 h.1.1 (fun _ => none))
/-- values: an int, a long, a cell's number or null, another value -/
abbrev AV : Type := Int32 ⊕ (Int64 ⊕ (Option Nat ⊕ Value))
abbrev vI (x : Int32) : AV := .inl x
abbrev vJ (x : Int64) : AV := .inr (.inl x)
abbrev vR (o : Option Nat) : AV := .inr (.inr (.inl o))
abbrev vV (v : Value) : AV := .inr (.inr (.inr v))
def rv (B : Nat) : Option Nat → Value
  | none => .null
  | some a => .ref (B + a)
def av (B : Nat) : AV → Value
  | .inl x => .int x
  | .inr (.inl x) => .long x
  | .inr (.inr (.inl o)) => rv B o
  | .inr (.inr (.inr v)) => v
def ac : AV → Nat
  | .inl _ => 1
  | .inr (.inl _) => 2
  | .inr (.inr (.inl _)) => 1
  | .inr (.inr (.inr v)) => v.category
theorem rv_cat (B : Nat) (o : Option Nat) : (rv B o).category = 1 := by cases o <;> rfl
theorem av_cat (B : Nat) (v : AV) : (av B v).category = ac v := by
  rcases v with x | x | o | v
  · rfl
  · rfl
  · exact rv_cat B o
  · rfl
def stV (B : Nat) (st : List AV) : List Value := st.map (av B)
def lsV (B : Nat) (ls : List (Nat × AV)) : List (Nat × Value) := ls.map (fun q => (q.1, av B q.2))
/-- the launch, the law's start with its arguments, the first cell, the classes, the array classes -/
abbrev GX : Type := Launch × State × Array Value × Nat × va_G × (Nat → ClassId)
abbrev MX : Type := Program × Env × State × MethodId × Array Value × List Frame × Method × Code
/-- the world, the method's run, what it answers, (frames, locals' room, locals), the heap at its start -/
abbrev CX (α : Type) : Type := GX × MX × (α → Option Value ⊕ String) × (Nat × Nat × Nat) × AH
def xB (X : GX) : Nat := X.2.2.2.1
/-- the elements of an array of kind k -/
def elV (B : Nat) (h : AH) (a k : Nat) (j : Nat) : Value := if k = 0 then .int (aI h a j) else if k = 1 then .long (aL h a j) else rv B (aR h a j)
/-- the fields of an object of class ci -/
def fiV (B : Nat) (h : AH) (a ci : Nat) (j : Nat) : Value := if (fty ci).getD j true = true then .int (aI h a j) else rv B (aR h a j)
def cAt (X : GX) (h : AH) (a : Nat) (ty : AT) (H : Heap) : Prop := match ty with
  | .inl q => H[X.2.2.2.1 + a]? = some (arrV (X.2.2.2.2.2 q.1) q.2 (elV X.2.2.2.1 h a q.1))
  | .inr ci => ∃ r : vw_C, vwCl[ci]? = some r ∧ t_OB (X.2.2.2.1 + a) (X.2.2.2.2.1.1 ci) r.2.2 (X.2.2.2.2.1.2 ci) H (fiV X.2.2.2.1 h a ci)
/-- the heap H holds h -/
def HP (X : GX) (h : AH) (H : Heap) : Prop := H.size = X.2.2.2.1 + aN h ∧ ∀ (a : Nat) (ty : AT), aT h a = some ty → a < aN h ∧ cAt X h a ty H
def tysG (cA : Nat → ClassId) : List (ClassId × FieldType) := [(cA 0, arT 0), (cA 1, arT 1), (cA 2, arT 2), (cA 3, arT 3)]
/-- the good words of the tables -/
def Tg : List Cond := lw_tbl.filter goodWord
theorem mT {w : Cond} (i : Nat) (h : lw_tbl[i]? = some w) (g : goodWord w = true) : w ∈ Tg := List.mem_filter.mpr ⟨List.mem_of_getElem? h, g⟩
theorem mTs (ws : List Cond) (ps : List Nat) (hp : ws = ps.filterMap (fun i => lw_tbl[i]?)) (h : ws.all goodWord = true) : ∀ w ∈ ws, w ∈ Tg := by
  intro w hw
  have h1 := List.all_eq_true.mp h w hw
  rw [hp] at hw
  obtain ⟨i, -, hi⟩ := List.mem_filterMap.mp hw
  exact mT i hi h1
theorem gT {ws : List Cond} (h : ∀ w ∈ ws, w ∈ Tg) : GoodIn Tg ws := fun w hw => ⟨h w hw, good_of_word (List.mem_filter.mp (h w hw)).2⟩
/-- the heap below the first cell is the law's start's -/
def blw (X : GX) (H : Heap) : Prop := X.2.2.2.1 ≤ H.size ∧ ∀ q : Nat, q < X.2.2.2.1 → H[q]? = X.2.1.heap[q]?
/-- what throwing asks: no stack traces, the strings, Throwable's two statics -/
def XE (X : GX) : Prop := X.1.stackTraces = false ∧ (∀ q ∈ strs, ∃ sa : Nat, vk_R q.1 q.2.1 q.2.2 sa X.2.1) ∧ vx_Zq Bundle.tN "UNASSIGNED_STACK" Bundle.steD (fun q => X.2.2.2.1 ≤ q) X.2.1 X.2.1.heap ∧ vx_Zq Bundle.tN "SUPPRESSED_SENTINEL" Bundle.listD (fun q => X.2.2.2.1 ≤ q) X.2.1 X.2.1.heap ∧ X.2.1.heap.size = X.2.2.2.1 ∧ ∀ q ∈ ncs, va_Nc q.1 q.2 X.2.1
/-- the world's facts -/
def XOK (X : GX) : Prop := (∀ w ∈ lw_tbl, w.before X.2.2.1 X.2.1 = true) ∧ va_K X.2.2.2.2.1 vwCl (tysG X.2.2.2.2.2) X.2.1 ∧ XE X
/-- the run's facts: its class, its code, its answer's type -/
def KOK {α : Type} (K : CX α) (own : String) (cc : ByteArray) (ret : Option FieldType) : Prop :=
  K.2.1.1.tables.exec = Jvm.exec ∧ K.2.1.2.2.2.2.2.2.2.code = cc ∧ K.2.1.2.2.2.2.2.2.2.maxLocals = K.2.2.2.1.2.2 ∧ K.2.1.2.2.1.vm.findClass own = some K.2.1.2.2.2.1.cls ∧ K.1.2.1.WarmedH K.2.1.2.2.1.vm ∧ K.2.1.2.2.2.2.2.2.1.sig.returnType = ret ∧ K.2.1.2.2.2.2.2.2.1.locks = false ∧ (∀ w ∈ lw_tbl, w.before K.1.2.2.1 K.1.2.1 = true) ∧ va_K K.1.2.2.2.2.1 vwCl (tysG K.1.2.2.2.2.2) K.1.2.1 ∧ XE K.1 ∧ blw K.1 K.2.1.2.2.1.heap
/-- the machine at a place of the method, with its world -/
def Wk {α : Type} (K : CX α) (R : Room) (Q : State → Prop) (H : Heap) (locs : List Loc) (ce sl pc : Nat) (lsA : Array Slot) (st : List AV) : Prop :=
  W K.2.1.1 K.1.1 K.2.1.2.1 R K.2.1.2.2.1 K.2.1.2.2.2.1 K.2.1.2.2.2.2.1 K.2.1.2.2.2.2.2.1 K.2.1.2.2.2.2.2.2.1 K.2.1.2.2.2.2.2.2.2 H locs ce sl Q (F0 K.2.1.2.2.2.1 pc lsA (stV K.1.2.2.2.1 st))
/-- what a method's end says -/
def Qf (X : GX) (r : Option Value) (h : AH) : Array Value → State → Outcome → State → Prop := fun _ st o t => o = .returned r ∧ HP X h t.heap ∧ va_F (fun q => X.2.2.2.1 ≤ q) st t
def kR {α : Type} (K : CX α) (h' : AH) : Room := { frames := K.2.2.2.1.1, cells := aN h' - aN K.2.2.2.2, slots := aS h' - aS K.2.2.2.2, locals := K.2.2.2.1.2.1 }
/-- what a method's throw says -/
def Xf (X : GX) (E : String) (h : AH) : String → State → State → Prop := fun E' st t => E' = E ∧ HP X h t.heap ∧ va_F (fun q => X.2.2.2.1 ≤ q) st t
def kQ {α : Type} (K : CX α) (r : α) (h' : AH) : State → Prop := match K.2.2.1 r with
  | .inl v => MQ K.2.1.2.2.2.2.2.1 (Qf K.1 v h') K.2.1.2.2.2.2.1 K.2.1.2.2.1 (aN h' - aN K.2.2.2.2) (aS h' - aS K.2.2.2.2) (fun q => K.1.2.2.2.1 ≤ q)
  | .inr E => vx_MQ K.2.1.2.2.2.2.2.1 (fun _ _ _ _ => False) (Xf K.1 E h') K.2.1.2.2.2.2.1 K.2.1.2.2.1 (aN h' - aN K.2.2.2.2) (aS h' - aS K.2.2.2.2) (fun q => K.1.2.2.2.1 ≤ q)
theorem kQ_inl {α : Type} {K : CX α} {r : α} {h' : AH} {v : Option Value} (e : K.2.2.1 r = .inl v) : kQ K r h' = MQ K.2.1.2.2.2.2.2.1 (Qf K.1 v h') K.2.1.2.2.2.2.1 K.2.1.2.2.1 (aN h' - aN K.2.2.2.2) (aS h' - aS K.2.2.2.2) (fun q => K.1.2.2.2.1 ≤ q) := by
  unfold kQ
  rw [e]
theorem kQ_inr {α : Type} {K : CX α} {r : α} {h' : AH} {E : String} (e : K.2.2.1 r = .inr E) : kQ K r h' = vx_MQ K.2.1.2.2.2.2.2.1 (fun _ _ _ _ => False) (Xf K.1 E h') K.2.1.2.2.2.2.1 K.2.1.2.2.1 (aN h' - aN K.2.2.2.2) (aS h' - aS K.2.2.2.2) (fun q => K.1.2.2.2.1 ≤ q) := by
  unfold kQ
  rw [e]
def aLe (h h' : AH) : Prop := aN h ≤ aN h' ∧ aS h ≤ aS h'
theorem aLe.rf (h : AH) : aLe h h := ⟨Nat.le_refl _, Nat.le_refl _⟩
theorem aLe.tr {a b c : AH} (h : aLe a b) (h2 : aLe b c) : aLe a c := ⟨Nat.le_trans h.1 h2.1, Nat.le_trans h.2 h2.2⟩
/-- from the place pc, with locals ls, stack st, heap h: if o is an answer, the method ends with it -/
def Go {α : Type} (K : CX α) (pc : Nat) (ls : List (Nat × AV)) (st : List AV) (h : AH) (o : Option (α × AH)) : Prop :=
  ∀ (r : α) (h' : AH), o = some (r, h') → aLe h h' ∧ (aLe K.2.2.2.2 h → ∀ (H : Heap) (locs : List Loc) (lsA : Array Slot), HP K.1 h H → va_S (fun q => K.1.2.2.2.1 ≤ q) K.2.1.2.2.1.heap H locs → lv_has lsA K.2.2.2.1.2.2 (lsV K.1.2.2.2.1 ls) → Wk K (kR K h') (kQ K r h') H locs (aN h - aN K.2.2.2.2) (aS h - aS K.2.2.2.2) pc lsA st)
theorem KOK.hts {α : Type} {K : CX α} {own : String} {cc : ByteArray} {ret : Option FieldType} (hK : KOK K own cc ret) : ∀ w ∈ Tg, w.before K.2.1.2.2.2.2.1 K.2.1.2.2.1 = true := fun w hw =>
  word_at hK.2.2.2.2.1 (good_of_word (List.mem_filter.mp hw).2) (hK.2.2.2.2.2.2.2.1 w (List.mem_filter.mp hw).1)
theorem KOK.vk {α : Type} {K : CX α} {own : String} {cc : ByteArray} {ret : Option FieldType} (hK : KOK K own cc ret) : va_K K.1.2.2.2.2.1 vwCl (tysG K.1.2.2.2.2.2) K.2.1.2.2.1 := va_K.moved hK.2.2.2.2.1.alike hK.2.2.2.2.2.2.2.2.1
theorem KOK.blw {α : Type} {K : CX α} {own : String} {cc : ByteArray} {ret : Option FieldType} (hK : KOK K own cc ret) {H : Heap} {locs : List Loc} (hS : va_S (fun q => K.1.2.2.2.1 ≤ q) K.2.1.2.2.1.heap H locs) : blw K.1 H := by
  obtain ⟨b1, b2⟩ := hK.2.2.2.2.2.2.2.2.2.2
  exact ⟨Nat.le_trans b1 hS.1, fun q hq => (hS.2.1 q (Nat.lt_of_lt_of_le hq b1) (Nat.not_le.mpr hq)).trans (b2 q hq)⟩
section STEPS
variable {α : Type} {K : CX α} {own : String} {cc : ByteArray} {ret : Option FieldType} {pc : Nat} {ls : List (Nat × AV)} {st : List AV} {h : AH} {o : Option (α × AH)}
/-- a step that leaves heap and locals -/
theorem go_step {pc' : Nat} {st' : List AV} (k : Go K pc' ls st' h o) (hs : ∀ (R : Room) (Q : State → Prop) (H : Heap) (locs : List Loc) (ce sl : Nat) (lsA : Array Slot), lv_has lsA K.2.2.2.1.2.2 (lsV K.1.2.2.2.1 ls) → Wk K R Q H locs ce sl pc' lsA st' → Wk K R Q H locs ce sl pc lsA st) : Go K pc ls st h o := fun r h' ho =>
  ⟨(k r h' ho).1, fun a H locs lsA hP hS hl => hs _ _ _ _ _ _ _ hl ((k r h' ho).2 a H locs lsA hP hS hl)⟩
/-- a step that sets locals -/
theorem go_stepL {pc' : Nat} {st' : List AV} {ls' : List (Nat × AV)} (k : Go K pc' ls' st' h o) (hs : ∀ (R : Room) (Q : State → Prop) (H : Heap) (locs : List Loc) (ce sl : Nat) (lsA : Array Slot), lv_has lsA K.2.2.2.1.2.2 (lsV K.1.2.2.2.1 ls) → (∀ lsB : Array Slot, lv_has lsB K.2.2.2.1.2.2 (lsV K.1.2.2.2.1 ls') → Wk K R Q H locs ce sl pc' lsB st') → Wk K R Q H locs ce sl pc lsA st) : Go K pc ls st h o := fun r h' ho =>
  ⟨(k r h' ho).1, fun a H locs lsA hP hS hl => hs _ _ _ _ _ _ _ hl (fun lsB hl' => (k r h' ho).2 a H locs lsB hP hS hl')⟩
theorem lsV_at {B : Nat} {k i : Nat} {v : AV} (e : ls[k]? = some (i, v)) : (lsV B ls)[k]? = some (i, av B v) := by
  simp [lsV, List.getElem?_map, e]
/-- fewer locals, in another order -/
theorem go_sub {ls' : List (Nat × AV)} (ps : List Nat) (e : ps.filterMap (fun k => ls[k]?) = ls') (k : Go K pc ls' st h o) : Go K pc ls st h o := fun r h' ho =>
  ⟨(k r h' ho).1, fun a H locs lsA hP hS hl => (k r h' ho).2 a H locs lsA hP hS (lv_sub hl ps (by
    subst e
    unfold lv_pick lsV
    rw [List.map_filterMap]
    congr 1
    funext j
    rw [List.getElem?_map]))⟩
theorem go_iconst (hK : KOK K own cc ret) {n : Int} {v : Int32} (d : decode cc pc = .ok (.iconst n, 1)) (e : Int32.ofInt n = v) (k : Go K (pc + 1) ls (vI v :: st) h o) : Go K pc ls st h o :=
  go_step k (fun _ _ _ _ _ _ _ _ w => lv_iconst hK.1 hK.2.1 d e w)
theorem go_bipush (hK : KOK K own cc ret) {n : Int} {v : Int32} (d : decode cc pc = .ok (.bipush n, 2)) (e : (Int8.ofInt n).toInt32 = v) (k : Go K (pc + 2) ls (vI v :: st) h o) : Go K pc ls st h o :=
  go_step k (fun _ _ _ _ _ _ _ _ w => lv_bipush hK.1 hK.2.1 d e w)
theorem go_sipush (hK : KOK K own cc ret) {n : Int} {v : Int32} (d : decode cc pc = .ok (.sipush n, 3)) (e : (Int16.ofInt n).toInt32 = v) (k : Go K (pc + 3) ls (vI v :: st) h o) : Go K pc ls st h o :=
  go_step k (fun _ _ _ _ _ _ _ _ w => lv_sipush hK.1 hK.2.1 d e w)
theorem go_lconst (hK : KOK K own cc ret) {n : Fin 2} {v : Int64} (d : decode cc pc = .ok (.lconst n, 1)) (e : Int64.ofNat (n : Nat) = v) (k : Go K (pc + 1) ls (vJ v :: st) h o) : Go K pc ls st h o :=
  go_step k (fun _ _ _ _ _ _ _ _ w => lv_lconst hK.1 hK.2.1 d e w)
theorem go_ldc (hK : KOK K own cc ret) {i : Nat} {v : Int32} (w : Cond.constant own i v ∈ Tg) (d : decode cc pc = .ok (.ldc i, 2)) (k : Go K (pc + 2) ls (vI v :: st) h o) : Go K pc ls st h o :=
  go_step k (fun _ _ _ _ _ _ _ _ x => lv_ldc hK.1 hK.2.1 hK.2.2.2.1 (hK.hts _ w) d x)
theorem go_ldcw (hK : KOK K own cc ret) {i : Nat} {v : Int32} (w : Cond.constant own i v ∈ Tg) (d : decode cc pc = .ok (.ldc_w i, 3)) (k : Go K (pc + 3) ls (vI v :: st) h o) : Go K pc ls st h o :=
  go_step k (fun _ _ _ _ _ _ _ _ x => lv_ldcw hK.1 hK.2.1 hK.2.2.2.1 (hK.hts _ w) d x)
theorem go_ldc2 (hK : KOK K own cc ret) {i : Nat} {v : Int64} (w : Cond.constantLong own i v ∈ Tg) (d : decode cc pc = .ok (.ldc2_w i, 3)) (k : Go K (pc + 3) ls (vJ v :: st) h o) : Go K pc ls st h o :=
  go_step k (fun _ _ _ _ _ _ _ _ x => lv_ldc2 hK.1 hK.2.1 hK.2.2.2.1 (hK.hts _ w) d x)
theorem go_null (hK : KOK K own cc ret) (d : decode cc pc = .ok (.aconst_null, 1)) (k : Go K (pc + 1) ls (vR none :: st) h o) : Go K pc ls st h o :=
  go_step k (fun _ _ _ _ _ _ _ _ w => lv_null hK.1 hK.2.1 d w)
theorem go_iload_n (hK : KOK K own cc ret) (j : Nat) {n : Fin 4} {i : Nat} {x : Int32} (d : decode cc pc = .ok (.iload_n n, 1)) (hi : (n : Nat) = i) (e : ls[j]? = some (i, vI x)) (k : Go K (pc + 1) ls (vI x :: st) h o) : Go K pc ls st h o :=
  go_step k (fun _ _ _ _ _ _ _ hl w => lv_iload_n hK.1 hK.2.1 d hi (lv_at hl j (lsV_at e)) w)
theorem go_iload (hK : KOK K own cc ret) (j : Nat) {i : Nat} {x : Int32} (d : decode cc pc = .ok (.iload i, 2)) (e : ls[j]? = some (i, vI x)) (k : Go K (pc + 2) ls (vI x :: st) h o) : Go K pc ls st h o :=
  go_step k (fun _ _ _ _ _ _ _ hl w => lv_iload hK.1 hK.2.1 d (lv_at hl j (lsV_at e)) w)
theorem go_lload_n (hK : KOK K own cc ret) (j : Nat) {n : Fin 4} {i : Nat} {x : Int64} (d : decode cc pc = .ok (.lload_n n, 1)) (hi : (n : Nat) = i) (e : ls[j]? = some (i, vJ x)) (k : Go K (pc + 1) ls (vJ x :: st) h o) : Go K pc ls st h o :=
  go_step k (fun _ _ _ _ _ _ _ hl w => lv_lload_n hK.1 hK.2.1 d hi (lv_at hl j (lsV_at e)) w)
theorem go_lload (hK : KOK K own cc ret) (j : Nat) {i : Nat} {x : Int64} (d : decode cc pc = .ok (.lload i, 2)) (e : ls[j]? = some (i, vJ x)) (k : Go K (pc + 2) ls (vJ x :: st) h o) : Go K pc ls st h o :=
  go_step k (fun _ _ _ _ _ _ _ hl w => lv_lload hK.1 hK.2.1 d (lv_at hl j (lsV_at e)) w)
theorem go_aload_n (hK : KOK K own cc ret) (j : Nat) {n : Fin 4} {i : Nat} {x : Option Nat} (d : decode cc pc = .ok (.aload_n n, 1)) (hi : (n : Nat) = i) (e : ls[j]? = some (i, vR x)) (k : Go K (pc + 1) ls (vR x :: st) h o) : Go K pc ls st h o := by
  cases x with
  | none => exact go_step k (fun _ _ _ _ _ _ _ hl w => lv_aload_nN hK.1 hK.2.1 d hi (lv_at hl j (lsV_at e)) w)
  | some a => exact go_step k (fun _ _ _ _ _ _ _ hl w => lv_aload_n hK.1 hK.2.1 d hi (lv_at hl j (lsV_at e)) w)
theorem go_aload (hK : KOK K own cc ret) (j : Nat) {i : Nat} {x : Option Nat} (d : decode cc pc = .ok (.aload i, 2)) (e : ls[j]? = some (i, vR x)) (k : Go K (pc + 2) ls (vR x :: st) h o) : Go K pc ls st h o := by
  cases x with
  | none => exact go_step k (fun _ _ _ _ _ _ _ hl w => lv_aloadN hK.1 hK.2.1 d (lv_at hl j (lsV_at e)) w)
  | some a => exact go_step k (fun _ _ _ _ _ _ _ hl w => lv_aload hK.1 hK.2.1 d (lv_at hl j (lsV_at e)) w)
end STEPS
