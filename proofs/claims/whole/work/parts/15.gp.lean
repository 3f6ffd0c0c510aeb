/-! THE SAME RULES, FOR ANY RUN OF THE METHOD -/
abbrev PX (α : Type) : Type := GX × (α → Option Value ⊕ String) × (Nat × Nat × Nat) × AH
def mkC {α : Type} (P : PX α) (M : MX) : CX α := (P.1, M, P.2.1, P.2.2.1, P.2.2.2)
def Mono {α : Type} (h : AH) (o : Option (α × AH)) : Prop := ∀ (r : α) (h' : AH), o = some (r, h') → aLe h h'
def Gp {α : Type} (P : PX α) (own mn : String) (cc : ByteArray) (ret : Option FieldType) (pc : Nat) (ls : List (Nat × AV)) (st : List AV) (h : AH) (o : Option (α × AH)) : Prop :=
  Mono h o ∧ ∀ M : MX, KOK (mkC P M) own cc ret → M.2.2.2.2.2.2.1.name = mn → Go (mkC P M) pc ls st h o
theorem mono_if {α : Type} {h : AH} {c : Prop} [Decidable c] {a b : Option (α × AH)} (ha : Mono h a) (hb : Mono h b) : Mono h (if c then a else b) := by
  by_cases hc : c
  · rw [if_pos hc]; exact ha
  · rw [if_neg hc]; exact hb
theorem mono_none {α : Type} {h : AH} : Mono h (none : Option (α × AH)) := fun _ _ e => by cases e
theorem mono_some {α : Type} {h : AH} {r : α} : Mono h (some (r, h)) := fun _ _ e => by cases e; exact aLe.rf h
theorem mono_bind {α β : Type} {h : AH} {o : Option β} {f : β → Option (α × AH)} (k : ∀ x, Mono h (f x)) : Mono h (o.bind f) := by
  cases o with
  | none => exact mono_none
  | some x => exact k x
theorem mono_put {α : Type} {h : AH} {o : Option AH} {f : AH → Option (α × AH)} (ho : ∀ h2, o = some h2 → h2.1 = h.1) (k : ∀ h2, Mono h2 (f h2)) : Mono h (o.bind f) := by
  cases o with
  | none => exact mono_none
  | some h2 => exact fun r h' e => aLe_of (ho h2 rfl) (k h2 r h' e)
theorem mono_bd {α β : Type} {h : AH} {o : Option (β × AH)} {f : β → AH → Option (α × AH)} (ho : Mono h o) (k : ∀ x h2, Mono h2 (f x h2)) : Mono h (bd o f) := by
  cases o with
  | none => exact mono_none
  | some q => exact fun r h' e => (ho q.1 q.2 rfl).tr (k q.1 q.2 r h' e)
theorem pI_1 {h h2 : AH} {o : Option Nat} {fam : List Nat} {k : Nat} {v : Int32} (e : pI h o fam k v = some h2) : h2.1 = h.1 := by obtain ⟨a, ci, -, -, -, rfl⟩ := pI_some e; rfl
theorem pR_1 {h h2 : AH} {o : Option Nat} {fam : List Nat} {k : Nat} {v : Option Nat} (e : pR h o fam k v = some h2) : h2.1 = h.1 := by obtain ⟨a, ci, -, -, -, rfl⟩ := pR_some e; rfl
theorem iS_1 {h h2 : AH} {o : Option Nat} {i v : Int32} (e : iS h o i v = some h2) : h2.1 = h.1 := by obtain ⟨a, ci, -, -, -, rfl⟩ := iS_some e; rfl
theorem jS_1 {h h2 : AH} {o : Option Nat} {i : Int32} {v : Int64} (e : jS h o i v = some h2) : h2.1 = h.1 := by obtain ⟨a, ci, -, -, -, rfl⟩ := jS_some e; rfl
theorem rS_1 {h h2 : AH} {o : Option Nat} {kd : Nat} {fam : List Nat} {i : Int32} {v : Option Nat} (e : rS h o kd fam i v = some h2) : h2.1 = h.1 := by obtain ⟨a, ci, -, -, -, -, rfl⟩ := rS_some e; rfl
theorem mono_nw {h : AH} {ty : AT} {n : Nat} : Mono h (some (some (aN h), nwH h ty n)) := fun _ _ e => by cases e; exact ⟨Nat.le_succ _, Nat.le_add_right _ _⟩
theorem mono_nA {h : AH} {kd : Nat} {n : Int32} : Mono h (nA h kd n) := by
  intro r h' e
  obtain ⟨-, -, q⟩ := nA_some e
  cases q
  exact ⟨Nat.le_succ _, Nat.le_add_right _ _⟩
theorem Gp.at {α : Type} {P : PX α} {own mn : String} {cc : ByteArray} {ret : Option FieldType} {pc : Nat} {ls : List (Nat × AV)} {st : List AV} {h : AH} {o : Option (α × AH)} (k : Gp P own mn cc ret pc ls st h o) (M : MX) (hK : KOK (mkC P M) own cc ret) (hm : M.2.2.2.2.2.2.1.name = mn) : Go (mkC P M) pc ls st h o := k.2 M hK hm
section GP
variable {α : Type} {P : PX α} {own mn : String} {cc : ByteArray} {ret : Option FieldType} {pc : Nat} {ls : List (Nat × AV)} {st : List AV} {h : AH} {o : Option (α × AH)}
theorem g_sub {ls' : List (Nat × AV)} (ps : List Nat) (e : ps.filterMap (fun k => ls[k]?) = ls') (k :  Gp P own mn cc ret pc ls' st h o) : Gp P own mn cc ret pc ls st h o :=
  ⟨k.1, fun M hK hm => go_sub (K := mkC P M) ps e (k.at M hK hm)⟩
theorem g_iconst {n : Int} {v : Int32} (d : decode cc pc = .ok (.iconst n, 1)) (e : Int32.ofInt n = v) (k :  Gp P own mn cc ret (pc + 1) ls (vI v :: st) h o) : Gp P own mn cc ret pc ls st h o :=
  ⟨k.1, fun M hK hm => go_iconst (K := mkC P M) hK d e (k.at M hK hm)⟩
theorem g_bipush {n : Int} {v : Int32} (d : decode cc pc = .ok (.bipush n, 2)) (e : (Int8.ofInt n).toInt32 = v) (k :  Gp P own mn cc ret (pc + 2) ls (vI v :: st) h o) : Gp P own mn cc ret pc ls st h o :=
  ⟨k.1, fun M hK hm => go_bipush (K := mkC P M) hK d e (k.at M hK hm)⟩
theorem g_sipush {n : Int} {v : Int32} (d : decode cc pc = .ok (.sipush n, 3)) (e : (Int16.ofInt n).toInt32 = v) (k :  Gp P own mn cc ret (pc + 3) ls (vI v :: st) h o) : Gp P own mn cc ret pc ls st h o :=
  ⟨k.1, fun M hK hm => go_sipush (K := mkC P M) hK d e (k.at M hK hm)⟩
theorem g_lconst {n : Fin 2} {v : Int64} (d : decode cc pc = .ok (.lconst n, 1)) (e : Int64.ofNat (n : Nat) = v) (k :  Gp P own mn cc ret (pc + 1) ls (vJ v :: st) h o) : Gp P own mn cc ret pc ls st h o :=
  ⟨k.1, fun M hK hm => go_lconst (K := mkC P M) hK d e (k.at M hK hm)⟩
theorem g_ldc {i : Nat} {v : Int32} (w : Cond.constant own i v ∈ Tg) (d : decode cc pc = .ok (.ldc i, 2)) (k :  Gp P own mn cc ret (pc + 2) ls (vI v :: st) h o) : Gp P own mn cc ret pc ls st h o :=
  ⟨k.1, fun M hK hm => go_ldc (K := mkC P M) hK w d (k.at M hK hm)⟩
theorem g_ldcw {i : Nat} {v : Int32} (w : Cond.constant own i v ∈ Tg) (d : decode cc pc = .ok (.ldc_w i, 3)) (k :  Gp P own mn cc ret (pc + 3) ls (vI v :: st) h o) : Gp P own mn cc ret pc ls st h o :=
  ⟨k.1, fun M hK hm => go_ldcw (K := mkC P M) hK w d (k.at M hK hm)⟩
theorem g_ldc2 {i : Nat} {v : Int64} (w : Cond.constantLong own i v ∈ Tg) (d : decode cc pc = .ok (.ldc2_w i, 3)) (k :  Gp P own mn cc ret (pc + 3) ls (vJ v :: st) h o) : Gp P own mn cc ret pc ls st h o :=
  ⟨k.1, fun M hK hm => go_ldc2 (K := mkC P M) hK w d (k.at M hK hm)⟩
theorem g_null (d : decode cc pc = .ok (.aconst_null, 1)) (k :  Gp P own mn cc ret (pc + 1) ls (vR none :: st) h o) : Gp P own mn cc ret pc ls st h o :=
  ⟨k.1, fun M hK hm => go_null (K := mkC P M) hK d (k.at M hK hm)⟩
theorem g_iload_n (j : Nat) {n : Fin 4} {i : Nat} {x : Int32} (d : decode cc pc = .ok (.iload_n n, 1)) (hi : (n : Nat) = i) (e : ls[j]? = some (i, vI x)) (k :  Gp P own mn cc ret (pc + 1) ls (vI x :: st) h o) : Gp P own mn cc ret pc ls st h o :=
  ⟨k.1, fun M hK hm => go_iload_n (K := mkC P M) hK j d hi e (k.at M hK hm)⟩
theorem g_iload (j : Nat) {i : Nat} {x : Int32} (d : decode cc pc = .ok (.iload i, 2)) (e : ls[j]? = some (i, vI x)) (k :  Gp P own mn cc ret (pc + 2) ls (vI x :: st) h o) : Gp P own mn cc ret pc ls st h o :=
  ⟨k.1, fun M hK hm => go_iload (K := mkC P M) hK j d e (k.at M hK hm)⟩
theorem g_lload_n (j : Nat) {n : Fin 4} {i : Nat} {x : Int64} (d : decode cc pc = .ok (.lload_n n, 1)) (hi : (n : Nat) = i) (e : ls[j]? = some (i, vJ x)) (k :  Gp P own mn cc ret (pc + 1) ls (vJ x :: st) h o) : Gp P own mn cc ret pc ls st h o :=
  ⟨k.1, fun M hK hm => go_lload_n (K := mkC P M) hK j d hi e (k.at M hK hm)⟩
theorem g_lload (j : Nat) {i : Nat} {x : Int64} (d : decode cc pc = .ok (.lload i, 2)) (e : ls[j]? = some (i, vJ x)) (k :  Gp P own mn cc ret (pc + 2) ls (vJ x :: st) h o) : Gp P own mn cc ret pc ls st h o :=
  ⟨k.1, fun M hK hm => go_lload (K := mkC P M) hK j d e (k.at M hK hm)⟩
theorem g_aload_n (j : Nat) {n : Fin 4} {i : Nat} {x : Option Nat} (d : decode cc pc = .ok (.aload_n n, 1)) (hi : (n : Nat) = i) (e : ls[j]? = some (i, vR x)) (k :  Gp P own mn cc ret (pc + 1) ls (vR x :: st) h o) : Gp P own mn cc ret pc ls st h o :=
  ⟨k.1, fun M hK hm => go_aload_n (K := mkC P M) hK j d hi e (k.at M hK hm)⟩
theorem g_aload (j : Nat) {i : Nat} {x : Option Nat} (d : decode cc pc = .ok (.aload i, 2)) (e : ls[j]? = some (i, vR x)) (k :  Gp P own mn cc ret (pc + 2) ls (vR x :: st) h o) : Gp P own mn cc ret pc ls st h o :=
  ⟨k.1, fun M hK hm => go_aload (K := mkC P M) hK j d e (k.at M hK hm)⟩
theorem g_istore_n {n : Fin 4} {i : Nat} {x : Int32} {ls' : List (Nat × AV)} (d : decode cc pc = .ok (.istore_n n, 1)) (hi : (n : Nat) = i) (hn : i < P.2.2.1.2.2) (e : (i, vI x) :: ls.filter (fun q => !(q.1 == i) && !(q.1 + 1 == i && ac q.2 == 2)) = ls') (k :  Gp P own mn cc ret (pc + 1) ls' st h o) : Gp P own mn cc ret pc ls (vI x :: st) h o :=
  ⟨k.1, fun M hK hm => go_istore_n (K := mkC P M) hK d hi hn e (k.at M hK hm)⟩
theorem g_istore {i : Nat} {x : Int32} {ls' : List (Nat × AV)} (d : decode cc pc = .ok (.istore i, 2)) (hn : i < P.2.2.1.2.2) (e : (i, vI x) :: ls.filter (fun q => !(q.1 == i) && !(q.1 + 1 == i && ac q.2 == 2)) = ls') (k :  Gp P own mn cc ret (pc + 2) ls' st h o) : Gp P own mn cc ret pc ls (vI x :: st) h o :=
  ⟨k.1, fun M hK hm => go_istore (K := mkC P M) hK d hn e (k.at M hK hm)⟩
theorem g_lstore_n {n : Fin 4} {i : Nat} {x : Int64} {ls' : List (Nat × AV)} (d : decode cc pc = .ok (.lstore_n n, 1)) (hi : (n : Nat) = i) (hn : i + 1 < P.2.2.1.2.2) (e : (i, vJ x) :: ls.filter (fun q => !(q.1 == i) && (!(q.1 == i + 1) && !(q.1 + 1 == i && ac q.2 == 2))) = ls') (k :  Gp P own mn cc ret (pc + 1) ls' st h o) : Gp P own mn cc ret pc ls (vJ x :: st) h o :=
  ⟨k.1, fun M hK hm => go_lstore_n (K := mkC P M) hK d hi hn e (k.at M hK hm)⟩
theorem g_lstore {i : Nat} {x : Int64} {ls' : List (Nat × AV)} (d : decode cc pc = .ok (.lstore i, 2)) (hn : i + 1 < P.2.2.1.2.2) (e : (i, vJ x) :: ls.filter (fun q => !(q.1 == i) && (!(q.1 == i + 1) && !(q.1 + 1 == i && ac q.2 == 2))) = ls') (k :  Gp P own mn cc ret (pc + 2) ls' st h o) : Gp P own mn cc ret pc ls (vJ x :: st) h o :=
  ⟨k.1, fun M hK hm => go_lstore (K := mkC P M) hK d hn e (k.at M hK hm)⟩
theorem g_astore_n {n : Fin 4} {i : Nat} {x : Option Nat} {ls' : List (Nat × AV)} (d : decode cc pc = .ok (.astore_n n, 1)) (hi : (n : Nat) = i) (hn : i < P.2.2.1.2.2) (e : (i, vR x) :: ls.filter (fun q => !(q.1 == i) && !(q.1 + 1 == i && ac q.2 == 2)) = ls') (k :  Gp P own mn cc ret (pc + 1) ls' st h o) : Gp P own mn cc ret pc ls (vR x :: st) h o :=
  ⟨k.1, fun M hK hm => go_astore_n (K := mkC P M) hK d hi hn e (k.at M hK hm)⟩
theorem g_astore {i : Nat} {x : Option Nat} {ls' : List (Nat × AV)} (d : decode cc pc = .ok (.astore i, 2)) (hn : i < P.2.2.1.2.2) (e : (i, vR x) :: ls.filter (fun q => !(q.1 == i) && !(q.1 + 1 == i && ac q.2 == 2)) = ls') (k :  Gp P own mn cc ret (pc + 2) ls' st h o) : Gp P own mn cc ret pc ls (vR x :: st) h o :=
  ⟨k.1, fun M hK hm => go_astore (K := mkC P M) hK d hn e (k.at M hK hm)⟩
theorem g_iinc (j : Nat) {i : Nat} {n : Int} {x v : Int32} {ls' : List (Nat × AV)} (d : decode cc pc = .ok (.iinc i n, 3)) (e : ls[j]? = some (i, vI x)) (hv : x + Int32.ofInt n = v) (hn : i < P.2.2.1.2.2) (e2 : (i, vI v) :: ls.filter (fun q => !(q.1 == i) && !(q.1 + 1 == i && ac q.2 == 2)) = ls') (k :  Gp P own mn cc ret (pc + 3) ls' st h o) : Gp P own mn cc ret pc ls st h o :=
  ⟨k.1, fun M hK hm => go_iinc (K := mkC P M) hK j d e hv hn e2 (k.at M hK hm)⟩
theorem g_iadd {x y : Int32} (d : decode cc pc = .ok (.iadd, 1)) (k :  Gp P own mn cc ret (pc + 1) ls (vI (x + y) :: st) h o) : Gp P own mn cc ret pc ls (vI y :: vI x :: st) h o :=
  ⟨k.1, fun M hK hm => go_iadd (K := mkC P M) hK d (k.at M hK hm)⟩
theorem g_isub {x y : Int32} (d : decode cc pc = .ok (.isub, 1)) (k :  Gp P own mn cc ret (pc + 1) ls (vI (x - y) :: st) h o) : Gp P own mn cc ret pc ls (vI y :: vI x :: st) h o :=
  ⟨k.1, fun M hK hm => go_isub (K := mkC P M) hK d (k.at M hK hm)⟩
theorem g_imul {x y : Int32} (d : decode cc pc = .ok (.imul, 1)) (k :  Gp P own mn cc ret (pc + 1) ls (vI (x * y) :: st) h o) : Gp P own mn cc ret pc ls (vI y :: vI x :: st) h o :=
  ⟨k.1, fun M hK hm => go_imul (K := mkC P M) hK d (k.at M hK hm)⟩
theorem g_iand {x y : Int32} (d : decode cc pc = .ok (.iand, 1)) (k :  Gp P own mn cc ret (pc + 1) ls (vI (x &&& y) :: st) h o) : Gp P own mn cc ret pc ls (vI y :: vI x :: st) h o :=
  ⟨k.1, fun M hK hm => go_iand (K := mkC P M) hK d (k.at M hK hm)⟩
theorem g_ior {x y : Int32} (d : decode cc pc = .ok (.ior, 1)) (k :  Gp P own mn cc ret (pc + 1) ls (vI (x ||| y) :: st) h o) : Gp P own mn cc ret pc ls (vI y :: vI x :: st) h o :=
  ⟨k.1, fun M hK hm => go_ior (K := mkC P M) hK d (k.at M hK hm)⟩
theorem g_ixor {x y : Int32} (d : decode cc pc = .ok (.ixor, 1)) (k :  Gp P own mn cc ret (pc + 1) ls (vI (x ^^^ y) :: st) h o) : Gp P own mn cc ret pc ls (vI y :: vI x :: st) h o :=
  ⟨k.1, fun M hK hm => go_ixor (K := mkC P M) hK d (k.at M hK hm)⟩
theorem g_ishl {x y : Int32} (d : decode cc pc = .ok (.ishl, 1)) (k :  Gp P own mn cc ret (pc + 1) ls (vI (x <<< (y &&& 31)) :: st) h o) : Gp P own mn cc ret pc ls (vI y :: vI x :: st) h o :=
  ⟨k.1, fun M hK hm => go_ishl (K := mkC P M) hK d (k.at M hK hm)⟩
theorem g_ishr {x y : Int32} (d : decode cc pc = .ok (.ishr, 1)) (k :  Gp P own mn cc ret (pc + 1) ls (vI (x >>> (y &&& 31)) :: st) h o) : Gp P own mn cc ret pc ls (vI y :: vI x :: st) h o :=
  ⟨k.1, fun M hK hm => go_ishr (K := mkC P M) hK d (k.at M hK hm)⟩
theorem g_iushr {x y : Int32} (d : decode cc pc = .ok (.iushr, 1)) (k :  Gp P own mn cc ret (pc + 1) ls (vI ((x.toUInt32 >>> (y.toUInt32 &&& Int32.toUInt32 31)).toInt32) :: st) h o) : Gp P own mn cc ret pc ls (vI y :: vI x :: st) h o :=
  ⟨k.1, fun M hK hm => go_iushr (K := mkC P M) hK d (k.at M hK hm)⟩
theorem g_idivK {x y : Int32} (d : decode cc pc = .ok (.idiv, 1)) (hy : ¬ y = 0) (k :  Gp P own mn cc ret (pc + 1) ls (vI (x / y) :: st) h o) : Gp P own mn cc ret pc ls (vI y :: vI x :: st) h o :=
  ⟨k.1, fun M hK hm => go_idivK (K := mkC P M) hK d hy (k.at M hK hm)⟩
theorem g_idiv {x y : Int32} (d : decode cc pc = .ok (.idiv, 1)) (k :  Gp P own mn cc ret (pc + 1) ls (vI (x / y) :: st) h o) : Gp P own mn cc ret pc ls (vI y :: vI x :: st) h (if y = 0 then none else o) :=
  ⟨mono_if mono_none k.1, fun M hK hm => go_idiv (K := mkC P M) hK d (k.at M hK hm)⟩
theorem g_iremK {x y : Int32} (d : decode cc pc = .ok (.irem, 1)) (hy : ¬ y = 0) (k :  Gp P own mn cc ret (pc + 1) ls (vI (x - x / y * y) :: st) h o) : Gp P own mn cc ret pc ls (vI y :: vI x :: st) h o :=
  ⟨k.1, fun M hK hm => go_iremK (K := mkC P M) hK d hy (k.at M hK hm)⟩
theorem g_irem {x y : Int32} (d : decode cc pc = .ok (.irem, 1)) (k :  Gp P own mn cc ret (pc + 1) ls (vI (x - x / y * y) :: st) h o) : Gp P own mn cc ret pc ls (vI y :: vI x :: st) h (if y = 0 then none else o) :=
  ⟨mono_if mono_none k.1, fun M hK hm => go_irem (K := mkC P M) hK d (k.at M hK hm)⟩
theorem g_ldivK {x y : Int64} (d : decode cc pc = .ok (.ldiv, 1)) (hy : ¬ y = 0) (k :  Gp P own mn cc ret (pc + 1) ls (vJ (x / y) :: st) h o) : Gp P own mn cc ret pc ls (vJ y :: vJ x :: st) h o :=
  ⟨k.1, fun M hK hm => go_ldivK (K := mkC P M) hK d hy (k.at M hK hm)⟩
theorem g_ldiv {x y : Int64} (d : decode cc pc = .ok (.ldiv, 1)) (k :  Gp P own mn cc ret (pc + 1) ls (vJ (x / y) :: st) h o) : Gp P own mn cc ret pc ls (vJ y :: vJ x :: st) h (if y = 0 then none else o) :=
  ⟨mono_if mono_none k.1, fun M hK hm => go_ldiv (K := mkC P M) hK d (k.at M hK hm)⟩
theorem g_lremK {x y : Int64} (d : decode cc pc = .ok (.lrem, 1)) (hy : ¬ y = 0) (k :  Gp P own mn cc ret (pc + 1) ls (vJ (x - x / y * y) :: st) h o) : Gp P own mn cc ret pc ls (vJ y :: vJ x :: st) h o :=
  ⟨k.1, fun M hK hm => go_lremK (K := mkC P M) hK d hy (k.at M hK hm)⟩
theorem g_lrem {x y : Int64} (d : decode cc pc = .ok (.lrem, 1)) (k :  Gp P own mn cc ret (pc + 1) ls (vJ (x - x / y * y) :: st) h o) : Gp P own mn cc ret pc ls (vJ y :: vJ x :: st) h (if y = 0 then none else o) :=
  ⟨mono_if mono_none k.1, fun M hK hm => go_lrem (K := mkC P M) hK d (k.at M hK hm)⟩
theorem g_ladd {x y : Int64} (d : decode cc pc = .ok (.ladd, 1)) (k :  Gp P own mn cc ret (pc + 1) ls (vJ (x + y) :: st) h o) : Gp P own mn cc ret pc ls (vJ y :: vJ x :: st) h o :=
  ⟨k.1, fun M hK hm => go_ladd (K := mkC P M) hK d (k.at M hK hm)⟩
theorem g_lmul {x y : Int64} (d : decode cc pc = .ok (.lmul, 1)) (k :  Gp P own mn cc ret (pc + 1) ls (vJ (x * y) :: st) h o) : Gp P own mn cc ret pc ls (vJ y :: vJ x :: st) h o :=
  ⟨k.1, fun M hK hm => go_lmul (K := mkC P M) hK d (k.at M hK hm)⟩
theorem g_lneg {x : Int64} (d : decode cc pc = .ok (.lneg, 1)) (k :  Gp P own mn cc ret (pc + 1) ls (vJ (-x) :: st) h o) : Gp P own mn cc ret pc ls (vJ x :: st) h o :=
  ⟨k.1, fun M hK hm => go_lneg (K := mkC P M) hK d (k.at M hK hm)⟩
theorem g_lcmp {x y : Int64} (d : decode cc pc = .ok (.lcmp, 1)) (k :  Gp P own mn cc ret (pc + 1) ls (vI (lg_cmp x y) :: st) h o) : Gp P own mn cc ret pc ls (vJ y :: vJ x :: st) h o :=
  ⟨k.1, fun M hK hm => go_lcmp (K := mkC P M) hK d (k.at M hK hm)⟩
theorem g_i2l {x : Int32} (d : decode cc pc = .ok (.i2l, 1)) (k :  Gp P own mn cc ret (pc + 1) ls (vJ (x.toInt64) :: st) h o) : Gp P own mn cc ret pc ls (vI x :: st) h o :=
  ⟨k.1, fun M hK hm => go_i2l (K := mkC P M) hK d (k.at M hK hm)⟩
theorem g_i2b {x : Int32} (d : decode cc pc = .ok (.i2b, 1)) (k :  Gp P own mn cc ret (pc + 1) ls (vI (x.toInt8.toInt32) :: st) h o) : Gp P own mn cc ret pc ls (vI x :: st) h o :=
  ⟨k.1, fun M hK hm => go_i2b (K := mkC P M) hK d (k.at M hK hm)⟩
theorem g_i2s {x : Int32} (d : decode cc pc = .ok (.i2s, 1)) (k :  Gp P own mn cc ret (pc + 1) ls (vI (x.toInt16.toInt32) :: st) h o) : Gp P own mn cc ret pc ls (vI x :: st) h o :=
  ⟨k.1, fun M hK hm => go_i2s (K := mkC P M) hK d (k.at M hK hm)⟩
theorem g_dup {v : AV} (d : decode cc pc = .ok (.dup, 1)) (e : ac v = 1) (k :  Gp P own mn cc ret (pc + 1) ls (v :: v :: st) h o) : Gp P own mn cc ret pc ls (v :: st) h o :=
  ⟨k.1, fun M hK hm => go_dup (K := mkC P M) hK d e (k.at M hK hm)⟩
theorem g_dup2 {v u : AV} (d : decode cc pc = .ok (.dup2, 1)) (e : ac v = 1) (e2 : ac u = 1) (k :  Gp P own mn cc ret (pc + 1) ls (v :: u :: v :: u :: st) h o) : Gp P own mn cc ret pc ls (v :: u :: st) h o :=
  ⟨k.1, fun M hK hm => go_dup2 (K := mkC P M) hK d e e2 (k.at M hK hm)⟩
theorem g_goto {off : Int} {tgt : Nat} (d : decode cc pc = .ok (.goto off, 3)) (t : (pc : Int) + off = (tgt : Int)) (k :  Gp P own mn cc ret tgt ls st h o) : Gp P own mn cc ret pc ls st h o :=
  ⟨k.1, fun M hK hm => go_goto (K := mkC P M) hK d t (k.at M hK hm)⟩
theorem g_ifeq {x : Int32} {off : Int} {tgt : Nat} {oa ob : Option (α × AH)} (d : decode cc pc = .ok (.ifCond .eq off, 3)) (t : (pc : Int) + off = (tgt : Int)) (kt :  Gp P own mn cc ret tgt ls st h oa) (kf :  Gp P own mn cc ret (pc + 3) ls st h ob) : Gp P own mn cc ret pc ls (vI x :: st) h (if x = 0 then oa else ob) :=
  ⟨mono_if kt.1 kf.1, fun M hK hm => go_ifeq (K := mkC P M) hK d t (kt.at M hK hm) (kf.at M hK hm)⟩
theorem g_icmpeq {x y : Int32} {off : Int} {tgt : Nat} {oa ob : Option (α × AH)} (d : decode cc pc = .ok (.if_icmp .eq off, 3)) (t : (pc : Int) + off = (tgt : Int)) (kt :  Gp P own mn cc ret tgt ls st h oa) (kf :  Gp P own mn cc ret (pc + 3) ls st h ob) : Gp P own mn cc ret pc ls (vI y :: vI x :: st) h (if x = y then oa else ob) :=
  ⟨mono_if kt.1 kf.1, fun M hK hm => go_icmpeq (K := mkC P M) hK d t (kt.at M hK hm) (kf.at M hK hm)⟩
theorem g_ifne {x : Int32} {off : Int} {tgt : Nat} {oa ob : Option (α × AH)} (d : decode cc pc = .ok (.ifCond .ne off, 3)) (t : (pc : Int) + off = (tgt : Int)) (kt :  Gp P own mn cc ret tgt ls st h oa) (kf :  Gp P own mn cc ret (pc + 3) ls st h ob) : Gp P own mn cc ret pc ls (vI x :: st) h (if x = 0 then ob else oa) :=
  ⟨mono_if kf.1 kt.1, fun M hK hm => go_ifne (K := mkC P M) hK d t (kt.at M hK hm) (kf.at M hK hm)⟩
theorem g_icmpne {x y : Int32} {off : Int} {tgt : Nat} {oa ob : Option (α × AH)} (d : decode cc pc = .ok (.if_icmp .ne off, 3)) (t : (pc : Int) + off = (tgt : Int)) (kt :  Gp P own mn cc ret tgt ls st h oa) (kf :  Gp P own mn cc ret (pc + 3) ls st h ob) : Gp P own mn cc ret pc ls (vI y :: vI x :: st) h (if x = y then ob else oa) :=
  ⟨mono_if kf.1 kt.1, fun M hK hm => go_icmpne (K := mkC P M) hK d t (kt.at M hK hm) (kf.at M hK hm)⟩
theorem g_iflt {x : Int32} {off : Int} {tgt : Nat} {oa ob : Option (α × AH)} (d : decode cc pc = .ok (.ifCond .lt off, 3)) (t : (pc : Int) + off = (tgt : Int)) (kt :  Gp P own mn cc ret tgt ls st h oa) (kf :  Gp P own mn cc ret (pc + 3) ls st h ob) : Gp P own mn cc ret pc ls (vI x :: st) h (if x < 0 then oa else ob) :=
  ⟨mono_if kt.1 kf.1, fun M hK hm => go_iflt (K := mkC P M) hK d t (kt.at M hK hm) (kf.at M hK hm)⟩
theorem g_icmplt {x y : Int32} {off : Int} {tgt : Nat} {oa ob : Option (α × AH)} (d : decode cc pc = .ok (.if_icmp .lt off, 3)) (t : (pc : Int) + off = (tgt : Int)) (kt :  Gp P own mn cc ret tgt ls st h oa) (kf :  Gp P own mn cc ret (pc + 3) ls st h ob) : Gp P own mn cc ret pc ls (vI y :: vI x :: st) h (if x < y then oa else ob) :=
  ⟨mono_if kt.1 kf.1, fun M hK hm => go_icmplt (K := mkC P M) hK d t (kt.at M hK hm) (kf.at M hK hm)⟩
theorem g_ifge {x : Int32} {off : Int} {tgt : Nat} {oa ob : Option (α × AH)} (d : decode cc pc = .ok (.ifCond .ge off, 3)) (t : (pc : Int) + off = (tgt : Int)) (kt :  Gp P own mn cc ret tgt ls st h oa) (kf :  Gp P own mn cc ret (pc + 3) ls st h ob) : Gp P own mn cc ret pc ls (vI x :: st) h (if 0 ≤ x then oa else ob) :=
  ⟨mono_if kt.1 kf.1, fun M hK hm => go_ifge (K := mkC P M) hK d t (kt.at M hK hm) (kf.at M hK hm)⟩
theorem g_icmpge {x y : Int32} {off : Int} {tgt : Nat} {oa ob : Option (α × AH)} (d : decode cc pc = .ok (.if_icmp .ge off, 3)) (t : (pc : Int) + off = (tgt : Int)) (kt :  Gp P own mn cc ret tgt ls st h oa) (kf :  Gp P own mn cc ret (pc + 3) ls st h ob) : Gp P own mn cc ret pc ls (vI y :: vI x :: st) h (if y ≤ x then oa else ob) :=
  ⟨mono_if kt.1 kf.1, fun M hK hm => go_icmpge (K := mkC P M) hK d t (kt.at M hK hm) (kf.at M hK hm)⟩
theorem g_ifgt {x : Int32} {off : Int} {tgt : Nat} {oa ob : Option (α × AH)} (d : decode cc pc = .ok (.ifCond .gt off, 3)) (t : (pc : Int) + off = (tgt : Int)) (kt :  Gp P own mn cc ret tgt ls st h oa) (kf :  Gp P own mn cc ret (pc + 3) ls st h ob) : Gp P own mn cc ret pc ls (vI x :: st) h (if 0 < x then oa else ob) :=
  ⟨mono_if kt.1 kf.1, fun M hK hm => go_ifgt (K := mkC P M) hK d t (kt.at M hK hm) (kf.at M hK hm)⟩
theorem g_icmpgt {x y : Int32} {off : Int} {tgt : Nat} {oa ob : Option (α × AH)} (d : decode cc pc = .ok (.if_icmp .gt off, 3)) (t : (pc : Int) + off = (tgt : Int)) (kt :  Gp P own mn cc ret tgt ls st h oa) (kf :  Gp P own mn cc ret (pc + 3) ls st h ob) : Gp P own mn cc ret pc ls (vI y :: vI x :: st) h (if y < x then oa else ob) :=
  ⟨mono_if kt.1 kf.1, fun M hK hm => go_icmpgt (K := mkC P M) hK d t (kt.at M hK hm) (kf.at M hK hm)⟩
theorem g_ifle {x : Int32} {off : Int} {tgt : Nat} {oa ob : Option (α × AH)} (d : decode cc pc = .ok (.ifCond .le off, 3)) (t : (pc : Int) + off = (tgt : Int)) (kt :  Gp P own mn cc ret tgt ls st h oa) (kf :  Gp P own mn cc ret (pc + 3) ls st h ob) : Gp P own mn cc ret pc ls (vI x :: st) h (if x ≤ 0 then oa else ob) :=
  ⟨mono_if kt.1 kf.1, fun M hK hm => go_ifle (K := mkC P M) hK d t (kt.at M hK hm) (kf.at M hK hm)⟩
theorem g_icmple {x y : Int32} {off : Int} {tgt : Nat} {oa ob : Option (α × AH)} (d : decode cc pc = .ok (.if_icmp .le off, 3)) (t : (pc : Int) + off = (tgt : Int)) (kt :  Gp P own mn cc ret tgt ls st h oa) (kf :  Gp P own mn cc ret (pc + 3) ls st h ob) : Gp P own mn cc ret pc ls (vI y :: vI x :: st) h (if x ≤ y then oa else ob) :=
  ⟨mono_if kt.1 kf.1, fun M hK hm => go_icmple (K := mkC P M) hK d t (kt.at M hK hm) (kf.at M hK hm)⟩
theorem g_ifnull {x : Option Nat} {off : Int} {tgt : Nat} {oa ob : Option (α × AH)} (d : decode cc pc = .ok (.ifnull off, 3)) (t : (pc : Int) + off = (tgt : Int)) (kt :  Gp P own mn cc ret tgt ls st h oa) (kf :  Gp P own mn cc ret (pc + 3) ls st h ob) : Gp P own mn cc ret pc ls (vR x :: st) h (if x = none then oa else ob) :=
  ⟨mono_if kt.1 kf.1, fun M hK hm => go_ifnull (K := mkC P M) hK d t (kt.at M hK hm) (kf.at M hK hm)⟩
theorem g_ifnonnull {x : Option Nat} {off : Int} {tgt : Nat} {oa ob : Option (α × AH)} (d : decode cc pc = .ok (.ifnonnull off, 3)) (t : (pc : Int) + off = (tgt : Int)) (kt :  Gp P own mn cc ret tgt ls st h oa) (kf :  Gp P own mn cc ret (pc + 3) ls st h ob) : Gp P own mn cc ret pc ls (vR x :: st) h (if x = none then ob else oa) :=
  ⟨mono_if kf.1 kt.1, fun M hK hm => go_ifnonnull (K := mkC P M) hK d t (kt.at M hK hm) (kf.at M hK hm)⟩
theorem g_tsIn {dflt lo hi off : Int} {offs : Array Int} {len tgt : Nat} {x c : Int32} {oa ob : Option (α × AH)} (d : decode cc pc = .ok (.tableswitch dflt lo hi offs, len)) (h1 : ¬ c.toInt < lo) (h2 : ¬ hi < c.toInt) (ho : offs[(c.toInt - lo).toNat]? = some off) (t : (pc : Int) + off = (tgt : Int)) (kt :  Gp P own mn cc ret tgt ls st h oa) (kf : ¬ x = c → Gp P own mn cc ret pc ls (vI x :: st) h ob) : Gp P own mn cc ret pc ls (vI x :: st) h (if x = c then oa else ob) :=
  ⟨fun r h' e => by
    by_cases z : x = c
    · rw [if_pos z] at e; exact kt.1 r h' e
    · rw [if_neg z] at e; exact (kf z).1 r h' e, fun M hK hm => go_tsIn (K := mkC P M) hK d h1 h2 ho t (kt.at M hK hm) (fun z => (kf z).at M hK hm)⟩
theorem g_tsOut {dflt lo hi : Int} {offs : Array Int} {len tgt : Nat} {x : Int32} (d : decode cc pc = .ok (.tableswitch dflt lo hi offs, len)) (hx : x.toInt < lo ∨ hi < x.toInt) (t : (pc : Int) + dflt = (tgt : Int)) (k :  Gp P own mn cc ret tgt ls st h o) : Gp P own mn cc ret pc ls (vI x :: st) h o :=
  ⟨k.1, fun M hK hm => go_tsOut (K := mkC P M) hK d hx t (k.at M hK hm)⟩
theorem g_lsIn {dflt off : Int} {ps : Array (Int × Int)} {len tgt : Nat} {x c : Int32} {oa ob : Option (α × AH)} (d : decode cc pc = .ok (.lookupswitch dflt ps, len)) (hp : (ps.toList.zip (ps.toList.drop 1)).all (fun (a, next) => a.1 < next.1) = true) (ho : Op.lookupswitch.offset ps.toList dflt c.toInt = off) (t : (pc : Int) + off = (tgt : Int)) (kt :  Gp P own mn cc ret tgt ls st h oa) (kf : ¬ x = c → Gp P own mn cc ret pc ls (vI x :: st) h ob) : Gp P own mn cc ret pc ls (vI x :: st) h (if x = c then oa else ob) :=
  ⟨fun r h' e => by
    by_cases z : x = c
    · rw [if_pos z] at e; exact kt.1 r h' e
    · rw [if_neg z] at e; exact (kf z).1 r h' e, fun M hK hm => go_lsIn (K := mkC P M) hK d hp ho t (kt.at M hK hm) (fun z => (kf z).at M hK hm)⟩
theorem g_lsOut {dflt : Int} {ps : Array (Int × Int)} {len tgt : Nat} {x : Int32} (d : decode cc pc = .ok (.lookupswitch dflt ps, len)) (hp : (ps.toList.zip (ps.toList.drop 1)).all (fun (a, next) => a.1 < next.1) = true) (ho : Op.lookupswitch.offset ps.toList dflt x.toInt = dflt) (t : (pc : Int) + dflt = (tgt : Int)) (k :  Gp P own mn cc ret tgt ls st h o) : Gp P own mn cc ret pc ls (vI x :: st) h o :=
  ⟨k.1, fun M hK hm => go_lsOut (K := mkC P M) hK d hp ho t (k.at M hK hm)⟩
theorem g_nmI {x : Int32} {f : Int32 → Option (α × AH)} (k : ∀ y : Int32, Gp P own mn cc ret pc ls (vI y :: st) h (f y)) : Gp P own mn cc ret pc ls (vI x :: st) h (nm x f) :=
  ⟨(k x).1, fun M hK hm => go_nmI (K := mkC P M) (fun y => (k y).at M hK hm)⟩
theorem g_nmJ {x : Int64} {f : Int64 → Option (α × AH)} (k : ∀ y : Int64, Gp P own mn cc ret pc ls (vJ y :: st) h (f y)) : Gp P own mn cc ret pc ls (vJ x :: st) h (nm x f) :=
  ⟨(k x).1, fun M hK hm => go_nmJ (K := mkC P M) (fun y => (k y).at M hK hm)⟩
theorem g_getI {fam : List Nat} {k : Nat} {ref nm ds : String} {fin : Bool} {idx : Nat} (hl : Cond.fieldLink own idx ref nm ds ∈ Tg) (hf : famOK fam k ref nm ds true fin) {o : Option Nat} {f : Int32 → Option (α × AH)} (d : decode cc pc = .ok (.getfield idx, 3)) (kk : ∀ x, Gp P own mn cc ret (pc + 3) ls (vI x :: st) h (f x)) : Gp P own mn cc ret pc ls (vR o :: st) h ((gI h o fam k).bind f) :=
  ⟨mono_bind (fun x => (kk x).1), fun M hK hm => go_getI (K := mkC P M) hK hl hf d (fun x => (kk x).at M hK hm)⟩
theorem g_getR {fam : List Nat} {k : Nat} {ref nm ds : String} {fin : Bool} {idx : Nat} (hl : Cond.fieldLink own idx ref nm ds ∈ Tg) (hf : famOK fam k ref nm ds false fin) {o : Option Nat} {f : Option Nat → Option (α × AH)} (d : decode cc pc = .ok (.getfield idx, 3)) (kk : ∀ x, Gp P own mn cc ret (pc + 3) ls (vR x :: st) h (f x)) : Gp P own mn cc ret pc ls (vR o :: st) h ((gR h o fam k).bind f) :=
  ⟨mono_bind (fun x => (kk x).1), fun M hK hm => go_getR (K := mkC P M) hK hl hf d (fun x => (kk x).at M hK hm)⟩
theorem g_putI {fam : List Nat} {k : Nat} {ref nm ds : String} {idx : Nat} (hl : Cond.fieldLink own idx ref nm ds ∈ Tg) (hf : famOK fam k ref nm ds true false) {ty : FieldType} (hd : parseFieldDescriptor ds = some ty) {o : Option Nat} {v : Int32} (hn : narrow ty (.int v) = .int v) (hft : fits ty (.int v) = true) {f : AH → Option (α × AH)} (d : decode cc pc = .ok (.putfield idx, 3)) (kk : ∀ h2, Gp P own mn cc ret (pc + 3) ls st h2 (f h2)) : Gp P own mn cc ret pc ls (vI v :: vR o :: st) h ((pI h o fam k v).bind f) :=
  ⟨mono_put (fun _ e => pI_1 e) (fun x => (kk x).1), fun M hK hm => go_putI (K := mkC P M) hK hl hf hd hn hft d (fun h2 => (kk h2).at M hK hm)⟩
theorem g_putIF {fam : List Nat} {k : Nat} {ref nm ds : String} {idx : Nat} (hl : Cond.fieldLink own idx ref nm ds ∈ Tg) (hf : famOK fam k ref nm ds true true) (hown : ∀ ci ∈ fam, ∀ C T N, vwCl[ci]? = some (C, T, N) → (T k).1 = own) {ty : FieldType} (hd : parseFieldDescriptor ds = some ty) {o : Option Nat} {v : Int32} (hn : narrow ty (.int v) = .int v) (hft : fits ty (.int v) = true) {f : AH → Option (α × AH)} (d : decode cc pc = .ok (.putfield idx, 3)) (kk : ∀ h2, Gp P own "<init>" cc ret (pc + 3) ls st h2 (f h2)) : Gp P own "<init>" cc ret pc ls (vI v :: vR o :: st) h ((pI h o fam k v).bind f) :=
  ⟨mono_put (fun _ e => pI_1 e) (fun x => (kk x).1), fun M hK hm => go_putIF (K := mkC P M) hK hm hl hf hown hd hn hft d (fun h2 => (kk h2).at M hK hm)⟩
theorem g_putR {fam : List Nat} {k : Nat} {ref nm ds : String} {idx : Nat} (hl : Cond.fieldLink own idx ref nm ds ∈ Tg) (hf : famOK fam k ref nm ds false false) {ty : FieldType} (hd : parseFieldDescriptor ds = some ty) {o : Option Nat} {v : Option Nat} (hn : narrow ty (rv P.1.2.2.2.1 v) = rv P.1.2.2.2.1 v) (hft : fits ty (rv P.1.2.2.2.1 v) = true) {f : AH → Option (α × AH)} (d : decode cc pc = .ok (.putfield idx, 3)) (kk : ∀ h2, Gp P own mn cc ret (pc + 3) ls st h2 (f h2)) : Gp P own mn cc ret pc ls (vR v :: vR o :: st) h ((pR h o fam k v).bind f) :=
  ⟨mono_put (fun _ e => pR_1 e) (fun x => (kk x).1), fun M hK hm => go_putR (K := mkC P M) hK hl hf hd hn hft d (fun h2 => (kk h2).at M hK hm)⟩
theorem g_putRF {fam : List Nat} {k : Nat} {ref nm ds : String} {idx : Nat} (hl : Cond.fieldLink own idx ref nm ds ∈ Tg) (hf : famOK fam k ref nm ds false true) (hown : ∀ ci ∈ fam, ∀ C T N, vwCl[ci]? = some (C, T, N) → (T k).1 = own) {ty : FieldType} (hd : parseFieldDescriptor ds = some ty) {o : Option Nat} {v : Option Nat} (hn : narrow ty (rv P.1.2.2.2.1 v) = rv P.1.2.2.2.1 v) (hft : fits ty (rv P.1.2.2.2.1 v) = true) {f : AH → Option (α × AH)} (d : decode cc pc = .ok (.putfield idx, 3)) (kk : ∀ h2, Gp P own "<init>" cc ret (pc + 3) ls st h2 (f h2)) : Gp P own "<init>" cc ret pc ls (vR v :: vR o :: st) h ((pR h o fam k v).bind f) :=
  ⟨mono_put (fun _ e => pR_1 e) (fun x => (kk x).1), fun M hK hm => go_putRF (K := mkC P M) hK hm hl hf hown hd hn hft d (fun h2 => (kk h2).at M hK hm)⟩
theorem g_iaload {o : Option Nat} {i : Int32} {f : Int32 → Option (α × AH)} (d : decode cc pc = .ok (.iaload, 1)) (kk : ∀ x, Gp P own mn cc ret (pc + 1) ls (vI x :: st) h (f x)) : Gp P own mn cc ret pc ls (vI i :: vR o :: st) h ((iA h o i).bind f) :=
  ⟨mono_bind (fun x => (kk x).1), fun M hK hm => go_iaload (K := mkC P M) hK d (fun x => (kk x).at M hK hm)⟩
theorem g_laload {o : Option Nat} {i : Int32} {f : Int64 → Option (α × AH)} (d : decode cc pc = .ok (.laload, 1)) (kk : ∀ x, Gp P own mn cc ret (pc + 1) ls (vJ x :: st) h (f x)) : Gp P own mn cc ret pc ls (vI i :: vR o :: st) h ((jA h o i).bind f) :=
  ⟨mono_bind (fun x => (kk x).1), fun M hK hm => go_laload (K := mkC P M) hK d (fun x => (kk x).at M hK hm)⟩
theorem g_iastore {o : Option Nat} {i v : Int32} {f : AH → Option (α × AH)} (d : decode cc pc = .ok (.iastore, 1)) (kk : ∀ h2, Gp P own mn cc ret (pc + 1) ls st h2 (f h2)) : Gp P own mn cc ret pc ls (vI v :: vI i :: vR o :: st) h ((iS h o i v).bind f) :=
  ⟨mono_put (fun _ e => iS_1 e) (fun x => (kk x).1), fun M hK hm => go_iastore (K := mkC P M) hK d (fun h2 => (kk h2).at M hK hm)⟩
theorem g_lastore {o : Option Nat} {i : Int32} {v : Int64} {f : AH → Option (α × AH)} (d : decode cc pc = .ok (.lastore, 1)) (kk : ∀ h2, Gp P own mn cc ret (pc + 1) ls st h2 (f h2)) : Gp P own mn cc ret pc ls (vJ v :: vI i :: vR o :: st) h ((jS h o i v).bind f) :=
  ⟨mono_put (fun _ e => jS_1 e) (fun x => (kk x).1), fun M hK hm => go_lastore (K := mkC P M) hK d (fun h2 => (kk h2).at M hK hm)⟩
theorem g_aaload {kd : Nat} (h2 : 2 ≤ kd) (h4 : kd < 4) {o : Option Nat} {i : Int32} {f : Option Nat → Option (α × AH)} (d : decode cc pc = .ok (.aaload, 1)) (kk : ∀ x, Gp P own mn cc ret (pc + 1) ls (vR x :: st) h (f x)) : Gp P own mn cc ret pc ls (vI i :: vR o :: st) h ((rA h o kd i).bind f) :=
  ⟨mono_bind (fun x => (kk x).1), fun M hK hm => go_aaload (K := mkC P M) hK h2 h4 d (fun x => (kk x).at M hK hm)⟩
theorem g_alenI {o : Option Nat} {f : Int32 → Option (α × AH)} (d : decode cc pc = .ok (.arraylength, 1)) (kk : ∀ x, Gp P own mn cc ret (pc + 1) ls (vI x :: st) h (f x)) : Gp P own mn cc ret pc ls (vR o :: st) h ((lenI h o).bind f) :=
  ⟨mono_bind (fun x => (kk x).1), fun M hK hm => go_alenI (K := mkC P M) hK d (fun x => (kk x).at M hK hm)⟩
theorem g_aastore {kd : Nat} {fam : List Nat} (h2 : 2 ≤ kd) (h4 : kd < 4) (hasg : asgOK kd fam) {o : Option Nat} {i : Int32} {v : Option Nat} {f : AH → Option (α × AH)} (d : decode cc pc = .ok (.aastore, 1)) (kk : ∀ h2, Gp P own mn cc ret (pc + 1) ls st h2 (f h2)) : Gp P own mn cc ret pc ls (vR v :: vI i :: vR o :: st) h ((rS h o kd fam i v).bind f) :=
  ⟨mono_put (fun _ e => rS_1 e) (fun x => (kk x).1), fun M hK hm => go_aastore (K := mkC P M) hK h2 h4 hasg d (fun h2 => (kk h2).at M hK hm)⟩
theorem g_new {ci N idx : Nat} {C : String} {T : u_T} (hc : clsOK ci C T N) (hl : Cond.classLink own idx C ∈ Tg) (hi : Cond.instantiable C N ∈ Tg) (hz : Cond.initialized C ∈ Tg) {f : Option Nat → AH → Option (α × AH)} (d : decode cc pc = .ok (.new idx, 3)) (kk : ∀ a h2, Gp P own mn cc ret (pc + 3) ls (vR a :: st) h2 (f a h2)) : Gp P own mn cc ret pc ls st h (bd (nO h ci N) f) :=
  ⟨mono_bd mono_nw (fun x y => (kk x y).1), fun M hK hm => go_new (K := mkC P M) hK hc hl hi hz d (fun a h2 => (kk a h2).at M hK hm)⟩
theorem g_newarrayI (hw : Cond.arrayClass .int ∈ Tg) {n : Int32} {f : Option Nat → AH → Option (α × AH)} (d : decode cc pc = .ok (.newarray .int, 2)) (kk : ∀ a h2, Gp P own mn cc ret (pc + 2) ls (vR a :: st) h2 (f a h2)) : Gp P own mn cc ret pc ls (vI n :: st) h (bd (nA h 0 n) f) :=
  ⟨mono_bd mono_nA (fun x y => (kk x y).1), fun M hK hm => go_newarrayI (K := mkC P M) hK hw d (fun a h2 => (kk a h2).at M hK hm)⟩
theorem g_newarrayJ (hw : Cond.arrayClass .long ∈ Tg) {n : Int32} {f : Option Nat → AH → Option (α × AH)} (d : decode cc pc = .ok (.newarray .long, 2)) (kk : ∀ a h2, Gp P own mn cc ret (pc + 2) ls (vR a :: st) h2 (f a h2)) : Gp P own mn cc ret pc ls (vI n :: st) h (bd (nA h 1 n) f) :=
  ⟨mono_bd mono_nA (fun x y => (kk x y).1), fun M hK hm => go_newarrayJ (K := mkC P M) hK hw d (fun a h2 => (kk a h2).at M hK hm)⟩
theorem g_anewarray {kd idx : Nat} {C : String} (h2 : 2 ≤ kd) (h4 : kd < 4) (hE : arT kd = .object C) (hl : Cond.classLink own idx C ∈ Tg) (hw : Cond.arrayOver (.object C) ∈ lw_tbl) {n : Int32} {f : Option Nat → AH → Option (α × AH)} (d : decode cc pc = .ok (.anewarray idx, 3)) (kk : ∀ a h2, Gp P own mn cc ret (pc + 3) ls (vR a :: st) h2 (f a h2)) : Gp P own mn cc ret pc ls (vI n :: st) h (bd (nA h kd n) f) :=
  ⟨mono_bd mono_nA (fun x y => (kk x y).1), fun M hK hm => go_anewarray (K := mkC P M) hK h2 h4 hE hl hw d (fun a h2 => (kk a h2).at M hK hm)⟩
theorem g_ireturn {P : PX Int32} {x : Int32} (hr : P.2.1 x = .inl (some (.int x))) (d : decode cc pc = .ok (.ireturn, 1)) : Gp P own mn cc (some .int) pc ls [vI x] h (some (x, h)) :=
  ⟨mono_some, fun M hK hm => go_ireturn (K := mkC P M) hK hr d⟩
theorem g_zreturn {P : PX Int32} {x : Int32} (hn : narrow .boolean (.int x) = .int x) (hr : P.2.1 x = .inl (some (.int x))) (d : decode cc pc = .ok (.ireturn, 1)) : Gp P own mn cc (some .boolean) pc ls [vI x] h (some (x, h)) :=
  ⟨mono_some, fun M hK hm => go_zreturn (K := mkC P M) hK hn hr d⟩
theorem g_zreturnV {P : PX Int32} {x : Int32} (hr : ∀ x, P.2.1 x = .inl (some (.int x))) (d : decode cc pc = .ok (.ireturn, 1)) : Gp P own mn cc (some .boolean) pc ls [vI x] h (rb x h) :=
  ⟨mono_if mono_some (mono_if mono_some mono_none), fun M hK hm => go_zreturnV (K := mkC P M) hK hr d⟩
theorem g_lreturn {P : PX Int64} {x : Int64} (hr : P.2.1 x = .inl (some (.long x))) (d : decode cc pc = .ok (.lreturn, 1)) : Gp P own mn cc (some .long) pc ls [vJ x] h (some (x, h)) :=
  ⟨mono_some, fun M hK hm => go_lreturn (K := mkC P M) hK hr d⟩
theorem g_areturn {P : PX (Option Nat)} {C : String} {x : Option Nat} (hr : P.2.1 x = .inl (some (rv P.1.2.2.2.1 x))) (d : decode cc pc = .ok (.areturn, 1)) : Gp P own mn cc (some (.object C)) pc ls [vR x] h (some (x, h)) :=
  ⟨mono_some, fun M hK hm => go_areturn (K := mkC P M) hK hr d⟩
theorem g_return {P : PX Unit} (hr : P.2.1 () = .inl none) (d : decode cc pc = .ok (.return_, 1)) : Gp P own mn cc none pc ls [] h (some ((), h)) :=
  ⟨mono_some, fun M hK hm => go_return (K := mkC P M) hK hr d⟩
end GP
