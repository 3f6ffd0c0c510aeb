section MORE
variable {α : Type} {P : PX α} {own mn : String} {cc : ByteArray} {ret : Option FieldType} {pc : Nat} {ls : List (Nat × AV)} {st st0 : List AV} {h : AH} {o : Option (α × AH)}
theorem g_none {pc : Nat} {ls : List (Nat × AV)} {st : List AV} : Gp P own mn cc ret pc ls st h none := ⟨mono_none, fun _ _ _ _ _ e => by cases e⟩
theorem g_sub2 {ls' : List (Nat × AV)} (ps : List Nat) (e : ps.filterMap (fun k => ls[k]?) = ls') (k : Gp P own mn cc ret pc ls' st h o) : Gp P own mn cc ret pc ls st h o := ⟨k.1, fun M hK hm => go_sub ps e (k.2 M hK hm)⟩
def neK (x : Int32) (ks : List Int) : Prop := ∀ k ∈ ks, ¬ x.toInt = k
theorem neK_nil {x : Int32} : neK x [] := fun _ hk => by cases hk
theorem neK_cons {x c : Int32} {k : Int} {ks : List Int} (hn : ¬ x = c) (e : c.toInt = k) (r : neK x ks) : neK x (k :: ks) := by
  intro j hj
  rcases List.mem_cons.mp hj with rfl | hj
  · exact lv_neT hn e
  · exact r j hj
theorem g_tsDef {dflt lo hi : Int} {offs : Array Int} {len tgt : Nat} {x : Int32} {keys : List Int} (hne : neK x keys) (hall : (List.range ((hi - lo).toNat + 1)).all (fun j => decide (offs[j]? = some dflt) || keys.contains (lo + (j : Int))) = true) (d : decode cc pc = .ok (.tableswitch dflt lo hi offs, len)) (t : (pc : Int) + dflt = (tgt : Int)) (k : Gp P own mn cc ret tgt ls st h o) : Gp P own mn cc ret pc ls (vI x :: st) h o := by
  refine ⟨k.1, fun M hK hm => ?_⟩
  by_cases h1 : x.toInt < lo
  · exact go_tsOut hK d (Or.inl h1) t (k.at M hK hm)
  · by_cases h2 : hi < x.toInt
    · exact go_tsOut hK d (Or.inr h2) t (k.at M hK hm)
    · have hj : (x.toInt - lo).toNat < (hi - lo).toNat + 1 := by omega
      have h3 := List.all_eq_true.mp hall _ (List.mem_range.mpr hj)
      rw [Bool.or_eq_true] at h3
      rcases h3 with h3 | h3
      · exact go_step (k.at M hK hm) (fun _ _ _ _ _ _ _ _ w => lv_tableIn hK.1 hK.2.1 d h1 h2 (of_decide_eq_true h3) t w)
      · have h4 : lo + ((x.toInt - lo).toNat : Int) ∈ keys := List.contains_iff_mem.mp h3
        exact absurd (by omega) (hne _ h4)
/-- a constructor's call on a cell that is one -/
def nn {γ : Type} (v : Option Nat) (o : Option γ) : Option γ := match v with
  | none => none
  | some _ => o
/-- super.m on an object of the family -/
def cu {γ : Type} (h : AH) (fam : List Nat) (v : Option Nat) (o : Option γ) : Option γ := if fits1 h fam v = true ∧ v ≠ none then o else none
theorem g_callI2 {y : MethodName} {bytes : ByteArray} {maxL fr lo idx n : Nat} {v : Option Nat} {vs : List AV} {o : Option (Unit × AH)} {f : Unit → AH → Option (α × AH)} (hs : Snd P.1 y bytes maxL none fr lo rU (vR v :: vs) h o) (hl : Cond.methodLink own idx y ∈ Tg) (hst : Cond.instanceMethod y ∈ Tg) (hini : Cond.initialized y.cls ∈ Tg) (hcd : Cond.code y bytes maxL none ∈ Tg) (hyn : y.name = "<init>") (hd : dsc y.cls y.desc n) (hn : vs.length = n) (hR : fr + 1 ≤ P.2.2.1.1 ∧ 8 + (maxL + 11) + lo ≤ P.2.2.1.2.1) (hsum : (st.map ac).sum ≤ 8) (est : vs.reverse ++ vR v :: st = st0) (d : decode cc pc = .ok (.invokespecial idx, 3)) (kk : ∀ r h1, Gp P own mn cc ret (pc + 3) ls st h1 (f r h1)) : Gp P own mn cc ret pc ls st0 h (bd (nn v o) f) := by
  have := g_callI hs hl hst hini hcd hyn hd hn hR hsum est d kk
  cases v <;> exact this
theorem nrv {B : Nat} {v : Option Nat} {t : FieldType} : narrow (.array t) (rv B v) = rv B v ∧ fits (.array t) (rv B v) = true := by cases v <;> exact ⟨rfl, rfl⟩
theorem nro {B : Nat} {v : Option Nat} {c : String} : narrow (.object c) (rv B v) = rv B v ∧ fits (.object c) (rv B v) = true := by cases v <;> exact ⟨rfl, rfl⟩
theorem nI' {v : Int32} : narrow .int (.int v) = .int v ∧ fits .int (.int v) = true := ⟨rfl, rfl⟩
theorem nZ0 : narrow .boolean (.int 0) = .int 0 ∧ fits .boolean (.int 0) = true := by decide +kernel
theorem nZ1 : narrow .boolean (.int 1) = .int 1 ∧ fits .boolean (.int 1) = true := by decide +kernel
/-- enough turns for any loop -/
def FU : Nat := 1048576
/-- the classes of guests -/
abbrev GF : List Nat := [0, 1, 2, 3, 4, 6, 8, 9]
def mmax (x y : Int32) : Int32 := if x < y then y else x
def mmin (x y : Int32) : Int32 := if y < x then y else x
theorem room_here {K : CX α} {h h' : AH} (ha : aLe K.2.2.2.2 h) (m : aLe h h') : aN h - aN K.2.2.2.2 ≤ (kR K h').cells ∧ aS h - aS K.2.2.2.2 ≤ (kR K h').slots := by
  show _ ≤ aN h' - aN K.2.2.2.2 ∧ _ ≤ aS h' - aS K.2.2.2.2
  obtain ⟨a1, a2⟩ := ha
  obtain ⟨b1, b2⟩ := m
  omega
theorem g_mmax {idx : Nat} {x y : Int32} (hl : Cond.methodLink own idx Lib.Math.max.name ∈ Tg) (hst : Cond.static Lib.Math.max.name ∈ Tg) (hini : Cond.initialized "java/lang/Math" ∈ Tg) (hcd : Cond.code Lib.Math.max.name Lib.Math.max.code 2 (some .int) ∈ Tg) (hR : 1 ≤ P.2.2.1.1 ∧ 21 ≤ P.2.2.1.2.1) (hsum : (st.map ac).sum ≤ 8) (d : decode cc pc = .ok (.invokestatic idx, 3)) (k : Gp P own mn cc ret (pc + 3) ls (vI (mmax x y) :: st) h o) : Gp P own mn cc ret pc ls (vI y :: vI x :: st) h o :=
  ⟨k.1, fun M hK hm r h' ho => ⟨((k.at M hK hm) r h' ho).1, fun ha H locs lsA hP hS hls => va_mmax hK.1 hK.2.1 (hK.2.2.1.trans hls.1.symm) hK.2.2.2.1 (hK.hts _ hl) (hK.hts _ hst) (hK.hts _ hini) (hK.hts _ hcd) hR.1 (Nat.le_trans (Nat.add_le_add_right (st_room P.1.2.2.2.1 hsum) 13) hR.2) (room_here ha ((k.at M hK hm) r h' ho).1).1 (room_here ha ((k.at M hK hm) r h' ho).1).2 d (((k.at M hK hm) r h' ho).2 ha H locs lsA hP hS hls)⟩⟩
theorem g_mmin {idx : Nat} {x y : Int32} (hl : Cond.methodLink own idx Lib.Math.min.name ∈ Tg) (hst : Cond.static Lib.Math.min.name ∈ Tg) (hini : Cond.initialized "java/lang/Math" ∈ Tg) (hcd : Cond.code Lib.Math.min.name Lib.Math.min.code 2 (some .int) ∈ Tg) (hR : 1 ≤ P.2.2.1.1 ∧ 21 ≤ P.2.2.1.2.1) (hsum : (st.map ac).sum ≤ 8) (d : decode cc pc = .ok (.invokestatic idx, 3)) (k : Gp P own mn cc ret (pc + 3) ls (vI (mmin x y) :: st) h o) : Gp P own mn cc ret pc ls (vI y :: vI x :: st) h o :=
  ⟨k.1, fun M hK hm r h' ho => ⟨((k.at M hK hm) r h' ho).1, fun ha H locs lsA hP hS hls => va_mmin hK.1 hK.2.1 (hK.2.2.1.trans hls.1.symm) hK.2.2.2.1 (hK.hts _ hl) (hK.hts _ hst) (hK.hts _ hini) (hK.hts _ hcd) hR.1 (Nat.le_trans (Nat.add_le_add_right (st_room P.1.2.2.2.1 hsum) 13) hR.2) (room_here ha ((k.at M hK hm) r h' ho).1).1 (room_here ha ((k.at M hK hm) r h' ho).1).2 d (((k.at M hK hm) r h' ho).2 ha H locs lsA hP hS hls)⟩⟩
end MORE
