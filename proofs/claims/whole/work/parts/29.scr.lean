/-! THE SCRIPT: read, never written -/
/-- the script of Ls ints xs lies at the cell b, below all that the law makes -/
def Scr (X : GX) (b Ls : Nat) (xs : Nat → Int32) : Prop := va_X b Ls xs X.2.1 X.2.1.heap ∧ b < X.2.2.2.1
def scA (b Ls : Nat) (xs : Nat → Int32) (x : Nat) (i : Int32) : Option Int32 := if x = b ∧ ¬ (i < 0 ∨ Ls ≤ i.toNatClampNeg) then some (xs i.toNatClampNeg) else none
def scL (b Ls : Nat) (x : Nat) : Option Int32 := if x = b then some (Int32.ofNat Ls) else none
section SCR
variable {α : Type} {own mn : String} {cc : ByteArray} {ret : Option FieldType} {pc : Nat} {ls : List (Nat × AV)} {st : List AV} {h : AH} {o : Option (α × AH)}
theorem scr_at {K : CX α} (hK : KOK K own cc ret) {b Ls : Nat} {xs : Nat → Int32} (hs : Scr K.1 b Ls xs) : va_X b Ls xs K.2.1.2.2.1 K.2.1.2.2.1.heap ∧ b < K.2.1.2.2.1.heap.size ∧ ¬ K.1.2.2.2.1 ≤ b := by
  obtain ⟨b1, b2⟩ := hK.2.2.2.2.2.2.2.2.2.2
  exact ⟨(hs.1.moved hK.2.2.2.2.1.alike).kept (b2 b hs.2), Nat.lt_of_lt_of_le hs.2 b1, Nat.not_le.mpr hs.2⟩
theorem go_aloadV {K : CX α} (hK : KOK K own cc ret) (j : Nat) {n : Fin 4} {i : Nat} {x : Nat} (d : decode cc pc = .ok (.aload_n n, 1)) (hi : (n : Nat) = i) (e : ls[j]? = some (i, vV (.ref x))) (k : Go K (pc + 1) ls (vV (.ref x) :: st) h o) : Go K pc ls st h o :=
  go_step k (fun _ _ _ _ _ _ _ hl w => lv_aload_n hK.1 hK.2.1 d hi (lv_at hl j (lsV_at e)) w)
theorem g_aloadV {P : PX α} (j : Nat) {n : Fin 4} {i : Nat} {x : Nat} (d : decode cc pc = .ok (.aload_n n, 1)) (hi : (n : Nat) = i) (e : ls[j]? = some (i, vV (.ref x))) (k : Gp P own mn cc ret (pc + 1) ls (vV (.ref x) :: st) h o) : Gp P own mn cc ret pc ls st h o :=
  ⟨k.1, fun M hK hm => go_aloadV (K := mkC P M) hK j d hi e (k.at M hK hm)⟩
theorem g_scL {P : PX α} {b Ls : Nat} {xs : Nat → Int32} (hs : Scr P.1 b Ls xs) {x : Nat} {f : Int32 → Option (α × AH)} (d : decode cc pc = .ok (.arraylength, 1)) (kk : ∀ n, Gp P own mn cc ret (pc + 1) ls (vI n :: st) h (f n)) : Gp P own mn cc ret pc ls (vV (.ref x) :: st) h ((scL b Ls x).bind f) := by
  refine ⟨mono_bind (fun n => (kk n).1), fun M hK hm r h' ho => ?_⟩
  unfold scL at ho
  by_cases hx : x = b
  · subst hx
    rw [if_pos rfl] at ho
    obtain ⟨m1, m2⟩ := (kk (Int32.ofNat Ls)).at M hK hm r h' ho
    refine ⟨m1, fun ha H locs lsA hP hS hl => ?_⟩
    obtain ⟨s1, s2, s3⟩ := scr_at hK hs
    exact va_slen hK.1 hK.2.1 s1 s2 s3 hS d (m2 ha H locs lsA hP hS hl)
  · rw [if_neg hx] at ho
    cases ho
theorem g_scA {P : PX α} {b Ls : Nat} {xs : Nat → Int32} (hs : Scr P.1 b Ls xs) {x : Nat} {i : Int32} {f : Int32 → Option (α × AH)} (d : decode cc pc = .ok (.iaload, 1)) (kk : ∀ n, Gp P own mn cc ret (pc + 1) ls (vI n :: st) h (f n)) : Gp P own mn cc ret pc ls (vI i :: vV (.ref x) :: st) h ((scA b Ls xs x i).bind f) := by
  refine ⟨mono_bind (fun n => (kk n).1), fun M hK hm r h' ho => ?_⟩
  unfold scA at ho
  by_cases hx : x = b ∧ ¬ (i < 0 ∨ Ls ≤ i.toNatClampNeg)
  · rw [if_pos hx] at ho
    obtain ⟨rfl, hin⟩ := hx
    obtain ⟨m1, m2⟩ := (kk (xs i.toNatClampNeg)).at M hK hm r h' ho
    refine ⟨m1, fun ha H locs lsA hP hS hl => ?_⟩
    obtain ⟨s1, s2, s3⟩ := scr_at hK hs
    exact va_sld hK.1 hK.2.1 s1 s2 s3 hS hin d (m2 ha H locs lsA hP hS hl)
  · rw [if_neg hx] at ho
    cases ho
end SCR
