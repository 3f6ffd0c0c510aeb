section STEPS2
variable {α : Type} {K : CX α} {own : String} {cc : ByteArray} {ret : Option FieldType} {pc : Nat} {ls : List (Nat × AV)} {st : List AV} {h : AH} {o : Option (α × AH)}
theorem lsV_f1 (B i : Nat) (ls : List (Nat × AV)) : lsV B (ls.filter (fun q => !(q.1 == i) && !(q.1 + 1 == i && ac q.2 == 2))) = (lsV B ls).filter (fun q => !(q.1 == i) && !(q.1 + 1 == i && q.2.category == 2)) := by
  unfold lsV
  rw [List.filter_map]
  congr 2
  funext q
  simp [Function.comp, av_cat]
theorem lsV_f2 (B i : Nat) (ls : List (Nat × AV)) : lsV B (ls.filter (fun q => !(q.1 == i) && (!(q.1 == i + 1) && !(q.1 + 1 == i && ac q.2 == 2)))) = (lsV B ls).filter (fun q => !(q.1 == i) && (!(q.1 == i + 1) && !(q.1 + 1 == i && q.2.category == 2))) := by
  unfold lsV
  rw [List.filter_map]
  congr 2
  funext q
  simp [Function.comp, av_cat]
theorem lsV_s1 {B i : Nat} {v : AV} {ls ls' : List (Nat × AV)} (e : (i, v) :: ls.filter (fun q => !(q.1 == i) && !(q.1 + 1 == i && ac q.2 == 2)) = ls') : (i, av B v) :: (lsV B ls).filter (fun q => !(q.1 == i) && !(q.1 + 1 == i && q.2.category == 2)) = lsV B ls' := by
  subst e
  rw [← lsV_f1]
  rfl
theorem lsV_s2 {B i : Nat} {v : AV} {ls ls' : List (Nat × AV)} (e : (i, v) :: ls.filter (fun q => !(q.1 == i) && (!(q.1 == i + 1) && !(q.1 + 1 == i && ac q.2 == 2))) = ls') : (i, av B v) :: (lsV B ls).filter (fun q => !(q.1 == i) && (!(q.1 == i + 1) && !(q.1 + 1 == i && q.2.category == 2))) = lsV B ls' := by
  subst e
  rw [← lsV_f2]
  rfl
theorem go_istore_n (hK : KOK K own cc ret) {n : Fin 4} {i : Nat} {x : Int32} {ls' : List (Nat × AV)} (d : decode cc pc = .ok (.istore_n n, 1)) (hi : (n : Nat) = i) (hn : i < K.2.2.2.1.2.2) (e : (i, vI x) :: ls.filter (fun q => !(q.1 == i) && !(q.1 + 1 == i && ac q.2 == 2)) = ls') (k : Go K (pc + 1) ls' st h o) : Go K pc ls (vI x :: st) h o :=
  go_stepL k (fun _ _ _ _ _ _ _ hl w => lv_istore_n hK.1 hK.2.1 d hi hl hn (lsV_s1 e) w)
theorem go_istore (hK : KOK K own cc ret) {i : Nat} {x : Int32} {ls' : List (Nat × AV)} (d : decode cc pc = .ok (.istore i, 2)) (hn : i < K.2.2.2.1.2.2) (e : (i, vI x) :: ls.filter (fun q => !(q.1 == i) && !(q.1 + 1 == i && ac q.2 == 2)) = ls') (k : Go K (pc + 2) ls' st h o) : Go K pc ls (vI x :: st) h o :=
  go_stepL k (fun _ _ _ _ _ _ _ hl w => lv_istore hK.1 hK.2.1 d hl hn (lsV_s1 e) w)
theorem go_lstore_n (hK : KOK K own cc ret) {n : Fin 4} {i : Nat} {x : Int64} {ls' : List (Nat × AV)} (d : decode cc pc = .ok (.lstore_n n, 1)) (hi : (n : Nat) = i) (hn : i + 1 < K.2.2.2.1.2.2) (e : (i, vJ x) :: ls.filter (fun q => !(q.1 == i) && (!(q.1 == i + 1) && !(q.1 + 1 == i && ac q.2 == 2))) = ls') (k : Go K (pc + 1) ls' st h o) : Go K pc ls (vJ x :: st) h o :=
  go_stepL k (fun _ _ _ _ _ _ _ hl w => lv_lstore_n hK.1 hK.2.1 d hi hl hn (lsV_s2 e) w)
theorem go_lstore (hK : KOK K own cc ret) {i : Nat} {x : Int64} {ls' : List (Nat × AV)} (d : decode cc pc = .ok (.lstore i, 2)) (hn : i + 1 < K.2.2.2.1.2.2) (e : (i, vJ x) :: ls.filter (fun q => !(q.1 == i) && (!(q.1 == i + 1) && !(q.1 + 1 == i && ac q.2 == 2))) = ls') (k : Go K (pc + 2) ls' st h o) : Go K pc ls (vJ x :: st) h o :=
  go_stepL k (fun _ _ _ _ _ _ _ hl w => lv_lstore hK.1 hK.2.1 d hl hn (lsV_s2 e) w)
theorem go_astore_n (hK : KOK K own cc ret) {n : Fin 4} {i : Nat} {x : Option Nat} {ls' : List (Nat × AV)} (d : decode cc pc = .ok (.astore_n n, 1)) (hi : (n : Nat) = i) (hn : i < K.2.2.2.1.2.2) (e : (i, vR x) :: ls.filter (fun q => !(q.1 == i) && !(q.1 + 1 == i && ac q.2 == 2)) = ls') (k : Go K (pc + 1) ls' st h o) : Go K pc ls (vR x :: st) h o := by
  cases x with
  | none => exact go_stepL k (fun _ _ _ _ _ _ _ hl w => lv_astore_nN hK.1 hK.2.1 d hi hl hn (lsV_s1 e) w)
  | some a => exact go_stepL k (fun _ _ _ _ _ _ _ hl w => lv_astore_n hK.1 hK.2.1 d hi hl hn (lsV_s1 e) w)
theorem go_astore (hK : KOK K own cc ret) {i : Nat} {x : Option Nat} {ls' : List (Nat × AV)} (d : decode cc pc = .ok (.astore i, 2)) (hn : i < K.2.2.2.1.2.2) (e : (i, vR x) :: ls.filter (fun q => !(q.1 == i) && !(q.1 + 1 == i && ac q.2 == 2)) = ls') (k : Go K (pc + 2) ls' st h o) : Go K pc ls (vR x :: st) h o := by
  cases x with
  | none => exact go_stepL k (fun _ _ _ _ _ _ _ hl w => lv_astoreN hK.1 hK.2.1 d hl hn (lsV_s1 e) w)
  | some a => exact go_stepL k (fun _ _ _ _ _ _ _ hl w => lv_astore hK.1 hK.2.1 d hl hn (lsV_s1 e) w)
theorem go_iinc (hK : KOK K own cc ret) (j : Nat) {i : Nat} {n : Int} {x v : Int32} {ls' : List (Nat × AV)} (d : decode cc pc = .ok (.iinc i n, 3)) (e : ls[j]? = some (i, vI x)) (hv : x + Int32.ofInt n = v) (hn : i < K.2.2.2.1.2.2) (e2 : (i, vI v) :: ls.filter (fun q => !(q.1 == i) && !(q.1 + 1 == i && ac q.2 == 2)) = ls') (k : Go K (pc + 3) ls' st h o) : Go K pc ls st h o :=
  go_stepL k (fun _ _ _ _ _ _ _ hl w => lv_iinc hK.1 hK.2.1 d hl (lsV_at e) hv hn (lsV_s1 e2) w)
theorem go_iadd (hK : KOK K own cc ret) {x y : Int32} (d : decode cc pc = .ok (.iadd, 1)) (k : Go K (pc + 1) ls (vI (x + y) :: st) h o) : Go K pc ls (vI y :: vI x :: st) h o :=
  go_step k (fun _ _ _ _ _ _ _ _ w => lv_iadd hK.1 hK.2.1 d w)
theorem go_isub (hK : KOK K own cc ret) {x y : Int32} (d : decode cc pc = .ok (.isub, 1)) (k : Go K (pc + 1) ls (vI (x - y) :: st) h o) : Go K pc ls (vI y :: vI x :: st) h o :=
  go_step k (fun _ _ _ _ _ _ _ _ w => lv_isub hK.1 hK.2.1 d w)
theorem go_imul (hK : KOK K own cc ret) {x y : Int32} (d : decode cc pc = .ok (.imul, 1)) (k : Go K (pc + 1) ls (vI (x * y) :: st) h o) : Go K pc ls (vI y :: vI x :: st) h o :=
  go_step k (fun _ _ _ _ _ _ _ _ w => lv_imul hK.1 hK.2.1 d w)
theorem go_iand (hK : KOK K own cc ret) {x y : Int32} (d : decode cc pc = .ok (.iand, 1)) (k : Go K (pc + 1) ls (vI (x &&& y) :: st) h o) : Go K pc ls (vI y :: vI x :: st) h o :=
  go_step k (fun _ _ _ _ _ _ _ _ w => lv_iand hK.1 hK.2.1 d w)
theorem go_ior (hK : KOK K own cc ret) {x y : Int32} (d : decode cc pc = .ok (.ior, 1)) (k : Go K (pc + 1) ls (vI (x ||| y) :: st) h o) : Go K pc ls (vI y :: vI x :: st) h o :=
  go_step k (fun _ _ _ _ _ _ _ _ w => lv_ior hK.1 hK.2.1 d w)
theorem go_ixor (hK : KOK K own cc ret) {x y : Int32} (d : decode cc pc = .ok (.ixor, 1)) (k : Go K (pc + 1) ls (vI (x ^^^ y) :: st) h o) : Go K pc ls (vI y :: vI x :: st) h o :=
  go_step k (fun _ _ _ _ _ _ _ _ w => lv_ixor hK.1 hK.2.1 d w)
theorem go_ishl (hK : KOK K own cc ret) {x y : Int32} (d : decode cc pc = .ok (.ishl, 1)) (k : Go K (pc + 1) ls (vI (x <<< (y &&& 31)) :: st) h o) : Go K pc ls (vI y :: vI x :: st) h o :=
  go_step k (fun _ _ _ _ _ _ _ _ w => lv_ishl hK.1 hK.2.1 d w)
theorem go_ishr (hK : KOK K own cc ret) {x y : Int32} (d : decode cc pc = .ok (.ishr, 1)) (k : Go K (pc + 1) ls (vI (x >>> (y &&& 31)) :: st) h o) : Go K pc ls (vI y :: vI x :: st) h o :=
  go_step k (fun _ _ _ _ _ _ _ _ w => lv_ishr hK.1 hK.2.1 d w)
theorem go_iushr (hK : KOK K own cc ret) {x y : Int32} (d : decode cc pc = .ok (.iushr, 1)) (k : Go K (pc + 1) ls (vI ((x.toUInt32 >>> (y.toUInt32 &&& Int32.toUInt32 31)).toInt32) :: st) h o) : Go K pc ls (vI y :: vI x :: st) h o :=
  go_step k (fun _ _ _ _ _ _ _ _ w => lv_iushr hK.1 hK.2.1 d rfl w)
/-- by a divisor that is known -/
theorem go_idivK (hK : KOK K own cc ret) {x y : Int32} (d : decode cc pc = .ok (.idiv, 1)) (hy : ¬ y = 0) (k : Go K (pc + 1) ls (vI (x / y) :: st) h o) : Go K pc ls (vI y :: vI x :: st) h o :=
  go_step k (fun _ _ _ _ _ _ _ _ w => lv_idiv hK.1 hK.2.1 d hy w)
theorem go_idiv (hK : KOK K own cc ret) {x y : Int32} (d : decode cc pc = .ok (.idiv, 1)) (k : Go K (pc + 1) ls (vI (x / y) :: st) h o) : Go K pc ls (vI y :: vI x :: st) h (if y = 0 then none else o) := by
  intro r h' ho
  by_cases hy : y = 0
  · rw [if_pos hy] at ho; cases ho
  · rw [if_neg hy] at ho; exact go_idivK hK d hy k r h' ho
/-- by a divisor that is known -/
theorem go_iremK (hK : KOK K own cc ret) {x y : Int32} (d : decode cc pc = .ok (.irem, 1)) (hy : ¬ y = 0) (k : Go K (pc + 1) ls (vI (x - x / y * y) :: st) h o) : Go K pc ls (vI y :: vI x :: st) h o :=
  go_step k (fun _ _ _ _ _ _ _ _ w => lv_irem hK.1 hK.2.1 d hy w)
theorem go_irem (hK : KOK K own cc ret) {x y : Int32} (d : decode cc pc = .ok (.irem, 1)) (k : Go K (pc + 1) ls (vI (x - x / y * y) :: st) h o) : Go K pc ls (vI y :: vI x :: st) h (if y = 0 then none else o) := by
  intro r h' ho
  by_cases hy : y = 0
  · rw [if_pos hy] at ho; cases ho
  · rw [if_neg hy] at ho; exact go_iremK hK d hy k r h' ho
/-- by a divisor that is known -/
theorem go_ldivK (hK : KOK K own cc ret) {x y : Int64} (d : decode cc pc = .ok (.ldiv, 1)) (hy : ¬ y = 0) (k : Go K (pc + 1) ls (vJ (x / y) :: st) h o) : Go K pc ls (vJ y :: vJ x :: st) h o :=
  go_step k (fun _ _ _ _ _ _ _ _ w => lv_ldiv hK.1 hK.2.1 d hy w)
theorem go_ldiv (hK : KOK K own cc ret) {x y : Int64} (d : decode cc pc = .ok (.ldiv, 1)) (k : Go K (pc + 1) ls (vJ (x / y) :: st) h o) : Go K pc ls (vJ y :: vJ x :: st) h (if y = 0 then none else o) := by
  intro r h' ho
  by_cases hy : y = 0
  · rw [if_pos hy] at ho; cases ho
  · rw [if_neg hy] at ho; exact go_ldivK hK d hy k r h' ho
/-- by a divisor that is known -/
theorem go_lremK (hK : KOK K own cc ret) {x y : Int64} (d : decode cc pc = .ok (.lrem, 1)) (hy : ¬ y = 0) (k : Go K (pc + 1) ls (vJ (x - x / y * y) :: st) h o) : Go K pc ls (vJ y :: vJ x :: st) h o :=
  go_step k (fun _ _ _ _ _ _ _ _ w => lv_lrem hK.1 hK.2.1 d hy w)
theorem go_lrem (hK : KOK K own cc ret) {x y : Int64} (d : decode cc pc = .ok (.lrem, 1)) (k : Go K (pc + 1) ls (vJ (x - x / y * y) :: st) h o) : Go K pc ls (vJ y :: vJ x :: st) h (if y = 0 then none else o) := by
  intro r h' ho
  by_cases hy : y = 0
  · rw [if_pos hy] at ho; cases ho
  · rw [if_neg hy] at ho; exact go_lremK hK d hy k r h' ho
theorem go_ladd (hK : KOK K own cc ret) {x y : Int64} (d : decode cc pc = .ok (.ladd, 1)) (k : Go K (pc + 1) ls (vJ (x + y) :: st) h o) : Go K pc ls (vJ y :: vJ x :: st) h o :=
  go_step k (fun _ _ _ _ _ _ _ _ w => lv_ladd hK.1 hK.2.1 d w)
theorem go_lmul (hK : KOK K own cc ret) {x y : Int64} (d : decode cc pc = .ok (.lmul, 1)) (k : Go K (pc + 1) ls (vJ (x * y) :: st) h o) : Go K pc ls (vJ y :: vJ x :: st) h o :=
  go_step k (fun _ _ _ _ _ _ _ _ w => lv_lmul hK.1 hK.2.1 d w)
theorem go_lneg (hK : KOK K own cc ret) {x : Int64} (d : decode cc pc = .ok (.lneg, 1)) (k : Go K (pc + 1) ls (vJ (-x) :: st) h o) : Go K pc ls (vJ x :: st) h o :=
  go_step k (fun _ _ _ _ _ _ _ _ w => lv_lneg hK.1 hK.2.1 d w)
theorem go_lcmp (hK : KOK K own cc ret) {x y : Int64} (d : decode cc pc = .ok (.lcmp, 1)) (k : Go K (pc + 1) ls (vI (lg_cmp x y) :: st) h o) : Go K pc ls (vJ y :: vJ x :: st) h o :=
  go_step k (fun _ _ _ _ _ _ _ _ w => W.lcmp hK.1 hK.2.1 d w)
theorem go_i2l (hK : KOK K own cc ret) {x : Int32} (d : decode cc pc = .ok (.i2l, 1)) (k : Go K (pc + 1) ls (vJ (x.toInt64) :: st) h o) : Go K pc ls (vI x :: st) h o :=
  go_step k (fun _ _ _ _ _ _ _ _ w => lv_i2l hK.1 hK.2.1 d rfl w)
theorem go_i2b (hK : KOK K own cc ret) {x : Int32} (d : decode cc pc = .ok (.i2b, 1)) (k : Go K (pc + 1) ls (vI (x.toInt8.toInt32) :: st) h o) : Go K pc ls (vI x :: st) h o :=
  go_step k (fun _ _ _ _ _ _ _ _ w => lv_i2b hK.1 hK.2.1 d rfl w)
theorem go_i2s (hK : KOK K own cc ret) {x : Int32} (d : decode cc pc = .ok (.i2s, 1)) (k : Go K (pc + 1) ls (vI (x.toInt16.toInt32) :: st) h o) : Go K pc ls (vI x :: st) h o :=
  go_step k (fun _ _ _ _ _ _ _ _ w => lv_i2s hK.1 hK.2.1 d rfl w)
theorem go_dup (hK : KOK K own cc ret) {v : AV} (d : decode cc pc = .ok (.dup, 1)) (e : ac v = 1) (k : Go K (pc + 1) ls (v :: v :: st) h o) : Go K pc ls (v :: st) h o :=
  go_step k (fun _ _ _ _ _ _ _ _ w => lv_dup hK.1 hK.2.1 d ((av_cat _ _).trans e) w)
theorem go_dup2 (hK : KOK K own cc ret) {v u : AV} (d : decode cc pc = .ok (.dup2, 1)) (e : ac v = 1) (e2 : ac u = 1) (k : Go K (pc + 1) ls (v :: u :: v :: u :: st) h o) : Go K pc ls (v :: u :: st) h o :=
  go_step k (fun _ _ _ _ _ _ _ _ w => lv_dup2_11 hK.1 hK.2.1 d ((av_cat _ _).trans e) ((av_cat _ _).trans e2) w)
theorem go_goto (hK : KOK K own cc ret) {off : Int} {tgt : Nat} (d : decode cc pc = .ok (.goto off, 3)) (t : (pc : Int) + off = (tgt : Int)) (k : Go K tgt ls st h o) : Go K pc ls st h o :=
  go_step k (fun _ _ _ _ _ _ _ _ w => lv_goto hK.1 hK.2.1 d t w)
theorem go_ifeq (hK : KOK K own cc ret) {x : Int32} {off : Int} {tgt : Nat} {oa ob : Option (α × AH)} (d : decode cc pc = .ok (.ifCond .eq off, 3)) (t : (pc : Int) + off = (tgt : Int)) (kt : Go K tgt ls st h oa) (kf : Go K (pc + 3) ls st h ob) : Go K pc ls (vI x :: st) h (if x = 0 then oa else ob) := by
  intro r h' ho
  by_cases hc : x = 0
  · rw [if_pos hc] at ho
    exact ⟨(kt r h' ho).1, fun a H locs lsA hP hS hl => lv_if_eq hK.1 hK.2.1 d t (fun _ => (kt r h' ho).2 a H locs lsA hP hS hl) (fun hn => absurd hc hn)⟩
  · rw [if_neg hc] at ho
    exact ⟨(kf r h' ho).1, fun a H locs lsA hP hS hl => lv_if_eq hK.1 hK.2.1 d t (fun hn => absurd hn hc) (fun _ => (kf r h' ho).2 a H locs lsA hP hS hl)⟩
theorem go_icmpeq (hK : KOK K own cc ret) {x y : Int32} {off : Int} {tgt : Nat} {oa ob : Option (α × AH)} (d : decode cc pc = .ok (.if_icmp .eq off, 3)) (t : (pc : Int) + off = (tgt : Int)) (kt : Go K tgt ls st h oa) (kf : Go K (pc + 3) ls st h ob) : Go K pc ls (vI y :: vI x :: st) h (if x = y then oa else ob) := by
  intro r h' ho
  by_cases hc : x = y
  · rw [if_pos hc] at ho
    exact ⟨(kt r h' ho).1, fun a H locs lsA hP hS hl => lv_icmp_eq hK.1 hK.2.1 d t (fun _ => (kt r h' ho).2 a H locs lsA hP hS hl) (fun hn => absurd hc hn)⟩
  · rw [if_neg hc] at ho
    exact ⟨(kf r h' ho).1, fun a H locs lsA hP hS hl => lv_icmp_eq hK.1 hK.2.1 d t (fun hn => absurd hn hc) (fun _ => (kf r h' ho).2 a H locs lsA hP hS hl)⟩
theorem go_ifne (hK : KOK K own cc ret) {x : Int32} {off : Int} {tgt : Nat} {oa ob : Option (α × AH)} (d : decode cc pc = .ok (.ifCond .ne off, 3)) (t : (pc : Int) + off = (tgt : Int)) (kt : Go K tgt ls st h oa) (kf : Go K (pc + 3) ls st h ob) : Go K pc ls (vI x :: st) h (if x = 0 then ob else oa) := by
  intro r h' ho
  by_cases hc : x = 0
  · rw [if_pos hc] at ho
    exact ⟨(kf r h' ho).1, fun a H locs lsA hP hS hl => lv_if_ne hK.1 hK.2.1 d t (fun hn => absurd hc hn) (fun _ => (kf r h' ho).2 a H locs lsA hP hS hl)⟩
  · rw [if_neg hc] at ho
    exact ⟨(kt r h' ho).1, fun a H locs lsA hP hS hl => lv_if_ne hK.1 hK.2.1 d t (fun _ => (kt r h' ho).2 a H locs lsA hP hS hl) (fun hn => absurd hn hc)⟩
theorem go_icmpne (hK : KOK K own cc ret) {x y : Int32} {off : Int} {tgt : Nat} {oa ob : Option (α × AH)} (d : decode cc pc = .ok (.if_icmp .ne off, 3)) (t : (pc : Int) + off = (tgt : Int)) (kt : Go K tgt ls st h oa) (kf : Go K (pc + 3) ls st h ob) : Go K pc ls (vI y :: vI x :: st) h (if x = y then ob else oa) := by
  intro r h' ho
  by_cases hc : x = y
  · rw [if_pos hc] at ho
    exact ⟨(kf r h' ho).1, fun a H locs lsA hP hS hl => lv_icmp_ne hK.1 hK.2.1 d t (fun hn => absurd hc hn) (fun _ => (kf r h' ho).2 a H locs lsA hP hS hl)⟩
  · rw [if_neg hc] at ho
    exact ⟨(kt r h' ho).1, fun a H locs lsA hP hS hl => lv_icmp_ne hK.1 hK.2.1 d t (fun _ => (kt r h' ho).2 a H locs lsA hP hS hl) (fun hn => absurd hn hc)⟩
theorem go_iflt (hK : KOK K own cc ret) {x : Int32} {off : Int} {tgt : Nat} {oa ob : Option (α × AH)} (d : decode cc pc = .ok (.ifCond .lt off, 3)) (t : (pc : Int) + off = (tgt : Int)) (kt : Go K tgt ls st h oa) (kf : Go K (pc + 3) ls st h ob) : Go K pc ls (vI x :: st) h (if x < 0 then oa else ob) := by
  intro r h' ho
  by_cases hc : x < 0
  · rw [if_pos hc] at ho
    exact ⟨(kt r h' ho).1, fun a H locs lsA hP hS hl => lv_if_lt hK.1 hK.2.1 d t (fun _ => (kt r h' ho).2 a H locs lsA hP hS hl) (fun hn => absurd hc hn)⟩
  · rw [if_neg hc] at ho
    exact ⟨(kf r h' ho).1, fun a H locs lsA hP hS hl => lv_if_lt hK.1 hK.2.1 d t (fun hn => absurd hn hc) (fun _ => (kf r h' ho).2 a H locs lsA hP hS hl)⟩
theorem go_icmplt (hK : KOK K own cc ret) {x y : Int32} {off : Int} {tgt : Nat} {oa ob : Option (α × AH)} (d : decode cc pc = .ok (.if_icmp .lt off, 3)) (t : (pc : Int) + off = (tgt : Int)) (kt : Go K tgt ls st h oa) (kf : Go K (pc + 3) ls st h ob) : Go K pc ls (vI y :: vI x :: st) h (if x < y then oa else ob) := by
  intro r h' ho
  by_cases hc : x < y
  · rw [if_pos hc] at ho
    exact ⟨(kt r h' ho).1, fun a H locs lsA hP hS hl => lv_icmp_lt hK.1 hK.2.1 d t (fun _ => (kt r h' ho).2 a H locs lsA hP hS hl) (fun hn => absurd hc hn)⟩
  · rw [if_neg hc] at ho
    exact ⟨(kf r h' ho).1, fun a H locs lsA hP hS hl => lv_icmp_lt hK.1 hK.2.1 d t (fun hn => absurd hn hc) (fun _ => (kf r h' ho).2 a H locs lsA hP hS hl)⟩
theorem go_ifge (hK : KOK K own cc ret) {x : Int32} {off : Int} {tgt : Nat} {oa ob : Option (α × AH)} (d : decode cc pc = .ok (.ifCond .ge off, 3)) (t : (pc : Int) + off = (tgt : Int)) (kt : Go K tgt ls st h oa) (kf : Go K (pc + 3) ls st h ob) : Go K pc ls (vI x :: st) h (if 0 ≤ x then oa else ob) := by
  intro r h' ho
  by_cases hc : 0 ≤ x
  · rw [if_pos hc] at ho
    exact ⟨(kt r h' ho).1, fun a H locs lsA hP hS hl => lv_if_ge hK.1 hK.2.1 d t (fun _ => (kt r h' ho).2 a H locs lsA hP hS hl) (fun hn => absurd hc hn)⟩
  · rw [if_neg hc] at ho
    exact ⟨(kf r h' ho).1, fun a H locs lsA hP hS hl => lv_if_ge hK.1 hK.2.1 d t (fun hn => absurd hn hc) (fun _ => (kf r h' ho).2 a H locs lsA hP hS hl)⟩
theorem go_icmpge (hK : KOK K own cc ret) {x y : Int32} {off : Int} {tgt : Nat} {oa ob : Option (α × AH)} (d : decode cc pc = .ok (.if_icmp .ge off, 3)) (t : (pc : Int) + off = (tgt : Int)) (kt : Go K tgt ls st h oa) (kf : Go K (pc + 3) ls st h ob) : Go K pc ls (vI y :: vI x :: st) h (if y ≤ x then oa else ob) := by
  intro r h' ho
  by_cases hc : y ≤ x
  · rw [if_pos hc] at ho
    exact ⟨(kt r h' ho).1, fun a H locs lsA hP hS hl => lv_icmp_ge hK.1 hK.2.1 d t (fun _ => (kt r h' ho).2 a H locs lsA hP hS hl) (fun hn => absurd hc hn)⟩
  · rw [if_neg hc] at ho
    exact ⟨(kf r h' ho).1, fun a H locs lsA hP hS hl => lv_icmp_ge hK.1 hK.2.1 d t (fun hn => absurd hn hc) (fun _ => (kf r h' ho).2 a H locs lsA hP hS hl)⟩
theorem go_ifgt (hK : KOK K own cc ret) {x : Int32} {off : Int} {tgt : Nat} {oa ob : Option (α × AH)} (d : decode cc pc = .ok (.ifCond .gt off, 3)) (t : (pc : Int) + off = (tgt : Int)) (kt : Go K tgt ls st h oa) (kf : Go K (pc + 3) ls st h ob) : Go K pc ls (vI x :: st) h (if 0 < x then oa else ob) := by
  intro r h' ho
  by_cases hc : 0 < x
  · rw [if_pos hc] at ho
    exact ⟨(kt r h' ho).1, fun a H locs lsA hP hS hl => lv_if_gt hK.1 hK.2.1 d t (fun _ => (kt r h' ho).2 a H locs lsA hP hS hl) (fun hn => absurd hc hn)⟩
  · rw [if_neg hc] at ho
    exact ⟨(kf r h' ho).1, fun a H locs lsA hP hS hl => lv_if_gt hK.1 hK.2.1 d t (fun hn => absurd hn hc) (fun _ => (kf r h' ho).2 a H locs lsA hP hS hl)⟩
theorem go_icmpgt (hK : KOK K own cc ret) {x y : Int32} {off : Int} {tgt : Nat} {oa ob : Option (α × AH)} (d : decode cc pc = .ok (.if_icmp .gt off, 3)) (t : (pc : Int) + off = (tgt : Int)) (kt : Go K tgt ls st h oa) (kf : Go K (pc + 3) ls st h ob) : Go K pc ls (vI y :: vI x :: st) h (if y < x then oa else ob) := by
  intro r h' ho
  by_cases hc : y < x
  · rw [if_pos hc] at ho
    exact ⟨(kt r h' ho).1, fun a H locs lsA hP hS hl => lv_icmp_gt hK.1 hK.2.1 d t (fun _ => (kt r h' ho).2 a H locs lsA hP hS hl) (fun hn => absurd hc hn)⟩
  · rw [if_neg hc] at ho
    exact ⟨(kf r h' ho).1, fun a H locs lsA hP hS hl => lv_icmp_gt hK.1 hK.2.1 d t (fun hn => absurd hn hc) (fun _ => (kf r h' ho).2 a H locs lsA hP hS hl)⟩
theorem go_ifle (hK : KOK K own cc ret) {x : Int32} {off : Int} {tgt : Nat} {oa ob : Option (α × AH)} (d : decode cc pc = .ok (.ifCond .le off, 3)) (t : (pc : Int) + off = (tgt : Int)) (kt : Go K tgt ls st h oa) (kf : Go K (pc + 3) ls st h ob) : Go K pc ls (vI x :: st) h (if x ≤ 0 then oa else ob) := by
  intro r h' ho
  by_cases hc : x ≤ 0
  · rw [if_pos hc] at ho
    exact ⟨(kt r h' ho).1, fun a H locs lsA hP hS hl => lv_if_le hK.1 hK.2.1 d t (fun _ => (kt r h' ho).2 a H locs lsA hP hS hl) (fun hn => absurd hc hn)⟩
  · rw [if_neg hc] at ho
    exact ⟨(kf r h' ho).1, fun a H locs lsA hP hS hl => lv_if_le hK.1 hK.2.1 d t (fun hn => absurd hn hc) (fun _ => (kf r h' ho).2 a H locs lsA hP hS hl)⟩
theorem go_icmple (hK : KOK K own cc ret) {x y : Int32} {off : Int} {tgt : Nat} {oa ob : Option (α × AH)} (d : decode cc pc = .ok (.if_icmp .le off, 3)) (t : (pc : Int) + off = (tgt : Int)) (kt : Go K tgt ls st h oa) (kf : Go K (pc + 3) ls st h ob) : Go K pc ls (vI y :: vI x :: st) h (if x ≤ y then oa else ob) := by
  intro r h' ho
  by_cases hc : x ≤ y
  · rw [if_pos hc] at ho
    exact ⟨(kt r h' ho).1, fun a H locs lsA hP hS hl => lv_icmp_le hK.1 hK.2.1 d t (fun _ => (kt r h' ho).2 a H locs lsA hP hS hl) (fun hn => absurd hc hn)⟩
  · rw [if_neg hc] at ho
    exact ⟨(kf r h' ho).1, fun a H locs lsA hP hS hl => lv_icmp_le hK.1 hK.2.1 d t (fun hn => absurd hn hc) (fun _ => (kf r h' ho).2 a H locs lsA hP hS hl)⟩
theorem go_ifnull (hK : KOK K own cc ret) {x : Option Nat} {off : Int} {tgt : Nat} {oa ob : Option (α × AH)} (d : decode cc pc = .ok (.ifnull off, 3)) (t : (pc : Int) + off = (tgt : Int)) (kt : Go K tgt ls st h oa) (kf : Go K (pc + 3) ls st h ob) : Go K pc ls (vR x :: st) h (if x = none then oa else ob) := by
  cases x with
  | none => rw [if_pos rfl]; exact go_step kt (fun _ _ _ _ _ _ _ _ w => lv_ifnullN hK.1 hK.2.1 d t w)
  | some a => rw [if_neg (fun e => by cases e)]; exact go_step kf (fun _ _ _ _ _ _ _ _ w => lv_ifnull hK.1 hK.2.1 d w)
theorem go_ifnonnull (hK : KOK K own cc ret) {x : Option Nat} {off : Int} {tgt : Nat} {oa ob : Option (α × AH)} (d : decode cc pc = .ok (.ifnonnull off, 3)) (t : (pc : Int) + off = (tgt : Int)) (kt : Go K tgt ls st h oa) (kf : Go K (pc + 3) ls st h ob) : Go K pc ls (vR x :: st) h (if x = none then ob else oa) := by
  cases x with
  | none => rw [if_pos rfl]; exact go_step kf (fun _ _ _ _ _ _ _ _ w => lv_ifnonnullN hK.1 hK.2.1 d w)
  | some a => rw [if_neg (fun e => by cases e)]; exact go_step kt (fun _ _ _ _ _ _ _ _ w => lv_ifnonnull hK.1 hK.2.1 d t w)
/-- a switch, key by key -/
theorem go_tsIn (hK : KOK K own cc ret) {dflt lo hi off : Int} {offs : Array Int} {len tgt : Nat} {x c : Int32} {oa ob : Option (α × AH)} (d : decode cc pc = .ok (.tableswitch dflt lo hi offs, len)) (h1 : ¬ c.toInt < lo) (h2 : ¬ hi < c.toInt) (ho : offs[(c.toInt - lo).toNat]? = some off) (t : (pc : Int) + off = (tgt : Int)) (kt : Go K tgt ls st h oa) (kf : ¬ x = c → Go K pc ls (vI x :: st) h ob) : Go K pc ls (vI x :: st) h (if x = c then oa else ob) := by
  by_cases hc : x = c
  · subst hc
    rw [if_pos rfl]
    exact go_step kt (fun _ _ _ _ _ _ _ _ w => lv_tableIn hK.1 hK.2.1 d h1 h2 ho t w)
  · rw [if_neg hc]
    exact kf hc
theorem go_tsOut (hK : KOK K own cc ret) {dflt lo hi : Int} {offs : Array Int} {len tgt : Nat} {x : Int32} (d : decode cc pc = .ok (.tableswitch dflt lo hi offs, len)) (hx : x.toInt < lo ∨ hi < x.toInt) (t : (pc : Int) + dflt = (tgt : Int)) (k : Go K tgt ls st h o) : Go K pc ls (vI x :: st) h o :=
  go_step k (fun _ _ _ _ _ _ _ _ w => lv_tableOut hK.1 hK.2.1 d hx t w)
theorem go_lsIn (hK : KOK K own cc ret) {dflt off : Int} {ps : Array (Int × Int)} {len tgt : Nat} {x c : Int32} {oa ob : Option (α × AH)} (d : decode cc pc = .ok (.lookupswitch dflt ps, len)) (hp : (ps.toList.zip (ps.toList.drop 1)).all (fun (a, next) => a.1 < next.1) = true) (ho : Op.lookupswitch.offset ps.toList dflt c.toInt = off) (t : (pc : Int) + off = (tgt : Int)) (kt : Go K tgt ls st h oa) (kf : ¬ x = c → Go K pc ls (vI x :: st) h ob) : Go K pc ls (vI x :: st) h (if x = c then oa else ob) := by
  by_cases hc : x = c
  · subst hc
    rw [if_pos rfl]
    exact go_step kt (fun _ _ _ _ _ _ _ _ w => lv_lookup hK.1 hK.2.1 d hp ho t w)
  · rw [if_neg hc]
    exact kf hc
theorem go_lsOut (hK : KOK K own cc ret) {dflt : Int} {ps : Array (Int × Int)} {len tgt : Nat} {x : Int32} (d : decode cc pc = .ok (.lookupswitch dflt ps, len)) (hp : (ps.toList.zip (ps.toList.drop 1)).all (fun (a, next) => a.1 < next.1) = true) (ho : Op.lookupswitch.offset ps.toList dflt x.toInt = dflt) (t : (pc : Int) + dflt = (tgt : Int)) (k : Go K tgt ls st h o) : Go K pc ls (vI x :: st) h o :=
  go_step k (fun _ _ _ _ _ _ _ _ w => lv_lookup hK.1 hK.2.1 d hp ho t w)
/-- a name for an int that was computed; for a long -/
def nm {β γ : Type} (x : β) (f : β → γ) : γ := f x
theorem go_nmI {x : Int32} {f : Int32 → Option (α × AH)} (k : ∀ y : Int32, Go K pc ls (vI y :: st) h (f y)) : Go K pc ls (vI x :: st) h (nm x f) := k x
theorem go_nmJ {x : Int64} {f : Int64 → Option (α × AH)} (k : ∀ y : Int64, Go K pc ls (vJ y :: st) h (f y)) : Go K pc ls (vJ x :: st) h (nm x f) := k x
end STEPS2
