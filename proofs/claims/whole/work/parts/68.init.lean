/-! THE LAW: what is made at its start, as a log of writes, by wip/whole/init.py -/
/-- .inl a new cell, .inr (.inl _) a reference set, .inr (.inr _) an int set; the newest first -/
abbrev Op : Type := (AT × Nat) ⊕ ((Nat × Nat × Option Nat) ⊕ (Nat × Nat × Int32))
def cnt : List Op → Nat
  | [] => 0
  | .inl _ :: r => cnt r + 1
  | .inr _ :: r => cnt r
def slt : List Op → Nat
  | [] => 0
  | .inl q :: r => slt r + q.2
  | .inr _ :: r => slt r
def typ : List Op → Nat → Option AT
  | [], _ => none
  | .inl q :: r, c => if c = cnt r then some q.1 else typ r c
  | .inr _ :: r, c => typ r c
def rR : List Op → Nat → Nat → Option Nat
  | [], _ => fun _ => none
  | .inl _ :: r, c => if c = cnt r then fun _ => none else rR r c
  | .inr (.inl q) :: r, c => if c = q.1 then va_up (rR r c) q.2.1 q.2.2 else rR r c
  | .inr (.inr _) :: r, c => rR r c
def rI2 : List Op → Nat → Nat → Int32
  | [], _ => fun _ => 0
  | .inl _ :: r, c => if c = cnt r then fun _ => 0 else rI2 r c
  | .inr (.inr q) :: r, c => if c = q.1 then va_up (rI2 r c) q.2.1 q.2.2 else rI2 r c
  | .inr (.inl _) :: r, c => rI2 r c
def run : List Op → AH
  | [] => h_0
  | .inl q :: r => nwH (run r) q.1 q.2
  | .inr (.inl q) :: r => wR (run r) q.1 (va_up (aR (run r) q.1) q.2.1 q.2.2)
  | .inr (.inr q) :: r => wI (run r) q.1 (va_up (aI (run r) q.1) q.2.1 q.2.2)
theorem run_N : ∀ L, aN (run L) = cnt L
  | [] => rfl
  | .inl _ :: r => congrArg (· + 1) (run_N r)
  | .inr (.inl _) :: r => run_N r
  | .inr (.inr _) :: r => run_N r
theorem run_S : ∀ L, aS (run L) = slt L
  | [] => rfl
  | .inl q :: r => congrArg (· + q.2) (run_S r)
  | .inr (.inl _) :: r => run_S r
  | .inr (.inr _) :: r => run_S r
theorem va_if {α : Type} (p : Nat → α) (j : Nat) (v : α) (i : Nat) : va_up p j v i = if i = j then v else p i := rfl
theorem run_T : ∀ L c, aT (run L) c = typ L c
  | [], _ => rfl
  | .inl q :: r, c => by
    show va_up (aT (run r)) (aN (run r)) (some q.1) c = if c = cnt r then some q.1 else typ r c
    rw [va_if, run_N, run_T r c]
  | .inr (.inl _) :: r, c => run_T r c
  | .inr (.inr _) :: r, c => run_T r c
theorem run_R : ∀ L c, aR (run L) c = rR L c
  | [], _ => rfl
  | .inl q :: r, c => by
    show va_up (aR (run r)) (aN (run r)) (fun _ => none) c = if c = cnt r then fun _ => none else rR r c
    rw [va_if, run_N, run_R r c]
  | .inr (.inl q) :: r, c => by
    show va_up (aR (run r)) q.1 (va_up (aR (run r) q.1) q.2.1 q.2.2) c = if c = q.1 then va_up (rR r c) q.2.1 q.2.2 else rR r c
    rw [va_if]
    by_cases e : c = q.1
    · rw [if_pos e, if_pos e, ← e, run_R r c]
    · rw [if_neg e, if_neg e, run_R r c]
  | .inr (.inr _) :: r, c => run_R r c
theorem run_I : ∀ L c, aI (run L) c = rI2 L c
  | [], _ => rfl
  | .inl q :: r, c => by
    show va_up (aI (run r)) (aN (run r)) (fun _ => 0) c = if c = cnt r then fun _ => 0 else rI2 r c
    rw [va_if, run_N, run_I r c]
  | .inr (.inr q) :: r, c => by
    show va_up (aI (run r)) q.1 (va_up (aI (run r) q.1) q.2.1 q.2.2) c = if c = q.1 then va_up (rI2 r c) q.2.1 q.2.2 else rI2 r c
    rw [va_if]
    by_cases e : c = q.1
    · rw [if_pos e, if_pos e, ← e, run_I r c]
    · rw [if_neg e, if_neg e, run_I r c]
  | .inr (.inl _) :: r, c => run_I r c
section RUN
variable {L : List Op} {a c k N : Nat}
theorem nO_run (n : Nat) (hn : cnt L = n) {ci N : Nat} : nO (run L) ci N = some (some n, run (.inl (.inr ci, N) :: L)) := by
  unfold nO
  rw [run_N, hn]
  rfl
theorem nA_run (n m : Nat) (hn : cnt L = n) {kd : Nat} {v : Int32} (hv : v = i32 m) (hm : m ≤ 1000) : nA (run L) kd v = some (some n, run (.inl (.inl (kd, m), m) :: L)) := by
  subst hv
  unfold nA
  rw [if_neg (by
    rintro (y | y)
    · exact i32_nn (by omega) y
    · rw [i32_cl (by omega)] at y; omega), run_N, hn, i32_cl (by omega)]
  rfl
theorem pR_run {v : Option Nat} (hT : typ L a = some (.inr c)) : pR (run L) (some a) [c] k v = some (run (.inr (.inl (a, k, v)) :: L)) := pR_1' (by rw [run_T]; exact hT)
theorem pI_run {v : Int32} (hT : typ L a = some (.inr c)) : pI (run L) (some a) [c] k v = some (run (.inr (.inr (a, k, v)) :: L)) := pI_1' (by rw [run_T]; exact hT)
theorem pG_run {v : Int32} (hT : typ L a = some (.inr 4)) : pI (run L) (some a) GF k v = some (run (.inr (.inr (a, k, v)) :: L)) := pI_ok (by rw [run_T]; exact hT) (by decide)
theorem gR_run (o : Option Nat) (hT : typ L a = some (.inr c)) (ho : rR L a k = o) : gR (run L) (some a) [c] k = some o := by
  rw [gR_1 (by rw [run_T]; exact hT), run_R, ho]
theorem rS_run (g : Nat) {v : Int32} {q : Nat} (hv : v = i32 g) (hT : typ L a = some (.inl (2, 7))) (hg : g < 7) (hq : typ L q = some (.inr 4)) : rS (run L) (some a) 2 GF v (some q) = some (run (.inr (.inl (a, g, some q)) :: L)) := by
  subst hv
  refine rS_ok (by rw [run_T]; exact hT) hg (by omega) ?_
  have y : aT (run L) q = some (.inr 4) := by rw [run_T]; exact hq
  unfold fits1
  simp only [y]
  rfl
theorem iS_run (g : Nat) {v w : Int32} (hv : v = i32 g) (hT : typ L a = some (.inl (0, N))) (hg : g < N) (hN : N ≤ 1000) : iS (run L) (some a) v w = some (run (.inr (.inr (a, g, w)) :: L)) := by
  subst hv
  exact iS_ok (by rw [run_T]; exact hT) hg hN
end RUN

abbrev lg1 : List Op := [.inl (.inr 11, 8)]
abbrev lg2 : List Op := [.inl (.inr 5, 11), .inl (.inr 11, 8)]
abbrev lg3 : List Op := [.inr (.inl (2, 6, some 7)), .inr (.inl (2, 5, some 7)), .inr (.inl (2, 4, some 7)), .inr (.inl (2, 3, some 7)), .inr (.inl (2, 2, some 7)), .inr (.inl (2, 1, some 7)), .inr (.inl (2, 0, some 7)), .inr (.inr (7, 1, 0)), .inr (.inr (7, 0, 0)), .inl (.inr 4, 2), .inr (.inr (1, 10, 0)), .inr (.inr (1, 9, 0)), .inr (.inr (1, 8, 3)), .inr (.inr (1, 7, 2)), .inr (.inr (1, 6, 0)), .inr (.inr (1, 5, 0)), .inr (.inl (1, 4, some 6)), .inl (.inl (0, 7), 7), .inr (.inl (1, 3, some 5)), .inl (.inl (0, 7), 7), .inr (.inl (1, 2, some 4)), .inl (.inl (0, 7), 7), .inr (.inl (1, 1, some 3)), .inl (.inl (0, 7), 7), .inr (.inl (1, 0, some 2)), .inl (.inl (2, 7), 7), .inl (.inr 5, 11), .inl (.inr 11, 8)]
set_option maxRecDepth 100000 in
theorem i5_1 : f_X5_init (some 1) (run lg2) = some ((), run lg3) := by
  unfold f_X5_init
  rw [if_neg (fun y => nomatch y)]
  rw [nA_run (v := 7) 2 7 rfl rfl (by omega), bd_some]
  rw [pR_run rfl, sb_some]
  rw [nA_run (v := 7) 3 7 rfl rfl (by omega), bd_some]
  rw [pR_run rfl, sb_some]
  rw [nA_run (v := 7) 4 7 rfl rfl (by omega), bd_some]
  rw [pR_run rfl, sb_some]
  rw [nA_run (v := 7) 5 7 rfl rfl (by omega), bd_some]
  rw [pR_run rfl, sb_some]
  rw [nA_run (v := 7) 6 7 rfl rfl (by omega), bd_some]
  rw [pR_run rfl, sb_some]
  rw [pI_run rfl, sb_some]
  rw [pI_run rfl, sb_some]
  rw [pI_run rfl, sb_some]
  rw [pI_run rfl, sb_some]
  rw [pI_run rfl, sb_some]
  rw [pI_run rfl, sb_some]
  rw [nO_run 7 rfl, bd_some]
  unfold f_X4_init
  rw [nn_some, if_neg (fun y => nomatch y)]
  rw [pG_run rfl, sb_some]
  rw [pG_run rfl, sb_some]
  rw [bd_some]
  obtain ⟨fu, efu⟩ : ∃ m, FU = m + 1 + 1 + 1 + 1 + 1 + 1 + 1 + 1 := ⟨FU - 8, by have := fu_pos (k := 9) (by omega); omega⟩
  rw [efu]
  rw [e_X5_init_b87, if_neg (by decide), gR_run (some 2) rfl rfl, sb_some, rS_run (v := 0) 0 rfl rfl (by omega) rfl, sb_some, show (0 : Int32) + 1 = 1 from rfl]
  rw [e_X5_init_b87, if_neg (by decide), gR_run (some 2) rfl rfl, sb_some, rS_run (v := 1) 1 rfl rfl (by omega) rfl, sb_some, show (1 : Int32) + 1 = 2 from rfl]
  rw [e_X5_init_b87, if_neg (by decide), gR_run (some 2) rfl rfl, sb_some, rS_run (v := 2) 2 rfl rfl (by omega) rfl, sb_some, show (2 : Int32) + 1 = 3 from rfl]
  rw [e_X5_init_b87, if_neg (by decide), gR_run (some 2) rfl rfl, sb_some, rS_run (v := 3) 3 rfl rfl (by omega) rfl, sb_some, show (3 : Int32) + 1 = 4 from rfl]
  rw [e_X5_init_b87, if_neg (by decide), gR_run (some 2) rfl rfl, sb_some, rS_run (v := 4) 4 rfl rfl (by omega) rfl, sb_some, show (4 : Int32) + 1 = 5 from rfl]
  rw [e_X5_init_b87, if_neg (by decide), gR_run (some 2) rfl rfl, sb_some, rS_run (v := 5) 5 rfl rfl (by omega) rfl, sb_some, show (5 : Int32) + 1 = 6 from rfl]
  rw [e_X5_init_b87, if_neg (by decide), gR_run (some 2) rfl rfl, sb_some, rS_run (v := 6) 6 rfl rfl (by omega) rfl, sb_some, show (6 : Int32) + 1 = 7 from rfl]
  rw [e_X5_init_b87, if_pos (by decide)]
abbrev lg4 : List Op := [.inl (.inr 5, 11), .inr (.inl (0, 0, some 1)), .inr (.inl (2, 6, some 7)), .inr (.inl (2, 5, some 7)), .inr (.inl (2, 4, some 7)), .inr (.inl (2, 3, some 7)), .inr (.inl (2, 2, some 7)), .inr (.inl (2, 1, some 7)), .inr (.inl (2, 0, some 7)), .inr (.inr (7, 1, 0)), .inr (.inr (7, 0, 0)), .inl (.inr 4, 2), .inr (.inr (1, 10, 0)), .inr (.inr (1, 9, 0)), .inr (.inr (1, 8, 3)), .inr (.inr (1, 7, 2)), .inr (.inr (1, 6, 0)), .inr (.inr (1, 5, 0)), .inr (.inl (1, 4, some 6)), .inl (.inl (0, 7), 7), .inr (.inl (1, 3, some 5)), .inl (.inl (0, 7), 7), .inr (.inl (1, 2, some 4)), .inl (.inl (0, 7), 7), .inr (.inl (1, 1, some 3)), .inl (.inl (0, 7), 7), .inr (.inl (1, 0, some 2)), .inl (.inl (2, 7), 7), .inl (.inr 5, 11), .inl (.inr 11, 8)]
abbrev lg5 : List Op := [.inr (.inl (9, 6, some 14)), .inr (.inl (9, 5, some 14)), .inr (.inl (9, 4, some 14)), .inr (.inl (9, 3, some 14)), .inr (.inl (9, 2, some 14)), .inr (.inl (9, 1, some 14)), .inr (.inl (9, 0, some 14)), .inr (.inr (14, 1, 0)), .inr (.inr (14, 0, 0)), .inl (.inr 4, 2), .inr (.inr (8, 10, 0)), .inr (.inr (8, 9, 0)), .inr (.inr (8, 8, 3)), .inr (.inr (8, 7, 2)), .inr (.inr (8, 6, 0)), .inr (.inr (8, 5, 0)), .inr (.inl (8, 4, some 13)), .inl (.inl (0, 7), 7), .inr (.inl (8, 3, some 12)), .inl (.inl (0, 7), 7), .inr (.inl (8, 2, some 11)), .inl (.inl (0, 7), 7), .inr (.inl (8, 1, some 10)), .inl (.inl (0, 7), 7), .inr (.inl (8, 0, some 9)), .inl (.inl (2, 7), 7), .inl (.inr 5, 11), .inr (.inl (0, 0, some 1)), .inr (.inl (2, 6, some 7)), .inr (.inl (2, 5, some 7)), .inr (.inl (2, 4, some 7)), .inr (.inl (2, 3, some 7)), .inr (.inl (2, 2, some 7)), .inr (.inl (2, 1, some 7)), .inr (.inl (2, 0, some 7)), .inr (.inr (7, 1, 0)), .inr (.inr (7, 0, 0)), .inl (.inr 4, 2), .inr (.inr (1, 10, 0)), .inr (.inr (1, 9, 0)), .inr (.inr (1, 8, 3)), .inr (.inr (1, 7, 2)), .inr (.inr (1, 6, 0)), .inr (.inr (1, 5, 0)), .inr (.inl (1, 4, some 6)), .inl (.inl (0, 7), 7), .inr (.inl (1, 3, some 5)), .inl (.inl (0, 7), 7), .inr (.inl (1, 2, some 4)), .inl (.inl (0, 7), 7), .inr (.inl (1, 1, some 3)), .inl (.inl (0, 7), 7), .inr (.inl (1, 0, some 2)), .inl (.inl (2, 7), 7), .inl (.inr 5, 11), .inl (.inr 11, 8)]
set_option maxRecDepth 100000 in
theorem i5_8 : f_X5_init (some 8) (run lg4) = some ((), run lg5) := by
  unfold f_X5_init
  rw [if_neg (fun y => nomatch y)]
  rw [nA_run (v := 7) 9 7 rfl rfl (by omega), bd_some]
  rw [pR_run rfl, sb_some]
  rw [nA_run (v := 7) 10 7 rfl rfl (by omega), bd_some]
  rw [pR_run rfl, sb_some]
  rw [nA_run (v := 7) 11 7 rfl rfl (by omega), bd_some]
  rw [pR_run rfl, sb_some]
  rw [nA_run (v := 7) 12 7 rfl rfl (by omega), bd_some]
  rw [pR_run rfl, sb_some]
  rw [nA_run (v := 7) 13 7 rfl rfl (by omega), bd_some]
  rw [pR_run rfl, sb_some]
  rw [pI_run rfl, sb_some]
  rw [pI_run rfl, sb_some]
  rw [pI_run rfl, sb_some]
  rw [pI_run rfl, sb_some]
  rw [pI_run rfl, sb_some]
  rw [pI_run rfl, sb_some]
  rw [nO_run 14 rfl, bd_some]
  unfold f_X4_init
  rw [nn_some, if_neg (fun y => nomatch y)]
  rw [pG_run rfl, sb_some]
  rw [pG_run rfl, sb_some]
  rw [bd_some]
  obtain ⟨fu, efu⟩ : ∃ m, FU = m + 1 + 1 + 1 + 1 + 1 + 1 + 1 + 1 := ⟨FU - 8, by have := fu_pos (k := 9) (by omega); omega⟩
  rw [efu]
  rw [e_X5_init_b87, if_neg (by decide), gR_run (some 9) rfl rfl, sb_some, rS_run (v := 0) 0 rfl rfl (by omega) rfl, sb_some, show (0 : Int32) + 1 = 1 from rfl]
  rw [e_X5_init_b87, if_neg (by decide), gR_run (some 9) rfl rfl, sb_some, rS_run (v := 1) 1 rfl rfl (by omega) rfl, sb_some, show (1 : Int32) + 1 = 2 from rfl]
  rw [e_X5_init_b87, if_neg (by decide), gR_run (some 9) rfl rfl, sb_some, rS_run (v := 2) 2 rfl rfl (by omega) rfl, sb_some, show (2 : Int32) + 1 = 3 from rfl]
  rw [e_X5_init_b87, if_neg (by decide), gR_run (some 9) rfl rfl, sb_some, rS_run (v := 3) 3 rfl rfl (by omega) rfl, sb_some, show (3 : Int32) + 1 = 4 from rfl]
  rw [e_X5_init_b87, if_neg (by decide), gR_run (some 9) rfl rfl, sb_some, rS_run (v := 4) 4 rfl rfl (by omega) rfl, sb_some, show (4 : Int32) + 1 = 5 from rfl]
  rw [e_X5_init_b87, if_neg (by decide), gR_run (some 9) rfl rfl, sb_some, rS_run (v := 5) 5 rfl rfl (by omega) rfl, sb_some, show (5 : Int32) + 1 = 6 from rfl]
  rw [e_X5_init_b87, if_neg (by decide), gR_run (some 9) rfl rfl, sb_some, rS_run (v := 6) 6 rfl rfl (by omega) rfl, sb_some, show (6 : Int32) + 1 = 7 from rfl]
  rw [e_X5_init_b87, if_pos (by decide)]
abbrev lg6 : List Op := [.inl (.inr 5, 11), .inr (.inl (0, 1, some 8)), .inr (.inl (9, 6, some 14)), .inr (.inl (9, 5, some 14)), .inr (.inl (9, 4, some 14)), .inr (.inl (9, 3, some 14)), .inr (.inl (9, 2, some 14)), .inr (.inl (9, 1, some 14)), .inr (.inl (9, 0, some 14)), .inr (.inr (14, 1, 0)), .inr (.inr (14, 0, 0)), .inl (.inr 4, 2), .inr (.inr (8, 10, 0)), .inr (.inr (8, 9, 0)), .inr (.inr (8, 8, 3)), .inr (.inr (8, 7, 2)), .inr (.inr (8, 6, 0)), .inr (.inr (8, 5, 0)), .inr (.inl (8, 4, some 13)), .inl (.inl (0, 7), 7), .inr (.inl (8, 3, some 12)), .inl (.inl (0, 7), 7), .inr (.inl (8, 2, some 11)), .inl (.inl (0, 7), 7), .inr (.inl (8, 1, some 10)), .inl (.inl (0, 7), 7), .inr (.inl (8, 0, some 9)), .inl (.inl (2, 7), 7), .inl (.inr 5, 11), .inr (.inl (0, 0, some 1)), .inr (.inl (2, 6, some 7)), .inr (.inl (2, 5, some 7)), .inr (.inl (2, 4, some 7)), .inr (.inl (2, 3, some 7)), .inr (.inl (2, 2, some 7)), .inr (.inl (2, 1, some 7)), .inr (.inl (2, 0, some 7)), .inr (.inr (7, 1, 0)), .inr (.inr (7, 0, 0)), .inl (.inr 4, 2), .inr (.inr (1, 10, 0)), .inr (.inr (1, 9, 0)), .inr (.inr (1, 8, 3)), .inr (.inr (1, 7, 2)), .inr (.inr (1, 6, 0)), .inr (.inr (1, 5, 0)), .inr (.inl (1, 4, some 6)), .inl (.inl (0, 7), 7), .inr (.inl (1, 3, some 5)), .inl (.inl (0, 7), 7), .inr (.inl (1, 2, some 4)), .inl (.inl (0, 7), 7), .inr (.inl (1, 1, some 3)), .inl (.inl (0, 7), 7), .inr (.inl (1, 0, some 2)), .inl (.inl (2, 7), 7), .inl (.inr 5, 11), .inl (.inr 11, 8)]
abbrev lg7 : List Op := [.inr (.inl (16, 6, some 21)), .inr (.inl (16, 5, some 21)), .inr (.inl (16, 4, some 21)), .inr (.inl (16, 3, some 21)), .inr (.inl (16, 2, some 21)), .inr (.inl (16, 1, some 21)), .inr (.inl (16, 0, some 21)), .inr (.inr (21, 1, 0)), .inr (.inr (21, 0, 0)), .inl (.inr 4, 2), .inr (.inr (15, 10, 0)), .inr (.inr (15, 9, 0)), .inr (.inr (15, 8, 3)), .inr (.inr (15, 7, 2)), .inr (.inr (15, 6, 0)), .inr (.inr (15, 5, 0)), .inr (.inl (15, 4, some 20)), .inl (.inl (0, 7), 7), .inr (.inl (15, 3, some 19)), .inl (.inl (0, 7), 7), .inr (.inl (15, 2, some 18)), .inl (.inl (0, 7), 7), .inr (.inl (15, 1, some 17)), .inl (.inl (0, 7), 7), .inr (.inl (15, 0, some 16)), .inl (.inl (2, 7), 7), .inl (.inr 5, 11), .inr (.inl (0, 1, some 8)), .inr (.inl (9, 6, some 14)), .inr (.inl (9, 5, some 14)), .inr (.inl (9, 4, some 14)), .inr (.inl (9, 3, some 14)), .inr (.inl (9, 2, some 14)), .inr (.inl (9, 1, some 14)), .inr (.inl (9, 0, some 14)), .inr (.inr (14, 1, 0)), .inr (.inr (14, 0, 0)), .inl (.inr 4, 2), .inr (.inr (8, 10, 0)), .inr (.inr (8, 9, 0)), .inr (.inr (8, 8, 3)), .inr (.inr (8, 7, 2)), .inr (.inr (8, 6, 0)), .inr (.inr (8, 5, 0)), .inr (.inl (8, 4, some 13)), .inl (.inl (0, 7), 7), .inr (.inl (8, 3, some 12)), .inl (.inl (0, 7), 7), .inr (.inl (8, 2, some 11)), .inl (.inl (0, 7), 7), .inr (.inl (8, 1, some 10)), .inl (.inl (0, 7), 7), .inr (.inl (8, 0, some 9)), .inl (.inl (2, 7), 7), .inl (.inr 5, 11), .inr (.inl (0, 0, some 1)), .inr (.inl (2, 6, some 7)), .inr (.inl (2, 5, some 7)), .inr (.inl (2, 4, some 7)), .inr (.inl (2, 3, some 7)), .inr (.inl (2, 2, some 7)), .inr (.inl (2, 1, some 7)), .inr (.inl (2, 0, some 7)), .inr (.inr (7, 1, 0)), .inr (.inr (7, 0, 0)), .inl (.inr 4, 2), .inr (.inr (1, 10, 0)), .inr (.inr (1, 9, 0)), .inr (.inr (1, 8, 3)), .inr (.inr (1, 7, 2)), .inr (.inr (1, 6, 0)), .inr (.inr (1, 5, 0)), .inr (.inl (1, 4, some 6)), .inl (.inl (0, 7), 7), .inr (.inl (1, 3, some 5)), .inl (.inl (0, 7), 7), .inr (.inl (1, 2, some 4)), .inl (.inl (0, 7), 7), .inr (.inl (1, 1, some 3)), .inl (.inl (0, 7), 7), .inr (.inl (1, 0, some 2)), .inl (.inl (2, 7), 7), .inl (.inr 5, 11), .inl (.inr 11, 8)]
set_option maxRecDepth 100000 in
theorem i5_15 : f_X5_init (some 15) (run lg6) = some ((), run lg7) := by
  unfold f_X5_init
  rw [if_neg (fun y => nomatch y)]
  rw [nA_run (v := 7) 16 7 rfl rfl (by omega), bd_some]
  rw [pR_run rfl, sb_some]
  rw [nA_run (v := 7) 17 7 rfl rfl (by omega), bd_some]
  rw [pR_run rfl, sb_some]
  rw [nA_run (v := 7) 18 7 rfl rfl (by omega), bd_some]
  rw [pR_run rfl, sb_some]
  rw [nA_run (v := 7) 19 7 rfl rfl (by omega), bd_some]
  rw [pR_run rfl, sb_some]
  rw [nA_run (v := 7) 20 7 rfl rfl (by omega), bd_some]
  rw [pR_run rfl, sb_some]
  rw [pI_run rfl, sb_some]
  rw [pI_run rfl, sb_some]
  rw [pI_run rfl, sb_some]
  rw [pI_run rfl, sb_some]
  rw [pI_run rfl, sb_some]
  rw [pI_run rfl, sb_some]
  rw [nO_run 21 rfl, bd_some]
  unfold f_X4_init
  rw [nn_some, if_neg (fun y => nomatch y)]
  rw [pG_run rfl, sb_some]
  rw [pG_run rfl, sb_some]
  rw [bd_some]
  obtain ⟨fu, efu⟩ : ∃ m, FU = m + 1 + 1 + 1 + 1 + 1 + 1 + 1 + 1 := ⟨FU - 8, by have := fu_pos (k := 9) (by omega); omega⟩
  rw [efu]
  rw [e_X5_init_b87, if_neg (by decide), gR_run (some 16) rfl rfl, sb_some, rS_run (v := 0) 0 rfl rfl (by omega) rfl, sb_some, show (0 : Int32) + 1 = 1 from rfl]
  rw [e_X5_init_b87, if_neg (by decide), gR_run (some 16) rfl rfl, sb_some, rS_run (v := 1) 1 rfl rfl (by omega) rfl, sb_some, show (1 : Int32) + 1 = 2 from rfl]
  rw [e_X5_init_b87, if_neg (by decide), gR_run (some 16) rfl rfl, sb_some, rS_run (v := 2) 2 rfl rfl (by omega) rfl, sb_some, show (2 : Int32) + 1 = 3 from rfl]
  rw [e_X5_init_b87, if_neg (by decide), gR_run (some 16) rfl rfl, sb_some, rS_run (v := 3) 3 rfl rfl (by omega) rfl, sb_some, show (3 : Int32) + 1 = 4 from rfl]
  rw [e_X5_init_b87, if_neg (by decide), gR_run (some 16) rfl rfl, sb_some, rS_run (v := 4) 4 rfl rfl (by omega) rfl, sb_some, show (4 : Int32) + 1 = 5 from rfl]
  rw [e_X5_init_b87, if_neg (by decide), gR_run (some 16) rfl rfl, sb_some, rS_run (v := 5) 5 rfl rfl (by omega) rfl, sb_some, show (5 : Int32) + 1 = 6 from rfl]
  rw [e_X5_init_b87, if_neg (by decide), gR_run (some 16) rfl rfl, sb_some, rS_run (v := 6) 6 rfl rfl (by omega) rfl, sb_some, show (6 : Int32) + 1 = 7 from rfl]
  rw [e_X5_init_b87, if_pos (by decide)]
abbrev lg8 : List Op := [.inr (.inl (0, 7, some 25)), .inl (.inl (0, 128), 128), .inr (.inl (0, 6, some 24)), .inl (.inl (0, 49), 49), .inr (.inl (0, 5, some 23)), .inl (.inl (3, 8), 8), .inr (.inl (0, 4, some 22)), .inl (.inl (2, 8), 8), .inr (.inr (0, 3, 0)), .inr (.inl (0, 2, some 15)), .inr (.inl (16, 6, some 21)), .inr (.inl (16, 5, some 21)), .inr (.inl (16, 4, some 21)), .inr (.inl (16, 3, some 21)), .inr (.inl (16, 2, some 21)), .inr (.inl (16, 1, some 21)), .inr (.inl (16, 0, some 21)), .inr (.inr (21, 1, 0)), .inr (.inr (21, 0, 0)), .inl (.inr 4, 2), .inr (.inr (15, 10, 0)), .inr (.inr (15, 9, 0)), .inr (.inr (15, 8, 3)), .inr (.inr (15, 7, 2)), .inr (.inr (15, 6, 0)), .inr (.inr (15, 5, 0)), .inr (.inl (15, 4, some 20)), .inl (.inl (0, 7), 7), .inr (.inl (15, 3, some 19)), .inl (.inl (0, 7), 7), .inr (.inl (15, 2, some 18)), .inl (.inl (0, 7), 7), .inr (.inl (15, 1, some 17)), .inl (.inl (0, 7), 7), .inr (.inl (15, 0, some 16)), .inl (.inl (2, 7), 7), .inl (.inr 5, 11), .inr (.inl (0, 1, some 8)), .inr (.inl (9, 6, some 14)), .inr (.inl (9, 5, some 14)), .inr (.inl (9, 4, some 14)), .inr (.inl (9, 3, some 14)), .inr (.inl (9, 2, some 14)), .inr (.inl (9, 1, some 14)), .inr (.inl (9, 0, some 14)), .inr (.inr (14, 1, 0)), .inr (.inr (14, 0, 0)), .inl (.inr 4, 2), .inr (.inr (8, 10, 0)), .inr (.inr (8, 9, 0)), .inr (.inr (8, 8, 3)), .inr (.inr (8, 7, 2)), .inr (.inr (8, 6, 0)), .inr (.inr (8, 5, 0)), .inr (.inl (8, 4, some 13)), .inl (.inl (0, 7), 7), .inr (.inl (8, 3, some 12)), .inl (.inl (0, 7), 7), .inr (.inl (8, 2, some 11)), .inl (.inl (0, 7), 7), .inr (.inl (8, 1, some 10)), .inl (.inl (0, 7), 7), .inr (.inl (8, 0, some 9)), .inl (.inl (2, 7), 7), .inl (.inr 5, 11), .inr (.inl (0, 0, some 1)), .inr (.inl (2, 6, some 7)), .inr (.inl (2, 5, some 7)), .inr (.inl (2, 4, some 7)), .inr (.inl (2, 3, some 7)), .inr (.inl (2, 2, some 7)), .inr (.inl (2, 1, some 7)), .inr (.inl (2, 0, some 7)), .inr (.inr (7, 1, 0)), .inr (.inr (7, 0, 0)), .inl (.inr 4, 2), .inr (.inr (1, 10, 0)), .inr (.inr (1, 9, 0)), .inr (.inr (1, 8, 3)), .inr (.inr (1, 7, 2)), .inr (.inr (1, 6, 0)), .inr (.inr (1, 5, 0)), .inr (.inl (1, 4, some 6)), .inl (.inl (0, 7), 7), .inr (.inl (1, 3, some 5)), .inl (.inl (0, 7), 7), .inr (.inl (1, 2, some 4)), .inl (.inl (0, 7), 7), .inr (.inl (1, 1, some 3)), .inl (.inl (0, 7), 7), .inr (.inl (1, 0, some 2)), .inl (.inl (2, 7), 7), .inl (.inr 5, 11), .inl (.inr 11, 8)]
set_option maxRecDepth 100000 in
theorem i11 : f_X11_init (some 0) (run lg1) = some ((), run lg8) := by
  unfold f_X11_init
  rw [if_neg (fun y => nomatch y)]
  rw [nO_run 1 rfl, bd_some, nn_some, i5_1, bd_some]
  rw [pR_run rfl, sb_some]
  rw [nO_run 8 rfl, bd_some, nn_some, i5_8, bd_some]
  rw [pR_run rfl, sb_some]
  rw [nO_run 15 rfl, bd_some, nn_some, i5_15, bd_some]
  rw [pR_run rfl, sb_some]
  rw [pI_run rfl, sb_some]
  rw [nA_run (v := 8) 22 8 rfl rfl (by omega), bd_some]
  rw [pR_run rfl, sb_some]
  rw [nA_run (v := 8) 23 8 rfl rfl (by omega), bd_some]
  rw [pR_run rfl, sb_some]
  rw [nA_run (v := 49) 24 49 rfl rfl (by omega), bd_some]
  rw [pR_run rfl, sb_some]
  rw [nA_run (v := 128) 25 128 rfl rfl (by omega), bd_some]
  rw [pR_run rfl, sb_some]
abbrev lg9 : List Op := [.inl (.inr 12, 19), .inr (.inl (0, 7, some 25)), .inl (.inl (0, 128), 128), .inr (.inl (0, 6, some 24)), .inl (.inl (0, 49), 49), .inr (.inl (0, 5, some 23)), .inl (.inl (3, 8), 8), .inr (.inl (0, 4, some 22)), .inl (.inl (2, 8), 8), .inr (.inr (0, 3, 0)), .inr (.inl (0, 2, some 15)), .inr (.inl (16, 6, some 21)), .inr (.inl (16, 5, some 21)), .inr (.inl (16, 4, some 21)), .inr (.inl (16, 3, some 21)), .inr (.inl (16, 2, some 21)), .inr (.inl (16, 1, some 21)), .inr (.inl (16, 0, some 21)), .inr (.inr (21, 1, 0)), .inr (.inr (21, 0, 0)), .inl (.inr 4, 2), .inr (.inr (15, 10, 0)), .inr (.inr (15, 9, 0)), .inr (.inr (15, 8, 3)), .inr (.inr (15, 7, 2)), .inr (.inr (15, 6, 0)), .inr (.inr (15, 5, 0)), .inr (.inl (15, 4, some 20)), .inl (.inl (0, 7), 7), .inr (.inl (15, 3, some 19)), .inl (.inl (0, 7), 7), .inr (.inl (15, 2, some 18)), .inl (.inl (0, 7), 7), .inr (.inl (15, 1, some 17)), .inl (.inl (0, 7), 7), .inr (.inl (15, 0, some 16)), .inl (.inl (2, 7), 7), .inl (.inr 5, 11), .inr (.inl (0, 1, some 8)), .inr (.inl (9, 6, some 14)), .inr (.inl (9, 5, some 14)), .inr (.inl (9, 4, some 14)), .inr (.inl (9, 3, some 14)), .inr (.inl (9, 2, some 14)), .inr (.inl (9, 1, some 14)), .inr (.inl (9, 0, some 14)), .inr (.inr (14, 1, 0)), .inr (.inr (14, 0, 0)), .inl (.inr 4, 2), .inr (.inr (8, 10, 0)), .inr (.inr (8, 9, 0)), .inr (.inr (8, 8, 3)), .inr (.inr (8, 7, 2)), .inr (.inr (8, 6, 0)), .inr (.inr (8, 5, 0)), .inr (.inl (8, 4, some 13)), .inl (.inl (0, 7), 7), .inr (.inl (8, 3, some 12)), .inl (.inl (0, 7), 7), .inr (.inl (8, 2, some 11)), .inl (.inl (0, 7), 7), .inr (.inl (8, 1, some 10)), .inl (.inl (0, 7), 7), .inr (.inl (8, 0, some 9)), .inl (.inl (2, 7), 7), .inl (.inr 5, 11), .inr (.inl (0, 0, some 1)), .inr (.inl (2, 6, some 7)), .inr (.inl (2, 5, some 7)), .inr (.inl (2, 4, some 7)), .inr (.inl (2, 3, some 7)), .inr (.inl (2, 2, some 7)), .inr (.inl (2, 1, some 7)), .inr (.inl (2, 0, some 7)), .inr (.inr (7, 1, 0)), .inr (.inr (7, 0, 0)), .inl (.inr 4, 2), .inr (.inr (1, 10, 0)), .inr (.inr (1, 9, 0)), .inr (.inr (1, 8, 3)), .inr (.inr (1, 7, 2)), .inr (.inr (1, 6, 0)), .inr (.inr (1, 5, 0)), .inr (.inl (1, 4, some 6)), .inl (.inl (0, 7), 7), .inr (.inl (1, 3, some 5)), .inl (.inl (0, 7), 7), .inr (.inl (1, 2, some 4)), .inl (.inl (0, 7), 7), .inr (.inl (1, 1, some 3)), .inl (.inl (0, 7), 7), .inr (.inl (1, 0, some 2)), .inl (.inl (2, 7), 7), .inl (.inr 5, 11), .inl (.inr 11, 8)]
abbrev lg10 : List Op := [.inr (.inr (27, 4, 3)), .inr (.inr (27, 3, 2)), .inr (.inl (26, 17, some 39)), .inl (.inl (0, 800), 800), .inr (.inl (26, 16, some 38)), .inl (.inl (0, 8), 8), .inr (.inl (26, 15, some 37)), .inl (.inl (0, 8), 8), .inr (.inl (26, 14, some 36)), .inl (.inl (0, 8), 8), .inr (.inl (26, 13, some 35)), .inl (.inl (0, 8), 8), .inr (.inl (26, 12, some 34)), .inl (.inl (0, 8), 8), .inr (.inl (26, 10, some 33)), .inl (.inl (0, 128), 128), .inr (.inl (26, 9, some 32)), .inl (.inl (0, 49), 49), .inr (.inl (26, 8, some 31)), .inl (.inl (0, 3), 3), .inr (.inl (26, 3, some 30)), .inl (.inl (0, 54), 54), .inr (.inl (26, 2, some 29)), .inl (.inl (0, 54), 54), .inr (.inl (26, 1, some 28)), .inl (.inl (0, 54), 54), .inr (.inl (26, 0, some 27)), .inl (.inl (0, 54), 54), .inl (.inr 12, 19), .inr (.inl (0, 7, some 25)), .inl (.inl (0, 128), 128), .inr (.inl (0, 6, some 24)), .inl (.inl (0, 49), 49), .inr (.inl (0, 5, some 23)), .inl (.inl (3, 8), 8), .inr (.inl (0, 4, some 22)), .inl (.inl (2, 8), 8), .inr (.inr (0, 3, 0)), .inr (.inl (0, 2, some 15)), .inr (.inl (16, 6, some 21)), .inr (.inl (16, 5, some 21)), .inr (.inl (16, 4, some 21)), .inr (.inl (16, 3, some 21)), .inr (.inl (16, 2, some 21)), .inr (.inl (16, 1, some 21)), .inr (.inl (16, 0, some 21)), .inr (.inr (21, 1, 0)), .inr (.inr (21, 0, 0)), .inl (.inr 4, 2), .inr (.inr (15, 10, 0)), .inr (.inr (15, 9, 0)), .inr (.inr (15, 8, 3)), .inr (.inr (15, 7, 2)), .inr (.inr (15, 6, 0)), .inr (.inr (15, 5, 0)), .inr (.inl (15, 4, some 20)), .inl (.inl (0, 7), 7), .inr (.inl (15, 3, some 19)), .inl (.inl (0, 7), 7), .inr (.inl (15, 2, some 18)), .inl (.inl (0, 7), 7), .inr (.inl (15, 1, some 17)), .inl (.inl (0, 7), 7), .inr (.inl (15, 0, some 16)), .inl (.inl (2, 7), 7), .inl (.inr 5, 11), .inr (.inl (0, 1, some 8)), .inr (.inl (9, 6, some 14)), .inr (.inl (9, 5, some 14)), .inr (.inl (9, 4, some 14)), .inr (.inl (9, 3, some 14)), .inr (.inl (9, 2, some 14)), .inr (.inl (9, 1, some 14)), .inr (.inl (9, 0, some 14)), .inr (.inr (14, 1, 0)), .inr (.inr (14, 0, 0)), .inl (.inr 4, 2), .inr (.inr (8, 10, 0)), .inr (.inr (8, 9, 0)), .inr (.inr (8, 8, 3)), .inr (.inr (8, 7, 2)), .inr (.inr (8, 6, 0)), .inr (.inr (8, 5, 0)), .inr (.inl (8, 4, some 13)), .inl (.inl (0, 7), 7), .inr (.inl (8, 3, some 12)), .inl (.inl (0, 7), 7), .inr (.inl (8, 2, some 11)), .inl (.inl (0, 7), 7), .inr (.inl (8, 1, some 10)), .inl (.inl (0, 7), 7), .inr (.inl (8, 0, some 9)), .inl (.inl (2, 7), 7), .inl (.inr 5, 11), .inr (.inl (0, 0, some 1)), .inr (.inl (2, 6, some 7)), .inr (.inl (2, 5, some 7)), .inr (.inl (2, 4, some 7)), .inr (.inl (2, 3, some 7)), .inr (.inl (2, 2, some 7)), .inr (.inl (2, 1, some 7)), .inr (.inl (2, 0, some 7)), .inr (.inr (7, 1, 0)), .inr (.inr (7, 0, 0)), .inl (.inr 4, 2), .inr (.inr (1, 10, 0)), .inr (.inr (1, 9, 0)), .inr (.inr (1, 8, 3)), .inr (.inr (1, 7, 2)), .inr (.inr (1, 6, 0)), .inr (.inr (1, 5, 0)), .inr (.inl (1, 4, some 6)), .inl (.inl (0, 7), 7), .inr (.inl (1, 3, some 5)), .inl (.inl (0, 7), 7), .inr (.inl (1, 2, some 4)), .inl (.inl (0, 7), 7), .inr (.inl (1, 1, some 3)), .inl (.inl (0, 7), 7), .inr (.inl (1, 0, some 2)), .inl (.inl (2, 7), 7), .inl (.inr 5, 11), .inl (.inr 11, 8)]
set_option maxRecDepth 100000 in
theorem i12 : f_X12_init (some 26) (run lg9) = some ((), run lg10) := by
  unfold f_X12_init
  rw [if_neg (fun y => nomatch y)]
  rw [nA_run (v := 54) 27 54 rfl rfl (by omega), bd_some]
  rw [pR_run rfl, sb_some]
  rw [nA_run (v := 54) 28 54 rfl rfl (by omega), bd_some]
  rw [pR_run rfl, sb_some]
  rw [nA_run (v := 54) 29 54 rfl rfl (by omega), bd_some]
  rw [pR_run rfl, sb_some]
  rw [nA_run (v := 54) 30 54 rfl rfl (by omega), bd_some]
  rw [pR_run rfl, sb_some]
  rw [nA_run (v := 3) 31 3 rfl rfl (by omega), bd_some]
  rw [pR_run rfl, sb_some]
  rw [nA_run (v := 49) 32 49 rfl rfl (by omega), bd_some]
  rw [pR_run rfl, sb_some]
  rw [nA_run (v := 128) 33 128 rfl rfl (by omega), bd_some]
  rw [pR_run rfl, sb_some]
  rw [nA_run (v := 8) 34 8 rfl rfl (by omega), bd_some]
  rw [pR_run rfl, sb_some]
  rw [nA_run (v := 8) 35 8 rfl rfl (by omega), bd_some]
  rw [pR_run rfl, sb_some]
  rw [nA_run (v := 8) 36 8 rfl rfl (by omega), bd_some]
  rw [pR_run rfl, sb_some]
  rw [nA_run (v := 8) 37 8 rfl rfl (by omega), bd_some]
  rw [pR_run rfl, sb_some]
  rw [nA_run (v := 8) 38 8 rfl rfl (by omega), bd_some]
  rw [pR_run rfl, sb_some]
  rw [nA_run (v := 800) 39 800 rfl rfl (by omega), bd_some]
  rw [pR_run rfl, sb_some]
  rw [gR_run (some 27) rfl rfl, sb_some, iS_run (v := 3) 3 rfl rfl (by omega) (by omega), sb_some]
  rw [gR_run (some 27) rfl rfl, sb_some, iS_run (v := 4) 4 rfl rfl (by omega) (by omega), sb_some]
abbrev lg11 : List Op := [.inl (.inl (1, 1), 1), .inr (.inr (27, 4, 3)), .inr (.inr (27, 3, 2)), .inr (.inl (26, 17, some 39)), .inl (.inl (0, 800), 800), .inr (.inl (26, 16, some 38)), .inl (.inl (0, 8), 8), .inr (.inl (26, 15, some 37)), .inl (.inl (0, 8), 8), .inr (.inl (26, 14, some 36)), .inl (.inl (0, 8), 8), .inr (.inl (26, 13, some 35)), .inl (.inl (0, 8), 8), .inr (.inl (26, 12, some 34)), .inl (.inl (0, 8), 8), .inr (.inl (26, 10, some 33)), .inl (.inl (0, 128), 128), .inr (.inl (26, 9, some 32)), .inl (.inl (0, 49), 49), .inr (.inl (26, 8, some 31)), .inl (.inl (0, 3), 3), .inr (.inl (26, 3, some 30)), .inl (.inl (0, 54), 54), .inr (.inl (26, 2, some 29)), .inl (.inl (0, 54), 54), .inr (.inl (26, 1, some 28)), .inl (.inl (0, 54), 54), .inr (.inl (26, 0, some 27)), .inl (.inl (0, 54), 54), .inl (.inr 12, 19), .inr (.inl (0, 7, some 25)), .inl (.inl (0, 128), 128), .inr (.inl (0, 6, some 24)), .inl (.inl (0, 49), 49), .inr (.inl (0, 5, some 23)), .inl (.inl (3, 8), 8), .inr (.inl (0, 4, some 22)), .inl (.inl (2, 8), 8), .inr (.inr (0, 3, 0)), .inr (.inl (0, 2, some 15)), .inr (.inl (16, 6, some 21)), .inr (.inl (16, 5, some 21)), .inr (.inl (16, 4, some 21)), .inr (.inl (16, 3, some 21)), .inr (.inl (16, 2, some 21)), .inr (.inl (16, 1, some 21)), .inr (.inl (16, 0, some 21)), .inr (.inr (21, 1, 0)), .inr (.inr (21, 0, 0)), .inl (.inr 4, 2), .inr (.inr (15, 10, 0)), .inr (.inr (15, 9, 0)), .inr (.inr (15, 8, 3)), .inr (.inr (15, 7, 2)), .inr (.inr (15, 6, 0)), .inr (.inr (15, 5, 0)), .inr (.inl (15, 4, some 20)), .inl (.inl (0, 7), 7), .inr (.inl (15, 3, some 19)), .inl (.inl (0, 7), 7), .inr (.inl (15, 2, some 18)), .inl (.inl (0, 7), 7), .inr (.inl (15, 1, some 17)), .inl (.inl (0, 7), 7), .inr (.inl (15, 0, some 16)), .inl (.inl (2, 7), 7), .inl (.inr 5, 11), .inr (.inl (0, 1, some 8)), .inr (.inl (9, 6, some 14)), .inr (.inl (9, 5, some 14)), .inr (.inl (9, 4, some 14)), .inr (.inl (9, 3, some 14)), .inr (.inl (9, 2, some 14)), .inr (.inl (9, 1, some 14)), .inr (.inl (9, 0, some 14)), .inr (.inr (14, 1, 0)), .inr (.inr (14, 0, 0)), .inl (.inr 4, 2), .inr (.inr (8, 10, 0)), .inr (.inr (8, 9, 0)), .inr (.inr (8, 8, 3)), .inr (.inr (8, 7, 2)), .inr (.inr (8, 6, 0)), .inr (.inr (8, 5, 0)), .inr (.inl (8, 4, some 13)), .inl (.inl (0, 7), 7), .inr (.inl (8, 3, some 12)), .inl (.inl (0, 7), 7), .inr (.inl (8, 2, some 11)), .inl (.inl (0, 7), 7), .inr (.inl (8, 1, some 10)), .inl (.inl (0, 7), 7), .inr (.inl (8, 0, some 9)), .inl (.inl (2, 7), 7), .inl (.inr 5, 11), .inr (.inl (0, 0, some 1)), .inr (.inl (2, 6, some 7)), .inr (.inl (2, 5, some 7)), .inr (.inl (2, 4, some 7)), .inr (.inl (2, 3, some 7)), .inr (.inl (2, 2, some 7)), .inr (.inl (2, 1, some 7)), .inr (.inl (2, 0, some 7)), .inr (.inr (7, 1, 0)), .inr (.inr (7, 0, 0)), .inl (.inr 4, 2), .inr (.inr (1, 10, 0)), .inr (.inr (1, 9, 0)), .inr (.inr (1, 8, 3)), .inr (.inr (1, 7, 2)), .inr (.inr (1, 6, 0)), .inr (.inr (1, 5, 0)), .inr (.inl (1, 4, some 6)), .inl (.inl (0, 7), 7), .inr (.inl (1, 3, some 5)), .inl (.inl (0, 7), 7), .inr (.inl (1, 2, some 4)), .inl (.inl (0, 7), 7), .inr (.inl (1, 1, some 3)), .inl (.inl (0, 7), 7), .inr (.inl (1, 0, some 2)), .inl (.inl (2, 7), 7), .inl (.inr 5, 11), .inl (.inr 11, 8)]
theorem law_start (b Ls : Nat) (xs : Nat → Int32) : f_L_law b Ls xs h_0 = f_L_lp b Ls xs (some 0) (some 26) (some 40) FU 0 (run lg11) := by
  unfold f_L_law
  rw [show h_0 = run [] from rfl, nO_run 0 rfl, bd_some, nn_some, show f_X11_init (some 0) (run [.inl (.inr 11, 8)]) = _ from i11, bd_some, nO_run 26 rfl, bd_some, nn_some, show f_X12_init (some 26) (run (.inl (.inr 12, 19) :: lg8)) = _ from i12, bd_some, nA_run (v := 1) 40 1 rfl rfl (by omega), bd_some]
