/-! THE WORLD at the law's entry -/
section WORLD
variable {s : State} {args : Array Value}
theorem world_cl (hts : ∀ w ∈ lw_tbl, w.before args s = true) (c : Nat) : ∃ (cC : ClassId) (iS : Nat → Nat), ∀ q, vwCl[c]? = some q → u_Kn s q.1 q.2.1 q.2.2 cC iS := by
  have hT : ∀ w ∈ Tg, w.before args s = true := fun w hw => hts w (List.mem_filter.mp hw).1
  have one : ∀ (ci n : Nat) (C : String) (T : u_T) (N : Nat), clsOK ci C T N → Cond.instantiable C n ∈ Tg → ∃ (cC : ClassId) (iS : Nat → Nat), ∀ q, vwCl[ci]? = some q → u_Kn s q.1 q.2.1 q.2.2 cC iS := fun ci n C T N hc hi => by
    obtain ⟨h1, h2, -⟩ := hc
    obtain ⟨cC, iS, k⟩ := u_known hT h2 (hT _ hi)
    refine ⟨cC, iS, fun q hq => ?_⟩
    rw [h1] at hq
    cases hq
    exact k
  match c with
  | 0 => exact one 0 _ _ _ _ clX0 kin_X0
  | 1 => exact one 1 _ _ _ _ clX1 kin_X1
  | 2 => exact one 2 _ _ _ _ clX2 kin_X2
  | 3 => exact one 3 _ _ _ _ clX3 kin_X3
  | 4 => exact one 4 _ _ _ _ clX4 kin_X4
  | 5 => exact one 5 _ _ _ _ clX5 kin_X5
  | 6 => exact one 6 _ _ _ _ clX6 kin_X6
  | 7 => exact one 7 _ _ _ _ clX7 kin_X7
  | 8 => exact one 8 _ _ _ _ clX8 kin_X8
  | 9 => exact one 9 _ _ _ _ clX9 kin_X9
  | 10 => exact one 10 _ _ _ _ clX10 kin_X10
  | 11 => exact one 11 _ _ _ _ clX11 kin_X11
  | 12 => exact one 12 _ _ _ _ clX12 kin_X12
  | n + 13 => exact ⟨0, fun _ => 0, fun q hq => by cases hq⟩
theorem world_ar (hts : ∀ w ∈ lw_tbl, w.before args s = true) (k : Nat) : ∃ cA : ClassId, ArrOfT s cA (arT k) ∧ va_RA s cA (arT k) := by
  have hT : ∀ w ∈ Tg, w.before args s = true := fun w hw => hts w (List.mem_filter.mp hw).1
  have ob : ∀ C : String, (Cond.arrayOver (.object C)).before args s = true → ∃ cA : ClassId, ArrOfT s cA (.object C) ∧ va_RA s cA (.object C) := fun C h => by
    obtain ⟨comp, cA, kA, f1, f2, f3, f4, f5⟩ := Cond.arrayOver_spec h
    exact ⟨cA, fun N z => ⟨(fun k h => by cases h), kA, f3, comp, f4⟩, kA, comp, f3, f4, f1, f5⟩
  match k with
  | 0 =>
    obtain ⟨cA, kA, comp, f1, f2, f3⟩ := Cond.arrayClass_spec (hT _ kac_int)
    exact ⟨cA, fun N z => ⟨(fun k h => by cases h), kA, f2, comp, f3⟩, f1⟩
  | 1 =>
    obtain ⟨cA, kA, comp, f1, f2, f3⟩ := Cond.arrayClass_spec (hT _ kac_long)
    exact ⟨cA, fun N z => ⟨(fun k h => by cases h), kA, f2, comp, f3⟩, f1⟩
  | 2 => exact ob RX4 (hts _ kao_X4)
  | n + 3 => exact ob RX7 (hts _ kao_X7)
theorem world_K (hts : ∀ w ∈ lw_tbl, w.before args s = true) : ∃ (G : va_G) (cA : Nat → ClassId), va_K G vwCl (tysG cA) s := by
  have h1 := world_cl hts
  have h2 := world_ar hts
  refine ⟨(fun c => Classical.choose (h1 c), fun c => Classical.choose (Classical.choose_spec (h1 c))), fun k => Classical.choose (h2 k), fun c q hq => Classical.choose_spec (Classical.choose_spec (h1 c)) q hq, fun k q hq => ?_⟩
  have key : ∀ k, k < 4 → ArrOfT s (Classical.choose (h2 k)) (arT k) ∧ va_RA s (Classical.choose (h2 k)) (arT k) := fun k _ => Classical.choose_spec (h2 k)
  match k with
  | 0 => cases hq; exact key 0 (by omega)
  | 1 => cases hq; exact key 1 (by omega)
  | 2 => cases hq; exact key 2 (by omega)
  | 3 => cases hq; exact key 3 (by omega)
  | n + 4 => cases hq
end WORLD
