/-! THE LAW: the state at its start, and its end -/
def p_0 : ST := (0, aI (run lg11) 27, 0, aI (run lg11) 29, 0, fun i => aI (run lg11) (34 + i))
theorem st_27 : rI2 lg11 27 = va_up (va_up (fun _ => (0 : Int32)) 3 2) 4 3 := rfl
theorem st_0s (c : Nat) (h : c = 28 ∨ c = 29 ∨ c = 30) : rI2 lg11 c = fun _ => (0 : Int32) := by
  rcases h with rfl | rfl | rfl
  · rfl
  · rfl
  · rfl
set_option maxRecDepth 100000 in
theorem st_Wc : Wc (run lg11) := by
  unfold Wc Hty
  simp only [run_T, run_R, run_N]
  exact ⟨⟨rfl, rfl, rfl, rfl, rfl⟩, ⟨rfl, rfl, rfl, rfl, rfl, rfl, rfl⟩, ⟨⟨⟨rfl, rfl, rfl, rfl, rfl, rfl⟩, ⟨rfl, rfl, rfl, rfl, rfl⟩, by decide⟩, ⟨⟨rfl, rfl, rfl, rfl, rfl, rfl⟩, ⟨rfl, rfl, rfl, rfl, rfl⟩, by decide⟩, ⟨⟨rfl, rfl, rfl, rfl, rfl, rfl⟩, ⟨rfl, rfl, rfl, rfl, rfl⟩, by decide⟩⟩, by decide⟩
set_option maxRecDepth 100000 in
theorem st_Wm : Wm (run lg11) := by
  unfold Wm
  simp only [run_T, run_R]
  exact ⟨⟨rfl, rfl, rfl, rfl, rfl⟩, ⟨rfl, rfl, rfl⟩, ⟨rfl, rfl, rfl, rfl, rfl, rfl⟩, ⟨rfl, rfl, rfl, rfl⟩, ⟨rfl, rfl, rfl⟩, ⟨rfl, rfl, rfl, rfl, rfl, rfl⟩⟩
set_option maxRecDepth 100000 in
theorem st_SC : SC (run lg11) 1 0 (rI2 lg11 27) := by
  unfold SC
  simp only [run_I]
  exact ⟨rfl, rfl, rfl, rfl, rfl, rfl⟩
theorem st_hi (c : Nat) (h : c = 28 ∨ c = 29 ∨ c = 30) : hi (rI2 lg11 c) (rI2 lg11 27) := fun j hj => by
  rw [st_0s c h, st_27, up_ne (by omega), up_ne (by omega)]
set_option maxRecDepth 100000 in
theorem st_PS : PS p_0 (run lg11) (run lg11) := by
  have e27 : aI (run lg11) 27 = rI2 lg11 27 := run_I _ _
  have no : ∀ g, ¬ g < 0 := fun g => Nat.not_lt_zero g
  have r23 : ∀ d, aR (run lg11) 23 d = none := fun d => by rw [run_R]; rfl
  have r22 : ∀ d, aR (run lg11) 22 d = none := fun d => by rw [run_R]; rfl
  refine ⟨⟨⟨st_Wc, ⟨st_Wc.2.2.1.1, ?_, fun g hg => absurd hg (no g)⟩, ⟨⟨?_, by show 0 ≤ 7; omega, fun g hg => absurd hg (no g)⟩, ?_, fun g hg => absurd hg (no g)⟩, fun g hg => absurd hg (no g)⟩, ⟨?_, Or.inl rfl⟩, ?_, ?_⟩, st_Wm, ⟨rfl, rfl, ?_, fun i hi => rfl⟩, ?_, ?_, ?_⟩
  · show SC (run lg11) 1 0 (aI (run lg11) 27)
    rw [e27]; exact st_SC
  · show aI (run lg11) 27 0 = i32 0
    rw [e27, st_27]; rfl
  · show rg (aI (run lg11) 27 3) 9 ∧ rg (aI (run lg11) 27 4) 9 ∧ rg (aI (run lg11) 27 2) 9999
    rw [e27, st_27]
    exact ⟨⟨2, by omega, rfl⟩, ⟨3, by omega, rfl⟩, ⟨0, by omega, rfl⟩⟩
  · show aI (run lg11) 0 3 = 0
    rw [run_I]; rfl
  · intro d hd
    refine Or.inl ⟨?_, r22 d, r23 d⟩
    show aI (run lg11) 34 d = 0
    rw [run_I]; rfl
  · intro d d2 _ _ _ r r2 e e1
    rw [r23] at e1
    cases e1
  · show aI (run lg11) 26 4 = 0
    rw [run_I]; rfl
  · show hi (aI (run lg11) 28) (aI (run lg11) 27)
    rw [run_I, run_I]; exact st_hi 28 (Or.inl rfl)
  · show hi (aI (run lg11) 29) (aI (run lg11) 27)
    rw [run_I, run_I]; exact st_hi 29 (Or.inr (Or.inl rfl))
  · show hi (aI (run lg11) 30) (aI (run lg11) 27)
    rw [run_I, run_I]; exact st_hi 30 (Or.inr (Or.inr rfl))
theorem st_aS : slt lg11 ≤ 10000 := by decide
theorem st_cnt : cnt lg11 = 41 := by decide
/-- the law ends with 1, and makes no more than it may -/
theorem law_val (b Ls : Nat) (xs : Nat → Int32) (hL : Ls ≤ 3072) : ∃ h', f_L_law b Ls xs h_0 = some (1, h') ∧ aN h' ≤ 601024 ∧ aS h' ≤ 7293034 := by
  obtain ⟨h', e, n1, n2⟩ := t_lp (b := b) (xs := xs) hL 512 FU 0 (run lg11) p_0 st_PS (by rw [run_T]; rfl) (by omega) (by omega) (fu_pos (by omega))
  have s1 := st_aS
  have s2 := st_cnt
  rw [run_N, s2] at n1
  rw [run_S] at n2
  refine ⟨h', ?_, by omega, by omega⟩
  rw [law_start]
  exact e
