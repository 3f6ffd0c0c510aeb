/-! THE LAW: the loop -/
section LOOP
variable {b Ls : Nat} {xs : Nat → Int32}
set_option maxRecDepth 100000 in
theorem t_sw {a : Nat} {K : AH → Option (Int32 × AH)} {h : AH} {p : ST} (x : Int32) (P : PS p h h) (t40 : aT h 40 = some (.inl (1, 1))) (hL : Ls ≤ 3072) (ha : a + 6 ≤ Ls) : NX h (f_L_sw b Ls xs K (some 0) (some 26) (some 40) (i32 a) x h) K := by
  unfold f_L_sw
  by_cases c0 : x = 0
  · rw [if_pos c0]
    exact t_0 P t40 hL ha
  rw [if_neg c0]
  by_cases c1 : x = 1
  · rw [if_pos c1]
    exact t_1 P t40 hL ha
  rw [if_neg c1]
  by_cases c2 : x = 2
  · rw [if_pos c2]
    exact t_2 P t40 hL ha
  rw [if_neg c2]
  by_cases c3 : x = 3
  · rw [if_pos c3]
    exact t_3 P t40 hL ha
  rw [if_neg c3]
  by_cases c4 : x = 4
  · rw [if_pos c4]
    exact t_4 P t40 hL ha
  rw [if_neg c4]
  by_cases c5 : x = 5
  · rw [if_pos c5]
    exact t_5 P t40 hL ha
  rw [if_neg c5]
  by_cases c6 : x = 6
  · rw [if_pos c6]
    exact t_6 P t40 hL ha
  rw [if_neg c6]
  by_cases c7 : x = 7
  · rw [if_pos c7]
    exact t_7 P t40 hL ha
  rw [if_neg c7]
  by_cases c8 : x = 8
  · rw [if_pos c8]
    exact t_8 P t40 hL ha
  rw [if_neg c8]
  by_cases c9 : x = 9
  · rw [if_pos c9]
    exact t_9 P t40 hL ha
  rw [if_neg c9]
  by_cases c10 : x = 10
  · rw [if_pos c10]
    exact t_10 P t40 hL ha
  rw [if_neg c10]
  by_cases c11 : x = 11
  · rw [if_pos c11]
    exact t_11 P t40 hL ha
  rw [if_neg c11]
  by_cases c12 : x = 12
  · rw [if_pos c12]
    exact t_12 P t40 hL ha
  rw [if_neg c12]
  by_cases c13 : x = 13
  · rw [if_pos c13]
    exact t_13 P t40 hL ha
  rw [if_neg c13]
  by_cases c14 : x = 14
  · rw [if_pos c14]
    exact t_14 P t40 hL ha
  rw [if_neg c14]
  by_cases c15 : x = 15
  · rw [if_pos c15]
    exact t_15 P t40 hL ha
  rw [if_neg c15]
  by_cases c16 : x = 16
  · rw [if_pos c16]
    exact t_16 P t40 hL ha
  rw [if_neg c16]
  by_cases c17 : x = 17
  · rw [if_pos c17]
    exact t_17 P t40 hL ha
  rw [if_neg c17]
  by_cases c18 : x = 18
  · rw [if_pos c18]
    exact t_18 P t40 hL ha
  rw [if_neg c18]
  by_cases c19 : x = 19
  · rw [if_pos c19]
    exact t_19 P t40 hL ha
  rw [if_neg c19]
  by_cases c20 : x = 20
  · rw [if_pos c20]
    exact t_20 P t40 hL ha
  rw [if_neg c20]
  by_cases c21 : x = 21
  · rw [if_pos c21]
    exact t_21 P t40 hL ha
  rw [if_neg c21]
  by_cases c22 : x = 22
  · rw [if_pos c22]
    exact t_22 P t40 hL ha
  rw [if_neg c22]
  by_cases c23 : x = 23
  · rw [if_pos c23]
    exact t_23 P t40 hL ha
  rw [if_neg c23]
  by_cases c24 : x = 24
  · rw [if_pos c24]
    exact t_24 P t40 hL ha
  rw [if_neg c24]
  by_cases c25 : x = 25
  · rw [if_pos c25]
    exact t_25 P t40 hL ha
  rw [if_neg c25]
  by_cases c26 : x = 26
  · rw [if_pos c26]
    exact t_26 P t40 hL ha
  rw [if_neg c26]
  by_cases c27 : x = 27
  · rw [if_pos c27]
    exact t_27 P t40 hL ha
  rw [if_neg c27]
  by_cases c28 : x = 28
  · rw [if_pos c28]
    exact t_28 P t40 hL ha
  rw [if_neg c28]
  by_cases c29 : x = 29
  · rw [if_pos c29]
    exact t_29 P t40 hL ha
  rw [if_neg c29]
  by_cases c30 : x = 30
  · rw [if_pos c30]
    exact t_30 P t40 hL ha
  rw [if_neg c30]
  by_cases c31 : x = 31
  · rw [if_pos c31]
    exact t_31 P t40 hL ha
  rw [if_neg c31]
  by_cases c32 : x = 32
  · rw [if_pos c32]
    exact t_32 P t40 hL ha
  rw [if_neg c32]
  by_cases c33 : x = 33
  · rw [if_pos c33]
    exact t_33 P t40 hL ha
  rw [if_neg c33]
  by_cases c34 : x = 34
  · rw [if_pos c34]
    exact t_34 P t40 hL ha
  rw [if_neg c34]
  by_cases c35 : x = 35
  · rw [if_pos c35]
    exact t_35 P t40 hL ha
  rw [if_neg c35]
  by_cases c36 : x = 36
  · rw [if_pos c36]
    exact t_36 P t40 hL ha
  rw [if_neg c36]
  by_cases c37 : x = 37
  · rw [if_pos c37]
    exact t_37 P t40 hL ha
  rw [if_neg c37]
  exact ⟨h, p, rfl, P, t40, by omega, by omega⟩
theorem sub6s : ∀ L, L < 6 → (i32 L - 6).toInt = (L : Int) - 6 := by decide +kernel
theorem sub6 (L : Nat) (h : L < 3073) : (i32 L - 6).toInt = (L : Int) - 6 := by
  by_cases c : L < 6
  · exact sub6s L c
  · rw [show (6 : Int32) = i32 6 from rfl, i32_sub (by omega), i32_t (by omega)]
    omega
theorem e_L_lp (v1 v2 v3 : Option Nat) (n : Nat) (x4 : Int32) (h : AH) : f_L_lp b Ls xs v1 v2 v3 (n + 1) x4 h = ((scL b Ls b).bind fun t1 => (if t1 - 6 < x4 then some (1, h) else (scA b Ls xs b x4).bind fun t2 => f_L_sw b Ls xs (f_L_lp b Ls xs v1 v2 v3 n (x4 + 6)) v1 v2 v3 x4 (t2 &&& 63) h)) := rfl
theorem scL_b : scL b Ls b = some (i32 Ls) := by
  unfold scL
  rw [if_pos rfl]
  rfl
theorem lt6 {L a : Nat} (hL : L ≤ 3072) (ha : a < 10000) : (i32 L - 6 < i32 a) = (L < a + 6) := by
  rw [Int32.lt_iff_toInt_lt, sub6 L (by omega), i32_t (by omega)]
  exact propext ⟨fun y => by omega, fun y => by omega⟩
theorem t_lp (hL : Ls ≤ 3072) : ∀ (k n a : Nat) (h : AH) (p : ST), PS p h h → aT h 40 = some (.inl (1, 1)) → Ls < a + 6 * k + 6 → a ≤ 3072 → k < n → ∃ h', f_L_lp b Ls xs (some 0) (some 26) (some 40) n (i32 a) h = some (1, h') ∧ aN h' ≤ aN h + 12 * k ∧ aS h' ≤ aS h + 2400 * k := by
  intro k
  induction k with
  | zero =>
    intro n a h p P t40 h1 ha hn
    obtain ⟨n, rfl⟩ := succ_of hn
    refine ⟨h, ?_, by omega, by omega⟩
    rw [e_L_lp, scL_b, sb_some]
    exact if_pos (show i32 Ls - 6 < i32 a by rw [lt6 hL (by omega)]; omega)
  | succ k ih =>
    intro n a h p P t40 h1 ha hn
    obtain ⟨n, rfl⟩ := succ_of hn
    by_cases c : Ls < a + 6
    · refine ⟨h, ?_, by omega, by omega⟩
      rw [e_L_lp, scL_b, sb_some]
      exact if_pos (show i32 Ls - 6 < i32 a by rw [lt6 hL (by omega)]; omega)
    · obtain ⟨h2, p', e, P', t2, n1, n2⟩ := t_sw (b := b) (xs := xs) (K := f_L_lp b Ls xs (some 0) (some 26) (some 40) n (i32 a + 6)) (xs a &&& 63) P t40 hL (show a + 6 ≤ Ls by omega)
      obtain ⟨h', e2, m1, m2⟩ := ih n (a + 6) h2 p' P' t2 (by omega) (by omega) (by omega)
      refine ⟨h', ?_, by omega, by omega⟩
      rw [e_L_lp, scL_b, sb_some, if_neg (show ¬ (i32 Ls - 6 < i32 a) by rw [lt6 hL (by omega)]; exact c), show scA b Ls xs b (i32 a) = some (xs a) from sc_a (k := 0) (by omega) hL, sb_some, e, show i32 a + 6 = i32 (a + 6) from i32_add a 6]
      exact e2
end LOOP
