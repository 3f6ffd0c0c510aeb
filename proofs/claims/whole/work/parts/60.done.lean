/-! THE TEXT: what is done, in both worlds -/
section DONE
variable {h1 hx : AH} {nn : Nat} {u : R54} {p3 : Nat × R54 × Int32 × (Nat → R54)}
/-- one statement is done in the house in mind, or is not as it must be -/
def EX (nn : Nat) (u : R54) (h1 hx : AH) (o o' : Option (Int32 × AH)) : Prop := (o = some (0, h1) ∧ o' = some (0, hx)) ∨ ∃ h2 nn' u', o = some (1, h2) ∧ o' = some (1, wI hx 27 u') ∧ Hs h2 8 nn' u' ∧ Ok nn' u' ∧ LW nn' u' ∧ hi u' u ∧ (nn ≤ nn' ∧ nn' ≤ 7) ∧ Fq (nn' - nn) h1 h2
theorem EX.rb {o o' : Option (Int32 × AH)} (x : EX nn u h1 hx o o') : EX nn u h1 hx (bd o fun r h => rb r h) o' := by
  rcases x with ⟨e, e'⟩ | ⟨h2, nn', u', e, y⟩
  · exact Or.inl ⟨by rw [e]; rfl, e'⟩
  · exact Or.inr ⟨h2, nn', u', by rw [e]; rfl, y⟩
theorem EX.same {h2 : AH} {u' : R54} {o o' : Option (Int32 × AH)} (H : Hs h2 8 nn u') (O : Ok nn u') (L : LW nn u') (hh : hi u' u) (F : FrB 8 h1 h2) (e : o = some (1, h2)) (e' : o' = some (1, wI hx 27 u')) : EX nn u h1 hx o o' :=
  Or.inr ⟨h2, nn, u', e, e', H, O, L, hh, ⟨Nat.le_refl _, O.1.2.1⟩, by rw [Nat.sub_self]; exact F.q⟩
theorem EX_b (W : Wc h1) (H : Hs h1 8 nn u) (O : Ok nn u) (L : LW nn u) (M : MDL hx (nn, u, p3)) {x y : Nat} (hx9 : x ≤ 9) (hy9 : y ≤ 9) : EX nn u h1 hx (f_X10_setTable (some 8) (i32 x) (i32 y) h1) ((gR hx (some 26) [12] 0).bind fun t8 => (iS hx t8 3 (i32 x)).bind fun h9 => (gR h9 (some 26) [12] 0).bind fun t10 => (iS h9 t10 4 (i32 y)).bind fun h11 => some (1, h11)) := by
  obtain ⟨H1, F1⟩ := H.wF (v := i32 x) (k := 7) (i := 3) (by omega)
  obtain ⟨H2, F2⟩ := H1.wF (v := i32 y) (k := 8) (i := 4) (by omega)
  have T := H.1
  have r0 := M.1.1.2.1
  have Wn : ∀ f, Wm (wI hx 27 f) := fun _ => M.1
  refine EX.same H2 ((O.up (okV_3 ⟨x, hx9, rfl⟩)).up (okV_4 ⟨y, hy9, rfl⟩)) ((L.up fun g _ => ⟨by omega, by omega, by omega⟩).up fun g _ => ⟨by omega, by omega, by omega⟩) (((hi.rf _).up (by omega)).up (by omega)) (F1.tr F2) ?_ ?_
  · unfold f_X10_setTable
    rw [pI_1' T.1.1, sb_some, pI_1' H1.1.1.1, sb_some]
  · rw [M.1.o0, sb_some, w54_3 r0, sb_some, (Wn _).o0, sb_some, show iS (wI hx 27 (va_up (aI hx 27) 3 (i32 x))) (some 27) 4 (i32 y) = _ from w54 4 (by omega) _ (Wn _).1.2.1, sb_some, aI_eq, wI_wI, M.2.1.1]
theorem EX_d (W : Wc h1) (H : Hs h1 8 nn u) (O : Ok nn u) (L : LW nn u) (M : MDL hx (nn, u, p3)) (v : Int32) : EX nn u h1 hx (f_X10_passDays (some 8) v h1) (bd (f_X12_isIn v 1 60 hx) fun r47 h46 => if r47 = 0 then some (0, h46) else (gR h46 (some 26) [12] 0).bind fun t48 => (iA h46 t48 1).bind fun t49 => if (t49 + v) ≤ 999 then (gR h46 (some 26) [12] 0).bind fun t50 => bd (f_X12_daysOn t50 v h46) fun u52 h51 => some (1, h51) else some (0, h46)) := by
  have h7 := O.1.2.1
  have T := H.1
  have r0 := M.1.1.2.1
  unfold f_X10_passDays
  rw [c_out, m_btw, bd_some]
  cases e1 : btw v 1 60 with
  | false => exact Or.inl ⟨if_pos rfl, if_pos pb0⟩
  | true =>
    rw [if_neg ntf, if_neg nb1]
    obtain ⟨N, rfl, hN1, hN2⟩ := btw_of1 (a := 1) (m := 60) (by omega) (by omega) e1
    rw [gI_1 T.1.1, sb_some, H.2.1.2.2.2.2.2, M.1.o0, sb_some, r54_1 r0, sb_some, M.2.1.1, sb_some]
    by_cases e : u 1 + i32 N ≤ 999
    · rw [if_pos e, if_pos e]
      obtain ⟨h2, a1, H1, O1, F1⟩ := k_passDays H O (N := N) (by omega)
      refine EX.same H1 O1 (LW_daysM N _ L) (hi_daysM h7 N _ (hi.rf _)) F1 ?_ ?_
      · rw [cv_ok T.1.1, a1, bd_some]
      · rw [m_daysOn r0 (by rw [M.2.1.1]; exact O.1.1) h7 (show N < 1000 by omega), bd_some, M.2.1.1]
    · rw [if_neg e, if_neg e]
      exact Or.inl ⟨rfl, rfl⟩
theorem EX_g (W : Wc h1) (H : Hs h1 8 nn u) (O : Ok nn u) (L : LW nn u) (M : MDL hx (nn, u, p3)) {x y w : Nat} (hx9 : x ≤ 9) (hy9 : y ≤ 9) (hw : w ≤ 99) : EX nn u h1 hx (f_X10_takeIn (some 8) (i32 x) (i32 y) (i32 w) h1) (if 8 ≤ i32 x then some (0, hx) else (gR hx (some 26) [12] 0).bind fun t13 => (iA hx t13 0).bind fun t14 => if t14 = 7 then some (0, hx) else bd (cv hx (some 26) 12 (f_X12_adds (some 26) (i32 x) (i32 y) (i32 w) hx)) fun u16 h15 => some (1, h15)) := by
  have h7 := O.1.2.1
  have T := H.1
  have r0 := M.1.1.2.1
  unfold f_X10_takeIn
  by_cases c : (8 : Int32) ≤ i32 x
  · rw [if_pos c, if_pos c]
    exact Or.inl ⟨rfl, rfl⟩
  · rw [if_neg c, if_neg c]
    have x7 : x ≤ 7 := by
      rw [show (8 : Int32) = i32 8 from rfl, i32_le (by omega) (by omega)] at c
      omega
    rw [cv_ok T.1.1, k_isFull H h7, bd_some, M.1.o0, sb_some, r54_0 r0, sb_some, M.2.1.1, show (nn, u, p3).2.1 0 = i32 nn from O.1.1]
    by_cases e7 : nn = 7
    · rw [decide_eq_true e7, if_neg nb1, if_pos (show i32 nn = 7 by rw [e7]; rfl)]
      exact Or.inl ⟨rfl, rfl⟩
    · rw [decide_eq_false e7, if_pos pb0, if_neg (show ¬ i32 nn = 7 by rw [show (7 : Int32) = i32 7 from rfl, i32_eq (by omega) (by omega)]; exact e7)]
      obtain ⟨h2, k1, k2, k3⟩ := k_kindOf (h := h1) (x := i32 x) ⟨x, x7, rfl⟩ (i32 y)
      have H2 := H.new k3
      obtain ⟨h3, a1, H3, F3⟩ := k_takeIn H2 O (by omega) (v := i32 w) k2
      refine Or.inr ⟨h3, nn + 1, addG nn (i32 x) (i32 y) (i32 w) u, ?_, ?_, H3, Ok_addG O (by omega) ⟨x, x7, rfl⟩ ⟨y, hy9, rfl⟩ ⟨w, hw, rfl⟩, LW_add L, hi_addG (by omega), ⟨by omega, by omega⟩, ?_⟩
      · rw [k1, bd_some, cv_ok H2.1.1.1, a1, bd_some]
      · rw [cv_ok M.1.1.1, m_adds M O (show (nn, u, p3).1 < 7 from by show nn < 7; omega), bd_some]
      · rw [show nn + 1 - nn = 1 + 0 by omega]
        exact (k3.q (by omega)).tr F3.q
theorem EX_l (W : Wc h1) (H : Hs h1 8 nn u) (O : Ok nn u) (L : LW nn u) (M : MDL hx (nn, u, p3)) (v1 v2 v3 : Int32) : EX nn u h1 hx (f_X10_lendPounds (some 8) v1 v2 v3 h1) (bd (cv hx (some 26) 12 (f_X12_isGuest (some 26) v1 hx)) fun r19 h18 => if r19 = 0 then some (0, h18) else bd (cv h18 (some 26) 12 (f_X12_isGuest (some 26) v2 h18)) fun r21 h20 => if r21 = 0 then some (0, h20) else if v1 = v2 then some (0, h20) else bd (f_X12_isIn v3 1 20 h20) fun r23 h22 => if r23 = 0 then some (0, h22) else (gR h22 (some 26) [12] 0).bind fun t24 => bd (f_X12_canLend t24 v1 v2 v3 h22) fun r26 h25 => if r26 = 0 then some (0, h25) else (gR h25 (some 26) [12] 0).bind fun t27 => bd (f_X12_lendsIn t27 v1 v2 v3 h25) fun u29 h28 => some (1, h28)) := by
  have h7 := O.1.2.1
  have T := H.1
  have r0 := M.1.1.2.1
  have ig : ∀ v, f_X12_isGuest (some 26) v hx = some (bI (isg nn v), hx) := fun v => m_isGuest M.1 (by rw [M.2.1.1]; exact O.1.1) h7 v
  have kg : ∀ v, f_X5_knows (some 8) v h1 = some (bI (isg nn v), h1) := fun v => k_knows H h7 v
  unfold f_X10_lendPounds f_X10_lendPounds_b25
  have b0 : f_X10_lendPounds_b26 (some 8) v1 v2 v3 0 h1 = some (0, h1) := if_pos rfl
  rw [cv_ok T.1.1, kg, cv_ok M.1.1.1, ig, bd_some, bd_some]
  cases e1 : isg nn v1 with
  | false => exact Or.inl ⟨(if_pos pb0).trans b0, if_pos pb0⟩
  | true =>
    rw [if_neg nb1, if_neg nb1, cv_ok T.1.1, kg, cv_ok M.1.1.1, ig, bd_some, bd_some]
    cases e2 : isg nn v2 with
    | false => exact Or.inl ⟨(if_pos pb0).trans b0, if_pos pb0⟩
    | true =>
      rw [if_neg nb1, if_neg nb1]
      by_cases e3 : v1 = v2
      · exact Or.inl ⟨(if_pos e3).trans b0, if_pos e3⟩
      · rw [if_neg e3, if_neg e3, m_btw, bd_some]
        unfold f_X10_lendPounds_b26
        rw [if_neg (show ¬ (1 : Int32) = 0 by decide), c_out]
        cases e4 : btw v3 1 20 with
        | false => exact Or.inl ⟨if_pos rfl, if_pos pb0⟩
        | true =>
          rw [if_neg ntf, if_neg nb1]
          obtain ⟨g, rfl, hg⟩ := isg_of h7 e1
          obtain ⟨o, rfl, ho⟩ := isg_of h7 e2
          obtain ⟨w, rfl, hw1, hw2⟩ := btw_of1 (a := 1) (m := 20) (by omega) (by omega) e4
          have hgo : g ≠ o := fun z => e3 (by rw [z])
          rw [cv_ok T.1.1, k_canLend H O hg ho, bd_some, M.1.o0, sb_some, m_canLend r0 (show g < 7 by omega) (show o < 7 by omega), M.2.1.1, bd_some, show (nn, u, p3).2.1 = u from rfl]
          cases e : cl g o (i32 w) u with
          | false => exact Or.inl ⟨if_pos pb0, if_pos pb0⟩
          | true =>
            rw [if_neg nb1, if_neg nb1]
            obtain ⟨h2, a1, H1, F1⟩ := k_lend H O hg ho (i32 w)
            have hin : inP u g = true ∧ inP u o = true := by
              unfold cl at e
              simp only [Bool.and_eq_true] at e
              exact ⟨e.1, e.2.1⟩
            refine EX.same H1 (Ok_lnd O hg ho hgo ⟨w, by omega, rfl⟩ e) (LW_lnd L hin.1 hin.2) (hi_lnd (hi.rf _) (by omega) (by omega)) F1 ?_ ?_
            · rw [cv_ok T.1.1, a1, bd_some]
            · rw [M.1.o0, sb_some, m_lendsIn r0 (show g < 7 by omega) (show o < 7 by omega), bd_some, M.2.1.1]
theorem EX_s (W : Wc h1) (H : Hs h1 8 nn u) (O : Ok nn u) (L : LW nn u) (M : MDL hx (nn, u, p3)) (v1 : Int32) {y : Nat} (hy9 : y ≤ 9) : EX nn u h1 hx (f_X10_setSecrets (some 8) v1 (i32 y) h1) (bd (cv hx (some 26) 12 (f_X12_isGuest (some 26) v1 hx)) fun r32 h31 => if r32 = 0 then some (0, h31) else (gR h31 (some 26) [12] 0).bind fun t33 => bd (f_X12_of v1 4 h31) fun r35 h34 => (iS h34 t33 r35 (i32 y)).bind fun h36 => some (1, h36)) := by
  have h7 := O.1.2.1
  have T := H.1
  have r0 := M.1.1.2.1
  have ig : ∀ v, f_X12_isGuest (some 26) v hx = some (bI (isg nn v), hx) := fun v => m_isGuest M.1 (by rw [M.2.1.1]; exact O.1.1) h7 v
  have kg : ∀ v, f_X5_knows (some 8) v h1 = some (bI (isg nn v), h1) := fun v => k_knows H h7 v
  unfold f_X10_setSecrets
  rw [cv_ok T.1.1, kg, cv_ok M.1.1.1, ig, bd_some, bd_some]
  cases e1 : isg nn v1 with
  | false => exact Or.inl ⟨if_pos pb0, if_pos pb0⟩
  | true =>
    rw [if_neg nb1, if_neg nb1]
    obtain ⟨g, rfl, hg⟩ := isg_of h7 e1
    obtain ⟨H1, F1⟩ := H.wA (g := g) (v := i32 y) (t := 4) (by omega)
    refine EX.same H1 (O.up (okV_s ⟨y, hy9, rfl⟩)) (L.up fun j hj => ⟨by omega, by omega, by omega⟩) ((hi.rf _).up (by omega)) F1 ?_ ?_
    · rw [gR_1 T.1.1, sb_some, T.2.1.2.2.2.1, iS_ok T.1.2.2.2.2.1 (show g < 7 by omega) (by omega), sb_some]
    · rw [M.1.o0, sb_some, m_of4, bd_some, w54 (7 * g + 9) (by omega) _ r0, sb_some, M.2.1.1]
theorem EX_t (W : Wc h1) (H : Hs h1 8 nn u) (O : Ok nn u) (L : LW nn u) (M : MDL hx (nn, u, p3)) (v1 : Int32) : EX nn u h1 hx (f_X10_tellSecret (some 8) v1 h1) (bd (cv hx (some 26) 12 (f_X12_isGuest (some 26) v1 hx)) fun r39 h38 => if r39 = 0 then some (0, h38) else (gR h38 (some 26) [12] 0).bind fun t40 => bd (f_X12_canTell t40 v1 h38) fun r42 h41 => if r42 = 0 then some (0, h41) else (gR h41 (some 26) [12] 0).bind fun t43 => bd (f_X12_tellsIn t43 v1 h41) fun u45 h44 => some (1, h44)) := by
  have h7 := O.1.2.1
  have T := H.1
  have r0 := M.1.1.2.1
  have ig : ∀ v, f_X12_isGuest (some 26) v hx = some (bI (isg nn v), hx) := fun v => m_isGuest M.1 (by rw [M.2.1.1]; exact O.1.1) h7 v
  have kg : ∀ v, f_X5_knows (some 8) v h1 = some (bI (isg nn v), h1) := fun v => k_knows H h7 v
  unfold f_X10_tellSecret
  rw [cv_ok T.1.1, kg, cv_ok M.1.1.1, ig, bd_some, bd_some]
  cases e1 : isg nn v1 with
  | false => exact Or.inl ⟨if_pos pb0, if_pos pb0⟩
  | true =>
    rw [if_neg nb1, if_neg nb1]
    obtain ⟨g, rfl, hg⟩ := isg_of h7 e1
    rw [cv_ok T.1.1, k_canTell H O hg, bd_some, M.1.o0, sb_some, m_canTell r0 (show g < 7 by omega), bd_some, M.2.1.1, show (nn, u, p3).2.1 = u from rfl]
    cases e : ct g u with
    | false => exact Or.inl ⟨if_pos pb0, if_pos pb0⟩
    | true =>
      rw [if_neg nb1, if_neg nb1]
      obtain ⟨h2, a1, H1, F1⟩ := k_tellSecret H O hg
      have hin : inP u g = true := by
        unfold ct at e
        simp only [Bool.and_eq_true] at e
        exact e.1
      refine EX.same H1 (Ok_tel O hg e) (LW_tel L hin) (hi_tel (hi.rf _) (by omega)) F1 ?_ ?_
      · rw [cv_ok T.1.1, a1, bd_some]
      · rw [M.1.o0, sb_some, m_tellsIn r0 (show g < 7 by omega), bd_some, M.2.1.1]
end DONE
