/-! ONE GUEST'S DAYS DON'T HANG ON THE OTHERS -/
def agr (g : Nat) (u t : R54) : Prop := (u 1 = t 1 ∧ u 3 = t 3 ∧ u 4 = t 4) ∧ u (7 * g + 5) = t (7 * g + 5) ∧ u (7 * g + 6) = t (7 * g + 6) ∧ u (7 * g + 7) = t (7 * g + 7) ∧ u (7 * g + 8) = t (7 * g + 8) ∧ u (7 * g + 9) = t (7 * g + 9) ∧ u (7 * g + 10) = t (7 * g + 10) ∧ u (7 * g + 11) = t (7 * g + 11)
theorem agr.rf (g : Nat) (u : R54) : agr g u u := ⟨⟨rfl, rfl, rfl⟩, rfl, rfl, rfl, rfl, rfl, rfl, rfl⟩
theorem agr.tr {g : Nat} {u t w : R54} (x : agr g u t) (y : agr g t w) : agr g u w := by
  obtain ⟨⟨a1, a2, a3⟩, a4, a5, a6, a7, a8, a9, a10⟩ := x
  obtain ⟨⟨b1, b2, b3⟩, b4, b5, b6, b7, b8, b9, b10⟩ := y
  exact ⟨⟨a1.trans b1, a2.trans b2, a3.trans b3⟩, a4.trans b4, a5.trans b5, a6.trans b6, a7.trans b7, a8.trans b8, a9.trans b9, a10.trans b10⟩
theorem agr.in {g : Nat} {u t : R54} (x : agr g u t) : inP u g = inP t g := by
  unfold inP
  rw [x.2.2.2.2.2.2.2]
/-- the same put at both -/
theorem agr.up {g j : Nat} {u t : R54} {v : Int32} (x : agr g u t) : agr g (va_up u j v) (va_up t j v) := by
  obtain ⟨⟨a1, a2, a3⟩, a4, a5, a6, a7, a8, a9, a10⟩ := x
  have key : ∀ i, u i = t i → va_up u j v i = va_up t j v i := fun i e => by
    unfold va_up
    rw [e]
  exact ⟨⟨key _ a1, key _ a2, key _ a3⟩, key _ a4, key _ a5, key _ a6, key _ a7, key _ a8, key _ a9, key _ a10⟩
theorem agr.off {g j : Nat} {u : R54} {v : Int32} (h : j ≠ 1 ∧ j ≠ 3 ∧ j ≠ 4 ∧ ¬ (7 * g + 5 ≤ j ∧ j ≤ 7 * g + 11)) : agr g (va_up u j v) u := by
  obtain ⟨h1, h2, h3, h4⟩ := h
  exact ⟨⟨up_ne (Ne.symm h1), up_ne (Ne.symm h2), up_ne (Ne.symm h3)⟩, up_ne (by omega), up_ne (by omega), up_ne (by omega), up_ne (by omega), up_ne (by omega), up_ne (by omega), up_ne (by omega)⟩
theorem agr_eatW {g : Nat} {u t : R54} (v : Int32) (x : agr g u t) : agr g (eatW v g u) (eatW v g t) := by
  obtain ⟨⟨a1, a2, a3⟩, a4, a5, a6, a7, a8, a9, a10⟩ := id x
  unfold eatW
  rw [a10, a6, a4, a5, a3]
  split
  · exact x.up
  · exact x
theorem agr_eatW_o {g j : Nat} {u : R54} (v : Int32) (e : j ≠ g) : agr g (eatW v j u) u := by
  unfold eatW
  split
  · exact agr.off ⟨by omega, by omega, by omega, by omega⟩
  · exact agr.rf g u
theorem agr_mg {g : Nat} {u t : R54} (x : agr g u t) : mg u g = mg t g := by
  obtain ⟨⟨a1, a2, a3⟩, a4, a5, a6, a7, a8, a9, a10⟩ := x
  unfold mg
  rw [a10, a6, a7, a4, a5, a1, a9]
theorem agr_go1 {g : Nat} {u t : R54} (x : agr g u t) : agr g (go1 g u) (go1 g t) := by
  unfold go1
  rw [agr_mg x]
  split
  · have y : agr g (va_up u (7 * g + 11) 0) (va_up t (7 * g + 11) 0) := x.up
    exact (agr.off ⟨by omega, by omega, by omega, by omega⟩).tr (y.tr ⟨⟨(up_ne (by omega)).symm, (up_ne (by omega)).symm, (up_ne (by omega)).symm⟩, (up_ne (by omega)).symm, (up_ne (by omega)).symm, (up_ne (by omega)).symm, (up_ne (by omega)).symm, (up_ne (by omega)).symm, (up_ne (by omega)).symm, (up_ne (by omega)).symm⟩)
  · exact x
theorem agr_go1_o {g j : Nat} {u : R54} (e : j ≠ g) : agr g (go1 j u) u := by
  unfold go1
  split
  · exact (agr.off ⟨by omega, by omega, by omega, by omega⟩).tr (agr.off ⟨by omega, by omega, by omega, by omega⟩)
  · exact agr.rf g u
/-- a loop over all guests, as one of them sees it -/
theorem agr_fld {n g : Nat} (hg : g < n) {f : Nat → R54 → R54} (u : R54) (hc : ∀ r t, agr g r t → agr g (f g r) (f g t)) (ho : ∀ j r, j ≠ g → agr g (f j r) r) : agr g (fld f 0 n u) (f g u) := by
  have key := fld_ind (f := f) (fun i r => (i ≤ g → agr g r u) ∧ (g < i → agr g r (f g u))) n 0 u ⟨fun _ => agr.rf g u, fun z => absurd z (Nat.not_lt_zero g)⟩ (fun j b _ hj ⟨e1, e2⟩ => ⟨fun z => (ho j b (by omega)).tr (e1 (by omega)), fun z => by
    by_cases e : j = g
    · subst e; exact hc b u (e1 (Nat.le_refl _))
    · exact (ho j b e).tr (e2 (by omega))⟩)
  rw [Nat.zero_add] at key
  exact key.2 hg
theorem agr_day {n g : Nat} {u t : R54} (hg : g < n) (F : Int32) (x : agr g u t) : agr g (dayM n F u) (dayW (if fst F g then 0 else eat (t (7 * g + 5)) (t 3)) g t) := by
  unfold dayM dayW
  refine (agr_fld hg _ (fun r t e => agr_go1 e) (fun j r e => agr_go1_o e)).tr (agr_go1 ?_)
  have h1 : agr g (fld (eat1 F) 0 n (va_up u 1 (u 1 + 1))) (eat1 F g (va_up u 1 (u 1 + 1))) := by
    refine agr_fld hg _ (fun r t e => ?_) (fun j r e => ?_)
    · rw [eat1_W, eat1_W, e.2.1, e.1.2.1]
      exact agr_eatW _ e
    · rw [eat1_W]
      exact agr_eatW_o _ e
  refine h1.tr ?_
  rw [eat1_W, up_ne (by omega), up_ne (by omega), x.2.1, x.1.2.1]
  refine agr_eatW _ ?_
  rw [x.1.1]
  exact x.up
theorem agr_dayO {n g : Nat} {u t : R54} (h7 : n ≤ 7) (hg : g < n) (x : agr g u t) : agr g (dayM n 0 u) (dayO g t) := by
  have := agr_day hg 0 x
  rw [fst_0 g (by omega)] at this
  exact this
section ONE
variable {n g : Nat} {s : R54} {h h' : AH}
/-- in mind: the class knows the days of g alone -/
def MG (n g : Nat) (uc um : R54) (h h' : AH) : Prop := Hs h 8 n uc ∧ Ok n uc ∧ aI h' 28 = um ∧ um 0 = i32 n ∧ agr g um uc
theorem MS.mg {u : R54} (M : MS n u h h') (g : Nat) : MG n g u u h h' := ⟨M.1, M.2.1, M.2.2, M.2.1.1.1, agr.rf g u⟩
theorem Q_dayO (Q : QS n s h h') {uc um : R54} (hg : g < n) (M : MG n g uc um h h') : ∃ h1, f_X5_passDayOf (some 8) (i32 g) h = some ((), h1) ∧ f_X12_day (some 28) 0 h' = some ((), wI h' 28 (dayM n 0 um)) ∧ MG n g (dayO g uc) (dayM n 0 um) h1 (wI h' 28 (dayM n 0 um)) ∧ QS n s h1 (wI h' 28 (dayM n 0 um)) ∧ Fq 0 h h1 ∧ Fm h' (wI h' 28 (dayM n 0 um)) := by
  obtain ⟨m1, m2, m3, m4, m5⟩ := M
  obtain ⟨h1, e1, H1, B1⟩ := k_passDayOf m1 m2 hg
  have e2 : f_X12_day (some 28) 0 h' = some ((), wI h' 28 (dayM n 0 um)) := by
    rw [m_day Q.2.1.1.2.2.1 (by rw [m3]; exact m4) Q.h7, m3]
  have G : Fm h' (wI h' 28 (dayM n 0 um)) := Fm.w28 (by rw [m3]; exact hi_dayM (hi.rf um) Q.h7)
  exact ⟨h1, e1, e2, ⟨H1, Ok_dayO m2 hg, aI_eq, (dayM_0 n 0 um).trans m4, agr_dayO Q.h7 hg m5⟩, Q.q B1.q G, B1.q, G⟩
theorem MG.ins (Q : QS n s h h') {uc um : R54} (hg : g < n) (M : MG n g uc um h h') : f_X5_isIn (some 8) (i32 g) h = some (bI (inP uc g), h) ∧ f_X12_isHere (some 28) (i32 g) h' = some (bI (inP uc g), h') := by
  have h7 := Q.h7
  refine ⟨k_isIn M.1 M.2.1 hg, ?_⟩
  rw [m_isHere Q.2.1.1.2.2.1 (by omega), M.2.2.1, ← M.2.2.2.2.in]
  rfl
theorem rl_leaves (hg : g < n) : ∀ (k m m' v : Nat) (uc um : R54) (h h' : AH), QS n s h h' → MG n g uc um h h' → k < m → k < m' → v + k = 61 → RR 0 h h' (f_X11_leaves_b36 m (some 0) (i32 g) (i32 v) h) (f_X12_leavesOf_b13 m' (some 26) (i32 g) (i32 v) h') := by
  intro k
  induction k with
  | zero =>
    intro m m' v uc um h h' Q M hm hm' hv
    obtain ⟨m, rfl⟩ := succ_of hm
    obtain ⟨m', rfl⟩ := succ_of hm'
    rw [e_X11_leaves_b36, e_X12_leavesOf_b13, show v = 61 by omega]
    exact RR.mk (-4) (if_pos (by decide)) (if_pos (by decide))
  | succ k ih =>
    intro m m' v uc um h h' Q M hm hm' hv
    obtain ⟨m, rfl⟩ := succ_of hm
    obtain ⟨m', rfl⟩ := succ_of hm'
    have z : ¬ (60 : Int32) < i32 v := by rw [show (60 : Int32) = i32 60 from rfl, i32_lt (by omega) (by omega)]; omega
    rw [e_X11_leaves_b36, e_X12_leavesOf_b13, if_neg z, if_neg z]
    have W := Q.1.1
    obtain ⟨i1, i2⟩ := M.ins Q hg
    simp only [W.o1, sb_some, cv_ok M.1.1.1.1, i1, bd_some, Q.2.1.o1, i2]
    cases e : inP uc g with
    | false => exact RR.mk (i32 v) (if_pos rfl) (if_pos rfl)
    | true =>
      rw [if_neg nb1, if_neg nb1]
      obtain ⟨h1, a1, a2, M1, Q1, F1, G1⟩ := Q_dayO Q hg M
      simp only [a1, a2, bd_some, i32_s]
      exact RR.tr0 F1 G1 (ih m m' (v + 1) _ _ _ _ Q1 M1 (by omega) (by omega) (by omega))
/-- the class's and the reference's leaves of one guest -/
theorem Q_goes (Q : QS n s h h') {u : R54} (hg : g < n) (M : MS n u h h') : ∃ (r : Bool) (h1 h1' : AH), f_X11_goesNextDay (some 0) (i32 g) h = some (bI r, h1) ∧ f_X12_hasLeftNext (some 26) (i32 g) h' = some (bI r, h1') ∧ QS n s h1 h1' ∧ Fq 0 h h1 ∧ Fm h' h1' := by
  obtain ⟨h1, a1, a2, M1, Q1, F1, G1⟩ := Q_dayO Q hg (M.mg g)
  obtain ⟨i1, i2⟩ := M1.ins Q1 hg
  refine ⟨!inP (dayO g u) g, h1, _, ?_, ?_, Q1, F1, G1⟩
  · unfold f_X11_goesNextDay
    have W := Q.1.1
    have W1 := Q1.1.1
    simp only [W.o1, sb_some, cv_ok M.1.1.1.1, a1, bd_some, W1.o1, cv_ok M1.1.1.1.1, i1]
    cases inP (dayO g u) g <;> rfl
  · unfold f_X12_hasLeftNext
    simp only [Q.2.1.o1, sb_some, a2, bd_some, Q1.2.1.o1, i2]
    cases inP (dayO g u) g <;> rfl
theorem Q_tel (Q : QS n s h h') {u : R54} (hg : g < n) (M : MS n u h h') (hc : ct g u = true) : ∃ h1, f_X5_tellSecret (some 8) (i32 g) h = some ((), h1) ∧ f_X12_tellsIn (some 28) (i32 g) h' = some ((), wI h' 28 (tel g u)) ∧ MS n (tel g u) h1 (wI h' 28 (tel g u)) ∧ QS n s h1 (wI h' 28 (tel g u)) ∧ Fq 0 h h1 ∧ Fm h' (wI h' 28 (tel g u)) := by
  have h7 := Q.h7
  obtain ⟨h1, e1, H1, B1⟩ := k_tellSecret M.1 M.2.1 hg
  have G : Fm h' (wI h' 28 (tel g u)) := Fm.w28 (by rw [M.2.2]; exact hi_tel (hi.rf u) (by omega))
  exact ⟨h1, e1, by rw [m_tellsIn Q.2.1.1.2.2.1 (by omega), M.2.2], ⟨H1, Ok_tel M.2.1 hg hc, aI_eq⟩, Q.q B1.q G, B1.q, G⟩
theorem Q_lnd (Q : QS n s h h') {u : R54} {o : Nat} (hg : g < n) (ho : o < n) (hgo : g ≠ o) {w : Int32} (hw : rg w 20) (M : MS n u h h') (hc : cl g o w u = true) : ∃ h1, f_X5_lendPounds (some 8) (i32 g) (i32 o) w h = some ((), h1) ∧ f_X12_lendsIn (some 28) (i32 g) (i32 o) w h' = some ((), wI h' 28 (lnd g o w u)) ∧ MS n (lnd g o w u) h1 (wI h' 28 (lnd g o w u)) ∧ QS n s h1 (wI h' 28 (lnd g o w u)) ∧ Fq 0 h h1 ∧ Fm h' (wI h' 28 (lnd g o w u)) := by
  have h7 := Q.h7
  obtain ⟨h1, e1, H1, B1⟩ := k_lend M.1 M.2.1 hg ho w
  have G : Fm h' (wI h' 28 (lnd g o w u)) := Fm.w28 (by rw [M.2.2]; exact hi_lnd (hi.rf u) (by omega) (by omega))
  exact ⟨h1, e1, by rw [m_lendsIn Q.2.1.1.2.2.1 (by omega) (by omega), M.2.2], ⟨H1, Ok_lnd M.2.1 hg ho hgo hw hc, aI_eq⟩, Q.q B1.q G, B1.q, G⟩
/-- secrets told in mind -/
def tels (g : Nat) : Nat → R54 → R54
  | 0, u => u
  | k + 1, u => tels g k (tel g u)
theorem tel_in (g : Nat) (u : R54) : inP (tel g u) g = inP u g := by
  unfold inP tel
  rw [up_ne (by omega), up_ne (by omega)]
theorem tel_se (g : Nat) (u : R54) : tel g u (7 * g + 9) = u (7 * g + 9) - 1 := by
  unfold tel
  rw [up_ne (by omega), up_eq]
theorem rl_tell55 (hg : g < n) {v S : Nat} (kc km : AH → Option (Int32 × AH)) (K : Option Nat → Int32 → Int32 → AH → Option (Int32 × AH)) (K' : Option Nat → Int32 → Int32 → AH → Option (Int32 × AH)) (hv : v ≤ 9) (hk : ∀ h h', QS n s h h' → RR 0 h h' (K (some 0) (i32 g) (i32 v + 1) h) (K' (some 26) (i32 g) (i32 v + 1) h')) : ∀ (k m m' i : Nat) (u : R54) (h h' : AH), QS n s h h' → MS n u h h' → inP u g = true → u (7 * g + 9) = i32 S → k ≤ S → S ≤ 9 → k < m → k < m' → i + k = v → RR 0 h h' (f_X11_tell_b55 K m (some 0) (i32 g) (i32 v) (i32 i) h) (f_X12_tell_b53 K' m' (some 26) (i32 g) (i32 v) (i32 i) h') := by
  intro k
  induction k generalizing S with
  | zero =>
    intro m m' i u h h' Q M hin hS hkS hS9 hm hm' hi
    obtain ⟨m, rfl⟩ := succ_of hm
    obtain ⟨m', rfl⟩ := succ_of hm'
    have z : i32 v ≤ i32 i := by rw [i32_le (by omega) (by omega)]; omega
    obtain ⟨r, h1, h1', a1, a2, Q1, F1, G1⟩ := Q_goes Q hg M
    rw [e_X11_tell_b55, e_X12_tell_b53, if_pos z, if_pos z]
    simp only [cv_ok Q.1.1.1.1, cv_ok Q.2.1.1.1, a1, a2, bd_some]
    cases r with
    | false =>
      rw [if_pos pb0, if_pos pb0]
      exact RR.tr0 F1 G1 (hk _ _ Q1)
    | true =>
      rw [if_neg nb1, if_neg nb1]
      exact RR.mk2 (i32 v) F1 G1 rfl rfl
  | succ k ih =>
    intro m m' i u h h' Q M hin hS hkS hS9 hm hm' hi
    obtain ⟨m, rfl⟩ := succ_of hm
    obtain ⟨m', rfl⟩ := succ_of hm'
    have z : ¬ i32 v ≤ i32 i := by rw [i32_le (by omega) (by omega)]; omega
    have hc : ct g u = true := by
      unfold ct
      rw [hin, hS, show (0 : Int32) = i32 0 from rfl, decide_eq_true (by rw [i32_lt (by omega) (by omega)]; omega)]
      rfl
    obtain ⟨h1, a1, a2, M1, Q1, F1, G1⟩ := Q_tel Q hg M hc
    rw [e_X11_tell_b55, e_X12_tell_b53, if_neg z, if_neg z]
    simp only [Q.1.1.o1, sb_some, cv_ok M.1.1.1.1, a1, bd_some, Q.2.1.o1, a2, i32_s]
    exact RR.tr0 F1 G1 (ih (S := S - 1) m m' (i + 1) _ _ _ Q1 M1 (by rw [tel_in]; exact hin) (by rw [tel_se, hS, show (1 : Int32) = i32 1 from rfl, i32_sub (by omega)]) (by omega) (by omega) (by omega) (by omega) (by omega))
theorem rl_tell29 (hg : g < n) {S : Nat} (hS9 : S ≤ 9) (hin : inP s g = true) (hS : s (7 * g + 9) = i32 S) : ∀ (k m m' v : Nat) (h h' : AH), QS n s h h' → k < m → k < m' → v + k = S + 1 → RR 0 h h' (f_X11_tell_b29 m (some 0) (i32 g) (i32 v) h) (f_X12_tell_b26 m' (some 26) (i32 g) (i32 v) h') := by
  intro k
  induction k with
  | zero =>
    intro m m' v h h' Q hm hm' hv
    obtain ⟨m, rfl⟩ := succ_of hm
    obtain ⟨m', rfl⟩ := succ_of hm'
    have h7 := Q.h7
    have T := Q.1.2.1.1
    have z : i32 S < i32 v := by rw [i32_lt (by omega) (by omega)]; omega
    rw [e_X11_tell_b29, e_X12_tell_b26]
    simp only [Q.1.1.o0, sb_some, gR_1 T.1.1, T.2.1.2.2.2.1, iA_ok T.1.2.2.2.2.1 (show g < 7 by omega) (by omega), (Q.1.2.1.2.2 g hg).2.2.2.1, Q.2.1.o0, m_of4, bd_some, r54 (7 * g + 9) (by omega) Q.2.1.1.2.1, Q.2.2.1, hS]
    exact RR.mk (-4) (if_pos z) (if_pos z)
  | succ k ih =>
    intro m m' v h h' Q hm hm' hv
    obtain ⟨m, rfl⟩ := succ_of hm
    obtain ⟨m', rfl⟩ := succ_of hm'
    have h7 := Q.h7
    have T := Q.1.2.1.1
    have z : ¬ i32 S < i32 v := by rw [i32_lt (by omega) (by omega)]; omega
    obtain ⟨h1, a1, a2, M1, Q1, F1, G1⟩ := Q_mind Q
    rw [e_X11_tell_b29, e_X12_tell_b26]
    simp only [Q.1.1.o0, Q.1.1.o1, sb_some, gR_1 T.1.1, T.2.1.2.2.2.1, iA_ok T.1.2.2.2.2.1 (show g < 7 by omega) (by omega), (Q.1.2.1.2.2 g hg).2.2.2.1, Q.2.1.o0, Q.2.1.o1, m_of4, bd_some, r54 (7 * g + 9) (by omega) Q.2.1.1.2.1, Q.2.2.1, hS, cv_ok Q.1.1.2.2.1.2.1.1.1, a1, a2]
    rw [if_neg z, if_neg z]
    exact RR.tr0 F1 G1 (rl_tell55 hg (S := S) (fun _ => none) (fun _ => none) _ _ (by omega) (fun hh hh' QQ => by
      rw [i32_s]
      exact ih m m' (v + 1) hh hh' QQ (by omega) (by omega) (by omega)) v FU FU 0 s _ _ Q1 M1 hin hS (by omega) hS9 (fu_pos (by omega)) (fu_pos (by omega)) (by omega))
theorem R_tell (Q : QS n s h h') (v1 : Int32) : RR 0 h h' (f_X11_tell (some 0) v1 h) (f_X12_tell (some 26) v1 h') := by
  unfold f_X11_tell f_X12_tell
  have W := Q.1.1
  simp only [W.o0, sb_some, cv_ok W.2.2.1.1.1.1, cv_ok Q.2.1.1.1, (Q.cg v1).1, (Q.cg v1).2, bd_some, bI_0]
  cases e1 : isg n v1 with
  | false => exact RR.mk (-1) (if_pos rfl) (if_pos rfl)
  | true =>
    rw [if_neg ntf, if_neg ntf]
    obtain ⟨g, rfl, hg⟩ := isg_of Q.h7 e1
    have h7 := Q.h7
    simp only [k_isIn Q.1.2.1 Q.1.2.2 hg, bd_some, Q.2.1.o0, sb_some, m_isHere Q.2.1.1.2.1 (show g < 7 by omega), Q.2.2.1]
    show RR 0 h h' (if bI (inP s g) = 0 then _ else _) (if bI (inP s g) = 0 then _ else _)
    cases e : inP s g with
    | false => exact RR.mk (-3) (if_pos rfl) (if_pos rfl)
    | true =>
      rw [if_neg nb1, if_neg nb1]
      obtain ⟨S, hS9, hS⟩ := (Q.1.2.2.2.2 g hg).2.2.1
      exact rl_tell29 hg hS9 e hS (S + 1) FU FU 0 h h' Q (fu_pos (by omega)) (fu_pos (by omega)) (by omega)
end ONE
