/-! WHAT CHANGES THE HOUSE -/
section UPD
variable {p : ST} {h h' : AH}
theorem Gst.ne {h : AH} {k c : Nat} {κ f : Int32} {q : Nat → Int32} (G : Gst h k κ f) (hc : k ≠ c) : Gst (wI h c q) k κ f := by
  obtain ⟨x0, x, x1, x2, x3⟩ := G
  refine ⟨x0, x, x1, x2, ?_⟩
  rw [aI_ne hc]
  exact x3
theorem Gst.neT {h : AH} {k c : Nat} {κ f : Int32} {t : AT} (G : Gst h k κ f) (hT : aT h c = some t) (ht : ∀ j, t = .inr j → j ∉ GF) : k ≠ c := by
  obtain ⟨x0, x, x1, x2, x3⟩ := G
  intro e
  subst e
  rw [x1] at hT
  cases hT
  exact ht _ rfl (gk_GF x2)
theorem Hs.ne {h : AH} {b n c : Nat} {s : R54} {q : Nat → Int32} {t : AT} (H : Hs h b n s) (hT : aT h c = some t) (ht : ∀ j, t = .inr j → j ∉ GF) (hc : c ≠ b ∧ c ≠ b + 2 ∧ c ≠ b + 3 ∧ c ≠ b + 4 ∧ c ≠ b + 5) : Hs (wI h c q) b n s := by
  obtain ⟨c0, c1, c2, c3, c4⟩ := hc
  refine ⟨H.1, ?_, fun g hg => ?_⟩
  · unfold SC
    rw [aI_ne (Ne.symm c0)]
    exact H.2.1
  · obtain ⟨⟨k, x0, x1⟩, x2⟩ := H.2.2 g hg
    unfold PG
    rw [aI_ne (Ne.symm c1), aI_ne (Ne.symm c2), aI_ne (Ne.symm c3), aI_ne (Ne.symm c4)]
    exact ⟨⟨k, x0, x1.ne (x1.neT hT ht)⟩, x2⟩
theorem KP.ne {h : AH} {c : Nat} {q : Nat → Int32} {t : AT} (hT : aT h c = some t) (ht : ∀ j, t = .inr j → j ∉ GF) (hc : c < 41) : KP h (wI h c q) :=
  ⟨Nat.le_refl _, fun k κ f G => G.ne (G.neT hT ht), fun d d1 d2 => ⟨rfl, aI_ne (by omega), rfl⟩, rfl, rfl⟩
theorem U_tells (P : PS p h h') (v1 : Int32) : UU h h' (f_X11_tells (some 0) v1 h) (f_X12_tells (some 26) v1 h') := by
  unfold f_X11_tells f_X12_tells
  have Q := P.q
  have W := Q.1.1
  have h7 := Q.h7
  have r0 := Q.2.1.1.2.1
  simp only [W.o0, sb_some, cv_ok W.2.2.1.1.1.1, cv_ok Q.2.1.1.1, (Q.cg v1).1, (Q.cg v1).2, bd_some, bI_0]
  cases e1 : isg p.1 v1 with
  | false => exact UU.same P (-1) (if_pos rfl) (if_pos rfl)
  | true =>
    rw [if_neg ntf, if_neg ntf]
    obtain ⟨g, rfl, hg⟩ := isg_of h7 e1
    simp only [k_canTell Q.1.2.1 Q.1.2.2 hg, bd_some, Q.2.1.o0, sb_some, m_canTell r0 (show g < 7 by omega), Q.2.2.1]
    cases e : ct g p.2.1 with
    | false => exact UU.same P (-3) (if_pos pb0) (if_pos pb0)
    | true =>
      rw [if_neg nb1, if_neg nb1]
      obtain ⟨h1, a1, H1, F1⟩ := k_tellSecret Q.1.2.1 Q.1.2.2 hg
      have W1 := W.fr F1 (Or.inl rfl)
      have hin : inP p.2.1 g = true := by
        unfold ct at e
        simp only [Bool.and_eq_true] at e
        exact e.1
      have Wn : Wm (wI h' 27 (tel g p.2.1)) := Q.2.1
      refine UU.house P (tel g p.2.1 (7 * g + 7)) H1 F1 (Ok_tel Q.1.2.2 hg e) (LW_tel P.1.1.2.2.2 hin) (hi_tel (hi.rf _) (by omega)) ?_ ?_
      · simp only [W.o0, sb_some, cv_ok W.2.2.1.1.1.1, a1, bd_some, W1.o0, gR_1 H1.1.1.1, H1.1.2.1.2.1, iA_ok H1.1.1.2.2.1 (show g < 7 by omega) (by omega), (H1.2.2 g hg).2.1]
      · simp only [Q.2.1.o0, m_tellsIn r0 (show g < 7 by omega), bd_some, Q.2.2.1, Wn.o0, sb_some, m_of2, r54 (7 * g + 7) (by omega) Wn.1.2.1, aI_eq]
theorem U_lends (P : PS p h h') (v1 v2 v3 : Int32) : UU h h' (f_X11_lends (some 0) v1 v2 v3 h) (f_X12_lends (some 26) v1 v2 v3 h') := by
  unfold f_X11_lends f_X12_lends
  have Q := P.q
  have W := Q.1.1
  have h7 := Q.h7
  have r0 := Q.2.1.1.2.1
  simp only [cv_ok W.1.1, cv_ok Q.2.1.1.1, c_areTwo Q, (Q.cg v1).2, (Q.cg v2).2, bd_some, bI_0, m_btw, c_in]
  cases e1 : isg p.1 v1 with
  | false => exact UU.same P (-1) (if_pos rfl) (if_pos rfl)
  | true =>
    cases e2 : isg p.1 v2 with
    | false => exact UU.same P (-1) (if_pos rfl) ((if_neg ntf).trans (if_pos rfl))
    | true =>
      rw [if_neg ntf, if_neg ntf]
      by_cases e3 : v1 = v2
      · exact UU.same P (-1) (if_pos (by rw [decide_eq_true e3]; rfl)) (if_pos e3)
      · rw [decide_eq_false e3, if_neg (show ¬ ((true && (true && !false)) = false) by decide), if_neg e3]
        cases e4 : btw v3 1 20 with
        | false => exact UU.same P (-1) (if_pos rfl) (if_pos rfl)
        | true =>
          rw [if_neg ntf, if_neg ntf]
          obtain ⟨g, rfl, hg⟩ := isg_of h7 e1
          obtain ⟨o, rfl, ho⟩ := isg_of h7 e2
          obtain ⟨w, rfl, hw1, hw2⟩ := btw_of1 (a := 1) (m := 20) (by omega) (by omega) e4
          have hgo : g ≠ o := fun z => e3 (by rw [z])
          simp only [W.o0, sb_some, cv_ok W.2.2.1.1.1.1, k_canLend Q.1.2.1 Q.1.2.2 hg ho, bd_some, Q.2.1.o0, m_canLend r0 (show g < 7 by omega) (show o < 7 by omega), Q.2.2.1]
          cases e : cl g o (i32 w) p.2.1 with
          | false => exact UU.same P (-3) (if_pos pb0) (if_pos pb0)
          | true =>
            rw [if_neg nb1, if_neg nb1]
            obtain ⟨h1, a1, H1, F1⟩ := k_lend Q.1.2.1 Q.1.2.2 hg ho (i32 w)
            have W1 := W.fr F1 (Or.inl rfl)
            have hin : inP p.2.1 g = true ∧ inP p.2.1 o = true := by
              unfold cl at e
              simp only [Bool.and_eq_true] at e
              exact ⟨e.1, e.2.1⟩
            have Wn : Wm (wI h' 27 (lnd g o (i32 w) p.2.1)) := Q.2.1
            refine UU.house P (lnd g o (i32 w) p.2.1 (7 * g + 7)) H1 F1 (Ok_lnd Q.1.2.2 hg ho hgo ⟨w, by omega, rfl⟩ e) (LW_lnd P.1.1.2.2.2 hin.1 hin.2) (hi_lnd (hi.rf _) (by omega) (by omega)) ?_ ?_
            · simp only [a1, bd_some, W1.o0, sb_some, gR_1 H1.1.1.1, H1.1.2.1.2.1, iA_ok H1.1.1.2.2.1 (show g < 7 by omega) (by omega), (H1.2.2 g hg).2.1]
            · simp only [m_lendsIn r0 (show g < 7 by omega) (show o < 7 by omega), bd_some, Q.2.2.1, Wn.o0, sb_some, m_of2, r54 (7 * g + 7) (by omega) Wn.1.2.1, aI_eq]
theorem c_isDigit {h : AH} (v : Int32) : f_X11_isDigit v h = some (bI (btw v 0 9), h) := by
  unfold f_X11_isDigit
  rw [c_out]
  cases btw v 0 9 <;> rfl
theorem c_isWeight {h : AH} (v : Int32) : f_X11_isWeight v h = some (bI (btw v 0 99), h) := by
  unfold f_X11_isWeight
  rw [c_out]
  cases btw v 0 99 <;> rfl
theorem U_table (P : PS p h h') (v1 v2 : Int32) : UU h h' (f_X11_table (some 0) v1 v2 h) (f_X12_table (some 26) v1 v2 h') := by
  unfold f_X11_table f_X12_table
  have Q := P.q
  have W := Q.1.1
  have r0 := Q.2.1.1.2.1
  simp only [c_isDigit, m_btw, bd_some, bI_0]
  cases e1 : btw v1 0 9 with
  | false => exact UU.same P (-1) (if_pos rfl) (if_pos rfl)
  | true =>
    rw [if_neg ntf, if_neg ntf]
    cases e2 : btw v2 0 9 with
    | false => exact UU.same P (-1) (if_pos rfl) (if_pos rfl)
    | true =>
      rw [if_neg ntf, if_neg ntf]
      obtain ⟨a, rfl, ha⟩ := btw_of (m := 9) (by omega) e1
      obtain ⟨b, rfl, hb⟩ := btw_of (m := 9) (by omega) e2
      obtain ⟨q5, q6, q7, q8, q9, q10⟩ := Q.1.2.1.2.1
      obtain ⟨H1, F1⟩ := Q.1.2.1.wF (v := i32 a) (k := 7) (i := 3) (by omega)
      obtain ⟨H2, F2⟩ := H1.wF (v := i32 b) (k := 8) (i := 4) (by omega)
      have W1 := W.fr F1 (Or.inl rfl)
      have T := Q.1.2.1.1
      refine UU.house P (10 * p.2.1 3 + p.2.1 4) H2 (F1.tr F2) ((Q.1.2.2.up (okV_3 ⟨a, ha, rfl⟩)).up (okV_4 ⟨b, hb, rfl⟩)) ((P.1.1.2.2.2.up fun g _ => ⟨by omega, by omega, by omega⟩).up fun g _ => ⟨by omega, by omega, by omega⟩) (((hi.rf _).up (by omega)).up (by omega)) ?_ ?_
      · simp only [W.o0, sb_some, gI_1 T.1.1, nm_eq, pI_1' T.1.1, W1.o0, pI_1' H1.1.1.1, q7, q8]
      · have Wn : ∀ f, Wm (wI h' 27 f) := fun _ => Q.2.1
        simp only [Q.2.1.o0, sb_some, r54_3 r0, r54_4 r0, nm_eq, w54_3 r0, (Wn _).o0, w54_4 (Wn _).1.2.1, aI_eq, wI_wI, Q.2.2.1]
theorem U_weighs (P : PS p h h') (v1 v2 : Int32) : UU h h' (f_X11_weighs (some 0) v1 v2 h) (f_X12_weighs (some 26) v1 v2 h') := by
  unfold f_X11_weighs f_X12_weighs
  have Q := P.q
  have W := Q.1.1
  have h7 := Q.h7
  have r0 := Q.2.1.1.2.1
  simp only [W.o0, sb_some, cv_ok W.2.2.1.1.1.1, cv_ok Q.2.1.1.1, (Q.cg v1).1, (Q.cg v1).2, bd_some, bI_0, c_isWeight, m_btw]
  cases e1 : isg p.1 v1 with
  | false => exact UU.same P (-1) (if_pos rfl) (if_pos rfl)
  | true =>
    rw [if_neg ntf, if_neg ntf]
    cases e2 : btw v2 0 99 with
    | false => exact UU.same P (-1) (if_pos rfl) (if_pos rfl)
    | true =>
      rw [if_neg ntf, if_neg ntf]
      obtain ⟨g, rfl, hg⟩ := isg_of h7 e1
      obtain ⟨w, rfl, hw⟩ := btw_of (m := 99) (by omega) e2
      simp only [k_isIn Q.1.2.1 Q.1.2.2 hg, bd_some, Q.2.1.o0, sb_some, m_isHere r0 (show g < 7 by omega), Q.2.2.1]
      show UU h h' (if bI (inP p.2.1 g) = 0 then _ else _) (if bI (inP p.2.1 g) = 0 then _ else _)
      cases e : inP p.2.1 g with
      | false => exact UU.same P (-3) (if_pos pb0) (if_pos pb0)
      | true =>
        rw [if_neg nb1, if_neg nb1]
        have T := Q.1.2.1.1
        obtain ⟨H1, F1⟩ := Q.1.2.1.wA (g := g) (v := i32 w) (t := 2) (by omega)
        refine UU.house P (p.2.1 (7 * g + 7)) H1 F1 (Q.1.2.2.up (okV_w ⟨w, hw, rfl⟩)) (P.1.1.2.2.2.w e) ((hi.rf _).up (by omega)) ?_ ?_
        · simp only [W.o0, gR_1 T.1.1, sb_some, T.2.1.2.1, iA_ok T.1.2.2.1 (show g < 7 by omega) (by omega), iS_ok T.1.2.2.1 (show g < 7 by omega) (by omega), (Q.1.2.1.2.2 g hg).2.1]
        · simp only [Q.2.1.o0, m_of2, bd_some, r54 (7 * g + 7) (by omega) r0, sb_some, w54 (7 * g + 7) (by omega) _ r0, Q.2.2.1]
theorem U_days (P : PS p h h') (v1 : Int32) : UU h h' (f_X11_days (some 0) v1 h) (f_X12_days (some 26) v1 h') := by
  unfold f_X11_days f_X12_days
  have Q := P.q
  have W := Q.1.1
  have h7 := Q.h7
  have r0 := Q.2.1.1.2.1
  have T := Q.1.2.1.1
  simp only [c_in, m_btw, bd_some, bI_0]
  cases e1 : btw v1 1 60 with
  | false => exact UU.same P (-1) (if_pos rfl) (if_pos rfl)
  | true =>
    rw [if_neg ntf, if_neg ntf]
    obtain ⟨N, rfl, hN1, hN2⟩ := btw_of1 (a := 1) (m := 60) (by omega) (by omega) e1
    simp only [W.o0, sb_some, gI_1 T.1.1, Q.1.2.1.2.1.2.2.2.2.2, Q.2.1.o0, r54_1 r0, Q.2.2.1]
    by_cases e : p.2.1 1 + i32 N ≤ 999
    · rw [if_pos e, if_pos e]
      obtain ⟨h1, a1, H1, O1, F1⟩ := k_passDays Q.1.2.1 Q.1.2.2 (N := N) (by omega)
      have W1 := W.fr F1 (Or.inl rfl)
      have Wn : Wm (wI h' 27 (daysM p.1 N p.2.1)) := Q.2.1
      refine UU.house P (daysM p.1 N p.2.1 2) H1 F1 O1 (LW_daysM N _ P.1.1.2.2.2) (hi_daysM h7 N _ (hi.rf _)) ?_ ?_
      · simp only [cv_ok T.1.1, a1, bd_some, W1.o0, sb_some, gI_1 H1.1.1.1, H1.2.1.2.2.2.2.1]
      · simp only [m_daysOn r0 Q.n0 h7 (show N < 1000 by omega), bd_some, Q.2.2.1, Wn.o0, sb_some, r54_2 Wn.1.2.1, aI_eq]
    · rw [if_neg e, if_neg e]
      exact UU.same P (-3) rfl rfl
theorem U_image (P : PS p h h') : UU h h' (f_X11_image (some 0) h) (f_X12_image (some 26) h') := by
  unfold f_X11_image f_X12_image
  have Q := P.q
  have W := Q.1.1
  have h7 := Q.h7
  obtain ⟨⟨⟨a1, a2, a3, a4⟩, ⟨b1, b2⟩, c⟩, Wn, ⟨m1, m2, m3, m4⟩, m5, m6, m7⟩ := P
  obtain ⟨h1, e1, H1, F1⟩ := k_becomes (b := 15) (b2 := 1) (by omega) W.2.2.1.2.2 a2 a3.1.2.1
  have W1 := W.fr F1 (Or.inr (Or.inr rfl))
  have hn1 := a2.fr W.2.2.1.2.2 F1 (by omega)
  have t11 : ∀ j, (Sum.inr 11 : AT) = .inr j → j ∉ GF := fun j e => by cases e; decide
  have W2 : Wc (wI h1 0 (va_up (aI h1 0) 3 1)) := W1
  have hn2 : Hs (wI h1 0 (va_up (aI h1 0) 3 1)) 1 p.1 p.2.1 := hn1.ne W1.1.1 t11 (by omega)
  refine ⟨p.2.1 1, wI h1 0 (va_up (aI h1 0) 3 1), wI (wI h' 29 p.2.1) 26 (va_up (aI (wI h' 29 p.2.1) 26) 4 1), (p.1, p.2.1, p.1, p.2.1, 1, p.2.2.2.2.2), ?_, ?_, ⟨⟨W2, hn2, a3, a4⟩, ⟨by rw [aI_eq, up_eq], Or.inr ⟨rfl, H1.ne W1.1.1 t11 (by omega), a3, a4⟩⟩, (c.kp (F1.kp W.2.2.1.2.2 (Or.inr (Or.inr rfl)))).kp (KP.ne W1.1.1 t11 (by omega))⟩, ⟨Wn, ⟨?_, ?_, ?_, fun i hi => ?_⟩, ?_, hi.rf _, ?_⟩, ?_, ?_⟩
  · simp only [W.o2, W.o0, sb_some, cv_ok W.2.2.1.2.2.1.1, e1, bd_some, pI_1' W1.1.1, W2.o0, gI_1 hn2.1.1.1, hn2.2.1.2.2.2.2.2]
  · have W3 : Wm (wI h' 29 p.2.1) := Wn
    have W4 : Wm (wI (wI h' 29 p.2.1) 26 (va_up (aI (wI h' 29 p.2.1) 26) 4 1)) := Wn
    rw [Wn.o0, sb_some, Wn.o2, sb_some, m_copies (by omega) Wn.1.2.1 Wn.1.2.2.2.1 (by rw [m1, m2]; exact m6), bd_some, m1, pI_1' W3.1.1, sb_some, W4.o0, sb_some, r54_1 W4.1.2.1, sb_some, aI_ne (show 27 ≠ 26 by omega), aI_ne (show 27 ≠ 29 by omega), m1]
  · rw [aI_ne (by omega), aI_ne (by omega)]; exact m1
  · rw [aI_ne (by omega), aI_eq]
  · rw [aI_eq, up_eq]
  · rw [aI_ne (by omega), aI_ne (by omega)]; exact m4 i hi
  · rw [aI_ne (by omega), aI_ne (by omega)]; exact m5
  · rw [aI_ne (by omega), aI_ne (by omega)]; exact m7
  · obtain ⟨⟨f1, f2, f3, f4⟩, f5⟩ := F1.c (Or.inr (Or.inr rfl))
    exact ⟨⟨f1, f2, f3, f4⟩, fun q q1 q2 => ⟨(f5 q q1 q2).1, (aI_ne (by omega)).trans (f5 q q1 q2).2.1, (f5 q q1 q2).2.2⟩⟩
  · exact ⟨⟨rfl, rfl, rfl, rfl⟩, fun q hq => (aI_ne (by omega)).trans (aI_ne (by omega))⟩
theorem U_restore (P : PS p h h') : UU h h' (f_X11_restore (some 0) h) (f_X12_restore (some 26) h') := by
  unfold f_X11_restore f_X12_restore
  have Q := P.q
  have W := Q.1.1
  have Wn := Q.2.1
  obtain ⟨b1, b2⟩ := P.1.2.1
  rw [gI_1 W.1.1, sb_some, b1, gI_1 Wn.1.1, sb_some, P.2.2.1.2.2.1]
  rcases b2 with b2 | ⟨b2, b3, b4, b5⟩
  · rw [if_pos b2, if_pos b2]
    exact UU.same P (-3) rfl rfl
  · rw [if_neg (by rw [b2]; decide), if_neg (by rw [b2]; decide)]
    obtain ⟨h1, e1, H1, F1⟩ := k_becomes (b := 1) (b2 := 15) (by omega) W.2.2.1.1 b3 b4.1.2.1
    have W1 := W.fr F1 (Or.inl rfl)
    have W3 : Wm (wI h' 27 p.2.2.2.1) := Wn
    refine UU.house P (p.2.2.2.1 1) H1 F1 b4 b5 P.2.2.2.2.1 ?_ ?_
    · simp only [W.o0, W.o2, sb_some, cv_ok W.2.2.1.1.1.1, e1, bd_some, W1.o0, gI_1 H1.1.1.1, H1.2.1.2.2.2.2.2]
    · rw [Wn.o2, sb_some, Wn.o0, sb_some, m_copies (by omega) Wn.1.2.2.2.1 Wn.1.2.1 (by rw [P.2.2.1.1, P.2.2.1.2.1]; exact P.2.2.2.2.1.sy), bd_some, P.2.2.1.2.1, W3.o0, sb_some, r54_1 W3.1.2.1, sb_some, aI_eq]
end UPD
