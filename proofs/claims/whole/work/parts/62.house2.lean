/-! HOUSE: the call -/
section HOUSE2
variable {p : ST} {h h' : AH}
/-- the byte of an int that is one -/
def by8 (v : Int32) : Nat := (Int32.toInt8 v).toBitVec.toNat
theorem by8_lt (v : Int32) : by8 v < 256 := (Int32.toInt8 v).toBitVec.isLt
theorem by8_eq {v : Int32} (h : Int8.toInt32 (Int32.toInt8 v) = v) : b8 (by8 v) = v := by
  unfold b8 by8
  rw [BitVec.ofNat_toNat, BitVec.setWidth_eq]
  exact h
theorem RT.f {h1 : AH} {d z q : Nat} {c : Nat → Nat} (R : RT h d z c q) (W : Wm h1) (e : aI h1 26 5 = aI h 26 5 ∧ aI h1 26 6 = aI h 26 6 ∧ aI h1 26 7 = aI h 26 7) (e39 : aI h1 39 = aI h 39) : RT h1 d z c q := by
  obtain ⟨_, ⟨a1, a2, a3⟩, b, k⟩ := R
  obtain ⟨e1, e2, e3⟩ := e
  exact ⟨W, ⟨e1.trans a1, e2.trans a2, e3.trans a3⟩, b, fun j hj => ⟨(k j hj).1, by rw [e39]; exact (k j hj).2⟩⟩
theorem Fm.w30 {h : AH} {f : R54} (e : hi f (aI h 30)) : Fm h (wI h 30 f) := ⟨⟨rfl, rfl, rfl, rfl⟩, fun c _ _ e3 _ _ _ => aI_ne e3, rfl, hi.rf _, by rw [aI_eq]; exact e⟩
theorem m_reads0 {d : Nat} {c : Nat → Nat} (R : RT h d 0 c 0) : f_X12_readsStatement (some 26) h = some (0, GR h (aI h 31) 0) := by
  have W := R.1
  have st : wI h 26 (va_up (aI h 26) 5 (i32 (0 + 1))) = GR h (aI h 31) 1 := by
    unfold GR
    rw [wI_self]
  unfold f_X12_readsStatement
  rw [cv_ok W.1.1, m_here R, if_neg (by omega), bd_some, gI_1 W.1.1, sb_some, pI_1' W.1.1, sb_some, R.2.1.1, i32_s, st, if_neg (by decide), if_neg (by decide), if_neg (by decide), if_neg (by decide), if_neg (by decide), if_neg (by decide)]
  have W2 : Wm (GR h (aI h 31) 1) := W
  unfold f_X12_readsStatement_b191
  rw [gI_1 W2.1.1, sb_some, pI_1' W2.1.1, sb_some, GR_5, show i32 1 - 1 = i32 0 from rfl, GR_p]
/-- what the reference does behind the first look -/
theorem m_b77 {d z q cnt : Nat} {c : Nat → Nat} {w : Int32} (M : MDL h p) (R : RT h d z c q) : ∃ hB, f_X12_house_b77 (some 26) (i32 cnt) w h = f_X12_house_b93 FU (some 26) (i32 cnt) w hB ∧ MDL hB p ∧ RT hB d z c 0 ∧ aI hB 30 = p.2.1 ∧ Fm h hB := by
  have W := M.1
  have M27 : aI h 27 = p.2.1 := M.2.1.1
  have F1 : Fm h (wI h 30 p.2.1) := Fm.w30 M.2.2.2.2.sy
  have M1 := M.q F1
  have F2 : Fm (wI h 30 p.2.1) (wI (wI h 30 p.2.1) 26 (va_up (aI (wI h 30 p.2.1) 26) 5 0)) := Fm.w26 (by omega)
  refine ⟨wI (wI h 30 p.2.1) 26 (va_up (aI (wI h 30 p.2.1) 26) 5 0), ?_, M1.q F2, ?_, ?_, F1.tr F2⟩
  · unfold f_X12_house_b77
    rw [W.o0, sb_some, W.o3, sb_some, m_copies (by omega) W.1.2.1 W.1.2.2.2.2 (by rw [M27]; exact M.2.2.2.2), bd_some, M27, pI_1' M1.1.1.1, sb_some]
  · obtain ⟨_, ⟨a1, a2, a3⟩, ⟨b1, b2, b3⟩, k⟩ := R
    refine ⟨W, ⟨?_, ?_, ?_⟩, ⟨b1, b2, Nat.zero_le z⟩, fun j hj => ⟨(k j hj).1, ?_⟩⟩
    · rw [aI_eq, up_eq]; rfl
    · rw [aI_eq, up_ne (by omega), aI_ne (by omega)]; exact a2
    · rw [aI_eq, up_ne (by omega), aI_ne (by omega)]; exact a3
    · rw [aI_ne (by omega), aI_ne (by omega)]; exact (k j hj).2
  · rw [aI_ne (by omega), aI_eq]
theorem m_b93n {cnt : Nat} {w : Int32} (hw : ¬ w = 0) : f_X12_house_b93 FU (some 26) (i32 cnt) w h = some (w, h) := by
  obtain ⟨m, e⟩ := succ_of (fu_pos (k := 1) (by omega))
  rw [e, e_X12_house_b93, if_neg hw]
  unfold f_X12_house_b161
  rw [if_neg hw]
theorem U_house (P : PS p h h') (v1 : Int32) : UU h h' (f_X11_house (some 0) v1 h) (f_X12_house (some 26) v1 h') := by
  unfold f_X11_house f_X12_house
  have W := P.1.1.1
  have M := P.2
  rw [c_isShelf, bd_some, cv_ok M.1.1.1]
  cases ev : btw v1 0 7 with
  | false =>
    rw [if_pos pb0, m_wrongRowNo ev, bd_some, if_neg (by decide)]
    exact UU.same P (-1) rfl rfl
  | true =>
    obtain ⟨d, rfl, hd7⟩ := btw_of (m := 7) (by omega) ev
    have hd : d < 8 := by omega
    rw [if_neg nb1, cv_ok W.1.1, c_rowOn W hd, bd_some, m_wrongRow M hd, bd_some]
    by_cases e0 : p.2.2.2.2.2 0 d = 0
    · obtain ⟨n1, n2⟩ := sh_none P hd e0
      rw [n2, if_pos rfl, cv_ok W.1.1, c_whyRow W hd, n1, bd_some, if_pos rfl, if_pos e0, if_neg (by decide)]
      exact UU.same P (-11) rfl rfl
    · by_cases e2 : p.2.2.2.2.2 0 d = 2
      · obtain ⟨n1, r, e, z, n2, n3, R⟩ := sh_row P hd e2
        have hz := R.2.1
        rw [n2, if_neg (fun y => nomatch y), if_neg e0, if_pos e2, if_neg (show ¬ (0 : Int32) < 0 by decide), gI_1 R.1.2.1, sb_some, R.1.2.2.1]
        by_cases e3 : p.2.2.2.2.2 3 d = 0
        · rw [if_pos e3, if_pos e3, if_pos rfl]
          -- the text
          obtain ⟨c, hc⟩ : ∃ c : Nat → Nat, c = fun j => by8 (p.2.2.2.2.2 5 (100 * d + j)) := ⟨_, rfl⟩
          have c256 : ∀ j, c j < 256 := fun j => by rw [hc]; exact by8_lt _
          have c8 : ∀ j, j < z → b8 (c j) = p.2.2.2.2.2 5 (100 * d + j) := fun j hj => by
            rw [hc]
            exact by8_eq (sh_row8 P hd e2 n3 hz j hj e3)
          -- the class: the text's reader
          have hN := W.2.2.2
          have t10 : aT (nwH h (.inr 10) 1) (aN h) = some (.inr 10) := nwH_t
          obtain ⟨h2, eh2⟩ : ∃ h2, h2 = wR (nwH h (.inr 10) 1) (aN h) (va_up (aR (nwH h (.inr 10) 1) (aN h)) 0 (some r)) := ⟨_, rfl⟩
          have ci : bd (nn (some (aN h)) (f_X10_init (some (aN h)) (some r) (nwH h (.inr 10) 1))) (fun u9 h8 => bd (cv h8 (some (aN h)) 10 (f_X10_firstFlaw (some (aN h)) h8)) fun r11 h10 => (if r11 < 0 then (gR h10 (some 0) [11] 1).bind fun t12 => (gR h10 (some 0) [11] 0).bind fun t13 => bd (cv h10 t12 5 (f_X5_becomes t12 t13 h10)) fun u15 h14 => f_X11_house_b79 FU (some 0) (some r) (some (aN h)) 0 0 h14 else some (((-1000) - r11), h10))) = bd (cv h2 (some (aN h)) 10 (f_X10_firstFlaw (some (aN h)) h2)) fun r11 h10 => (if r11 < 0 then (gR h10 (some 0) [11] 1).bind fun t12 => (gR h10 (some 0) [11] 0).bind fun t13 => bd (cv h10 t12 5 (f_X5_becomes t12 t13 h10)) fun u15 h14 => f_X11_house_b79 FU (some 0) (some r) (some (aN h)) 0 0 h14 else some (((-1000) - r11), h10)) := by
            unfold f_X10_init
            rw [nn_some, if_neg (fun y => nomatch y), pR_1' t10, sb_some, bd_some, eh2]
          have NW1 : NW 1 1 h h2 := by
            rw [eh2]
            refine ⟨⟨rfl, rfl⟩, fun c hc => ?_⟩
            obtain ⟨o1, o2, o3, o4⟩ := nwH_o (h := h) (t := .inr 10) (m := 1) hc
            exact ⟨o1, o2, by rw [aR_ne (Nat.ne_of_lt hc)]; exact o3, o4⟩
          have F2 : Fq 1 h h2 := NW1.q (by omega)
          have C2 : CLS h2 p := P.1.q F2
          have W2 : Wc h2 := C2.1.1
          have R2 := R.kp (F2.kp W)
          have X2 : TX h2 (aN h) r e z c := by
            refine ⟨⟨hN, ?_, ?_, ?_⟩, ⟨by rw [← e3]; exact R2.1, hz, Or.inl rfl, fun j hj => ?_⟩, c256⟩
            · have := NW1.1.1; omega
            · rw [eh2]; exact t10
            · rw [eh2, aR_eq, up_eq]
            · rw [R2.2.2.2 j hj]; exact (c8 j hj).symm
          -- the reference: at the text
          have M26 : ∀ f : Nat → Int32, Wm (wI h' 26 f) := fun _ => M.1
          obtain ⟨h6, eh6⟩ : ∃ h6, h6 = wI h' 26 (va_up (va_up (va_up (aI h' 26) 6 (i32 (100 * d))) 7 (i32 z)) 5 0) := ⟨_, rfl⟩
          have mi : ((pI h' (some 26) [12] 6 (100 * i32 d)).bind fun h3 => (gR h3 (some 26) [12] 16).bind fun t4 => (iA h3 t4 (i32 d)).bind fun t5 => (pI h3 (some 26) [12] 7 t5).bind fun h6 => (pI h6 (some 26) [12] 5 0).bind fun h7 => f_X12_house_b41 FU (some 26) 0 0 h7) = f_X12_house_b41 FU (some 26) 0 0 h6 := by
            rw [pI_1' M.1.1.1, sb_some, (M26 _).o16, sb_some, iA_ok (M26 _).2.2.1.2.2.2.2.1 hd (by omega), sb_some, pI_1' (M26 _).1.1, sb_some, aI_eq, wI_wI, pI_1' (M26 _).1.1, sb_some, aI_eq, wI_wI, aI_ne (show (38 : Nat) ≠ 26 by omega), show aI h' 38 = p.2.2.2.2.2 4 from m_k M 4 (by omega), n3, show (100 : Int32) * i32 d = i32 (100 * d) from i32_mul 100 d, ← eh6]
          have F6 : Fm h' h6 := by
            rw [eh6]
            refine ⟨⟨rfl, rfl, rfl, rfl⟩, fun c c1 _ _ _ _ _ => aI_ne c1, ?_, by rw [aI_ne (by omega)]; exact hi.rf _, by rw [aI_ne (by omega)]; exact hi.rf _⟩
            rw [aI_eq, up_ne (by omega), up_ne (by omega), up_ne (by omega)]
          have M6 : MDL h6 p := M.q F6
          have T6 : RT h6 d z c 0 := by
            rw [eh6]
            refine ⟨M26 _, ⟨?_, ?_, ?_⟩, ⟨hd, hz, Nat.zero_le z⟩, fun j hj => ⟨c256 j, ?_⟩⟩
            · rw [aI_eq, up_eq]; rfl
            · rw [aI_eq, up_ne (by omega), up_ne (by omega), up_eq]
            · rw [aI_eq, up_ne (by omega), up_eq]
            · rw [aI_ne (by omega), show aI h' 39 = p.2.2.2.2.2 5 from m_k M 5 (by omega)]
              exact (c8 j hj).symm
          rw [mi]
          show UU h h' (bd (nn (some (aN h)) (f_X10_init (some (aN h)) (some r) (nwH h (.inr 10) 1))) (fun u9 h8 => bd (cv h8 (some (aN h)) 10 (f_X10_firstFlaw (some (aN h)) h8)) fun r11 h10 => (if r11 < 0 then (gR h10 (some 0) [11] 1).bind fun t12 => (gR h10 (some 0) [11] 0).bind fun t13 => bd (cv h10 t12 5 (f_X5_becomes t12 t13 h10)) fun u15 h14 => f_X11_house_b79 FU (some 0) (some r) (some (aN h)) 0 0 h14 else some (((-1000) - r11), h10)))) _
          rw [ci, cv_ok X2.1.2.2.1]
          unfold f_X10_firstFlaw
          rw [X2.g0, sb_some, cv_ok X2.2.1.1.2.1, X2.size, bd_some]
          by_cases z0 : z = 0
          · subst z0
            rw [if_pos (show i32 0 = 0 from rfl), bd_some, if_neg (by decide)]
            obtain ⟨m, em⟩ := succ_of (fu_pos (k := 1) (by omega))
            have F7 : Fm h6 (GR h6 (aI h6 31) 0) := Fm.gr
            have M7 := M6.q F7
            have T7 : RT (GR h6 (aI h6 31) 0) d 0 c 0 := GR_r (N := aI h6 31) T6 (by omega)
            obtain ⟨hB, b1, b2, b3, b4, b5⟩ := m_b77 (cnt := 1) (w := -1000 - i32 0) M7 T7
            refine ⟨-1000 - 0, h2, hB, p, rfl, ?_, C2, b2, F2.c W (by omega), (F6.tr (F7.tr b5)).m⟩
            rw [em, e_X12_house_b41, cv_ok M6.1.1.1, m_reads0 T6, bd_some, if_pos rfl, gI_1 M7.1.1.1, sb_some, GR_5, nm_eq]
            unfold f_X12_house_b58
            rw [if_neg (m1000 0 (by omega)), show (0 : Int32) + 1 = i32 1 from rfl, b1, m_b93n (m1000 0 (by omega))]
            rfl
          · rw [if_neg (show ¬ i32 z = 0 by rw [i32_0 (by omega)]; exact z0)]
            obtain ⟨v, w, cnt, N, q, s1, s2, s3, s4⟩ := R_scan X2 100 FU FU 0 0 0 h6 T6 (by omega) (by omega) (by omega) (fu_pos (by omega)) (fu_pos (by omega))
            have F7 : Fm h6 (GR h6 N q) := Fm.gr
            have M7 := M6.q F7
            have T7 : RT (GR h6 N q) d z c q := GR_r (N := N) T6 s3
            obtain ⟨hB, b1, b2, b3, b4, b5⟩ := m_b77 (cnt := cnt) (w := w) M7 T7
            rw [show f_X10_firstFlaw_b16 FU (some (aN h)) 0 0 h2 = _ from s1, bd_some, show f_X12_house_b41 FU (some 26) 0 0 h6 = _ from s2, b1]
            rcases s4 with ⟨rfl, rfl, n, s5, s6, s7⟩ | ⟨j, s5, rfl, rfl⟩
            · obtain ⟨h3, a1, H3, B3⟩ := k_becomes (b := 8) (b2 := 1) (by omega) W2.2.2.1.2.1 C2.1.2.1 C2.1.2.2.1.1.2.1
              have O := C2.1.2.2.1
              have F3 : Fq 1 h h3 := F2.tr B3.q
              rw [if_pos (show (-1 : Int32) < 0 by decide), W2.o1, sb_some, W2.o0, sb_some, cv_ok W2.2.2.1.2.1.1.1, a1, bd_some]
              have nn7 := O.1.2.1
              exact U_follow P n FU FU 0 0 p.1 p.2.1 h3 hB (X2.kp (B3.q.kp W2)) (C2.q B3.q) H3 O C2.1.2.2.2 b2 b3 b4 (hi.rf _) (F3.mono (by omega)) ((F6.tr (F7.tr b5)).m) s7 (fu_pos (by omega)) (fu_pos (by omega)) (by omega) (by omega)
            · rw [if_neg (i32_nn (by omega)), m_b93n (m1000 j (by omega))]
              exact ⟨_, h2, hB, p, rfl, rfl, C2, b2, F2.c W (by omega), (F6.tr (F7.tr b5)).m⟩
        · rw [if_neg e3, if_neg e3, if_neg (by decide)]
          exact UU.same P (-12) rfl rfl
      · obtain ⟨-, ⟨k, k1, -⟩, k2, -⟩ := sh_kind P hd e0 e2
        rw [k2, if_pos rfl, cv_ok W.1.1, c_whyRow W hd, k1, bd_some, if_neg (fun y => nomatch y), if_neg e0, if_neg e2, if_neg (by decide)]
        exact UU.same P (-12) rfl rfl
end HOUSE2
