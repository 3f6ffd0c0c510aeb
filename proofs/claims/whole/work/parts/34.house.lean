/-! WHAT A HOUSE DOES -/
theorem rg_of {x : Int32} {m : Nat} (h0 : 0 ≤ x) (h1 : x ≤ i32 m) (hm : m < 2147483648) : rg x m := by
  obtain ⟨g, rfl, h2, -⟩ := i32_of (Int32.not_lt.mpr h0)
  rw [i32_le h2 hm] at h1
  exact ⟨g, h1, rfl⟩
theorem rg.le {x : Int32} {m : Nat} (r : rg x m) (hm : m < 2147483648) : 0 ≤ x ∧ x ≤ i32 m := by
  obtain ⟨j, h1, rfl⟩ := r
  exact ⟨Int32.not_lt.mp (i32_nn (by omega)), by rw [i32_le (by omega) hm]; exact h1⟩
theorem rg.mono {x : Int32} {m m2 : Nat} (r : rg x m) (h : m ≤ m2) : rg x m2 := by
  obtain ⟨j, h1, rfl⟩ := r
  exact ⟨j, by omega, rfl⟩
theorem rg.t {x : Int32} {m : Nat} (r : rg x m) (hm : m < 2147483648) : 0 ≤ x.toInt ∧ x.toInt ≤ m := by
  obtain ⟨j, h1, rfl⟩ := r
  rw [i32_t (by omega)]
  omega
theorem eat_f : ∀ k, k < 8 → ∀ b, b < 10 → 0 ≤ eat (i32 k) (i32 b) ∧ eat (i32 k) (i32 b) ≤ i32 18 := by decide +kernel
theorem dnc_f : ∀ k, k < 8 → ∀ f, f < 10 → ∀ b, b < 10 → 0 ≤ dnc (i32 k) (i32 f) (i32 b) ∧ dnc (i32 k) (i32 f) (i32 b) ≤ i32 12 := by decide +kernel
theorem lgt_f : ∀ k, k < 8 → ∀ f, f < 10 → 0 ≤ lgt (i32 k) (i32 f) ∧ lgt (i32 k) (i32 f) ≤ i32 5 := by decide +kernel
theorem rng_f : ∀ k, k < 8 → ∀ f, f < 10 → 0 ≤ rng (i32 k) (i32 f) ∧ rng (i32 k) (i32 f) ≤ i32 18 := by decide +kernel
theorem eat_rg {k b : Int32} (hk : rg k 7) (hb : rg b 9) : rg (eat k b) 18 := by
  obtain ⟨j, h1, rfl⟩ := hk
  obtain ⟨i, h2, rfl⟩ := hb
  obtain ⟨a, c⟩ := eat_f j (by omega) i (by omega)
  exact rg_of a c (by omega)
theorem dnc_rg {k f b : Int32} (hk : rg k 7) (hf : rg f 9) (hb : rg b 9) : rg (dnc k f b) 12 := by
  obtain ⟨j, h1, rfl⟩ := hk
  obtain ⟨i, h2, rfl⟩ := hb
  obtain ⟨l, h3, rfl⟩ := hf
  obtain ⟨a, c⟩ := dnc_f j (by omega) l (by omega) i (by omega)
  exact rg_of a c (by omega)
theorem lgt_rg {k b : Int32} (hk : rg k 7) (hb : rg b 9) : rg (lgt k b) 5 := by
  obtain ⟨j, h1, rfl⟩ := hk
  obtain ⟨i, h2, rfl⟩ := hb
  obtain ⟨a, c⟩ := lgt_f j (by omega) i (by omega)
  exact rg_of a c (by omega)
theorem rng_rg {k b : Int32} (hk : rg k 7) (hb : rg b 9) : rg (rng k b) 18 := by
  obtain ⟨j, h1, rfl⟩ := hk
  obtain ⟨i, h2, rfl⟩ := hb
  obtain ⟨a, c⟩ := rng_f j (by omega) i (by omega)
  exact rg_of a c (by omega)
theorem hld_f : ∀ x, x < 200 → hld (i32 x) = mmin 99 (i32 x) ∧ 0 ≤ hld (i32 x) ∧ hld (i32 x) ≤ i32 99 := by decide +kernel
theorem hld_g : ∀ a, a < 100 → ∀ d, d < 20 → mmax 0 (i32 a - i32 d) = hld (i32 a - i32 d) := by decide +kernel
theorem hld_rg (v : Int32) : rg (hld v) 99 := by
  unfold hld
  split
  · split
    · rename_i h0 h1; exact rg_of h0 h1 (by omega)
    · exact ⟨99, by omega, rfl⟩
  · exact ⟨0, by omega, rfl⟩
theorem fed_eq {w e d : Int32} (hw : rg w 99) (he : rg e 18) (hd : rg d 12) : mmax 0 (mmin 99 (w + e) - d) = hld (hld (w + e) - d) := by
  obtain ⟨w, h1, rfl⟩ := hw
  obtain ⟨e, h2, rfl⟩ := he
  obtain ⟨d, h3, rfl⟩ := hd
  rw [i32_add, ← (hld_f (w + e) (by omega)).1]
  obtain ⟨j, h4, h5⟩ := hld_rg (i32 (w + e))
  rw [h5]
  exact hld_g j (by omega) d (by omega)
theorem less_eq {w d : Int32} (hw : rg w 99) (hd : rg d 12) : mmax 0 (w - d) = hld (w - d) := by
  obtain ⟨w, h1, rfl⟩ := hw
  obtain ⟨d, h3, rfl⟩ := hd
  exact hld_g w (by omega) d (by omega)
/-- what the place j may hold -/
def okV (j : Nat) (v : Int32) : Prop := j ≠ 0 ∧ (j = 3 → rg v 9) ∧ (j = 4 → rg v 9) ∧ (j = 2 → rg v 9999) ∧ ∀ g, (j = 7 * g + 6 → rg v 9) ∧ (j = 7 * g + 7 → rg v 99) ∧ (j = 7 * g + 9 → rg v 9) ∧ (j = 7 * g + 5 → rg v 7) ∧ (j = 7 * g + 8 → rg v 120) ∧ (j = 7 * g + 11 → v = 0 ∨ v = 1)
theorem Ok.up {n j : Nat} {s : R54} {v : Int32} (O : Ok n s) (hv : okV j v) : Ok n (va_up s j v) := by
  obtain ⟨⟨o1, o2, o3⟩, ⟨o4, o5, o6⟩, o7⟩ := O
  obtain ⟨v0, v1, v2, v3, v4⟩ := hv
  have key : ∀ (i : Nat) (P : Int32 → Prop), P (s i) → (j = i → P v) → P (va_up s j v i) := fun i P p1 p2 => by
    by_cases e : i = j
    · subst e; rw [up_eq]; exact p2 rfl
    · rw [up_ne e]; exact p1
  refine ⟨⟨by rw [up_ne (Ne.symm v0)]; exact o1, o2, fun g hg => key _ (fun x => x = 0 ∨ x = 1) (o3 g hg) (v4 g).2.2.2.2.2⟩, ⟨key _ (fun x => rg x 9) o4 v1, key _ (fun x => rg x 9) o5 v2, key _ (fun x => rg x 9999) o6 v3⟩, fun g hg => ?_⟩
  obtain ⟨p1, p2, p3, p4, p5⟩ := o7 g hg
  obtain ⟨q1, q2, q3, q4, q5, -⟩ := v4 g
  exact ⟨key _ (fun x => rg x 9) p1 q1, key _ (fun x => rg x 99) p2 q2, key _ (fun x => rg x 9) p3 q3, key _ (fun x => rg x 7) p4 q4, key _ (fun x => rg x 120) p5 q5⟩
theorem okV_w {g : Nat} {v : Int32} (h : rg v 99) : okV (7 * g + 7) v := ⟨by omega, by omega, by omega, by omega, fun j => ⟨by omega, fun _ => h, by omega, by omega, by omega, by omega⟩⟩
theorem okV_s {g : Nat} {v : Int32} (h : rg v 9) : okV (7 * g + 9) v := ⟨by omega, by omega, by omega, by omega, fun j => ⟨by omega, by omega, fun _ => h, by omega, by omega, by omega⟩⟩
theorem okV_e {g : Nat} {v : Int32} (h : rg v 120) : okV (7 * g + 8) v := ⟨by omega, by omega, by omega, by omega, fun j => ⟨by omega, by omega, by omega, by omega, fun _ => h, by omega⟩⟩
theorem okV_k {g : Nat} {v : Int32} (h : rg v 7) : okV (7 * g + 5) v := ⟨by omega, by omega, by omega, by omega, fun j => ⟨by omega, by omega, by omega, fun _ => h, by omega, by omega⟩⟩
theorem okV_f {g : Nat} {v : Int32} (h : rg v 9) : okV (7 * g + 6) v := ⟨by omega, by omega, by omega, by omega, fun j => ⟨fun _ => h, by omega, by omega, by omega, by omega, by omega⟩⟩
theorem okV_c {g : Nat} {v : Int32} : okV (7 * g + 10) v := ⟨by omega, by omega, by omega, by omega, fun j => ⟨by omega, by omega, by omega, by omega, by omega, by omega⟩⟩
theorem okV_i {g : Nat} {v : Int32} (h : v = 0 ∨ v = 1) : okV (7 * g + 11) v := ⟨by omega, by omega, by omega, by omega, fun j => ⟨by omega, by omega, by omega, by omega, by omega, fun _ => h⟩⟩
theorem okV_1 {v : Int32} : okV 1 v := ⟨by omega, by omega, by omega, by omega, fun j => ⟨by omega, by omega, by omega, by omega, by omega, by omega⟩⟩
theorem okV_2 {v : Int32} (h : rg v 9999) : okV 2 v := ⟨by omega, by omega, by omega, fun _ => h, fun j => ⟨by omega, by omega, by omega, by omega, by omega, by omega⟩⟩
theorem okV_3 {v : Int32} (h : rg v 9) : okV 3 v := ⟨by omega, fun _ => h, by omega, by omega, fun j => ⟨by omega, by omega, by omega, by omega, by omega, by omega⟩⟩
theorem okV_4 {v : Int32} (h : rg v 9) : okV 4 v := ⟨by omega, by omega, fun _ => h, by omega, fun j => ⟨by omega, by omega, by omega, by omega, by omega, by omega⟩⟩
section HSET
variable {h : AH} {b n g : Nat} {s : R54} {v : Int32}
theorem PG.wA {j t : Nat} (x : PG h b s j) (y : Hty h b) (ht : t = 2 ∨ t = 3 ∨ t = 4 ∨ t = 5) : PG (wI h (b + t) (va_up (aI h (b + t)) g v)) b (va_up s (7 * g + (5 + t)) v) j := by
  have F : FrB b h (wI h (b + t) (va_up (aI h (b + t)) g v)) := FrB.wI (by omega)
  obtain ⟨⟨k, x0, x1⟩, x2, x3, x4, x5⟩ := x
  refine ⟨⟨k, x0, ?_⟩, ?_⟩
  · rw [up_ne (by omega), up_ne (by omega)]
    exact x1.fr y F
  · have key : ∀ u, 2 ≤ u → u ≤ 5 → aI h (b + u) j = s (7 * j + (5 + u)) → aI (wI h (b + t) (va_up (aI h (b + t)) g v)) (b + u) j = va_up s (7 * g + (5 + t)) v (7 * j + (5 + u)) := fun u u1 u2 e => by
      by_cases e1 : u = t
      · subst e1
        rw [aI_eq]
        by_cases e2 : j = g
        · subst e2; rw [up_eq, up_eq]
        · rw [up_ne e2, up_ne (by omega)]; exact e
      · rw [aI_ne (by omega), up_ne (by omega)]; exact e
    exact ⟨key 2 (by omega) (by omega) x2, key 3 (by omega) (by omega) x3, key 4 (by omega) (by omega) x4, key 5 (by omega) (by omega) x5⟩
theorem Hs.wA {t : Nat} (H : Hs h b n s) (ht : t = 2 ∨ t = 3 ∨ t = 4 ∨ t = 5) : Hs (wI h (b + t) (va_up (aI h (b + t)) g v)) b n (va_up s (7 * g + (5 + t)) v) ∧ FrB b h (wI h (b + t) (va_up (aI h (b + t)) g v)) := by
  have F : FrB b h (wI h (b + t) (va_up (aI h (b + t)) g v)) := FrB.wI (by omega)
  refine ⟨⟨H.1.fr F (by omega), ?_, fun j hj => (H.2.2 j hj).wA H.1 ht⟩, F⟩
  unfold SC
  rw [aI_ne (by omega), sI_congr (s := s) (fun j _ => up_ne (by omega)), up_ne (by omega), up_ne (by omega), up_ne (by omega), up_ne (by omega)]
  exact H.2.1
/-- a field that isn't a guest's -/
theorem Hs.wF {k i : Nat} (H : Hs h b n s) (hk : (k = 7 ∧ i = 3) ∨ (k = 8 ∧ i = 4) ∨ (k = 9 ∧ i = 2) ∨ (k = 10 ∧ i = 1)) : Hs (wI h b (va_up (aI h b) k v)) b n (va_up s i v) ∧ FrB b h (wI h b (va_up (aI h b) k v)) := by
  have F : FrB b h (wI h b (va_up (aI h b) k v)) := FrB.wI (Or.inl rfl)
  refine ⟨⟨H.1.fr F (by omega), ?_, fun j hj => ?_⟩, F⟩
  · obtain ⟨h1, h2, h3, h4, h5, h6⟩ := H.2.1
    unfold SC
    rw [aI_eq, sI_congr (s := s) (fun j _ => up_ne (by omega)), up_ne (by omega), up_ne (by omega)]
    refine ⟨h1, h2, ?_⟩
    rcases hk with ⟨rfl, rfl⟩ | ⟨rfl, rfl⟩ | ⟨rfl, rfl⟩ | ⟨rfl, rfl⟩
    · rw [up_eq, up_eq, up_ne (by omega), up_ne (by omega), up_ne (by omega), up_ne (by omega), up_ne (by omega), up_ne (by omega)]
      exact ⟨rfl, h4, h5, h6⟩
    · rw [up_eq, up_eq, up_ne (by omega), up_ne (by omega), up_ne (by omega), up_ne (by omega), up_ne (by omega), up_ne (by omega)]
      exact ⟨h3, rfl, h5, h6⟩
    · rw [up_eq, up_eq, up_ne (by omega), up_ne (by omega), up_ne (by omega), up_ne (by omega), up_ne (by omega), up_ne (by omega)]
      exact ⟨h3, h4, rfl, h6⟩
    · rw [up_eq, up_eq, up_ne (by omega), up_ne (by omega), up_ne (by omega), up_ne (by omega), up_ne (by omega), up_ne (by omega)]
      exact ⟨h3, h4, h5, rfl⟩
  · obtain ⟨⟨k2, x0, x1⟩, x2, x3, x4, x5⟩ := H.2.2 j hj
    unfold PG
    rw [aI_ne (by omega), aI_ne (by omega), aI_ne (by omega), aI_ne (by omega), up_ne (by omega), up_ne (by omega), up_ne (by omega), up_ne (by omega), up_ne (by omega), up_ne (by omega)]
    exact ⟨⟨k2, x0, x1.fr H.1 F⟩, x2, x3, x4, x5⟩
/-- one leaves -/
theorem Hs.wL (H : Hs h b n s) (O : Ok n s) (hg : g < n) : Hs (wI h b (va_up (aI h b) 6 (aI h b 6 &&& (((1 : Int32) <<< (i32 g &&& 31)) ^^^ (-1))))) b n (va_up s (7 * g + 11) 0) ∧ FrB b h (wI h b (va_up (aI h b) 6 (aI h b 6 &&& (((1 : Int32) <<< (i32 g &&& 31)) ^^^ (-1))))) := by
  have F : FrB b h (wI h b (va_up (aI h b) 6 (aI h b 6 &&& (((1 : Int32) <<< (i32 g &&& 31)) ^^^ (-1))))) := FrB.wI (Or.inl rfl)
  refine ⟨⟨H.1.fr F (by omega), ?_, fun j hj => ?_⟩, F⟩
  · obtain ⟨h1, h2, h3, h4, h5, h6⟩ := H.2.1
    unfold SC
    rw [aI_eq, h2, sI_clr O.1.2.1 O.1.2.2 hg, up_eq, up_ne (by omega), up_ne (by omega), up_ne (by omega), up_ne (by omega), up_ne (by omega), up_ne (by omega), up_ne (by omega), up_ne (by omega), up_ne (by omega)]
    exact ⟨h1, rfl, h3, h4, h5, h6⟩
  · obtain ⟨⟨k2, x0, x1⟩, x2, x3, x4, x5⟩ := H.2.2 j hj
    unfold PG
    rw [aI_ne (by omega), aI_ne (by omega), aI_ne (by omega), aI_ne (by omega), up_ne (by omega), up_ne (by omega), up_ne (by omega), up_ne (by omega), up_ne (by omega), up_ne (by omega)]
    exact ⟨⟨k2, x0, x1.fr H.1 F⟩, x2, x3, x4, x5⟩
end HSET
section HDO
variable {h : AH} {b n g : Nat} {s : R54}
theorem k_hasStayed (H : Hs h b n s) (h7 : n ≤ 7) (hg : g < n) : f_X5_hasStayed (some b) (i32 g) h = some (bI (decide (sty (s (7 * g + 5)) (s (7 * g + 6)) ≤ s 1 - s (7 * g + 10))), h) := by
  obtain ⟨⟨k, x0, x1⟩, x2, x3, x4, x5⟩ := H.2.2 g hg
  obtain ⟨⟨t0, t1, t2, t3, t4, t5⟩, ⟨r0, r1, r2, r3, r4⟩, -⟩ := H.1
  unfold f_X5_hasStayed
  simp only [gI_1 t0, gR_1 t0, sb_some, r4, r0, iA_ok t5 (show g < 7 by omega) (by omega), rA_ok t1 (show g < 7 by omega) (by omega), x0, k_dyn_stay x1, bd_some, x5, H.2.1.2.2.2.2.2]
  split
  · rename_i e; rw [decide_eq_false (Int32.not_le.mpr e)]; rfl
  · rename_i e; rw [decide_eq_true (Int32.not_lt.mp e)]; rfl
theorem k_mayGo (H : Hs h b n s) (O : Ok n s) (hg : g < n) : f_X5_mayGo (some b) (i32 g) h = some (bI (mg s g), h) := by
  have h7 := O.1.2.1
  obtain ⟨⟨k, x0, x1⟩, x2, x3, x4, x5⟩ := H.2.2 g hg
  obtain ⟨⟨t0, t1, t2, t3, t4, t5⟩, ⟨r0, r1, r2, r3, r4⟩, -⟩ := H.1
  unfold f_X5_mayGo mg
  simp only [cv_ok t0, k_isIn H O hg, bd_some, bI_0, gR_1 t0, sb_some, r1, r2, iA_ok t2 (show g < 7 by omega) (by omega), iA_ok t3 (show g < 7 by omega) (by omega), x2, x3, k_hasStayed H h7 hg]
  by_cases e1 : s (7 * g + 11) = 1
  · rw [if_neg (by unfold inP; rw [decide_eq_true e1]; decide), decide_eq_true e1]
    by_cases e2 : s (7 * g + 8) ≤ s (7 * g + 7)
    · rw [if_pos e2, decide_eq_false (Int32.not_lt.mpr e2)]; rfl
    · rw [if_neg e2, decide_eq_true (Int32.not_le.mp e2)]
      cases decide (sty (s (7 * g + 5)) (s (7 * g + 6)) ≤ s 1 - s (7 * g + 10)) <;> rfl
  · rw [if_pos (by unfold inP; rw [decide_eq_false e1]), decide_eq_false e1]; rfl
theorem k_foodOf (H : Hs h b n s) (O : Ok n s) (hg : g < n) : f_X5_foodOf (some b) (i32 g) h = some (eat (s (7 * g + 5)) (s 3), h) := by
  have h7 := O.1.2.1
  obtain ⟨⟨k, x0, x1⟩, x2, x3, x4, x5⟩ := H.2.2 g hg
  obtain ⟨⟨t0, t1, t2, t3, t4, t5⟩, ⟨r0, r1, r2, r3, r4⟩, -⟩ := H.1
  unfold f_X5_foodOf
  simp only [gI_1 t0, gR_1 t0, sb_some, r0, rA_ok t1 (show g < 7 by omega) (by omega), x0, H.2.1.2.2.1, k_dyn_food x1 O.2.1.1, bd_some]
def eatW (v : Int32) (g : Nat) (s : R54) : R54 := if s (7 * g + 11) = 1 then va_up s (7 * g + 7) (hld (hld (s (7 * g + 7) + v) - dnc (s (7 * g + 5)) (s (7 * g + 6)) (s 4))) else s
theorem eat1_W (F : Int32) (g : Nat) (s : R54) : eat1 F g s = eatW (if fst F g then 0 else eat (s (7 * g + 5)) (s 3)) g s := rfl
theorem Ok_eatW (O : Ok n s) (v : Int32) (g : Nat) : Ok n (eatW v g s) := by
  unfold eatW
  split
  · exact O.up (okV_w (hld_rg _))
  · exact O
theorem k_eat (H : Hs h b n s) (O : Ok n s) (hg : g < n) {v : Int32} (hv : rg v 18) : ∃ h1, f_X5_eatAndDance (some b) (i32 g) v h = some ((), h1) ∧ Hs h1 b n (eatW v g s) ∧ FrB b h h1 := by
  have h7 := O.1.2.1
  obtain ⟨⟨k, x0, x1⟩, x2, x3, x4, x5⟩ := H.2.2 g hg
  obtain ⟨⟨t0, t1, t2, t3, t4, t5⟩, ⟨r0, r1, r2, r3, r4⟩, -⟩ := H.1
  obtain ⟨p1, p2, p3, p4, p5⟩ := O.2.2 g hg
  unfold f_X5_eatAndDance eatW
  simp only [cv_ok t0, k_isIn H O hg, bd_some, bI_0, gR_1 t0, gI_1 t0, sb_some, r1, r0, iA_ok t2 (show g < 7 by omega) (by omega), rA_ok t1 (show g < 7 by omega) (by omega), x0, x2, nm_eq, H.2.1.2.2.2.1, k_dyn_danced x1 O.2.1.2.1, iS_ok t2 (show g < 7 by omega) (by omega)]
  by_cases e1 : s (7 * g + 11) = 1
  · rw [if_neg (by unfold inP; rw [decide_eq_true e1]; decide), if_pos e1]
    have W := H.wA (g := g) (v := hld (hld (s (7 * g + 7) + v) - dnc (s (7 * g + 5)) (s (7 * g + 6)) (s 4))) (t := 2) (Or.inl rfl)
    rw [fed_eq p2 hv (dnc_rg p4 p1 O.2.1.2.1)]
    exact ⟨_, rfl, W⟩
  · rw [if_pos (by unfold inP; rw [decide_eq_false e1]), if_neg e1]
    exact ⟨h, rfl, H, FrB.rf b h⟩
theorem rlf_rg (O : Ok n s) (hg : g < n) (e : mg s g = true) : rg (rlf s g) 9999 := by
  obtain ⟨p1, p2, p3, p4, p5⟩ := O.2.2 g hg
  unfold mg at e
  simp only [Bool.and_eq_true, decide_eq_true_eq] at e
  obtain ⟨-, e1, -⟩ := e
  obtain ⟨r, r1, r2⟩ := O.2.1.2.2
  obtain ⟨w, w1, w2⟩ := p2
  obtain ⟨x, y1, y2⟩ := p5
  unfold rlf
  rw [w2, y2, i32_lt (by omega) (by omega)] at e1
  rw [r2, w2, y2]
  rw [i32_add, i32_sub (by omega)]
  split
  · rename_i z
    exact rg_of (Int32.not_lt.mp (i32_nn (by omega))) z (by omega)
  · exact ⟨9999, by omega, rfl⟩
theorem Ok_go1 (O : Ok n s) (hg : g < n) : Ok n (go1 g s) := by
  unfold go1
  split
  · rename_i e
    exact (O.up (okV_i (Or.inl rfl))).up (okV_2 (rlf_rg O hg e))
  · exact O
theorem mmin_le (v : Int32) : mmin 9999 v = if v ≤ 9999 then v else 9999 := by
  unfold mmin
  by_cases e : v < 9999
  · rw [if_pos e, if_pos (Int32.le_of_lt e)]
  · rw [if_neg e]
    by_cases e2 : v ≤ 9999
    · rw [if_pos e2, Int32.le_antisymm e2 (Int32.not_lt.mp e)]
    · rw [if_neg e2]
theorem k_goAway (H : Hs h b n s) (O : Ok n s) (hg : g < n) (e : mg s g = true) : ∃ h1, f_X5_goAway (some b) (i32 g) h = some ((), h1) ∧ Hs h1 b n (go1 g s) ∧ FrB b h h1 := by
  have h7 := O.1.2.1
  obtain ⟨H2, F2⟩ := H.wL O hg
  unfold f_X5_goAway go1
  rw [if_pos e, gI_1 H.1.1.1, sb_some, pI_1' H.1.1.1, sb_some]
  generalize wI h b (va_up (aI h b) 6 (aI h b 6 &&& (((1 : Int32) <<< (i32 g &&& 31)) ^^^ (-1)))) = h2 at H2 F2 ⊢
  obtain ⟨⟨k, x0, x1⟩, x2, x3, x4, x5⟩ := H2.2.2 g hg
  obtain ⟨⟨t0, t1, t2, t3, t4, t5⟩, ⟨r0, r1, r2, r3, r4⟩, -⟩ := H2.1
  simp only [gI_1 t0, gR_1 t0, sb_some, r1, r2, iA_ok t2 (show g < 7 by omega) (by omega), iA_ok t3 (show g < 7 by omega) (by omega), x2, x3, H2.2.1.2.2.2.2.1, pI_1' t0, mmin_le]
  rw [up_ne (by omega), up_ne (by omega), up_ne (by omega)]
  have W := H2.wF (v := rlf s g) (k := 9) (i := 2) (by omega)
  exact ⟨_, rfl, W.1, F2.tr W.2⟩
theorem k_passDay_b38 (h7 : n ≤ 7) : ∀ (k m g : Nat) (h : AH) (s : R54), Hs h b n s → Ok n s → k < m → g + k = n → ∃ h1, f_X5_passDay_b38 m (some b) (i32 g) h = some ((), h1) ∧ Hs h1 b n (fld go1 g k s) ∧ Ok n (fld go1 g k s) ∧ FrB b h h1 := by
  intro k
  induction k with
  | zero =>
    intro m g h s H O hm hg
    obtain ⟨m, rfl⟩ := succ_of hm
    rw [f_X5_passDay_b38]
    simp only [gI_1 H.1.1.1, sb_some, H.2.1.1, i32_le (a := n) (b := g) (by omega) (by omega), if_pos (show n ≤ g by omega), fld_0]
    exact ⟨h, rfl, H, O, FrB.rf b h⟩
  | succ k ih =>
    intro m g h s H O hm hg
    obtain ⟨m, rfl⟩ := succ_of hm
    rw [f_X5_passDay_b38]
    simp only [gI_1 H.1.1.1, sb_some, H.2.1.1, i32_le (a := n) (b := g) (by omega) (by omega), if_neg (show ¬ n ≤ g by omega), cv_ok H.1.1.1, k_mayGo H O (show g < n by omega), bd_some, bI_0, i32_s, fld_s]
    cases e : mg s g with
    | false =>
      rw [if_pos rfl]
      have e2 : go1 g s = s := by unfold go1; rw [e]; rfl
      rw [e2]
      exact ih m (g + 1) h s H O (by omega) (by omega)
    | true =>
      rw [if_neg (by decide)]
      obtain ⟨h1, q1, q2, q3⟩ := k_goAway H O (show g < n by omega) e
      rw [q1, bd_some]
      obtain ⟨h2, w1, w2, w3, w4⟩ := ih m (g + 1) h1 _ q2 (Ok_go1 O (by omega)) (by omega) (by omega)
      exact ⟨h2, w1, w2, w3, q3.tr w4⟩
theorem fst_0 (g : Nat) (hg : g < 7) : fst 0 g = false := by
  unfold fst
  have : ∀ g, g < 7 → ((0 : Int32) >>> (i32 g &&& 31)) &&& 1 = 0 := by decide +kernel
  rw [this g hg]
  rfl
theorem k_passDay_b12 (h7 : n ≤ 7) : ∀ (k m g : Nat) (h : AH) (s : R54), Hs h b n s → Ok n s → k < m → g + k = n → ∃ h1, f_X5_passDay_b12 m (some b) (i32 g) h = some ((), h1) ∧ Hs h1 b n (fld go1 0 n (fld (eat1 0) g k s)) ∧ Ok n (fld go1 0 n (fld (eat1 0) g k s)) ∧ FrB b h h1 := by
  intro k
  induction k with
  | zero =>
    intro m g h s H O hm hg
    obtain ⟨m, rfl⟩ := succ_of hm
    rw [f_X5_passDay_b12]
    simp only [gI_1 H.1.1.1, sb_some, H.2.1.1, i32_le (a := n) (b := g) (by omega) (by omega), if_pos (show n ≤ g by omega), fld_0]
    exact k_passDay_b38 h7 n FU 0 h s H O (fu_pos (by omega)) (by omega)
  | succ k ih =>
    intro m g h s H O hm hg
    obtain ⟨m, rfl⟩ := succ_of hm
    rw [f_X5_passDay_b12]
    simp only [gI_1 H.1.1.1, sb_some, H.2.1.1, i32_le (a := n) (b := g) (by omega) (by omega), if_neg (show ¬ n ≤ g by omega), cv_ok H.1.1.1, k_foodOf H O (show g < n by omega), bd_some, i32_s, fld_s]
    obtain ⟨h1, q1, q2, q3⟩ := k_eat H O (show g < n by omega) (eat_rg (O.2.2 g (by omega)).2.2.2.1 O.2.1.1)
    rw [q1, bd_some, eat1_W, fst_0 g (by omega)]
    obtain ⟨h2, w1, w2, w3, w4⟩ := ih m (g + 1) h1 _ q2 (Ok_eatW O _ _) (by omega) (by omega)
    exact ⟨h2, w1, w2, w3, q3.tr w4⟩
theorem k_passDay (H : Hs h b n s) (O : Ok n s) : ∃ h1, f_X5_passDay (some b) h = some ((), h1) ∧ Hs h1 b n (dayM n 0 s) ∧ Ok n (dayM n 0 s) ∧ FrB b h h1 := by
  unfold f_X5_passDay dayM
  rw [gI_1 H.1.1.1, sb_some, pI_1' H.1.1.1, sb_some, H.2.1.2.2.2.2.2]
  obtain ⟨W1, W2⟩ := H.wF (v := s 1 + 1) (k := 10) (i := 1) (by omega)
  obtain ⟨h2, w1, w2, w3, w4⟩ := k_passDay_b12 O.1.2.1 n FU 0 _ _ W1 (O.up okV_1) (fu_pos (by have := O.1.2.1; omega)) (by omega)
  exact ⟨h2, w1, w2, w3, W2.tr w4⟩
theorem Ok_dayM (O : Ok n s) (F : Int32) : Ok n (dayM n F s) := by
  unfold dayM
  refine fld_ind (fun _ r => Ok n r) n 0 _ ?_ (fun j b _ hj e => Ok_go1 e (by omega))
  refine fld_ind (fun _ r => Ok n r) n 0 _ (O.up okV_1) (fun j b _ _ e => ?_)
  rw [eat1_W]
  exact Ok_eatW e _ _
theorem Ok_daysM : ∀ (k : Nat) (s : R54), Ok n s → Ok n (daysM n k s)
  | 0, _, O => O
  | k + 1, _, O => Ok_daysM k _ (Ok_dayM O 0)
theorem k_passDays_b2 {N : Nat} (hN : N < 1000) : ∀ (k m g : Nat) (h : AH) (s : R54), Hs h b n s → Ok n s → k < m → g + k = N → ∃ h1, f_X5_passDays_b2 m (some b) (i32 N) (i32 g) h = some ((), h1) ∧ Hs h1 b n (daysM n k s) ∧ Ok n (daysM n k s) ∧ FrB b h h1 := by
  intro k
  induction k with
  | zero =>
    intro m g h s H O hm hg
    obtain ⟨m, rfl⟩ := succ_of hm
    rw [f_X5_passDays_b2]
    simp only [i32_le (a := N) (b := g) (by omega) (by omega), if_pos (show N ≤ g by omega)]
    exact ⟨h, rfl, H, O, FrB.rf b h⟩
  | succ k ih =>
    intro m g h s H O hm hg
    obtain ⟨m, rfl⟩ := succ_of hm
    rw [f_X5_passDays_b2]
    obtain ⟨h1, q1, q2, q3, q4⟩ := k_passDay H O
    simp only [i32_le (a := N) (b := g) (by omega) (by omega), if_neg (show ¬ N ≤ g by omega), cv_ok H.1.1.1, q1, bd_some, i32_s]
    obtain ⟨h2, w1, w2, w3, w4⟩ := ih m (g + 1) h1 _ q2 q3 (by omega) (by omega)
    exact ⟨h2, w1, w2, w3, q4.tr w4⟩
theorem k_passDays (H : Hs h b n s) (O : Ok n s) {N : Nat} (hN : N < 1000) : ∃ h1, f_X5_passDays (some b) (i32 N) h = some ((), h1) ∧ Hs h1 b n (daysM n N s) ∧ Ok n (daysM n N s) ∧ FrB b h h1 :=
  k_passDays_b2 hN N FU 0 h s H O (fu_pos (by omega)) (by omega)
end HDO
