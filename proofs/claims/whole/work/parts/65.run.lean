/-! THE LAW: its start and its end -/
def f_L_law (b Ls : Nat) (xs : Nat → Int32) (h : AH) : Option (Int32 × AH) :=
    bd (nO h 11 8) fun a1 h1 =>
    bd (nn a1 (f_X11_init a1 h1)) fun u2 h2 =>
    bd (nO h2 12 19) fun a3 h3 =>
    bd (nn a3 (f_X12_init a3 h3)) fun u4 h4 =>
    bd (nA h4 1 1) fun a5 h5 =>
    f_L_lp b Ls xs a1 a3 a5 FU 0 h5
set_option maxRecDepth 100000 in
set_option maxHeartbeats 4000000 in
theorem s_L_law {mn : String} {X : GX} (hX : XOK X) {b Ls : Nat} {xs : Nat → Int32} (hs : Scr X b Ls xs) (h0 h : AH) : Gp (p_L_law X h0) RL mn cL_law (some .boolean) 0 [(0, vV (.ref b))] [] h (f_L_law b Ls xs h) := by
  unfold f_L_law
  refine g_new clX11 kcl_L_8 kin_X11 kii_X11 dL_law_0 (fun a1 h1 => ?_)
  refine g_dup dL_law_3 rfl ?_
  refine g_callI2 (st := [vR a1]) (s_X11_init hX a1 h1) kml_L_17 kim_X11_init kii_X11 kcd_X11_init rfl ds_X11_init rfl ⟨Nat.le_of_ble_eq_true rfl, Nat.le_of_ble_eq_true rfl⟩ (Nat.le_of_ble_eq_true rfl) rfl dL_law_4 (fun u2 h2 => ?_)
  refine g_astore_n (ls' := [(1, vR a1), (0, vV (.ref b))]) dL_law_7 rfl (Nat.le_of_ble_eq_true rfl) rfl ?_
  refine g_new clX12 kcl_L_18 kin_X12 kii_X12 dL_law_8 (fun a3 h3 => ?_)
  refine g_dup dL_law_11 rfl ?_
  refine g_callI2 (st := [vR a3]) (s_X12_init hX a3 h3) kml_L_20 kim_X12_init kii_X12 kcd_X12_init rfl ds_X12_init rfl ⟨Nat.le_of_ble_eq_true rfl, Nat.le_of_ble_eq_true rfl⟩ (Nat.le_of_ble_eq_true rfl) rfl dL_law_12 (fun u4 h4 => ?_)
  refine g_astore_n (ls' := [(2, vR a3), (1, vR a1), (0, vV (.ref b))]) dL_law_15 rfl (Nat.le_of_ble_eq_true rfl) rfl ?_
  refine g_iconst (v := 1) dL_law_16 (by decide) ?_
  refine g_newarrayJ kac_long dL_law_17 (fun a5 h5 => ?_)
  refine g_astore_n (ls' := [(3, vR a5), (2, vR a3), (1, vR a1), (0, vV (.ref b))]) dL_law_19 rfl (Nat.le_of_ble_eq_true rfl) rfl ?_
  refine g_iconst (v := 0) dL_law_20 (by decide) ?_
  refine g_istore (ls' := [(4, vI 0), (3, vR a5), (2, vR a3), (1, vR a1), (0, vV (.ref b))]) dL_law_21 (Nat.le_of_ble_eq_true rfl) rfl ?_
  exact g_sub2 [4, 3, 2, 1, 0] rfl (s_L_lp hX hs FU 0 h5)
theorem W_room {p : Program} {l : Launch} {e : Env} {R R2 : Room} {s : State} {m : MethodId} {args : Array Value} {below : List Frame} {meth : Method} {c : Code} {H : Heap} {locs : List Loc} {cells slots : Nat} {Q : State → Prop} {g : JFrame} (h1 : R.frames ≤ R2.frames) (h2 : R.locals ≤ R2.locals) (h3 : R.cells ≤ R2.cells) (h4 : R.slots ≤ R2.slots) (k : W p l e R s m args below meth c H locs cells slots Q g) : W p l e R2 s m args below meth c H locs cells slots Q g := fun T hT X =>
  k T hT ⟨X.admits, X.cas, X.clock, X.frames, hasRoom_mono h1 h2 h3 h4 X.room, X.hears, X.method, X.code, X.here, X.tail, X.warmed, X.limits, X.bytes, X.same⟩
/-- nothing is made yet -/
def h_0 : AH := ((0, 0), fun _ => none, fun _ _ => 0, fun _ _ => 0, fun _ _ => none)
theorem law_end {X : GX} (hX : XOK X) {b L : Nat} {xs : Nat → Int32} (hs : Scr X b L xs) {p : Program} {e : Env} {m : MethodId} {below : List Frame} {meth : Method} {c : Code} (hB : X.2.2.2.1 = X.2.1.heap.size) (C0 : lw_At p X.2.1 m meth c b L xs) (hw : X.2.1.WarmedH X.2.1.vm) {h' : AH} (ho : f_L_law b L xs h_0 = some (1, h')) (hc : aN h' ≤ 601024) (hsl : aS h' ≤ 7293034) : W p X.1 e room_1 X.2.1 m #[Value.ref b] below meth c X.2.1.heap [] 0 0 (lw_Z below #[Value.ref b] X.2.1) (entryFrame m ([Value.ref b] : List Value).toArray 8) := by
  obtain ⟨c1, c2, c3, c4, c5, c6, c7, c8, c9, c10⟩ := C0
  have hK : KOK (mkC (p_L_law X h_0) (p, e, X.2.1, m, #[Value.ref b], below, meth, c)) RL cL_law (some .boolean) := ⟨c1, c2, c4, c5, hw, c3, c9, hX.1, hX.2.1, hX.2.2, Nat.le_of_eq hB, fun _ _ => rfl⟩
  have hP : HP X h_0 X.2.1.heap := ⟨by rw [hB]; rfl, fun a ty ha => by cases ha⟩
  have hw1 := ((s_L_law hX hs h_0 h_0).2 (p, e, X.2.1, m, #[Value.ref b], below, meth, c) hK rfl 1 h' ho).2 (aLe.rf h_0) X.2.1.heap []
  have hl := lv_entry [Value.ref b] (n := 8) (Nat.le_of_ble_eq_true rfl)
  rw [lg_entry_eq]
  have hw2 := hw1 _ hP va_S.rf hl
  refine W_room (R := kR (mkC (p_L_law X h_0) (p, e, X.2.1, m, #[Value.ref b], below, meth, c)) h') (Nat.le_of_ble_eq_true rfl) (Nat.le_of_ble_eq_true rfl) ?_ ?_ (W_mono (fun t k => ?_) hw2)
  · exact hc
  · exact hsl
  · rw [kQ_inl rfl] at k
    obtain ⟨o, k1, k2, ⟨k3, -, -⟩, Lc, k4, k5⟩ := k
    refine ⟨o, k1, k2, k3, k4.1, k4.2.1, ?_⟩
    have k6 := k4.2.2
    rw [show Lc = [] ++ Lc from rfl] at k6
    exact ((k6.drop_fresh (fun x hx => by show X.2.1.heap.size ≤ x.base; rw [← hB]; exact k5 x hx)).mono hc hsl)
