/-! THE LAW: from the entry to its end -/
theorem no_tr {l : Launch} (h : l.flags = flags0) : l.stackTraces = false := by
  unfold Launch.stackTraces
  rw [h]
  decide +kernel
theorem whole_start {p : Program} {e : Env} {s : State} {m : MethodId} {below : List Frame} {meth : Method} {c : Code} (l : Launch) (hflags : l.flags = flags0) {b L : Nat} {xs : Nat → Int32} (hL : L ≤ 3072) (C0 : lw_At p s m meth c b L xs) : W p l e room_1 s m #[Value.ref b] below meth c s.heap [] 0 0 (lw_Z below #[Value.ref b] s) (entryFrame m ([Value.ref b] : List Value).toArray 8) := by
  have hc := C0
  obtain ⟨-, -, -, -, -, c6, c7, c8, -, c10⟩ := hc
  have hn := flat_of_before _ c10
  obtain ⟨G, cA, hk⟩ := world_K c6
  obtain ⟨z1, z2⟩ := st_zq c6 hn
  have hX : XOK (l, s, #[Value.ref b], s.heap.size, G, cA) := ⟨c6, hk, no_tr hflags, st_str c6 hn, z1, z2, rfl, st_nc hn⟩
  obtain ⟨h', e1, n1, n2⟩ := law_val b L xs hL
  exact law_end (X := (l, s, #[Value.ref b], s.heap.size, G, cA)) hX ⟨c7, c8⟩ rfl C0 (State.WarmedH.refl s) e1 n1 n2
