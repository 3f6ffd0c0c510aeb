section PUT
variable {α : Type} {K : CX α} {own : String} {cc : ByteArray} {ret : Option FieldType} {pc : Nat} {ls : List (Nat × AV)} {st : List AV} {h : AH}
theorem aLe_of {h h2 h' : AH} (e : h2.1 = h.1) (m : aLe h2 h') : aLe h h' := by
  unfold aLe aN aS at *
  rw [e] at m
  exact m
theorem go_putI (hK : KOK K own cc ret) {fam : List Nat} {k : Nat} {ref nm ds : String} {idx : Nat} (hl : Cond.fieldLink own idx ref nm ds ∈ Tg) (hf : famOK fam k ref nm ds true false) {ty : FieldType} (hd : parseFieldDescriptor ds = some ty) {o : Option Nat} {v : Int32} (hn : narrow ty (.int v) = .int v) (hft : fits ty (.int v) = true) {f : AH → Option (α × AH)} (d : decode cc pc = .ok (.putfield idx, 3)) (kk : ∀ h2, Go K (pc + 3) ls st h2 (f h2)) : Go K pc ls (vI v :: vR o :: st) h ((pI h o fam k v).bind f) := by
  intro r h' ho
  cases e : pI h o fam k v with
  | none => rw [e] at ho; cases ho
  | some h2 =>
    rw [e] at ho
    obtain ⟨a, ci, rfl, hT, hci, rfl⟩ := pI_some e
    obtain ⟨m1, m2⟩ := kk _ r h' ho
    refine ⟨aLe_of (h2 := wI h a (va_up (aI h a) k v)) rfl m1, fun ha H locs lsA hP hS hls => ?_⟩
    obtain ⟨C, T, N, cell, cf, kf, fi, fd, kC, hc, hk, e1, e2, e3, e5, q1, q2, q3, q4, hi, hi2, hsl, hst, hfc, hkC, hkind⟩ := fld_at hK hf hci hT hP
    have hlay := hK.hts _ (hc.2.1 _ (u_in_lay hk))
    unfold u_lay at hlay
    rw [if_neg (by rw [e3]; decide), e1, e2] at hlay
    have h6 := u_store hfc hkC hkind hlay hi hd hn hft
    refine W.putK hK.1 hK.2.1 (f := fd) ⟨hK.2.2.2.1, hK.hts _ hl, ⟨_, _, _, hi2⟩, hst⟩ (by rw [q2]; exact h6) q1 q3 (by rw [hsl]; exact k2_hasslot (q4 k hk)) rfl rfl d fun H1 b1 b2 b3 => ?_
    rw [hsl] at b1 ⊢
    exact m2 ha H1 _ lsA (fld_put hc hk hK.vk hK.hts hP hT q2 q3 q4 b1 b2 b3 rfl rfl (fun b hb => va_up_ne _ _ hb) (fun _ _ => rfl) (fun _ _ => rfl) (updV_I e5)) (hS.put b2 b3 (Nat.le_add_right _ _)) hls
theorem go_putIF (hK : KOK K own cc ret) (hin : K.2.1.2.2.2.2.2.2.1.name = "<init>") {fam : List Nat} {k : Nat} {ref nm ds : String} {idx : Nat} (hl : Cond.fieldLink own idx ref nm ds ∈ Tg) (hf : famOK fam k ref nm ds true true) (hown : ∀ ci ∈ fam, ∀ C T N, vwCl[ci]? = some (C, T, N) → (T k).1 = own) {ty : FieldType} (hd : parseFieldDescriptor ds = some ty) {o : Option Nat} {v : Int32} (hn : narrow ty (.int v) = .int v) (hft : fits ty (.int v) = true) {f : AH → Option (α × AH)} (d : decode cc pc = .ok (.putfield idx, 3)) (kk : ∀ h2, Go K (pc + 3) ls st h2 (f h2)) : Go K pc ls (vI v :: vR o :: st) h ((pI h o fam k v).bind f) := by
  intro r h' ho
  cases e : pI h o fam k v with
  | none => rw [e] at ho; cases ho
  | some h2 =>
    rw [e] at ho
    obtain ⟨a, ci, rfl, hT, hci, rfl⟩ := pI_some e
    obtain ⟨m1, m2⟩ := kk _ r h' ho
    refine ⟨aLe_of (h2 := wI h a (va_up (aI h a) k v)) rfl m1, fun ha H locs lsA hP hS hls => ?_⟩
    obtain ⟨C, T, N, cell, cf, kf, fi, fd, kC, hc, hk, e1, e2, e3, e5, q1, q2, q3, q4, hi, hi2, hsl, hst, hfc, hkC, hkind⟩ := fld_at hK hf hci hT hP
    have hlay := hK.hts _ (hc.2.1 _ (u_in_lay hk))
    unfold u_lay at hlay
    rw [if_pos e3, e1, e2] at hlay
    have hcf : K.2.1.2.2.2.1.cls = cf := by
      obtain ⟨_, _, c', _, _, _, -, -, hf', -, -, -, hown2, -⟩ := Cond.laysFinal_spec hlay
      have z1 : c' = cf := by have := hi.symm.trans hf'; simp at this; exact this.1.symm
      rw [hown ci hci _ _ _ hc.1] at hown2
      rw [← z1]; exact Option.some.inj (hK.2.2.2.1.symm.trans hown2)
    have h6 := u_fits hfc hkC hkind (Or.inr hlay) hi hd hn hft
    refine W.putFinK hK.1 hK.2.1 hK.2.2.2.1 (hK.hts _ hl) hi2 hst hcf hin (by rw [q2]; exact h6) q1 q3 (by rw [hsl]; exact k2_hasslot (q4 k hk)) rfl rfl d fun H1 b1 b2 b3 => ?_
    rw [hsl] at b1 ⊢
    exact m2 ha H1 _ lsA (fld_put hc hk hK.vk hK.hts hP hT q2 q3 q4 b1 b2 b3 rfl rfl (fun b hb => va_up_ne _ _ hb) (fun _ _ => rfl) (fun _ _ => rfl) (updV_I e5)) (hS.put b2 b3 (Nat.le_add_right _ _)) hls
theorem go_putR (hK : KOK K own cc ret) {fam : List Nat} {k : Nat} {ref nm ds : String} {idx : Nat} (hl : Cond.fieldLink own idx ref nm ds ∈ Tg) (hf : famOK fam k ref nm ds false false) {ty : FieldType} (hd : parseFieldDescriptor ds = some ty) {o : Option Nat} {v : Option Nat} (hn : narrow ty (rv K.1.2.2.2.1 v) = rv K.1.2.2.2.1 v) (hft : fits ty (rv K.1.2.2.2.1 v) = true) {f : AH → Option (α × AH)} (d : decode cc pc = .ok (.putfield idx, 3)) (kk : ∀ h2, Go K (pc + 3) ls st h2 (f h2)) : Go K pc ls (vR v :: vR o :: st) h ((pR h o fam k v).bind f) := by
  intro r h' ho
  cases e : pR h o fam k v with
  | none => rw [e] at ho; cases ho
  | some h2 =>
    rw [e] at ho
    obtain ⟨a, ci, rfl, hT, hci, rfl⟩ := pR_some e
    obtain ⟨m1, m2⟩ := kk _ r h' ho
    refine ⟨aLe_of (h2 := wR h a (va_up (aR h a) k v)) rfl m1, fun ha H locs lsA hP hS hls => ?_⟩
    obtain ⟨C, T, N, cell, cf, kf, fi, fd, kC, hc, hk, e1, e2, e3, e5, q1, q2, q3, q4, hi, hi2, hsl, hst, hfc, hkC, hkind⟩ := fld_at hK hf hci hT hP
    have hlay := hK.hts _ (hc.2.1 _ (u_in_lay hk))
    unfold u_lay at hlay
    rw [if_neg (by rw [e3]; decide), e1, e2] at hlay
    have h6 := u_store hfc hkC hkind hlay hi hd hn hft
    refine W.putK hK.1 hK.2.1 (f := fd) ⟨hK.2.2.2.1, hK.hts _ hl, ⟨_, _, _, hi2⟩, hst⟩ (by rw [q2]; exact h6) q1 q3 (by rw [hsl]; exact k2_hasslot (q4 k hk)) rfl rfl d fun H1 b1 b2 b3 => ?_
    rw [hsl] at b1 ⊢
    exact m2 ha H1 _ lsA (fld_put hc hk hK.vk hK.hts hP hT q2 q3 q4 b1 b2 b3 rfl rfl (fun _ _ => rfl) (fun _ _ => rfl) (fun b hb => va_up_ne _ _ hb) (updV_R e5)) (hS.put b2 b3 (Nat.le_add_right _ _)) hls
theorem go_putRF (hK : KOK K own cc ret) (hin : K.2.1.2.2.2.2.2.2.1.name = "<init>") {fam : List Nat} {k : Nat} {ref nm ds : String} {idx : Nat} (hl : Cond.fieldLink own idx ref nm ds ∈ Tg) (hf : famOK fam k ref nm ds false true) (hown : ∀ ci ∈ fam, ∀ C T N, vwCl[ci]? = some (C, T, N) → (T k).1 = own) {ty : FieldType} (hd : parseFieldDescriptor ds = some ty) {o : Option Nat} {v : Option Nat} (hn : narrow ty (rv K.1.2.2.2.1 v) = rv K.1.2.2.2.1 v) (hft : fits ty (rv K.1.2.2.2.1 v) = true) {f : AH → Option (α × AH)} (d : decode cc pc = .ok (.putfield idx, 3)) (kk : ∀ h2, Go K (pc + 3) ls st h2 (f h2)) : Go K pc ls (vR v :: vR o :: st) h ((pR h o fam k v).bind f) := by
  intro r h' ho
  cases e : pR h o fam k v with
  | none => rw [e] at ho; cases ho
  | some h2 =>
    rw [e] at ho
    obtain ⟨a, ci, rfl, hT, hci, rfl⟩ := pR_some e
    obtain ⟨m1, m2⟩ := kk _ r h' ho
    refine ⟨aLe_of (h2 := wR h a (va_up (aR h a) k v)) rfl m1, fun ha H locs lsA hP hS hls => ?_⟩
    obtain ⟨C, T, N, cell, cf, kf, fi, fd, kC, hc, hk, e1, e2, e3, e5, q1, q2, q3, q4, hi, hi2, hsl, hst, hfc, hkC, hkind⟩ := fld_at hK hf hci hT hP
    have hlay := hK.hts _ (hc.2.1 _ (u_in_lay hk))
    unfold u_lay at hlay
    rw [if_pos e3, e1, e2] at hlay
    have hcf : K.2.1.2.2.2.1.cls = cf := by
      obtain ⟨_, _, c', _, _, _, -, -, hf', -, -, -, hown2, -⟩ := Cond.laysFinal_spec hlay
      have z1 : c' = cf := by have := hi.symm.trans hf'; simp at this; exact this.1.symm
      rw [hown ci hci _ _ _ hc.1] at hown2
      rw [← z1]; exact Option.some.inj (hK.2.2.2.1.symm.trans hown2)
    have h6 := u_fits hfc hkC hkind (Or.inr hlay) hi hd hn hft
    refine W.putFinK hK.1 hK.2.1 hK.2.2.2.1 (hK.hts _ hl) hi2 hst hcf hin (by rw [q2]; exact h6) q1 q3 (by rw [hsl]; exact k2_hasslot (q4 k hk)) rfl rfl d fun H1 b1 b2 b3 => ?_
    rw [hsl] at b1 ⊢
    exact m2 ha H1 _ lsA (fld_put hc hk hK.vk hK.hts hP hT q2 q3 q4 b1 b2 b3 rfl rfl (fun _ _ => rfl) (fun _ _ => rfl) (fun b hb => va_up_ne _ _ hb) (updV_R e5)) (hS.put b2 b3 (Nat.le_add_right _ _)) hls
end PUT
