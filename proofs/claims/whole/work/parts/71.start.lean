/-! THE WORLD at the law's entry: what throwing asks; the law's start -/
section START
variable {s : State} {args : Array Value}
theorem st_str (hts : ∀ w ∈ lw_tbl, w.before args s = true) (hn : ∀ w ∈ flatC (Jvm.Cond.and given_1 narrow_1), w.before args s = true) : ∀ q ∈ strs, ∃ sa : Nat, vk_R q.1 q.2.1 q.2.2 sa s := by
  have one : ∀ (own : String) (k : Nat) (tx : String), Cond.stringRef own k tx ∈ lw_tbl → Cond.exactly (Term.string own k) "java/lang/String" ∈ flatC (Jvm.Cond.and given_1 narrow_1) → ∃ sa : Nat, vk_R own k tx sa s := fun own k tx h1 h2 => by
    obtain ⟨a, -, -, -, e, -⟩ := Cond.exactly_spec (hn _ h2)
    exact ⟨a, vk_R.of (hts _ h1) e⟩
  intro q hq
  rcases (show q = (RX1, 29, "a bishop fails") ∨ q = (RX9, 19, "a swollen one fails") ∨ q = (RX4, 18, "a guest fails") ∨ q = (RX11, 328, "no such shelf") ∨ q = (RX11, 335, "no row") ∨ q = (RX11, 338, "no such place") by simpa [strs] using hq) with rfl | rfl | rfl | rfl | rfl | rfl
  all_goals exact one _ _ _ (by decide +kernel) (by decide +kernel)
theorem st_nc (hn : ∀ w ∈ flatC (Jvm.Cond.and given_1 narrow_1), w.before args s = true) : ∀ q ∈ ncs, va_Nc q.1 q.2 s := by
  intro q hq
  rcases (show q = ("java/lang/IllegalArgumentException", "java/lang/IllegalStateException") ∨ q = ("java/lang/UnsupportedOperationException", "java/lang/IllegalStateException") ∨ q = ("java/lang/UnsupportedOperationException", "java/lang/IllegalArgumentException") ∨ q = ("java/lang/IllegalStateException", "java/lang/IllegalArgumentException") by simpa [ncs] using hq) with rfl | rfl | rfl | rfl
  all_goals exact va_Nc.of (hn _ (by decide +kernel))
theorem st_zq (hts : ∀ w ∈ lw_tbl, w.before args s = true) (hn : ∀ w ∈ flatC (Jvm.Cond.and given_1 narrow_1), w.before args s = true) : vx_Zq Bundle.tN "UNASSIGNED_STACK" Bundle.steD (fun q => s.heap.size ≤ q) s s.heap ∧ vx_Zq Bundle.tN "SUPPRESSED_SENTINEL" Bundle.listD (fun q => s.heap.size ≤ q) s s.heap := by
  have hA : ∀ a : Nat, a < s.heap.size → ¬ (fun q => s.heap.size ≤ q) a := fun a ha => Nat.not_le.mpr ha
  exact ⟨vx_Zqof (hts _ (by decide +kernel)) (hts _ (by decide +kernel)) (hn _ (by decide +kernel)) hA, vx_Zqof (hts _ (by decide +kernel)) (hts _ (by decide +kernel)) (hn _ (by decide +kernel)) hA⟩
end START
