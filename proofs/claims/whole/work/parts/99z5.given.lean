/-! what the start's premises say: ASKED, the statics of Throwable, links within the nest -/
theorem xB_in : ∀ w ∈ xB, w ∈ lw_tbl := by decide +kernel
theorem nL_in : ∀ w ∈ nL, w ∈ lw_tbl := by decide +kernel
theorem lay_1 : Cond.laysStatic "NamesInMouths$Ear" "ASKED" "[I" ∈ lw_tbl := by decide +kernel
theorem lay_2 : Cond.laysStatic Bundle.tN "UNASSIGNED_STACK" Bundle.steD ∈ lw_tbl := by decide +kernel
theorem lay_3 : Cond.laysStatic Bundle.tN "SUPPRESSED_SENTINEL" Bundle.listD ∈ lw_tbl := by decide +kernel
theorem ini_1 : Cond.initialized "NamesInMouths$Ear" ∈ lw_tbl := by decide +kernel
theorem ini_2 : Cond.initialized Bundle.tN ∈ lw_tbl := by decide +kernel
theorem nL_s {b : Nat} {s : State} (hts : ∀ w ∈ lw_tbl, w.before #[Value.ref b] s = true) : ∀ w ∈ nL, va_Nw w s := fun w hw => va_Nw.of (by obtain ⟨q, -, rfl⟩ := List.mem_map.mp hw; rfl) (hts w (nL_in w hw))
theorem xB_s {b : Nat} {s : State} (hts : ∀ w ∈ lw_tbl, w.before #[Value.ref b] s = true) : ∀ w ∈ xB, va_Nw w s := fun w hw => va_Nw.of (xB_tab w hw) (hts w (xB_in w hw))
theorem z_all {b : Nat} {s : State} (hts : ∀ w ∈ lw_tbl, w.before #[Value.ref b] s = true) (hgv : (Jvm.Cond.and given_1 narrow_1).before #[Value.ref b] s = true) : ∃ q : Nat, ∀ A : Nat → Prop, (∀ a : Nat, a < s.heap.size → ¬ A a) → (va_Z "NamesInMouths$Ear" "ASKED" "[I" (.ref q) A s s.heap ∧ va_T .int q 3 askF A s s.heap) ∧ vx_Zq Bundle.tN "UNASSIGNED_STACK" Bundle.steD A s s.heap ∧ vx_Zq Bundle.tN "SUPPRESSED_SENTINEL" Bundle.listD A s s.heap := by
  have hs := flat_of_before _ hgv
  have harr : (Cond.arrayOf (.static "NamesInMouths$Ear" "ASKED" "[I") .int).before #[Value.ref b] s = true := hs _ (by decide +kernel)
  have hlen := va_eqt (hs (Cond.eq (.length (.static "NamesInMouths$Ear" "ASKED" "[I")) (.int 3)) (by decide +kernel))
  have e0 := va_eqt (hs (Cond.eq (.elem (.static "NamesInMouths$Ear" "ASKED" "[I") (.int 0)) (.int 0)) (by decide +kernel))
  have e1 := va_eqt (hs (Cond.eq (.elem (.static "NamesInMouths$Ear" "ASKED" "[I") (.int 1)) (.int 3)) (by decide +kernel))
  have e2 := va_eqt (hs (Cond.eq (.elem (.static "NamesInMouths$Ear" "ASKED" "[I") (.int 2)) (.int 4)) (by decide +kernel))
  have u1 : (Cond.isRef (.static Bundle.tN "UNASSIGNED_STACK" Bundle.steD)).before #[Value.ref b] s = true := hs _ (by decide +kernel)
  have u2 : (Cond.isRef (.static Bundle.tN "SUPPRESSED_SENTINEL" Bundle.listD)).before #[Value.ref b] s = true := hs _ (by decide +kernel)
  have hel : ∀ j : Nat, j < 3 → (Term.elem (.static "NamesInMouths$Ear" "ASKED" "[I") (.int (Int32.ofNat j))).eval #[Value.ref b] s none [] s = some (askF j) := fun j hj => match j, hj with
    | 0, _ => e0
    | 1, _ => e1
    | 2, _ => e2
    | k + 3, h => absurd h (by omega)
  obtain ⟨q, hq, -⟩ := va_Tof (N := 3) (f := askF) (A := fun _ => False) (by decide) harr hlen hel (fun _ _ h => h)
  refine ⟨q, fun A hA => ⟨⟨va_Zof (hts _ lay_1) (hts _ ini_1) hq hA, ?_⟩, vx_Zqof (hts _ lay_2) (hts _ ini_2) u1 hA, vx_Zqof (hts _ lay_3) (hts _ ini_2) u2 hA⟩⟩
  obtain ⟨q2, hq2, hT⟩ := va_Tof (N := 3) (f := askF) (A := A) (by decide) harr hlen hel hA
  have : q2 = q := by
    have := hq2.symm.trans hq
    cases this
    rfl
  rw [← this]
  exact hT
