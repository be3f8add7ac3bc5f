theorem wpW {M : Mt} {T : List (Nat × Op)} (hT : ∀ r ∈ T, OpOK M r.1 r.2) (cut : List Nat) {k : Nat} {Q : Option Value → Sto → Prop} (n : Nat) {pc : Nat} {L : List (Option Value)} {S : List Value} {σ : Sto} (h : wp T cut k Q (WW M k Q) n pc L S σ) : WW M k Q pc L S σ := wp_ok hT (fun _ _ _ _ h => h) n pc L S σ h
def Ret (v : Option Value) (σ : Sto) : Option Value → Sto → Prop := fun w τ => w = v ∧ τ = σ
abbrev RetI (x : Int32) (σ : Sto) : Option Value → Sto → Prop := Ret (some (.int x)) σ
def bI (b : Bool) : Int32 := if b then 1 else 0
/-! Fen.has -/
theorem ev_has (k : Nat) (σ : Sto) (f : Nat) (hf : f = 5 ∨ f = 11) (x : Int32) : EvM k M_X2_has [.ref f, .int x] σ (RetI (bI (decide (¬ x < 0) && decide (¬ gI σ f 5 ≤ x) && decide (¬ 7 ≤ x))) σ) := by
  refine EvM.of mk_X2_has (by decide) ?_
  rcases hf with rfl | rfl
  · refine wpW K_X2_has [] 20 ?_
    refine And.intro (fun h => ?_) (fun h => And.intro (fun h2 => ?_) (fun h2 => And.intro (fun h3 => ?_) (fun h3 => ?_)))
    · refine And.intro (Or.inl rfl) ⟨?_, rfl⟩
      simp [bI, h]
    · refine And.intro (Or.inl rfl) ⟨?_, rfl⟩
      simp [bI, h2]
    · refine And.intro (Or.inl rfl) ⟨?_, rfl⟩
      simp [bI, h3]
    · refine And.intro (Or.inr rfl) ⟨?_, rfl⟩
      simp [bI, h, h2, h3]
  · sorry
