/-! both sides hold the same at the start -/
def A0 : AS := (cF s0 5, cX s0, [], [], fun _ => none, [], [], evNone)
theorem r7_0 (i : Nat) : r7 (fun _ => (0 : Int32)) i = 0 := by
  unfold r7
  split <;> rfl
theorem fok_0 : fOK (cF s0 5) := by
  refine ⟨⟨Nat.zero_le _, fun i hi => absurd hi (Nat.not_lt_zero i)⟩, fun i => ⟨⟨0, by decide, ?_⟩, ⟨0, by decide, ?_⟩, ⟨0, by decide, ?_⟩⟩⟩
  · exact r7_0 i
  · exact r7_0 i
  · exact r7_0 i
theorem si_0 : SI s0 46 [1118, 1102, 1045] := by
  refine ⟨rfl, by decide, fun i y hy => ?_⟩
  match i, hy with
  | 0, hy => cases hy; rfl
  | 1, hy => cases hy; rfl
  | 2, hy => cases hy; rfl
  | k + 3, hy => cases hy
theorem cv_0 : CV s0 A0 := by
  refine ⟨⟨46, 49, ⟨rfl, fok_0.1⟩, rfl, ⟨rfl, Nat.zero_le _⟩, rfl, ⟨_, 0, 0, 0, rfl, by decide, rfl, by decide, rfl, by decide, rfl, fun i => ?_, rfl⟩, Or.inl ⟨rfl, rfl⟩, rfl, rfl, RC_none si_0, ⟨rfl, Nat.zero_le _⟩, rfl, ⟨rfl, Nat.zero_le _⟩, rfl, fun q hq => Or.inr ⟨0, by decide, rfl⟩, Or.inl ⟨rfl, rfl⟩⟩, ⟨rfl, Nat.zero_le _⟩, rfl⟩
  rw [if_neg (by simp)]
  rfl
theorem x0_end (p : Nat) : A0.X.2 p = -1 := by
  show (if p < xT s0 then gA s0 2 p else -1) = -1
  exact if_neg (Nat.not_lt_zero p)
theorem mv_0 : MV s0 A0 := by
  refine ⟨⟨⟨rfl, rfl, fok_0⟩, ⟨rfl, Nat.zero_le _, fun i hi => absurd hi (Nat.not_lt_zero i), fun p hp => x0_end p⟩, ⟨rfl, Nat.zero_le _, fun j hj => absurd hj (Nat.not_lt_zero j)⟩, ⟨0, rfl, Nat.zero_le _, fun i hi => ⟨Or.inl rfl, ⟨0, Nat.le_refl _, rfl⟩, ?_⟩, fun i hi => rfl⟩, ⟨rfl, Nat.zero_le _, fun j hj => absurd hj (Nat.not_lt_zero j)⟩, ⟨rfl, Nat.zero_le _, fun j hj => absurd hj (Nat.not_lt_zero j)⟩, ⟨rfl, rfl⟩, ⟨58, 0, Or.inl rfl, rfl, rfl, Nat.zero_le _, Or.inl ⟨rfl, rfl⟩⟩⟩, ⟨rfl, Nat.zero_le _⟩, rfl⟩
  exact (if_neg (fun h => absurd (show (0 : Int32) = 1 from h.1) (by decide))).symm
theorem ao_0 : aO A0 := by
  refine ⟨fun S h => absurd (show S ∈ ([] : List (Nat → Int32)) from h) List.not_mem_nil, fun i S h => ?_, fun x h => absurd (show x ∈ ([] : List (Int32 × Int32)) from h) List.not_mem_nil⟩
  have h1 : (none : Option (Nat → Int32)) = some S := h
  cases h1
theorem li_0 : LI s0 A0 := ⟨cv_0, mv_0, ao_0⟩
