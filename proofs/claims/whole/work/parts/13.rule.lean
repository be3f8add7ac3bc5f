/-! Integer.bitCount; the class's rule: things, joining, its worth -/
def ush (x n : Int32) : Int32 := (x.toUInt32 >>> (n.toUInt32 &&& Int32.toUInt32 31)).toInt32
def bc1 (x : Int32) : Int32 := x - (ush x 1 &&& 1431655765)
def bc2 (x : Int32) : Int32 := (x &&& 858993459) + (ush x 2 &&& 858993459)
def bc3 (x : Int32) : Int32 := (x + ush x 4) &&& 252645135
def bc4 (x : Int32) : Int32 := x + ush x 8
def bc5 (x : Int32) : Int32 := (x + ush x 16) &&& 63
def bcS (x : Int32) : Int32 := bc5 (bc4 (bc3 (bc2 (bc1 x))))
theorem ev_bc (k : Nat) (σ : Sto) (x : Int32) : EvM k M_J6_bitCount_0f7a4 [.int x] σ (fun v τ => τ = σ ∧ v = some (.int (bcS x))) := by
  refine EvM.of mk_J6_bitCount_0f7a4 (Nat.le_of_ble_eq_true rfl) ?_
  refine wpW K_J6_bitCount_0f7a4 [] 60 ?_
  exact ⟨rfl, rfl⟩
def joinS (sg a b : Int32) : Int32 := if sg = 42 then a * b else if sg = 43 then a + b else if sg = 45 then a - b else if sg = 60 then (if b ≤ a then 0 else 1) else if sg = 61 then (if a = b then 1 else 0) else if sg = 62 then (if a ≤ b then 0 else 1) else if b = 0 then 0 else a / b
theorem ev_joined (k : Nat) (σ : Sto) (sg a b : Int32) : EvM k M_X5_joined [.int sg, .int a, .int b] σ (fun v τ => τ = σ ∧ v = some (.int (joinS sg a b))) := by
  refine EvM.of mk_X5_joined (Nat.le_of_ble_eq_true rfl) ?_
  refine wpW K_X5_joined [] 20 ?_
  refine ⟨fun h => ?_, fun h1 => ⟨fun h => ?_, fun h2 => ⟨fun h => ?_, fun h3 => ⟨fun h => ?_, fun h4 => ⟨fun h => ?_, fun h5 => ⟨fun h => ?_, fun h6 => ?_⟩⟩⟩⟩⟩⟩
  · exact ⟨rfl, by simp [joinS, h]⟩
  · exact ⟨rfl, by simp [joinS, h]⟩
  · exact ⟨rfl, by simp [joinS, h]⟩
  · refine ⟨fun c => ?_, fun c => ?_⟩
    · exact ⟨rfl, by simp [joinS, h, c]⟩
    · exact ⟨rfl, by simp [joinS, h, c]⟩
  · refine ⟨fun c => ?_, fun c => ?_⟩
    · exact ⟨rfl, by simp [joinS, h, c]⟩
    · exact ⟨rfl, by simp [joinS, h, c]⟩
  · refine ⟨fun c => ?_, fun c => ?_⟩
    · exact ⟨rfl, by simp [joinS, h, c]⟩
    · exact ⟨rfl, by simp [joinS, h, c]⟩
  · refine ⟨fun c => ⟨c, ?_⟩, fun c => ?_⟩
    · exact ⟨rfl, by simp [joinS, h1, h2, h3, h4, h5, h6, c]⟩
    · exact ⟨rfl, by simp [joinS, h1, h2, h3, h4, h5, h6, c]⟩
def rem7 (x : Int32) : Int32 := x - x / 7 * 7
def hoN (F : FS) (k : Nat) : Nat := (fHo F k).toNatClampNeg
/-- what a rule asks: v, u, f, h, a, o, n -/
def askS (F : FS) (q k : Nat) : Nat → Int32 := fun i => match i with
  | 0 => fVo F q
  | 1 => fVo F (hoN F k)
  | 2 => absS (fPl F q - fPl F (hoN F k))
  | 3 => bcS (heldS F (nI q))
  | 4 => fAg F k
  | 5 => if q = k then 1 else 0
  | _ => rem7 (fDy F)
def thS (as : Nat → Int32) (sg : Int32) : Int32 := if sg = 97 then as 4 else if sg = 102 then as 2 else if sg = 104 then as 3 else if sg = 111 then as 5 else if sg = 117 then as 1 else if sg = 118 then as 0 else as 6
theorem fs_ho {F : FS} (hF : fsOK F) {k : Nat} (hk : k < fN F) : hoN F k < fN F ∧ fHo F k = nI (hoN F k) := by
  obtain ⟨h, h1, h2⟩ := hF.2 k hk
  have : hoN F k = h := by rw [hoN, h2, nI_clamp (by have := hF.1; omega)]
  rw [this]
  exact ⟨h1, h2⟩
theorem ev_held (k : Nat) (σ : Sto) (f : Nat) (hf : f = 5 ∨ f = 11) (hc : cOK σ f) (q : Int32) : EvM k M_X2_held [.ref f, .int q] σ (fun v τ => τ = σ ∧ v = some (.int (heldS (cF σ f) q))) := by
  obtain ⟨hn, h7, -⟩ := hc
  obtain ⟨-, -, -, rHo, -⟩ := cF_rd σ f
  generalize cF σ f = F at *
  refine EvM.of mk_X2_held (Nat.le_of_ble_eq_true rfl) ?_
  rcases hf with rfl | rfl
  all_goals
    refine wpW K_X2_held [4] 10 ?_
    refine loopI (α := Int32) 4 (fun i b => [some (.ref _), some (.int q), some (.int b), some (.int (nI i))]) (fun _ => σ) (fun i b => b = fo (fun i b => if fHo F i = q then b ||| bt i else b) 0 i) (fN F) ?_ ?_ 0 0 (Nat.zero_le _) rfl
    · intro i b hi hI go
      refine wpW K_X2_held [4] 20 ?_
      refine ⟨fun h => ?_, fun h => ⟨in7 (by omega), fun h2 => ?_, fun h2 => ?_⟩⟩
      · rw [hn, le_of_nI (by omega) (by omega)] at h; omega
      · rw [rHo i (by omega)] at h2
        exact go b _ _ (by rw [← nI_1]; rfl) rfl (by rw [fo, ← hI]; exact (if_neg h2).symm)
      · rw [rHo i (by omega)] at h2
        exact go (b ||| bt i) _ _ (by rw [← nI_1]; rfl) rfl (by rw [fo, ← hI]; exact (if_pos h2).symm)
    · intro b hI
      refine wpW K_X2_held [4] 20 ?_
      refine ⟨fun h => ?_, fun h => ?_⟩
      · exact ⟨rfl, by rw [hI]; rfl⟩
      · rw [hn, le_of_nI (by omega) (by omega)] at h; omega
theorem ev_thing (k : Nat) (σ : Sto) (f : Nat) (hf : f = 5 ∨ f = 11) (hc : cOK σ f) (sg : Int32) (q nm : Nat) (hq : q < fN (cF σ f)) (hnm : nm < fN (cF σ f)) : EvM (k + 1) M_X5_thing [.int sg, .ref f, .int (nI q), .int (nI nm)] σ (fun v τ => τ = σ ∧ v = some (.int (thS (askS (cF σ f) q nm) sg))) := by
  have hh := ev_held k σ f hf hc (nI q)
  obtain ⟨hn, hF⟩ := hc
  obtain ⟨h7, -⟩ := id hF
  obtain ⟨rPl, rVo, -, rHo, rAg, rDy, -⟩ := cF_rd σ f
  generalize cF σ f = F at *
  obtain ⟨ho1, ho2⟩ := fs_ho hF hnm
  have e4 := rHo nm (by omega)
  rw [ho2] at e4
  refine EvM.of mk_X5_thing (Nat.le_of_ble_eq_true rfl) ?_
  rcases hf with rfl | rfl
  all_goals
    refine wpW K_X5_thing [8] 20 ?_
    refine ⟨in7 (by omega), ?_⟩
    rw [e4]
    refine wpW K_X5_thing [] 20 ?_
    refine ⟨fun h => ?_, fun h1 => ⟨fun h => ?_, fun h2 => ⟨fun h => ?_, fun h3 => ⟨fun h => ?_, fun h4 => ⟨fun h => ?_, fun h5 => ⟨fun h => ?_, fun h6 => ?_⟩⟩⟩⟩⟩⟩
    · refine ⟨in7 (by omega), rfl, ?_⟩
      rw [rAg nm (by omega)]; simp [thS, askS, h]
    · refine ⟨in7 (by omega), in7 (by omega), rfl, ?_⟩
      rw [rPl q (by omega), rPl _ (by omega)]; simp [thS, askS, h, absS]
    · refine ⟨_, hh, ?_⟩
      rintro v τ ⟨rfl, rfl⟩
      refine ⟨_, ev_bc _ _ _, ?_⟩
      rintro v τ ⟨rfl, rfl⟩
      exact ⟨rfl, by simp [thS, askS, h]⟩
    · refine ⟨fun c => ?_, fun c => ?_⟩
      · rw [eq_of_nI (by omega) (by omega)] at c
        exact ⟨rfl, by simp [thS, askS, h, c]⟩
      · rw [eq_of_nI (by omega) (by omega)] at c
        exact ⟨rfl, by simp [thS, askS, h, c]⟩
    · refine ⟨in7 (by omega), rfl, ?_⟩
      rw [rVo _ (by omega)]; simp [thS, askS, h]
    · refine ⟨in7 (by omega), rfl, ?_⟩
      rw [rVo _ (by omega)]; simp [thS, askS, h]
    · refine ⟨by decide, rfl, ?_⟩
      rw [rDy]; simp [thS, askS, rem7, h1, h2, h3, h4, h5, h6]
