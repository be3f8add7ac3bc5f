/-! who can say what -/
def RC (σ : Sto) (r : Nat) (ev : (Nat → Int32) → Int32) : Prop := ∃ m, gI σ r 2 = nI m ∧ m ≤ 40 ∧ ∀ as stk, (runS (gA σ (r + 1)) m as stk).2 0 = ev as
theorem RC_fr {l : List Nat} {σ τ : Sto} {r : Nat} {ev : (Nat → Int32) → Int32} (h : Fr l σ τ) (h1 : r ∉ l) (h2 : r + 1 ∉ l) (hR : RC σ r ev) : RC τ r ev := by
  obtain ⟨m, a, b, c⟩ := hR
  exact ⟨m, by rw [h.I h1]; exact a, b, by rw [h.A h2]; exact c⟩
def canS (ev : (Nat → Int32) → Int32) (F : FS) (q k : Nat) : Bool := !decide (fHo F k = nI q) && decide (0 ≤ ev (askS F q k))
theorem ev_can (k : Nat) (σ : Sto) (r f : Nat) (hr : r = 46 ∨ r = 49) (hf : f = 5 ∨ f = 11) (hc : cOK σ f) (ev : (Nat → Int32) → Int32) (hR : RC σ r ev) (q nm : Nat) (hq : q < fN (cF σ f)) (hnm : nm < fN (cF σ f)) :
    EvM (k + 3) M_X2_can [.ref f, .ref r, .int (nI q), .int (nI nm)] σ (fun v τ => v = some (.int (bI (canS ev (cF σ f) q nm))) ∧ Fr [r + 2] σ τ) := by
  obtain ⟨m, hm, hm40, hev⟩ := hR
  have hw := ev_worth k σ r f hr hf hc m hm hm40 q nm hq hnm
  rw [hev] at hw
  obtain ⟨-, -, -, rHo, -⟩ := cF_rd σ f
  have h7 := hc.2.1
  have e4 := rHo nm (by omega)
  refine EvM.of mk_X2_can (Nat.le_of_ble_eq_true rfl) ?_
  generalize hF : cF σ f = F at *
  rcases hf with rfl | rfl <;> rcases hr with rfl | rfl
  all_goals
    refine wpW K_X2_can [] 40 ?_
    refine ⟨in7 (by omega), fun h => ?_, fun h => ⟨_, hw, ?_⟩⟩
    · rw [e4] at h
      exact ⟨Or.inl rfl, by simp [canS, h, bI], Fr.rf⟩
    · rw [e4] at h
      rintro v τ ⟨rfl, hfr⟩
      refine ⟨fun h2 => ?_, fun h2 => ?_⟩
      · exact ⟨Or.inl rfl, by simp [canS, Int32.not_le.mpr h2, bI], hfr⟩
      · exact ⟨Or.inr rfl, by simp [canS, h, Int32.not_lt.mp h2, bI], hfr⟩
def sayableS (ev : (Nat → Int32) → Int32) (F : FS) (q : Nat) : Int32 := fo (fun i b => if canS ev F q i then b ||| bt i else b) 0 (fN F)
def sayersS (ev : (Nat → Int32) → Int32) (F : FS) (nm : Nat) : Int32 := fo (fun q b => if canS ev F q nm then b ||| bt q else b) 0 (fN F)
theorem apart {r f : Nat} (hr : r = 46 ∨ r = 49) (hf : f = 5 ∨ f = 11) : ∀ j, j < 6 → f + j ∉ [r + 2] := by
  intro j hj
  rw [List.mem_singleton]
  rcases hr with rfl | rfl <;> rcases hf with rfl | rfl <;> omega
theorem apart2 (r : Nat) : r ∉ [r + 2] ∧ r + 1 ∉ [r + 2] := by
  simp only [List.mem_singleton]; omega
theorem ev_sayable (k : Nat) (σ : Sto) (r f : Nat) (hr : r = 46 ∨ r = 49) (hf : f = 5 ∨ f = 11) (hc : cOK σ f) (ev : (Nat → Int32) → Int32) (hR : RC σ r ev) (q : Nat) (hq : q < fN (cF σ f)) :
    EvM (k + 4) M_X2_sayable [.ref f, .ref r, .int (nI q)] σ (fun v τ => v = some (.int (sayableS ev (cF σ f) q)) ∧ Fr [r + 2] σ τ) := by
  have hcan : ∀ τ nm, Fr [r + 2] σ τ → nm < fN (cF σ f) → EvM (k + 3) M_X2_can [.ref f, .ref r, .int (nI q), .int (nI nm)] τ (fun v υ => v = some (.int (bI (canS ev (cF σ f) q nm))) ∧ Fr [r + 2] τ υ) := by
    intro τ nm h hnm
    have e := cF_fr h (apart hr hf)
    have := ev_can k τ r f hr hf (cOK_fr h (apart hr hf) hc) ev (RC_fr h (apart2 r).1 (apart2 r).2 hR) q nm (by rw [e]; exact hq) (by rw [e]; exact hnm)
    rw [e] at this
    exact this
  have h7 := hc.2.1
  have hsz : ∀ τ, Fr [r + 2] σ τ → gI τ f 5 = nI (fN (cF σ f)) := fun τ h => by rw [h.I (by have := apart hr hf 0 (by omega); rwa [Nat.add_zero] at this)]; exact hc.1
  generalize cF σ f = F at *
  refine EvM.of mk_X2_sayable (Nat.le_of_ble_eq_true rfl) ?_
  rcases hf with rfl | rfl
  all_goals
    refine wpW K_X2_sayable [5] 10 ?_
    refine loopI (α := Int32 × Sto) 5 (fun i a => [some (.ref _), some (.ref r), some (.int (nI q)), some (.int a.1), some (.int (nI i))]) (fun a => a.2) (fun i a => a.1 = fo (fun i b => if canS ev F q i then b ||| bt i else b) 0 i ∧ Fr [r + 2] σ a.2) (fN F) ?_ ?_ 0 (0, σ) (Nat.zero_le _) ⟨rfl, Fr.rf⟩
    · rintro i ⟨b, τ⟩ hi ⟨hI, hfr⟩ go
      refine wpW K_X2_sayable [5] 30 ?_
      refine ⟨fun h => ?_, fun h => ⟨_, hcan τ i hfr hi, ?_⟩⟩
      · rw [hsz τ hfr, le_of_nI (by omega) (by omega)] at h; omega
      · rintro v υ ⟨rfl, hfr2⟩
        refine ⟨fun h2 => ?_, fun h2 => ?_⟩
        · exact go (b, υ) _ _ (by rw [← nI_1]; rfl) rfl ⟨by rw [fo, ← hI, (bI_eq _).mp h2]; rfl, hfr.tr hfr2⟩
        · exact go (b ||| bt i, υ) _ _ (by rw [← nI_1]; rfl) rfl ⟨by rw [fo, ← hI, (bI_ne _).mp h2]; rfl, hfr.tr hfr2⟩
    · rintro ⟨b, τ⟩ ⟨hI, hfr⟩
      refine wpW K_X2_sayable [5] 30 ?_
      refine ⟨fun h => ?_, fun h => ?_⟩
      · exact ⟨by rw [sayableS, ← hI], hfr⟩
      · rw [hsz τ hfr, le_of_nI (by omega) (by omega)] at h; omega
theorem ev_sayers (k : Nat) (σ : Sto) (r f : Nat) (hr : r = 46 ∨ r = 49) (hf : f = 5 ∨ f = 11) (hc : cOK σ f) (ev : (Nat → Int32) → Int32) (hR : RC σ r ev) (nm : Nat) (hnm : nm < fN (cF σ f)) :
    EvM (k + 4) M_X2_sayers [.ref f, .ref r, .int (nI nm)] σ (fun v τ => v = some (.int (sayersS ev (cF σ f) nm)) ∧ Fr [r + 2] σ τ) := by
  have hcan : ∀ τ q, Fr [r + 2] σ τ → q < fN (cF σ f) → EvM (k + 3) M_X2_can [.ref f, .ref r, .int (nI q), .int (nI nm)] τ (fun v υ => v = some (.int (bI (canS ev (cF σ f) q nm))) ∧ Fr [r + 2] τ υ) := by
    intro τ q h hq
    have e := cF_fr h (apart hr hf)
    have := ev_can k τ r f hr hf (cOK_fr h (apart hr hf) hc) ev (RC_fr h (apart2 r).1 (apart2 r).2 hR) q nm (by rw [e]; exact hq) (by rw [e]; exact hnm)
    rw [e] at this
    exact this
  have h7 := hc.2.1
  have hsz : ∀ τ, Fr [r + 2] σ τ → gI τ f 5 = nI (fN (cF σ f)) := fun τ h => by rw [h.I (by have := apart hr hf 0 (by omega); rwa [Nat.add_zero] at this)]; exact hc.1
  generalize cF σ f = F at *
  refine EvM.of mk_X2_sayers (Nat.le_of_ble_eq_true rfl) ?_
  rcases hf with rfl | rfl
  all_goals
    refine wpW K_X2_sayers [5] 10 ?_
    refine loopI (α := Int32 × Sto) 5 (fun i a => [some (.ref _), some (.ref r), some (.int (nI nm)), some (.int a.1), some (.int (nI i))]) (fun a => a.2) (fun i a => a.1 = fo (fun q b => if canS ev F q nm then b ||| bt q else b) 0 i ∧ Fr [r + 2] σ a.2) (fN F) ?_ ?_ 0 (0, σ) (Nat.zero_le _) ⟨rfl, Fr.rf⟩
    · rintro i ⟨b, τ⟩ hi ⟨hI, hfr⟩ go
      refine wpW K_X2_sayers [5] 30 ?_
      refine ⟨fun h => ?_, fun h => ⟨_, hcan τ i hfr hi, ?_⟩⟩
      · rw [hsz τ hfr, le_of_nI (by omega) (by omega)] at h; omega
      · rintro v υ ⟨rfl, hfr2⟩
        refine ⟨fun h2 => ?_, fun h2 => ?_⟩
        · exact go (b, υ) _ _ (by rw [← nI_1]; rfl) rfl ⟨by rw [fo, ← hI, (bI_eq _).mp h2]; rfl, hfr.tr hfr2⟩
        · exact go (b ||| bt i, υ) _ _ (by rw [← nI_1]; rfl) rfl ⟨by rw [fo, ← hI, (bI_ne _).mp h2]; rfl, hfr.tr hfr2⟩
    · rintro ⟨b, τ⟩ ⟨hI, hfr⟩
      refine wpW K_X2_sayers [5] 30 ?_
      refine ⟨fun h => ?_, fun h => ?_⟩
      · exact ⟨by rw [sayersS, ← hI], hfr⟩
      · rw [hsz τ hfr, le_of_nI (by omega) (by omega)] at h; omega
def pairsS (ev : (Nat → Int32) → Int32) (F : FS) : Int32 := fo (fun q s => s + bcS (sayableS ev F q)) 0 (fN F)
theorem ev_pairs (k : Nat) (σ : Sto) (r f : Nat) (hr : r = 46 ∨ r = 49) (hf : f = 5 ∨ f = 11) (hc : cOK σ f) (ev : (Nat → Int32) → Int32) (hR : RC σ r ev) :
    EvM (k + 5) M_X2_pairs [.ref f, .ref r] σ (fun v τ => v = some (.int (pairsS ev (cF σ f))) ∧ Fr [r + 2] σ τ) := by
  have hcan : ∀ τ q, Fr [r + 2] σ τ → q < fN (cF σ f) → EvM (k + 4) M_X2_sayable [.ref f, .ref r, .int (nI q)] τ (fun v υ => v = some (.int (sayableS ev (cF σ f) q)) ∧ Fr [r + 2] τ υ) := by
    intro τ q h hq
    have e := cF_fr h (apart hr hf)
    have := ev_sayable k τ r f hr hf (cOK_fr h (apart hr hf) hc) ev (RC_fr h (apart2 r).1 (apart2 r).2 hR) q (by rw [e]; exact hq)
    rw [e] at this
    exact this
  have h7 := hc.2.1
  have hsz : ∀ τ, Fr [r + 2] σ τ → gI τ f 5 = nI (fN (cF σ f)) := fun τ h => by rw [h.I (by have := apart hr hf 0 (by omega); rwa [Nat.add_zero] at this)]; exact hc.1
  generalize cF σ f = F at *
  refine EvM.of mk_X2_pairs (Nat.le_of_ble_eq_true rfl) ?_
  rcases hf with rfl | rfl
  all_goals
    refine wpW K_X2_pairs [4] 10 ?_
    refine loopI (α := Int32 × Sto) 4 (fun i a => [some (.ref _), some (.ref r), some (.int a.1), some (.int (nI i))]) (fun a => a.2) (fun i a => a.1 = fo (fun q s => s + bcS (sayableS ev F q)) 0 i ∧ Fr [r + 2] σ a.2) (fN F) ?_ ?_ 0 (0, σ) (Nat.zero_le _) ⟨rfl, Fr.rf⟩
    · rintro i ⟨b, τ⟩ hi ⟨hI, hfr⟩ go
      refine wpW K_X2_pairs [4] 30 ?_
      refine ⟨fun h => ?_, fun h => ⟨_, hcan τ i hfr hi, ?_⟩⟩
      · rw [hsz τ hfr, le_of_nI (by omega) (by omega)] at h; omega
      · rintro v υ ⟨rfl, hfr2⟩
        refine ⟨_, ev_bc _ _ _, ?_⟩
        rintro v υ ⟨rfl, rfl⟩
        exact go (b + bcS (sayableS ev F i), _) _ _ (by rw [← nI_1]; rfl) rfl ⟨by rw [fo, ← hI], hfr.tr hfr2⟩
    · rintro ⟨b, τ⟩ ⟨hI, hfr⟩
      refine wpW K_X2_pairs [4] 30 ?_
      refine ⟨fun h => ?_, fun h => ?_⟩
      · exact ⟨by rw [pairsS, ← hI], hfr⟩
      · rw [hsz τ hfr, le_of_nI (by omega) (by omega)] at h; omega
theorem ev_sum (k : Nat) (σ : Sto) (f j : Nat) (hf : f = 5 ∨ f = 11) (hc : cOK σ f) (hj : j = 2 ∨ j = 3 ∨ j = 5) : EvM k M_X2_sum [.ref f, .ref (f + j)] σ (fun v τ => τ = σ ∧ v = some (.int (sumS (fN (cF σ f)) (r7 (gA σ (f + j)))))) := by
  obtain ⟨hn, h7, -⟩ := hc
  have rd : ∀ i, i < 7 → gA σ (f + j) (nI i).toNatClampNeg = r7 (gA σ (f + j)) i := fun _ h => rd7 h
  generalize fN (cF σ f) = n at *
  generalize hg : r7 (gA σ (f + j)) = g at *
  refine EvM.of mk_X2_sum (Nat.le_of_ble_eq_true rfl) ?_
  rcases hf with rfl | rfl <;> rcases hj with rfl | rfl | rfl
  all_goals
    refine wpW K_X2_sum [4] 10 ?_
    refine loopI (α := Int32) 4 (fun i b => [some (.ref _), some (.ref _), some (.int b), some (.int (nI i))]) (fun _ => σ) (fun i b => b = fo (fun i s => s + g i) 0 i) n ?_ ?_ 0 0 (Nat.zero_le _) rfl
    · intro i b hi hI go
      refine wpW K_X2_sum [4] 30 ?_
      refine ⟨fun h => ?_, fun h => ⟨fun h2 => ?_, fun h2 => ⟨in7 (by omega), ?_⟩⟩⟩
      · rw [hn, le_of_nI (by omega) (by omega)] at h; omega
      · rw [← lit, le_of_nI (by omega) (by omega)] at h2; omega
      · exact go (b + g i) _ _ (by rw [← nI_1, ← rd i (by omega)]; rfl) rfl (by rw [fo, ← hI])
    · intro b hI
      refine wpW K_X2_sum [4] 30 ?_
      refine ⟨fun h => ?_, fun h => ?_⟩
      · exact ⟨rfl, by rw [sumS, ← hI]⟩
      · rw [hn, le_of_nI (by omega) (by omega)] at h; omega
theorem ev_purses (k : Nat) (σ : Sto) (f : Nat) (hf : f = 5 ∨ f = 11) (hc : cOK σ f) : EvM (k + 1) M_X2_purses [.ref f] σ (fun v τ => τ = σ ∧ v = some (.int (sumS (fN (cF σ f)) (fPu (cF σ f))))) := by
  have hs := ev_sum k σ f 3 hf hc (by decide)
  refine EvM.of mk_X2_purses (Nat.le_of_ble_eq_true rfl) ?_
  rcases hf with rfl | rfl
  all_goals
    refine wpW K_X2_purses [] 10 ?_
    refine ⟨_, hs, ?_⟩
    rintro v υ ⟨rfl, rfl⟩
    exact ⟨rfl, rfl⟩
theorem ev_far (k : Nat) (σ : Sto) (f : Nat) (hf : f = 5 ∨ f = 11) (a b : Nat) (ha : a < 7) (hb : b < 7) : EvM (k + 1) M_X2_far [.ref f, .int (nI a), .int (nI b)] σ (fun v τ => τ = σ ∧ v = some (.int (absS (fPl (cF σ f) a - fPl (cF σ f) b)))) := by
  obtain ⟨rPl, -⟩ := cF_rd σ f
  refine EvM.of mk_X2_far (Nat.le_of_ble_eq_true rfl) ?_
  generalize cF σ f = F at *
  rcases hf with rfl | rfl
  all_goals
    refine wpW K_X2_far [] 20 ?_
    refine ⟨in7 ha, in7 hb, rfl, ?_⟩
    rw [rPl a ha, rPl b hb]
    rfl
