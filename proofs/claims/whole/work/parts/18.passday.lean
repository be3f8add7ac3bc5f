/-! days -/
def d1st (ev : (Nat → Int32) → Int32) (sil : Int32) (i : Nat) (F : FS) : FS := if ¬ nI i = sil ∧ canS ev F i i = true then sayF F i i else F
def d2st (i : Nat) (F : FS) : FS := if ¬ fHo F i = nI i ∧ 0 < fPu F i ∧ fPu F (hoN F i) < 99 then wPu F (upd (upd (fPu F) i (fPu F i - 1)) (hoN F i) (upd (fPu F) i (fPu F i - 1) (hoN F i) + 1)) else F
def d3st (i : Nat) (F : FS) : FS := wAg F (upd (fAg F) i (minS 99 (fAg F i + 1)))
def dayS (ev : (Nat → Int32) → Int32) (sil : Int32) (n : Nat) (F : FS) : FS := wDy (fo d3st (fo d2st (fo (d1st ev sil) F n) n) n) (fDy (fo d3st (fo d2st (fo (d1st ev sil) F n) n) n) + 1)
theorem r7_3 (P : Nat → Int32) {i j : Nat} (a b : Int32) (hi : i < 7) (hj : j < 7) : upd (upd (r7 P) i (r7 P i - a)) j (upd (r7 P) i (r7 P i - a) j + b) = r7 (upd (upd P i (P i - a)) j (upd P i (P i - a) j + b)) := by
  rw [r7_lt hi, ← r7_upd hi, r7_lt hj, ← r7_upd hj]
theorem FI.pu {r f n : Nat} {σ τ : Sto} {F : FS} (h : FI (lD r f) σ τ f n F) (g : Nat → Int32) : FI (lD r f) σ (sA τ (f + 3) g) f n (wPu F (r7 g)) := by
  have e : cF (sA τ (f + 3) g) f = wPu F (r7 g) := by rw [cF_Pu, h.1]
  refine ⟨e, ⟨?_, ?_⟩, h.2.2.1, Fr.sA h.2.2.2 (by simp [lD])⟩
  · rw [e]; show gI τ f 5 = nI (fN F); rw [h.sz, h.2.2.1]
  · rw [e]; have := h.2.1.2; rw [h.1] at this; exact this
theorem FI.ag {r f n : Nat} {σ τ : Sto} {F : FS} (h : FI (lD r f) σ τ f n F) (g : Nat → Int32) : FI (lD r f) σ (sA τ (f + 5) g) f n (wAg F (r7 g)) := by
  have e : cF (sA τ (f + 5) g) f = wAg F (r7 g) := by rw [cF_Ag, h.1]
  refine ⟨e, ⟨?_, ?_⟩, h.2.2.1, Fr.sA h.2.2.2 (by simp [lD])⟩
  · rw [e]; show gI τ f 5 = nI (fN F); rw [h.sz, h.2.2.1]
  · rw [e]; have := h.2.1.2; rw [h.1] at this; exact this
theorem FI.dy {r f n : Nat} {σ τ : Sto} {F : FS} (h : FI (lD r f) σ τ f n F) (v : Int32) : FI (lD r f) σ (sI τ f 6 v) f n (wDy F v) := by
  have e : cF (sI τ f 6 v) f = wDy F v := by rw [cF_Dy, h.1]
  refine ⟨e, ⟨?_, ?_⟩, h.2.2.1, Fr.sI h.2.2.2 (by simp [lD])⟩
  · rw [e, gI_sI, if_neg (by simp)]; show gI τ f 5 = nI (fN F); rw [h.sz, h.2.2.1]
  · rw [e]; have := h.2.1.2; rw [h.1] at this; exact this
theorem FI.ok {l : List Nat} {f n : Nat} {σ τ : Sto} {F : FS} (h : FI l σ τ f n F) : fsOK F := h.1 ▸ h.2.1.2
theorem ev_passDay (k : Nat) (σ : Sto) (r f : Nat) (hr : r = 46 ∨ r = 49) (hf : f = 5 ∨ f = 11) (hc : cOK σ f) (ev : (Nat → Int32) → Int32) (hR : RC σ r ev) (sil : Int32) :
    EvM (k + 4) M_X2_passDay [.ref f, .ref r, .int sil] σ (fun v τ => v = none ∧ FI (lD r f) σ τ f (fN (cF σ f)) (dayS ev sil (fN (cF σ f)) (cF σ f))) := by
  have h7 := hc.2.1
  have hcan : ∀ τ F q nm, FI (lD r f) σ τ f (fN (cF σ f)) F → q < fN (cF σ f) → nm < fN (cF σ f) → EvM (k + 3) M_X2_can [.ref f, .ref r, .int (nI q), .int (nI nm)] τ (fun v υ => v = some (.int (bI (canS ev F q nm))) ∧ Fr [r + 2] τ υ) := by
    intro τ F q nm h hq hnm
    have := ev_can k τ r f hr hf h.2.1 ev (RC_fr h.2.2.2 (lD_r hr hf).1 (lD_r hr hf).2 hR) q nm (by rw [h.1, h.2.2.1]; exact hq) (by rw [h.1, h.2.2.1]; exact hnm)
    rw [h.1] at this
    exact this
  have hsay : ∀ τ F q nm, FI (lD r f) σ τ f (fN (cF σ f)) F → q < fN (cF σ f) → nm < fN (cF σ f) → EvM (k + 3) M_X2_say [.ref f, .int (nI q), .int (nI nm)] τ (fun v υ => v = none ∧ FI (lD r f) σ υ f (fN (cF σ f)) (sayF F q nm)) := by
    intro τ F q nm h hq hnm
    refine EvM.post (ev_say (k + 2) τ f hf q nm (by omega)) ?_
    rintro v υ ⟨h1, h2, h3, h4⟩
    exact ⟨h1, fi_say h hq h2 h3 h4⟩
  have h0 : FI (lD r f) σ σ f (fN (cF σ f)) (cF σ f) := ⟨rfl, hc, rfl, Fr.rf⟩
  have hrul : ∀ τ υ F, FI (lD r f) σ τ f (fN (cF σ f)) F → Fr [r + 2] τ υ → FI (lD r f) σ υ f (fN (cF σ f)) F := fun τ υ F h h2 => h.rule hr hf (by simp [lD]) h2
  have hrd : ∀ τ F, FI (lD r f) σ τ f (fN (cF σ f)) F → (∀ i, i < 7 → gA τ (f + 3) (nI i).toNatClampNeg = fPu F i) ∧ (∀ i, i < 7 → gA τ (f + 4) (nI i).toNatClampNeg = fHo F i) ∧ (∀ i, i < 7 → gA τ (f + 5) (nI i).toNatClampNeg = fAg F i) ∧ gI τ f 6 = fDy F ∧ fPu F = r7 (gA τ (f + 3)) ∧ fAg F = r7 (gA τ (f + 5)) := by
    intro τ F h
    obtain ⟨-, -, a, b, c, d, -⟩ := cF_rd τ f
    rw [h.1] at a b c d
    exact ⟨a, b, c, d, by rw [← h.1]; rfl, by rw [← h.1]; rfl⟩
  generalize hF : cF σ f = F at *
  generalize hn : fN F = n at *
  refine EvM.of mk_X2_passDay (Nat.le_of_ble_eq_true rfl) ?_
  -- the third loop and the end
  have L3 : ∀ x4 τ F2, FI (lD r f) σ τ f n F2 → fo d2st (fo (d1st ev sil) F n) n = F2 → WW M_X2_passDay (k + 4) (fun v τ => v = none ∧ FI (lD r f) σ τ f n (dayS ev sil n F)) 111 [some (.ref f), some (.ref r), some (.int sil), some (.int (nI 0)), x4] [] τ := by
    intro x4 τ F2 hfi hF2
    refine loopI (α := Sto) 111 (fun i a => [some (.ref f), some (.ref r), some (.int sil), some (.int (nI i)), x4]) (fun a => a) (fun i a => FI (lD r f) σ a f n (fo d3st F2 i)) n ?_ ?_ 0 τ (Nat.zero_le _) hfi
    · intro i υ hi hfi go
      try simp only at hfi
      obtain ⟨-, -, rAg, -, -, eAg⟩ := hrd υ _ hfi
      have hup : ∀ v, FI (lD r f) σ (sA υ (f + 5) (upd (gA υ (f + 5)) (nI i).toNatClampNeg v)) f n (wAg (fo d3st F2 i) (upd (fAg (fo d3st F2 i)) i v)) := by
        intro v
        have := hfi.ag (upd (gA υ (f + 5)) (nI i).toNatClampNeg v)
        rw [nI_clamp (by omega), r7_upd (by omega), ← eAg] at this
        rw [nI_clamp (by omega)]
        exact this
      have hsz := hfi.sz
      have e5 := rAg i (by omega)
      rcases hf with rfl | rfl
      all_goals
        refine wpW K_X2_passDay [111] 40 ?_
        refine ⟨fun h => ?_, fun h => ⟨in7 (by omega), in7 (by omega), ?_⟩⟩
        · rw [hsz, le_of_nI (by omega) (by omega)] at h; omega
        · rw [e5]
          exact go _ _ _ (by rw [← nI_1]; rfl) rfl (hup _)
    · intro υ hfi
      try simp only at hfi
      have hd := hfi.dy (gI υ f 6 + 1)
      obtain ⟨-, -, -, rDy, -⟩ := hrd υ _ hfi
      have hsz := hfi.sz
      have hend : FI (lD r f) σ (sI υ f 6 (gI υ f 6 + 1)) f n (dayS ev sil n F) := by
        have e : dayS ev sil n F = wDy (fo d3st F2 n) (gI υ f 6 + 1) := by rw [dayS, hF2, rDy]
        rw [e]; exact hd
      rcases hf with rfl | rfl
      all_goals
        refine wpW K_X2_passDay [111] 40 ?_
        refine ⟨fun h => ⟨rfl, hend⟩, fun h => ?_⟩
        rw [hsz, le_of_nI (by omega) (by omega)] at h; omega
  -- the second loop
  have L2 : ∀ x4 τ F1, FI (lD r f) σ τ f n F1 → fo (d1st ev sil) F n = F1 → WW M_X2_passDay (k + 4) (fun v τ => v = none ∧ FI (lD r f) σ τ f n (dayS ev sil n F)) 39 [some (.ref f), some (.ref r), some (.int sil), some (.int (nI 0)), x4] [] τ := by
    intro x4 τ F1 hfi hF1
    refine loopI (α := Sto × Option Value) 39 (fun i a => [some (.ref f), some (.ref r), some (.int sil), some (.int (nI i)), a.2]) (fun a => a.1) (fun i a => FI (lD r f) σ a.1 f n (fo d2st F1 i)) n ?_ ?_ 0 (τ, x4) (Nat.zero_le _) hfi
    · rintro i ⟨υ, y4⟩ hi hfi go
      try simp only at hfi
      obtain ⟨rPu, rHo, -, -, ePu, -⟩ := hrd υ _ hfi
      have estep : fo d2st F1 (i + 1) = d2st i (fo d2st F1 i) := rfl
      have hsz := hfi.sz
      generalize fo d2st F1 i = G at *
      obtain ⟨ho1, ho2⟩ := fs_ho hfi.ok (by rw [hfi.2.2.1]; exact hi)
      rw [hfi.2.2.1] at ho1
      have e4 := rHo i (by omega)
      rw [ho2] at e4
      have e3 := rPu i (by omega)
      have e3' := rPu (hoN G i) (by omega)
      have hup : FI (lD r f) σ (sA (sA υ (f + 3) (upd (gA υ (f + 3)) (nI i).toNatClampNeg (gA υ (f + 3) (nI i).toNatClampNeg - 1))) (f + 3) (upd (gA (sA υ (f + 3) (upd (gA υ (f + 3)) (nI i).toNatClampNeg (gA υ (f + 3) (nI i).toNatClampNeg - 1))) (f + 3)) (nI (hoN G i)).toNatClampNeg (gA (sA υ (f + 3) (upd (gA υ (f + 3)) (nI i).toNatClampNeg (gA υ (f + 3) (nI i).toNatClampNeg - 1))) (f + 3) (nI (hoN G i)).toNatClampNeg + 1))) f n (wPu G (upd (upd (fPu G) i (fPu G i - 1)) (hoN G i) (upd (fPu G) i (fPu G i - 1) (hoN G i) + 1))) := by
        rw [sA_sA, gA_eq, nI_clamp (by omega), nI_clamp (by omega), ePu, r7_3 _ _ _ (by omega) (by omega)]
        exact hfi.pu _
      rcases hf with rfl | rfl
      all_goals
        refine wpW K_X2_passDay [39, 111, 55] 40 ?_
        refine ⟨fun h => ?_, fun h => ⟨in7 (by omega), ?_⟩⟩
        · rw [hsz, le_of_nI (by omega) (by omega)] at h; omega
        · rw [e4]
          refine wpW K_X2_passDay [39, 111] 40 ?_
          refine ⟨fun h => ?_, fun h => ⟨in7 (by omega), fun h2 => ?_, fun h2 => ⟨in7 (by omega), fun h3 => ?_, fun h3 => ⟨in7 (by omega), in7 (by omega), in7 (by omega), in7 (by omega), ?_⟩⟩⟩⟩
          · refine go (υ, some (.int (nI (hoN G i)))) _ _ (by rw [← nI_1]; rfl) rfl ?_
            rw [estep, d2st, if_neg (fun c => c.1 (by rw [ho2]; exact h))]
            exact hfi
          · rw [e3] at h2
            refine go (υ, some (.int (nI (hoN G i)))) _ _ (by rw [← nI_1]; rfl) rfl ?_
            rw [estep, d2st, if_neg (fun c => absurd c.2.1 (Int32.not_lt.mpr h2))]
            exact hfi
          · rw [e3'] at h3
            refine go (υ, some (.int (nI (hoN G i)))) _ _ (by rw [← nI_1]; rfl) rfl ?_
            rw [estep, d2st, if_neg (fun c => absurd c.2.2 (Int32.not_lt.mpr h3))]
            exact hfi
          · rw [e3] at h2; rw [e3'] at h3
            refine go (_, some (.int (nI (hoN G i)))) _ _ (by rw [← nI_1]; rfl) rfl ?_
            rw [estep, d2st, if_pos ⟨by rw [ho2]; exact h, Int32.not_le.mp h2, Int32.not_le.mp h3⟩]
            exact hup
    · rintro ⟨υ, y4⟩ hfi
      try simp only at hfi
      have hsz := hfi.sz
      have go3 := L3 y4 υ _ hfi (by rw [hF1])
      rcases hf with rfl | rfl
      all_goals
        refine wpW K_X2_passDay [39, 111] 40 ?_
        refine ⟨fun h => go3, fun h => ?_⟩
        rw [hsz, le_of_nI (by omega) (by omega)] at h; omega
  -- the first loop
  have L1 : WW M_X2_passDay (k + 4) (fun v τ => v = none ∧ FI (lD r f) σ τ f n (dayS ev sil n F)) 2 [some (.ref f), some (.ref r), some (.int sil), some (.int (nI 0)), none] [] σ := by
    refine loopI (α := Sto) 2 (fun i a => [some (.ref f), some (.ref r), some (.int sil), some (.int (nI i)), none]) (fun a => a) (fun i a => FI (lD r f) σ a f n (fo (d1st ev sil) F i)) n ?_ ?_ 0 σ (Nat.zero_le _) h0
    · intro i υ hi hfi go
      try simp only at hfi
      have estep : fo (d1st ev sil) F (i + 1) = d1st ev sil i (fo (d1st ev sil) F i) := rfl
      have hsz := hfi.sz
      generalize fo (d1st ev sil) F i = G at *
      rcases hf with rfl | rfl
      all_goals
        refine wpW K_X2_passDay [2, 39] 40 ?_
        refine ⟨fun h => ?_, fun h => ⟨fun h2 => ?_, fun h2 => ⟨_, hcan υ _ i i hfi hi hi, ?_⟩⟩⟩
        · rw [hsz, le_of_nI (by omega) (by omega)] at h; omega
        · refine go υ _ _ (by rw [← nI_1]; rfl) rfl ?_
          rw [estep, d1st, if_neg (fun c => c.1 h2)]
          exact hfi
        · rintro v ω ⟨rfl, hfr⟩
          have hfi2 := hrul _ _ _ hfi hfr
          refine ⟨fun h3 => ?_, fun h3 => ⟨_, hsay ω _ i i hfi2 hi hi, ?_⟩⟩
          · refine go ω _ _ (by rw [← nI_1]; rfl) rfl ?_
            rw [estep, d1st, if_neg (fun c => by rw [(bI_eq _).mp h3] at c; exact absurd c.2 (by decide))]
            exact hfi2
          · rintro v ω' ⟨rfl, hfi3⟩
            refine go ω' _ _ (by rw [← nI_1]; rfl) rfl ?_
            rw [estep, d1st, if_pos ⟨h2, (bI_ne _).mp h3⟩]
            exact hfi3
    · intro υ hfi
      try simp only at hfi
      have hsz := hfi.sz
      have go2 := L2 none υ _ hfi rfl
      rcases hf with rfl | rfl
      all_goals
        refine wpW K_X2_passDay [2, 39] 40 ?_
        refine ⟨fun h => go2, fun h => ?_⟩
        rw [hsz, le_of_nI (by omega) (by omega)] at h; omega
  rcases hf with rfl | rfl
  all_goals exact wpW K_X2_passDay [2] 10 L1
