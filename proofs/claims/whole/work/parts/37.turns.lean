/-! Ways.takesTurn, Ways.saysOwn -/
theorem cmp0 (x y : Int64) : lg_cmp x y = 0 ↔ x = y := by
  unfold lg_cmp
  by_cases h : x > y
  · rw [if_pos h]
    constructor
    · intro c; exact absurd c (by decide)
    · rintro rfl; exact absurd h (Int64.lt_irrefl)
  · rw [if_neg h]
    by_cases e : x = y
    · rw [if_pos e]; exact ⟨fun _ => e, fun _ => rfl⟩
    · rw [if_neg e]; exact ⟨fun c => absurd c (by decide), fun c => absurd c e⟩
def lO (r : Nat) : List Nat := [20, 25, 26, 27, 15, 16, r + 2]
theorem lO_r {r : Nat} (hr : r = 46 ∨ r = 49) : r ∉ lO r ∧ r + 1 ∉ lO r := by rcases hr with rfl | rfl <;> decide
/-- the ways and the trial stand at 'came', with T -/
def OS (ev : (Nat → Int32) → Int32) (F : FS) (w : Nat → Nat) (m : Nat) (hf : Int32) (r : Nat) (τ : Sto) (came : Nat) (T : OT) : Prop :=
  cF τ 11 = cameF F w m came ∧ gI τ 11 5 = nI (fN F) ∧ RC τ r ev ∧ gR τ 20 12 = 12 ∧ gR τ 20 13 = r + 1 ∧ gI τ 20 9 = nI m ∧ gI τ 20 11 = hf ∧ gI τ 20 10 = T.1 ∧ gA τ 27 = T.2.1 ∧ gA τ 25 = T.2.2.1 ∧ gJ τ 26 = T.2.2.2 ∧ ∀ i, i < m → gA τ 24 i = nI (w i)
theorem OS_r2 {ev : (Nat → Int32) → Int32} {F : FS} {w : Nat → Nat} {m : Nat} {hf : Int32} {r : Nat} {τ υ : Sto} {came : Nat} {T : OT} (hr : r = 46 ∨ r = 49) (h : OS ev F w m hf r τ came T) (hfr : Fr [r + 2] τ υ) : OS ev F w m hf r υ came T := by
  obtain ⟨h1, h2, h3, h4, h5, h6, h7, h8, h9, h10, h11, h12⟩ := h
  have n11 : 11 ∉ [r + 2] := by rcases hr with rfl | rfl <;> decide
  have n20 : 20 ∉ [r + 2] := by rcases hr with rfl | rfl <;> decide
  have n24 : 24 ∉ [r + 2] := by rcases hr with rfl | rfl <;> decide
  have n25 : 25 ∉ [r + 2] := by rcases hr with rfl | rfl <;> decide
  have n26 : 26 ∉ [r + 2] := by rcases hr with rfl | rfl <;> decide
  have n27 : 27 ∉ [r + 2] := by rcases hr with rfl | rfl <;> decide
  exact ⟨by rw [cF_fr hfr (apart hr (Or.inr rfl))]; exact h1, by rw [hfr.I n11]; exact h2, RC_fr hfr (apart2 r).1 (apart2 r).2 h3, by rw [hfr.R n20]; exact h4, by rw [hfr.R n20]; exact h5, by rw [hfr.I n20]; exact h6, by rw [hfr.I n20]; exact h7, by rw [hfr.I n20]; exact h8, by rw [hfr.A n27]; exact h9, by rw [hfr.A n25]; exact h10, by rw [hfr.J n26]; exact h11, by rw [hfr.A n24]; exact h12⟩
/-- a fen set at one place: the rest stands -/
theorem OS_fen {ev : (Nat → Int32) → Int32} {F : FS} {w : Nat → Nat} {m : Nat} {hf : Int32} {r : Nat} {τ υ : Sto} {came came' : Nat} {T : OT} (hr : r = 46 ∨ r = 49) (h : OS ev F w m hf r τ came T) (hfr : Fr [15, 16] τ υ) (hc : cF υ 11 = cameF F w m came') : OS ev F w m hf r υ came' T := by
  obtain ⟨h1, h2, h3, h4, h5, h6, h7, h8, h9, h10, h11, h12⟩ := h
  exact ⟨hc, by rw [hfr.I (by decide)]; exact h2, RC_fr hfr (by rcases hr with rfl | rfl <;> decide) (by rcases hr with rfl | rfl <;> decide) h3, by rw [hfr.R (by decide)]; exact h4, by rw [hfr.R (by decide)]; exact h5, by rw [hfr.I (by decide)]; exact h6, by rw [hfr.I (by decide)]; exact h7, by rw [hfr.I (by decide)]; exact h8, by rw [hfr.A (by decide)]; exact h9, by rw [hfr.A (by decide)]; exact h10, by rw [hfr.J (by decide)]; exact h11, by rw [hfr.A (by decide)]; exact h12⟩
/-- what holds of the row of those -/
def WO (F : FS) (w : Nat → Nat) (m : Nat) : Prop := m ≤ 6 ∧ (∀ i, i < m → w i < fN F) ∧ (∀ i, i < m → ∀ i', i' < m → w i = w i' → i = i') ∧ fsOK F
theorem OS.cok {ev : (Nat → Int32) → Int32} {F : FS} {w : Nat → Nat} {m : Nat} {hf : Int32} {r : Nat} {τ : Sto} {came : Nat} {T : OT} (h : OS ev F w m hf r τ came T) (hw : WO F w m) : cOK τ 11 := by
  refine ⟨?_, by rw [h.1]; exact came_ok hw.2.2.2 hw.2.2.1⟩
  rw [h.2.1, h.1, came_n]
def TTC (ev : (Nat → Int32) → Int32) (F : FS) (w : Nat → Nat) (m : Nat) (hf : Int32) (r k rem : Nat) : Prop := ∀ σ had came T, had < 64 → came < 64 → OS ev F w m hf r σ came T → EvM k M_X10_takesTurn [.ref 20, .int (nI (m - rem)), .int (nI had), .int (nI came)] σ (fun v τ => v = none ∧ OS ev F w m hf r τ came (ttS ev F w m hf rem had came T) ∧ Fr (lO r) σ τ)
theorem in6 {i : Nat} (h : i < 6) : vp_in (nI i) 6 := vp_in_nI h (by decide)
theorem in64 {i : Nat} (h : i < 64) : vp_in (nI i) 64 := vp_in_nI h (by decide)
theorem ev_saysOwn (ev : (Nat → Int32) → Int32) (F : FS) (w : Nat → Nat) (m : Nat) (hf : Int32) (r : Nat) (hr : r = 46 ∨ r = 49) (hw : WO F w m) (k rem : Nat) (hrem : rem < m) (hT : TTC ev F w m hf r (k + 3) rem) (σ : Sto) (i had came : Nat) (T : OT) (hi : i < m) (hhad : had < 64) (hcame : came < 64) (ho : OS ev F w m hf r σ came T) :
    EvM (k + 4) M_X10_saysOwn [.ref 20, .int (nI i), .int (nI (m - (rem + 1))), .int (nI had), .int (nI came)] σ (fun v τ => v = none ∧ OS ev F w m hf r τ came (ttS ev F w m hf rem (had ||| 2 ^ i) (if canS ev (cameF F w m came) (w i) (w i) then came ||| 2 ^ i else came) T) ∧ Fr (lO r) σ τ) := by
  have hm6 := hw.1
  have hwi := hw.2.1 i hi
  have h7 := hw.2.2.2.1
  have hcan := ev_can k σ r 11 hr (Or.inr rfl) (ho.cok hw) ev ho.2.2.1 (w i) (w i) (by rw [ho.1, came_n]; exact hwi) (by rw [ho.1, came_n]; exact hwi)
  rw [ho.1] at hcan
  obtain ⟨o1, -⟩ := or_nI had (by omega) i (by omega)
  obtain ⟨c1, -⟩ := or_nI came (by omega) i (by omega)
  have o2 := or_lt 6 (by omega) had hhad i (by omega)
  have c2 := or_lt 6 (by omega) came hcame i (by omega)
  have hth : gA σ 24 (nI i).toNatClampNeg = nI (w i) := by rw [nI_clamp (by omega)]; exact ho.2.2.2.2.2.2.2.2.2.2.2 i hi
  have hdep : nI (m - (rem + 1)) + 1 = nI (m - rem) := by rw [nI_1]; congr 1; omega
  refine EvM.of mk_X10_saysOwn (Nat.le_of_ble_eq_true rfl) ?_
  refine wpW K_X10_saysOwn [8] 20 ?_
  refine ⟨in6 (by omega), ?_⟩
  show WW M_X10_saysOwn _ _ 8 _ _ _
  rw [show (20 : Nat) + 4 = 24 from rfl, hth]
  refine wpW K_X10_saysOwn [41] 40 ?_
  refine ⟨11, ho.2.2.2.1, r, ho.2.2.2.2.1, ?_⟩
  have step2 : ∀ τ, OS ev F w m hf r τ came T → Fr [r + 2] σ τ → canS ev (cameF F w m came) (w i) (w i) = true → WW M_X10_saysOwn (k + 4) (fun v τ => v = none ∧ OS ev F w m hf r τ came (ttS ev F w m hf rem (had ||| 2 ^ i) (if canS ev (cameF F w m came) (w i) (w i) then came ||| 2 ^ i else came) T) ∧ Fr (lO r) σ τ) 41 [some (.ref 20), some (.int (nI i)), some (.int (nI (m - (rem + 1)))), some (.int (nI had)), some (.int (nI came)), some (.int (nI (w i))), none, none] [] τ := by
    intro τ hos hfr hc
    simp only [hc, if_true]
    have hcl : (nI (w i)).toNatClampNeg = w i := nI_clamp (by omega)
    have hcf := hos.1
    -- the name comes home
    have hup : cF (sA (sA τ (11 + 4) (upd (gA τ (11 + 4)) (nI (w i)).toNatClampNeg (nI (w i)))) (11 + 5) (upd (gA (sA τ (11 + 4) (upd (gA τ (11 + 4)) (nI (w i)).toNatClampNeg (nI (w i)))) (11 + 5)) (nI (w i)).toNatClampNeg 0)) 11 = cameF F w m (came ||| 2 ^ i) := by
      rw [cF_Ag, cF_Ho, hcl, r7_upd (by omega), r7_upd (by omega), gA_ne (by decide), came_or hw.2.2.1 hi, ← hcf]
      rfl
    generalize hω : sA (sA τ (11 + 4) (upd (gA τ (11 + 4)) (nI (w i)).toNatClampNeg (nI (w i)))) (11 + 5) (upd (gA (sA τ (11 + 4) (upd (gA τ (11 + 4)) (nI (w i)).toNatClampNeg (nI (w i)))) (11 + 5)) (nI (w i)).toNatClampNeg 0) = ω at hup
    have hωfr : Fr [15, 16] τ ω := by rw [← hω]; exact (Fr.rf.sA (by simp)).sA (by simp)
    have hωos := OS_fen hr hos hωfr hup
    have hev := hT ω (had ||| 2 ^ i) (came ||| 2 ^ i) T o2 c2 hωos
    have back : ∀ ζ, OS ev F w m hf r ζ (came ||| 2 ^ i) (ttS ev F w m hf rem (had ||| 2 ^ i) (came ||| 2 ^ i) T) → Fr (lO r) ω ζ → WW M_X10_saysOwn (k + 4) (fun v τ => v = none ∧ OS ev F w m hf r τ came (ttS ev F w m hf rem (had ||| 2 ^ i) (came ||| 2 ^ i) T) ∧ Fr (lO r) σ τ) 106 [some (.ref 20), some (.int (nI i)), some (.int (nI (m - (rem + 1)))), some (.int (nI had)), some (.int (nI came)), some (.int (nI (w i))), some (.int (gA τ (11 + 4) (nI (w i)).toNatClampNeg)), some (.int (gA τ (11 + 5) (nI (w i)).toNatClampNeg))] [] ζ := by
      intro ζ hz hzf
      refine wpW K_X10_saysOwn [] 40 ?_
      refine ⟨11, hz.2.2.2.1, in7 (by omega), 11, hz.2.2.2.1, in7 (by omega), rfl, ?_, ?_⟩
      · refine OS_fen hr hz ((Fr.rf.sA (by simp)).sA (by simp)) ?_
        rw [cF_Ag, cF_Ho, hcl, r7_upd (by omega), r7_upd (by omega), gA_ne (by decide)]
        have e1 : r7 (gA ζ (11 + 4)) = fHo (cF ζ 11) := rfl
        have e2 : r7 (gA ζ (11 + 5)) = fAg (cF ζ 11) := rfl
        have e3 : gA τ (11 + 4) (w i) = fHo (cF τ 11) (w i) := by show _ = r7 _ _; rw [r7_lt (by omega)]
        have e4 : gA τ (11 + 5) (w i) = fAg (cF τ 11) (w i) := by show _ = r7 _ _; rw [r7_lt (by omega)]
        rw [e1, e2, e3, e4, hz.1, hcf, came_or hw.2.2.1 hi]
        refine FS_ext rfl rfl rfl rfl ?_ ?_ rfl rfl
        · funext j
          show upd (upd (fHo (cameF F w m came)) (w i) (nI (w i))) (w i) (fHo (cameF F w m came) (w i)) j = fHo (cameF F w m came) j
          by_cases hj : j = w i
          · subst hj; rw [pk_us]
          · rw [pk_un hj, pk_un hj]
        · funext j
          show upd (upd (fAg (cameF F w m came)) (w i) 0) (w i) (fAg (cameF F w m came) (w i)) j = fAg (cameF F w m came) j
          by_cases hj : j = w i
          · subst hj; rw [pk_us]
          · rw [pk_un hj, pk_un hj]
      · exact Fr.sA (Fr.sA (((hfr.mono (by simp [lO])).tr (hωfr.mono (by simp [lO]))).tr hzf) (by simp [lO])) (by simp [lO])
    refine wpW K_X10_saysOwn [88] 60 ?_
    refine ⟨11, hos.2.2.2.1, in7 (by omega), 11, hos.2.2.2.1, in7 (by omega), 11, hos.2.2.2.1, in7 (by omega), 11, hos.2.2.2.1, in7 (by omega), ?_⟩
    show WW M_X10_saysOwn _ _ 88 _ _ _
    rw [hω]
    refine wpW K_X10_saysOwn [106] 60 ?_
    refine ⟨_, by rw [hdep, o1, c1]; exact hev, ?_⟩
    rintro v ζ ⟨rfl, z1, z2⟩
    exact back ζ z1 z2
  rcases hr with rfl | rfl
  all_goals
    refine ⟨_, hcan, ?_⟩
    rintro v τ ⟨rfl, hfr⟩
    have hos := OS_r2 (by first | exact Or.inl rfl | exact Or.inr rfl) ho hfr
    refine ⟨fun c => step2 τ hos hfr ((bI_ne _).mp c), fun c => ⟨_, by rw [hdep, o1]; exact hT τ (had ||| 2 ^ i) came T o2 hcame hos, ?_⟩⟩
    rw [(bI_eq _).mp c]
    rintro v ζ ⟨rfl, z1, z2⟩
    exact ⟨rfl, z1, (hfr.mono (by simp [lO])).tr z2⟩
