/-! reading back, newcomers, the text, the row -/
def rdF (F : FS) (g : Nat → Int32) (a : Nat) : FS := mkF (fN F) (r7 (fun i => g (a + i))) (fVo F) (r7 (fun i => g (a + 7 + i))) (r7 (fun i => g (a + 14 + i))) (r7 (fun i => g (a + 21 + i))) (g (a + 28)) (g (a + 29))
theorem cpyR (f g : Nat → Int32) (a : Nat) : r7 (va_cpy f g a 0 7) = r7 (fun i => f (a + i)) := by
  funext i
  unfold r7
  by_cases h : i < 7
  · rw [if_pos h, if_pos h, pk_cpy_in (by omega) (by omega)]
    congr 1
  · rw [if_neg h, if_neg h]
theorem ev_readsBack (k : Nat) (σ : Sto) (a : Nat) (ha : a ≤ 420) : EvM (k + 1) M_X2_readsBack [.ref 5, .ref 19, .int (nI a)] σ (fun v τ => v = none ∧ cF τ 5 = rdF (cF σ 5) (gA σ 19) a ∧ gI τ 5 5 = gI σ 5 5 ∧ Fr [5, 6, 8, 9, 10] σ τ) := by
  refine EvM.of mk_X2_readsBack (Nat.le_of_ble_eq_true rfl) ?_
  have e7 : nI a + 7 = nI (a + 7) := nI_add a 7
  have e14 : nI a + 14 = nI (a + 14) := nI_add a 14
  have e21 : nI a + 21 = nI (a + 21) := nI_add a 21
  have e28 : nI a + 28 = nI (a + 28) := nI_add a 28
  have e29 : nI (a + 28) + 1 = nI (a + 29) := nI_1 (a + 28)
  have c0 : (nI a).toNatClampNeg = a := nI_clamp (by omega)
  have c7 : (nI (a + 7)).toNatClampNeg = a + 7 := nI_clamp (by omega)
  have c14 : (nI (a + 14)).toNatClampNeg = a + 14 := nI_clamp (by omega)
  have c21 : (nI (a + 21)).toNatClampNeg = a + 21 := nI_clamp (by omega)
  have c28 : (nI (a + 28)).toNatClampNeg = a + 28 := nI_clamp (by omega)
  have c29 : (nI (a + 29)).toNatClampNeg = a + 29 := nI_clamp (by omega)
  have z0 : (0 : Int32).toNatClampNeg = 0 := by decide
  have z7 : (7 : Int32).toNatClampNeg = 7 := by decide
  refine wpW K_X2_readsBack [] 100 ?_
  refine ⟨fun h => absurd h (nI_pos (by omega)), fun _ => ⟨fun _ => ?_, fun h => ?_⟩⟩
  · refine ⟨⟨nI_pos (by omega), by decide, by decide, by rw [c0, z7]; omega, by decide⟩, ⟨by rw [e7]; exact nI_pos (by omega), by decide, by decide, by rw [e7, c7, z7]; omega, by decide⟩, ⟨by rw [e14]; exact nI_pos (by omega), by decide, by decide, by rw [e14, c14, z7]; omega, by decide⟩, ⟨by rw [e21]; exact nI_pos (by omega), by decide, by decide, by rw [e21, c21, z7]; omega, by decide⟩, by rw [e28]; exact inN (by omega) (by omega), by rw [e28, e29]; exact inN (by omega) (by omega), rfl, ?_⟩
    rw [e7, e14, e21, e28, e29, c0, c7, c14, c21, c28, c29, z0, z7]
    refine ⟨?_, rfl, ?_⟩
    · rw [cF_Sd, cF_Dy, cF_Ag, cF_Ho, cF_Pu, cF_Pl, cpyR, cpyR, cpyR, cpyR]
      rfl
    · exact (((((Fr.rf.sA (by simp)).sA (by simp)).sA (by simp)).sA (by simp)).sI (by simp)).sI (by simp)
  · exfalso
    apply h
    show nI a ≤ Int32.ofNat 450 - 30
    rw [show Int32.ofNat 450 - 30 = nI 420 from by decide, le_of_nI (by omega) (by omega)]
    exact ha
def addF (F : FS) (p v u : Int32) : FS := mkF (fN F + 1) (upd (fPl F) (fN F) p) (upd (fVo F) (fN F) v) (upd (fPu F) (fN F) u) (upd (fHo F) (fN F) (nI (fN F))) (upd (fAg F) (fN F) 0) (fDy F) (fSd F)
theorem fs_add {F : FS} {p v u : Int32} (h : fsOK F) (h7 : fN F < 7) : fsOK (addF F p v u) := by
  refine ⟨h7, fun i hi => ?_⟩
  show ∃ h, h < fN F + 1 ∧ upd (fHo F) (fN F) (nI (fN F)) i = nI h
  by_cases hin : i = fN F
  · subst hin; exact ⟨fN F, by omega, pk_us⟩
  · rw [pk_un hin]
    have hi' : i < fN F + 1 := hi
    obtain ⟨j, h1, h2⟩ := h.2 i (by omega)
    exact ⟨j, by omega, h2⟩
theorem ev_fadds (k : Nat) (σ : Sto) (hc : cOK σ 5) (h7 : fN (cF σ 5) < 7) (p v u : Int32) : EvM k M_X2_adds [.ref 5, .int p, .int v, .int u] σ (fun w τ => w = none ∧ cF τ 5 = addF (cF σ 5) p v u ∧ cOK τ 5 ∧ Fr [5, 6, 7, 8, 9, 10] σ τ) := by
  have hn := hc.1
  have hF := hc.2
  refine EvM.of mk_X2_adds (Nat.le_of_ble_eq_true rfl) ?_
  generalize hFF : cF σ 5 = F at *
  generalize hN : fN F = n at *
  refine wpW K_X2_adds [] 100 ?_
  refine ⟨fun h => absurd h (by rw [hn]; exact nI_pos (by omega)), fun _ => ⟨fun _ => ?_, fun h => ?_⟩⟩
  · refine ⟨by rw [hn]; exact in7 h7, by show vp_in (gI σ 5 5) 7; rw [hn]; exact in7 h7, by show vp_in (gI σ 5 5) 7; rw [hn]; exact in7 h7, by show vp_in (gI σ 5 5) 7; rw [hn]; exact in7 h7, by show vp_in (gI σ 5 5) 7; rw [hn]; exact in7 h7, rfl, ?_⟩
    have cl : (nI n).toNatClampNeg = n := nI_clamp (by omega)
    have cl1 : (nI n + 1).toNatClampNeg = n + 1 := by rw [nI_1]; exact nI_clamp (by omega)
    have key : cF (sI (sA (sA (sA (sA (sA σ (5 + 1) (upd (gA σ (5 + 1)) (gI σ 5 5).toNatClampNeg p)) (5 + 2) (upd (gA σ (5 + 2)) (gI σ 5 5).toNatClampNeg v)) (5 + 3) (upd (gA σ (5 + 3)) (gI σ 5 5).toNatClampNeg u)) (5 + 4) (upd (gA σ (5 + 4)) (gI σ 5 5).toNatClampNeg (gI σ 5 5))) (5 + 5) (upd (gA σ (5 + 5)) (gI σ 5 5).toNatClampNeg 0)) 5 5 (gI σ 5 5 + 1)) 5 = addF F p v u := by
      rw [cF_N, cF_Ag, cF_Ho, cF_Pu, cF_Vo, cF_Pl, hn, cl, cl1, r7_upd h7, r7_upd h7, r7_upd h7, r7_upd h7, r7_upd h7, ← hFF]
      unfold addF
      rw [hFF, hN, ← hFF]
      rfl
    have hok : ∀ τ, cF τ 5 = addF F p v u → gI τ 5 5 = gI σ 5 5 + 1 → cOK τ 5 := by
      intro τ h1 h2
      refine ⟨?_, by rw [h1]; exact fs_add hF (by rw [hN]; exact h7)⟩
      rw [h1, h2, hn, nI_1]
      show _ = nI (fN F + 1)
      rw [hN]
    exact ⟨key, hok _ key rfl, (((((Fr.rf.sA (by simp)).sA (by simp)).sA (by simp)).sA (by simp)).sA (by simp)).sI (by simp)⟩
  · exfalso
    apply h
    rw [hn, show (7 : Int32) = nI 7 from rfl, lt_of_nI (by omega) (by omega)]
    exact h7
/-! the text -/
def xT (σ : Sto) : Nat := (gI σ 1 1).toNatClampNeg
def xOK (σ : Sto) : Prop := gI σ 1 1 = nI (xT σ) ∧ xT σ ≤ 80
def atS (t : Nat) (g : Nat → Int32) (x : Int32) : Int32 := if inS t x then g x.toNatClampNeg else -1
def isDg (c : Int32) : Bool := !decide (c < 48) && !decide (57 < c)
def digS (c : Int32) : Int32 := if isDg c then c - 48 else 0
theorem inS_80 {t : Nat} {x : Int32} (ht : t ≤ 1024) (h : inS t x = true) : x.toNatClampNeg < t ∧ x = nI x.toNatClampNeg := by
  have h' := of_decide_eq_true h
  obtain ⟨j, h1, rfl⟩ := vp_in_of (x := x) (n := t) (vp_in_iff.mpr h') (by omega)
  rw [nI_clamp (by omega)]
  exact ⟨h1, rfl⟩
theorem ev_at (k : Nat) (σ : Sto) (hx : xOK σ) (x : Int32) : EvM k M_X8_at [.ref 1, .int x] σ (fun v τ => τ = σ ∧ v = some (.int (atS (xT σ) (gA σ 2) x))) := by
  obtain ⟨hn, h80⟩ := hx
  refine EvM.of mk_X8_at (Nat.le_of_ble_eq_true rfl) ?_
  generalize xT σ = t at *
  have ht : (nI t).toInt = t := nI_toInt (by omega)
  refine wpW K_X8_at [] 40 ?_
  have out : ¬ (0 ≤ x.toInt ∧ x.toInt < t) → atS t (gA σ 2) x = -1 := fun h => by
    rw [atS, inS, decide_eq_false h]; rfl
  refine ⟨fun h => ⟨rfl, ?_⟩, fun h => ⟨fun h2 => ⟨rfl, ?_⟩, fun h2 => ⟨fun h3 => ⟨rfl, ?_⟩, fun h3 => ?_⟩⟩⟩
  · rw [out]
    rw [Int32.lt_iff_toInt_lt] at h
    simp at h; omega
  · rw [hn, Int32.le_iff_toInt_le, ht] at h2
    rw [out (by omega)]
  · rw [Int32.le_iff_toInt_le] at h3
    simp at h3
    rw [out (by omega)]
  · rw [Int32.lt_iff_toInt_lt] at h
    rw [hn, Int32.le_iff_toInt_le, ht] at h2
    simp at h
    have hin : inS t x = true := decide_eq_true ⟨by omega, by omega⟩
    obtain ⟨q1, q2⟩ := inS_80 (by omega) hin
    refine ⟨by rw [q2]; exact inN (by omega) (by omega), rfl, ?_⟩
    rw [atS, hin]; rfl
theorem ev_isDigit (k : Nat) (σ : Sto) (hx : xOK σ) (x : Int32) : EvM (k + 1) M_X8_isDigit [.ref 1, .int x] σ (fun v τ => τ = σ ∧ v = some (.int (bI (isDg (atS (xT σ) (gA σ 2) x))))) := by
  have ha := ev_at k σ hx x
  refine EvM.of mk_X8_isDigit (Nat.le_of_ble_eq_true rfl) ?_
  refine wpW K_X8_isDigit [] 40 ?_
  refine ⟨_, ha, ?_⟩
  rintro v τ ⟨h9, rfl⟩
  obtain rfl := h9.symm
  refine ⟨fun h => ?_, fun h => ⟨fun h2 => ?_, fun h2 => ?_⟩⟩
  · exact ⟨Or.inl rfl, rfl, by simp [isDg, h, bI]⟩
  · exact ⟨Or.inl rfl, rfl, by simp [isDg, h2, bI]⟩
  · exact ⟨Or.inr rfl, rfl, by simp [isDg, h, h2, bI]⟩
theorem ev_digit (k : Nat) (σ : Sto) (hx : xOK σ) (x : Int32) : EvM (k + 2) M_X8_digit [.ref 1, .int x] σ (fun v τ => τ = σ ∧ v = some (.int (digS (atS (xT σ) (gA σ 2) x)))) := by
  have ha := ev_at (k + 1) σ hx x
  have hd := ev_isDigit k σ hx x
  refine EvM.of mk_X8_digit (Nat.le_of_ble_eq_true rfl) ?_
  refine wpW K_X8_digit [] 40 ?_
  refine ⟨_, hd, ?_⟩
  rintro v τ ⟨h9, rfl⟩
  obtain rfl := h9.symm
  refine ⟨fun h => ⟨rfl, ?_⟩, fun h => ⟨_, ha, ?_⟩⟩
  · rw [digS, (bI_eq _).mp h]; rfl
  · rintro v τ ⟨h9, rfl⟩
    obtain rfl := h9.symm
    exact ⟨rfl, by rw [digS, (bI_ne _).mp h]; rfl⟩
theorem ev_twoDigits (k : Nat) (σ : Sto) (hx : xOK σ) (x : Int32) : EvM (k + 3) M_X8_twoDigits [.ref 1, .int x] σ (fun v τ => τ = σ ∧ v = some (.int (10 * digS (atS (xT σ) (gA σ 2) x) + digS (atS (xT σ) (gA σ 2) (x + 1))))) := by
  have h1 := ev_digit k σ hx x
  have h2 := ev_digit k σ hx (x + 1)
  refine EvM.of mk_X8_twoDigits (Nat.le_of_ble_eq_true rfl) ?_
  refine wpW K_X8_twoDigits [] 40 ?_
  refine ⟨_, h1, ?_⟩
  rintro v τ ⟨h9, rfl⟩
  obtain rfl := h9.symm
  refine ⟨_, h2, ?_⟩
  rintro v τ ⟨h9, rfl⟩
  obtain rfl := h9.symm
  exact ⟨rfl, rfl⟩
theorem ev_cuts (k : Nat) (σ : Sto) (x : Int32) : EvM k M_X8_cuts [.ref 1, .int x] σ (fun v τ => v = some (.int (bI (!decide (x < 0) && decide (x ≤ gI σ 1 1)))) ∧ τ = if !decide (x < 0) && decide (x ≤ gI σ 1 1) then sI σ 1 1 x else σ) := by
  refine EvM.of mk_X8_cuts (Nat.le_of_ble_eq_true rfl) ?_
  refine wpW K_X8_cuts [] 40 ?_
  refine ⟨fun h => ⟨Or.inl rfl, ?_⟩, fun h => ⟨fun h2 => ⟨Or.inr rfl, ?_⟩, fun h2 => ⟨Or.inl rfl, ?_⟩⟩⟩
  · simp [h, bI]
  · simp [h, h2, bI]
  · simp [h, h2, bI]
def chS (v sh : Int32) : Int32 := vp_nar .char (((ush v sh) &&& 255).toUInt32 % 65536).toInt32
theorem ev_tadds (k : Nat) (σ : Sto) (hx : xOK σ) (v : Int32) : EvM k M_X8_adds [.ref 1, .int v] σ (fun w τ => if xT σ ≤ 76 then w = some (.int 1) ∧ gI τ 1 1 = nI (xT σ + 4) ∧ gA τ 2 = upd (upd (upd (upd (gA σ 2) (xT σ) (chS v 24)) (xT σ + 1) (chS v 16)) (xT σ + 2) (chS v 8)) (xT σ + 3) (chS v 0) ∧ Fr [1, 2] σ τ else w = some (.int 0) ∧ τ = σ) := by
  obtain ⟨hn, h80⟩ := hx
  refine EvM.of mk_X8_adds (Nat.le_of_ble_eq_true rfl) ?_
  generalize xT σ = t at *
  by_cases ht : t ≤ 76
  · simp only [ht, if_true]
    have step : ∀ (Q : Option Value → Sto → Prop) τ t' g' s, gI τ 1 1 = nI t' → t' < 80 → gA τ 2 = g' → Fr [1, 2] σ τ → ¬ s < 0 → (∀ τ', gI τ' 1 1 = nI (t' + 1) → gA τ' 2 = upd g' t' (chS v s) → Fr [1, 2] σ τ' → WW M_X8_adds k Q 21 [some (.ref 1), some (.int v), some (.int (s + -8))] [] τ') → WW M_X8_adds k Q 21 [some (.ref 1), some (.int v), some (.int s)] [] τ := by
      intro Q τ t' g' s h1 h2 h3 h4 h5 go
      refine wpW K_X8_adds [21] 40 ?_
      refine ⟨fun h => absurd h h5, fun _ => ⟨by rw [h1]; exact inN h2 (by omega), go _ ?_ ?_ ?_⟩⟩
      · show gI τ 1 1 + 1 = _
        rw [h1, nI_1]
      · show upd (gA τ 2) (gI τ 1 1).toNatClampNeg (chS v s) = _
        rw [h1, h3, nI_clamp (by omega)]
      · exact (Fr.sA h4 (by simp)).sI (by simp)
    refine wpW K_X8_adds [21] 40 ?_
    refine ⟨fun h => absurd h (by rw [hn]; exact nI_pos (by omega)), fun _ => ⟨fun _ => ?_, fun h => ?_⟩⟩
    · refine step _ σ t _ 24 hn (by omega) rfl Fr.rf (by decide) (fun τ1 a1 a2 a3 => ?_)
      rw [show (24 : Int32) + -8 = 16 from by decide]
      refine step _ τ1 (t + 1) _ 16 a1 (by omega) a2 a3 (by decide) (fun τ2 b1 b2 b3 => ?_)
      rw [show (16 : Int32) + -8 = 8 from by decide]
      refine step _ τ2 (t + 2) _ 8 b1 (by omega) b2 b3 (by decide) (fun τ3 d1 d2 d3 => ?_)
      rw [show (8 : Int32) + -8 = 0 from by decide]
      refine step _ τ3 (t + 3) _ 0 d1 (by omega) d2 d3 (by decide) (fun τ4 f1 f2 f3 => ?_)
      refine wpW K_X8_adds [21] 40 ?_
      exact ⟨fun _ => ⟨Or.inr rfl, rfl, f1, f2, f3⟩, fun h => absurd (by decide) h⟩
    · exfalso; apply h
      rw [hn, show (76 : Int32) = nI 76 from rfl, le_of_nI (by omega) (by omega)]; exact ht
  · simp only [ht, if_false]
    refine wpW K_X8_adds [] 100 ?_
    refine ⟨fun h => absurd h (by rw [hn]; exact nI_pos (by omega)), fun _ => ⟨fun h => ?_, fun h => ⟨Or.inl rfl, rfl, rfl⟩⟩⟩
    rw [hn, show (76 : Int32) = nI 76 from rfl, le_of_nI (by omega) (by omega)] at h; omega
/-! the row -/
def tR (σ : Sto) : List Int64 := (List.range (gI σ 3 1).toNatClampNeg).map (gJ σ 4)
def tOK (σ : Sto) : Prop := gI σ 3 1 = nI (tR σ).length ∧ (tR σ).length ≤ 9
theorem tR_len (σ : Sto) : (tR σ).length = (gI σ 3 1).toNatClampNeg := by simp [tR]
theorem tR_push {σ τ : Sto} {s : Nat} {x : Int64} (hs : gI σ 3 1 = nI s) (h9 : s < 9) (h1 : gI τ 3 1 = nI (s + 1)) (h2 : gJ τ 4 = vp_updL (gJ σ 4) s x) : tR τ = tR σ ++ [x] := by
  unfold tR
  rw [h1, hs, nI_clamp (by omega), nI_clamp (by omega), List.range_succ, List.map_append]
  congr 1
  · apply List.map_congr_left
    intro i hi
    have := List.mem_range.mp hi
    rw [h2, pk_uLn (by omega)]
  · rw [List.map_singleton, h2, pk_uLs]
theorem ev_rclears (k : Nat) (σ : Sto) : EvM k M_X9_clears [.ref 3] σ (fun v τ => v = none ∧ tR τ = [] ∧ tOK τ ∧ Fr [3, 4] σ τ) := by
  refine EvM.of mk_X9_clears (Nat.le_of_ble_eq_true rfl) ?_
  refine wpW K_X9_clears [] 10 ?_
  have e : tR (sI σ 3 1 0) = [] := by simp [tR, gI_sI]
  exact ⟨rfl, e, ⟨by rw [e]; rfl, by rw [e]; exact Nat.zero_le _⟩, Fr.rf.sI (by simp)⟩
theorem ev_radds (k : Nat) (σ : Sto) (ht : tOK σ) (x : Int64) (h9 : (tR σ).length < 9) : EvM k M_X9_adds [.ref 3, .long x] σ (fun v τ => v = none ∧ tR τ = tR σ ++ [x] ∧ tOK τ ∧ Fr [3, 4] σ τ) := by
  obtain ⟨hs, -⟩ := ht
  refine EvM.of mk_X9_adds (Nat.le_of_ble_eq_true rfl) ?_
  have hp := fun τ => tR_push (σ := σ) (τ := τ) (x := x) hs h9
  generalize hg : (tR σ).length = s at *
  refine wpW K_X9_adds [] 40 ?_
  refine ⟨fun h => absurd h (by rw [hs]; exact nI_pos (by omega)), fun _ => ⟨fun h => ?_, fun _ => ⟨by rw [hs]; exact inN h9 (by omega), rfl, ?_⟩⟩⟩
  · rw [hs, show (9 : Int32) = nI 9 from rfl, le_of_nI (by omega) (by omega)] at h; omega
  · have e := hp (sI (sJ σ (3 + 1) (vp_updL (gJ σ (3 + 1)) (gI σ 3 1).toNatClampNeg x)) 3 1 (gI σ 3 1 + 1)) (by show gI σ 3 1 + 1 = _; rw [hs, nI_1]) (by show vp_updL (gJ σ 4) (gI σ 3 1).toNatClampNeg x = _; rw [hs, nI_clamp (by omega)])
    have hok : ∀ τ, tR τ = tR σ ++ [x] → gI τ 3 1 = gI σ 3 1 + 1 → tOK τ := by
      intro τ h1 h2
      refine ⟨?_, by rw [h1, List.length_append, hg]; exact h9⟩
      rw [h1, h2, List.length_append, hg, hs, nI_1]; rfl
    exact ⟨e, hok _ e rfl, (Fr.rf.sJ (by simp)).sI (by simp)⟩
theorem ev_rtell (k : Nat) (σ : Sto) (x : Int64) : EvM (k + 1) M_X9_tells [.ref 3, .long x] σ (fun v τ => v = none ∧ tR τ = [x] ∧ tOK τ ∧ Fr [3, 4] σ τ) := by
  refine EvM.of mk_X9_tells (Nat.le_of_ble_eq_true rfl) ?_
  refine wpW K_X9_tells [] 20 ?_
  have e : tR (sI σ 3 1 0) = [] := by simp [tR, gI_sI]
  have ht : tOK (sI σ 3 1 0) := ⟨by rw [e]; rfl, by rw [e]; exact Nat.zero_le _⟩
  refine ⟨_, ev_radds k _ ht x (by rw [e]; decide), ?_⟩
  rintro v τ ⟨rfl, h1, h2, h3⟩
  rw [e] at h1
  exact ⟨rfl, h1, h2, (Fr.rf.sI (by simp)).tr h3⟩
theorem ev_rtell2 (k : Nat) (σ : Sto) (x y : Int64) : EvM (k + 1) M_X9_tells_ [.ref 3, .long x, .long y] σ (fun v τ => v = none ∧ tR τ = [x, y] ∧ tOK τ ∧ Fr [3, 4] σ τ) := by
  refine EvM.of mk_X9_tells_ (Nat.le_of_ble_eq_true rfl) ?_
  refine wpW K_X9_tells_ [] 20 ?_
  have e : tR (sI σ 3 1 0) = [] := by simp [tR, gI_sI]
  have ht : tOK (sI σ 3 1 0) := ⟨by rw [e]; rfl, by rw [e]; exact Nat.zero_le _⟩
  refine ⟨_, ev_radds k _ ht x (by rw [e]; decide), ?_⟩
  rintro v τ ⟨rfl, h1, h2, h3⟩
  rw [e] at h1
  refine ⟨_, ev_radds k _ h2 y (by rw [h1]; simp), ?_⟩
  rintro v υ ⟨rfl, h4, h5, h6⟩
  rw [h1] at h4
  exact ⟨rfl, h4, h5, (Fr.rf.sI (by simp)).tr (h3.tr h6)⟩
