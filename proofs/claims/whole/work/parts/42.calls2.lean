/-! the class's calls: undone, kept, heard, seen, counted -/
theorem PP_len {σ : Sto} {u : List (Nat → Int32)} {kp : Nat → Option (Nat → Int32)} (h : PP σ u kp) : gI σ 18 3 = nI u.length ∧ u.length ≤ 12 := by
  obtain ⟨S, a, z, s, h1, h2, h3, h4, h5, h6, h7, h8, h9⟩ := h
  have : u.length = z := by rw [h7]; simp
  rw [this]
  exact ⟨h3, h4⟩
/-- the fen and the past have changed -/
theorem cv_fen {σ τ : Sto} {A : AS} {r s : Nat} (hb : CB σ A r s) (ht : tOK σ) (e : tR σ = A.R) {l : List Nat} (h : Fr l σ τ) (hl : l.all (fun a => [5, 6, 7, 8, 9, 10, 18, 19, 48, 51].contains a) = true) {F : FS} {U : List (Nat → Int32)} {K : Nat → Option (Nat → Int32)} (hF : cOK τ 5 ∧ cF τ 5 = F) (hP : PP τ U K) : CV τ (((A.wF F).wU U).wK K) ∧ Fr lC σ τ := by
  have h := h.up _ hl
  exact ⟨⟨⟨r, s, hb.gen h hF (hb.kX h (by decide) (by decide)) hP rfl (hb.kH h (by decide) (by decide) (by decide)) (hb.kS h (by decide) (by decide) (by decide) (by decide)) (by decide)⟩, tOK_fr h (by decide) (by decide) ht, (tR_fr h (by decide) (by decide)).trans e⟩, h.C (by decide)⟩
theorem cok_of {σ τ : Sto} {F : FS} (hc : cOK σ 5) (h5 : gI τ 5 5 = gI σ 5 5) (e : cF τ 5 = F) (hn : fN F = fN (cF σ 5)) (ho : fsOK F) : cOK τ 5 ∧ cF τ 5 = F := ⟨⟨by rw [h5, e, hn]; exact hc.1, by rw [e]; exact ho⟩, e⟩
def undoC (A : AS) : Int32 × AS := match A.U with
  | [] => (-1, A)
  | S :: u => (nI u.length, (A.wF (backF A.F S)).wU u)
theorem cc_undo (k : Nat) (A : AS) (hU : ∀ S ∈ A.U, fsOK (backF A.F S)) : CC (k + 3) M_X11_undo [] A (.int (undoC A).1) (undoC A).2 := by
  intro σ hv
  obtain ⟨r, s, hb⟩ := hv.b
  have hP := hb.P
  unfold undoC
  generalize A.U = u at hP hU ⊢
  refine EvM.of mk_X11_undo (Nat.le_of_ble_eq_true rfl) ?_
  refine wpW K_X11_undo [] 20 ?_
  refine ⟨_, ev_bringsBack _ σ hP, ?_⟩
  intro w τ hw
  match u, hP, hU, hw with
  | [], hP, hU, hw =>
    obtain ⟨rfl, rfl⟩ := hw
    exact ⟨fun _ => ⟨rfl, hv, Fr.rf⟩, fun h => absurd rfl h⟩
  | S :: u, hP, hU, hw =>
    obtain ⟨rfl, h1, h2, h3, h4⟩ := hw
    refine ⟨fun h => absurd h (by decide), fun _ => ⟨?_, ?_⟩⟩
    · show some (Value.int (gI τ 18 3)) = _
      rw [(PP_len h3).1]
    · rw [hb.F] at h1
      exact cv_fen hb hv.t hv.R h4 (by decide) (cok_of hb.f h2 h1 (by rw [hb.F]; rfl) (hU S List.mem_cons_self)) h3
def keepC (A : AS) (x : Int32) : Bool × AS := if inS 2 x then (true, A.wK (putK A.K x.toNatClampNeg (snapF A.F))) else (false, A)
theorem cc_keep (k : Nat) (A : AS) (x : Int32) : CC (k + 3) M_X11_keep [.int x] A (.int (bI (keepC A x).1)) (keepC A x).2 := by
  intro σ hv
  obtain ⟨r, s, hb⟩ := hv.b
  refine EvM.of mk_X11_keep (Nat.le_of_ble_eq_true rfl) ?_
  refine wpW K_X11_keep [] 20 ?_
  refine ⟨_, ev_shelves _ σ hb.P x, ?_⟩
  intro w τ hw
  unfold keepC
  by_cases c : inS 2 x = true
  · rw [if_pos c] at hw ⊢
    obtain ⟨rfl, h1, h2⟩ := hw
    rw [hb.F] at h1
    exact ⟨bI_or true, rfl, cv_fen hb hv.t hv.R h2 (by decide) (hb.kF h2 (by decide)) h1⟩
  · rw [if_neg c] at hw ⊢
    obtain ⟨rfl, rfl⟩ := hw
    exact ⟨bI_or false, rfl, hv, Fr.rf⟩
def againC (A : AS) (x : Int32) : Bool × AS := match (if inS 2 x then A.K x.toNatClampNeg else none) with
  | some S => (true, (A.wF (backF A.F S)).wU [])
  | none => (false, A)
theorem cc_again (k : Nat) (A : AS) (x : Int32) (hK : ∀ i S, A.K i = some S → fsOK (backF A.F S)) : CC (k + 3) M_X11_again [.int x] A (.int (bI (againC A x).1)) (againC A x).2 := by
  intro σ hv
  obtain ⟨r, s, hb⟩ := hv.b
  refine EvM.of mk_X11_again (Nat.le_of_ble_eq_true rfl) ?_
  refine wpW K_X11_again [] 20 ?_
  refine ⟨_, ev_unshelves _ σ hb.P x, ?_⟩
  intro w τ hw
  unfold againC
  match hk : (if inS 2 x then A.K x.toNatClampNeg else none) with
  | some S =>
    simp only [hk] at hw ⊢
    obtain ⟨rfl, h1, h2, h3, h4⟩ := hw
    rw [hb.F] at h1
    have hS : fsOK (backF A.F S) := by
      by_cases c : inS 2 x = true
      · rw [if_pos c] at hk; exact hK _ _ hk
      · rw [if_neg c] at hk; exact absurd hk (by simp)
    exact ⟨bI_or true, rfl, cv_fen hb hv.t hv.R h4 (by decide) (cok_of hb.f h2 h1 (by rw [hb.F]; rfl) hS) h3⟩
  | none =>
    simp only [hk] at hw ⊢
    obtain ⟨rfl, rfl⟩ := hw
    exact ⟨bI_or false, rfl, hv, Fr.rf⟩
def heardC (A : AS) (w v : Int32) : Int32 × AS := if hearOK A.H w v then (nI (A.H.length + 1), A.wH (A.H ++ [(w, v)])) else (-1, A)
theorem cv_ear {σ τ : Sto} {A : AS} {r s : Nat} (hb : CB σ A r s) (ht : tOK σ) (e : tR σ = A.R) {H : List (Int32 × Int32)} (h : Fr [32, 33, 34] σ τ) (hH : hOK τ ∧ hL τ = H) : CV τ (A.wH H) ∧ Fr lC σ τ :=
  ⟨⟨⟨r, s, hb.gen h (hb.kF h (by decide)) (hb.kX h (by decide) (by decide)) (hb.kP h (by decide) (by decide)) rfl hH (hb.kS h (by decide) (by decide) (by decide) (by decide)) (by decide)⟩, tOK_fr h (by decide) (by decide) ht, (tR_fr h (by decide) (by decide)).trans e⟩, h.C (by decide)⟩
theorem cv_seen {σ τ : Sto} {A : AS} {r s : Nat} (hb : CB σ A r s) (ht : tOK σ) (e : tR σ = A.R) {S : List W3} (h : Fr [35, 36, 37, 38] σ τ) (hS : sOK τ ∧ sL τ = S) : CV τ (A.wS S) ∧ Fr lC σ τ :=
  ⟨⟨⟨r, s, hb.gen h (hb.kF h (by decide)) (hb.kX h (by decide) (by decide)) (hb.kP h (by decide) (by decide)) rfl (hb.kH h (by decide) (by decide) (by decide)) hS (by decide)⟩, tOK_fr h (by decide) (by decide) ht, (tR_fr h (by decide) (by decide)).trans e⟩, h.C (by decide)⟩
theorem cc_heard (k : Nat) (A : AS) (w v : Int32) : CC (k + 2) M_X11_heard [.int w, .int v] A (.int (heardC A w v).1) (heardC A w v).2 := by
  intro σ hv
  obtain ⟨r, s, hb⟩ := hv.b
  refine EvM.of mk_X11_heard (Nat.le_of_ble_eq_true rfl) ?_
  refine wpW K_X11_heard [] 20 ?_
  refine ⟨_, ev_hears _ σ hb.h w v, ?_⟩
  intro z τ hz
  rw [hb.H] at hz
  unfold heardC
  by_cases c : hearOK A.H w v = true
  · rw [if_pos c] at hz ⊢
    obtain ⟨rfl, h1, h2, h3⟩ := hz
    refine ⟨fun h => absurd h (by decide), fun _ => ⟨?_, cv_ear hb hv.t hv.R h3 ⟨h2, h1⟩⟩⟩
    show some (Value.int (gI τ 32 2)) = _
    rw [h2.1, h1, List.length_append]; rfl
  · rw [if_neg c] at hz ⊢
    obtain ⟨rfl, rfl⟩ := hz
    exact ⟨fun _ => ⟨rfl, hv, Fr.rf⟩, fun h => absurd rfl h⟩
theorem cc_forget (k : Nat) (A : AS) : CC k M_X11_forget [] A (.int (nI A.H.length)) (A.wH []) := by
  intro σ hv
  obtain ⟨r, s, hb⟩ := hv.b
  refine EvM.of mk_X11_forget (Nat.le_of_ble_eq_true rfl) ?_
  refine wpW K_X11_forget [] 20 ?_
  refine ⟨by rw [hb.h.1, hb.H], cv_ear hb hv.t hv.R (Fr.sI Fr.rf List.mem_cons_self) ?_⟩
  have e : hL (sI σ 32 2 0) = [] := by
    unfold hL
    rw [gI_sI, if_pos ⟨rfl, rfl⟩]; rfl
  exact ⟨⟨by rw [gI_sI, if_pos ⟨rfl, rfl⟩, e]; rfl, by rw [e]; exact Nat.zero_le _⟩, e⟩
def sawC (A : AS) (v f c : Int32) : Int32 × AS := if sawS A.S v f c then (nI (A.S.length + 1), A.wS (A.S ++ [(v, f, c)])) else (-1, A)
theorem cc_saw (k : Nat) (A : AS) (v f c : Int32) : CC (k + 1) M_X11_saw [.int v, .int f, .int c] A (.int (sawC A v f c).1) (sawC A v f c).2 := by
  intro σ hv
  obtain ⟨r, s, hb⟩ := hv.b
  refine EvM.of mk_X11_saw (Nat.le_of_ble_eq_true rfl) ?_
  refine wpW K_X11_saw [] 20 ?_
  refine ⟨_, ev_sees _ σ hb.s v f c, ?_⟩
  intro z τ hz
  rw [hb.S] at hz
  unfold sawC
  by_cases c : sawS A.S v f c = true
  · rw [if_pos c] at hz ⊢
    obtain ⟨rfl, h1, h2, h3⟩ := hz
    refine ⟨fun h => absurd h (by decide), fun _ => ⟨?_, cv_seen hb hv.t hv.R h3 ⟨h2, h1⟩⟩⟩
    show some (Value.int (gI τ 35 5)) = _
    rw [h2.1, h1, List.length_append]; rfl
  · rw [if_neg c] at hz ⊢
    obtain ⟨rfl, rfl⟩ := hz
    exact ⟨fun _ => ⟨rfl, hv, Fr.rf⟩, fun h => absurd rfl h⟩
theorem cc_denies (k : Nat) (A : AS) : CC k M_X11_denies [] A (.int (nI A.S.length)) (A.wS []) := by
  intro σ hv
  obtain ⟨r, s, hb⟩ := hv.b
  refine EvM.of mk_X11_denies (Nat.le_of_ble_eq_true rfl) ?_
  refine wpW K_X11_denies [] 20 ?_
  refine ⟨by rw [hb.s.1, hb.S], cv_seen hb hv.t hv.R (Fr.sI Fr.rf List.mem_cons_self) ?_⟩
  have e : sL (sI σ 35 5 0) = [] := by
    unfold sL
    rw [gI_sI, if_pos ⟨rfl, rfl⟩]; rfl
  exact ⟨⟨by rw [gI_sI, if_pos ⟨rfl, rfl⟩, e]; rfl, by rw [e]; exact Nat.zero_le _⟩, e⟩
def countC (A : AS) (x : Int32) : Int32 := if x = 0 then nI (fN A.F) else if x = 1 then fDy A.F else if x = 2 then fSd A.F else if x = 3 then homesS A.F else if x = 4 then sumS (fN A.F) (fPu A.F) else if x = 5 then sumS (fN A.F) (fAg A.F) else if x = 6 then sumS (fN A.F) (fVo A.F) else if x = 7 then nI A.H.length else if x = 8 then nI A.S.length else if x = 9 then nI A.U.length else if x = 10 then nI A.R.length else if x = 11 then nI A.X.1 else -1
theorem cc_count (k : Nat) (A : AS) (x : Int32) : CC (k + 2) M_X11_count [.int x] A (.int (countC A x)) A := by
  intro σ hv
  obtain ⟨r, s, hb⟩ := hv.b
  have eX : gI σ 1 1 = nI A.X.1 := by rw [hb.x.1, ← hb.X]; rfl
  refine EvM.of mk_X11_count (Nat.le_of_ble_eq_true rfl) ?_
  refine wpW K_X11_count [] 20 ?_
  have fin : CV σ A ∧ Fr lC σ σ := ⟨hv, Fr.rf⟩
  refine ⟨fun h => ?_, fun h0 => ⟨fun h => ?_, fun h1 => ⟨fun h => ?_, fun h2 => ⟨fun h => ?_, fun h3 => ⟨fun h => ?_, fun h4 => ⟨fun h => ?_, fun h5 => ⟨fun h => ?_, fun h6 => ⟨fun h => ?_, fun h7 => ⟨fun h => ?_, fun h8 => ⟨fun h => ?_, fun h9 => ⟨fun h => ?_, fun h10 => ⟨fun h => ?_, fun h11 => ?_⟩⟩⟩⟩⟩⟩⟩⟩⟩⟩⟩⟩
  · refine ⟨?_, fin⟩; rw [hb.f.1, hb.F]; simp [countC, h]
  · refine ⟨?_, fin⟩; rw [show gI σ 5 6 = fDy A.F by rw [← hb.F]; rfl]; simp [countC, h]
  · refine ⟨?_, fin⟩; rw [show gI σ 5 7 = fSd A.F by rw [← hb.F]; rfl]; simp [countC, h]
  · refine ⟨_, ev_homes _ σ 5 (Or.inl rfl) hb.f, ?_⟩
    rintro v τ ⟨rfl, rfl⟩
    refine ⟨?_, fin⟩; rw [hb.F]; simp [countC, h]
  · refine ⟨_, ev_purses _ σ 5 (Or.inl rfl) hb.f, ?_⟩
    rintro v τ ⟨rfl, rfl⟩
    refine ⟨?_, fin⟩; rw [hb.F]; simp [countC, h]
  · refine ⟨_, ev_sum _ σ 5 5 (Or.inl rfl) hb.f (by simp), ?_⟩
    rintro v τ ⟨rfl, rfl⟩
    refine ⟨?_, fin⟩; rw [show r7 (gA τ (5 + 5)) = fAg A.F by rw [← hb.F]; rfl, hb.F]; simp [countC, h]
  · refine ⟨_, ev_sum _ σ 5 2 (Or.inl rfl) hb.f (by simp), ?_⟩
    rintro v τ ⟨rfl, rfl⟩
    refine ⟨?_, fin⟩; rw [show r7 (gA τ (5 + 2)) = fVo A.F by rw [← hb.F]; rfl, hb.F]; simp [countC, h]
  · refine ⟨?_, fin⟩; rw [hb.h.1, hb.H]; simp [countC, h]
  · refine ⟨?_, fin⟩; rw [hb.s.1, hb.S]; simp [countC, h]
  · refine ⟨?_, fin⟩; rw [(PP_len hb.P).1]; simp [countC, h]
  · refine ⟨?_, fin⟩; rw [hv.t.1, hv.R]; simp [countC, h]
  · refine ⟨?_, fin⟩; rw [eX]; simp [countC, h]
  · refine ⟨?_, fin⟩; simp [countC, h0, h1, h2, h3, h4, h5, h6, h7, h8, h9, h10, h11]
