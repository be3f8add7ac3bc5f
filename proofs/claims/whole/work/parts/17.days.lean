/-! moving, roll calls, days -/
def moveS (F : FS) (x to : Int32) : Int32 × FS :=
  if inS (fN F) x && !decide (to < 0) && !decide (10 ≤ to) then (if absS (fPl F x.toNatClampNeg - to) = 0 then (-2, F) else (absS (fPl F x.toNatClampNeg - to), wPl F (upd (fPl F) x.toNatClampNeg to))) else (-1, F)
theorem ev_movedTo (k : Nat) (σ : Sto) (f : Nat) (hf : f = 5 ∨ f = 11) (hc : cOK σ f) (x to : Int32) :
    EvM (k + 1) M_X2_movedTo [.ref f, .int x, .int to] σ (fun v τ => v = some (.int (moveS (cF σ f) x to).1) ∧ cF τ f = (moveS (cF σ f) x to).2 ∧ cOK τ f ∧ Fr [f + 1] σ τ) := by
  have hx := ev_has k σ f hf hc x
  obtain ⟨rPl, -⟩ := cF_rd σ f
  have h7 := hc.2.1
  have hset : ∀ g, cF (sA σ (f + 1) g) f = wPl (cF σ f) (r7 g) := cF_Pl σ f
  have hOK : ∀ g, cOK (sA σ (f + 1) g) f := by
    intro g
    exact ⟨by rw [hset]; exact hc.1, by rw [hset]; exact hc.2⟩
  have hfrr : ∀ g, Fr [f + 1] σ (sA σ (f + 1) g) := fun _ => fr_one
  have hpl : fPl (cF σ f) = r7 (gA σ (f + 1)) := rfl
  refine EvM.of mk_X2_movedTo (Nat.le_of_ble_eq_true rfl) ?_
  generalize hF : cF σ f = F at *
  rcases hf with rfl | rfl
  all_goals
    refine wpW K_X2_movedTo [] 60 ?_
    refine ⟨_, hx, ?_⟩
    rintro v τ ⟨h9, rfl⟩
    obtain rfl := h9.symm
    refine ⟨fun h => ?_, fun h => ⟨fun hn => ?_, fun hn => ⟨fun hn2 => ?_, fun hn2 => ?_⟩⟩⟩
    · have h1 : inS (fN F) x = false := (bI_eq _).mp h
      have hz : moveS F x to = (-1, F) := by simp [moveS, h1]
      rw [hz]; exact ⟨rfl, hF, hc, Fr.rf⟩
    · have hz : moveS F x to = (-1, F) := by simp [moveS, hn]
      rw [hz]; exact ⟨rfl, hF, hc, Fr.rf⟩
    · have h1 : inS (fN F) x = true := (bI_ne _).mp h
      obtain ⟨hx1, hx2⟩ := in_of h7 h1
      have e1 := rPl x.toNatClampNeg (by omega)
      rw [← hx2] at e1
      have hn3 : ¬ 10 ≤ to := Int32.not_le.mpr hn2
      refine ⟨by rw [hx2]; exact in7 (by omega), fun h3 => ⟨by rw [hx2]; exact in7 (by omega), ?_⟩, fun h3 => ?_⟩
      · rw [e1] at h3 ⊢
        have h4 : ¬ absS (fPl F x.toNatClampNeg - to) = 0 := h3
        have hz : moveS F x to = (absS (fPl F x.toNatClampNeg - to), wPl F (upd (fPl F) x.toNatClampNeg to)) := by simp [moveS, h1, hn, hn3, h4]
        rw [hz]
        refine ⟨rfl, ?_, hOK _, hfrr _⟩
        rw [hset, r7_upd (by omega), hpl]
      · rw [e1] at h3
        have h4 : absS (fPl F x.toNatClampNeg - to) = 0 := h3
        have hz : moveS F x to = (-2, F) := by simp [moveS, h1, hn, hn3, h4]
        rw [hz]; exact ⟨rfl, hF, hc, Fr.rf⟩
    · have hn3 : 10 ≤ to := Int32.not_lt.mp hn2
      have hz : moveS F x to = (-1, F) := by simp [moveS, hn3]
      rw [hz]; exact ⟨rfl, hF, hc, Fr.rf⟩
/-- a fen at f that holds F, everything but l as in σ, the rule at r as it was -/
def FI (l : List Nat) (σ τ : Sto) (f : Nat) (n : Nat) (F : FS) : Prop := cF τ f = F ∧ cOK τ f ∧ fN F = n ∧ Fr l σ τ
theorem FI.sz {l : List Nat} {σ τ : Sto} {f n : Nat} {F : FS} (h : FI l σ τ f n F) : gI τ f 5 = nI n := by rw [h.2.1.1, h.1, h.2.2.1]
theorem FI.rule {l : List Nat} {σ τ υ : Sto} {f n r : Nat} {F : FS} (h : FI l σ τ f n F) (hr : r = 46 ∨ r = 49) (hf : f = 5 ∨ f = 11) (hl : r + 2 ∈ l) (h2 : Fr [r + 2] τ υ) : FI l σ υ f n F :=
  ⟨by rw [cF_fr h2 (apart hr hf)]; exact h.1, cOK_fr h2 (apart hr hf) h.2.1, h.2.2.1, h.2.2.2.tr (h2.mono (by simpa using hl))⟩
def lD (r f : Nat) : List Nat := [f, f + 3, f + 4, f + 5, r + 2]
theorem lD_r {r f : Nat} (hr : r = 46 ∨ r = 49) (hf : f = 5 ∨ f = 11) : r ∉ lD r f ∧ r + 1 ∉ lD r f := by
  rcases hr with rfl | rfl <;> rcases hf with rfl | rfl <;> decide
theorem fi_say {r f n : Nat} {σ τ υ : Sto} {F : FS} (h : FI (lD r f) σ τ f n F) {q nm : Nat} (hq : q < n) (h2 : cF υ f = sayF (cF τ f) q nm) (h3 : gI υ f 5 = gI τ f 5) (h4 : Fr [f, f + 4, f + 5] τ υ) : FI (lD r f) σ υ f n (sayF F q nm) := by
  have e : cF υ f = sayF F q nm := by rw [h2, h.1]
  refine ⟨e, ⟨?_, ?_⟩, h.2.2.1, h.2.2.2.tr (h4.mono (by simp [lD]))⟩
  · rw [h3, h.sz, e]
    show nI n = nI (fN F)
    rw [h.2.2.1]
  · rw [e]
    have := h.2.1.2
    rw [h.1] at this
    exact fs_say this (by rw [h.2.2.1]; exact hq)
def rollS (ev : (Nat → Int32) → Int32) (F : FS) (q : Nat) (n : Nat) : Int32 × FS := fo (fun i a => if canS ev a.2 q i then (a.1 + 1, sayF a.2 q i) else a) (0, F) n
def rcallS (ev : (Nat → Int32) → Int32) (F : FS) (x : Int32) : Int32 × FS :=
  if inS (fN F) x then (if (rollS ev F x.toNatClampNeg (fN F)).1 ≤ 0 then -2 else (rollS ev F x.toNatClampNeg (fN F)).1, (rollS ev F x.toNatClampNeg (fN F)).2) else (-1, F)
theorem ev_rollCalled (k : Nat) (σ : Sto) (r f : Nat) (hr : r = 46 ∨ r = 49) (hf : f = 5 ∨ f = 11) (hc : cOK σ f) (ev : (Nat → Int32) → Int32) (hR : RC σ r ev) (x : Int32) :
    EvM (k + 4) M_X2_rollCalled [.ref f, .ref r, .int x] σ (fun v τ => v = some (.int (rcallS ev (cF σ f) x).1) ∧ FI (lD r f) σ τ f (fN (cF σ f)) (rcallS ev (cF σ f) x).2) := by
  have hx := ev_has (k + 3) σ f hf hc x
  have h7 := hc.2.1
  have hcan : ∀ τ F q nm, FI (lD r f) σ τ f (fN (cF σ f)) F → q < fN (cF σ f) → nm < fN (cF σ f) → EvM (k + 3) M_X2_can [.ref f, .ref r, .int (nI q), .int (nI nm)] τ (fun v υ => v = some (.int (bI (canS ev F q nm))) ∧ Fr [r + 2] τ υ) := by
    intro τ F q nm h hq hnm
    have := ev_can k τ r f hr hf h.2.1 ev (RC_fr h.2.2.2 (lD_r hr hf).1 (lD_r hr hf).2 hR) q nm (by rw [h.1, h.2.2.1]; exact hq) (by rw [h.1, h.2.2.1]; exact hnm)
    rw [h.1] at this
    exact this
  have hsay : ∀ τ F q nm, FI (lD r f) σ τ f (fN (cF σ f)) F → q < fN (cF σ f) → nm < fN (cF σ f) → EvM (k + 3) M_X2_say [.ref f, .int (nI q), .int (nI nm)] τ (fun v υ => v = none ∧ FI (lD r f) σ υ f (fN (cF σ f)) (sayF F q nm)) := by
    intro τ F q nm h hq hnm
    refine EvM.post (ev_say (k + 2) τ f hf q nm (by omega)) ?_
    rintro v υ ⟨h1, h2, h3, h4⟩
    exact ⟨h1, fi_say h hq h2 h3 h4⟩
  have h0 : FI (lD r f) σ σ f (fN (cF σ f)) (cF σ f) := ⟨rfl, hc, rfl, Fr.rf⟩
  have hrul : ∀ τ υ F, FI (lD r f) σ τ f (fN (cF σ f)) F → Fr [r + 2] τ υ → FI (lD r f) σ υ f (fN (cF σ f)) F := fun τ υ F h h2 => h.rule hr hf (by simp [lD]) h2
  generalize hF : cF σ f = F at *
  refine EvM.of mk_X2_rollCalled (Nat.le_of_ble_eq_true rfl) ?_
  rcases hf with rfl | rfl
  all_goals
    refine wpW K_X2_rollCalled [15] 20 ?_
    refine ⟨_, hx, ?_⟩
    rintro v τ ⟨h9, rfl⟩
    obtain rfl := h9.symm
    refine ⟨fun h => ?_, fun h => ?_⟩
    · have h1 : inS (fN F) x = true := (bI_ne _).mp h
      obtain ⟨hx1, hx2⟩ := in_of h7 h1
      have hz : rcallS ev F x = (if (rollS ev F x.toNatClampNeg (fN F)).1 ≤ 0 then -2 else (rollS ev F x.toNatClampNeg (fN F)).1, (rollS ev F x.toNatClampNeg (fN F)).2) := by simp [rcallS, h1]
      rw [hz]
      generalize x.toNatClampNeg = q at *
      subst hx2
      refine loopI (α := Int32 × Sto) 15 (fun i a => [some (.ref _), some (.ref r), some (.int (nI q)), some (.int a.1), some (.int (nI i))]) (fun a => a.2) (fun i a => a.1 = (rollS ev F q i).1 ∧ FI (lD r _) σ a.2 _ (fN F) (rollS ev F q i).2) (fN F) ?_ ?_ 0 (0, σ) (Nat.zero_le _) ⟨rfl, h0⟩
      · rintro i ⟨b, τ⟩ hi ⟨hI, hfi⟩ go
        simp only at hI hfi
        refine wpW K_X2_rollCalled [15] 30 ?_
        refine ⟨fun h => ?_, fun h => ⟨_, hcan τ _ q i hfi hx1 hi, ?_⟩⟩
        · rw [hfi.sz, le_of_nI (by omega) (by omega)] at h; omega
        · rintro v υ ⟨rfl, hfr2⟩
          have hfi2 := hrul _ _ _ hfi hfr2
          have estep : rollS ev F q (i + 1) = if canS ev (rollS ev F q i).2 q i then ((rollS ev F q i).1 + 1, sayF (rollS ev F q i).2 q i) else rollS ev F q i := rfl
          refine ⟨fun h2 => ?_, fun h2 => ⟨_, hsay υ _ q i hfi2 hx1 hi, ?_⟩⟩
          · have h3 := (bI_eq _).mp h2
            refine go (b, υ) _ _ (by rw [← nI_1]; rfl) rfl ?_
            rw [estep, h3]
            exact ⟨hI, hfi2⟩
          · have h3 := (bI_ne _).mp h2
            rintro v ω ⟨rfl, hfi3⟩
            refine go (b + 1, ω) _ _ (by rw [← nI_1]; rfl) rfl ?_
            rw [estep, h3]
            exact ⟨by rw [hI]; rfl, hfi3⟩
      · rintro ⟨b, τ⟩ ⟨hI, hfi⟩
        simp only at hI hfi
        refine wpW K_X2_rollCalled [15] 30 ?_
        refine ⟨fun h => ⟨fun h2 => ?_, fun h2 => ?_⟩, fun h => ?_⟩
        · rw [← hI]
          exact ⟨by simp [h2], hfi⟩
        · rw [← hI]
          exact ⟨by simp [h2], hfi⟩
        · rw [hfi.sz, le_of_nI (by omega) (by omega)] at h; omega
    · have h1 : inS (fN F) x = false := (bI_eq _).mp h
      have hz : rcallS ev F x = (-1, F) := by simp [rcallS, h1]
      rw [hz]; exact ⟨rfl, h0⟩
