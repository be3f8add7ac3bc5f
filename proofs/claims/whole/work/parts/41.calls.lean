/-! the class's calls: signs, ends, heard, saw, counts -/
def pushX (X : Nat × (Nat → Int32)) (v : Int32) : Nat × (Nat → Int32) := (X.1 + 4, upd (upd (upd (upd X.2 X.1 (chS v 24)) (X.1 + 1) (chS v 16)) (X.1 + 2) (chS v 8)) (X.1 + 3) (chS v 0))
def signC (A : AS) (v : Int32) : Int32 × AS := if A.X.1 ≤ 76 then (nI (A.X.1 + 4), A.wX (pushX A.X v)) else (-1, A)
theorem xt_of {σ : Sto} {n : Nat} (h : gI σ 1 1 = nI n) (hn : n ≤ 80) : xT σ = n ∧ xOK σ := by
  have e : xT σ = n := by unfold xT; rw [h, nI_clamp (by omega)]
  exact ⟨e, by rw [xOK, e]; exact ⟨h, hn⟩⟩
theorem cc_sign (k : Nat) (A : AS) (v : Int32) : CC (k + 1) M_X11_sign [.int v] A (.int (signC A v).1) (signC A v).2 := by
  intro σ hv
  obtain ⟨r, s, hb⟩ := hv.b
  have eX : xT σ = A.X.1 := by rw [← hb.X]; rfl
  refine EvM.of mk_X11_sign (Nat.le_of_ble_eq_true rfl) ?_
  refine wpW K_X11_sign [] 20 ?_
  refine ⟨_, ev_tadds _ σ hb.x v, ?_⟩
  intro w τ hw
  by_cases c : xT σ ≤ 76
  · rw [if_pos c] at hw
    obtain ⟨rfl, h1, h2, h3⟩ := hw
    refine ⟨fun h => absurd h (by decide), fun _ => ⟨?_, ?_⟩⟩
    · show some (Value.int (gI τ 1 1)) = _
      rw [h1, signC, ← eX, if_pos c]
    · rw [signC, ← eX, if_pos c]
      have ht := xt_of h1 (by omega)
      have hX : cX τ = pushX A.X v := by
        rw [← hb.X]
        unfold cX pushX
        rw [ht.1, h2]
        refine Prod.ext rfl ?_
        funext i
        simp only [upd]
        by_cases a1 : i = xT σ + 3
        · rw [if_pos (by omega), if_pos a1, if_pos a1]
        by_cases a2 : i = xT σ + 2
        · rw [if_pos (by omega), if_neg a1, if_neg a1, if_pos a2, if_pos a2]
        by_cases a3 : i = xT σ + 1
        · rw [if_pos (by omega), if_neg a1, if_neg a1, if_neg a2, if_neg a2, if_pos a3, if_pos a3]
        by_cases a4 : i = xT σ
        · rw [if_pos (by omega), if_neg a1, if_neg a1, if_neg a2, if_neg a2, if_neg a3, if_neg a3, if_pos a4, if_pos a4]
        rw [if_neg a1, if_neg a1, if_neg a2, if_neg a2, if_neg a3, if_neg a3, if_neg a4, if_neg a4]
        by_cases a5 : i < xT σ
        · rw [if_pos a5, if_pos (by omega)]
        · rw [if_neg a5, if_neg (by omega)]
      exact ⟨⟨⟨r, s, hb.gen h3 (hb.kF h3 (by decide)) ⟨ht.2, hX⟩ (hb.kP h3 (by decide) (by decide)) rfl (hb.kH h3 (by decide) (by decide) (by decide)) (hb.kS h3 (by decide) (by decide) (by decide) (by decide)) (by decide)⟩, tOK_fr h3 (by decide) (by decide) hv.t, (tR_fr h3 (by decide) (by decide)).trans hv.R⟩, h3.C (by decide)⟩
  · rw [if_neg c] at hw
    obtain ⟨rfl, rfl⟩ := hw
    refine ⟨fun _ => ⟨?_, ?_⟩, fun h => absurd rfl h⟩
    · rw [signC, ← eX, if_neg c]
    · rw [signC, ← eX, if_neg c]; exact ⟨hv, Fr.rf⟩
def cutX (X : Nat × (Nat → Int32)) (n : Nat) : Nat × (Nat → Int32) := (n, fun i => if i < n then X.2 i else -1)
theorem cX_cut {σ τ : Sto} {n : Nat} (hx : xOK σ) (hn : n ≤ xT σ) (h1 : gI τ 1 1 = nI n) (h2 : gA τ 2 = gA σ 2) : xOK τ ∧ cX τ = cutX (cX σ) n := by
  have ht := xt_of h1 (by have := hx.2; omega)
  refine ⟨ht.2, ?_⟩
  unfold cX cutX
  rw [ht.1, h2]
  refine Prod.ext rfl ?_
  funext i
  by_cases c : i < n
  · simp only [if_pos c]; rw [if_pos (by omega)]
  · simp only [if_neg c]
/-- only the text has changed -/
theorem cv_text {σ τ : Sto} {A : AS} {r s : Nat} (hb : CB σ A r s) (ht : tOK σ) (e : tR σ = A.R) {X : Nat × (Nat → Int32)} (h : Fr [1, 2] σ τ) (hX : xOK τ ∧ cX τ = X) : CV τ (A.wX X) ∧ Fr lC σ τ :=
  ⟨⟨⟨r, s, hb.gen h (hb.kF h (by decide)) hX (hb.kP h (by decide) (by decide)) rfl (hb.kH h (by decide) (by decide) (by decide)) (hb.kS h (by decide) (by decide) (by decide) (by decide)) (by decide)⟩, tOK_fr h (by decide) (by decide) ht, (tR_fr h (by decide) (by decide)).trans e⟩, h.C (by decide)⟩
def endC (A : AS) (x : Int32) : Bool × AS := if inS (A.X.1 + 1) x then (true, A.wX (cutX A.X x.toNatClampNeg)) else (false, A)
theorem in_succ {n : Nat} {x : Int32} (hn : n ≤ 1000) : (!decide (x < 0) && decide (x ≤ nI n)) = inS (n + 1) x := by
  unfold inS
  rw [Bool.eq_iff_iff]
  simp only [Bool.and_eq_true, Bool.not_eq_true', decide_eq_false_iff_not, decide_eq_true_eq, Int32.lt_iff_toInt_lt, Int32.le_iff_toInt_le]
  rw [nI_toInt (by omega)]
  constructor
  · rintro ⟨a, b⟩; exact ⟨by simp at a; omega, by omega⟩
  · rintro ⟨a, b⟩; exact ⟨by simp; omega, by omega⟩
theorem cc_end (k : Nat) (A : AS) (x : Int32) : CC (k + 1) M_X11_end [.int x] A (.int (bI (endC A x).1)) (endC A x).2 := by
  intro σ hv
  obtain ⟨r, s, hb⟩ := hv.b
  have eX : xT σ = A.X.1 := by rw [← hb.X]; rfl
  refine EvM.of mk_X11_end (Nat.le_of_ble_eq_true rfl) ?_
  refine wpW K_X11_end [] 20 ?_
  refine ⟨_, ev_cuts _ σ x, ?_⟩
  rintro w τ ⟨rfl, hτ⟩
  rw [hb.x.1, in_succ (by have := hb.x.2; omega), eX] at hτ ⊢
  unfold endC
  by_cases c : inS (A.X.1 + 1) x = true
  · rw [if_pos c] at hτ ⊢
    obtain ⟨c1, c2⟩ := inS_80 (by have := hb.x.2; omega) c
    rw [c]
    subst hτ
    refine ⟨bI_or _, rfl, cv_text hb hv.t hv.R (Fr.sI Fr.rf (List.mem_cons_self)) ?_⟩
    rw [← hb.X]
    refine cX_cut hb.x (by omega) ?_ rfl
    rw [gI_sI, if_pos ⟨rfl, rfl⟩]; exact c2
  · rw [if_neg c] at hτ ⊢
    simp only [Bool.not_eq_true] at c
    rw [c]
    subst hτ
    exact ⟨bI_or _, rfl, hv, Fr.rf⟩
