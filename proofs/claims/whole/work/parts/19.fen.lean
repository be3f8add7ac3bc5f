/-! many days; a trial; rings; writing and reading back -/
def daysS (ev : (Nat → Int32) → Int32) (sil : Int32) (n : Nat) (F : FS) (d : Nat) : FS := fo (fun _ G => dayS ev sil n G) F d
theorem fi_lift {l : List Nat} {σ τ υ : Sto} {f n m : Nat} {F G : FS} (h : FI l σ τ f n F) (h2 : FI l τ υ f m G) (e : m = n) : FI l σ υ f n G := ⟨h2.1, h2.2.1, by rw [← e]; exact h2.2.2.1, h.2.2.2.tr h2.2.2.2⟩
theorem ev_passDays (k : Nat) (σ : Sto) (r f : Nat) (hr : r = 46 ∨ r = 49) (hf : f = 5 ∨ f = 11) (hc : cOK σ f) (ev : (Nat → Int32) → Int32) (hR : RC σ r ev) (d : Nat) (hd : d ≤ 1024) (sil : Int32) :
    EvM (k + 5) M_X2_passDays [.ref f, .ref r, .int (nI d), .int sil] σ (fun v τ => v = none ∧ FI (lD r f) σ τ f (fN (cF σ f)) (daysS ev sil (fN (cF σ f)) (cF σ f) d)) := by
  have hday : ∀ τ G, FI (lD r f) σ τ f (fN (cF σ f)) G → EvM (k + 4) M_X2_passDay [.ref f, .ref r, .int sil] τ (fun v υ => v = none ∧ FI (lD r f) σ υ f (fN (cF σ f)) (dayS ev sil (fN (cF σ f)) G)) := by
    intro τ G h
    refine EvM.post (ev_passDay k τ r f hr hf h.2.1 ev (RC_fr h.2.2.2 (lD_r hr hf).1 (lD_r hr hf).2 hR) sil) ?_
    rintro v υ ⟨h1, h2⟩
    rw [h.1, h.2.2.1] at h2
    exact ⟨h1, fi_lift h h2 rfl⟩
  have h0 : FI (lD r f) σ σ f (fN (cF σ f)) (cF σ f) := ⟨rfl, hc, rfl, Fr.rf⟩
  generalize hF : cF σ f = F at *
  generalize hn : fN F = n at *
  refine EvM.of mk_X2_passDays (Nat.le_of_ble_eq_true rfl) ?_
  have L : WW M_X2_passDays (k + 5) (fun v τ => v = none ∧ FI (lD r f) σ τ f n (daysS ev sil n F d)) 3 [some (.ref f), some (.ref r), some (.int (nI d)), some (.int sil), some (.int (nI 0))] [] σ := by
    refine loopI (α := Sto) 3 (fun i a => [some (.ref f), some (.ref r), some (.int (nI d)), some (.int sil), some (.int (nI i))]) (fun a => a) (fun i a => FI (lD r f) σ a f n (daysS ev sil n F i)) d ?_ ?_ 0 σ (Nat.zero_le _) h0
    · intro i υ hi hfi go
      have hdd := hday υ _ hfi
      rcases hf with rfl | rfl
      all_goals
        refine wpW K_X2_passDays [3] 40 ?_
        refine ⟨fun h => ?_, fun h => ⟨_, hdd, ?_⟩⟩
        · rw [le_of_nI (by omega) (by omega)] at h; omega
        · rintro v ω ⟨rfl, h2⟩
          exact go ω _ _ (by rw [← nI_1]; rfl) rfl h2
    · intro υ hfi
      rcases hf with rfl | rfl
      all_goals
        refine wpW K_X2_passDays [3] 40 ?_
        refine ⟨fun h => ⟨rfl, hfi⟩, fun h => ?_⟩
        rw [le_of_nI (by omega) (by omega)] at h; omega
  rcases hf with rfl | rfl
  all_goals exact wpW K_X2_passDays [3] 10 L
theorem cpy7 (f g : Nat → Int32) : r7 (va_cpy f g (0 : Int32).toNatClampNeg (0 : Int32).toNatClampNeg (7 : Int32).toNatClampNeg) = r7 f := by
  funext i
  unfold r7
  by_cases h : i < 7
  · rw [if_pos h, if_pos h]
    show va_cpy f g 0 0 7 i = f i
    rw [pk_cpy_in (by omega) (by omega)]
    congr 1
    omega
  · rw [if_neg h, if_neg h]
theorem ev_takes (k : Nat) (σ : Sto) (hc : cOK σ 5) : EvM (k + 1) M_X2_takes [.ref 11, .ref 5] σ (fun v τ => v = none ∧ cF τ 11 = cF σ 5 ∧ cOK τ 11 ∧ Fr [11, 12, 13, 14, 15, 16] σ τ) := by
  refine EvM.of mk_X2_takes (Nat.le_of_ble_eq_true rfl) ?_
  refine wpW K_X2_takes [] 100 ?_
  refine ⟨by decide, by decide, by decide, by decide, by decide, ?_⟩
  have hfr : ∀ (a b c d e : Nat → Int32) (x y z : Int32), Fr [11, 12, 13, 14, 15, 16] σ (sI (sI (sI (sA (sA (sA (sA (sA σ (11 + 1) a) (11 + 2) b) (11 + 3) c) (11 + 4) d) (11 + 5) e) 11 5 x) 11 6 y) 11 7 z) := by
    intro a b c d e x y z
    exact (((((((Fr.rf.sA (by simp)).sA (by simp)).sA (by simp)).sA (by simp)).sA (by simp)).sI (by simp)).sI (by simp)).sI (by simp)
  have hcf : ∀ (a b c d e : Nat → Int32) (x y z : Int32), cF (sI (sI (sI (sA (sA (sA (sA (sA σ (11 + 1) a) (11 + 2) b) (11 + 3) c) (11 + 4) d) (11 + 5) e) 11 5 x) 11 6 y) 11 7 z) 11 = mkF x.toNatClampNeg (r7 a) (r7 b) (r7 c) (r7 d) (r7 e) y z := by
    intro a b c d e x y z
    rw [cF_Sd, cF_Dy, cF_N, cF_Ag, cF_Ho, cF_Pu, cF_Vo, cF_Pl]
    rfl
  have key : cF (sI (sI (sI (sA (sA (sA (sA (sA σ (11 + 1) (va_cpy (gA σ (5 + 1)) (gA σ (11 + 1)) (0 : Int32).toNatClampNeg (0 : Int32).toNatClampNeg (7 : Int32).toNatClampNeg)) (11 + 2) (va_cpy (gA σ (5 + 2)) (gA σ (11 + 2)) (0 : Int32).toNatClampNeg (0 : Int32).toNatClampNeg (7 : Int32).toNatClampNeg)) (11 + 3) (va_cpy (gA σ (5 + 3)) (gA σ (11 + 3)) (0 : Int32).toNatClampNeg (0 : Int32).toNatClampNeg (7 : Int32).toNatClampNeg)) (11 + 4) (va_cpy (gA σ (5 + 4)) (gA σ (11 + 4)) (0 : Int32).toNatClampNeg (0 : Int32).toNatClampNeg (7 : Int32).toNatClampNeg)) (11 + 5) (va_cpy (gA σ (5 + 5)) (gA σ (11 + 5)) (0 : Int32).toNatClampNeg (0 : Int32).toNatClampNeg (7 : Int32).toNatClampNeg)) 11 5 (gI σ 5 5)) 11 6 (gI σ 5 6)) 11 7 (gI σ 5 7)) 11 = cF σ 5 := by
    rw [hcf, cpy7, cpy7, cpy7, cpy7, cpy7]
    rfl
  have hok : ∀ τ, cF τ 11 = cF σ 5 → gI τ 11 5 = gI σ 5 5 → cOK τ 11 := fun τ h1 h2 => ⟨by rw [h1, h2]; exact hc.1, by rw [h1]; exact hc.2⟩
  exact ⟨rfl, key, hok _ key rfl, hfr _ _ _ _ _ _ _ _⟩
def rgS (F : FS) (q : Nat) : Nat → Int32 → Nat → Int32
  | 0, _, _ => 0
  | m + 1, b, a => if hoN F a = q then b ||| bt a else rgS F q m (b ||| bt a) (hoN F a)
def ringS (F : FS) (q : Nat) : Int32 := rgS F q (fN F) 0 q
theorem ev_ring (k : Nat) (σ : Sto) (f : Nat) (hf : f = 5 ∨ f = 11) (hc : cOK σ f) (q : Nat) (hq : q < fN (cF σ f)) : EvM k M_X2_ring [.ref f, .int (nI q)] σ (fun v τ => τ = σ ∧ v = some (.int (ringS (cF σ f) q))) := by
  obtain ⟨hn, hF⟩ := hc
  obtain ⟨-, -, -, rHo, -⟩ := cF_rd σ f
  have h7 := hF.1
  generalize cF σ f = F at *
  refine EvM.of mk_X2_ring (Nat.le_of_ble_eq_true rfl) ?_
  rcases hf with rfl | rfl
  all_goals
    refine wpW K_X2_ring [7] 20 ?_
    refine loopI (α := Int32 × Nat) 7 (fun i a => [some (.ref _), some (.int (nI q)), some (.int a.1), some (.int (nI a.2)), some (.int (nI i))]) (fun _ => σ) (fun i a => a.2 < fN F ∧ rgS F q (fN F - i) a.1 a.2 = ringS F q) (fN F) ?_ ?_ 0 (0, q) (Nat.zero_le _) ⟨hq, rfl⟩
    · rintro i ⟨b, a⟩ hi ⟨ha, hI⟩ go
      simp only at ha hI
      obtain ⟨ho1, ho2⟩ := fs_ho hF ha
      have e4 := rHo a (by omega)
      rw [ho2] at e4
      obtain ⟨m, hm⟩ : ∃ m, fN F - i = m + 1 := ⟨fN F - i - 1, by omega⟩
      have hm2 : fN F - (i + 1) = m := by omega
      rw [hm, rgS] at hI
      refine wpW K_X2_ring [7, 29] 40 ?_
      refine ⟨fun h => ?_, fun h => ⟨in7 (by omega), ?_⟩⟩
      · rw [hn, le_of_nI (by omega) (by omega)] at h; omega
      · rw [e4]
        refine wpW K_X2_ring [7] 40 ?_
        refine ⟨fun h => ?_, fun h => ?_⟩
        · rw [eq_of_nI (by omega) (by omega)] at h
          refine go (b ||| bt a, hoN F a) _ _ (by rw [← nI_1]; rfl) rfl ⟨ho1, ?_⟩
          rw [if_neg h] at hI
          rw [hm2]; exact hI
        · rw [eq_of_nI (by omega) (by omega)] at h
          rw [if_pos h] at hI
          exact ⟨rfl, by rw [← hI]; rfl⟩
    · rintro ⟨b, a⟩ ⟨ha, hI⟩
      simp only at ha hI
      refine wpW K_X2_ring [7] 40 ?_
      refine ⟨fun h => ?_, fun h => ?_⟩
      · rw [Nat.sub_self] at hI
        exact ⟨rfl, by rw [← hI]; rfl⟩
      · rw [hn, le_of_nI (by omega) (by omega)] at h; omega
def wrF (F : FS) (a : Nat) (g : Nat → Int32) : Nat → Int32 := fun j => if j = a + 29 then fSd F else if j = a + 28 then fDy F else if a + 21 ≤ j ∧ j < a + 28 then fAg F (j - (a + 21)) else if a + 14 ≤ j ∧ j < a + 21 then fHo F (j - (a + 14)) else if a + 7 ≤ j ∧ j < a + 14 then fPu F (j - (a + 7)) else if a ≤ j ∧ j < a + 7 then fPl F (j - a) else g j
theorem ev_writes (k : Nat) (σ : Sto) (a : Nat) (ha : a ≤ 420) : EvM (k + 1) M_X2_writes [.ref 5, .ref 19, .int (nI a)] σ (fun v τ => v = none ∧ τ = sA σ 19 (wrF (cF σ 5) a (gA σ 19))) := by
  refine EvM.of mk_X2_writes (Nat.le_of_ble_eq_true rfl) ?_
  have e7 : nI a + 7 = nI (a + 7) := nI_add a 7
  have e14 : nI a + 14 = nI (a + 14) := nI_add a 14
  have e21 : nI a + 21 = nI (a + 21) := nI_add a 21
  have e28 : nI a + 28 = nI (a + 28) := nI_add a 28
  have e29 : nI (a + 28) + 1 = nI (a + 29) := nI_1 (a + 28)
  have c0 : (nI a).toNatClampNeg = a := nI_clamp (by omega)
  have c7 : (nI (a + 7)).toNatClampNeg = a + 7 := nI_clamp (by omega)
  have c14 : (nI (a + 14)).toNatClampNeg = a + 14 := nI_clamp (by omega)
  have c21 : (nI (a + 21)).toNatClampNeg = a + 21 := nI_clamp (by omega)
  have c28 : (nI (a + 28)).toNatClampNeg = a + 28 := nI_clamp (by omega)
  have c29 : (nI (a + 29)).toNatClampNeg = a + 29 := nI_clamp (by omega)
  have z0 : (0 : Int32).toNatClampNeg = 0 := by decide
  have z7 : (7 : Int32).toNatClampNeg = 7 := by decide
  refine wpW K_X2_writes [] 100 ?_
  refine ⟨fun h => absurd h (nI_pos (by omega)), fun _ => ⟨fun _ => ?_, fun h => ?_⟩⟩
  · refine ⟨⟨by decide, nI_pos (by omega), by decide, by decide, by rw [c0, z7]; omega⟩, ⟨by decide, by rw [e7]; exact nI_pos (by omega), by decide, by decide, by rw [e7, c7, z7]; omega⟩, ⟨by decide, by rw [e14]; exact nI_pos (by omega), by decide, by decide, by rw [e14, c14, z7]; omega⟩, ⟨by decide, by rw [e21]; exact nI_pos (by omega), by decide, by decide, by rw [e21, c21, z7]; omega⟩, by rw [e28]; exact inN (by omega) (by omega), by rw [e28, e29]; exact inN (by omega) (by omega), rfl, ?_⟩
    rw [e7, e14, e21, e28, e29, c0, c7, c14, c21, c28, c29, z0, z7]
    simp only [sA_sA, gA_eq]
    congr 1
    funext j
    have q1 : gA (sA σ 19 (va_cpy (gA σ (5 + 1)) (gA σ 19) 0 a 7)) (5 + 3) = gA σ 8 := rfl
    simp only [wrF, upd, va_cpy, cF, fSd, fDy, fAg, fHo, fPu, fPl, mkF, gA_sA, gI_sA]
    simp (config := { decide := true }) only [if_false, if_true]
    unfold r7
    split
    · rfl
    split
    · rfl
    split
    · rename_i h; rw [if_pos (by omega)]; simp
    split
    · rename_i h; rw [if_pos (by omega)]; simp
    split
    · rename_i h; rw [if_pos (by omega)]; simp
    split
    · rename_i h; rw [if_pos (by omega)]; simp
    · rfl
  · exfalso
    apply h
    show nI a ≤ Int32.ofNat 450 - 30
    rw [show Int32.ofNat 450 - 30 = nI 420 from by decide, le_of_nI (by omega) (by omega)]
    exact ha
