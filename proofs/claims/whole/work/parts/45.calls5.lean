/-! the class's calls: later, home, peace, poor, silences -/
theorem ev_has5 (k : Nat) (σ : Sto) {A : AS} {r s : Nat} (hb : CB σ A r s) (x : Int32) : EvM k M_X2_has [.ref 5, .int x] σ (fun v τ => τ = σ ∧ v = some (.int (bI (inS (fN A.F) x)))) := by
  have h := ev_has k σ 5 (Or.inl rfl) hb.f x
  rw [hb.F] at h
  exact h
theorem CB.n7 {σ : Sto} {A : AS} {r s : Nat} (hb : CB σ A r s) : fN A.F ≤ 7 := hb.F ▸ hb.f.2.1
theorem CB.fs {σ : Sto} {A : AS} {r s : Nat} (hb : CB σ A r s) : fsOK A.F := hb.F ▸ hb.f.2
theorem CB.sz {σ : Sto} {A : AS} {r s : Nat} (hb : CB σ A r s) : gI σ 5 5 = nI (fN A.F) := hb.F ▸ hb.f.1
/-- the trial is F -/
def TI (σ τ : Sto) (F : FS) : Prop := Fr lS σ τ ∧ cOK τ 11 ∧ cF τ 11 = F
theorem ev_takes5 (k : Nat) {σ0 σ : Sto} {A : AS} {r s : Nat} (hb : CB σ0 A r s) (h : Fr lS σ0 σ) : EvM (k + 1) M_X2_takes [.ref 11, .ref 5] σ (fun v τ => v = none ∧ TI σ0 τ A.F ∧ Fr [11, 12, 13, 14, 15, 16] σ τ) := by
  have hb' := hb.sS h
  refine (ev_takes k σ hb'.f).post ?_
  rintro v τ ⟨rfl, c, o, f⟩
  exact ⟨rfl, ⟨h.tr (f.up _ (by decide)), o, c.trans hb'.F⟩, f⟩
theorem ev_passDays11 (k : Nat) {σ0 σ : Sto} {A : AS} {r s : Nat} {G : FS} (hb : CB σ0 A r s) (h : TI σ0 σ G) (d : Nat) (hd : d ≤ 1024) (sil : Int32) : EvM (k + 5) M_X2_passDays [.ref 11, .ref r, .int (nI d), .int sil] σ (fun v τ => v = none ∧ TI σ0 τ (daysS A.ev sil (fN G) G d) ∧ fN (daysS A.ev sil (fN G) G d) = fN G ∧ Fr [11, 14, 15, 16, 48, 51] σ τ) := by
  have hb' := hb.sS h.1
  refine (ev_passDays k σ r 11 hb.r (Or.inr rfl) h.2.1 A.ev hb'.rc d hd sil).post ?_
  rintro v τ ⟨rfl, c, o, n, f⟩
  have f := lD11 hb.r f
  rw [h.2.2] at c n
  exact ⟨rfl, ⟨h.1.tr (f.up _ (by decide)), o, c⟩, n, f⟩
theorem ev_passDay11 (k : Nat) {σ0 σ : Sto} {A : AS} {r s : Nat} {G : FS} (hb : CB σ0 A r s) (h : TI σ0 σ G) (sil : Int32) : EvM (k + 4) M_X2_passDay [.ref 11, .ref r, .int sil] σ (fun v τ => v = none ∧ TI σ0 τ (dayS A.ev sil (fN G) G) ∧ fN (dayS A.ev sil (fN G) G) = fN G ∧ Fr [11, 14, 15, 16, 48, 51] σ τ) := by
  have hb' := hb.sS h.1
  refine (ev_passDay k σ r 11 hb.r (Or.inr rfl) h.2.1 A.ev hb'.rc sil).post ?_
  rintro v τ ⟨rfl, c, o, n, f⟩
  have f := lD11 hb.r f
  rw [h.2.2] at c n
  exact ⟨rfl, ⟨h.1.tr (f.up _ (by decide)), o, c⟩, n, f⟩
theorem ev_homes11 (k : Nat) {σ0 σ : Sto} {G : FS} (h : TI σ0 σ G) : EvM k M_X2_homes [.ref 11] σ (fun v τ => τ = σ ∧ v = some (.int (homesS G))) := by
  have := ev_homes k σ 11 (Or.inr rfl) h.2.1
  rw [h.2.2] at this
  exact this
theorem ev_purses11 (k : Nat) {σ0 σ : Sto} {G : FS} (h : TI σ0 σ G) : EvM (k + 1) M_X2_purses [.ref 11] σ (fun v τ => τ = σ ∧ v = some (.int (sumS (fN G) (fPu G)))) := by
  have := ev_purses k σ 11 (Or.inr rfl) h.2.1
  rw [h.2.2] at this
  exact this
theorem TI.rd {σ0 σ : Sto} {G : FS} (h : TI σ0 σ G) : (∀ i, i < 7 → gA σ 12 (nI i).toNatClampNeg = fPl G i) ∧ (∀ i, i < 7 → gA σ 14 (nI i).toNatClampNeg = fPu G i) ∧ (∀ i, i < 7 → gA σ 15 (nI i).toNatClampNeg = fHo G i) ∧ (∀ i, i < 7 → gA σ 16 (nI i).toNatClampNeg = fAg G i) := by
  obtain ⟨a, b, c, d, e, -⟩ := cF_rd σ 11
  rw [h.2.2] at a b c d e
  exact ⟨a, c, d, e⟩
theorem TI.told {σ0 σ τ : Sto} {G : FS} (h : TI σ0 σ G) (f : Fr [3, 4] σ τ) : TI σ0 τ G := by
  have f5 : ∀ j, j < 6 → 11 + j ∉ [3, 4] := by decide
  exact ⟨h.1.tr (f.up _ (by decide)), cOK_fr f f5 h.2.1, (cF_fr f f5).trans h.2.2⟩
def laterC (A : AS) (x n : Int32) : Int32 × AS := if inS (fN A.F) x && inS 100 n then
    (fHo (daysS A.ev (-1) (fN A.F) A.F n.toNatClampNeg) x.toNatClampNeg, A.wR [(fPu (daysS A.ev (-1) (fN A.F) A.F n.toNatClampNeg) x.toNatClampNeg).toInt64, (fAg (daysS A.ev (-1) (fN A.F) A.F n.toNatClampNeg) x.toNatClampNeg).toInt64]) else (-1, A)
theorem cc_later (k : Nat) (A : AS) (x n : Int32) : CC (k + 6) M_X11_later [.int x, .int n] A (.int (laterC A x n).1) (laterC A x n).2 := by
  intro σ hv
  obtain ⟨r, s, hb⟩ := hv.b
  have hno : ¬ (inS (fN A.F) x = true ∧ inS 100 n = true) → some (Value.int (-1)) = some (Value.int (laterC A x n).1) ∧ CV σ (laterC A x n).2 ∧ Fr lC σ σ := by
    intro c
    unfold laterC
    rw [if_neg (by rw [Bool.and_eq_true]; exact c)]
    exact ⟨rfl, hv, Fr.rf⟩
  refine EvM.of mk_X11_later (Nat.le_of_ble_eq_true rfl) ?_
  refine wpW K_X11_later [] 60 ?_
  refine ⟨_, ev_has5 _ σ hb x, ?_⟩
  rintro w τ ⟨h9, rfl⟩
  obtain rfl := h9.symm
  refine ⟨fun h => hno (fun q => ?_), fun h0 => ⟨fun h => hno (fun q => ?_), fun h1 => ⟨fun h2 => ?_, fun h => hno (fun q => ?_)⟩⟩⟩
  · rw [q.1] at h; exact absurd h (by decide)
  · exact ((cnd (n := 99) (by omega)).mp q.2).1 h
  rotate_left
  · exact h (by have := ((cnd (n := 99) (by omega)).mp q.2).2; rw [Int32.lt_iff_toInt_lt] at this; rw [Int32.le_iff_toInt_le]; exact Int.not_lt.mp this)
  have h0' := (bI_ne _).mp h0
  have hin : inS 100 n = true := (cnd (n := 99) (by omega)).mpr ⟨h1, by rw [Int32.lt_iff_toInt_lt]; rw [Int32.le_iff_toInt_le] at h2; exact Int.not_lt.mpr h2⟩
  unfold laterC
  rw [if_pos (by rw [Bool.and_eq_true]; exact ⟨h0', hin⟩)]
  obtain ⟨d1, d2⟩ := inS_80 (by omega) hin
  obtain ⟨e1, e2⟩ := in_of hb.n7 h0'
  generalize n.toNatClampNeg = d at d1 d2
  generalize x.toNatClampNeg = q at e1 e2
  subst d2 e2
  have h7 := hb.n7
  refine ⟨_, ev_takes5 _ hb Fr.rf, ?_⟩
  rintro w σ1 ⟨rfl, t1, -⟩
  refine ⟨r, (hb.sS t1.1).r1, _, ev_passDays11 _ hb t1 d (by omega) _, ?_⟩
  rintro w σ2 ⟨rfl, t2, -, -⟩
  obtain ⟨-, rPu, rHo, rAg⟩ := t2.rd
  refine ⟨in7 (by omega), in7 (by omega), _, ev_rtell2 _ _ _ _, ?_⟩
  rintro w σ3 ⟨rfl, e3, k3, f3⟩
  have t3 := t2.told f3
  obtain ⟨-, -, rHo3, -⟩ := t3.rd
  refine ⟨in7 (by omega), ?_, cv_end hb t3.1 k3 ?_⟩
  · rw [rHo3 q (by omega)]
  · rw [e3, rPu q (by omega), rAg q (by omega)]
def untilS (P : FS → Bool) (st : FS → FS) : Nat → Nat → FS → Option (Nat × FS)
  | 0, _, _ => none
  | c + 1, d, G => if P G then some (d, G) else untilS P st c (d + 1) (st G)
theorem ev_until (k : Nat) (σ : Sto) {A : AS} {r s : Nat} (hb : CB σ A r s) (b : Int32) : EvM (k + 5) M_X11_daysUntilHome [.ref 0, .int b] σ (fun v τ => match untilS (fun G => decide (homesS G &&& b = b)) (dayS A.ev (-1) (fN A.F)) 100 0 A.F with
    | some (d, G) => v = some (.int (nI d)) ∧ d < 100 ∧ TI σ τ G ∧ fN G = fN A.F ∧ tR τ = tR σ ∧ (tOK σ → tOK τ)
    | none => v = some (.int (-1)) ∧ Fr [11, 12, 13, 14, 15, 16, 48, 51] σ τ) := by
  generalize hT : untilS (fun G => decide (homesS G &&& b = b)) (dayS A.ev (-1) (fN A.F)) 100 0 A.F = T
  refine EvM.of mk_X11_daysUntilHome (Nat.le_of_ble_eq_true rfl) ?_
  refine wpW K_X11_daysUntilHome [13] 60 ?_
  refine ⟨_, ev_takes5 _ hb Fr.rf, ?_⟩
  rintro w σ1 ⟨rfl, t1, f1⟩
  refine loopI (α := Sto × FS) 13 (fun i a => [some (.ref 0), some (.int b), some (.int (nI i))]) (fun a => a.1) (fun i a => TI σ a.1 a.2 ∧ fN a.2 = fN A.F ∧ Fr [11, 12, 13, 14, 15, 16, 48, 51] σ a.1 ∧ T = untilS (fun G => decide (homesS G &&& b = b)) (dayS A.ev (-1) (fN A.F)) (100 - i) i a.2) 100 ?_ ?_ 0 (σ1, A.F) (Nat.zero_le _) ⟨t1, rfl, f1.up _ (by decide), hT.symm⟩
  · rintro i ⟨τ, G⟩ hi ⟨t, hn, ff, hu⟩ go
    simp only at t hn ff hu ⊢
    refine wpW K_X11_daysUntilHome [13] 60 ?_
    refine ⟨fun h => ?_, fun _ => ⟨_, ev_homes11 _ t, ?_⟩⟩
    · rw [show (99 : Int32) = nI 99 from rfl, lt_of_nI (by omega) (by omega)] at h; omega
    rintro w τ' ⟨h9, rfl⟩
    obtain rfl := h9.symm
    rw [show 100 - i = (100 - (i + 1)) + 1 by omega, untilS] at hu
    refine ⟨fun h => ?_, fun h => ?_⟩
    · rw [if_neg (by simp only [decide_eq_true_eq]; exact h)] at hu
      refine ⟨r, (hb.sS t.1).r1, _, ev_passDay11 _ hb t _, ?_⟩
      rintro w τ' ⟨rfl, t', n', f'⟩
      rw [hn] at t' n'
      exact go (τ', dayS A.ev (-1) (fN A.F) G) _ _ (by rw [← nI_1 i]; rfl) rfl ⟨t', n', ff.tr (f'.up _ (by decide)), hu⟩
    · rw [if_pos (by simp only [decide_eq_true_eq]; exact h)] at hu
      rw [hu]
      exact ⟨rfl, hi, t, hn, tR_fr ff (by decide) (by decide), tOK_fr ff (by decide) (by decide)⟩
  · rintro ⟨τ, G⟩ ⟨t, hn, ff, hu⟩
    simp only at t hn ff hu ⊢
    refine wpW K_X11_daysUntilHome [13] 60 ?_
    refine ⟨fun h => ?_, fun h => ?_⟩
    · rw [hu]; exact ⟨rfl, ff⟩
    · exact absurd (show (99 : Int32) < nI 100 by decide) h
def homeC (A : AS) (x : Int32) : Int32 × AS := if inS (fN A.F) x then (match untilS (fun G => decide (homesS G &&& bt x.toNatClampNeg = bt x.toNatClampNeg)) (dayS A.ev (-1) (fN A.F)) 100 0 A.F with
    | some (d, G) => (nI d, A.wR [(bcS (homesS G)).toInt64])
    | none => (-2, A)) else (-1, A)
theorem ev_bcN (k : Nat) (σ : Sto) (x : Int32) : EvM k M_J6_bitCount_0f7a4 [.int x] σ (fun v τ => τ = σ ∧ v = some (.int (bcS x))) := ev_bc k σ x
theorem ge0_nI {n : Nat} (h : n ≤ 1024) : ¬ nI n < 0 := by rw [show (0 : Int32) = nI 0 from rfl, lt_of_nI h (by omega)]; omega
theorem cc_home (k : Nat) (A : AS) (x : Int32) : CC (k + 6) M_X11_home [.int x] A (.int (homeC A x).1) (homeC A x).2 := by
  intro σ hv
  obtain ⟨r, s, hb⟩ := hv.b
  refine EvM.of mk_X11_home (Nat.le_of_ble_eq_true rfl) ?_
  refine wpW K_X11_home [] 60 ?_
  refine ⟨_, ev_has5 _ σ hb x, ?_⟩
  rintro w τ ⟨h9, rfl⟩
  obtain rfl := h9.symm
  unfold homeC
  refine ⟨fun h0 => ?_, fun h0 => ?_⟩
  · have h0' := (bI_ne _).mp h0
    rw [if_pos h0']
    obtain ⟨e1, e2⟩ := in_of hb.n7 h0'
    generalize x.toNatClampNeg = q at e1 e2
    subst e2
    refine ⟨_, ev_until _ σ hb (bt q), ?_⟩
    intro v τ hτ
    generalize untilS (fun G => decide (homesS G &&& bt q = bt q)) (dayS A.ev (-1) (fN A.F)) 100 0 A.F = T at hτ ⊢
    match T, hτ with
    | some (d, G), hτ =>
      obtain ⟨rfl, hd, t, -, -, -⟩ := hτ
      refine ⟨fun _ => ⟨_, ev_homes11 _ t, ?_⟩, fun h => absurd (nn_nI (by omega)) h⟩
      rintro w τ' ⟨h9, rfl⟩
      obtain rfl := h9.symm
      refine ⟨_, ev_bc _ _ _, ?_⟩
      rintro w τ' ⟨h9, rfl⟩
      obtain rfl := h9.symm
      refine ⟨_, ev_rtell _ _ _, ?_⟩
      rintro w σ3 ⟨rfl, e3, k3, f3⟩
      exact ⟨rfl, cv_end hb (t.told f3).1 k3 e3⟩
    | none, hτ =>
      obtain ⟨rfl, ff⟩ := hτ
      exact ⟨fun h => absurd h (by decide), fun _ => ⟨rfl, cv_same hb hv.t hv.R ff (by decide) rfl rfl⟩⟩
  · have h0' : ¬ inS (fN A.F) x = true := fun q => by rw [q] at h0; exact absurd h0 (by decide)
    rw [if_neg h0']
    exact ⟨rfl, hv, Fr.rf⟩
def peaceC (A : AS) : Int32 × AS := match untilS (fun G => decide (homesS G &&& allS (fN A.F) = allS (fN A.F))) (dayS A.ev (-1) (fN A.F)) 100 0 A.F with
    | some (d, G) => (nI d, A.wR [(sumS (fN A.F) (fPu G)).toInt64])
    | none => (-2, A)
theorem cc_peace (k : Nat) (A : AS) : CC (k + 6) M_X11_peace [] A (.int (peaceC A).1) (peaceC A).2 := by
  intro σ hv
  obtain ⟨r, s, hb⟩ := hv.b
  refine EvM.of mk_X11_peace (Nat.le_of_ble_eq_true rfl) ?_
  refine wpW K_X11_peace [] 60 ?_
  refine ⟨_, ev_until _ σ hb ((1 : Int32) <<< (gI σ 5 5 &&& 31) - 1), ?_⟩
  intro v τ hτ
  rw [hb.sz, show (1 : Int32) <<< (nI (fN A.F) &&& 31) - 1 = allS (fN A.F) from rfl] at hτ
  unfold peaceC
  generalize untilS (fun G => decide (homesS G &&& allS (fN A.F) = allS (fN A.F))) (dayS A.ev (-1) (fN A.F)) 100 0 A.F = T at hτ ⊢
  match T, hτ with
  | some (d, G), hτ =>
    obtain ⟨rfl, hd, t, n, -, -⟩ := hτ
    refine ⟨fun _ => ⟨_, ev_purses11 _ t, ?_⟩, fun h => absurd (nn_nI (by omega)) h⟩
    rintro w τ' ⟨h9, rfl⟩
    obtain rfl := h9.symm
    refine ⟨_, ev_rtell _ _ _, ?_⟩
    rintro w σ3 ⟨rfl, e3, k3, f3⟩
    rw [n] at e3
    exact ⟨rfl, cv_end hb (t.told f3).1 k3 e3⟩
  | none, hτ =>
    obtain ⟨rfl, ff⟩ := hτ
    exact ⟨fun h => absurd h (by decide), fun _ => ⟨rfl, cv_same hb hv.t hv.R ff (by decide) rfl rfl⟩⟩
def poorC (A : AS) (x : Int32) : Int32 × AS := if inS (fN A.F) x then (match untilS (fun G => decide (fPu G x.toNatClampNeg = 0)) (dayS A.ev (-1) (fN A.F)) 100 0 A.F with
    | some (d, G) => (nI d, A.wR [(sumS (fN A.F) (fPu G)).toInt64])
    | none => (-2, A)) else (-1, A)
theorem cc_poor (k : Nat) (A : AS) (x : Int32) : CC (k + 5) M_X11_poor [.int x] A (.int (poorC A x).1) (poorC A x).2 := by
  intro σ hv
  obtain ⟨r, s, hb⟩ := hv.b
  refine EvM.of mk_X11_poor (Nat.le_of_ble_eq_true rfl) ?_
  refine wpW K_X11_poor [26] 60 ?_
  refine ⟨_, ev_has5 _ σ hb x, ?_⟩
  rintro w τ ⟨h9, rfl⟩
  obtain rfl := h9.symm
  unfold poorC
  refine ⟨fun h0 => ?_, fun h0 => ?_⟩
  · have h0' := (bI_ne _).mp h0
    rw [if_pos h0']
    obtain ⟨e1, e2⟩ := in_of hb.n7 h0'
    generalize x.toNatClampNeg = q at e1 e2
    subst e2
    have h7 := hb.n7
    refine ⟨_, ev_takes5 _ hb Fr.rf, ?_⟩
    rintro w σ1 ⟨rfl, t1, f1⟩
    generalize hT : untilS (fun G => decide (fPu G q = 0)) (dayS A.ev (-1) (fN A.F)) 100 0 A.F = T
    refine loopI (α := Sto × FS) 26 (fun i a => [some (.ref 0), some (.int (nI q)), some (.int (nI i))]) (fun a => a.1) (fun i a => TI σ a.1 a.2 ∧ fN a.2 = fN A.F ∧ Fr [11, 12, 13, 14, 15, 16, 48, 51] σ a.1 ∧ T = untilS (fun G => decide (fPu G q = 0)) (dayS A.ev (-1) (fN A.F)) (100 - i) i a.2) 100 ?_ ?_ 0 (σ1, A.F) (Nat.zero_le _) ⟨t1, rfl, f1.up _ (by decide), hT.symm⟩
    · rintro i ⟨τ, G⟩ hi ⟨t, hn, ff, hu⟩ go
      simp only at t hn ff hu ⊢
      refine wpW K_X11_poor [26] 60 ?_
      refine ⟨fun h => ?_, fun _ => ⟨in7 (by omega), ?_⟩⟩
      · rw [show (99 : Int32) = nI 99 from rfl, lt_of_nI (by omega) (by omega)] at h; omega
      rw [show 100 - i = (100 - (i + 1)) + 1 by omega, untilS] at hu
      obtain ⟨-, rPu, -, -⟩ := t.rd
      refine ⟨fun h => ?_, fun h => ?_⟩
      · rw [rPu q (by omega)] at h
        rw [if_neg (by simp only [decide_eq_true_eq]; exact h)] at hu
        refine ⟨r, (hb.sS t.1).r1, _, ev_passDay11 _ hb t _, ?_⟩
        rintro w τ' ⟨rfl, t', n', f'⟩
        rw [hn] at t' n'
        exact go (τ', dayS A.ev (-1) (fN A.F) G) _ _ (by rw [← nI_1 i]; rfl) rfl ⟨t', n', ff.tr (f'.up _ (by decide)), hu⟩
      · rw [rPu q (by omega)] at h
        rw [if_pos (by simp only [decide_eq_true_eq]; exact h)] at hu
        rw [hu]
        refine ⟨_, ev_purses11 _ t, ?_⟩
        rintro w τ' ⟨h9, rfl⟩
        obtain rfl := h9.symm
        refine ⟨_, ev_rtell _ _ _, ?_⟩
        rintro w σ3 ⟨rfl, e3, k3, f3⟩
        rw [hn] at e3
        exact ⟨rfl, cv_end hb (t.told f3).1 k3 e3⟩
    · rintro ⟨τ, G⟩ ⟨t, hn, ff, hu⟩
      simp only at t hn ff hu ⊢
      refine wpW K_X11_poor [26] 60 ?_
      refine ⟨fun h => ?_, fun h => ?_⟩
      · rw [hu]; exact ⟨rfl, cv_same hb hv.t hv.R ff (by decide) rfl rfl⟩
      · exact absurd (show (99 : Int32) < nI 100 by decide) h
  · have h0' : ¬ inS (fN A.F) x = true := fun q => by rw [q] at h0; exact absurd h0 (by decide)
    rw [if_neg h0']
    exact ⟨rfl, hv, Fr.rf⟩
