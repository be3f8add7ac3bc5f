/-! the class's calls: criers, fits, asks, laws, tries -/
def criersC (A : AS) (x : Int32) : Int32 × AS := if inS 10 x then (bcS (crierS A.F x), A.wR [(crierS A.F x).toInt64]) else (-1, A)
theorem cnd2 {x : Int32} {n : Nat} (hn : n ≤ 1000) : inS n x = true ↔ ¬ x < 0 ∧ x < nI n := by
  unfold inS
  rw [decide_eq_true_eq, Int32.lt_iff_toInt_lt, Int32.lt_iff_toInt_lt, nI_toInt (by omega)]
  simp
theorem cc_criers (k : Nat) (A : AS) (x : Int32) : CC (k + 4) M_X11_criers [.int x] A (.int (criersC A x).1) (criersC A x).2 := by
  intro σ hv
  obtain ⟨r, s, hb⟩ := hv.b
  have hno : ¬ inS 10 x = true → some (Value.int (-1)) = some (Value.int (criersC A x).1) ∧ CV σ (criersC A x).2 ∧ Fr lC σ σ := by
    intro c
    unfold criersC
    rw [if_neg c]
    exact ⟨rfl, hv, Fr.rf⟩
  refine EvM.of mk_X11_criers (Nat.le_of_ble_eq_true rfl) ?_
  refine wpW K_X11_criers [] 60 ?_
  refine ⟨fun h => hno (fun q => ((cnd2 (n := 10) (by omega)).mp q).1 h), fun h1 => ⟨fun h2 => ?_, fun h => hno (fun q => h ((cnd2 (n := 10) (by omega)).mp q).2)⟩⟩
  unfold criersC
  rw [if_pos ((cnd2 (n := 10) (by omega)).mpr ⟨h1, h2⟩)]
  refine ⟨_, ev_fewestCriers _ σ hb.f x, ?_⟩
  rintro w σ1 ⟨rfl, f1⟩
  rw [hb.F]
  refine ⟨_, ev_rtell _ _ _, ?_⟩
  rintro w σ3 ⟨rfl, e3, k3, f3⟩
  refine ⟨_, ev_bc _ _ _, ?_⟩
  rintro w τ'' ⟨h9, rfl⟩
  obtain rfl := h9.symm
  exact ⟨rfl, cv_end hb ((f1.up _ (by decide)).tr (f3.up _ (by decide))) k3 e3⟩
theorem r2_lS {r : Nat} (hr : r = 46 ∨ r = 49) {σ τ : Sto} (h : Fr [r + 2] σ τ) : Fr [48, 51] σ τ := by
  rcases hr with rfl | rfl <;> exact h.up _ (by decide)
theorem ev_fitting5 (k : Nat) {σ0 σ : Sto} {A : AS} {r s : Nat} (hb : CB σ0 A r s) (h : Fr lS σ0 σ) : EvM (k + 5) M_X1_fitting [.ref 32, .ref 5, .ref r] σ (fun v τ => v = some (.int (fitS A.ev A.F A.H)) ∧ Fr [48, 51] σ τ) := by
  have hb' := hb.sS h
  have h1 := ev_fitting k σ r hb.r hb'.f A.ev hb'.rc hb'.h
  rw [hb'.F, hb'.H] at h1
  refine h1.post ?_
  rintro v τ ⟨rfl, f⟩
  exact ⟨rfl, r2_lS hb.r f⟩
theorem cc_fits (k : Nat) (A : AS) : CC (k + 6) M_X11_fits [] A (.int (fitS A.ev A.F A.H)) (A.wR [(bcS (fitS A.ev A.F A.H)).toInt64]) := by
  intro σ hv
  obtain ⟨r, s, hb⟩ := hv.b
  refine EvM.of mk_X11_fits (Nat.le_of_ble_eq_true rfl) ?_
  refine wpW K_X11_fits [] 60 ?_
  refine ⟨r, hb.r1, _, ev_fitting5 _ hb Fr.rf, ?_⟩
  rintro w σ1 ⟨rfl, f1⟩
  refine ⟨_, ev_bc _ _ _, ?_⟩
  rintro w τ'' ⟨h9, rfl⟩
  obtain rfl := h9.symm
  refine ⟨_, ev_rtell _ _ _, ?_⟩
  rintro w σ3 ⟨rfl, e3, k3, f3⟩
  exact ⟨rfl, cv_end hb ((f1.up _ (by decide)).tr (f3.up _ (by decide))) k3 e3⟩
def lawsC (A : AS) : Int32 × AS := (lawsN A.S, A.wR (if leastS A.S 16 0 < 0 then [] else [(leastS A.S 16 0 / 4).toInt64, (leastS A.S 16 0 - leastS A.S 16 0 / 4 * 4).toInt64, (loHi A.S (leastS A.S 16 0).toNatClampNeg).1.toInt64]))
theorem least_in (l : List W3) : ∀ m p, m + p ≤ 16 → leastS l m p = -1 ∨ ∃ q, q < 16 ∧ leastS l m p = nI q := by
  intro m
  induction m with
  | zero => intro p _; exact Or.inl rfl
  | succ m ih =>
    intro p h
    rw [leastS]
    split
    · exact ih (p + 1) (by omega)
    · exact Or.inr ⟨p, by omega, rfl⟩
theorem cc_laws (k : Nat) (A : AS) : CC (k + 2) M_X11_laws [] A (.int (lawsC A).1) (lawsC A).2 := by
  intro σ hv
  obtain ⟨r, s, hb⟩ := hv.b
  refine EvM.of mk_X11_laws (Nat.le_of_ble_eq_true rfl) ?_
  refine wpW K_X11_laws [] 60 ?_
  refine ⟨_, ev_fitLaws _ σ hb.s, ?_⟩
  rintro w σ1 ⟨rfl, g1, f1⟩
  rw [hb.S] at g1 ⊢
  refine ⟨_, ev_rclears _ _, ?_⟩
  rintro w σ2 ⟨rfl, e2, k2, f2⟩
  have g2 : ∀ p, p < 16 → gA σ2 39 p = (loHi A.S p).1 ∧ gA σ2 40 p = (loHi A.S p).2 := by
    intro p hp
    rw [f2.A (by decide), f2.A (by decide)]
    exact g1 p hp
  refine ⟨_, ev_leastPair _ σ2 A.S g2, ?_⟩
  rintro w τ'' ⟨h9, rfl⟩
  obtain rfl := h9.symm
  have ff : Fr lS σ σ2 := (f1.up _ (by decide)).tr (f2.up _ (by decide))
  unfold lawsC
  refine ⟨fun h => ?_, fun h => ⟨by decide, by decide, _, ev_rtell2 _ _ _ _, ?_⟩⟩
  · rw [if_pos h]
    exact ⟨rfl, cv_end hb ff k2 e2⟩
  · rintro w σ3 ⟨rfl, e3, k3, f3⟩
    rw [if_neg h]
    rcases least_in A.S 16 0 (by omega) with e | ⟨q, hq, e⟩
    · exact absurd (by rw [e]; decide) h
    · rw [e] at e3 ⊢
      refine ⟨inN hq (by omega), _, ev_radds _ σ3 k3 _ (by rw [e3]; simp), ?_⟩
      rintro w σ4 ⟨rfl, e4, k4, f4⟩
      refine ⟨rfl, cv_end hb (ff.tr ((f3.up _ (by decide)).tr (f4.up _ (by decide)))) k4 ?_⟩
      rw [e4, e3, nI_clamp (by omega), show gA σ3 39 q = gA σ2 39 q from congrFun (f3.A (by decide)) q, (g2 q hq).1]
      rfl
/-- the best, the fewest -/
def tryS (l : List W3) (n : Int32) (i j : Nat) (st : Int32 × Int32) : Int32 × Int32 := if st.2 ≤ maxS (hearN l (nI i) (nI j)) (n - hearN l (nI i) (nI j)) then st else (10 * nI i + nI j, maxS (hearN l (nI i) (nI j)) (n - hearN l (nI i) (nI j)))
def triesS (l : List W3) : Int32 × Int32 := fo (fun i st => fo (fun j st => tryS l (lawsN l) i j st) st 10) (0, lawsN l + 1) 10
def triesC (A : AS) : Int32 × AS := if lawsN A.S = 0 then (-2, A) else ((triesS A.S).1, A.wR [(triesS A.S).2.toInt64])
theorem cc_tries (k : Nat) (A : AS) : CC (k + 2) M_X11_tries [] A (.int (triesC A).1) (triesC A).2 := by
  intro σ hv
  obtain ⟨r, s, hb⟩ := hv.b
  refine EvM.of mk_X11_tries (Nat.le_of_ble_eq_true rfl) ?_
  refine wpW K_X11_tries [24] 60 ?_
  refine ⟨_, ev_fitLaws _ σ hb.s, ?_⟩
  rintro w σ1 ⟨rfl, g1, f1⟩
  rw [hb.S] at g1 ⊢
  unfold triesC
  refine ⟨fun h => ?_, fun h => ?_⟩
  rotate_left
  · rw [if_pos h]
    exact ⟨rfl, cv_same hb hv.t hv.R f1 (by decide) rfl rfl⟩
  rw [if_neg h]
  refine loopI (α := (Int32 × Int32) × Option Value × Option Value × Option Value) 24 (fun i a => [some (.ref 0), some (.int (lawsN A.S)), some (.int a.1.1), some (.int a.1.2), some (.int (nI i)), a.2.1, a.2.2.1, a.2.2.2]) (fun _ => σ1) (fun i a => a.1 = fo (fun i st => fo (fun j st => tryS A.S (lawsN A.S) i j st) st 10) (0, lawsN A.S + 1) i) 10 ?_ ?_ 0 ((0, lawsN A.S + 1), none, none, none) (Nat.zero_le _) rfl
  · rintro i ⟨⟨b, m⟩, o1, o2, o3⟩ hi hI go
    simp only at hI ⊢
    refine wpW K_X11_tries [34] 60 ?_
    refine ⟨fun h => ?_, fun _ => ?_⟩
    · rw [show (10 : Int32) = nI 10 from rfl, le_of_nI (by omega) (by omega)] at h; omega
    refine loopI (α := (Int32 × Int32) × Option Value × Option Value) 34 (fun j a => [some (.ref 0), some (.int (lawsN A.S)), some (.int a.1.1), some (.int a.1.2), some (.int (nI i)), some (.int (nI j)), a.2.1, a.2.2]) (fun _ => σ1) (fun j a => a.1 = fo (fun j st => tryS A.S (lawsN A.S) i j st) (b, m) j) 10 ?_ ?_ 0 ((b, m), o2, o3) (Nat.zero_le _) rfl
    · rintro j ⟨⟨b', m'⟩, p2, p3⟩ hj hJ go'
      simp only at hJ ⊢
      refine wpW K_X11_tries [34] 60 ?_
      refine ⟨fun h => ?_, fun _ => ⟨_, ev_lawsThatHear _ σ1 A.S g1 _ _, ?_⟩⟩
      · rw [show (10 : Int32) = nI 10 from rfl, le_of_nI (by omega) (by omega)] at h; omega
      rintro w τ'' ⟨h9, rfl⟩
      obtain rfl := h9.symm
      refine ⟨fun h => ?_, fun h => ?_⟩
      · exact go' ((b', m'), _, _) _ _ (by rw [← nI_1 j]; rfl) rfl (by rw [fo, ← hJ]; exact (if_pos h).symm)
      · exact go' ((_, _), _, _) _ _ (by rw [← nI_1 j]; rfl) rfl (by rw [fo, ← hJ]; exact (if_neg h).symm)
    · rintro ⟨⟨b', m'⟩, p2, p3⟩ hJ
      simp only at hJ ⊢
      refine wpW K_X11_tries [24] 60 ?_
      refine ⟨fun h => ?_, fun h => absurd (show (10 : Int32) ≤ nI 10 by decide) h⟩
      exact go ((b', m'), _, _, _) _ _ (by rw [← nI_1 i]; rfl) rfl (by rw [fo, ← hI]; exact hJ)
  · rintro ⟨⟨b, m⟩, o1, o2, o3⟩ hI
    simp only at hI ⊢
    refine wpW K_X11_tries [24] 60 ?_
    refine ⟨fun h => ⟨_, ev_rtell _ _ _, ?_⟩, fun h => absurd (show (10 : Int32) ≤ nI 10 by decide) h⟩
    rintro w σ3 ⟨rfl, e3, k3, f3⟩
    have e : triesS A.S = (b, m) := hI.symm
    rw [e]
    exact ⟨rfl, cv_end hb ((f1.up _ (by decide)).tr (f3.up _ (by decide))) k3 e3⟩
