/-! the class's calls: hush, rests, rule, law -/
theorem CB.h41 {σ τ : Sto} {A : AS} {r s : Nat} (hb : CB σ A r s) (h : Fr [41, 44] σ τ) (hh : hushOK τ) : CB τ A r s := by
  have hk := hb.kF h (by decide)
  have hx := hb.kX h (by decide) (by decide)
  have hH := hb.kH h (by decide) (by decide) (by decide)
  have hS := hb.kS h (by decide) (by decide) (by decide) (by decide)
  have hr := hb.rk h (by decide)
  exact ⟨hk.1, hk.2, hx.1, hx.2, hb.kP h (by decide) (by decide), hb.rs, hr.1, (h.R (by decide) 12).trans hb.r2, hr.2, hH.1, hH.2, hS.1, hS.2, fromOK_fr h (by decide) hb.fr, hh⟩
def wonT : Nat → Int32 := hushT (fun _ => 0)
theorem ev_readies (k : Nat) (σ : Sto) {A : AS} {r s : Nat} (hb : CB σ A r s) : EvM (k + 2) M_X4_readiesHush [.ref 41] σ (fun v τ => v = none ∧ CB τ A r s ∧ gA τ 44 = wonT ∧ Fr [41, 44] σ τ) := by
  refine (ev_readiesHush k σ).post ?_
  rintro v τ ⟨rfl, h⟩
  refine ⟨rfl, ?_⟩
  rcases hb.hu with ⟨h0, hg⟩ | ⟨h1, hg⟩
  · rw [if_pos h0] at h
    obtain ⟨a, b, -, f⟩ := h
    rw [hg] at a
    exact ⟨hb.h41 f (Or.inr ⟨b, a⟩), a, f⟩
  · rw [if_neg (by rw [h1]; decide)] at h
    subst h
    exact ⟨hb, hg, Fr.rf⟩
def hushC (A : AS) (x y : Int32) : Int32 × AS := if inS 21 x && inS 21 y then
    (bI (winS wonT x.toNatClampNeg y.toNatClampNeg), A.wR (if 0 < wtS wonT x.toNatClampNeg y.toNatClampNeg then [0, (wtS wonT x.toNatClampNeg y.toNatClampNeg).toInt64] else if 0 < wtS wonT y.toNatClampNeg x.toNatClampNeg then [(wtS wonT y.toNatClampNeg x.toNatClampNeg).toInt64, 0] else [])) else (-1, A)
theorem cc_hush (k : Nat) (A : AS) (x y : Int32) : CC (k + 3) M_X11_hush [.int x, .int y] A (.int (hushC A x y).1) (hushC A x y).2 := by
  intro σ hv
  obtain ⟨r, s, hb⟩ := hv.b
  have hno : ¬ (inS 21 x = true ∧ inS 21 y = true) → some (Value.int (-1)) = some (Value.int (hushC A x y).1) ∧ CV σ (hushC A x y).2 ∧ Fr lC σ σ := by
    intro c
    unfold hushC
    rw [if_neg (by simpa using c)]
    exact ⟨rfl, hv, Fr.rf⟩
  refine EvM.of mk_X11_hush (Nat.le_of_ble_eq_true rfl) ?_
  refine wpW K_X11_hush [22] 60 ?_
  have lx := cnd (x := x) (n := 20) (by omega)
  have ly := cnd (x := y) (n := 20) (by omega)
  refine ⟨fun h => hno (fun q => (lx.mp q.1).1 h), fun h1 => ⟨fun h => hno (fun q => (lx.mp q.1).2 h), fun h2 => ⟨fun h => hno (fun q => (ly.mp q.2).1 h), fun h3 => ⟨fun h4 => ?_, fun h => hno (fun q => (ly.mp q.2).2 (Int32.not_le.mp h))⟩⟩⟩⟩
  have a1 : inS 21 x = true := lx.mpr ⟨h1, h2⟩
  have a2 : inS 21 y = true := ly.mpr ⟨h3, Int32.not_lt.mpr h4⟩
  unfold hushC
  rw [if_pos (by rw [a1, a2]; rfl)]
  obtain ⟨d1, d2⟩ := inS_80 (by omega) a1
  obtain ⟨e1, e2⟩ := inS_80 (by omega) a2
  generalize x.toNatClampNeg = a at d1 d2
  generalize y.toNatClampNeg = b at e1 e2
  subst d2 e2
  refine wpW K_X11_hush [90] 60 ?_
  refine ⟨_, ev_readies _ σ hb, ?_⟩
  rintro w σ1 ⟨rfl, b1, g1, f1⟩
  refine ⟨_, ev_rclears _ _, ?_⟩
  rintro w σ2 ⟨rfl, e2, k2, f2⟩
  have g2 : gA σ2 44 = wonT := (f2.A (by decide)).trans g1
  refine ⟨_, ev_winningTake _ σ2 a b d1 e1, ?_⟩
  rintro w τ'' ⟨h9, rfl⟩
  obtain rfl := h9.symm
  refine ⟨_, ev_winningTake _ σ2 b a e1 d1, ?_⟩
  rintro w τ'' ⟨h9, rfl⟩
  obtain rfl := h9.symm
  rw [g2]
  have fin : ∀ R σ3, tR σ3 = R → tOK σ3 → Fr [3, 4] σ1 σ3 → WW M_X11_hush (k + 3) (fun w τ => w = some (.int (bI (winS wonT a b))) ∧ CV τ (A.wR R) ∧ Fr lC σ τ) 90 [some (.ref 0), some (.int (nI a)), some (.int (nI b)), some (.int (wtS wonT a b)), some (.int (wtS wonT b a))] [] σ3 := by
    intro R σ3 e3 k3 f3
    have g3 : gA σ3 44 = wonT := (f3.A (by decide)).trans g1
    refine wpW K_X11_hush [] 60 ?_
    refine ⟨_, ev_wins _ σ3 a b d1, ?_⟩
    rintro w τ'' ⟨h9, rfl⟩
    obtain rfl := h9.symm
    rw [g3]
    have c := cv_end b1 (f3.up lS (by decide)) k3 e3
    have c2 : Fr lC σ σ3 := (f1.C (by decide)).tr c.2
    refine ⟨fun h => ⟨?_, c.1, c2⟩, fun h => ⟨?_, c.1, c2⟩⟩
    · rw [(bI_eq _).mp h]; rfl
    · rw [(bI_ne _).mp h]; rfl
  refine ⟨fun h => ⟨fun h' => ?_, fun h' => ⟨_, ev_rtell2 _ _ _ _, ?_⟩⟩, fun h => ⟨_, ev_rtell2 _ _ _ _, ?_⟩⟩
  · rw [if_neg (Int32.not_lt.mpr h), if_neg (Int32.not_lt.mpr h')]
    exact fin _ σ2 e2 k2 f2
  · rintro w σ3 ⟨rfl, e3, k3, f3⟩
    rw [if_neg (Int32.not_lt.mpr h), if_pos (Int32.not_le.mp h')]
    exact fin _ σ3 e3 k3 (f2.tr f3)
  · rintro w σ3 ⟨rfl, e3, k3, f3⟩
    rw [if_pos (Int32.not_le.mp h)]
    exact fin _ σ3 e3 k3 (f2.tr f3)
def rstT (w : Int32) (x y : Nat) (st : Nat × List Int64) : Nat × List Int64 := if restS w x y then (st.1 + 1, if st.1 = 0 then [(nI x).toInt64, (nI y).toInt64] else st.2) else st
def restsS (w : Int32) : Nat × List Int64 := fo (fun x st => fo (fun y st => rstT w x y st) st 10) (0, []) 10
def restsC (A : AS) (x : Int32) : Int32 × AS := if inS 21 x then (nI (restsS x).1, A.wR (restsS x).2) else (-1, A)
theorem cc_rests (k : Nat) (A : AS) (x : Int32) : CC (k + 3) M_X11_rests [.int x] A (.int (restsC A x).1) (restsC A x).2 := by
  intro σ hv
  obtain ⟨r, s, hb⟩ := hv.b
  have hno : ¬ inS 21 x = true → some (Value.int (-1)) = some (Value.int (restsC A x).1) ∧ CV σ (restsC A x).2 ∧ Fr lC σ σ := by
    intro c
    unfold restsC
    rw [if_neg c]
    exact ⟨rfl, hv, Fr.rf⟩
  refine EvM.of mk_X11_rests (Nat.le_of_ble_eq_true rfl) ?_
  refine wpW K_X11_rests [31] 60 ?_
  have lx := cnd (x := x) (n := 20) (by omega)
  refine ⟨fun h => hno (fun q => (lx.mp q).1 h), fun h1 => ⟨fun h2 => ?_, fun h => hno (fun q => (lx.mp q).2 (Int32.not_le.mp h))⟩⟩
  unfold restsC
  rw [if_pos (lx.mpr ⟨h1, Int32.not_lt.mpr h2⟩)]
  refine ⟨_, ev_readiesRests _ σ x, ?_⟩
  rintro w σ1 ⟨rfl, g1, f1⟩
  refine ⟨_, ev_rclears _ _, ?_⟩
  rintro w σ2 ⟨rfl, e2, k2, f2⟩
  have gg : ∀ τ, Fr [3, 4] σ1 τ → ∀ y, y < 10 → gA τ 45 y = bestS x y := by
    intro τ f y hy
    rw [f.A (by decide)]
    exact g1 y hy
  refine loopI (α := Sto × (Nat × List Int64) × Option Value) 31 (fun i a => [some (.ref 0), some (.int x), some (.int (nI a.2.1.1)), some (.int (nI i)), a.2.2]) (fun a => a.1) (fun i a => Fr [3, 4] σ1 a.1 ∧ tOK a.1 ∧ tR a.1 = a.2.1.2 ∧ a.2.1.1 ≤ 10 * i ∧ a.2.1 = fo (fun x' st => fo (fun y st => rstT x x' y st) st 10) (0, []) i) 10 ?_ ?_ 0 (σ2, (0, []), none) (Nat.zero_le _) ⟨f2, k2, e2, Nat.zero_le _, rfl⟩
  · rintro i ⟨τ, ⟨c, R⟩, o⟩ hi ⟨f, ht, hR, hc, hI⟩ go
    simp only at f ht hR hc hI ⊢
    refine wpW K_X11_rests [40] 60 ?_
    refine ⟨fun h => ?_, fun _ => ?_⟩
    · rw [show (10 : Int32) = nI 10 from rfl, le_of_nI (by omega) (by omega)] at h; omega
    refine loopI (α := Sto × (Nat × List Int64)) 40 (fun j a => [some (.ref 0), some (.int x), some (.int (nI a.2.1)), some (.int (nI i)), some (.int (nI j))]) (fun a => a.1) (fun j a => Fr [3, 4] σ1 a.1 ∧ tOK a.1 ∧ tR a.1 = a.2.2 ∧ a.2.1 ≤ 10 * i + j ∧ a.2 = fo (fun y st => rstT x i y st) (c, R) j) 10 ?_ ?_ 0 (τ, (c, R)) (Nat.zero_le _) ⟨f, ht, hR, hc, rfl⟩
    · rintro j ⟨τ', ⟨c', R'⟩⟩ hj ⟨f', ht', hR', hc', hJ⟩ go'
      simp only at f' ht' hR' hc' hJ ⊢
      refine wpW K_X11_rests [40] 60 ?_
      refine ⟨fun h => ?_, fun _ => ⟨_, ev_isRest _ τ' x (gg τ' f') i j hi hj, ?_⟩⟩
      · rw [show (10 : Int32) = nI 10 from rfl, le_of_nI (by omega) (by omega)] at h; omega
      rintro w τ'' ⟨h9, rfl⟩
      obtain rfl := h9.symm
      refine ⟨fun h => ?_, fun h => ⟨fun h2 => ?_, fun h2 => ⟨_, ev_rtell2 _ _ _ _, ?_⟩⟩⟩
      · have h' : ¬ restS x i j = true := fun q => by rw [q] at h; exact absurd h (by decide)
        exact go' (τ', (c', R')) _ _ (by rw [← nI_1 j]; rfl) rfl ⟨f', ht', hR', by simp only; omega, by rw [fo, ← hJ]; exact (if_neg h').symm⟩
      · have h' := (bI_ne _).mp h
        rw [show (0 : Int32) = nI 0 from rfl, eq_of_nI (by omega) (by omega)] at h2
        refine go' (τ', (c' + 1, R')) _ _ (by rw [← nI_1 j, ← nI_1 c']; rfl) rfl ⟨f', ht', hR', by simp only; omega, ?_⟩
        rw [fo, ← hJ, rstT, if_pos h', if_neg h2]
      · rintro w σ3 ⟨rfl, e3, k3, f3⟩
        have h' := (bI_ne _).mp h
        rw [show (0 : Int32) = nI 0 from rfl, eq_of_nI (by omega) (by omega)] at h2
        refine go' (σ3, (c' + 1, [(nI i).toInt64, (nI j).toInt64])) _ _ (by rw [← nI_1 j, ← nI_1 c']; rfl) rfl ⟨f'.tr f3, k3, e3, by simp only; omega, ?_⟩
        rw [fo, ← hJ, rstT, if_pos h', if_pos h2]
    · rintro ⟨τ', ⟨c', R'⟩⟩ ⟨f', ht', hR', hc', hJ⟩
      simp only at f' ht' hR' hc' hJ ⊢
      refine wpW K_X11_rests [31] 60 ?_
      refine ⟨fun h => ?_, fun h => absurd (show (10 : Int32) ≤ nI 10 by decide) h⟩
      exact go (τ', (c', R'), _) _ _ (by rw [← nI_1 i]; rfl) rfl ⟨f', ht', hR', by simp only; omega, by rw [fo, ← hI]; exact hJ⟩
  · rintro ⟨τ, ⟨c, R⟩, o⟩ ⟨f, ht, hR, hc, hI⟩
    simp only at f ht hR hc hI ⊢
    refine wpW K_X11_rests [31] 60 ?_
    refine ⟨fun h => ?_, fun h => absurd (show (10 : Int32) ≤ nI 10 by decide) h⟩
    have e : restsS x = (c, R) := hI.symm
    rw [e]
    exact ⟨rfl, cv_end hb ((f1.up _ (by decide)).tr (f.up _ (by decide))) ht hR⟩
