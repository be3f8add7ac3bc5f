/-! the class's call: mouths -/
theorem or_gt : ∀ m, m < 128 → ∀ q, q < 7 → m / 2 ^ q % 2 = 0 → m < m ||| 2 ^ q := by decide +kernel
theorem cost_cg {F : FS} {g g' : Nat → Int32} {n nm q m : Nat} (hn : n ≤ 7) (hm : m < 2 ^ n) (hq : q < n) (h : ∀ j, m < j → j < 2 ^ n → g j = g' j) : costS F g nm q m = costS F g' nm q m := by
  rw [costS, costS]
  split
  · next c => rw [h _ (or_gt m (by have := pow7 hn; omega) q (by omega) c.2) (or_lt n hn m hm q hq)]
  · rfl
theorem lstO_cg {F : FS} {g g' : Nat → Int32} {m : Nat} (hn : fN F ≤ 7) (hm : m < 2 ^ fN F) (h : ∀ j, m < j → j < 2 ^ fN F → g j = g' j) : ∀ q, q ≤ fN F → ∀ j, m ≤ j → j < 2 ^ fN F → fo (fun q g => lstI F m g q) (upd g m 1000) q j = fo (fun q g => lstI F m g q) (upd g' m 1000) q j := by
  intro q
  induction q with
  | zero =>
    intro _ j h1 h2
    simp only [fo, upd]
    by_cases c : j = m
    · simp [c]
    · rw [if_neg c, if_neg c]; exact h j (by omega) h2
  | succ q ih =>
    intro hq j h1 h2
    have ih' := ih (by omega)
    rw [fo, fo, lstI, lstI, ih' m (Nat.le_refl _) hm, cost_cg hn hm (by omega) (fun j a b => ih' j (by omega) b)]
    simp only [upd]
    by_cases c : j = m
    · simp [c]
    · rw [if_neg c, if_neg c]; exact ih' j h1 h2
theorem lst_cg (F : FS) (hn : fN F ≤ 7) (g g' : Nat → Int32) : ∀ t, t ≤ 2 ^ fN F - 1 → ∀ j, 2 ^ fN F - 1 - t ≤ j → j < 2 ^ fN F → lstS F g t j = lstS F g' t j := by
  have hp := pow7 hn
  intro t
  induction t with
  | zero =>
    intro _ j h1 h2
    have : j = 2 ^ fN F - 1 := by omega
    subst this
    simp [lstS, fo, upd]
  | succ t ih =>
    intro ht j h1 h2
    have e : ∀ g, lstS F g (t + 1) = lstO F (2 ^ fN F - 1 - t - 1) (lstS F g t) := fun _ => rfl
    rw [e, e]
    exact lstO_cg hn (by omega) (fun j a b => ih (by omega) j (by omega) b) (fN F) (Nat.le_refl _) j (by omega) h2
def lstZ (F : FS) : Nat → Int32 := lstS F (fun _ => 0) (2 ^ fN F - 1)
theorem lst_Z (F : FS) (hn : fN F ≤ 7) (g : Nat → Int32) {j : Nat} (hj : j < 2 ^ fN F) : lstS F g (2 ^ fN F - 1) j = lstZ F j := lst_cg F hn g _ _ (Nat.le_refl _) j (by omega) hj
theorem cheap_cg {F : FS} {g g' : Nat → Int32} {n m nm : Nat} (hn : n ≤ 7) (hm : m < 2 ^ n) (h : ∀ j, j < 2 ^ n → g j = g' j) : ∀ c q, q + c ≤ n → cheapS F g nm m c q = cheapS F g' nm m c q := by
  intro c
  induction c with
  | zero => intro q _; rfl
  | succ c ih =>
    intro q hq
    rw [cheapS, cheapS, cost_cg hn hm (by omega) (fun j _ b => h j b), h m hm, ih (q + 1) (by omega)]
theorem cheap_n (F : FS) (g : Nat → Int32) (nm m n : Nat) (hn : 0 < n) : ∀ c q, q + c ≤ n → cheapS F g nm m c q < n := by
  intro c
  induction c with
  | zero => intro q _; exact hn
  | succ c ih =>
    intro q hq
    rw [cheapS]
    split
    · omega
    · exact ih (q + 1) (by omega)
def pkS (F : FS) (n : Nat) : List Nat × Nat := fo (fun nm a => (a.1 ++ [cheapS F (lstZ F) nm a.2 (fN F) 0], a.2 ||| 2 ^ cheapS F (lstZ F) nm a.2 (fN F) 0)) ([], 0) n
theorem pkS_lt {F : FS} (hn : fN F ≤ 7) (h0 : 0 < fN F) : ∀ n, (pkS F n).2 < 2 ^ fN F ∧ (pkS F n).1.length = n := by
  intro n
  induction n with
  | zero => exact ⟨by have := pow7 hn; simp only [pkS, fo]; omega, rfl⟩
  | succ n ih =>
    rw [pkS, fo, ← pkS]
    exact ⟨or_lt _ hn _ ih.1 _ (cheap_n _ _ _ _ _ h0 _ _ (by omega)), by simp [ih.2]⟩
theorem pick_S {F : FS} (hn : fN F ≤ 7) (h0 : 0 < fN F) {g r : Nat → Int32} (h : ∀ j, j < 2 ^ fN F → g j = lstZ F j) : ∀ n, (picksS F g r n).2 = (pkS F n).2 ∧ qIs (picksS F g r n).1 (pkS F n).1 := by
  intro n
  induction n with
  | zero => exact ⟨rfl, fun j x hx => absurd hx (by simp [pkS, fo])⟩
  | succ n ih =>
    obtain ⟨h1, h2⟩ := pkS_lt hn h0 n
    have e1 : picksS F g r (n + 1) = pickS F g (picksS F g r n) n := rfl
    have e2 : pkS F (n + 1) = ((pkS F n).1 ++ [cheapS F (lstZ F) n (pkS F n).2 (fN F) 0], (pkS F n).2 ||| 2 ^ cheapS F (lstZ F) n (pkS F n).2 (fN F) 0) := rfl
    rw [e1, e2, pickS, ih.1, cheap_cg hn h1 h (fN F) 0 (by omega)]
    refine ⟨rfl, ?_⟩
    have := qIs_push (x := cheapS F (lstZ F) n (pkS F n).2 (fN F) 0) ih.2
    rw [h2] at this
    exact this
def pkW (F : FS) : Nat → Nat := fun j => (pkS F (fN F)).1.getD j 0
def mouthsC (A : AS) : Int32 × AS := if fN A.F < 2 then (-2, A) else (lstZ A.F 0, A.wR (rngL (fN A.F) (fun j => (nI (pkW A.F j)).toInt64)))
theorem cc_mouths (k : Nat) (A : AS) : CC (k + 5) M_X11_mouths [] A (.int (mouthsC A).1) (mouthsC A).2 := by
  intro σ hv
  obtain ⟨r, s, hb⟩ := hv.b
  have h7 := hb.n7
  refine EvM.of mk_X11_mouths (Nat.le_of_ble_eq_true rfl) ?_
  refine wpW K_X11_mouths [35] 60 ?_
  unfold mouthsC
  refine ⟨fun h => ?_, fun h => ?_⟩
  rotate_left
  · rw [hb.sz, show (2 : Int32) = nI 2 from rfl, le_of_nI (by omega) (by omega)] at h
    rw [if_pos (by omega)]
    exact ⟨rfl, hv, Fr.rf⟩
  rw [hb.sz, show (2 : Int32) = nI 2 from rfl, le_of_nI (by omega) (by omega)] at h
  rw [if_neg (by omega)]
  have hS := ev_sharesMouths k σ hb.f
  rw [hb.F] at hS
  refine ⟨_, hS, ?_⟩
  rintro w σ1 ⟨h9, g1, f1⟩
  have hp := pow7 h7
  rw [lst_Z A.F h7 _ (by omega)] at h9
  obtain rfl := h9.symm
  have hq := (pick_S (r := gA σ 29) h7 (by omega) (fun j hj => lst_Z A.F h7 (gA σ 30) hj) (fN A.F)).2
  rw [← g1] at hq
  refine ⟨_, ev_rclears _ _, ?_⟩
  rintro w σ2 ⟨rfl, e2, k2, f2⟩
  have f12 : Fr lS σ σ2 := (f1.up _ (by decide)).tr (f2.up _ (by decide))
  have hr2 : ∀ j, j < fN A.F → gA σ2 29 j = nI (pkW A.F j) := fun j hj => by
    rw [f2.A (by decide)]
    refine hq j _ ?_
    have hl := (pkS_lt h7 (by omega) (fN A.F)).2
    rw [pkW, List.getD, List.getElem?_eq_getElem (by omega)]
    rfl
  generalize lstZ A.F 0 = mx
  refine loopI (α := Sto) 35 (fun i _ => [some (.ref 0), some (.int mx), some (.int (nI i))]) (fun a => a) (fun i a => Fr [3, 4] σ2 a ∧ tOK a ∧ tR a = rngL i (fun j => (nI (pkW A.F j)).toInt64)) (fN A.F) ?_ ?_ 0 σ2 (Nat.zero_le _) ⟨Fr.rf, k2, e2⟩
  · rintro i τ hi ⟨f, ht, hI⟩ go
    have hbt := hb.sS (f12.tr (f.up _ (by decide)))
    refine wpW K_X11_mouths [35] 60 ?_
    refine ⟨fun h => ?_, fun _ => ⟨in7 (by omega), _, ev_radds _ _ ht _ (by rw [hI, rngL_l]; omega), ?_⟩⟩
    · rw [hbt.sz, le_of_nI (by omega) (by omega)] at h; omega
    rintro w τ' ⟨rfl, e3, k3, f3⟩
    refine go τ' _ _ (by rw [← nI_1 i]; rfl) rfl ⟨f.tr f3, k3, ?_⟩
    rw [e3, hI, rngL_s, nI_clamp (by omega), f.A (by decide), hr2 i hi]
  · rintro τ ⟨f, ht, hI⟩
    have hbt := hb.sS (f12.tr (f.up _ (by decide)))
    refine wpW K_X11_mouths [35] 60 ?_
    refine ⟨fun h => ?_, fun h => ?_⟩
    · exact ⟨rfl, cv_end hb (f12.tr (f.up _ (by decide))) ht hI⟩
    · rw [hbt.sz, le_of_nI (by omega) (by omega)] at h; omega
