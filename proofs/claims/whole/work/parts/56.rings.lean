/-! the class's calls: leads, rings -/
def ldS (F : FS) : Nat → Nat → Nat → Nat → Nat × Nat
  | 0, _, a, k => (a, k)
  | c + 1, m, a, k => if m / 2 ^ a % 2 = 0 then ldS F c (m ||| 2 ^ a) (hoN F a) (k + 1) else (a, k)
theorem pc_or : ∀ m, m < 128 → ∀ q, q < 7 → m / 2 ^ q % 2 = 0 → pcN (m ||| 2 ^ q) = pcN m + 1 := by decide +kernel
theorem pc_7 : ∀ m, m < 128 → pcN m ≤ 7 := by decide +kernel
theorem ld_lt {F : FS} (hF : fsOK F) : ∀ c m a k, a < fN F → (ldS F c m a k).1 < fN F ∧ (ldS F c m a k).2 ≤ k + c := by
  intro c
  induction c with
  | zero => intro m a k ha; exact ⟨ha, Nat.le_refl _⟩
  | succ c ih =>
    intro m a k ha
    rw [ldS]
    split
    · have := ih (m ||| 2 ^ a) (hoN F a) (k + 1) (fs_ho hF ha).1
      exact ⟨this.1, by omega⟩
    · exact ⟨ha, by simp only; omega⟩
def leadsC (A : AS) (x : Int32) : Int32 × AS := if inS (fN A.F) x then (nI (ldS A.F 8 0 x.toNatClampNeg 0).2, A.wR [(nI (ldS A.F 8 0 x.toNatClampNeg 0).1).toInt64, (bcS (ringS A.F (ldS A.F 8 0 x.toNatClampNeg 0).1)).toInt64]) else (-1, A)
theorem cc_leads (k : Nat) (A : AS) (x : Int32) : CC (k + 2) M_X11_leads [.int x] A (.int (leadsC A x).1) (leadsC A x).2 := by
  intro σ hv
  obtain ⟨r, s, hb⟩ := hv.b
  have h7 := hb.n7
  refine EvM.of mk_X11_leads (Nat.le_of_ble_eq_true rfl) ?_
  refine wpW K_X11_leads [23] 60 ?_
  refine ⟨_, ev_has5 _ σ hb x, ?_⟩
  rintro w τ ⟨h9, rfl⟩
  obtain rfl := h9.symm
  unfold leadsC
  refine ⟨fun h0 => ?_, fun h0 => ?_⟩
  rotate_left
  · have h0' : ¬ inS (fN A.F) x = true := fun q => by rw [q] at h0; exact absurd h0 (by decide)
    rw [if_neg h0']
    exact ⟨rfl, hv, Fr.rf⟩
  have h0' := (bI_ne _).mp h0
  rw [if_pos h0']
  obtain ⟨e1, e2⟩ := in_of hb.n7 h0'
  generalize x.toNatClampNeg = q at e1 e2
  subst e2
  have hlt := ld_lt hb.fs 8 0 q 0 e1
  generalize hT : ldS A.F 8 0 q 0 = T at hlt ⊢
  have fin : ∀ i m, m < 128 → i ≤ 8 → WW M_X11_leads (k + 2) (fun w τ => w = some (.int (nI T.2)) ∧ CV τ (A.wR [(nI T.1).toInt64, (bcS (ringS A.F T.1)).toInt64]) ∧ Fr lC σ τ) 63 [some (.ref 0), some (.int (nI q)), some (.int (nI m)), some (.int (nI T.1)), some (.int (nI T.2)), some (.int (nI i))] [] σ := by
    intro i m hm hi
    refine wpW K_X11_leads [] 60 ?_
    refine ⟨_, ev_ring _ σ 5 (Or.inl rfl) hb.f T.1 (by rw [hb.F]; exact hlt.1), ?_⟩
    rintro w τ ⟨h9, rfl⟩
    obtain rfl := h9.symm
    rw [hb.F]
    refine ⟨_, ev_bc _ _ _, ?_⟩
    rintro w τ ⟨h9, rfl⟩
    obtain rfl := h9.symm
    refine ⟨_, ev_rtell2 _ _ _ _, ?_⟩
    rintro w σ3 ⟨rfl, e3, k3, f3⟩
    exact ⟨rfl, cv_end hb (f3.up _ (by decide)) k3 e3⟩
  refine loopI (α := Nat × Nat) 23 (fun i a => [some (.ref 0), some (.int (nI q)), some (.int (nI a.1)), some (.int (nI a.2)), some (.int (nI i)), some (.int (nI i))]) (fun _ => σ) (fun i a => a.1 < 128 ∧ a.2 < fN A.F ∧ T = ldS A.F (8 - i) a.1 a.2 i) 8 ?_ ?_ 0 (0, q) (Nat.zero_le _) ⟨by simp, e1, hT.symm⟩
  · rintro i ⟨m, a⟩ hi ⟨hm, ha, hI⟩ go
    simp only at hm ha hI ⊢
    obtain ⟨ho1, ho2⟩ := fs_ho hb.fs ha
    rw [show 8 - i = (8 - (i + 1)) + 1 by omega, ldS] at hI
    refine wpW K_X11_leads [23, 63] 60 ?_
    refine ⟨fun h => ?_, fun _ => ⟨fun h => ?_, fun h => ⟨in7 (by omega), ?_⟩⟩⟩
    · rw [show (7 : Int32) = nI 7 from rfl, lt_of_nI (by omega) (by omega)] at h; omega
    · rw [bt_nI m hm a (by omega), show (0 : Int32) = nI 0 from rfl, eq_of_nI (by omega) (by omega)] at h
      rw [if_neg h] at hI
      have := fin i m hm (by omega)
      rw [hI] at this ⊢
      exact this
    · rw [bt_nI m hm a (by omega), show (0 : Int32) = nI 0 from rfl, eq_of_nI (by omega) (by omega)] at h
      rw [if_pos h] at hI
      obtain ⟨or1, or2⟩ := or_nI m hm a (by omega)
      refine go (m ||| 2 ^ a, hoN A.F a) _ _ ?_ rfl ⟨or2, ho1, hI⟩
      simp only
      rw [← or1, ← nI_1 i, ← ho2, ← hb.rd.2.2.2.1 a (by omega)]
      rfl
  · rintro ⟨m, a⟩ ⟨hm, ha, hI⟩
    simp only at hm ha hI ⊢
    refine wpW K_X11_leads [63] 60 ?_
    refine ⟨fun _ => ?_, fun h => absurd (show (7 : Int32) < nI 8 by decide) h⟩
    have := fin 8 m hm (by omega)
    rw [hI] at this ⊢
    exact this
def ntN (m : Nat) : Nat := if m % 2 = 1 then 0 else if m / 2 % 2 = 1 then 1 else if m / 4 % 2 = 1 then 2 else if m / 8 % 2 = 1 then 3 else if m / 16 % 2 = 1 then 4 else if m / 32 % 2 = 1 then 5 else 6
def nz1 (x : Int32) : Int32 := (x ^^^ -1) &&& (x - 1)
def nzA (c s a : Int32) (st : Int32 × Int32) : Int32 × Int32 := if st.2 ≤ c then st else (st.1 + a, ush st.2 s)
def ntF (st : Int32 × Int32) : Int32 := st.1 + ush st.2 1
def ntS (x : Int32) : Int32 := if 0 < nz1 x then ntF (nzA 4 2 2 (nzA 16 4 4 (nzA 256 8 8 (nzA 65536 16 16 (1, nz1 x))))) else nz1 x &&& 32
theorem ev_ntz (k : Nat) (σ : Sto) (x : Int32) : EvM k M_J6_numberOfTrailingZeros_0f7a4 [.int x] σ (fun v τ => τ = σ ∧ v = some (.int (ntS x))) := by
  refine EvM.of mk_J6_numberOfTrailingZeros_0f7a4 (Nat.le_of_ble_eq_true rfl) ?_
  generalize hR : ntS x = R
  have h74 : ∀ y n, ntF (n, y) = R → WW M_J6_numberOfTrailingZeros_0f7a4 k (fun v τ => τ = σ ∧ v = some (.int R)) 74 [some (.int y), some (.int n)] [] σ := by
    intro y n h
    refine wpW K_J6_numberOfTrailingZeros_0f7a4 [] 20 ?_
    exact ⟨rfl, by rw [← h]; rfl⟩
  have h62 : ∀ y n, ntF (nzA 4 2 2 (n, y)) = R → WW M_J6_numberOfTrailingZeros_0f7a4 k (fun v τ => τ = σ ∧ v = some (.int R)) 62 [some (.int y), some (.int n)] [] σ := by
    intro y n h
    refine wpW K_J6_numberOfTrailingZeros_0f7a4 [74] 20 ?_
    refine ⟨fun c => ?_, fun c => ?_⟩
    · exact h74 _ _ (by rw [nzA, if_pos c] at h; exact h)
    · exact h74 _ _ (by rw [nzA, if_neg c] at h; exact h)
  have h49 : ∀ y n, ntF (nzA 4 2 2 (nzA 16 4 4 (n, y))) = R → WW M_J6_numberOfTrailingZeros_0f7a4 k (fun v τ => τ = σ ∧ v = some (.int R)) 49 [some (.int y), some (.int n)] [] σ := by
    intro y n h
    refine wpW K_J6_numberOfTrailingZeros_0f7a4 [62] 20 ?_
    refine ⟨fun c => ?_, fun c => ?_⟩
    · exact h62 _ _ (by rw [nzA.eq_def 16, if_pos c] at h; exact h)
    · exact h62 _ _ (by rw [nzA.eq_def 16, if_neg c] at h; exact h)
  have h34 : ∀ y n, ntF (nzA 4 2 2 (nzA 16 4 4 (nzA 256 8 8 (n, y)))) = R → WW M_J6_numberOfTrailingZeros_0f7a4 k (fun v τ => τ = σ ∧ v = some (.int R)) 34 [some (.int y), some (.int n)] [] σ := by
    intro y n h
    refine wpW K_J6_numberOfTrailingZeros_0f7a4 [49] 20 ?_
    refine ⟨fun c => ?_, fun c => ?_⟩
    · exact h49 _ _ (by rw [nzA.eq_def 256, if_pos c] at h; exact h)
    · exact h49 _ _ (by rw [nzA.eq_def 256, if_neg c] at h; exact h)
  refine wpW K_J6_numberOfTrailingZeros_0f7a4 [34] 40 ?_
  refine ⟨fun c => ⟨fun d => ?_, fun d => ?_⟩, fun c => ?_⟩
  · exact h34 _ _ (by rw [ntS, if_pos (show 0 < nz1 x from c), nzA.eq_def 65536, if_pos (show (1, nz1 x).2 ≤ 65536 from d)] at hR; exact hR)
  · exact h34 _ _ (by rw [ntS, if_pos (show 0 < nz1 x from c), nzA.eq_def 65536, if_neg (show ¬ (1, nz1 x).2 ≤ 65536 from d)] at hR; exact hR)
  · exact ⟨rfl, by rw [← hR, ntS, if_neg (show ¬ 0 < nz1 x from c)]; rfl⟩
theorem nt_nI : ∀ m, m < 128 → 0 < m → ntS (nI m) = nI (ntN m) := by decide +kernel
def rgT (F : FS) (q : Nat) (st : Nat × Int32 × Int32) : Nat × Int32 × Int32 := if ¬ ringS F q = 0 ∧ ntS (ringS F q) = nI q then (st.1 + 1, if bcS (ringS F q) ≤ st.2.1 then st.2 else (bcS (ringS F q), nI q)) else st
def ringsS (F : FS) (n : Nat) : Nat × Int32 × Int32 := fo (rgT F) (0, 0, -1) n
theorem rings_le (F : FS) : ∀ n, (ringsS F n).1 ≤ n := by
  intro n
  induction n with
  | zero => exact Nat.le_refl _
  | succ n ih =>
    rw [ringsS, fo, ← ringsS, rgT]
    split
    · simp only; omega
    · omega
def ringsC (A : AS) : Int32 × AS := (nI (ringsS A.F (fN A.F)).1, A.wR (if (ringsS A.F (fN A.F)).1 = 0 then [] else [(ringsS A.F (fN A.F)).2.1.toInt64, (ringsS A.F (fN A.F)).2.2.toInt64]))
theorem cc_rings (k : Nat) (A : AS) : CC (k + 2) M_X11_rings [] A (.int (ringsC A).1) (ringsC A).2 := by
  intro σ hv
  obtain ⟨r, s, hb⟩ := hv.b
  have h7 := hb.n7
  refine EvM.of mk_X11_rings (Nat.le_of_ble_eq_true rfl) ?_
  refine wpW K_X11_rings [9] 60 ?_
  refine loopI (α := (Nat × Int32 × Int32) × Option Value) 9 (fun i a => [some (.ref 0), some (.int (nI a.1.1)), some (.int a.1.2.1), some (.int a.1.2.2), some (.int (nI i)), a.2]) (fun _ => σ) (fun i a => a.1 = ringsS A.F i) (fN A.F) ?_ ?_ 0 ((0, 0, -1), none) (Nat.zero_le _) rfl
  · rintro i ⟨⟨m, l, f⟩, o⟩ hi hI go
    simp only at hI ⊢
    have hn : ringsS A.F (i + 1) = rgT A.F i (m, l, f) := by rw [hI]; rfl
    refine wpW K_X11_rings [9] 60 ?_
    refine ⟨fun h => ?_, fun _ => ⟨_, ev_ring _ σ 5 (Or.inl rfl) hb.f i (by rw [hb.F]; exact hi), ?_⟩⟩
    · rw [hb.sz, le_of_nI (by omega) (by omega)] at h; omega
    rintro w τ ⟨h9, rfl⟩
    obtain rfl := h9.symm
    rw [hb.F]
    refine ⟨fun h => ?_, fun h1 => ⟨_, ev_ntz _ _ _, ?_⟩⟩
    · exact go ((m, l, f), _) _ _ (by rw [← nI_1 i]; rfl) rfl (by rw [hn, rgT, if_neg (fun q => q.1 h)])
    rintro w τ ⟨h9, rfl⟩
    obtain rfl := h9.symm
    refine ⟨fun h => ?_, fun h2 => ⟨_, ev_bc _ _ _, ?_⟩⟩
    · exact go ((m, l, f), _) _ _ (by rw [← nI_1 i]; rfl) rfl (by rw [hn, rgT, if_neg (fun q => h q.2)])
    rintro w τ ⟨h9, rfl⟩
    obtain rfl := h9.symm
    refine ⟨fun h => ?_, fun h3 => ⟨_, ev_bc _ _ _, ?_⟩⟩
    · exact go ((m + 1, l, f), _) _ _ (by rw [← nI_1 i, ← nI_1 m]; rfl) rfl (by rw [hn, rgT, if_pos ⟨h1, h2⟩]; simp only; rw [if_pos h])
    rintro w τ ⟨h9, rfl⟩
    obtain rfl := h9.symm
    exact go ((m + 1, bcS (ringS A.F i), nI i), _) _ _ (by rw [← nI_1 i, ← nI_1 m]; rfl) rfl (by rw [hn, rgT, if_pos ⟨h1, h2⟩]; simp only; rw [if_neg h3])
  · rintro ⟨⟨m, l, f⟩, o⟩ hI
    simp only at hI ⊢
    have hm : m ≤ fN A.F := by have := rings_le A.F (fN A.F); rw [← hI] at this; exact this
    unfold ringsC
    rw [← hI]
    refine wpW K_X11_rings [9] 60 ?_
    refine ⟨fun h => ⟨_, ev_rclears _ _, ?_⟩, fun h => ?_⟩
    · rintro w σ2 ⟨rfl, e2, k2, f2⟩
      refine ⟨fun h => ?_, fun h => ⟨_, ev_rtell2 _ _ _ _, ?_⟩⟩
      · rw [show (0 : Int32) = nI 0 from rfl, le_of_nI (by omega) (by omega)] at h
        rw [if_pos (show (m, l, f).1 = 0 by simp only; omega)]
        exact ⟨rfl, cv_end hb (f2.up _ (by decide)) k2 e2⟩
      · rintro w σ3 ⟨rfl, e3, k3, f3⟩
        rw [show (0 : Int32) = nI 0 from rfl, le_of_nI (by omega) (by omega)] at h
        rw [if_neg (show ¬ (m, l, f).1 = 0 by simp only; omega)]
        exact ⟨rfl, cv_end hb ((f2.up _ (by decide)).tr (f3.up _ (by decide))) k3 e3⟩
    · rw [hb.sz, le_of_nI (by omega) (by omega)] at h; omega
