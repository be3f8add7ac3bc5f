/-! the class's calls: wed, loud, robs, rings, leads -/
def wedS (F : FS) (n : Nat) : Nat × List Int64 := fo (fun a st => if a < hoN F a ∧ hoN F (hoN F a) = a then (st.1 + 1, if st.1 = 0 then [(nI a).toInt64, (nI (hoN F a)).toInt64] else st.2) else st) (0, []) n
theorem wed_le (F : FS) : ∀ n, (wedS F n).1 ≤ n ∧ (wedS F n).2.length ≤ 2 := by
  intro n
  induction n with
  | zero => exact ⟨Nat.le_refl _, Nat.zero_le _⟩
  | succ n ih =>
    rw [wedS, fo, ← wedS]
    split
    · refine ⟨by simp only; omega, ?_⟩
      simp only
      split
      · simp
      · exact ih.2
    · exact ⟨by omega, ih.2⟩
theorem cc_wed (k : Nat) (A : AS) : CC (k + 2) M_X11_wed [] A (.int (nI (wedS A.F (fN A.F)).1)) (A.wR (wedS A.F (fN A.F)).2) := by
  intro σ hv
  obtain ⟨r, s, hb⟩ := hv.b
  have h7 := hb.n7
  refine EvM.of mk_X11_wed (Nat.le_of_ble_eq_true rfl) ?_
  refine wpW K_X11_wed [11] 60 ?_
  refine ⟨_, ev_rclears _ _, ?_⟩
  rintro w σ1 ⟨rfl, e1, k1, f1⟩
  refine loopI (α := Sto × Nat × List Int64 × Option Value) 11 (fun i a => [some (.ref 0), some (.int (nI a.2.1)), some (.int (nI i)), a.2.2.2]) (fun a => a.1) (fun i a => Fr [3, 4] σ a.1 ∧ tOK a.1 ∧ tR a.1 = a.2.2.1 ∧ (a.2.1, a.2.2.1) = wedS A.F i) (fN A.F) ?_ ?_ 0 (σ1, 0, [], none) (Nat.zero_le _) ⟨f1, k1, e1, rfl⟩
  · rintro i ⟨τ, c, R, o⟩ hi ⟨f, ht, hR, hI⟩ go
    simp only at f ht hR hI ⊢
    have hb' := hb.sS (f.up _ (by decide))
    have hc := (wed_le A.F i).1
    rw [← hI] at hc
    simp only at hc
    obtain ⟨ho1, ho2⟩ := fs_ho hb.fs hi
    obtain ⟨hp1, hp2⟩ := fs_ho hb.fs ho1
    refine wpW K_X11_wed [11, 31] 60 ?_
    refine ⟨fun h => ?_, fun _ => ⟨in7 (by omega), ?_⟩⟩
    · rw [hb'.sz, le_of_nI (by omega) (by omega)] at h; omega
    rw [hb'.rd.2.2.2.1 i (by omega), ho2]
    refine wpW K_X11_wed [11] 60 ?_
    have yes : (i < hoN A.F i ∧ hoN A.F (hoN A.F i) = i) → (c + 1, if c = 0 then [(nI i).toInt64, (nI (hoN A.F i)).toInt64] else R) = wedS A.F (i + 1) := by
      intro q; rw [wedS, fo, ← wedS, ← hI]; exact (if_pos q).symm
    have no : ¬ (i < hoN A.F i ∧ hoN A.F (hoN A.F i) = i) → (c, R) = wedS A.F (i + 1) := by
      intro q; rw [wedS, fo, ← wedS, ← hI]; exact (if_neg q).symm
    refine ⟨fun h => ?_, fun h => ⟨in7 (by omega), fun h2 => ?_, fun h2 => ⟨fun h3 => ?_, fun h3 => ?_⟩⟩⟩
    · rw [le_of_nI (by omega) (by omega)] at h
      exact go (τ, c, R, _) _ _ (by rw [← nI_1 i]; rfl) rfl ⟨f, ht, hR, no (fun q => by omega)⟩
    · rw [hb'.rd.2.2.2.1 _ (by omega), hp2, eq_of_nI (by omega) (by omega)] at h2
      exact go (τ, c, R, _) _ _ (by rw [← nI_1 i]; rfl) rfl ⟨f, ht, hR, no (fun q => h2 q.2)⟩
    · rw [hb'.rd.2.2.2.1 _ (by omega), hp2, eq_of_nI (by omega) (by omega)] at h2
      rw [le_of_nI (by omega) (by omega)] at h
      rw [show (0 : Int32) = nI 0 from rfl, eq_of_nI (by omega) (by omega)] at h3
      have y := yes ⟨by omega, h2⟩
      rw [if_neg h3] at y
      exact go (τ, c + 1, R, _) _ _ (by rw [← nI_1 i, ← nI_1 c]; rfl) rfl ⟨f, ht, hR, y⟩
    · rw [hb'.rd.2.2.2.1 _ (by omega), hp2, eq_of_nI (by omega) (by omega)] at h2
      rw [le_of_nI (by omega) (by omega)] at h
      rw [show (0 : Int32) = nI 0 from rfl, eq_of_nI (by omega) (by omega)] at h3
      refine ⟨_, ev_rtell2 _ _ _ _, ?_⟩
      rintro w σ3 ⟨rfl, e3, k3, f3⟩
      have y := yes ⟨by omega, h2⟩
      rw [if_pos h3] at y
      exact go (σ3, c + 1, [(nI i).toInt64, (nI (hoN A.F i)).toInt64], _) _ _ (by rw [← nI_1 i, ← nI_1 c]; rfl) rfl ⟨f.tr f3, k3, e3, y⟩
  · rintro ⟨τ, c, R, o⟩ ⟨f, ht, hR, hI⟩
    simp only at f ht hR hI ⊢
    have f' : Fr lS σ τ := f.up _ (by decide)
    refine wpW K_X11_wed [11] 60 ?_
    refine ⟨fun h => ?_, fun h => ?_⟩
    · rw [← hI]
      exact ⟨rfl, cv_end hb f' ht hR⟩
    · rw [(hb.sS f').sz, le_of_nI (by omega) (by omega)] at h; omega
/-- who, the most, what is said -/
def loudS (ev : (Nat → Int32) → Int32) (F : FS) (n : Nat) : Int32 × Int32 × Int32 := fo (fun q st => if bcS (sayableS ev F q) ≤ st.2.1 then (st.1, st.2.1, st.2.2 ||| sayableS ev F q) else (nI q, bcS (sayableS ev F q), st.2.2 ||| sayableS ev F q)) (0, -1, 0) n
def loudC (A : AS) : Int32 × AS := if fN A.F = 0 then (-2, A) else ((loudS A.ev A.F (fN A.F)).1, A.wR [(loudS A.ev A.F (fN A.F)).2.1.toInt64, (allS (fN A.F) &&& ((loudS A.ev A.F (fN A.F)).2.2 ^^^ -1)).toInt64])
theorem ev_sayable5 (k : Nat) {σ0 σ : Sto} {A : AS} {r s : Nat} (hb : CB σ0 A r s) (h : Fr lS σ0 σ) (q : Nat) (hq : q < fN A.F) : EvM (k + 4) M_X2_sayable [.ref 5, .ref r, .int (nI q)] σ (fun v τ => v = some (.int (sayableS A.ev A.F q)) ∧ Fr [48, 51] σ τ) := by
  have hb' := hb.sS h
  have h1 := ev_sayable k σ r 5 hb.r (Or.inl rfl) hb'.f A.ev hb'.rc q (by rw [hb'.F]; exact hq)
  rw [hb'.F] at h1
  refine h1.post ?_
  rintro v τ ⟨rfl, f⟩
  refine ⟨rfl, ?_⟩
  rcases hb.r with rfl | rfl <;> exact f.up _ (by decide)
theorem cc_loud (k : Nat) (A : AS) : CC (k + 5) M_X11_loud [] A (.int (loudC A).1) (loudC A).2 := by
  intro σ hv
  obtain ⟨r, s, hb⟩ := hv.b
  have h7 := hb.n7
  refine EvM.of mk_X11_loud (Nat.le_of_ble_eq_true rfl) ?_
  refine wpW K_X11_loud [22] 60 ?_
  unfold loudC
  refine ⟨fun h => ?_, fun h => ?_⟩
  rotate_left
  · rw [hb.sz, show (0 : Int32) = nI 0 from rfl, eq_of_nI (by omega) (by omega)] at h
    rw [if_pos h]
    exact ⟨rfl, hv, Fr.rf⟩
  rw [hb.sz, show (0 : Int32) = nI 0 from rfl, eq_of_nI (by omega) (by omega)] at h
  rw [if_neg h]
  refine loopI (α := Sto × (Int32 × Int32 × Int32) × Option Value) 22 (fun i a => [some (.ref 0), some (.int a.2.1.1), some (.int a.2.1.2.1), some (.int a.2.1.2.2), some (.int (nI i)), a.2.2]) (fun a => a.1) (fun i a => Fr lS σ a.1 ∧ a.2.1 = loudS A.ev A.F i) (fN A.F) ?_ ?_ 0 (σ, (0, -1, 0), none) (Nat.zero_le _) ⟨Fr.rf, rfl⟩
  · rintro i ⟨τ, ⟨l, m, b⟩, o⟩ hi ⟨f, hI⟩ go
    simp only at f hI ⊢
    refine wpW K_X11_loud [22] 60 ?_
    refine ⟨fun h => ?_, fun _ => ⟨r, (hb.sS f).r1, _, ev_sayable5 _ hb f i hi, ?_⟩⟩
    · rw [(hb.sS f).sz, le_of_nI (by omega) (by omega)] at h; omega
    rintro w τ' ⟨rfl, f'⟩
    have f2 : Fr lS σ τ' := f.tr (f'.up _ (by decide))
    refine ⟨_, ev_bc _ _ _, ?_⟩
    rintro w τ'' ⟨h9, rfl⟩
    obtain rfl := h9.symm
    refine ⟨fun h => ?_, fun h => ⟨_, ev_bc _ _ _, ?_⟩⟩
    · exact go (τ', (l, m, _), _) _ _ (by rw [← nI_1 i]; rfl) rfl ⟨f2, by rw [loudS, fo, ← loudS, ← hI]; exact (if_pos h).symm⟩
    · rintro w τ'' ⟨h9, rfl⟩
      obtain rfl := h9.symm
      exact go (τ', (nI i, _, _), _) _ _ (by rw [← nI_1 i]; rfl) rfl ⟨f2, by rw [loudS, fo, ← loudS, ← hI]; exact (if_neg h).symm⟩
  · rintro ⟨τ, ⟨l, m, b⟩, o⟩ ⟨f, hI⟩
    simp only at f hI ⊢
    refine wpW K_X11_loud [22] 60 ?_
    refine ⟨fun h => ⟨_, ev_rtell2 _ _ _ _, ?_⟩, fun h => ?_⟩
    · rintro w σ3 ⟨rfl, e3, k3, f3⟩
      rw [(hb.sS f).sz] at e3
      rw [← hI]
      exact ⟨rfl, cv_end hb (f.tr (f3.up _ (by decide))) k3 e3⟩
    · rw [(hb.sS f).sz, le_of_nI (by omega) (by omega)] at h; omega
def opI (o : Option Nat) : Int32 := match o with
  | some q => nI q
  | none => -1
def robS (F : FS) (q : Nat) (n : Nat) : Int32 × Option Nat := fo (fun i st => if fHo F i = nI q ∧ ¬ i = q then (st.1 + fPu F i, match st.2 with
    | some b => if fPu F i ≤ fPu F b then some b else some i
    | none => some i) else st) (0, none) n
theorem rob_lt (F : FS) (q : Nat) : ∀ n b, (robS F q n).2 = some b → b < n := by
  intro n
  induction n with
  | zero => intro b h; exact absurd h (by simp [robS, fo])
  | succ n ih =>
    intro b h
    rw [robS, fo, ← robS] at h
    split at h
    · simp only at h
      match hs : (robS F q n).2, h with
      | some c, h =>
        simp only at h
        split at h
        · have := ih c hs; injection h with h; omega
        · injection h with h; omega
      | none, h => simp only at h; injection h with h; omega
    · have := ih b h; omega
def robsC (A : AS) (x : Int32) : Int32 × AS := if inS (fN A.F) x then ((robS A.F x.toNatClampNeg (fN A.F)).1, A.wR [(opI (robS A.F x.toNatClampNeg (fN A.F)).2).toInt64]) else (-1, A)
theorem cc_robs (k : Nat) (A : AS) (x : Int32) : CC (k + 2) M_X11_robs [.int x] A (.int (robsC A x).1) (robsC A x).2 := by
  intro σ hv
  obtain ⟨r, s, hb⟩ := hv.b
  have h7 := hb.n7
  refine EvM.of mk_X11_robs (Nat.le_of_ble_eq_true rfl) ?_
  refine wpW K_X11_robs [20] 60 ?_
  refine ⟨_, ev_has5 _ σ hb x, ?_⟩
  rintro w τ ⟨h9, rfl⟩
  obtain rfl := h9.symm
  unfold robsC
  refine ⟨fun h0 => ?_, fun h0 => ?_⟩
  rotate_left
  · have h0' : ¬ inS (fN A.F) x = true := fun q => by rw [q] at h0; exact absurd h0 (by decide)
    rw [if_neg h0']
    exact ⟨rfl, hv, Fr.rf⟩
  have h0' := (bI_ne _).mp h0
  rw [if_pos h0']
  obtain ⟨e1, e2⟩ := in_of hb.n7 h0'
  generalize x.toNatClampNeg = q at e1 e2
  subst e2
  refine loopI (α := Int32 × Option Nat) 20 (fun i a => [some (.ref 0), some (.int (nI q)), some (.int a.1), some (.int (opI a.2)), some (.int (nI i))]) (fun _ => σ) (fun i a => a = robS A.F q i) (fN A.F) ?_ ?_ 0 (0, none) (Nat.zero_le _) rfl
  · rintro i ⟨m, b⟩ hi hI go
    simp only at hI ⊢
    have hlt := rob_lt A.F q i
    rw [← hI] at hlt
    refine wpW K_X11_robs [20] 60 ?_
    refine ⟨fun h => ?_, fun _ => ⟨in7 (by omega), fun h => ?_, fun h => ⟨fun h2 => ?_, fun h2 => ⟨in7 (by omega), fun h3 => ?_, fun h3 => ?_⟩⟩⟩⟩
    · rw [hb.sz, le_of_nI (by omega) (by omega)] at h; omega
    · rw [hb.rd.2.2.2.1 i (by omega)] at h
      exact go (m, b) _ _ (by rw [← nI_1 i]; rfl) rfl (by rw [robS, fo, ← robS, ← hI]; exact (if_neg (fun c => h c.1)).symm)
    · rw [eq_of_nI (by omega) (by omega)] at h2
      exact go (m, b) _ _ (by rw [← nI_1 i]; rfl) rfl (by rw [robS, fo, ← robS, ← hI]; exact (if_neg (fun c => c.2 h2)).symm)
    · rw [hb.rd.2.2.2.1 i (by omega)] at h
      rw [eq_of_nI (by omega) (by omega)] at h2
      match b, hI, hlt, h3 with
      | some c, _, hlt, h3 => exact absurd h3 (ge0_nI (by have := hlt c rfl; omega))
      | none, hI, _, _ =>
        refine go (m + fPu A.F i, some i) _ _ (by rw [← nI_1 i, hb.rd.2.2.1 i (by omega)]; rfl) rfl ?_
        rw [robS, fo, ← robS, ← hI]; exact (if_pos ⟨h, h2⟩).symm
    · rw [hb.rd.2.2.2.1 i (by omega)] at h
      rw [eq_of_nI (by omega) (by omega)] at h2
      match b, hI, hlt, h3 with
      | none, _, _, h3 => exact absurd (show (-1 : Int32) < 0 by decide) h3
      | some c, hI, hlt, h3 =>
        have hc := hlt c rfl
        refine ⟨in7 (by omega), in7 (by omega), fun h4 => ?_, fun h4 => ?_⟩
        · rw [hb.rd.2.2.1 i (by omega), show opI (some c) = nI c from rfl, hb.rd.2.2.1 c (by omega)] at h4
          refine go (m + fPu A.F i, some c) _ _ (by rw [← nI_1 i, hb.rd.2.2.1 i (by omega)]; rfl) rfl ?_
          rw [robS, fo, ← robS, ← hI]
          simp only [if_pos h4]
          exact (if_pos ⟨h, h2⟩).symm
        · rw [hb.rd.2.2.1 i (by omega), show opI (some c) = nI c from rfl, hb.rd.2.2.1 c (by omega)] at h4
          refine go (m + fPu A.F i, some i) _ _ (by rw [← nI_1 i, hb.rd.2.2.1 i (by omega)]; rfl) rfl ?_
          rw [robS, fo, ← robS, ← hI]
          simp only [if_neg h4]
          exact (if_pos ⟨h, h2⟩).symm
  · rintro ⟨m, b⟩ hI
    simp only at hI ⊢
    refine wpW K_X11_robs [20] 60 ?_
    refine ⟨fun h => ⟨_, ev_rtell _ _ _, ?_⟩, fun h => ?_⟩
    · rintro w σ3 ⟨rfl, e3, k3, f3⟩
      rw [← hI]
      exact ⟨rfl, cv_end hb (f3.up _ (by decide)) k3 e3⟩
    · rw [hb.sz, le_of_nI (by omega) (by omega)] at h; omega
