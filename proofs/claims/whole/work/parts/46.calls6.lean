/-! the class's calls: silences, goes, wed, loud, robs -/
theorem CB.rd {σ : Sto} {A : AS} {r s : Nat} (hb : CB σ A r s) : (∀ i, i < 7 → gA σ 6 (nI i).toNatClampNeg = fPl A.F i) ∧ (∀ i, i < 7 → gA σ 7 (nI i).toNatClampNeg = fVo A.F i) ∧ (∀ i, i < 7 → gA σ 8 (nI i).toNatClampNeg = fPu A.F i) ∧ (∀ i, i < 7 → gA σ 9 (nI i).toNatClampNeg = fHo A.F i) ∧ (∀ i, i < 7 → gA σ 10 (nI i).toNatClampNeg = fAg A.F i) := by
  obtain ⟨a, b, c, d, e, -⟩ := cF_rd σ 5
  rw [hb.F] at a b c d e
  exact ⟨a, b, c, d, e⟩
theorem ev_homesAfter (k : Nat) {σ0 σ : Sto} {A : AS} {r s : Nat} (hb : CB σ0 A r s) (h : Fr lS σ0 σ) (d : Nat) (hd : d ≤ 1024) (sil : Int32) : EvM (k + 6) M_X11_homesAfter [.ref 0, .int (nI d), .int sil] σ (fun v τ => v = some (.int (bcS (homesS (daysS A.ev sil (fN A.F) A.F d)))) ∧ Fr [11, 12, 13, 14, 15, 16, 48, 51] σ τ) := by
  refine EvM.of mk_X11_homesAfter (Nat.le_of_ble_eq_true rfl) ?_
  refine wpW K_X11_homesAfter [] 60 ?_
  refine ⟨_, ev_takes5 _ hb h, ?_⟩
  rintro w σ1 ⟨rfl, t1, f1⟩
  refine ⟨r, (hb.sS t1.1).r1, _, ev_passDays11 _ hb t1 d hd sil, ?_⟩
  rintro w σ2 ⟨rfl, t2, -, f2⟩
  refine ⟨_, ev_homes11 _ t2, ?_⟩
  rintro w τ' ⟨h9, rfl⟩
  obtain rfl := h9.symm
  refine ⟨_, ev_bc _ _ _, ?_⟩
  rintro w τ' ⟨h9, rfl⟩
  obtain rfl := h9.symm
  exact ⟨rfl, (f1.up _ (by decide)).tr (f2.up _ (by decide))⟩
def silS (ev : (Nat → Int32) → Int32) (F : FS) (d : Nat) (n : Nat) : Int32 × Int32 := fo (fun q st => if bcS (homesS (daysS ev (nI q) (fN F) F d)) ≤ st.1 then st else (bcS (homesS (daysS ev (nI q) (fN F) F d)), nI q)) (-1, -1) n
def silC (A : AS) (x : Int32) : Int32 × AS := if inS 31 x && !decide (x = 0) then (if fN A.F = 0 then (-2, A) else ((silS A.ev A.F x.toNatClampNeg (fN A.F)).2, A.wR [(silS A.ev A.F x.toNatClampNeg (fN A.F)).1.toInt64, (bcS (homesS (daysS A.ev (-1) (fN A.F) A.F x.toNatClampNeg))).toInt64])) else (-1, A)
theorem cc_silences (k : Nat) (A : AS) (x : Int32) : CC (k + 7) M_X11_silences [.int x] A (.int (silC A x).1) (silC A x).2 := by
  intro σ hv
  obtain ⟨r, s, hb⟩ := hv.b
  have h7 := hb.n7
  have hno : ¬ (inS 31 x = true ∧ ¬ x = 0) → some (Value.int (-1)) = some (Value.int (silC A x).1) ∧ CV σ (silC A x).2 ∧ Fr lC σ σ := by
    intro c
    unfold silC
    rw [if_neg (by simpa using c)]
    exact ⟨rfl, hv, Fr.rf⟩
  refine EvM.of mk_X11_silences (Nat.le_of_ble_eq_true rfl) ?_
  refine wpW K_X11_silences [33] 60 ?_
  refine ⟨fun h => hno (fun q => ?_), fun h1 => ⟨fun h2 => ?_, fun h => hno (fun q => ?_)⟩⟩
  · obtain ⟨e1, e2⟩ := inS_80 (by omega) q.1
    generalize x.toNatClampNeg = d at e1 e2
    subst e2
    rw [show (1 : Int32) = nI 1 from rfl, lt_of_nI (by omega) (by omega)] at h
    exact q.2 (by rw [show d = 0 by omega]; rfl)
  rotate_left
  · exact h (by have := ((cnd (n := 30) (by omega)).mp q.1).2; rw [Int32.lt_iff_toInt_lt] at this; rw [Int32.le_iff_toInt_le]; exact Int.not_lt.mp this)
  have hin : inS 31 x = true := by
    rw [Int32.lt_iff_toInt_lt] at h1; rw [Int32.le_iff_toInt_le] at h2
    exact decide_eq_true ⟨by simp at h1; omega, by simp at h2; omega⟩
  have hx0 : ¬ x = 0 := fun e => h1 (by rw [e]; decide)
  unfold silC
  rw [if_pos (by simp [hin, hx0])]
  obtain ⟨d1, d2⟩ := inS_80 (by omega) hin
  generalize x.toNatClampNeg = d at d1 d2
  subst d2
  refine ⟨fun h => ?_, fun h => ?_⟩
  rotate_left
  · rw [hb.sz, show (0 : Int32) = nI 0 from rfl, eq_of_nI (by omega) (by omega)] at h
    rw [if_pos h]
    exact ⟨rfl, hv, Fr.rf⟩
  rw [hb.sz, show (0 : Int32) = nI 0 from rfl, eq_of_nI (by omega) (by omega)] at h
  rw [if_neg h]
  obtain ⟨o, ho⟩ : ∃ o : Option Value, o = none := ⟨none, rfl⟩
  refine loopI (α := Sto × Int32 × Int32 × Option Value) 33 (fun i a => [some (.ref 0), some (.int (nI d)), some (.int a.2.2.1), some (.int a.2.1), some (.int (nI i)), a.2.2.2]) (fun a => a.1) (fun i a => Fr lS σ a.1 ∧ (a.2.1, a.2.2.1) = silS A.ev A.F d i) (fN A.F) ?_ ?_ 0 (σ, -1, -1, none) (Nat.zero_le _) ⟨Fr.rf, rfl⟩
  · rintro i ⟨τ, m, b, o⟩ hi ⟨f, hI⟩ go
    simp only at f hI ⊢
    refine wpW K_X11_silences [33] 60 ?_
    refine ⟨fun h => ?_, fun _ => ⟨_, ev_homesAfter _ hb f d (by omega) _, ?_⟩⟩
    · rw [(hb.sS f).sz, le_of_nI (by omega) (by omega)] at h; omega
    rintro w τ' ⟨rfl, f'⟩
    have f2 : Fr lS σ τ' := f.tr (f'.up _ (by decide))
    refine ⟨fun h => ?_, fun h => ?_⟩
    · exact go (τ', m, b, _) _ _ (by rw [← nI_1 i]; rfl) rfl ⟨f2, by rw [silS, fo, ← silS, ← hI]; exact (if_pos h).symm⟩
    · exact go (τ', _, nI i, _) _ _ (by rw [← nI_1 i]; rfl) rfl ⟨f2, by rw [silS, fo, ← silS, ← hI]; exact (if_neg h).symm⟩
  · rintro ⟨τ, m, b, o⟩ ⟨f, hI⟩
    simp only at f hI ⊢
    refine wpW K_X11_silences [33] 60 ?_
    refine ⟨fun h => ⟨_, ev_homesAfter _ hb f d (by omega) _, ?_⟩, fun h => ?_⟩
    · rintro w τ' ⟨rfl, f'⟩
      refine ⟨_, ev_rtell2 _ _ _ _, ?_⟩
      rintro w σ3 ⟨rfl, e3, k3, f3⟩
      rw [← hI]
      exact ⟨rfl, cv_end hb ((f.tr (f'.up _ (by decide))).tr (f3.up _ (by decide))) k3 e3⟩
    · rw [(hb.sS f).sz, le_of_nI (by omega) (by omega)] at h; omega
def goF (F : FS) (q p : Nat) : FS := wPl F (upd (fPl F) q (nI p))
def goN (ev : (Nat → Int32) → Int32) (F : FS) (q p : Nat) : Int32 := bcS (sayableS ev (goF F q p) q)
/-- the most, where -/
def goS (ev : (Nat → Int32) → Int32) (F : FS) (q : Nat) (to : Int32) (n : Nat) : Int32 × Int32 := fo (fun p st => if st.1 < goN ev F q p ∨ goN ev F q p = st.1 ∧ absS (nI p - fPl F q) < absS (st.2 - fPl F q) then (goN ev F q p, nI p) else st) (-1, to) n
def goesC (A : AS) (x : Int32) : Int32 × AS := if inS (fN A.F) x then ((goS A.ev A.F x.toNatClampNeg (fPl A.F x.toNatClampNeg) 10).2, A.wR [(goS A.ev A.F x.toNatClampNeg (fPl A.F x.toNatClampNeg) 10).1.toInt64, (absS ((goS A.ev A.F x.toNatClampNeg (fPl A.F x.toNatClampNeg) 10).2 - fPl A.F x.toNatClampNeg)).toInt64]) else (-1, A)
theorem ev_sayable11 (k : Nat) {σ0 σ : Sto} {A : AS} {r s : Nat} {G : FS} (hb : CB σ0 A r s) (h : TI σ0 σ G) (q : Nat) (hq : q < fN G) : EvM (k + 4) M_X2_sayable [.ref 11, .ref r, .int (nI q)] σ (fun v τ => v = some (.int (sayableS A.ev G q)) ∧ TI σ0 τ G) := by
  have hb' := hb.sS h.1
  have h1 := ev_sayable k σ r 11 hb.r (Or.inr rfl) h.2.1 A.ev hb'.rc q (by rw [h.2.2]; exact hq)
  rw [h.2.2] at h1
  refine h1.post ?_
  rintro v τ ⟨rfl, f⟩
  have f5 := apart hb.r (f := 11) (Or.inr rfl)
  refine ⟨rfl, h.1.tr ?_, cOK_fr f f5 h.2.1, (cF_fr f f5).trans h.2.2⟩
  rcases hb.r with rfl | rfl <;> exact f.up _ (by decide)
theorem upd_upd {f : Nat → Int32} {i : Nat} {a b : Int32} : upd (upd f i a) i b = upd f i b := by
  funext j
  unfold upd
  split <;> rfl
theorem ti_go {σ0 σ : Sto} {F : FS} {q p : Nat} {G : FS} (hG : G = F ∨ ∃ p', G = goF F q p') (hq : q < 7) (h : TI σ0 σ G) : TI σ0 (sA σ 12 (upd (gA σ 12) q (nI p))) (goF F q p) := by
  have e : cF (sA σ 12 (upd (gA σ 12) q (nI p))) 11 = goF F q p := by
    rw [show (12 : Nat) = 11 + 1 from rfl, cF_Pl, r7_upd hq, h.2.2, show r7 (gA σ (11 + 1)) = fPl (cF σ 11) from rfl, h.2.2]
    rcases hG with rfl | ⟨p', rfl⟩
    · rfl
    · show wPl F (upd (upd (fPl F) q (nI p')) q (nI p)) = _
      rw [upd_upd]; rfl
  refine ⟨h.1.sA (by decide), ⟨?_, ?_⟩, e⟩
  · rw [e]
    have := h.2.1.1
    rw [h.2.2] at this
    rcases hG with rfl | ⟨p', rfl⟩ <;> exact this
  · rw [e]
    have := h.2.1.2
    rw [h.2.2] at this
    rcases hG with rfl | ⟨p', rfl⟩ <;> exact this
theorem cc_goes (k : Nat) (A : AS) (x : Int32) : CC (k + 5) M_X11_goes [.int x] A (.int (goesC A x).1) (goesC A x).2 := by
  intro σ hv
  obtain ⟨r, s, hb⟩ := hv.b
  have h7 := hb.n7
  refine EvM.of mk_X11_goes (Nat.le_of_ble_eq_true rfl) ?_
  refine wpW K_X11_goes [34] 60 ?_
  refine ⟨_, ev_has5 _ σ hb x, ?_⟩
  rintro w τ ⟨h9, rfl⟩
  obtain rfl := h9.symm
  unfold goesC
  refine ⟨fun h0 => ?_, fun h0 => ?_⟩
  rotate_left
  · have h0' : ¬ inS (fN A.F) x = true := fun q => by rw [q] at h0; exact absurd h0 (by decide)
    rw [if_neg h0']
    exact ⟨rfl, hv, Fr.rf⟩
  have h0' := (bI_ne _).mp h0
  rw [if_pos h0']
  obtain ⟨e1, e2⟩ := in_of hb.n7 h0'
  generalize x.toNatClampNeg = q at e1 e2
  subst e2
  refine ⟨_, ev_takes5 _ hb Fr.rf, ?_⟩
  rintro w σ1 ⟨rfl, t1, f1⟩
  refine ⟨in7 (by omega), ?_⟩
  rw [(hb.sS t1.1).rd.1 q (by omega)]
  refine wpW K_X11_goes [42] 60 ?_
  refine loopI (α := Sto × FS × Int32 × Int32 × Option Value) 42 (fun i a => [some (.ref 0), some (.int (nI q)), some (.int (fPl A.F q)), some (.int a.2.2.2.1), some (.int a.2.2.1), some (.int (nI i)), a.2.2.2.2]) (fun a => a.1) (fun i a => TI σ a.1 a.2.1 ∧ (a.2.1 = A.F ∨ ∃ p, a.2.1 = goF A.F q p) ∧ (a.2.2.1, a.2.2.2.1) = goS A.ev A.F q (fPl A.F q) i) 10 ?_ ?_ 0 (σ1, A.F, -1, fPl A.F q, none) (Nat.zero_le _) ⟨t1, Or.inl rfl, rfl⟩
  · rintro i ⟨τ, G, m, b, o⟩ hi ⟨t, hG, hI⟩ go
    simp only at t hG hI ⊢
    refine wpW K_X11_goes [42, 60] 60 ?_
    refine ⟨fun h => ?_, fun _ => ⟨in7 (by omega), ?_⟩⟩
    · rw [show (10 : Int32) = nI 10 from rfl, le_of_nI (by omega) (by omega)] at h; omega
    have t2 := ti_go (p := i) hG (by omega) t
    rw [nI_clamp (by omega)]
    refine wpW K_X11_goes [42] 60 ?_
    refine ⟨r, (hb.sS t2.1).r1, _, ev_sayable11 _ hb t2 q e1, ?_⟩
    rintro w τ' ⟨rfl, t3⟩
    refine ⟨_, ev_bc _ _ _, ?_⟩
    rintro w τ'' ⟨h9, rfl⟩
    obtain rfl := h9.symm
    have yes : (m < goN A.ev A.F q i ∨ goN A.ev A.F q i = m ∧ absS (nI i - fPl A.F q) < absS (b - fPl A.F q)) → (goN A.ev A.F q i, nI i) = goS A.ev A.F q (fPl A.F q) (i + 1) := by
      intro c; rw [goS, fo, ← goS, ← hI]; exact (if_pos c).symm
    have no : ¬ (m < goN A.ev A.F q i ∨ goN A.ev A.F q i = m ∧ absS (nI i - fPl A.F q) < absS (b - fPl A.F q)) → (m, b) = goS A.ev A.F q (fPl A.F q) (i + 1) := by
      intro c; rw [goS, fo, ← goS, ← hI]; exact (if_neg c).symm
    refine ⟨fun h => ?_, fun h => ⟨fun h2 => ?_, fun h2 => ⟨fun h3 => ?_, fun h3 => ?_⟩⟩⟩
    · exact go (τ', _, _, _, _) _ _ (by rw [← nI_1 i]; rfl) rfl ⟨t3, Or.inr ⟨i, rfl⟩, yes (Or.inl h)⟩
    · exact go (τ', _, m, b, _) _ _ (by rw [← nI_1 i]; rfl) rfl ⟨t3, Or.inr ⟨i, rfl⟩, no (fun c => c.elim h (fun c => h2 c.1))⟩
    · exact go (τ', _, m, b, _) _ _ (by rw [← nI_1 i]; rfl) rfl ⟨t3, Or.inr ⟨i, rfl⟩, no (fun c => c.elim h (fun c => Int32.not_lt.mpr h3 c.2))⟩
    · exact go (τ', _, _, _, _) _ _ (by rw [← nI_1 i]; rfl) rfl ⟨t3, Or.inr ⟨i, rfl⟩, yes (Or.inr ⟨h2, Int32.not_le.mp h3⟩)⟩
  · rintro ⟨τ, G, m, b, o⟩ ⟨t, hG, hI⟩
    simp only at t hG hI ⊢
    refine wpW K_X11_goes [42] 60 ?_
    refine ⟨fun h => ⟨_, ev_rtell2 _ _ _ _, ?_⟩, fun h => absurd (show (10 : Int32) ≤ nI 10 by decide) h⟩
    rintro w σ3 ⟨rfl, e3, k3, f3⟩
    rw [← hI]
    exact ⟨rfl, cv_end hb (t.told f3).1 k3 e3⟩
