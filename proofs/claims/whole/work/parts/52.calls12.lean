/-! the class's calls: years -/
theorem CB.sY {σ τ : Sto} {A : AS} {r s : Nat} (hb : CB σ A r s) (h : Fr (41 :: lS) σ τ) (hh : gI τ 41 3 = gI σ 41 3) : CB τ A r s := by
  have hk := hb.kF h (by decide)
  have hx := hb.kX h (by decide) (by decide)
  have hH := hb.kH h (by decide) (by decide) (by decide)
  have hS := hb.kS h (by decide) (by decide) (by decide) (by decide)
  have hr := hb.rk h (by decide)
  refine ⟨hk.1, hk.2, hx.1, hx.2, hb.kP h (by decide) (by decide), hb.rs, hr.1, (h.R (by decide) 12).trans hb.r2, hr.2, hH.1, hH.2, hS.1, hS.2, fromOK_fr h (by decide) hb.fr, ?_⟩
  unfold hushOK
  rw [hh, h.A (by decide)]
  exact hb.hu
def YI (σ τ : Sto) (st : Int32 × FS) : Prop := Fr (41 :: lS) σ τ ∧ gI τ 41 3 = gI σ 41 3 ∧ gI τ 41 5 = st.1 ∧ cOK τ 11 ∧ cF τ 11 = st.2
def yrT (ev : (Nat → Int32) → Int32) (d : Int32) (st : Int32 × FS) : Int32 × FS := if d = 0 then (st.1, dayS ev (-1) (fN st.2) st.2) else if fN st.2 = 0 then st else if d = 3 then (lotS (lotS st.1), (moveS st.2 (drawS st.1 (nI (fN st.2))) (drawS (lotS st.1) 10)).2) else (lotS (lotS st.1), (saidS ev st.2 (drawS st.1 (nI (fN st.2))) (drawS (lotS st.1) (nI (fN st.2)))).2)
theorem move_n {F : FS} {x y : Int32} : fN (moveS F x y).2 = fN F := by
  unfold moveS
  split
  · split <;> rfl
  · rfl
theorem said_n {ev : (Nat → Int32) → Int32} {F : FS} {x y : Int32} : fN (saidS ev F x y).2 = fN F := by
  unfold saidS
  split
  · split
    · rfl
    · split <;> rfl
  · rfl
theorem YI.n {σ0 σ : Sto} {st : Int32 × FS} (h : YI σ0 σ st) : gI σ 11 5 = nI (fN st.2) := by rw [h.2.2.2.1.1, h.2.2.2.2]
theorem ev_drawT (k : Nat) {σ0 σ : Sto} {st : Int32 × FS} (h : YI σ0 σ st) (n : Int32) (hn : 0 < n) : EvM k M_X4_draw [.ref 41, .int n] σ (fun v τ => ∃ q l, q = drawS st.1 n ∧ l = lotS st.1 ∧ v = some (.int q) ∧ YI σ0 τ (l, st.2)) := by
  obtain ⟨f0, h3, h5, hc, hF⟩ := h
  refine (ev_draw k σ n hn).post ?_
  rintro v τ ⟨hτ, rfl⟩
  rw [h5] at hτ ⊢
  refine ⟨_, _, rfl, rfl, rfl, ?_⟩
  generalize lotS st.1 = l at hτ ⊢
  have g : Fr [41] σ τ := by rw [hτ]; exact Fr.rf.sI List.mem_cons_self
  have f5 : ∀ j, j < 6 → 11 + j ∉ [41] := by decide
  exact ⟨f0.tr (g.up _ (by decide)), by rw [hτ, gI_sI, if_neg (by decide)]; exact h3, by rw [hτ, gI_sI, if_pos ⟨rfl, rfl⟩], cOK_fr g f5 hc, (cF_fr g f5).trans hF⟩
theorem ev_triesDrawn (k : Nat) {σ0 σ : Sto} {A : AS} {r s : Nat} (hb : CB σ0 A r s) {st : Int32 × FS} (h : YI σ0 σ st) (d : Int32) : EvM (k + 5) M_X11_triesDrawn [.ref 0, .int d] σ (fun v τ => v = none ∧ YI σ0 τ (yrT A.ev d st) ∧ fN (yrT A.ev d st).2 = fN st.2) := by
  have hn := h.n
  have h7 : fN st.2 ≤ 7 := h.2.2.2.2 ▸ h.2.2.2.1.2.1
  have hb' := hb.sY h.1 h.2.1
  generalize hy : yrT A.ev d st = y
  refine EvM.of mk_X11_triesDrawn (Nat.le_of_ble_eq_true rfl) ?_
  refine wpW K_X11_triesDrawn [] 60 ?_
  refine ⟨fun h0 => ⟨fun h1 => ?_, fun h1 => ⟨_, ev_drawT _ h _ (by rw [hn]; rw [hn] at h1; exact Int32.not_le.mp h1), ?_⟩⟩, fun h0 => ⟨r, hb'.r1, _, ev_passDay _ σ r 11 hb.r (Or.inr rfl) h.2.2.2.1 A.ev hb'.rc _, ?_⟩⟩
  · have e : yrT A.ev d st = st := by
      unfold yrT
      rw [if_neg h0, if_pos]
      rw [hn, show (0 : Int32) = nI 0 from rfl, le_of_nI (by omega) (by omega)] at h1
      omega
    rw [← hy, e]
    exact ⟨rfl, h, rfl⟩
  · have hpos : ¬ fN st.2 = 0 := by
      rw [hn, show (0 : Int32) = nI 0 from rfl, le_of_nI (by omega) (by omega)] at h1
      omega
    have hp2 : 0 < nI (fN st.2) := by rw [show (0 : Int32) = nI 0 from rfl, lt_of_nI (by omega) (by omega)]; omega
    rintro w τ ⟨q, l, hq, hl, rfl, hY⟩
    rw [hn] at hq
    have bY := hb.sY hY.1 hY.2.1
    have n1 := hY.n
    refine ⟨fun h4 => ?_, fun h4 => ?_⟩
    · refine ⟨r, bY.r1, _, ev_drawT _ hY _ (by rw [n1]; exact hp2), ?_⟩
      rintro w τ2 ⟨v, l2, hv, hl2, rfl, hY2⟩
      rw [n1] at hv
      have ey : y = (l2, (saidS A.ev st.2 q v).2) := by
        rw [← hy]; unfold yrT; rw [if_neg h0, if_neg hpos, if_neg h4, ← hl, ← hl2, ← hq, ← hv]
      rw [ey]
      obtain ⟨f0, h3, h5, hc, hF⟩ := hY2
      refine ⟨_, ev_saidBy _ τ2 r 11 hb.r (Or.inr rfl) hc A.ev (hb.sY f0 h3).rc _ _, ?_⟩
      rintro w υ ⟨rfl, c2, o2, f2⟩
      have f2 : Fr lS τ2 υ := by rcases hb.r with rfl | rfl <;> exact f2.up _ (by decide)
      have f2' : Fr (41 :: lS) τ2 υ := f2.mono (fun a ha => List.mem_cons_of_mem _ ha)
      rw [hF] at c2
      exact ⟨rfl, ⟨f0.tr f2', (f2.I (by decide) 3).trans h3, (f2.I (by decide) 5).trans h5, o2, c2⟩, said_n (ev := A.ev) (F := st.2) (x := q) (y := v)⟩
    · refine ⟨_, ev_drawT _ hY _ (by decide), ?_⟩
      rintro w τ2 ⟨v, l2, hv, hl2, rfl, hY2⟩
      have ey : y = (l2, (moveS st.2 q v).2) := by
        rw [← hy]; unfold yrT; rw [if_neg h0, if_neg hpos, if_pos h4, ← hl, ← hl2, ← hq, ← hv]
      rw [ey]
      obtain ⟨f0, h3, h5, hc, hF⟩ := hY2
      refine ⟨_, ev_movedTo _ τ2 11 (Or.inr rfl) hc _ _, ?_⟩
      rintro w υ ⟨rfl, c2, o2, f2⟩
      have f2 : Fr lS τ2 υ := f2.up _ (by decide)
      have f2' : Fr (41 :: lS) τ2 υ := f2.mono (fun a ha => List.mem_cons_of_mem _ ha)
      rw [hF] at c2
      exact ⟨rfl, ⟨f0.tr f2', (f2.I (by decide) 3).trans h3, (f2.I (by decide) 5).trans h5, o2, c2⟩, move_n (F := st.2) (x := q) (y := v)⟩
  · obtain ⟨f0, h3, h5, hc, hF⟩ := h
    rintro w υ ⟨rfl, c2, o2, n2, f2⟩
    have f2 : Fr lS σ υ := (lD11 hb.r f2).up _ (by decide)
    have f2' : Fr (41 :: lS) σ υ := f2.mono (fun a ha => List.mem_cons_of_mem _ ha)
    rw [hF] at c2 n2
    have ey : y = (st.1, dayS A.ev (-1) (fN st.2) st.2) := by rw [← hy]; unfold yrT; rw [if_pos h0]
    rw [ey]
    exact ⟨rfl, ⟨f0.tr f2', (f2.I (by decide) 3).trans h3, (f2.I (by decide) 5).trans h5, o2, c2⟩, n2⟩
def yrS (ev : (Nat → Int32) → Int32) (sd : Int32) (F : FS) (n : Nat) : Int32 × FS := fo (fun _ st => yrT ev (drawS st.1 4) (lotS st.1, st.2)) (sd, F) n
def yearsC (A : AS) (sd x : Int32) : Int32 × AS := if inS 61 x && !decide (x = 0) then (homesS (yrS A.ev sd A.F x.toNatClampNeg).2, A.wR [(fSd (yrS A.ev sd A.F x.toNatClampNeg).2 - fSd A.F).toInt64, (sumS (fN A.F) (fPu (yrS A.ev sd A.F x.toNatClampNeg).2)).toInt64]) else (-1, A)
theorem cc_years (k : Nat) (A : AS) (sd x : Int32) : CC (k + 6) M_X11_years [.int sd, .int x] A (.int (yearsC A sd x).1) (yearsC A sd x).2 := by
  intro σ hv
  obtain ⟨r, s, hb⟩ := hv.b
  have h7 := hb.n7
  have hno : ¬ (inS 61 x = true ∧ ¬ x = 0) → some (Value.int (-1)) = some (Value.int (yearsC A sd x).1) ∧ CV σ (yearsC A sd x).2 ∧ Fr lC σ σ := by
    intro c
    unfold yearsC
    rw [if_neg (by simpa using c)]
    exact ⟨rfl, hv, Fr.rf⟩
  refine EvM.of mk_X11_years (Nat.le_of_ble_eq_true rfl) ?_
  refine wpW K_X11_years [21] 60 ?_
  refine ⟨fun h => hno (fun q => ?_), fun h1 => ⟨fun h2 => ?_, fun h => hno (fun q => ?_)⟩⟩
  · obtain ⟨e1, e2⟩ := inS_80 (by omega) q.1
    generalize x.toNatClampNeg = d at e1 e2
    subst e2
    rw [show (1 : Int32) = nI 1 from rfl, lt_of_nI (by omega) (by omega)] at h
    exact q.2 (by rw [show d = 0 by omega]; rfl)
  rotate_left
  · exact ((cnd (n := 60) (by omega)).mp q.1).2 (Int32.not_le.mp h)
  have hin : inS 61 x = true := by
    rw [Int32.lt_iff_toInt_lt] at h1; rw [Int32.le_iff_toInt_le] at h2
    exact decide_eq_true ⟨by simp at h1; omega, by simp at h2; omega⟩
  have hx0 : ¬ x = 0 := fun e => h1 (by rw [e]; decide)
  unfold yearsC
  rw [if_pos (by simp [hin, hx0])]
  obtain ⟨d1, d2⟩ := inS_80 (by omega) hin
  generalize x.toNatClampNeg = d at d1 d2
  subst d2
  show WW M_X11_years _ _ 21 _ _ (sI σ 41 5 sd)
  have g0 : Fr (41 :: lS) σ (sI σ 41 5 sd) := Fr.rf.sI List.mem_cons_self
  have g3 : gI (sI σ 41 5 sd) 41 3 = gI σ 41 3 := by rw [gI_sI, if_neg (by decide)]
  have g5 : gI (sI σ 41 5 sd) 41 5 = sd := by rw [gI_sI, if_pos ⟨rfl, rfl⟩]
  generalize sI σ 41 5 sd = σ0 at g0 g3 g5 ⊢
  have b0 := hb.sY g0 g3
  refine wpW K_X11_years [34] 60 ?_
  refine ⟨_, ev_takes _ σ0 b0.f, ?_⟩
  rintro w σ1 ⟨rfl, c1, o1, f1⟩
  have f1' : Fr (41 :: lS) σ0 σ1 := f1.up _ (by decide)
  refine loopI (α := Sto × (Int32 × FS)) 34 (fun i a => [some (.ref 0), some (.int sd), some (.int (nI d)), some (.int (nI i))]) (fun a => a.1) (fun i a => YI σ a.1 a.2 ∧ fN a.2.2 = fN A.F ∧ a.2 = yrS A.ev sd A.F i) d ?_ ?_ 0 (σ1, (sd, A.F)) (Nat.zero_le _) ⟨⟨g0.tr f1', (f1.I (by decide) 3).trans g3, (f1.I (by decide) 5).trans g5, o1, c1.trans b0.F⟩, rfl, rfl⟩
  · rintro i ⟨τ, st⟩ hi ⟨hY, hn, hI⟩ go
    simp only at hY hn hI ⊢
    refine wpW K_X11_years [34] 60 ?_
    refine ⟨fun h => ?_, fun _ => ⟨_, ev_drawT _ hY _ (by decide), ?_⟩⟩
    · rw [le_of_nI (by omega) (by omega)] at h; omega
    rintro w τ2 ⟨q, l, hq, hl, rfl, hY2⟩
    have ey : yrS A.ev sd A.F (i + 1) = yrT A.ev q (l, st.2) := by rw [yrS, fo, ← yrS, ← hI, ← hq, ← hl]
    refine ⟨_, ev_triesDrawn _ hb hY2 _, ?_⟩
    rintro w τ3 ⟨rfl, y3, n3⟩
    exact go (τ3, yrT A.ev q (l, st.2)) _ _ (by rw [← nI_1 i]; rfl) rfl ⟨y3, n3.trans hn, ey.symm⟩
  · rintro ⟨τ, st⟩ ⟨⟨a1, a2, a3, a4, a5⟩, hn, hI⟩
    simp only at a1 a2 a3 a4 a5 hn hI ⊢
    have b := hb.sY a1 a2
    refine wpW K_X11_years [] 60 ?_
    refine ⟨fun h => ⟨_, ev_purses _ τ 11 (Or.inr rfl) a4, ?_⟩, fun h => ?_⟩
    · rintro w τ'' ⟨h9, rfl⟩
      obtain rfl := h9.symm
      refine ⟨_, ev_rtell2 _ _ _ _, ?_⟩
      rintro w σ3 ⟨rfl, e3, k3, f3⟩
      have f5 : ∀ j, j < 6 → 11 + j ∉ [3, 4] := by decide
      refine ⟨_, ev_homes _ σ3 11 (Or.inr rfl) (cOK_fr f3 f5 a4), ?_⟩
      rintro w τ'' ⟨h9, rfl⟩
      obtain rfl := h9.symm
      rw [cF_fr f3 f5, a5, ← hI]
      have c := cv_end b (f3.up _ (by decide)) k3 e3
      rw [a5, hn, show gI τ 11 7 = fSd st.2 by rw [← a5]; rfl, show gI τ 5 7 = fSd A.F by rw [← b.F]; rfl] at c
      exact ⟨rfl, c.1, (a1.C (by decide)).tr c.2⟩
    · exact absurd (Int32.le_refl _) h
