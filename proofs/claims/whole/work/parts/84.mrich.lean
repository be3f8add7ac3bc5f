/-! the model's calls: rich -/
theorem maxS_nI {a b : Nat} (ha : a ≤ 1024) (hb : b ≤ 1024) : maxS (nI a) (nI b) = nI (max a b) := by
  unfold maxS
  by_cases c : a < b
  · rw [if_pos ((lt_of_nI ha hb).mpr c), Nat.max_eq_right (by omega)]
  · rw [if_neg (fun z => c ((lt_of_nI ha hb).mp z)), Nat.max_eq_left (by omega)]
theorem runsO_bd (P : Nat → Int32) {n i : Nat} {g : Nat → Int32} (hn : n ≤ 7) (hi : i < n) (h : ∀ j, i < j → j < n → ∃ v, g j = nI v ∧ v ≤ n - j) : ∀ d, d ≤ n - (i + 1) → ∀ j, i ≤ j → j < n → ∃ v, fo (fun d g => runsI P i g d) (upd g i 1) d j = nI v ∧ v ≤ n - j := by
  intro d
  induction d with
  | zero =>
    intro _ j h1 h2
    simp only [fo, upd]
    by_cases c : j = i
    · rw [if_pos c]; exact ⟨1, rfl, by omega⟩
    · rw [if_neg c]; exact h j (by omega) h2
  | succ d ih =>
    intro hd j h1 h2
    have ih' := ih (by omega)
    rw [fo, runsI]
    split
    · exact ih' j h1 h2
    · obtain ⟨a, a1, a2⟩ := ih' i (Nat.le_refl _) hi
      obtain ⟨b, b1, b2⟩ := ih' (i + 1 + d) (by omega) (by omega)
      rw [a1, b1, nI_1, maxS_nI (by omega) (by omega)]
      simp only [upd]
      by_cases c : j = i
      · rw [if_pos c]; exact ⟨_, rfl, by omega⟩
      · rw [if_neg c]; exact ih' j h1 h2
theorem runs_bd (P : Nat → Int32) {n : Nat} (hn : n ≤ 7) (g : Nat → Int32) : ∀ t, t ≤ n → (∃ m, (runsS P n g t).2 = nI m ∧ m ≤ n) ∧ ∀ j, n - t ≤ j → j < n → ∃ v, (runsS P n g t).1 j = nI v ∧ v ≤ n - j := by
  intro t
  induction t with
  | zero => intro _; exact ⟨⟨0, rfl, Nat.zero_le _⟩, fun j h1 h2 => by omega⟩
  | succ t ih =>
    intro ht
    obtain ⟨⟨m, m1, m2⟩, i2⟩ := ih (by omega)
    have key := runsO_bd P (i := n - t - 1) hn (by omega) (fun j h1 h2 => i2 j (by omega) h2) _ (Nat.le_refl _)
    refine ⟨?_, fun j h1 h2 => key j (by omega) h2⟩
    obtain ⟨v, v1, v2⟩ := key (n - t - 1) (Nat.le_refl _) (by omega)
    have e2 : (runsS P n g (t + 1)).2 = maxS (runsS P n g t).2 (fo (fun d g => runsI P (n - t - 1) g d) (upd (runsS P n g t).1 (n - t - 1) 1) (n - (n - t - 1 + 1)) (n - t - 1)) := rfl
    rw [e2, m1, v1, maxS_nI (by omega) (by omega)]
    exact ⟨_, rfl, by omega⟩
theorem mc_rich (k : Nat) (A : AS) : MC (k + 1) M_X12_rich [] A (.int (richC A).1) (richC A).2 := by
  intro σ0 hv0
  refine EvM.of mk_X12_rich (Nat.le_of_ble_eq_true rfl) ?_
  refine wpW K_X12_rich [5] 10 ?_
  obtain ⟨hv, f0⟩ := mv_t0 hv0
  show WW _ _ _ 5 [some (.ref 52), none, none, none] _ (t0S σ0)
  generalize t0S σ0 = σ at hv f0 ⊢
  have hb := hv.1
  have h7 := hb.n7
  unfold richC
  refine wpW K_X12_rich [18] 60 ?_
  refine ⟨_, ev_layDyke _ hb, ?_⟩
  rintro v σ1 ⟨rfl, hg, f1⟩
  have hb1 := hb.fr (f1.up _ _ (by decide) (by decide))
  have hs1 := hb1.n
  have hw : ∀ j, j < fN A.F → lnW A.F j < 7 := fun j hj => by have := (ln_w hb.ok hj).2; omega
  have hpu : ∀ g j, j < fN A.F → gA (sA σ1 72 g) 53 (7 + gA (sA σ1 72 g) 71 (nI j).toNatClampNeg).toNatClampNeg = lnP A.F j := fun g j hj => by
    rw [gA_ne (by decide), gA_ne (by decide), nI_clamp (by omega), hg j hj]
    have := (mF_rd σ1 53).2.2.1 (lnW A.F j) (hw j hj)
    rw [hb1.F] at this
    exact this
  have hri : ∀ g j, j < fN A.F → vp_in (7 + gA (sA σ1 72 g) 71 (nI j).toNatClampNeg) 30 := fun g j hj => by
    rw [gA_ne (by decide), nI_clamp (by omega), hg j hj]
    exact i7_30 (hw j hj)
  obtain ⟨cg1, cg2⟩ := runs_cg (lnP A.F) (fN A.F) (gA σ1 72) (fun _ => 0) (fN A.F) (Nat.le_refl _)
  obtain ⟨⟨m, m1, m2⟩, -⟩ := runs_bd (lnP A.F) h7 (fun _ => 0) (fN A.F) (Nat.le_refl _)
  have hmx : (rnT A.F).2 = nI m := m1
  have phase2 : ∀ o, WW M_X12_rich (k + 1) (fun w τ => w = some (.int (rnT A.F).2) ∧ MV τ (A.wR (richR A.F (fN A.F) 0 ((rnT A.F).2, -1, [])).2.2) ∧ Fr lM σ0 τ) 118 [some (.ref 52), some (.int (rnT A.F).2), some (.int (nI 0 - 1)), o] [] (sA σ1 72 (runsS (lnP A.F) (fN A.F) (gA σ1 72) (fN A.F)).1) := by
    intro o
    have f2 : FM [72] [] σ1 (sA σ1 72 (runsS (lnP A.F) (fN A.F) (gA σ1 72) (fN A.F)).1) := FM.rf.sA (by decide)
    have g72 : ∀ j, j < fN A.F → gA (sA σ1 72 (runsS (lnP A.F) (fN A.F) (gA σ1 72) (fN A.F)).1) 72 j = (rnT A.F).1 j := fun j hj => by rw [gA_eq]; exact cg2 j (by omega) hj
    generalize sA σ1 72 (runsS (lnP A.F) (fN A.F) (gA σ1 72) (fN A.F)).1 = σ2 at f2 g72 ⊢
    obtain ⟨r1, r2⟩ := row_0 σ2
    have f3 : FM [] [6] σ2 (sI σ2 52 6 0) := FM.rf.sI (by decide)
    refine wpW K_X12_rich [127] 60 ?_
    show WW _ _ _ 127 [some (.ref 52), some (.int (rnT A.F).2), some (.int (-1)), some (.int (nI 0))] [] (sI σ2 52 6 0)
    generalize sI σ2 52 6 0 = σ3 at r1 r2 f3 ⊢
    have f13 : FM lMs jMs σ σ3 := ((f1.up _ _ (by decide) (by decide)).tr (f2.up _ _ (by decide) (by decide))).tr (f3.up _ _ (by decide) (by decide))
    have h71 : gA σ3 71 = gA σ1 71 := by rw [f3.a 71 (by decide), f2.a 71 (by decide)]
    have h72 : ∀ j, j < fN A.F → gA σ3 72 j = (rnT A.F).1 j := fun j hj => by rw [f3.a 72 (by decide)]; exact g72 j hj
    have hb3 := hb.fr f13
    generalize hT : richR A.F (fN A.F) 0 ((rnT A.F).2, -1, []) = T
    rw [hmx] at hT ⊢
    have fin : ∀ i (τ : Sto) (l : Int32), FM [56] [6] σ3 τ → rOK τ → mRw τ = T.2.2 → WW M_X12_rich (k + 1) (fun w τ => w = some (.int (nI m)) ∧ MV τ (A.wR T.2.2) ∧ Fr lM σ0 τ) 211 [some (.ref 52), some (.int (nI m)), some (.int l), some (.int (nI i))] [] τ := by
      intro i τ l f hr hR
      refine wpW K_X12_rich [] 20 ?_
      have := mv_end hb (f13.tr (f.up _ _ (by decide) (by decide))) hr hR
      exact ⟨rfl, this.1, f0.tr this.2⟩
    refine loopI (α := Sto × (Int32 × List Int64)) 127 (fun i a => [some (.ref 52), some (.int (nI m)), some (.int a.2.1), some (.int (nI i))]) (fun a => a.1) (fun i a => FM [56] [6] σ3 a.1 ∧ rOK a.1 ∧ mRw a.1 = a.2.2 ∧ a.2.2.length ≤ m ∧ T = richR A.F (fN A.F - i) i (nI (m - a.2.2.length), a.2.1, a.2.2)) (fN A.F) ?_ ?_ 0 (σ3, (-1, [])) (Nat.zero_le _) ⟨FM.rf, r1, r2, Nat.zero_le _, hT.symm⟩
    · rintro i ⟨τ, l, R⟩ hi ⟨f, hr, hR, hl, hI⟩ go
      simp only at f hr hR hl hI ⊢
      rw [show fN A.F - i = (fN A.F - (i + 1)) + 1 by omega, richR] at hI
      simp only at hI
      have hbt := hb.fr (f13.tr (f.up _ _ (by decide) (by decide)))
      have e6 : gI τ 52 6 = nI R.length := by rw [hr.1, hR]
      have e71 : gA τ 71 (nI i).toNatClampNeg = nI (lnW A.F i) := by rw [nI_clamp (by omega), f.a 71 (by decide), h71]; exact hg i hi
      have e72 : gA τ 72 (nI i).toNatClampNeg = (rnT A.F).1 i := by rw [nI_clamp (by omega), f.a 72 (by decide)]; exact h72 i hi
      have eP : gA τ 53 (7 + gA τ 71 (nI i).toNatClampNeg).toNatClampNeg = lnP A.F i := by
        rw [e71]
        have := (mF_rd τ 53).2.2.1 (lnW A.F i) (hw i hi)
        rw [hbt.F] at this
        exact this
      have vP : vp_in (7 + gA τ 71 (nI i).toNatClampNeg) 30 := by rw [e71]; exact i7_30 (hw i hi)
      have esub : nI m - gI τ 52 6 = nI (m - R.length) := by rw [e6, sub_nI hl]
      refine wpW K_X12_rich [127, 211] 60 ?_
      refine ⟨fun e => ?_, fun _ => ⟨fun e => ?_, fun e => ⟨in7 (by omega), ?_⟩⟩⟩
      · rw [hbt.n, le_of_nI (by omega) (by omega)] at e; omega
      · rw [e6, le_of_nI (by omega) (by omega)] at e
        rw [if_pos (by rw [show (0 : Int32) = nI 0 from rfl, le_of_nI (by omega) (by omega)]; omega)] at hI
        exact fin i τ l f hr (by rw [hI]; exact hR)
      · rw [e6, le_of_nI (by omega) (by omega)] at e
        rw [if_neg (by rw [show (0 : Int32) = nI 0 from rfl, le_of_nI (by omega) (by omega)]; omega)] at hI
        refine ⟨fun z => ?_, fun z => ⟨in7 (by omega), vP, fun z2 => ⟨in7 (by omega), vP, in7 (by omega), _, ev_tellL _ hr hR (by omega) _, ?_⟩, fun z2 => ?_⟩⟩
        · have z' : ¬ (rnT A.F).1 i = nI (m - R.length) := fun y => z (by rw [show gA τ (52 + 20) (nI i).toNatClampNeg = (rnT A.F).1 i from e72, esub, y])
          rw [if_neg (fun y => z' y.1)] at hI
          exact go (τ, (l, R)) _ _ (by rw [← nI_1]; rfl) rfl ⟨f, hr, hR, hl, hI⟩
        · rintro v τ' ⟨rfl, r4, e4, f4⟩
          have z' : (rnT A.F).1 i = nI (m - R.length) := by rw [← e72, ← esub]; exact z
          have z2' : ¬ lnP A.F i ≤ l := by rw [← eP]; exact Int32.not_le.mpr z2
          rw [if_pos ⟨z', z2'⟩] at hI
          refine go (τ', (lnP A.F i, R ++ [(nI (lnW A.F i)).toInt64])) _ _ (by rw [← nI_1, ← eP]; rfl) rfl ⟨f.tr f4, r4, ?_, ?_, ?_⟩
          · rw [e4, ← e71]
          · simp only [List.length_append, List.length_singleton]; omega
          · simp only [List.length_append, List.length_singleton]
            rw [hI, show nI (m - R.length) - 1 = nI (m - (R.length + 1)) from sub_nI (b := 1) (by omega)]
        · have z2' : lnP A.F i ≤ l := by rw [← eP]; exact Int32.not_lt.mp z2
          rw [if_neg (fun y => y.2 z2')] at hI
          exact go (τ, (l, R)) _ _ (by rw [← nI_1]; rfl) rfl ⟨f, hr, hR, hl, hI⟩
    · rintro ⟨τ, l, R⟩ ⟨f, hr, hR, hl, hI⟩
      simp only at f hr hR hl hI ⊢
      rw [Nat.sub_self, richR] at hI
      have hbt := hb.fr (f13.tr (f.up _ _ (by decide) (by decide)))
      refine wpW K_X12_rich [211] 60 ?_
      refine ⟨fun _ => fin _ τ l f hr (by rw [hI]; exact hR), fun e => ?_⟩
      rw [hbt.n, le_of_nI (by omega) (by omega)] at e; omega
  generalize richR A.F (fN A.F) 0 ((rnT A.F).2, -1, []) = RR at *
  generalize hPP : lnP A.F = P at *
  have hrn : (runsS P (fN A.F) (gA σ1 72) (fN A.F)).2 = (rnT A.F).2 := by rw [cg1, rnT, hPP]
  generalize (rnT A.F).2 = mx at *
  have start : WW M_X12_rich (k + 1) (fun w τ => w = some (.int mx) ∧ MV τ (A.wR RR.2.2) ∧ Fr lM σ0 τ) 18 [some (.ref 52), some (.int 0), some (.int (nI (fN A.F - 0) - 1)), none] [] (sA σ1 72 (gA σ1 72)) := by
    refine loopI (α := ((Nat → Int32) × Int32) × Option Value) 18 (fun t a => [some (.ref 52), some (.int a.1.2), some (.int (nI (fN A.F - t) - 1)), a.2]) (fun a => sA σ1 72 a.1.1) (fun t a => a.1 = runsS P (fN A.F) (gA σ1 72) t) (fN A.F) ?_ ?_ 0 ((gA σ1 72, 0), none) (Nat.zero_le _) rfl
    · rintro t ⟨⟨g, b⟩, y4⟩ ht hI go
      simp only at hI
      obtain ⟨i, hi⟩ : ∃ i, fN A.F - t = i + 1 := ⟨fN A.F - t - 1, by omega⟩
      have hin : i < fN A.F := by omega
      have hnt : fN A.F - (t + 1) = i := by omega
      have ci : (nI i).toNatClampNeg = i := nI_clamp (by omega)
      have estep : runsS P (fN A.F) (gA σ1 72) (t + 1) = (runsO P (fN A.F) i g, maxS b (runsO P (fN A.F) i g i)) := by
        show (runsO P (fN A.F) (fN A.F - t - 1) (runsS P (fN A.F) (gA σ1 72) t).1, maxS (runsS P (fN A.F) (gA σ1 72) t).2 (runsO P (fN A.F) (fN A.F - t - 1) (runsS P (fN A.F) (gA σ1 72) t).1 (fN A.F - t - 1))) = _
        rw [← hI, hi]; rfl
      simp only [hi, nI_pred]
      have LI : WW M_X12_rich (k + 1) (fun w τ => w = some (.int mx) ∧ MV τ (A.wR RR.2.2) ∧ Fr lM σ0 τ) 33 [some (.ref 52), some (.int b), some (.int (nI i)), some (.int (nI (i + 1 + 0)))] [] (sA σ1 72 (upd g i 1)) := by
        refine loopI (α := Nat → Int32) 33 (fun d a => [some (.ref 52), some (.int b), some (.int (nI i)), some (.int (nI (i + 1 + d)))]) (fun a => sA σ1 72 a) (fun d a => a = fo (fun d g => runsI P i g d) (upd g i 1) d) (fN A.F - (i + 1)) ?_ ?_ 0 (upd g i 1) (Nat.zero_le _) rfl
        · intro d f hd hII go2
          have cd : (nI (i + 1 + d)).toNatClampNeg = i + 1 + d := nI_clamp (by omega)
          have q1 := hpu f (i + 1 + d) (by omega)
          have q2 := hpu f i hin
          refine wpW K_X12_rich [18, 33] 60 ?_
          refine ⟨fun h => ?_, fun _ => ⟨in7 (by omega), hri f _ (by omega), in7 (by omega), hri f _ (by omega), fun c => ?_, fun c => ?_⟩⟩
          · rw [show gI (sA σ1 72 f) 52 1 = nI (fN A.F) from hs1, le_of_nI (by omega) (by omega)] at h; omega
          · have c' : P (i + 1 + d) ≤ P i := by rw [← q1, ← q2]; exact c
            exact go2 f _ _ (by rw [show i + 1 + (d + 1) = i + 1 + d + 1 from rfl, ← nI_1 (i + 1 + d)]; rfl) rfl (by rw [fo, ← hII, runsI, if_pos c'])
          · have c' : ¬ P (i + 1 + d) ≤ P i := by rw [← q1, ← q2]; exact c
            refine ⟨in7 (by omega), in7 (by omega), in7 (by omega), ?_⟩
            rw [ci, cd, show (52 : Nat) + 20 = 72 from rfl, gA_eq, sA_sA, Int32.add_comm 1]
            exact go2 (upd f i (maxS (f i) (f (i + 1 + d) + 1))) _ _ (by rw [show i + 1 + (d + 1) = i + 1 + d + 1 from rfl, ← nI_1 (i + 1 + d)]; rfl) rfl (by rw [fo, ← hII, runsI, if_neg c'])
        · intro f hII
          have hf : f = runsO P (fN A.F) i g := hII
          have e1 : i + 1 + (fN A.F - (i + 1)) = fN A.F := by omega
          simp only [e1]
          refine wpW K_X12_rich [18, 33] 60 ?_
          refine ⟨fun h => ⟨in7 (by omega), ?_⟩, fun h => ?_⟩
          · rw [ci, show (52 : Nat) + 20 = 72 from rfl, gA_eq]
            refine go ((f, maxS b (f i)), some (.int (nI (fN A.F)))) _ _ ?_ rfl (by rw [estep, hf])
            rw [hnt, ← dn_lit]
            rfl
          · exfalso; apply h
            rw [show gI (sA σ1 72 f) 52 1 = nI (fN A.F) from hs1, le_of_nI (by omega) (by omega)]
            omega
      refine wpW K_X12_rich [18, 33] 60 ?_
      refine ⟨fun h => absurd h (nI_pos (by omega)), fun _ => ⟨in7 (by omega), ?_⟩⟩
      rw [ci, show (52 : Nat) + 20 = 72 from rfl, gA_eq, sA_sA]
      rw [Nat.add_zero, ← nI_1 i] at LI
      exact LI
    · rintro ⟨⟨g, b⟩, y4⟩ hI
      simp only at hI
      simp only [Nat.sub_self]
      refine wpW K_X12_rich [118] 60 ?_
      refine ⟨fun h => ?_, fun h => absurd (by decide) h⟩
      have p2 := phase2 y4
      rw [← hI] at p2 hrn
      simp only at p2 hrn
      rw [hrn]
      exact p2
  rw [sA_id, Nat.sub_zero, ← hs1] at start
  exact start
