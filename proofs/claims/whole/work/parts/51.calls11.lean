/-! the class's calls: rule, law, years -/
def ruleC (A : AS) : Int32 × AS := match rwS (csX A.X) A.X.1 with
  | none => (0, (A.wX (cutX A.X 0)).we (rvS (csX A.X) A.X.1))
  | some p => (-1 - nI p, A.wX (cutX A.X 0))
/-- the reader has read into the spare rule, and the text is cut -/
theorem cb_read {σ σ1 : Sto} {A : AS} {r s : Nat} (hb : CB σ A r s) (f : Fr [17, s, s + 1] σ σ1) : CB (sI σ1 1 1 0) (A.wX (cutX A.X 0)) r s ∧ Fr [1, 17, s, s + 1] σ (sI σ1 1 1 0) ∧ ∀ e, RC σ1 s e → RC (sI σ1 1 1 0) s e := by
  have b1 : CB σ1 A r s := by
    refine hb.fr1 f ?_
    rcases hb.rs with h | h <;> (obtain ⟨rfl, rfl⟩ := h; decide)
  have f2 : Fr [1] σ1 (sI σ1 1 1 0) := Fr.rf.sI List.mem_cons_self
  have hX : xOK (sI σ1 1 1 0) ∧ cX (sI σ1 1 1 0) = cutX A.X 0 := by
    rw [← b1.X]
    refine cX_cut b1.x (Nat.zero_le _) ?_ rfl
    rw [gI_sI, if_pos ⟨rfl, rfl⟩]; rfl
  refine ⟨b1.gen f2 (b1.kF f2 (by decide)) hX (b1.kP f2 (by decide) (by decide)) rfl (b1.kH f2 (by decide) (by decide) (by decide)) (b1.kS f2 (by decide) (by decide) (by decide) (by decide)) (by decide), ?_, ?_⟩
  · refine (f.mono ?_).tr (f2.mono ?_)
    · intro a ha; exact List.mem_cons_of_mem _ ha
    · intro a ha; rw [List.mem_singleton] at ha; rw [ha]; exact List.mem_cons_self
  · intro e he
    rcases hb.rs with h | h <;> (obtain ⟨rfl, rfl⟩ := h; exact RC_fr f2 (by decide) (by decide) he)
theorem frC_s {σ τ : Sto} {A : AS} {r s : Nat} (hb : CB σ A r s) (f : Fr [1, 17, s, s + 1] σ τ) : Fr lC σ τ ∧ tR τ = tR σ ∧ (tOK σ → tOK τ) := by
  rcases hb.rs with h | h <;> (obtain ⟨rfl, rfl⟩ := h; exact ⟨f.C (by decide), tR_fr f (by decide) (by decide), tOK_fr f (by decide) (by decide)⟩)
theorem csX_end (X : Nat × (Nat → Int32)) : csEnd (csX X) := fun p hp => by rw [csX, if_neg (by omega)]
theorem rw_le {X : Nat × (Nat → Int32)} {p : Nat} (h : rwS (csX X) X.1 = some p) : p ≤ 40 := by
  have := (rule_ok (as := fun _ => 0) (csX_end X) 4 0 (by omega)).2.1
  unfold rwS at h
  split at h
  · exact absurd h (by simp)
  · split at h
    · exact absurd h (by simp)
    · injection h with h; omega
theorem ne_m1 {p : Nat} (h : p ≤ 1024) : ¬ nI p = -1 := fun e => ge0_nI h (by rw [e]; decide)
theorem cc_rule (k : Nat) (A : AS) : CC (k + 34) M_X11_rule [] A (.int (ruleC A).1) (ruleC A).2 := by
  intro σ hv
  obtain ⟨r, s, hb⟩ := hv.b
  have hs : s = 46 ∨ s = 49 := by rcases hb.rs with h | h <;> simp [h.2]
  have eX : xT σ = A.X.1 := by rw [← hb.X]; rfl
  refine EvM.of mk_X11_rule (Nat.le_of_ble_eq_true rfl) ?_
  refine wpW K_X11_rule [] 60 ?_
  refine ⟨s, hb.r2, _, ev_reads _ σ s hs hb.x, ?_⟩
  rintro w σ1 ⟨hw, f1⟩
  rw [cs_X, hb.X, eX] at hw
  obtain ⟨b2, f2, rc2⟩ := cb_read hb f1
  obtain ⟨fc, eR, kT⟩ := frC_s hb f2
  unfold ruleC
  generalize hT : rwS (csX A.X) A.X.1 = T at hw ⊢
  match T, hT, hw with
  | none, _, hw =>
    obtain ⟨rfl, hRC⟩ := hw
    have hRC := rc2 _ hRC
    refine ⟨fun _ => ⟨r, b2.r1, s, b2.r2, ?_⟩, fun h => absurd rfl h⟩
    refine ⟨rfl, ⟨⟨s, r, ?_⟩, ?_, ?_⟩, ?_⟩
    · have f3 : Fr [0] (sI σ1 1 1 0) (sR (sR (sI σ1 1 1 0) 0 11 (s + 1)) 0 12 (r + 1)) := (Fr.rf.sR List.mem_cons_self).sR List.mem_cons_self
      have hk := b2.kF f3 (by decide)
      have hx := b2.kX f3 (by decide) (by decide)
      have hH := b2.kH f3 (by decide) (by decide) (by decide)
      have hS := b2.kS f3 (by decide) (by decide) (by decide) (by decide)
      refine ⟨hk.1, hk.2, hx.1, hx.2, b2.kP f3 (by decide) (by decide), ?_, ?_, ?_, ?_, hH.1, hH.2, hS.1, hS.2, fromOK_fr f3 (by decide) b2.fr, hushOK_fr f3 (by decide) (by decide) b2.hu⟩
      · rcases hb.rs with h | h
        · exact Or.inr ⟨h.2, h.1⟩
        · exact Or.inl ⟨h.2, h.1⟩
      · rw [gR_sR, if_neg (by decide), gR_sR, if_pos ⟨rfl, rfl⟩]
      · rw [gR_sR, if_pos ⟨rfl, rfl⟩]
      · rcases hb.rs with h | h <;> (obtain ⟨rfl, rfl⟩ := h; exact RC_fr f3 (by decide) (by decide) hRC)
    · exact kT hv.t
    · exact eR.trans hv.R
    · exact (fc.sR (by decide)).sR (by decide)
  | some p, hT, hw =>
    subst hw
    exact ⟨fun h => absurd h (ne_m1 (by have := rw_le hT; omega)), fun _ => ⟨rfl, ⟨⟨r, s, b2⟩, kT hv.t, eR.trans hv.R⟩, fc⟩⟩
def lawC (A : AS) : Int32 × AS := match rwS (csX A.X) A.X.1 with
  | none => (pairsS (rvS (csX A.X) A.X.1) A.F - pairsS A.ev A.F, (A.wX (cutX A.X 0)).wR ([(pairsS (rvS (csX A.X) A.X.1) A.F).toInt64, (pairsS A.ev A.F).toInt64] ++ (List.range (fN A.F)).map (fun q => (sayableS (rvS (csX A.X) A.X.1) A.F q).toInt64)))
  | some p => (-10000 - nI p, A.wX (cutX A.X 0))
theorem cc_law (k : Nat) (A : AS) : CC (k + 34) M_X11_law [] A (.int (lawC A).1) (lawC A).2 := by
  intro σ hv
  obtain ⟨r, s, hb⟩ := hv.b
  have h7 := hb.n7
  have hs : s = 46 ∨ s = 49 := by rcases hb.rs with h | h <;> simp [h.2]
  have eX : xT σ = A.X.1 := by rw [← hb.X]; rfl
  refine EvM.of mk_X11_law (Nat.le_of_ble_eq_true rfl) ?_
  refine wpW K_X11_law [24] 60 ?_
  refine ⟨s, hb.r2, _, ev_reads _ σ s hs hb.x, ?_⟩
  rintro w σ1 ⟨hw, f1⟩
  rw [cs_X, hb.X, eX] at hw
  obtain ⟨b2, f2, rc2⟩ := cb_read hb f1
  obtain ⟨fc, eR, kT⟩ := frC_s hb f2
  unfold lawC
  generalize hT : rwS (csX A.X) A.X.1 = T at hw ⊢
  match T, hT, hw with
  | some p, hT, hw =>
    subst hw
    show WW M_X11_law _ _ 24 _ _ (sI σ1 1 1 0)
    refine wpW K_X11_law [] 60 ?_
    exact ⟨fun h => absurd h (ne_m1 (by have := rw_le hT; omega)), fun _ => ⟨rfl, ⟨⟨r, s, b2⟩, kT hv.t, eR.trans hv.R⟩, fc⟩⟩
  | none, _, hw =>
    obtain ⟨rfl, hRC⟩ := hw
    have hRC := rc2 _ hRC
    generalize rvS (csX A.X) A.X.1 = e2 at hRC ⊢
    show WW M_X11_law _ _ 24 _ _ (sI σ1 1 1 0)
    generalize sI σ1 1 1 0 = σ2 at b2 f2 hRC rc2 fc eR kT ⊢
    have F2 : cF σ2 5 = A.F := b2.F
    refine wpW K_X11_law [73] 60 ?_
    refine ⟨fun _ => ⟨s, b2.r2, _, ev_pairs _ σ2 s 5 hs (Or.inl rfl) b2.f e2 hRC, ?_⟩, fun h => absurd rfl h⟩
    rintro w σ3 ⟨rfl, f3⟩
    have f3 := r2_lS hs f3
    have b3 := b2.sS (f3.up _ (by decide))
    have hRC3 : RC σ3 s e2 := by rcases hs with rfl | rfl <;> exact RC_fr f3 (by decide) (by decide) hRC
    refine ⟨r, b3.r1, _, ev_pairs _ σ3 r 5 hb.r (Or.inl rfl) b3.f A.ev b3.rc, ?_⟩
    rintro w σ4 ⟨rfl, f4⟩
    have f4 := r2_lS hb.r f4
    have F3 : cF σ3 5 = A.F := b3.F
    rw [F2, F3]
    refine ⟨_, ev_rtell2 _ _ _ _, ?_⟩
    rintro w σ5 ⟨rfl, e5, k5, f5⟩
    have ff : Fr [3, 4, 48, 51] σ2 σ5 := ((f3.up _ (by decide)).tr (f4.up _ (by decide))).tr (f5.up _ (by decide))
    refine loopI (α := Sto) 73 (fun i a => [some (.ref 0), some (.int (-1)), some (.int (pairsS e2 A.F)), some (.int (pairsS A.ev A.F)), some (.int (nI i))]) (fun a => a) (fun i a => Fr [3, 4, 48, 51] σ2 a ∧ tOK a ∧ tR a = [(pairsS e2 A.F).toInt64, (pairsS A.ev A.F).toInt64] ++ (List.range i).map (fun q => (sayableS e2 A.F q).toInt64)) (fN A.F) ?_ ?_ 0 σ5 (Nat.zero_le _) ⟨ff, k5, e5⟩
    · rintro i τ hi ⟨f, ht, hR⟩ go
      have b := b2.sS (f.up _ (by decide))
      have hRCi : RC τ s e2 := by rcases hs with rfl | rfl <;> exact RC_fr f (by decide) (by decide) hRC
      refine wpW K_X11_law [73] 60 ?_
      refine ⟨fun h => ?_, fun _ => ⟨s, b.r2, _, ev_sayable _ τ s 5 hs (Or.inl rfl) b.f e2 hRCi i (by rw [b.F]; exact hi), ?_⟩⟩
      · rw [b.sz, le_of_nI (by have : fN A.F ≤ 7 := h7; exact Nat.le_trans this (by omega)) (by omega)] at h
        exact absurd (show fN A.F ≤ i from h) (by omega)
      rintro w τ2 ⟨rfl, g⟩
      have g := r2_lS hs g
      refine ⟨_, ev_radds _ τ2 (tOK_fr g (by decide) (by decide) ht) _ ?_, ?_⟩
      · rw [tR_fr g (by decide) (by decide), hR]; simp; omega
      rintro w τ3 ⟨rfl, e6, k6, f6⟩
      refine go τ3 _ _ (by rw [← nI_1 i]; rfl) rfl ⟨f.tr ((g.up _ (by decide)).tr (f6.up _ (by decide))), k6, ?_⟩
      rw [e6, tR_fr g (by decide) (by decide), hR, List.range_succ, List.map_append, b.F, List.append_assoc]
      rfl
    · rintro τ ⟨f, ht, hR⟩
      have b := b2.sS (f.up _ (by decide))
      refine wpW K_X11_law [73] 60 ?_
      refine ⟨fun h => ⟨rfl, ?_⟩, fun h => ?_⟩
      · have c := cv_end b2 (f.up _ (by decide)) ht hR
        exact ⟨c.1, fc.tr c.2⟩
      · rw [b.sz] at h
        exact absurd (Int32.le_refl _) h
