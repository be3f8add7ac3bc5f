/-! the model's calls: poor, peace, silences -/
theorem mc_poor (k : Nat) (A : AS) (x : Int32) : MC (k + 263) M_X12_poor [.int x] A (.int (poorC A x).1) (poorC A x).2 := by
  intro σ0 hv0
  refine EvM.of mk_X12_poor (Nat.le_of_ble_eq_true rfl) ?_
  refine wpW K_X12_poor [5] 10 ?_
  obtain ⟨hv, f0⟩ := mv_t0 hv0
  show WW _ _ _ 5 [some (.ref 52), some (.int x), none] _ (t0S σ0)
  generalize t0S σ0 = σ at hv f0 ⊢
  have hb := hv.1
  have h7 := hb.n7
  unfold poorC
  refine wpW K_X12_poor [29] 60 ?_
  refine ⟨_, ev_isOne _ σ (fN A.F) hb.n h7 x, ?_⟩
  rintro v τ ⟨h9, rfl⟩
  obtain rfl := h9.symm
  refine ⟨fun c => ⟨_, ev_lay63 _ hb, ?_⟩, fun c => ?_⟩
  rotate_left
  · rw [bI_eq] at c
    rw [if_neg (by rw [c]; decide)]
    exact ⟨rfl, hv, f0⟩
  rw [bI_ne] at c
  rw [if_pos c]
  obtain ⟨x1, x2⟩ := in_of h7 c
  generalize x.toNatClampNeg = q at *
  subst x2
  rintro v σ1 ⟨rfl, hJ1⟩
  generalize hT : untilS (fun G => decide (fPu G q = 0)) (dayS A.ev (-1) (fN A.F)) 100 0 A.F = T
  refine loopI (α := Sto × FS) 29 (fun i _ => [some (.ref 52), some (.int (nI q)), some (.int (nI i))]) (fun a => a.1) (fun i a => FJ 63 σ a.1 (fN A.F) a.2 ∧ fOK a.2 ∧ T = untilS (fun G => decide (fPu G q = 0)) (dayS A.ev (-1) (fN A.F)) (100 - i) i a.2) 100 ?_ ?_ 0 (σ1, A.F) (Nat.zero_le _) ⟨hJ1, hb.ok, hT.symm⟩
  · rintro i ⟨τ, G⟩ hi ⟨hJ, hG, hI⟩ go
    simp only at hJ hG hI ⊢
    rw [show 100 - i = (100 - (i + 1)) + 1 by omega, untilS] at hI
    obtain ⟨-, -, rPu, -, -⟩ := mF_rd τ 63
    rw [hJ.1] at rPu
    have eH := rPu q (by omega)
    have hn : fN G = fN A.F := hJ.2.2.1
    refine wpW K_X12_poor [29, 52] 60 ?_
    refine ⟨fun e => ?_, fun _ => ⟨i7_30 (by omega), fun e => ?_, fun e => ?_⟩⟩
    · rw [show (99 : Int32) = nI 99 from rfl, lt_of_nI (by omega) (by omega)] at e; omega
    · have e' : ¬ fPu G q = 0 := fun z => e (eH.trans z)
      simp only [decide_eq_true_eq, if_neg e'] at hI
      refine ⟨_, hJ.day k (Or.inr rfl) hG hb.ru (-1), ?_⟩
      rintro v τ' ⟨rfl, hJ'⟩
      have hG' := (fok_day (ev := A.ev) (sil := -1) hG).1
      rw [hn] at hG'
      exact go (τ', _) _ _ (by rw [← nI_1]; rfl) rfl ⟨hJ', hG', hI⟩
    · have e' : fPu G q = 0 := eH.symm.trans e
      simp only [decide_eq_true_eq, if_pos e'] at hI
      obtain ⟨r1, r2⟩ := row_0 τ
      have f3 : FM [] [6] τ (sI τ 52 6 0) := FM.rf.sI (by decide)
      show WW _ _ _ 52 [some (.ref 52), some (.int (nI q)), some (.int (nI i))] [] (sI τ 52 6 0)
      generalize sI τ 52 6 0 = σ3 at r1 r2 f3 ⊢
      have hF3 : mF σ3 63 = G := (mF_fr f3 (by decide) (by decide) (by decide)).trans hJ.1
      have hok3 : mOK σ3 63 := mOK_fr f3 (by decide) (by decide) (by decide) hJ.2.1
      refine wpW K_X12_poor [] 60 ?_
      refine ⟨_, ev_sumOf _ σ3 63 (Or.inr rfl) hok3 7 (by omega), ?_⟩
      rintro v τ' ⟨h9, rfl⟩
      obtain rfl := h9.symm
      refine ⟨_, ev_tellL _ r1 r2 (by simp) _, ?_⟩
      rintro v σ4 ⟨rfl, r4, e4, f4⟩
      have ff : FM lMs jMs σ σ4 := ((hJ.2.2.2.up _ _ (by decide) (by decide)).tr (f3.up _ _ (by decide) (by decide))).tr (f4.up _ _ (by decide) (by decide))
      rw [hI]
      rw [show r7 (fun i => gA σ3 63 (7 + i)) = fPu (mF σ3 63) from rfl, hF3, hn] at e4
      have := mv_end hb ff r4 e4
      exact ⟨rfl, this.1, f0.tr this.2⟩
  · rintro ⟨τ, G⟩ ⟨hJ, hG, hI⟩
    simp only at hJ hG hI ⊢
    rw [Nat.sub_self, untilS] at hI
    refine wpW K_X12_poor [] 60 ?_
    refine ⟨fun _ => ?_, fun e => absurd (show (99 : Int32) < nI 100 by decide) e⟩
    rw [hI]
    have := mv_same hv hJ.2.2.2 (by decide) (by decide) (by decide) (by decide)
    exact ⟨rfl, this.1, f0.tr this.2⟩
theorem mc_peace (k : Nat) (A : AS) : MC (k + 263) M_X12_peace [] A (.int (peaceC A).1) (peaceC A).2 := by
  intro σ0 hv0
  refine EvM.of mk_X12_peace (Nat.le_of_ble_eq_true rfl) ?_
  refine wpW K_X12_peace [5] 10 ?_
  obtain ⟨hv, f0⟩ := mv_t0 hv0
  show WW _ _ _ 5 [some (.ref 52), none] _ (t0S σ0)
  generalize t0S σ0 = σ at hv f0 ⊢
  have hb := hv.1
  have h7 := hb.n7
  unfold peaceC
  refine wpW K_X12_peace [19] 60 ?_
  refine ⟨_, ev_lay63 _ hb, ?_⟩
  rintro v σ1 ⟨rfl, hJ1⟩
  rw [until_cg (P' := fun G => decide (homesS G = allS (fN A.F))) (I := uI (fN A.F)) (fun G hG => by
    have := home_all hG.2.1.1
    rw [hG.1] at this
    simp only [this]) uI_day 100 0 A.F ⟨rfl, hb.ok⟩]
  generalize hT : untilS (fun G => decide (homesS G = allS (fN A.F))) (dayS A.ev (-1) (fN A.F)) 100 0 A.F = T
  refine loopI (α := Sto × FS) 19 (fun i _ => [some (.ref 52), some (.int (nI i))]) (fun a => a.1) (fun i a => FJ 63 σ a.1 (fN A.F) a.2 ∧ fOK a.2 ∧ T = untilS (fun G => decide (homesS G = allS (fN A.F))) (dayS A.ev (-1) (fN A.F)) (100 - i) i a.2) 100 ?_ ?_ 0 (σ1, A.F) (Nat.zero_le _) ⟨hJ1, hb.ok, hT.symm⟩
  · rintro i ⟨τ, G⟩ hi ⟨hJ, hG, hI⟩ go
    simp only at hJ hG hI ⊢
    rw [show 100 - i = (100 - (i + 1)) + 1 by omega, untilS] at hI
    have hn : fN G = fN A.F := hJ.2.2.1
    refine wpW K_X12_peace [19, 45] 60 ?_
    refine ⟨fun e => ?_, fun _ => ⟨_, ev_atHome _ τ 63 (Or.inr rfl) hJ.2.1, ?_⟩⟩
    · rw [show (99 : Int32) = nI 99 from rfl, lt_of_nI (by omega) (by omega)] at e; omega
    rintro v τ' ⟨h9, rfl⟩
    obtain rfl := h9.symm
    rw [hJ.1]
    refine ⟨_, ev_all _ τ (fN A.F) hJ.n, ?_⟩
    rintro v τ' ⟨h9, rfl⟩
    obtain rfl := h9.symm
    refine ⟨fun e => ?_, fun e => ?_⟩
    · simp only [decide_eq_true_eq, if_neg e] at hI
      refine ⟨_, hJ.day k (Or.inr rfl) hG hb.ru (-1), ?_⟩
      rintro v τ' ⟨rfl, hJ'⟩
      have hG' := (fok_day (ev := A.ev) (sil := -1) hG).1
      rw [hn] at hG'
      exact go (τ', _) _ _ (by rw [← nI_1]; rfl) rfl ⟨hJ', hG', hI⟩
    · simp only [decide_eq_true_eq, if_pos e] at hI
      obtain ⟨r1, r2⟩ := row_0 τ
      have f3 : FM [] [6] τ (sI τ 52 6 0) := FM.rf.sI (by decide)
      show WW _ _ _ 45 [some (.ref 52), some (.int (nI i))] [] (sI τ 52 6 0)
      generalize sI τ 52 6 0 = σ3 at r1 r2 f3 ⊢
      have hF3 : mF σ3 63 = G := (mF_fr f3 (by decide) (by decide) (by decide)).trans hJ.1
      have hok3 : mOK σ3 63 := mOK_fr f3 (by decide) (by decide) (by decide) hJ.2.1
      refine wpW K_X12_peace [] 60 ?_
      refine ⟨_, ev_sumOf _ σ3 63 (Or.inr rfl) hok3 7 (by omega), ?_⟩
      rintro v τ' ⟨h9, rfl⟩
      obtain rfl := h9.symm
      refine ⟨_, ev_tellL _ r1 r2 (by simp) _, ?_⟩
      rintro v σ4 ⟨rfl, r4, e4, f4⟩
      have ff : FM lMs jMs σ σ4 := ((hJ.2.2.2.up _ _ (by decide) (by decide)).tr (f3.up _ _ (by decide) (by decide))).tr (f4.up _ _ (by decide) (by decide))
      rw [hI]
      rw [show r7 (fun i => gA σ3 63 (7 + i)) = fPu (mF σ3 63) from rfl, hF3, hn] at e4
      have := mv_end hb ff r4 e4
      exact ⟨rfl, this.1, f0.tr this.2⟩
  · rintro ⟨τ, G⟩ ⟨hJ, hG, hI⟩
    simp only at hJ hG hI ⊢
    rw [Nat.sub_self, untilS] at hI
    refine wpW K_X12_peace [] 60 ?_
    refine ⟨fun _ => ?_, fun e => absurd (show (99 : Int32) < nI 100 by decide) e⟩
    rw [hI]
    have := mv_same hv hJ.2.2.2 (by decide) (by decide) (by decide) (by decide)
    exact ⟨rfl, this.1, f0.tr this.2⟩
theorem ev_homeIn (k : Nat) {σ τ : Sto} {A : AS} (hb : MVc σ A) (f : FM lMs jMs σ τ) (d : Nat) (hd : d ≤ 1000) (sil : Int32) : EvM (k + 264) M_X12_homeIn [.ref 52, .int (nI d), .int sil] τ (fun v υ => v = some (.int (bcS (homesS (daysS A.ev sil (fN A.F) A.F d)))) ∧ FM [60, 63] jQ τ υ) := by
  have hb' := hb.fr f
  refine EvM.of mk_X12_homeIn (Nat.le_of_ble_eq_true rfl) ?_
  refine wpW K_X12_homeIn [] 60 ?_
  refine ⟨_, ev_lay63 _ hb', ?_⟩
  rintro v σ1 ⟨rfl, hJ1⟩
  refine ⟨_, ev_goDays k σ1 63 (Or.inr rfl) hJ1 hb.ok A.ev hb'.ru d (by omega) sil, ?_⟩
  rintro v σ2 ⟨rfl, hJ⟩
  refine ⟨_, ev_atHome _ σ2 63 (Or.inr rfl) hJ.2.1, ?_⟩
  rintro v τ' ⟨h9, rfl⟩
  obtain rfl := h9.symm
  rw [hJ.1]
  refine ⟨_, ev_bc _ _ _, ?_⟩
  rintro v τ' ⟨h9, rfl⟩
  obtain rfl := h9.symm
  exact ⟨rfl, hJ.2.2.2⟩
theorem mc_silences (k : Nat) (A : AS) (x : Int32) : MC (k + 265) M_X12_silences [.int x] A (.int (silC A x).1) (silC A x).2 := by
  intro σ0 hv0
  refine EvM.of mk_X12_silences (Nat.le_of_ble_eq_true rfl) ?_
  refine wpW K_X12_silences [5] 10 ?_
  obtain ⟨hv, f0⟩ := mv_t0 hv0
  show WW _ _ _ 5 [some (.ref 52), some (.int x), none, none, none, none] _ (t0S σ0)
  generalize t0S σ0 = σ at hv f0 ⊢
  have hb := hv.1
  have h7 := hb.n7
  unfold silC
  have hc : (!decide (x < 1) && !decide (30 < x)) = (inS 31 x && !decide (x = 0)) := by
    rw [← in_S (n := 30) (by omega), Bool.eq_iff_iff]
    simp only [Bool.and_eq_true, Bool.not_eq_true', decide_eq_false_iff_not]
    rw [show nI 30 = (30 : Int32) from rfl, Int32.lt_iff_toInt_lt, Int32.lt_iff_toInt_lt, Int32.lt_iff_toInt_lt, ← Int32.toInt_inj]
    simp
    omega
  refine wpW K_X12_silences [34] 60 ?_
  refine ⟨_, ev_in _ _ _ _ _, ?_⟩
  rintro v τ ⟨h9, rfl⟩
  obtain rfl := h9.symm
  rw [hc]
  refine ⟨fun c => ⟨fun c2 => ?_, fun c2 => ?_⟩, fun c => ?_⟩
  · rw [bI_ne] at c
    rw [if_pos c]
    rw [hb.n, show (0 : Int32) = nI 0 from rfl, eq_of_nI (by omega) (by omega)] at c2
    rw [if_neg c2]
    rw [Bool.and_eq_true] at c
    obtain ⟨x1, x2⟩ := inS_80 (by omega) c.1
    generalize x.toNatClampNeg = d at *
    subst x2
    refine loopI (α := Sto × (Int32 × Int32) × Option Value) 34 (fun i a => [some (.ref 52), some (.int (nI d)), some (.int a.2.1.2), some (.int a.2.1.1), some (.int (nI i)), a.2.2]) (fun a => a.1) (fun i a => FM [60, 63] jQ σ a.1 ∧ a.2.1 = silS A.ev A.F d i) (fN A.F) ?_ ?_ 0 (σ, (-1, -1), none) (Nat.zero_le _) ⟨FM.rf, rfl⟩
    · rintro i ⟨τ, ⟨m, b⟩, o⟩ hi ⟨f, hI⟩ go
      simp only at f hI ⊢
      have hs : silS A.ev A.F d (i + 1) = if bcS (homesS (daysS A.ev (nI i) (fN A.F) A.F d)) ≤ (silS A.ev A.F d i).1 then silS A.ev A.F d i else (bcS (homesS (daysS A.ev (nI i) (fN A.F) A.F d)), nI i) := rfl
      rw [← hI] at hs
      refine wpW K_X12_silences [34] 60 ?_
      refine ⟨fun e => ?_, fun _ => ⟨_, ev_homeIn k hb (f.up _ _ (by decide) (by decide)) d (by omega) (nI i), ?_⟩⟩
      · rw [f.i 1 (by decide), hb.n, le_of_nI (by omega) (by omega)] at e; omega
      rintro v τ' ⟨rfl, f'⟩
      refine ⟨fun e => ?_, fun e => ?_⟩
      · exact go (τ', (bcS (homesS (daysS A.ev (nI i) (fN A.F) A.F d)), nI i), _) _ _ (by rw [← nI_1]; rfl) rfl ⟨f.tr f', by rw [hs, if_neg (Int32.not_le.mpr e)]⟩
      · exact go (τ', (m, b), _) _ _ (by rw [← nI_1]; rfl) rfl ⟨f.tr f', by rw [hs, if_pos (Int32.not_lt.mp e)]⟩
    · rintro ⟨τ, ⟨m, b⟩, o⟩ ⟨f, hI⟩
      simp only at f hI ⊢
      refine wpW K_X12_silences [78] 60 ?_
      refine ⟨fun _ => ?_, fun e => ?_⟩
      rotate_left
      · rw [f.i 1 (by decide), hb.n, le_of_nI (by omega) (by omega)] at e; omega
      obtain ⟨r1, r2⟩ := row_0 τ
      have f3 : FM [] [6] τ (sI τ 52 6 0) := FM.rf.sI (by decide)
      show WW _ _ _ 78 [some (.ref 52), some (.int (nI d)), some (.int b), some (.int m), some (.int (nI (fN A.F))), o] [] (sI τ 52 6 0)
      generalize sI τ 52 6 0 = σ3 at r1 r2 f3 ⊢
      refine wpW K_X12_silences [] 60 ?_
      refine ⟨_, ev_tellL _ r1 r2 (by simp) _, ?_⟩
      rintro v σ4 ⟨rfl, r4, e4, f4⟩
      have f14 : FM lMs jMs σ σ4 := ((f.up _ _ (by decide) (by decide)).tr (f3.up _ _ (by decide) (by decide))).tr (f4.up _ _ (by decide) (by decide))
      refine ⟨_, ev_homeIn k hb f14 d (by omega) (-1), ?_⟩
      rintro v σ5 ⟨rfl, f5⟩
      obtain ⟨w5, k5⟩ := rw_fr f5 (by decide) (by decide)
      refine ⟨_, ev_tellL _ (k5 r4) (w5.trans e4) (by simp) _, ?_⟩
      rintro v σ6 ⟨rfl, r6, e6, f6⟩
      have ff : FM lMs jMs σ σ6 := (f14.tr (f5.up _ _ (by decide) (by decide))).tr (f6.up _ _ (by decide) (by decide))
      rw [← hI]
      have := mv_end hb ff r6 e6
      exact ⟨rfl, this.1, f0.tr this.2⟩
  · rw [bI_ne] at c
    rw [if_pos c]
    rw [hb.n, show (0 : Int32) = nI 0 from rfl, eq_of_nI (by omega) (by omega)] at c2
    rw [if_pos c2]
    exact ⟨rfl, hv, f0⟩
  · rw [bI_eq] at c
    rw [c]
    exact ⟨rfl, hv, f0⟩
