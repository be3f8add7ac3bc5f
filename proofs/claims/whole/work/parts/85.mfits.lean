/-! the model's calls: fits, asks -/
theorem ev_fitsM (k : Nat) {σ τ : Sto} {A : AS} (hb : MVc σ A) (f : FM lMs jMs σ τ) (nm : Nat) (hnm : nm < fN A.F) (c : Nat) (hc : c ≤ 4) (v : Int32) : EvM (k + 262) M_X12_fits [.ref 52, .int (nI nm), .int (nI c), .int v] τ (fun r υ => r = some (.int (bI (isSoS A.ev A.F nm (nI c) v))) ∧ FM [60] jQ τ υ) := by
  have h7 := hb.n7
  have hb' := hb.fr f
  obtain ⟨rPl, -, rPu, rHo, rAg, -, -⟩ := mF_rd τ 53
  rw [hb'.F] at rPl rPu rHo rAg
  obtain ⟨e1, e2⟩ := fs_ho hb.ok.1 hnm
  have eH := rHo nm (by omega)
  refine EvM.of mk_X12_fits (Nat.le_of_ble_eq_true rfl) ?_
  refine wpW K_X12_fits [] 40 ?_
  unfold isSoS
  refine ⟨fun h => ?_, fun h0 => ⟨fun h => ?_, fun h1 => ⟨fun h => ?_, fun h2 => ⟨fun h => ?_, fun h3 => ?_⟩⟩⟩⟩
  · rw [if_pos h]
    refine ⟨i14_30 (by omega), fun d => ⟨Or.inl rfl, ?_, FM.rf⟩, fun d => ⟨Or.inr rfl, ?_, FM.rf⟩⟩
    · rw [decide_eq_false (fun z => d (eH.trans z))]; rfl
    · rw [decide_eq_true (eH.symm.trans d)]; rfl
  · rw [if_neg h0, if_pos h]
    have eA := rAg nm (by omega)
    refine ⟨i21_30 (by omega), fun d => ⟨Or.inl rfl, ?_, FM.rf⟩, fun d => ⟨Or.inr rfl, ?_, FM.rf⟩⟩
    · rw [decide_eq_true (show fAg A.F nm < v from eA ▸ d)]; rfl
    · rw [decide_eq_false (show ¬ fAg A.F nm < v from fun z => d (by rw [show gA τ (52 + 1) (21 + nI nm).toNatClampNeg = fAg A.F nm from eA]; exact z))]; rfl
  · rw [if_neg h0, if_neg h1, if_pos h]
    have eA := rPu nm (by omega)
    refine ⟨i7_30 (by omega), fun d => ⟨Or.inl rfl, ?_, FM.rf⟩, fun d => ⟨Or.inr rfl, ?_, FM.rf⟩⟩
    · rw [decide_eq_true (show fPu A.F nm < v from eA ▸ d)]; rfl
    · rw [decide_eq_false (show ¬ fPu A.F nm < v from fun z => d (by rw [show gA τ (52 + 1) (7 + nI nm).toNatClampNeg = fPu A.F nm from eA]; exact z))]; rfl
  · rw [if_neg h0, if_neg h1, if_neg h2, if_pos h]
    have eH' : gA τ (52 + 1) (14 + nI nm).toNatClampNeg = nI (hoN A.F nm) := eH.trans e2
    have eP : gA τ (52 + 1) (gA τ (52 + 1) (14 + nI nm).toNatClampNeg).toNatClampNeg = fPl A.F (hoN A.F nm) := by rw [eH']; exact rPl _ (by omega)
    refine ⟨i14_30 (by omega), ?_, fun d => ⟨Or.inl rfl, ?_, FM.rf⟩, fun d => ⟨Or.inr rfl, ?_, FM.rf⟩⟩
    · show vp_in (gA τ (52 + 1) (14 + nI nm).toNatClampNeg) 30
      rw [eH']; exact i30 (by omega)
    · rw [decide_eq_false (fun z => d (eP.trans z))]; rfl
    · rw [decide_eq_true (eP.symm.trans d)]; rfl
  · have h4 : nI c = 4 := by
      match c, hc with
      | 0, _ => exact absurd rfl h0
      | 1, _ => exact absurd rfl h1
      | 2, _ => exact absurd rfl h2
      | 3, _ => exact absurd rfl h3
      | 4, _ => rfl
    rw [if_neg h0, if_neg h1, if_neg h2, if_neg h3, if_pos h4]
    refine ⟨_, ev_isOne _ τ (fN A.F) hb'.n h7 v, ?_⟩
    rintro r τ' ⟨h9, rfl⟩
    obtain rfl := h9.symm
    refine ⟨fun d => ?_, fun d => ?_⟩
    · rw [bI_eq] at d
      rw [d]
      exact ⟨Or.inl rfl, rfl, FM.rf⟩
    · rw [bI_ne] at d
      rw [d]
      obtain ⟨x1, x2⟩ := in_of h7 d
      generalize v.toNatClampNeg = q at *
      subst x2
      have hcan := ev_canSay k τ 53 (Or.inl rfl) hb'.mok A.ev hb'.ru q nm (by rw [hb'.F]; exact x1) (by rw [hb'.F]; exact hnm)
      rw [hb'.F] at hcan
      refine ⟨_, hcan, ?_⟩
      rintro r υ ⟨rfl, f'⟩
      refine ⟨fun e => ?_, fun e => ?_⟩
      · rw [bI_eq] at e; rw [e]; exact ⟨Or.inl rfl, rfl, f'⟩
      · rw [bI_ne] at e; rw [e]; exact ⟨Or.inr rfl, rfl, f'⟩
def hK (H : List (Int32 × Int32)) : Prop := ∀ x ∈ H, ∃ c, c ≤ 4 ∧ x.1 = nI c
theorem ev_fittingM (k : Nat) {σ : Sto} {A : AS} (hb : MVc σ A) (hH : hK A.H) : EvM (k + 263) M_X12_fitting [.ref 52] σ (fun v τ => v = some (.int (fitS A.ev A.F A.H)) ∧ FM [60] jQ σ τ) := by
  have h7 := hb.n7
  obtain ⟨g1, g2, g3⟩ := hb.h
  refine EvM.of mk_X12_fitting (Nat.le_of_ble_eq_true rfl) ?_
  refine wpW K_X12_fitting [4] 20 ?_
  refine loopI (α := Sto × Int32 × Option Value × Option Value) 4 (fun i a => [some (.ref 52), some (.int a.2.1), some (.int (nI i)), a.2.2.1, a.2.2.2]) (fun a => a.1) (fun i a => FM [60] jQ σ a.1 ∧ a.2.1 = fo (fun nm b => if A.H.all (fun w => isSoS A.ev A.F nm w.1 w.2) then b ||| bt nm else b) 0 i) (fN A.F) ?_ ?_ 0 (σ, 0, none, none) (Nat.zero_le _) ⟨FM.rf, rfl⟩
  · rintro i ⟨τ, b, o3, o4⟩ hi ⟨f, hI⟩ go
    simp only at f hI ⊢
    refine wpW K_X12_fitting [17] 60 ?_
    refine ⟨fun e => ?_, fun _ => ?_⟩
    · rw [f.i 1 (by decide), hb.n, le_of_nI (by omega) (by omega)] at e; omega
    show WW _ _ _ 17 [some (.ref 52), some (.int b), some (.int (nI i)), some (.int (bI ((A.H.take 0).all (fun w => isSoS A.ev A.F i w.1 w.2)))), some (.int (nI 0))] [] τ
    refine loopI (α := Sto) 17 (fun j _ => [some (.ref 52), some (.int b), some (.int (nI i)), some (.int (bI ((A.H.take j).all (fun w => isSoS A.ev A.F i w.1 w.2)))), some (.int (nI j))]) (fun a => a) (fun j a => FM [60] jQ σ a) A.H.length ?_ ?_ 0 τ (Nat.zero_le _) f
    · rintro j τ hj f go2
      have hj' := g3 j hj
      have hx : (gA σ 73 j, gA σ 74 j) ∈ A.H := List.mem_of_getElem? hj'
      obtain ⟨c, c1, c2⟩ := hH _ hx
      have hs := all_take (fun w => isSoS A.ev A.F i w.1 w.2) A.H j _ hj'
      have e73 : gA τ 73 (nI j).toNatClampNeg = nI c := by rw [nI_clamp (by omega), f.a 73 (by decide)]; exact c2
      have e74 : gA τ 74 (nI j).toNatClampNeg = gA σ 74 j := by rw [nI_clamp (by omega), f.a 74 (by decide)]
      refine wpW K_X12_fitting [17] 60 ?_
      refine ⟨fun e => ?_, fun _ => ⟨fun e => ?_, fun e => ⟨vp_in_nI (show j < 12 by omega) (by omega), vp_in_nI (show j < 12 by omega) (by omega), ?_⟩⟩⟩
      · rw [f.i 35 (by decide), g1, le_of_nI (by omega) (by omega)] at e; omega
      · rw [bI_eq] at e
        rw [e, Bool.false_and] at hs
        refine go2 τ _ _ ?_ rfl f
        rw [hs, ← nI_1]; rfl
      · rw [bI_ne] at e
        rw [e, Bool.true_and] at hs
        have hft := ev_fitsM k hb (f.up lMs jMs (by decide) (by decide)) i hi c c1 (gA σ 74 j)
        rw [← e73, ← e74] at hft
        refine ⟨_, hft, ?_⟩
        rintro r υ ⟨rfl, f'⟩
        rw [e73, e74] 
        rw [show gA σ 73 j = nI c from c2] at hs
        refine ⟨fun d => ?_, fun d => ?_⟩
        · rw [bI_eq] at d
          rw [d] at hs
          refine go2 υ _ _ ?_ rfl (f.tr f')
          rw [hs, ← nI_1]; rfl
        · rw [bI_ne] at d
          rw [d] at hs
          refine go2 υ _ _ ?_ rfl (f.tr f')
          rw [hs, ← nI_1]; rfl
    · rintro τ f
      rw [List.take_of_length_le (Nat.le_refl _)]
      refine wpW K_X12_fitting [4] 60 ?_
      refine ⟨fun _ => ⟨fun d => ?_, fun d => ?_⟩, fun e => ?_⟩
      · rw [bI_eq] at d
        refine go (τ, b, _, _) _ _ (by rw [← nI_1]; show st1 (st1 _ _ _) _ _ = _; rw [or_0]; rfl) rfl ⟨f, ?_⟩
        rw [fo, ← hI]; exact (if_neg (by rw [d]; decide)).symm
      · rw [bI_ne] at d
        refine go (τ, b ||| bt i, _, _) _ _ (by rw [← nI_1]; rfl) rfl ⟨f, ?_⟩
        rw [fo, ← hI]; exact (if_pos d).symm
      · rw [f.i 35 (by decide), g1, le_of_nI (by omega) (by omega)] at e; omega
  · rintro ⟨τ, b, o3, o4⟩ ⟨f, hI⟩
    simp only at f hI ⊢
    refine wpW K_X12_fitting [] 60 ?_
    refine ⟨fun _ => ⟨by rw [hI]; rfl, f⟩, fun e => ?_⟩
    rw [f.i 1 (by decide), hb.n, le_of_nI (by omega) (by omega)] at e; omega
theorem mc_fits (k : Nat) (A : AS) (hH : hK A.H) : MC (k + 264) M_X12_fits_ [] A (.int (fitS A.ev A.F A.H)) (A.wR [(bcS (fitS A.ev A.F A.H)).toInt64]) := by
  intro σ0 hv0
  refine EvM.of mk_X12_fits_ (Nat.le_of_ble_eq_true rfl) ?_
  refine wpW K_X12_fits_ [5] 10 ?_
  obtain ⟨hv, f0⟩ := mv_t0 hv0
  show WW _ _ _ 5 [some (.ref 52), none] _ (t0S σ0)
  generalize t0S σ0 = σ at hv f0 ⊢
  have hb := hv.1
  refine wpW K_X12_fits_ [15] 60 ?_
  refine ⟨_, ev_fittingM k hb hH, ?_⟩
  rintro v σ1 ⟨rfl, f1⟩
  generalize fitS A.ev A.F A.H = w
  obtain ⟨r1, r2⟩ := row_0 σ1
  have f3 : FM [] [6] σ1 (sI σ1 52 6 0) := FM.rf.sI (by decide)
  show WW _ _ _ 15 [some (.ref 52), some (.int w)] [] (sI σ1 52 6 0)
  generalize sI σ1 52 6 0 = σ3 at r1 r2 f3 ⊢
  refine wpW K_X12_fits_ [] 60 ?_
  refine ⟨_, ev_bc _ _ _, ?_⟩
  rintro v τ' ⟨h9, rfl⟩
  obtain rfl := h9.symm
  refine ⟨_, ev_tellL _ r1 r2 (by simp) _, ?_⟩
  rintro v σ4 ⟨rfl, r4, e4, f4⟩
  have ff : FM lMs jMs σ σ4 := ((f1.up _ _ (by decide) (by decide)).tr (f3.up _ _ (by decide) (by decide))).tr (f4.up _ _ (by decide) (by decide))
  have := mv_end hb ff r4 e4
  exact ⟨rfl, this.1, f0.tr this.2⟩
