/-! the model's calls: law -/
def jL : List Nat := [4, 6, 8, 9, 10, 11, 12, 14, 16, 17]
theorem mc_law (k : Nat) (A : AS) : MC (k + 264) M_X12_law [] A (.int (lawC A).1) (lawC A).2 := by
  intro σ0 hv0
  refine EvM.of mk_X12_law (Nat.le_of_ble_eq_true rfl) ?_
  refine wpW K_X12_law [5] 10 ?_
  obtain ⟨hv, f0⟩ := mv_t0 hv0
  show WW _ _ _ 5 [some (.ref 52), none, none, none, none, none, none] _ (t0S σ0)
  generalize t0S σ0 = σ at hv f0 ⊢
  have hb := hv.1
  have h80 := hb.x.2.1
  have h7 := hb.n7
  unfold lawC
  refine wpW K_X12_law [58] 60 ?_
  refine ⟨_, ev_readRule (k + 2) hb, ?_⟩
  rintro v σ1 ⟨rfl, h12, h4, f1⟩
  rw [hb.x.1]
  generalize hW : rwS (csX A.X) A.X.1 = W at h12 ⊢
  match W with
  | some p =>
    rw [decide_eq_false (by simp)]
    refine ⟨fun c => absurd rfl c, fun _ => ?_⟩
    obtain ⟨e3, r3⟩ := rw_fr f1 (by decide) (by decide)
    refine ⟨by rw [h12]; rfl, ⟨?_, r3 hv.2.1, e3.trans hv.2.2⟩, f0.tr (f1.fr (by decide))⟩
    exact hb.gen (B := A.wX (cutX A.X 0)) f1 (hb.kF f1 (by decide) (by decide) (by decide)) (mv_ruleX hb f1 h4) (hb.u.go f1 (by decide) (by decide)) (hb.k.go f1 (by decide) (by decide) (by decide) (by decide)) (hb.h.go f1 (by decide) (by decide) (by decide)) (hb.s.go f1 (by decide) (by decide) (by decide)) rfl (by decide) (by decide)
  | none =>
    obtain ⟨h40, -⟩ := rw_none hW
    rw [decide_eq_true rfl]
    refine ⟨fun _ => ?_, fun c => absurd c (by decide)⟩
    have hF1 : mF σ1 53 = A.F := (mF_fr f1 (by decide) (by decide) (by decide)).trans hb.F
    have hp1 := ev_pairsM k σ1 (mOK_fr f1 (by decide) (by decide) (by decide) hb.mok) A.ev (hb.ru.go f1 (by decide) (by decide))
    rw [hF1] at hp1
    refine ⟨_, hp1, ?_⟩
    rintro v σ2 ⟨rfl, f2⟩
    have f12 : FM [60] jT σ σ2 := (f1.up _ _ (by decide) (by decide)).tr (f2.up _ _ (by decide) (by decide))
    refine ⟨58, (f12.r 14 (by decide)).trans hb.r, 59, (f12.r 15 (by decide)).trans hb.r5, ?_⟩
    generalize hps : pairsS A.ev A.F = was
    generalize hs0 : gI σ2 52 16 = s0
    have s16 : gI σ 52 16 = s0 := by rw [← hs0]; exact (f12.i 16 (by decide)).symm
    have f3 : FM [] [14, 16] σ2 (sI (sR σ2 52 14 60) 52 16 (nI A.X.1)) := (FM.rf.sR (by decide)).sI (by decide)
    have g14 : gR (sI (sR σ2 52 14 60) 52 16 (nI A.X.1)) 52 14 = 59 + 1 := rfl
    have g16 : gI (sI (sR σ2 52 14 60) 52 16 (nI A.X.1)) 52 16 = nI A.X.1 := rfl
    show WW _ _ _ 58 [some (.ref 52), some (.int (nI A.X.1)), some (.int was), some (.ref 58), some (.int s0), some (.int (nI 0)), none] [] (sI (sR σ2 52 14 60) 52 16 (nI A.X.1))
    generalize sI (sR σ2 52 14 60) 52 16 (nI A.X.1) = σ3 at f3 g14 g16 ⊢
    refine loopI (α := Sto) 58 (fun i _ => [some (.ref 52), some (.int (nI A.X.1)), some (.int was), some (.ref 58), some (.int s0), some (.int (nI i)), none]) (fun a => a) (fun i a => FM [59] [] σ3 a ∧ ∀ j, j < i → gA a 59 j = gA σ 55 j) A.X.1 ?_ ?_ 0 σ3 (Nat.zero_le _) ⟨FM.rf, fun j hj => by omega⟩
    · rintro i τ hi ⟨f, hg⟩ go
      have r14 : gR τ 52 14 = 59 + 1 := (f.r 14 (by decide)).trans g14
      have e55 : gA τ 55 (nI i).toNatClampNeg = gA σ 55 i := by rw [nI_clamp (by omega), f.a 55 (by decide), f3.a 55 (by decide), f12.a 55 (by decide)]
      obtain ⟨c, c1, c2⟩ := hb.x.by i hi
      refine wpW K_X12_law [58] 60 ?_
      refine ⟨fun e => ?_, fun _ => ⟨59, r14, vp_in_nI (show i < 80 by omega) (by omega), vp_in_nI (show i < 40 by omega) (by omega), ?_⟩⟩
      · rw [le_of_nI (by omega) (by omega)] at e; omega
      refine go _ _ _ (by rw [← nI_1]; rfl) rfl ⟨f.sA (by decide), fun j hj => ?_⟩
      show upd (gA τ 59) (nI i).toNatClampNeg (vp_nar .byte (gA τ 55 (nI i).toNatClampNeg)) j = _
      rw [e55, c2, nar_b8 c c1, nI_clamp (by omega), upd, ← c2]
      by_cases d : j = i
      · rw [if_pos d, d]
      · rw [if_neg d]; exact hg j (by omega)
    · rintro τ ⟨f, hg⟩
      have ff : FM [59, 60] (14 :: 16 :: jT) σ τ := ((f12.up _ _ (by decide) (by decide)).tr (f3.up _ _ (by decide) (by decide))).tr (f.up _ _ (by decide) (by decide))
      have r14 : gR τ 52 14 = 59 + 1 := (f.r 14 (by decide)).trans g14
      have i16 : gI τ 52 16 = nI A.X.1 := (f.i 16 (by decide)).trans g16
      have hR' : MRu τ (rvS (csX A.X) A.X.1) := mr_of hb (Or.inr rfl) r14 i16 hg hW
      have hFt : mF τ 53 = A.F := (mF_fr ff (by decide) (by decide) (by decide)).trans hb.F
      have hot : mOK τ 53 := mOK_fr ff (by decide) (by decide) (by decide) hb.mok
      generalize rvS (csX A.X) A.X.1 = ev' at hR' ⊢
      have hp2 := ev_pairsM k τ hot ev' hR'
      rw [hFt] at hp2
      refine wpW K_X12_law [95] 60 ?_
      refine ⟨fun _ => ⟨_, hp2, ?_⟩, fun e => absurd (Int32.le_refl _) e⟩
      rintro v σ4 ⟨rfl, f4⟩
      generalize pairsS ev' A.F = by'
      obtain ⟨r1, r2⟩ := row_0 σ4
      have f5 : FM [] [6] σ4 (sI σ4 52 6 0) := FM.rf.sI (by decide)
      show WW _ _ _ 95 [some (.ref 52), some (.int (nI A.X.1)), some (.int was), some (.ref 58), some (.int s0), some (.int by'), none] [] (sI σ4 52 6 0)
      generalize sI σ4 52 6 0 = σ5 at r1 r2 f5 ⊢
      refine wpW K_X12_law [111] 60 ?_
      refine ⟨_, ev_tellL _ r1 r2 (by simp) _, ?_⟩
      rintro v σ6 ⟨rfl, r6, e6, f6⟩
      refine ⟨_, ev_tellL _ r6 e6 (by simp) _, ?_⟩
      rintro v σ7 ⟨rfl, r7', e7, f7⟩
      have f47 : FM [56, 60] (6 :: jQ) τ σ7 := (((f4.up _ _ (by decide) (by decide)).tr (f5.up _ _ (by decide) (by decide))).tr (f6.up _ _ (by decide) (by decide))).tr (f7.up _ _ (by decide) (by decide))
      refine loopI (α := Sto) 111 (fun i _ => [some (.ref 52), some (.int (nI A.X.1)), some (.int was), some (.ref 58), some (.int s0), some (.int by'), some (.int (nI i))]) (fun a => a) (fun i a => FM [56, 60] (6 :: jQ) τ a ∧ rOK a ∧ mRw a = [by'.toInt64, was.toInt64] ++ rngL i (fun q => (sayableS ev' A.F q).toInt64)) (fN A.F) ?_ ?_ 0 σ7 (Nat.zero_le _) ⟨f47, r7', by rw [e7]; rfl⟩
      · rintro i τ' hi ⟨g, hr, hRr⟩ go
        have hF' : mF τ' 53 = A.F := (mF_fr g (by decide) (by decide) (by decide)).trans hFt
        have ho' : mOK τ' 53 := mOK_fr g (by decide) (by decide) (by decide) hot
        have hs := ev_sayableM (k + 1) τ' 53 (Or.inl rfl) ho' ev' (hR'.go g (by decide) (by decide)) i (by rw [hF']; exact hi)
        rw [hF'] at hs
        refine wpW K_X12_law [111] 60 ?_
        refine ⟨fun e => ?_, fun _ => ⟨_, hs, ?_⟩⟩
        · rw [g.i 1 (by decide), ff.i 1 (by decide), hb.n, le_of_nI (by omega) (by omega)] at e; omega
        rintro v τ1 ⟨rfl, g1⟩
        obtain ⟨w1, k1⟩ := rw_fr g1 (by decide) (by decide)
        refine ⟨_, ev_tellL _ (k1 hr) (w1.trans hRr) (by rw [List.length_append, rngL_l]; simp; omega) _, ?_⟩
        rintro v τ2 ⟨rfl, r8, e8, g2⟩
        refine go τ2 _ _ (by rw [← nI_1]; rfl) rfl ⟨(g.tr (g1.up _ _ (by decide) (by decide))).tr (g2.up _ _ (by decide) (by decide)), r8, ?_⟩
        rw [e8, rngL_s, List.append_assoc]
      · rintro τ' ⟨g, hr, hRr⟩
        refine wpW K_X12_law [] 60 ?_
        refine ⟨fun _ => ?_, fun e => ?_⟩
        rotate_left
        · rw [g.i 1 (by decide), ff.i 1 (by decide), hb.n, le_of_nI (by omega) (by omega)] at e; omega
        have g3 : FM [] [14, 16] τ' (sI (sR τ' 52 14 (58 + 1)) 52 16 s0) := (FM.rf.sR (by decide)).sI (by decide)
        have fa : FM [56, 59, 60] jL σ (sI (sR τ' 52 14 (58 + 1)) 52 16 s0) := ((ff.up _ _ (by decide) (by decide)).tr (g.up _ _ (by decide) (by decide))).tr (g3.up _ _ (by decide) (by decide))
        obtain ⟨e9, r9⟩ := rw_fr g3 (by decide) (by decide)
        have i4 : gI (sI (sR τ' 52 14 (58 + 1)) 52 16 s0) 52 4 = 0 := by
          rw [g3.i 4 (by decide), g.i 4 (by decide), f.i 4 (by decide), f3.i 4 (by decide), f2.i 4 (by decide)]; exact h4
        refine ⟨rfl, ⟨?_, r9 hr, e9.trans hRr⟩, f0.tr (fa.fr (by decide))⟩
        refine ⟨hb.kF fa (by decide) (by decide) (by decide), mv_ruleX hb fa i4, hb.u.go fa (by decide) (by decide), hb.k.go fa (by decide) (by decide) (by decide) (by decide), hb.h.go fa (by decide) (by decide) (by decide), hb.s.go fa (by decide) (by decide) (by decide), ⟨rfl, (fa.r 15 (by decide)).trans hb.r5⟩, ?_⟩
        obtain ⟨a, t, a1, a2, a3, a4, a5⟩ := hb.ru
        have a58 : a = 58 := by have := hb.r; rw [a2] at this; omega
        subst a58
        refine ⟨58, t, Or.inl rfl, rfl, s16.symm.trans a3, a4, ?_⟩
        unfold MB
        rw [fa.a 58 (by decide)]
        exact a5
