/-! the model's calls: rule, law -/
theorem nar_b8 : ∀ c, c < 256 → vp_nar .byte (b8 (nI c)) = b8 (nI c) := by decide +kernel
theorem mv_ruleX {σ : Sto} {A : AS} (hb : MVc σ A) {τ : Sto} {l js : List Nat} (ff : FM l js σ τ) (h4 : gI τ 52 4 = 0) : XV τ (cutX A.X 0) := by
  refine ⟨h4, Nat.zero_le _, fun i hi => absurd hi (Nat.not_lt_zero _), fun p _ => ?_⟩
  show (if p < 0 then A.X.2 p else -1) = -1
  rw [if_neg (by omega)]
theorem rw_none {X : Nat × (Nat → Int32)} (h : rwS (csX X) X.1 = none) : X.1 ≤ 40 ∧ (X.1 = 0 ∨ (ruleP (csX X) (fun _ => 0) 4 0).1 = true) := by
  rw [rwS] at h
  by_cases c : X.1 = 0
  · exact ⟨by omega, Or.inl c⟩
  · rw [if_neg c] at h
    by_cases d : ((ruleP (csX X) (fun _ => 0) 4 0).1 && decide ((ruleP (csX X) (fun _ => 0) 4 0).2.1 = X.1)) = true
    · rw [Bool.and_eq_true, decide_eq_true_eq] at d
      have := (rule_ok (as := fun _ => 0) (csX_end X) 4 0 (by omega)).2.1
      exact ⟨by omega, Or.inr d.1⟩
    · rw [if_neg d] at h
      exact absurd h (by simp)
theorem mr_of {σ τ : Sto} {A : AS} (hb : MVc σ A) {a : Nat} (ha : a = 58 ∨ a = 59) (h14 : gR τ 52 14 = a + 1) (h16 : gI τ 52 16 = nI A.X.1) (hg : ∀ j, j < A.X.1 → gA τ a j = gA σ 55 j) (hn : rwS (csX A.X) A.X.1 = none) : MRu τ (rvS (csX A.X) A.X.1) := by
  obtain ⟨h40, h1⟩ := rw_none hn
  refine ⟨a, A.X.1, ha, h14, h16, h40, ?_⟩
  unfold rvS
  by_cases c : A.X.1 = 0
  · exact Or.inl ⟨c, by rw [if_pos c]⟩
  · refine Or.inr ⟨by omega, csX A.X, ⟨fun q => ?_, fun q h1 h2 => ?_⟩, h1.resolve_left c, by rw [if_neg c]⟩
    · show (if q < 40 then A.X.2 q else -1) = _
      rw [hb.x.cs 40 q]
      by_cases d : q < A.X.1 ∧ q < 40
      · rw [if_pos d, if_pos d, hg q d.1]
      · rw [if_neg d, if_neg d]
    · rw [hg q h1]
      exact hb.x.by q h1
theorem mc_rule (k : Nat) (A : AS) : MC (k + 262) M_X12_rule [] A (.int (ruleC A).1) (ruleC A).2 := by
  intro σ0 hv0
  refine EvM.of mk_X12_rule (Nat.le_of_ble_eq_true rfl) ?_
  refine wpW K_X12_rule [5] 10 ?_
  obtain ⟨hv, f0⟩ := mv_t0 hv0
  show WW _ _ _ 5 [some (.ref 52), none, none] _ (t0S σ0)
  generalize t0S σ0 = σ at hv f0 ⊢
  have hb := hv.1
  have h80 := hb.x.2.1
  unfold ruleC
  refine wpW K_X12_rule [26] 60 ?_
  refine ⟨_, ev_readRule k hb, ?_⟩
  rintro v σ1 ⟨rfl, h12, h4, f1⟩
  rw [hb.x.1]
  generalize hW : rwS (csX A.X) A.X.1 = W at h12 ⊢
  match W with
  | some p =>
    rw [decide_eq_false (by simp)]
    refine ⟨fun c => absurd rfl c, fun _ => ?_⟩
    obtain ⟨e3, r3⟩ := rw_fr f1 (by decide) (by decide)
    refine ⟨by rw [h12]; rfl, ⟨?_, r3 hv.2.1, e3.trans hv.2.2⟩, f0.tr (f1.fr (by decide))⟩
    exact hb.gen (B := A.wX (cutX A.X 0)) f1 (hb.kF f1 (by decide) (by decide) (by decide)) (mv_ruleX hb f1 h4) (hb.u.go f1 (by decide) (by decide)) (hb.k.go f1 (by decide) (by decide) (by decide) (by decide)) (hb.h.go f1 (by decide) (by decide) (by decide)) (hb.s.go f1 (by decide) (by decide) (by decide)) rfl (by decide) (by decide)
  | none =>
    obtain ⟨h40, -⟩ := rw_none hW
    rw [decide_eq_true rfl]
    refine ⟨fun _ => ?_, fun c => absurd c (by decide)⟩
    refine loopI (α := Sto) 26 (fun i _ => [some (.ref 52), some (.int (nI A.X.1)), some (.int (nI i))]) (fun a => a) (fun i a => FM [58] [] σ1 a ∧ ∀ j, j < i → gA a 58 j = gA σ 55 j) A.X.1 ?_ ?_ 0 σ1 (Nat.zero_le _) ⟨FM.rf, fun j hj => by omega⟩
    · rintro i τ hi ⟨f, hg⟩ go
      have r14 : gR τ 52 14 = 58 + 1 := (f.r 14 (by decide)).trans ((f1.r 14 (by decide)).trans hb.r)
      have e55 : gA τ 55 (nI i).toNatClampNeg = gA σ 55 i := by rw [nI_clamp (by omega), f.a 55 (by decide), f1.a 55 (by decide)]
      obtain ⟨c, c1, c2⟩ := hb.x.by i hi
      refine wpW K_X12_rule [26] 60 ?_
      refine ⟨fun e => ?_, fun _ => ⟨58, r14, vp_in_nI (show i < 80 by omega) (by omega), vp_in_nI (show i < 40 by omega) (by omega), ?_⟩⟩
      · rw [le_of_nI (by omega) (by omega)] at e; omega
      refine go _ _ _ (by rw [← nI_1]; rfl) rfl ⟨f.sA (by decide), fun j hj => ?_⟩
      show upd (gA τ 58) (nI i).toNatClampNeg (vp_nar .byte (gA τ 55 (nI i).toNatClampNeg)) j = _
      rw [e55, c2, nar_b8 c c1, nI_clamp (by omega), upd, ← c2]
      by_cases d : j = i
      · rw [if_pos d, d]
      · rw [if_neg d]; exact hg j (by omega)
    · rintro τ ⟨f, hg⟩
      refine wpW K_X12_rule [] 60 ?_
      refine ⟨fun _ => ?_, fun e => absurd (Int32.le_refl _) e⟩
      have f2 : FM [] [16] τ (sI τ 52 16 (nI A.X.1)) := FM.rf.sI (by decide)
      have ff : FM [58] (16 :: jT) σ (sI τ 52 16 (nI A.X.1)) := ((f1.up _ _ (by decide) (by decide)).tr (f.up _ _ (by decide) (by decide))).tr (f2.up _ _ (by decide) (by decide))
      have r14 : gR (sI τ 52 16 (nI A.X.1)) 52 14 = 58 + 1 := (ff.r 14 (by decide)).trans hb.r
      obtain ⟨e3, r3⟩ := rw_fr ff (by decide) (by decide)
      have h4' : gI (sI τ 52 16 (nI A.X.1)) 52 4 = 0 := ((f2.i 4 (by decide)).trans (f.i 4 (by decide))).trans h4
      refine ⟨rfl, ⟨?_, r3 hv.2.1, e3.trans hv.2.2⟩, f0.tr (ff.fr (by decide))⟩
      refine ⟨hb.kF ff (by decide) (by decide) (by decide), mv_ruleX hb ff h4', hb.u.go ff (by decide) (by decide), hb.k.go ff (by decide) (by decide) (by decide) (by decide), hb.h.go ff (by decide) (by decide) (by decide), hb.s.go ff (by decide) (by decide) (by decide), ⟨r14, (ff.r 15 (by decide)).trans hb.r5⟩, ?_⟩
      exact mr_of hb (Or.inl rfl) r14 rfl hg hW
theorem ev_pairsM (k : Nat) (σ : Sto) (ho : mOK σ 53) (ev : (Nat → Int32) → Int32) (hR : MRu σ ev) : EvM (k + 263) M_X12_pairs [.ref 52] σ (fun v τ => v = some (.int (pairsS ev (mF σ 53))) ∧ FM [60] jQ σ τ) := by
  have hn := ho.1
  have h7 := ho.2.1
  have hsay : ∀ τ, FM [60] jQ σ τ → ∀ q, q < fN (mF σ 53) → EvM (k + 262) M_X12_sayable [.ref 52, .ref 53, .int (nI q)] τ (fun v υ => v = some (.int (sayableS ev (mF σ 53) q)) ∧ FM [60] jQ τ υ) := by
    intro τ f q hq
    have e : mF τ 53 = mF σ 53 := mF_fr f (by decide) (by decide) (by decide)
    have := ev_sayableM k τ 53 (Or.inl rfl) (mOK_fr f (by decide) (by decide) (by decide) ho) ev (hR.go f (by decide) (by decide)) q (by rw [e]; exact hq)
    rw [e] at this
    exact this
  generalize mF σ 53 = F at *
  refine EvM.of mk_X12_pairs (Nat.le_of_ble_eq_true rfl) ?_
  refine wpW K_X12_pairs [4] 20 ?_
  refine loopI (α := Sto × Int32) 4 (fun i x => [some (.ref 52), some (.int x.2), some (.int (nI i))]) (fun x => x.1) (fun i x => FM [60] jQ σ x.1 ∧ x.2 = fo (fun q s => s + bcS (sayableS ev F q)) 0 i) (fN F) ?_ ?_ 0 (σ, 0) (Nat.zero_le _) ⟨FM.rf, rfl⟩
  · rintro i ⟨τ, b⟩ hi ⟨f, hI⟩ go
    simp only at f hI ⊢
    refine wpW K_X12_pairs [4] 30 ?_
    refine ⟨fun h => ?_, fun h => ⟨_, hsay τ f i hi, ?_⟩⟩
    · rw [f.i 1 (by decide), hn, le_of_nI (by omega) (by omega)] at h; omega
    rintro w τ' ⟨rfl, f'⟩
    refine ⟨_, ev_bc _ _ _, ?_⟩
    rintro w τ'' ⟨h9, rfl⟩
    obtain rfl := h9.symm
    exact go (τ', b + bcS (sayableS ev F i)) _ _ (by rw [← nI_1]; rfl) rfl ⟨f.tr f', by rw [fo, ← hI]⟩
  · rintro ⟨τ, b⟩ ⟨f, hI⟩
    simp only at f hI ⊢
    refine wpW K_X12_pairs [4] 30 ?_
    refine ⟨fun h => ⟨by rw [hI]; rfl, f⟩, fun h => ?_⟩
    rw [f.i 1 (by decide), hn, le_of_nI (by omega) (by omega)] at h; omega
