/-! the model's calls: line -/
theorem fl_s (F : FS) (p q : Nat) : flN F p (q + 1) = flN F p q ++ (if fPl F q = nI p then [q] else []) := by
  rw [flN, List.range_succ, List.filter_append, ← flN]
  by_cases c : fPl F q = nI p
  · simp [c]
  · simp [c]
theorem ln_mem (F : FS) (n : Nat) : ∀ P, ∀ x ∈ lnN F n P, ∃ p, p < P ∧ fPl F x = nI p := by
  intro P
  induction P with
  | zero => intro x h; exact absurd h (by simp [lnN])
  | succ P ih =>
    intro x h
    rw [lnN, List.mem_append] at h
    rcases h with h | h
    · obtain ⟨p, h1, h2⟩ := ih x h
      exact ⟨p, by omega, h2⟩
    · exact ⟨P, by omega, of_decide_eq_true (List.mem_filter.mp h).2⟩
theorem ln_ins {F : FS} {q p0 : Nat} (hp : p0 < 10) (hq : fPl F q = nI p0) : ∀ P, P ≤ 10 → (P ≤ p0 → lnN F (q + 1) P = lnN F q P) ∧ (p0 < P → ∃ S, lnN F q P = lnN F q (p0 + 1) ++ S ∧ lnN F (q + 1) P = lnN F q (p0 + 1) ++ q :: S ∧ ∀ x ∈ S, ∃ p', p0 < p' ∧ p' < 10 ∧ fPl F x = nI p') := by
  intro P
  induction P with
  | zero => intro _; exact ⟨fun _ => rfl, fun h => by omega⟩
  | succ P ih =>
    intro hP
    obtain ⟨i1, i2⟩ := ih (by omega)
    have hne : ¬ P = p0 → flN F P (q + 1) = flN F P q := fun h => by
      rw [fl_s, if_neg, List.append_nil]
      rw [hq, eq_of_nI (by omega) (by omega)]
      omega
    refine ⟨fun h => ?_, fun h => ?_⟩
    · rw [lnN, lnN, i1 (by omega), hne (by omega)]
    · by_cases c : P = p0
      · subst c
        refine ⟨[], by simp, ?_, fun x hx => absurd hx (by simp)⟩
        rw [lnN, i1 (Nat.le_refl _), fl_s, if_pos hq, lnN, List.append_assoc]
      · obtain ⟨S, s1, s2, s3⟩ := i2 (by omega)
        refine ⟨S ++ flN F P q, ?_, ?_, ?_⟩
        · rw [lnN, s1, List.append_assoc]
        · rw [lnN, s2, hne c, List.append_assoc, List.cons_append]
        · intro x hx
          rcases List.mem_append.mp hx with hx | hx
          · exact s3 x hx
          · exact ⟨P, by omega, by omega, of_decide_eq_true (List.mem_filter.mp hx).2⟩
theorem getD_app_l {l m : List Nat} {j : Nat} (h : j < l.length) : (l ++ m).getD j 0 = l.getD j 0 := by
  simp only [List.getD]; rw [List.getElem?_append_left h]
theorem getD_app_r {l m : List Nat} {j : Nat} (h : l.length ≤ j) : (l ++ m).getD j 0 = m.getD (j - l.length) 0 := by
  simp only [List.getD]; rw [List.getElem?_append_right h]
theorem getD_mem {l : List Nat} {j : Nat} (h : j < l.length) : l.getD j 0 ∈ l := by
  rw [List.getD, List.getElem?_eq_getElem h]
  exact List.getElem_mem h
theorem ev_layDyke (k : Nat) {σ : Sto} {A : AS} (hb : MVc σ A) : EvM k M_X12_layDyke [.ref 52] σ (fun v τ => v = none ∧ (∀ j, j < fN A.F → gA τ 71 j = nI (lnW A.F j)) ∧ FM [71] [] σ τ) := by
  have h7 := hb.n7
  have rd : ∀ τ, FM [71] [] σ τ → ∀ i, i < 7 → gA τ 53 (nI i).toNatClampNeg = fPl A.F i := fun τ f i hi => by
    have := (mF_rd τ 53).1 i hi
    rw [(hb.fr (f.up _ _ (by decide) (by decide))).F] at this
    exact this
  refine EvM.of mk_X12_layDyke (Nat.le_of_ble_eq_true rfl) ?_
  refine wpW K_X12_layDyke [2] 20 ?_
  refine loopI (α := Sto × Option Value) 2 (fun q a => [some (.ref 52), some (.int (nI q)), a.2]) (fun a => a.1) (fun q a => FM [71] [] σ a.1 ∧ ∀ j, j < q → gA a.1 71 j = nI ((lnN A.F q 10).getD j 0)) (fN A.F) ?_ ?_ 0 (σ, none) (Nat.zero_le _) ⟨FM.rf, fun j hj => by omega⟩
  · rintro q ⟨τ, o⟩ hq ⟨f, hg⟩ go
    simp only at f hg ⊢
    obtain ⟨p0, hp0, hpq⟩ := hb.ok.pl q
    obtain ⟨S, s1, s2, s3⟩ := (ln_ins hp0 hpq 10 (Nat.le_refl _)).2 hp0
    have hlen := ln_full hb.ok q
    have hlt := ln_lt A.F q 10
    have hpm := ln_mem A.F q (p0 + 1)
    generalize hL : lnN A.F q 10 = L at *
    generalize lnN A.F q (p0 + 1) = Pre at *
    have hlenS : Pre.length + S.length = q := by rw [← hlen, s1, List.length_append]
    have inner : ∀ d τ, Pre.length + d ≤ q → FM [71] [] σ τ → (∀ j, j < Pre.length + d → gA τ 71 j = nI (L.getD j 0)) → (∀ j, Pre.length + d ≤ j → j < q → gA τ 71 (j + 1) = nI (L.getD j 0)) → WW M_X12_layDyke k (fun v τ => v = none ∧ (∀ j, j < fN A.F → gA τ 71 j = nI (lnW A.F j)) ∧ FM [71] [] σ τ) 12 [some (.ref 52), some (.int (nI q)), some (.int (nI (Pre.length + d)))] [] τ := by
      intro d
      induction d with
      | zero =>
        intro τ hd f g1 g2
        rw [Nat.add_zero] at hd g1 g2 ⊢
        have stop : WW M_X12_layDyke k (fun v τ => v = none ∧ (∀ j, j < fN A.F → gA τ 71 j = nI (lnW A.F j)) ∧ FM [71] [] σ τ) 58 [some (.ref 52), some (.int (nI q)), some (.int (nI Pre.length))] [] τ := by
          refine wpW K_X12_layDyke [2] 40 ?_
          refine ⟨in7 (by omega), ?_⟩
          refine go (_, some (.int (nI Pre.length))) _ _ (by rw [← nI_1]; rfl) rfl ⟨f.sA (by decide), fun j hj => ?_⟩
          show upd (gA τ 71) (nI Pre.length).toNatClampNeg (nI q) j = _
          rw [nI_clamp (by omega), s2, upd]
          by_cases c : j = Pre.length
          · rw [if_pos c, c, getD_app_r (Nat.le_refl _), Nat.sub_self]; rfl
          · rw [if_neg c]
            by_cases c2 : j < Pre.length
            · rw [g1 j c2, s1, getD_app_l c2, getD_app_l c2]
            · have := g2 (j - 1) (by omega) (by omega)
              rw [show j - 1 + 1 = j by omega] at this
              rw [this, s1, getD_app_r (by omega), getD_app_r (by omega), show j - Pre.length = (j - 1 - Pre.length) + 1 by omega]
              rfl
        refine wpW K_X12_layDyke [12, 58] 60 ?_
        refine ⟨fun _ => stop, fun c => ?_⟩
        rw [show (0 : Int32) = nI 0 from rfl, le_of_nI (by omega) (by omega)] at c
        have e1 : nI Pre.length - 1 = nI (Pre.length - 1) := sub_nI (b := 1) (by omega)
        have hm : L.getD (Pre.length - 1) 0 ∈ Pre := by rw [s1, getD_app_l (by omega)]; exact getD_mem (by omega)
        have hx := hlt _ (by rw [s1]; exact List.mem_append_left _ hm)
        have e2 : gA τ 71 (nI Pre.length - 1).toNatClampNeg = nI (L.getD (Pre.length - 1) 0) := by rw [e1, nI_clamp (by omega)]; exact g1 _ (by omega)
        have e3 : gA τ 53 (gA τ 71 (nI Pre.length - 1).toNatClampNeg).toNatClampNeg = fPl A.F (L.getD (Pre.length - 1) 0) := by rw [e2]; exact rd τ f _ (by omega)
        refine ⟨by rw [e1]; exact in7 (by omega), ?_, i30 (by omega), fun _ => stop, fun z => ?_⟩
        · show vp_in (gA τ 71 (nI Pre.length - 1).toNatClampNeg) 30
          rw [e2]; exact i30 (by omega)
        · exfalso
          apply z
          show gA τ 53 (gA τ 71 (nI Pre.length - 1).toNatClampNeg).toNatClampNeg ≤ gA τ 53 (nI q).toNatClampNeg
          obtain ⟨p', p1, p2⟩ := hpm _ hm
          rw [e3, rd τ f q (by omega), p2, hpq, le_of_nI (by omega) (by omega)]
          omega
      | succ d ih =>
        intro τ hd f g1 g2
        have e1 : nI (Pre.length + (d + 1)) - 1 = nI (Pre.length + d) := sub_nI (b := 1) (by omega)
        have hm : L.getD (Pre.length + d) 0 ∈ S := by rw [s1, getD_app_r (by omega), show Pre.length + d - Pre.length = d by omega]; exact getD_mem (by omega)
        have hx := hlt _ (by rw [s1]; exact List.mem_append_right _ hm)
        have e2 : gA τ 71 (nI (Pre.length + (d + 1)) - 1).toNatClampNeg = nI (L.getD (Pre.length + d) 0) := by rw [e1, nI_clamp (by omega)]; exact g1 _ (by omega)
        have e3 : gA τ 53 (gA τ 71 (nI (Pre.length + (d + 1)) - 1).toNatClampNeg).toNatClampNeg = fPl A.F (L.getD (Pre.length + d) 0) := by rw [e2]; exact rd τ f _ (by omega)
        refine wpW K_X12_layDyke [12] 60 ?_
        refine ⟨fun c => ?_, fun _ => ⟨by rw [e1]; exact in7 (by omega), ?_, i30 (by omega), fun z => ?_, fun _ => ⟨by rw [e1]; exact in7 (by omega), in7 (by omega), ?_⟩⟩⟩
        · rw [show (0 : Int32) = nI 0 from rfl, le_of_nI (by omega) (by omega)] at c; omega
        · show vp_in (gA τ 71 (nI (Pre.length + (d + 1)) - 1).toNatClampNeg) 30
          rw [e2]; exact i30 (by omega)
        · exfalso
          have z' : gA τ 53 (gA τ 71 (nI (Pre.length + (d + 1)) - 1).toNatClampNeg).toNatClampNeg ≤ gA τ 53 (nI q).toNatClampNeg := z
          obtain ⟨p', p1, p2, p3⟩ := s3 _ hm
          rw [e3, rd τ f q (by omega), p3, hpq, le_of_nI (by omega) (by omega)] at z'
          omega
        · have nx := ih (sA τ 71 (upd (gA τ 71) (Pre.length + (d + 1)) (nI (L.getD (Pre.length + d) 0)))) (by omega) (f.sA (by decide)) (fun j hj => by
            rw [gA_eq, upd, if_neg (by omega)]; exact g1 j (by omega)) (fun j h1 h2 => by
            rw [gA_eq, upd]
            by_cases c : j = Pre.length + d
            · rw [if_pos (by omega), c]
            · rw [if_neg (by omega)]; exact g2 j (by omega) h2)
          show WW _ _ _ 12 [some (.ref 52), some (.int (nI q)), some (.int (nI (Pre.length + (d + 1)) + -1))] [] (sA τ 71 (upd (gA τ 71) (nI (Pre.length + (d + 1))).toNatClampNeg (gA τ 71 (nI (Pre.length + (d + 1)) - 1).toNatClampNeg)))
          rw [e2, dn_lit, e1, nI_clamp (show Pre.length + (d + 1) < 2 ^ 31 by omega)]
          exact nx
    refine wpW K_X12_layDyke [12] 60 ?_
    refine ⟨fun e => ?_, fun _ => ?_⟩
    · rw [f.i 1 (by decide), hb.n, le_of_nI (by omega) (by omega)] at e; omega
    have := inner S.length τ (by omega) f (fun j hj => hg j (by omega)) (fun j h1 h2 => by omega)
    rw [hlenS] at this
    exact this
  · rintro ⟨τ, o⟩ ⟨f, hg⟩
    simp only at f hg ⊢
    refine wpW K_X12_layDyke [] 60 ?_
    refine ⟨fun _ => ⟨rfl, hg, f⟩, fun e => ?_⟩
    rw [f.i 1 (by decide), hb.n, le_of_nI (by omega) (by omega)] at e; omega
theorem mc_line (k : Nat) (A : AS) : MC (k + 1) M_X12_line [] A (.int (lineC A).1) (lineC A).2 := by
  intro σ0 hv0
  refine EvM.of mk_X12_line (Nat.le_of_ble_eq_true rfl) ?_
  refine wpW K_X12_line [5] 10 ?_
  obtain ⟨hv, f0⟩ := mv_t0 hv0
  show WW _ _ _ 5 [some (.ref 52), none] _ (t0S σ0)
  generalize t0S σ0 = σ at hv f0 ⊢
  have hb := hv.1
  have h7 := hb.n7
  unfold lineC
  refine wpW K_X12_line [16] 60 ?_
  refine ⟨_, ev_layDyke _ hb, ?_⟩
  rintro v σ1 ⟨rfl, hg, f1⟩
  obtain ⟨r1, r2⟩ := row_0 σ1
  have f3 : FM [] [6] σ1 (sI σ1 52 6 0) := FM.rf.sI (by decide)
  show WW _ _ _ 16 [some (.ref 52), some (.int (nI 0))] [] (sI σ1 52 6 0)
  generalize sI σ1 52 6 0 = σ3 at r1 r2 f3 ⊢
  have f13 : FM lMs jMs σ σ3 := (f1.up _ _ (by decide) (by decide)).tr (f3.up _ _ (by decide) (by decide))
  have hg3 : ∀ j, j < fN A.F → gA σ3 71 j = nI (lnW A.F j) := fun j hj => by rw [f3.a 71 (by decide)]; exact hg j hj
  refine loopI (α := Sto) 16 (fun i _ => [some (.ref 52), some (.int (nI i))]) (fun a => a) (fun i a => FM [56] [6] σ3 a ∧ rOK a ∧ mRw a = rngL i (fun j => (nI (lnW A.F j)).toInt64)) (fN A.F) ?_ ?_ 0 σ3 (Nat.zero_le _) ⟨FM.rf, r1, r2⟩
  · rintro i τ hi ⟨f, hr, hR⟩ go
    have hbt := hb.fr (f13.tr (f.up _ _ (by decide) (by decide)))
    refine wpW K_X12_line [16] 60 ?_
    refine ⟨fun e => ?_, fun _ => ⟨in7 (by omega), _, ev_tellL _ hr hR (by rw [rngL_l]; omega) _, ?_⟩⟩
    · rw [hbt.n, le_of_nI (by omega) (by omega)] at e; omega
    rintro v τ' ⟨rfl, r4, e4, f4⟩
    refine go τ' _ _ (by rw [← nI_1]; rfl) rfl ⟨f.tr f4, r4, ?_⟩
    rw [e4, rngL_s, nI_clamp (by omega), show gA τ (52 + 19) = gA σ3 71 from f.a 71 (by decide), hg3 i hi]
  · rintro τ ⟨f, hr, hR⟩
    have ff := f13.tr (f.up _ _ (by decide) (by decide))
    have hbt := hb.fr ff
    refine wpW K_X12_line [] 60 ?_
    refine ⟨fun _ => ?_, fun e => ?_⟩
    · have := mv_end hb ff hr hR
      exact ⟨by rw [hbt.n], this.1, f0.tr this.2⟩
    · rw [hbt.n, le_of_nI (by omega) (by omega)] at e; omega
