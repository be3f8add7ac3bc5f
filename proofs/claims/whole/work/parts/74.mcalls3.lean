/-! the model's calls: keep, again, undo, end, sign -/
theorem cp30 {F : FS} {n : Nat} {vo g S : Nat → Int32} (hn : fN F = n) (hv : fVo F = vo) (h : ∀ j, j < 30 → g j = S j) : mG n vo g = backF F S := by
  refine FS_ext hn.symm ?_ hv.symm ?_ ?_ ?_ (h 28 (by omega)) (h 29 (by omega))
  · funext j; show r7 g j = r7 S j; unfold r7; split
    · exact h j (by omega)
    · rfl
  · funext j; show r7 (fun i => g (7 + i)) j = r7 (fun i => S (7 + i)) j; unfold r7; split
    · exact h (7 + j) (by omega)
    · rfl
  · funext j; show r7 (fun i => g (14 + i)) j = r7 (fun i => S (14 + i)) j; unfold r7; split
    · exact h (14 + j) (by omega)
    · rfl
  · funext j; show r7 (fun i => g (21 + i)) j = r7 (fun i => S (21 + i)) j; unfold r7; split
    · exact h (21 + j) (by omega)
    · rfl
theorem mF_back {σ τ : Sto} {A : AS} (hb : MVc σ A) (h1 : gI τ 52 1 = gI σ 52 1) (h54 : gA τ 54 = gA σ 54) {S : Nat → Int32} (h : ∀ j, j < 30 → gA τ 53 j = S j) : mF τ 53 = backF A.F S := by
  unfold mF
  rw [h1, h54]
  refine cp30 ?_ ?_ h
  · rw [← hb.F]; rfl
  · rw [← hb.F]; rfl
theorem mc_undo (k : Nat) (A : AS) (hU : ∀ S ∈ A.U, fOK (backF A.F S)) : MC k M_X12_undo [] A (.int (undoC A).1) (undoC A).2 := by
  intro σ0 hv0
  refine EvM.of mk_X12_undo (Nat.le_of_ble_eq_true rfl) ?_
  refine wpW K_X12_undo [5] 10 ?_
  obtain ⟨hv, f0⟩ := mv_t0 hv0
  show WW _ _ _ 5 [some (.ref 52), none] _ (t0S σ0)
  generalize t0S σ0 = σ at hv f0 ⊢
  have hb := hv.1
  obtain ⟨h1, h2, h3⟩ := hb.u
  unfold undoC
  generalize hUe : A.U = U at h1 h2 h3 hU ⊢
  match U with
  | [] =>
    refine wpW K_X12_undo [] 60 ?_
    refine ⟨fun c => absurd (by rw [h1]; rfl) c, fun _ => ⟨rfl, hv, f0⟩⟩
  | S :: u =>
    have hz : u.length ≤ 11 := by rw [List.length_cons] at h2; omega
    have hS : S = seg (gA σ 61) u.length := by
      have := h3 0 (by rw [List.length_cons]; omega)
      rw [List.getElem?_cons_zero, List.length_cons] at this
      injection this
    have e20 : gI σ 52 20 - 1 = nI u.length := by rw [h1, List.length_cons, ← add_nI]; exact Int32.add_sub_cancel _ _
    refine wpW K_X12_undo [26] 60 ?_
    refine ⟨fun _ => ?_, fun c => ?_⟩
    · show WW _ _ _ 26 [some (.ref 52), some (.int (nI 0))] [] (sI σ 52 20 (gI σ 52 20 - 1))
      rw [e20]
      have f1 : FM [] [20] σ (sI σ 52 20 (nI u.length)) := FM.rf.sI (by decide)
      have g20 : gI (sI σ 52 20 (nI u.length)) 52 20 = nI u.length := by rw [gI_sI, if_pos ⟨rfl, rfl⟩]
      generalize sI σ 52 20 (nI u.length) = σ1 at f1 g20 ⊢
      refine loopI (α := Sto) 26 (fun i _ => [some (.ref 52), some (.int (nI i))]) (fun x => x) (fun i x => FM [53] [] σ1 x ∧ ∀ j, gA x 53 j = if j < i then gA σ1 61 (30 * u.length + j) else gA σ1 53 j) 30 ?_ ?_ 0 σ1 (Nat.zero_le _) ⟨FM.rf, fun j => (if_neg (by omega)).symm⟩
      · rintro i τ hi ⟨f, hg⟩ go
        have t20 : gI τ 52 20 = nI u.length := (f.i 20 (by decide)).trans g20
        have e1 : (30 : Int32) * gI τ 52 20 + nI i = nI (30 * u.length + i) := by rw [t20, Int32.mul_comm, mul30, add_nI]
        refine wpW K_X12_undo [26] 60 ?_
        refine ⟨fun c => ?_, fun _ => ⟨by rw [e1]; exact vp_in_nI (show 30 * u.length + i < 360 by omega) (by omega), vp_in_nI (show i < 30 from hi) (by omega), ?_⟩⟩
        · rw [show (30 : Int32) = nI 30 from rfl, le_of_nI (by omega) (by omega)] at c; omega
        refine go _ _ _ (by rw [← nI_1]; rfl) rfl ⟨f.sA (by decide), fun j => ?_⟩
        show upd (gA τ 53) (nI i).toNatClampNeg (gA τ 61 ((30 : Int32) * gI τ 52 20 + nI i).toNatClampNeg) j = _
        rw [e1, nI_clamp (by omega), nI_clamp (by omega), f.a 61 (by decide), upd, hg j]
        by_cases cj : j = i
        · rw [if_pos cj, if_pos (by omega), cj]
        · rw [if_neg cj]
          by_cases d : j < i
          · rw [if_pos d, if_pos (by omega)]
          · rw [if_neg d, if_neg (by omega)]
      · rintro τ ⟨f, hg⟩
        have t20 : gI τ 52 20 = nI u.length := (f.i 20 (by decide)).trans g20
        refine wpW K_X12_undo [26] 60 ?_
        refine ⟨fun _ => ?_, fun c => absurd (show (30 : Int32) ≤ nI 30 by decide) c⟩
        have ff : FM [53] [20] σ τ := (f1.up _ _ (by decide) (by decide)).tr (f.up _ _ (by decide) (by decide))
        obtain ⟨e2, r2⟩ := rw_fr ff (by decide) (by decide)
        refine ⟨by rw [t20], ⟨?_, r2 hv.2.1, e2.trans hv.2.2⟩, f0.tr (ff.fr (by decide))⟩
        have hoS : fOK (backF A.F S) := hU S (List.mem_cons_self ..)
        have hF : mF τ 53 = backF A.F S := mF_back hb (ff.i 1 (by decide)) (ff.a 54 (by decide)) (fun j hj => by
          rw [hg j, if_pos hj, f1.a 61 (by decide), hS, seg, if_pos hj])
        refine hb.gen (B := (A.wF (backF A.F S)).wU u) ff ⟨(ff.i 1 (by decide)).trans hb.n, hF, hoS⟩ (hb.x.go ff (by decide) (by decide)) ⟨t20, by show u.length ≤ 12; omega, ?_⟩ (hb.k.go ff (by decide) (by decide) (by decide) (by decide)) (hb.h.go ff (by decide) (by decide) (by decide)) (hb.s.go ff (by decide) (by decide) (by decide)) rfl (by decide) (by decide)
        show ∀ j, j < u.length → u[j]? = some (seg (gA τ 61) (u.length - 1 - j))
        intro j hj
        have := h3 (j + 1) (by rw [List.length_cons]; omega)
        rw [List.getElem?_cons_succ, List.length_cons] at this
        rw [this, ff.a 61 (by decide)]
        congr 2
        omega
    · rw [h1, List.length_cons, show (0 : Int32) = nI 0 from rfl, eq_of_nI (by omega) (by omega)] at c
      omega
theorem mc_keep (k : Nat) (A : AS) (x : Int32) : MC (k + 1) M_X12_keep [.int x] A (.int (bI (keepC A x).1)) (keepC A x).2 := by
  intro σ0 hv0
  refine EvM.of mk_X12_keep (Nat.le_of_ble_eq_true rfl) ?_
  refine wpW K_X12_keep [5] 10 ?_
  obtain ⟨hv, f0⟩ := mv_t0 hv0
  show WW _ _ _ 5 [some (.ref 52), some (.int x)] _ (t0S σ0)
  generalize t0S σ0 = σ at hv f0 ⊢
  have hb := hv.1
  obtain ⟨m, m1, m2, m3, m4⟩ := hb.k
  have h7 := hb.n7
  unfold keepC
  refine wpW K_X12_keep [] 60 ?_
  refine ⟨_, ev_in _ _ _ _ _, ?_⟩
  rintro r τ ⟨h9, rfl⟩
  obtain rfl := h9.symm
  rw [show (1 : Int32) = nI 1 from rfl, in_S (by omega)]
  refine ⟨fun d => ?_, fun d => ?_⟩
  · rw [bI_ne] at d
    rw [if_pos d]
    obtain ⟨v1, v2⟩ := inS_80 (by omega) d
    generalize x.toNatClampNeg = i at *
    subst v2
    have e30 : (30 : Int32) * nI i = nI (30 * i) := by rw [Int32.mul_comm, mul30]
    have hl : ∀ σ1, EvM k M_X12_lay [.ref 53, .ref 80, .int ((30 : Int32) * nI i)] σ1 (fun v τ => v = none ∧ τ = sA σ1 80 (layF (gA σ1 53) (gA σ1 80) (30 * i))) := fun σ1 => by
      rw [e30]; exact ev_lay k σ1 53 80 (30 * i) 60 (by omega) (by omega)
    refine ⟨inN (by omega) (by omega), inN (by omega) (by omega), _, hl _, ?_⟩
    rintro r τ ⟨rfl, e⟩
    have ff : FM [80, 81, 82] [] σ τ := by rw [e]; exact ((FM.rf.sA (by decide)).sA (by decide)).sA (by decide)
    have g80 : gA τ 80 = layF (gA σ 53) (gA σ 80) (30 * i) := by rw [e]; rfl
    have g81 : gA τ 81 = upd (gA σ 81) i 1 := by rw [e]; show upd (gA σ 81) (nI i).toNatClampNeg _ = _; rw [nI_clamp (by omega)]; rfl
    have g82 : gA τ 82 = upd (gA σ 82) i (nI m) := by rw [e]; show upd (gA σ 82) (nI i).toNatClampNeg (gI σ 52 43) = _; rw [nI_clamp (by omega), m1]
    obtain ⟨e2, r2⟩ := rw_fr ff (by decide) (by decide)
    refine ⟨Or.inr rfl, rfl, ⟨?_, r2 hv.2.1, e2.trans hv.2.2⟩, f0.tr (ff.fr (by decide))⟩
    refine hb.gen (B := A.wK (putK A.K i (snapF A.F))) ff (hb.kF ff (by decide) (by decide) (by decide)) (hb.x.go ff (by decide) (by decide)) (hb.u.go ff (by decide) (by decide)) ⟨m, (ff.i 43 (by decide)).trans m1, m2, ?_, ?_⟩ (hb.h.go ff (by decide) (by decide) (by decide)) (hb.s.go ff (by decide) (by decide) (by decide)) rfl (by decide) (by decide)
    · intro j hj
      rw [g80, g81, g82, seg_lay]
      show _ ∧ _ ∧ putK A.K i (snapF A.F) j = _
      obtain ⟨q1, q2, q3⟩ := m3 j hj
      unfold putK upd
      by_cases c : j = i
      · subst c
        rw [if_pos rfl, if_pos rfl, if_pos rfl, if_pos rfl, if_pos ⟨rfl, rfl⟩, ← hb.F, snap_seg]
        exact ⟨Or.inr rfl, ⟨m, Nat.le_refl _, rfl⟩, rfl⟩
      · rw [if_neg c, if_neg c, if_neg c, if_neg c]
        exact ⟨q1, q2, q3⟩
    · intro j hj
      show putK A.K i (snapF A.F) j = none
      rw [putK, if_neg (by omega)]
      exact m4 j hj
  · rw [bI_eq] at d
    rw [if_neg (by rw [d]; decide)]
    exact ⟨Or.inl rfl, rfl, hv, f0⟩
theorem mc_again (k : Nat) (A : AS) (x : Int32) (hK : ∀ i S, A.K i = some S → fOK (backF A.F S)) : MC (k + 1) M_X12_again [.int x] A (.int (bI (againC A x).1)) (againC A x).2 := by
  intro σ0 hv0
  refine EvM.of mk_X12_again (Nat.le_of_ble_eq_true rfl) ?_
  refine wpW K_X12_again [5] 10 ?_
  obtain ⟨hv, f0⟩ := mv_t0 hv0
  show WW _ _ _ 5 [some (.ref 52), some (.int x), none] _ (t0S σ0)
  generalize t0S σ0 = σ at hv f0 ⊢
  have hb := hv.1
  obtain ⟨m, m1, m2, m3, m4⟩ := hb.k
  have h7 := hb.n7
  unfold againC
  refine wpW K_X12_again [40] 60 ?_
  refine ⟨_, ev_in _ _ _ _ _, ?_⟩
  rintro r τ ⟨h9, rfl⟩
  obtain rfl := h9.symm
  rw [show (1 : Int32) = nI 1 from rfl, in_S (by omega)]
  refine ⟨fun d => ?_, fun d => ?_⟩
  · rw [bI_eq] at d
    rw [if_neg (by rw [d]; decide)]
    exact ⟨Or.inl rfl, rfl, hv, f0⟩
  · rw [bI_ne] at d
    rw [if_pos d]
    obtain ⟨v1, v2⟩ := inS_80 (by omega) d
    generalize x.toNatClampNeg = i at *
    subst v2
    obtain ⟨q1, ⟨c, c1, c2⟩, q3⟩ := m3 i v1
    have a81 : gA σ 81 (nI i).toNatClampNeg = gA σ 81 i := by rw [nI_clamp (by omega)]
    have a82 : gA σ 82 (nI i).toNatClampNeg = gA σ 82 i := by rw [nI_clamp (by omega)]
    refine ⟨inN (by omega) (by omega), fun e => ?_, fun e => ⟨inN (by omega) (by omega), fun e2 => ?_, fun e2 => ?_⟩⟩
    · have e' : gA σ 81 i = 0 := a81.symm.trans e
      rw [q3, if_neg (fun z => by rw [e'] at z; exact absurd z.1 (by decide))]
      exact ⟨Or.inl rfl, rfl, hv, f0⟩
    · have e' : gA σ 81 i = 1 := q1.resolve_left (fun z => e (a81.trans z))
      have e2' : gA σ 82 i = nI m := by rw [← a82, ← m1]; exact e2
      have hKi : A.K i = some (seg (gA σ 80) i) := by rw [q3, if_pos ⟨e', e2'⟩]
      rw [hKi]
      refine loopI (α := Sto) 40 (fun j _ => [some (.ref 52), some (.int (nI i)), some (.int (nI j))]) (fun x => x) (fun n x => FM [53] [] σ x ∧ ∀ j, gA x 53 j = if j < n then gA σ 80 (30 * i + j) else gA σ 53 j) 30 ?_ ?_ 0 σ (Nat.zero_le _) ⟨FM.rf, fun j => (if_neg (by omega)).symm⟩
      · rintro n τ hn ⟨f, hg⟩ go
        have e1 : (30 : Int32) * nI i + nI n = nI (30 * i + n) := by rw [Int32.mul_comm, mul30, add_nI]
        refine wpW K_X12_again [40] 60 ?_
        refine ⟨fun c => ?_, fun _ => ⟨by rw [e1]; exact vp_in_nI (show 30 * i + n < 60 by omega) (by omega), vp_in_nI (show n < 30 from hn) (by omega), ?_⟩⟩
        · rw [show (30 : Int32) = nI 30 from rfl, le_of_nI (by omega) (by omega)] at c; omega
        refine go _ _ _ (by rw [← nI_1]; rfl) rfl ⟨f.sA (by decide), fun j => ?_⟩
        show upd (gA τ 53) (nI n).toNatClampNeg (gA τ 80 ((30 : Int32) * nI i + nI n).toNatClampNeg) j = _
        rw [e1, nI_clamp (by omega), nI_clamp (by omega), f.a 80 (by decide), upd, hg j]
        by_cases cj : j = n
        · rw [if_pos cj, if_pos (by omega), cj]
        · rw [if_neg cj]
          by_cases d : j < n
          · rw [if_pos d, if_pos (by omega)]
          · rw [if_neg d, if_neg (by omega)]
      · rintro τ ⟨f, hg⟩
        refine wpW K_X12_again [40] 60 ?_
        refine ⟨fun _ => ?_, fun c => absurd (show (30 : Int32) ≤ nI 30 by decide) c⟩
        have ff : FM [53] [20] σ (sI τ 52 20 0) := (f.up _ _ (by decide) (by decide)).sI (by decide)
        obtain ⟨e3, r3⟩ := rw_fr ff (by decide) (by decide)
        have hF : mF (sI τ 52 20 0) 53 = backF A.F (seg (gA σ 80) i) := mF_back hb (ff.i 1 (by decide)) (ff.a 54 (by decide)) (fun j hj => by
          show gA τ 53 j = _
          rw [hg j, if_pos hj, seg, if_pos hj])
        refine ⟨Or.inr rfl, rfl, ⟨?_, r3 hv.2.1, e3.trans hv.2.2⟩, f0.tr (ff.fr (by decide))⟩
        exact hb.gen (B := (A.wF (backF A.F (seg (gA σ 80) i))).wU []) ff ⟨(ff.i 1 (by decide)).trans hb.n, hF, hK i _ hKi⟩ (hb.x.go ff (by decide) (by decide)) ⟨rfl, Nat.zero_le _, fun j hj => absurd hj (Nat.not_lt_zero _)⟩ (hb.k.go ff (by decide) (by decide) (by decide) (by decide)) (hb.h.go ff (by decide) (by decide) (by decide)) (hb.s.go ff (by decide) (by decide) (by decide)) rfl (by decide) (by decide)
    · have e2' : ¬ gA σ 82 i = nI m := fun z => e2 (by rw [show gA σ (52 + 30) (nI i).toNatClampNeg = gA σ 82 i from a82, z, m1])
      rw [q3, if_neg (fun z => e2' z.2)]
      exact ⟨Or.inl rfl, rfl, hv, f0⟩
