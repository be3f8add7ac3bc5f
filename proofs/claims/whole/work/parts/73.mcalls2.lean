/-! the model's calls: heard, saw, keep, again, undo, end, sign -/
theorem list_push {α : Type} {l : List α} {x : α} {f : Nat → α} (h : ∀ j, j < l.length → l[j]? = some (f j)) (hx : f l.length = x) : ∀ j, j < (l ++ [x]).length → (l ++ [x])[j]? = some (f j) := by
  intro j hj
  rw [List.length_append, List.length_singleton] at hj
  by_cases c : j < l.length
  · rw [List.getElem?_append_left c]; exact h j c
  · have : j = l.length := by omega
    subst this
    rw [List.getElem?_append_right (Nat.le_refl _), Nat.sub_self, hx]
    rfl
theorem mc_heard (k : Nat) (A : AS) (w v : Int32) : MC (k + 1) M_X12_heard [.int w, .int v] A (.int (heardC A w v).1) (heardC A w v).2 := by
  intro σ0 hv0
  refine EvM.of mk_X12_heard (Nat.le_of_ble_eq_true rfl) ?_
  refine wpW K_X12_heard [5] 10 ?_
  obtain ⟨hv, f0⟩ := mv_t0 hv0
  show WW _ _ _ 5 [some (.ref 52), some (.int w), some (.int v), none] _ (t0S σ0)
  generalize t0S σ0 = σ at hv f0 ⊢
  have hb := hv.1
  obtain ⟨h1, h2, h3⟩ := hb.h
  unfold heardC
  rw [hear_M _ _ _ h2]
  have go : ∀ hh, hh = hiS w → WW M_X12_heard (k + 1) (fun r τ => r = some (.int (if ((!decide (w < 0) && !decide (4 < w)) && (!decide (v < 0) && !decide (hiS w < v)) && !decide (A.H.length = 12)) = true then (nI (A.H.length + 1), A.wH (A.H ++ [(w, v)])) else (-1, A)).1) ∧ MV τ (if ((!decide (w < 0) && !decide (4 < w)) && (!decide (v < 0) && !decide (hiS w < v)) && !decide (A.H.length = 12)) = true then (nI (A.H.length + 1), A.wH (A.H ++ [(w, v)])) else (-1, A)).2 ∧ Fr lM σ0 τ) 32 [some (.ref 52), some (.int w), some (.int v), none] [.int hh] σ := by
    rintro hh rfl
    refine wpW K_X12_heard [] 60 ?_
    refine ⟨_, ev_in _ _ _ _ _, ?_⟩
    rintro r τ ⟨h9, rfl⟩
    obtain rfl := h9.symm
    refine ⟨fun c => ?_, fun c => ⟨_, ev_in _ _ _ _ _, ?_⟩⟩
    · rw [bI_eq] at c
      rw [c]
      exact ⟨rfl, hv, f0⟩
    rw [bI_ne] at c
    rintro r τ ⟨h9, rfl⟩
    obtain rfl := h9.symm
    refine ⟨fun d => ?_, fun d => ⟨fun e => ?_, fun e => ?_⟩⟩
    · rw [bI_eq] at d
      rw [c, d]
      exact ⟨rfl, hv, f0⟩
    · rw [bI_ne] at d
      rw [h1, show (12 : Int32) = nI 12 from rfl, eq_of_nI (by omega) (by omega)] at e
      rw [c, d, decide_eq_false e]
      have hlt : A.H.length < 12 := by omega
      have hc : (gI σ 52 35).toNatClampNeg = A.H.length := by rw [h1, nI_clamp (by omega)]
      have hvp : vp_in (gI σ 52 35) 12 := by rw [h1]; exact vp_in_nI hlt (by omega)
      have hf : FM [73, 74] [35] σ (sI (sA (sA σ 73 (upd (gA σ 73) (gI σ 52 35).toNatClampNeg w)) 74 (upd (gA σ 74) (gI σ 52 35).toNatClampNeg v)) 52 35 (gI σ 52 35 + 1)) := ((FM.rf.sA (by decide)).sA (by decide)).sI (by decide)
      refine ⟨hvp, hvp, ?_, ?_⟩
      · show some (Value.int (gI σ 52 35 + 1)) = _
        rw [h1, nI_1]
        rfl
      obtain ⟨e2, r2⟩ := rw_fr hf (by decide) (by decide)
      refine ⟨⟨?_, r2 hv.2.1, e2.trans hv.2.2⟩, f0.tr (hf.fr (by decide))⟩
      refine hb.gen (B := A.wH (A.H ++ [(w, v)])) hf (hb.kF hf (by decide) (by decide) (by decide)) (hb.x.go hf (by decide) (by decide)) (hb.u.go hf (by decide) (by decide)) (hb.k.go hf (by decide) (by decide) (by decide) (by decide)) ⟨?_, ?_, ?_⟩ (hb.s.go hf (by decide) (by decide) (by decide)) rfl (by decide) (by decide)
      · show gI σ 52 35 + 1 = nI (A.H ++ [(w, v)]).length
        rw [h1, nI_1, List.length_append, List.length_singleton]
      · show (A.H ++ [(w, v)]).length ≤ 12
        rw [List.length_append, List.length_singleton]; omega
      · show ∀ j, j < (A.H ++ [(w, v)]).length → (A.H ++ [(w, v)])[j]? = some (upd (gA σ 73) (gI σ 52 35).toNatClampNeg w j, upd (gA σ 74) (gI σ 52 35).toNatClampNeg v j)
        rw [hc]
        refine list_push (f := fun j => (upd (gA σ 73) A.H.length w j, upd (gA σ 74) A.H.length v j)) (fun j hj => ?_) ?_
        · rw [h3 j hj]
          simp only [upd]
          rw [if_neg (by omega), if_neg (by omega)]
        · simp [upd]
    · rw [h1, show (12 : Int32) = nI 12 from rfl, eq_of_nI (by omega) (by omega)] at e
      rw [decide_eq_true e, Bool.not_true, Bool.and_false]
      exact ⟨rfl, hv, f0⟩
  refine wpW K_X12_heard [32] 30 ?_
  refine ⟨fun c => ?_, fun c1 => ⟨fun c2 => ⟨fun c3 => ?_, fun c => ?_⟩, fun c => ?_⟩⟩
  · exact go 99 (if_pos (Or.inl c)).symm
  · exact go 6 (by unfold hiS; rw [if_neg (by rintro (q | q); exact c1 q; exact c2 q), if_neg c3])
  · exact go 9 (by unfold hiS; rw [if_neg (by rintro (q | q); exact c1 q; exact c2 q), if_pos c])
  · exact go 99 (if_pos (Or.inr c)).symm
theorem saw_M (l : List W3) (v f c : Int32) (hl : l.length ≤ 10) : sawS l v f c = (inS 10 v && inS 10 f && inS 2 c && !decide (l.length = 10)) := by
  unfold sawS
  have hlen : decide (l.length < 10) = !decide (l.length = 10) := by
    by_cases h : l.length = 10
    · rw [decide_eq_true h, decide_eq_false (by omega)]; rfl
    · rw [decide_eq_false h, decide_eq_true (by omega)]; rfl
  rw [hlen, ← in_S (n := 9) (x := v) (by omega), ← in_S (n := 9) (x := f) (by omega), ← in_S (n := 1) (x := c) (by omega)]
  simp only [Bool.and_assoc]
  rfl
theorem mc_saw (k : Nat) (A : AS) (v f c : Int32) : MC (k + 1) M_X12_saw [.int v, .int f, .int c] A (.int (sawC A v f c).1) (sawC A v f c).2 := by
  intro σ0 hv0
  refine EvM.of mk_X12_saw (Nat.le_of_ble_eq_true rfl) ?_
  refine wpW K_X12_saw [5] 10 ?_
  obtain ⟨hv, f0⟩ := mv_t0 hv0
  show WW _ _ _ 5 [some (.ref 52), some (.int v), some (.int f), some (.int c)] _ (t0S σ0)
  generalize t0S σ0 = σ at hv f0 ⊢
  have hb := hv.1
  obtain ⟨h1, h2, h3⟩ := hb.s
  unfold sawC
  rw [saw_M _ _ _ _ h2]
  refine wpW K_X12_saw [] 60 ?_
  refine ⟨_, ev_in _ _ _ _ _, ?_⟩
  rintro r τ ⟨h9, rfl⟩
  obtain rfl := h9.symm
  rw [show (9 : Int32) = nI 9 from rfl, in_S (by omega)]
  refine ⟨fun d => ?_, fun d1 => ⟨_, ev_in _ _ _ _ _, ?_⟩⟩
  · rw [bI_eq] at d; rw [d]; exact ⟨rfl, hv, f0⟩
  rw [bI_ne] at d1
  rintro r τ ⟨h9, rfl⟩
  obtain rfl := h9.symm
  rw [show (9 : Int32) = nI 9 from rfl, in_S (by omega)]
  refine ⟨fun d => ?_, fun d2 => ⟨_, ev_in _ _ _ _ _, ?_⟩⟩
  · rw [bI_eq] at d; rw [d1, d]; exact ⟨rfl, hv, f0⟩
  rw [bI_ne] at d2
  rintro r τ ⟨h9, rfl⟩
  obtain rfl := h9.symm
  rw [show (1 : Int32) = nI 1 from rfl, in_S (by omega)]
  refine ⟨fun d => ?_, fun d3 => ⟨fun e => ?_, fun e => ?_⟩⟩
  · rw [bI_eq] at d; rw [d1, d2, d]; exact ⟨rfl, hv, f0⟩
  · rw [bI_ne] at d3
    rw [h1, show (10 : Int32) = nI 10 from rfl, eq_of_nI (by omega) (by omega)] at e
    rw [d1, d2, d3, decide_eq_false e]
    obtain ⟨v1, v2⟩ := inS_80 (by omega) d1
    obtain ⟨w1, w2⟩ := inS_80 (by omega) d2
    obtain ⟨x1, x2⟩ := inS_80 (by omega) d3
    generalize v.toNatClampNeg = v' at *
    generalize f.toNatClampNeg = f' at *
    generalize c.toNatClampNeg = c' at *
    subst v2 w2 x2
    have hlt : A.S.length < 10 := by omega
    have hc : (gI σ 52 38).toNatClampNeg = A.S.length := by rw [h1, nI_clamp (by omega)]
    have hvp : vp_in (gI σ 52 38) 10 := by rw [h1]; exact vp_in_nI hlt (by omega)
    have e10 : (10 : Int32) * nI v' + nI f' = nI (10 * v' + f') := by
      rw [show (10 : Int32) * nI v' = nI (10 * v') from (show ∀ v, v < 10 → (10 : Int32) * nI v = nI (10 * v) by decide +kernel) v' v1, add_nI]
    have hf : FM [75, 76] [38] σ (sI (sA (sA σ 75 (upd (gA σ 75) (gI σ 52 38).toNatClampNeg (10 * nI v' + nI f'))) 76 (upd (gA σ 76) (gI σ 52 38).toNatClampNeg (nI c'))) 52 38 (gI σ 52 38 + 1)) := ((FM.rf.sA (by decide)).sA (by decide)).sI (by decide)
    refine ⟨hvp, hvp, ?_, ?_⟩
    · show some (Value.int (gI σ 52 38 + 1)) = _
      rw [h1, nI_1]
      rfl
    obtain ⟨e2, r2⟩ := rw_fr hf (by decide) (by decide)
    refine ⟨⟨?_, r2 hv.2.1, e2.trans hv.2.2⟩, f0.tr (hf.fr (by decide))⟩
    refine hb.gen (B := A.wS (A.S ++ [(nI v', nI f', nI c')])) hf (hb.kF hf (by decide) (by decide) (by decide)) (hb.x.go hf (by decide) (by decide)) (hb.u.go hf (by decide) (by decide)) (hb.k.go hf (by decide) (by decide) (by decide) (by decide)) (hb.h.go hf (by decide) (by decide) (by decide)) ⟨?_, ?_, ?_⟩ rfl (by decide) (by decide)
    · show gI σ 52 38 + 1 = nI (A.S ++ [(nI v', nI f', nI c')]).length
      rw [h1, nI_1, List.length_append, List.length_singleton]
    · show (A.S ++ [(nI v', nI f', nI c')]).length ≤ 10
      rw [List.length_append, List.length_singleton]; omega
    · show ∀ j, j < (A.S ++ [(nI v', nI f', nI c')]).length → ∃ v f c, v < 10 ∧ f < 10 ∧ c < 2 ∧ (A.S ++ [(nI v', nI f', nI c')])[j]? = some (nI v, nI f, nI c) ∧ upd (gA σ 75) (gI σ 52 38).toNatClampNeg (10 * nI v' + nI f') j = nI (10 * v + f) ∧ upd (gA σ 76) (gI σ 52 38).toNatClampNeg (nI c') j = nI c
      rw [hc, e10]
      intro j hj
      rw [List.length_append, List.length_singleton] at hj
      by_cases cj : j < A.S.length
      · obtain ⟨a, b, d, q1, q2, q3, q4, q5, q6⟩ := h3 j cj
        exact ⟨a, b, d, q1, q2, q3, by rw [List.getElem?_append_left cj]; exact q4, by rw [upd, if_neg (by omega)]; exact q5, by rw [upd, if_neg (by omega)]; exact q6⟩
      · have : j = A.S.length := by omega
        subst this
        exact ⟨v', f', c', v1, w1, x1, by rw [List.getElem?_append_right (Nat.le_refl _), Nat.sub_self]; rfl, by rw [upd, if_pos rfl], by rw [upd, if_pos rfl]⟩
  · rw [h1, show (10 : Int32) = nI 10 from rfl, eq_of_nI (by omega) (by omega)] at e
    rw [decide_eq_true e, Bool.not_true, Bool.and_false]
    exact ⟨rfl, hv, f0⟩
