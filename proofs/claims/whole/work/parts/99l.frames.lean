/-! what one side does leaves the other side as it was; the law's end -/
def lMo : List Nat := lM ++ [83]
def lCo : List Nat := lC ++ [83]
theorem cv_fr {σ τ : Sto} {A : AS} (h : CV σ A) (f : Fr lMo σ τ) : CV τ A := by
  obtain ⟨⟨r, s, hb⟩, ht, hR⟩ := h
  refine ⟨⟨r, s, hb.fr1 f ?_⟩, tOK_fr f (nmem (by decide)) (nmem (by decide)) ht, (tR_fr f (nmem (by decide)) (nmem (by decide))).trans hR⟩
  rcases hb.rs with h | h <;> (obtain ⟨rfl, rfl⟩ := h; decide)
theorem fm_C {σ τ : Sto} (f : Fr lCo σ τ) : FM lCo [] σ τ := ⟨f.mono (fun a ha => List.mem_cons_of_mem _ ha), fun j _ => ⟨(f 52 (nmem (by decide))).1 j, (f 52 (nmem (by decide))).2.2.2 j⟩⟩
theorem mv_fr {σ τ : Sto} {A : AS} (h0 : MV σ A) (f : Fr lCo σ τ) : MV τ A := by
  have hf := fm_C f
  obtain ⟨h, h1, h2⟩ := h0
  obtain ⟨e, k⟩ := rw_fr hf (by decide) (by decide)
  exact ⟨h.gen hf (h.kF hf (by decide) (by decide) (by decide)) (h.x.go hf (by decide) (by decide)) (h.u.go hf (by decide) (by decide)) (h.k.go hf (by decide) (by decide) (by decide) (by decide)) (h.h.go hf (by decide) (by decide) (by decide)) (h.s.go hf (by decide) (by decide) (by decide)) rfl (by decide) (by decide), k h1, e.trans h2⟩
/-- both sides hold A -/
def LI (σ : Sto) (A : AS) : Prop := CV σ A ∧ MV σ A ∧ aO A
theorem LI.ok {σ : Sto} {A : AS} (h : LI σ A) : fOK A.F := h.2.1.1.ok
theorem cc_use {k : Nat} {M : Mt} {args : List Value} {A B : AS} {v : Value} (h : CC k M args A v B) {σ : Sto} (hc : CV σ A) (hm : MV σ A) : EvM k M (.ref 0 :: args) σ (fun w τ => w = some v ∧ CV τ B ∧ MV τ A) := (h σ hc).post (fun w τ q => ⟨q.1, q.2.1, mv_fr hm (q.2.2.mono (fun a ha => List.mem_append_left _ ha))⟩)
theorem mc_use {k : Nat} {M : Mt} {args : List Value} {A B : AS} {v : Value} (h : MC k M args A v B) {σ : Sto} (hc : CV σ B) (hm : MV σ A) : EvM k M (.ref 52 :: args) σ (fun w τ => w = some v ∧ CV τ B ∧ MV τ B) := (h σ hm).post (fun w τ q => ⟨q.1, cv_fr hc (q.2.2.mono (fun a ha => List.mem_append_left _ ha)), q.2.1⟩)
theorem mt_use {k : Nat} {M : Mt} {args : List Value} {A : AS} {v : Option Value} {d : Value} (h : MT k M args A v d) {σ : Sto} (hc : CV σ A) (hm : MV σ A) : EvM k M (.ref 52 :: args) σ (fun w τ => w = some (v.getD d) ∧ gI τ 52 7 = (if v.isSome then 0 else 1) ∧ CV τ A ∧ MV τ A ∧ Fr lM σ τ) := (h σ hm).post (fun w τ q => ⟨q.1, q.2.1, cv_fr hc (q.2.2.2.mono (fun a ha => List.mem_append_left _ ha)), q.2.2.1, q.2.2.2⟩)
