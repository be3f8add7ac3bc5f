/-! the model's calls that may refuse by a throw: one, name, row -/
def oneC (A : AS) (x w : Int32) : Option Int32 := if inS (fN A.F) x then (if w = 0 then some (fPl A.F x.toNatClampNeg) else if w = 1 then some (fVo A.F x.toNatClampNeg) else if w = 2 then some (fPu A.F x.toNatClampNeg) else if w = 3 then some (heldS A.F x) else if w = 4 then some (sayableS A.ev A.F x.toNatClampNeg) else none) else none
def nameC (A : AS) (x w : Int32) : Option Int32 := if inS (fN A.F) x then (if w = 0 then some (fHo A.F x.toNatClampNeg) else if w = 1 then some (fAg A.F x.toNatClampNeg) else if w = 2 then some (sayersS A.ev A.F x.toNatClampNeg) else if w = 3 then some (absS (fPl A.F (hoN A.F x.toNatClampNeg) - fPl A.F x.toNatClampNeg)) else none) else none
def rowC (A : AS) (x : Int32) : Option Int64 := if inS A.R.length x then A.R[x.toNatClampNeg]? else none
def MT (k : Nat) (M : Mt) (args : List Value) (A : AS) (v : Option Value) (d : Value) : Prop := ∀ σ, MV σ A → EvM k M (.ref 52 :: args) σ (fun w τ => w = some (v.getD d) ∧ gI τ 52 7 = (if v.isSome then 0 else 1) ∧ MV τ A ∧ Fr lM σ τ)
theorem ne_inS {n : Nat} {w : Int32} (hn : n ≤ 1000) (h : inS n w = false) (j : Nat) (hj : j < n) : ¬ w = nI j := fun e => by
  rw [e, inS, nI_toInt (by omega)] at h
  have := of_decide_eq_false h
  omega
theorem in_S0 {x : Int32} {n : Nat} (hn : n ≤ 1000) : (!decide (x < 0) && !decide (nI n - 1 < x)) = inS n x := by
  match n, hn with
  | 0, _ =>
    rw [Bool.eq_iff_iff, inS]
    simp only [Bool.and_eq_true, Bool.not_eq_true', decide_eq_false_iff_not, decide_eq_true_eq, Int32.lt_iff_toInt_lt]
    rw [show (nI 0 - 1).toInt = -1 from by decide, show (0 : Int32).toInt = 0 from rfl]
    omega
  | n + 1, h => rw [show nI (n + 1) - 1 = nI n by rw [← add_nI]; exact Int32.add_sub_cancel _ _]; exact in_S (by omega)
theorem abs_sym {a b : Int32} (ha : ∃ p, p < 10 ∧ a = nI p) (hb : ∃ p, p < 10 ∧ b = nI p) : absS (a - b) = absS (b - a) := by
  obtain ⟨p, p1, rfl⟩ := ha
  obtain ⟨q, q1, rfl⟩ := hb
  rw [abs_nI p p1 q q1, abs_nI q q1 p p1]
  congr 1
  split <;> split <;> omega
theorem mc_one (k : Nat) (A : AS) (x w : Int32) : MT (k + 263) M_X12_one [.int x, .int w] A ((oneC A x w).map Value.int) (.int 0) := by
  intro σ0 hv0
  refine EvM.of mk_X12_one (Nat.le_of_ble_eq_true rfl) ?_
  refine wpW K_X12_one [5] 10 ?_
  obtain ⟨hv, f0⟩ := mv_t0 hv0
  have z0 : gI (t0S σ0) 52 7 = 0 := rfl
  show WW _ _ _ 5 [some (.ref 52), some (.int x), some (.int w)] _ (t0S σ0)
  generalize t0S σ0 = σ at hv f0 z0 ⊢
  have hb := hv.1
  have h7 := hb.n7
  generalize hO : oneC A x w = O
  have no : O = none → WW M_X12_one (k + 263) (fun v τ => v = some ((O.map Value.int).getD (.int 0)) ∧ gI τ 52 7 = (if (O.map Value.int).isSome then 0 else 1) ∧ MV τ A ∧ Fr lM σ0 τ) 22 [some (.ref 52), some (.int x), some (.int w)] [] σ := by
    intro e
    rw [e]
    refine wpW K_X12_one [] 10 ?_
    refine ⟨_, ev_lost _ _, ?_⟩
    rintro v τ ⟨rfl, rfl⟩
    have := mv_same hv (show FM [] [7] σ (sI σ 52 7 1) from FM.rf.sI (by decide)) (by decide) (by decide) (by decide) (by decide)
    exact ⟨rfl, rfl, this.1, f0.tr this.2⟩
  refine wpW K_X12_one [22, 27] 30 ?_
  refine ⟨_, ev_isOne _ σ (fN A.F) hb.n h7 x, ?_⟩
  rintro v τ ⟨h9, rfl⟩
  obtain rfl := h9.symm
  refine ⟨fun c => ?_, fun c1 => ⟨_, ev_in _ _ _ _ _, ?_⟩⟩
  · rw [bI_eq] at c
    refine no ?_
    rw [← hO, oneC, if_neg (by rw [c]; decide)]
  rw [bI_ne] at c1
  rintro v τ ⟨h9, rfl⟩
  obtain rfl := h9.symm
  rw [show (4 : Int32) = nI 4 from rfl, in_S (by omega)]
  refine ⟨fun c2 => ?_, fun c => ?_⟩
  rotate_left
  · rw [bI_eq] at c
    refine no ?_
    have n := ne_inS (by omega) c
    rw [← hO, oneC, if_pos c1, if_neg (show ¬ w = 0 from n 0 (by omega)), if_neg (show ¬ w = 1 from n 1 (by omega)), if_neg (show ¬ w = 2 from n 2 (by omega)), if_neg (show ¬ w = 3 from n 3 (by omega)), if_neg (show ¬ w = 4 from n 4 (by omega))]
  rw [bI_ne] at c2
  obtain ⟨x1, x2⟩ := in_of h7 c1
  obtain ⟨w1, w2⟩ := inS_80 (by omega) c2
  obtain ⟨rPl, rVo, rPu, -⟩ := mF_rd σ 53
  rw [hb.F] at rPl rVo rPu
  rw [oneC, if_pos c1] at hO
  generalize x.toNatClampNeg = q at *
  generalize w.toNatClampNeg = d at *
  subst x2
  refine wpW K_X12_one [] 30 ?_
  refine ⟨fun e => ?_, fun n0 => ⟨fun e => ?_, fun n1 => ⟨fun e => ?_, fun n2 => ⟨fun e => ?_, fun n3 => ?_⟩⟩⟩⟩
  · rw [if_pos e] at hO
    refine ⟨i30 (by omega), ?_, by rw [← hO]; exact z0, hv, f0⟩
    rw [← hO, ← rPl q (by omega)]
    rfl
  · rw [if_neg n0, if_pos e] at hO
    refine ⟨in7 (by omega), ?_, by rw [← hO]; exact z0, hv, f0⟩
    rw [← hO, ← rVo q (by omega)]
    rfl
  · rw [if_neg n0, if_neg n1, if_pos e] at hO
    refine ⟨i7_30 (by omega), ?_, by rw [← hO]; exact z0, hv, f0⟩
    rw [← hO, ← rPu q (by omega)]
    rfl
  · rw [if_neg n0, if_neg n1, if_neg n2, if_pos e] at hO
    refine ⟨_, ev_heldBy _ σ 53 (Or.inl rfl) hb.mok _, ?_⟩
    rintro v τ ⟨h9, rfl⟩
    obtain rfl := h9.symm
    rw [hb.F]
    exact ⟨by rw [← hO]; rfl, by rw [← hO]; exact z0, hv, f0⟩
  · have n0 : ¬ d = 0 := fun e => n0 (by rw [w2, e]; rfl)
    have n1 : ¬ d = 1 := fun e => n1 (by rw [w2, e]; rfl)
    have n2 : ¬ d = 2 := fun e => n2 (by rw [w2, e]; rfl)
    have n3 : ¬ d = 3 := fun e => n3 (by rw [w2, e]; rfl)
    have d4 : d = 4 := by omega
    rw [w2, d4, if_neg (by decide), if_neg (by decide), if_neg (by decide), if_neg (by decide), if_pos (by decide)] at hO
    refine ⟨_, ev_sayableM k σ 53 (Or.inl rfl) hb.mok A.ev hb.ru q (by rw [hb.F]; exact x1), ?_⟩
    rintro v τ ⟨rfl, f⟩
    rw [hb.F]
    have := mv_same hv f (by decide) (by decide) (by decide) (by decide)
    exact ⟨by rw [← hO]; rfl, by rw [← hO]; exact (f.i 7 (by decide)).trans z0, this.1, f0.tr this.2⟩
theorem mc_name (k : Nat) (A : AS) (x w : Int32) : MT (k + 263) M_X12_name [.int x, .int w] A ((nameC A x w).map Value.int) (.int 0) := by
  intro σ0 hv0
  refine EvM.of mk_X12_name (Nat.le_of_ble_eq_true rfl) ?_
  refine wpW K_X12_name [5] 10 ?_
  obtain ⟨hv, f0⟩ := mv_t0 hv0
  have z0 : gI (t0S σ0) 52 7 = 0 := rfl
  show WW _ _ _ 5 [some (.ref 52), some (.int x), some (.int w)] _ (t0S σ0)
  generalize t0S σ0 = σ at hv f0 z0 ⊢
  have hb := hv.1
  have h7 := hb.n7
  generalize hO : nameC A x w = O
  have no : O = none → WW M_X12_name (k + 263) (fun v τ => v = some ((O.map Value.int).getD (.int 0)) ∧ gI τ 52 7 = (if (O.map Value.int).isSome then 0 else 1) ∧ MV τ A ∧ Fr lM σ0 τ) 22 [some (.ref 52), some (.int x), some (.int w)] [] σ := by
    intro e
    rw [e]
    refine wpW K_X12_name [] 10 ?_
    refine ⟨_, ev_lost _ _, ?_⟩
    rintro v τ ⟨rfl, rfl⟩
    have := mv_same hv (show FM [] [7] σ (sI σ 52 7 1) from FM.rf.sI (by decide)) (by decide) (by decide) (by decide) (by decide)
    exact ⟨rfl, rfl, this.1, f0.tr this.2⟩
  refine wpW K_X12_name [22, 27] 30 ?_
  refine ⟨_, ev_isOne _ σ (fN A.F) hb.n h7 x, ?_⟩
  rintro v τ ⟨h9, rfl⟩
  obtain rfl := h9.symm
  refine ⟨fun c => ?_, fun c1 => ⟨_, ev_in _ _ _ _ _, ?_⟩⟩
  · rw [bI_eq] at c
    refine no ?_
    rw [← hO, nameC, if_neg (by rw [c]; decide)]
  rw [bI_ne] at c1
  rintro v τ ⟨h9, rfl⟩
  obtain rfl := h9.symm
  rw [show (3 : Int32) = nI 3 from rfl, in_S (by omega)]
  refine ⟨fun c2 => ?_, fun c => ?_⟩
  rotate_left
  · rw [bI_eq] at c
    refine no ?_
    have n := ne_inS (by omega) c
    rw [← hO, nameC, if_pos c1, if_neg (show ¬ w = 0 from n 0 (by omega)), if_neg (show ¬ w = 1 from n 1 (by omega)), if_neg (show ¬ w = 2 from n 2 (by omega)), if_neg (show ¬ w = 3 from n 3 (by omega))]
  rw [bI_ne] at c2
  obtain ⟨x1, x2⟩ := in_of h7 c1
  obtain ⟨w1, w2⟩ := inS_80 (by omega) c2
  obtain ⟨rPl, -, -, rHo, rAg, -⟩ := mF_rd σ 53
  rw [hb.F] at rPl rHo rAg
  rw [nameC, if_pos c1] at hO
  generalize x.toNatClampNeg = q at *
  generalize w.toNatClampNeg = d at *
  subst x2
  refine wpW K_X12_name [] 30 ?_
  refine ⟨fun e => ?_, fun n0 => ⟨fun e => ?_, fun n1 => ⟨fun e => ?_, fun n2 => ?_⟩⟩⟩
  · rw [if_pos e] at hO
    refine ⟨i14_30 (by omega), ?_, by rw [← hO]; exact z0, hv, f0⟩
    rw [← hO, ← rHo q (by omega)]
    rfl
  · rw [if_neg n0, if_pos e] at hO
    refine ⟨i21_30 (by omega), ?_, by rw [← hO]; exact z0, hv, f0⟩
    rw [← hO, ← rAg q (by omega)]
    rfl
  · rw [if_neg n0, if_neg n1, if_pos e] at hO
    refine ⟨_, ev_sayersM k σ hb.mok A.ev hb.ru q (by rw [hb.F]; exact x1), ?_⟩
    rintro v τ ⟨rfl, f⟩
    rw [hb.F]
    have := mv_same hv f (by decide) (by decide) (by decide) (by decide)
    exact ⟨by rw [← hO]; rfl, by rw [← hO]; exact (f.i 7 (by decide)).trans z0, this.1, f0.tr this.2⟩
  · have n0 : ¬ d = 0 := fun e => n0 (by rw [w2, e]; rfl)
    have n1 : ¬ d = 1 := fun e => n1 (by rw [w2, e]; rfl)
    have n2 : ¬ d = 2 := fun e => n2 (by rw [w2, e]; rfl)
    have d3 : d = 3 := by omega
    rw [w2, d3, if_neg (by decide), if_neg (by decide), if_neg (by decide), if_pos (by decide)] at hO
    obtain ⟨o1, o2⟩ := fs_ho hb.ok.1 x1
    have eH := rHo q (by omega)
    rw [o2] at eH
    refine ⟨i14_30 (by omega), ?_⟩
    show ∃ Q', EvM _ M_X12_farOf [.ref 53, .int (nI q), .int (gA σ 53 (14 + nI q).toNatClampNeg)] σ Q' ∧ _
    rw [eH]
    refine ⟨_, ev_farOf _ σ 53 (Or.inl rfl) q (hoN A.F q) (by omega) (by omega), ?_⟩
    rintro v τ ⟨h9, rfl⟩
    obtain rfl := h9.symm
    rw [hb.F]
    refine ⟨?_, by rw [← hO]; exact z0, hv, f0⟩
    rw [← hO, abs_sym (hb.ok.pl q) (hb.ok.pl (hoN A.F q))]
    rfl
theorem mc_row (k : Nat) (A : AS) (x : Int32) : MT (k + 1) M_X12_row [.int x] A ((rowC A x).map Value.long) (.long 0) := by
  intro σ0 hv0
  refine EvM.of mk_X12_row (Nat.le_of_ble_eq_true rfl) ?_
  refine wpW K_X12_row [5] 10 ?_
  obtain ⟨hv, f0⟩ := mv_t0 hv0
  have z0 : gI (t0S σ0) 52 7 = 0 := rfl
  show WW _ _ _ 5 [some (.ref 52), some (.int x)] _ (t0S σ0)
  generalize t0S σ0 = σ at hv f0 z0 ⊢
  obtain ⟨hb, hr, hR⟩ := id hv
  have hl : gI σ 52 6 = nI A.R.length := by rw [hr.1, hR]
  have h16 : A.R.length ≤ 16 := by rw [← hR]; exact hr.2
  generalize hO : rowC A x = O
  refine wpW K_X12_row [] 30 ?_
  refine ⟨_, ev_in _ _ _ _ _, ?_⟩
  rintro v τ ⟨h9, rfl⟩
  obtain rfl := h9.symm
  rw [hl, in_S0 (by omega)]
  refine ⟨fun c => ?_, fun c => ?_⟩
  · rw [bI_eq] at c
    refine ⟨_, ev_lost _ _, ?_⟩
    rintro v τ ⟨rfl, rfl⟩
    have := mv_same hv (show FM [] [7] σ (sI σ 52 7 1) from FM.rf.sI (by decide)) (by decide) (by decide) (by decide) (by decide)
    have e : O = none := by rw [← hO, rowC, if_neg (by rw [c]; decide)]
    rw [e]
    exact ⟨rfl, rfl, this.1, f0.tr this.2⟩
  · rw [bI_ne] at c
    obtain ⟨x1, x2⟩ := inS_80 (by omega) c
    have e : O = some (gJ σ 56 x.toNatClampNeg) := by
      rw [← hO, rowC, if_pos c, ← hR, mRw, List.getElem?_map, List.getElem?_range (by rw [hl, nI_clamp (by omega)]; exact x1)]
      rfl
    rw [e]
    refine ⟨?_, rfl, z0, hv, f0⟩
    rw [x2]
    exact inN (by omega) (by omega)
