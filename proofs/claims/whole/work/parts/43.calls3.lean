/-! the class's calls: deeds -/
def fOK (F : FS) : Prop := fsOK F ∧ ∀ i, (∃ p, p < 10 ∧ fPl F i = nI p) ∧ (∃ p, p < 10 ∧ fVo F i = nI p) ∧ (∃ p, p < 100 ∧ fPu F i = nI p)
theorem ev_keepDone (k : Nat) (σ : Sto) {u : List (Nat → Int32)} {kp : Nat → Option (Nat → Int32)} {S : Nat → Int32} (hP : PM σ u kp S) (a : Int32) : EvM (k + 2) M_X11_keepDone [.ref 0, .int a] σ (fun v τ => v = some (.int a) ∧ (if 0 ≤ a then PP τ ((S :: u).take 12) kp else PP τ u kp) ∧ Fr [18] σ τ) := by
  refine EvM.of mk_X11_keepDone (Nat.le_of_ble_eq_true rfl) ?_
  refine wpW K_X11_keepDone [] 20 ?_
  refine ⟨fun h => ?_, fun h => ?_⟩
  · refine ⟨rfl, ?_, Fr.rf⟩
    rw [if_neg (fun q => by rw [Int32.lt_iff_toInt_lt] at h; rw [Int32.le_iff_toInt_le] at q; omega)]
    exact ⟨S, hP⟩
  · refine ⟨_, ev_keepMarked _ σ hP, ?_⟩
    rintro v τ ⟨rfl, h1, h2⟩
    refine ⟨rfl, ?_, h2⟩
    rw [if_pos (by rw [Int32.le_iff_toInt_le]; rw [Int32.lt_iff_toInt_lt] at h; omega)]
    exact h1
def doneC (A : AS) (z : Int32 × FS) : Int32 × AS := if 0 ≤ z.1 then (z.1, (A.wF z.2).wU ((snapF A.F :: A.U).take 12)) else (z.1, A)
theorem cv_deed {σ σ1 σ2 τ : Sto} {A : AS} {r s : Nat} (hb : CB σ A r s) (ht : tOK σ) (e : tR σ = A.R) {z : Int32 × FS} {l : List Nat} (h1 : Fr [19] σ σ1) (h2 : Fr l σ1 σ2) (hl : l.all (fun a => [5, 6, 7, 8, 9, 10, 18, 19, 48, 51].contains a) = true) (h3 : Fr [18] σ2 τ) (hF : cOK σ2 5 ∧ cF σ2 5 = z.2) (hn : ¬ 0 ≤ z.1 → z.2 = A.F)
    (hP : if 0 ≤ z.1 then PP τ ((snapF A.F :: A.U).take 12) A.K else PP τ A.U A.K) : some (Value.int z.1) = some (Value.int (doneC A z).1) ∧ CV τ (doneC A z).2 ∧ Fr lC σ τ := by
  have hh : Fr [5, 6, 7, 8, 9, 10, 18, 19, 48, 51] σ τ := ((h1.up _ (by decide)).tr (h2.up _ hl)).tr (h3.up _ (by decide))
  have f5 : ∀ j, j < 6 → 5 + j ∉ [18] := by decide
  have hF' : cOK τ 5 ∧ cF τ 5 = z.2 := ⟨cOK_fr h3 f5 hF.1, (cF_fr h3 f5).trans hF.2⟩
  unfold doneC
  by_cases c : 0 ≤ z.1
  · rw [if_pos c] at hP ⊢
    exact ⟨rfl, cv_fen hb ht e hh (by decide) hF' hP⟩
  · rw [if_neg c] at hP ⊢
    rw [hn c] at hF'
    exact ⟨rfl, cv_fen hb ht e hh (by decide) hF' hP⟩
theorem said_neg {ev : (Nat → Int32) → Int32} {F : FS} {x y : Int32} (hF : fsOK F) (h : ¬ 0 ≤ (saidS ev F x y).1) : (saidS ev F x y).2 = F := by
  unfold saidS at h ⊢
  by_cases c1 : (inS (fN F) x && inS (fN F) y) = true
  · rw [if_pos c1] at h ⊢
    by_cases c2 : fHo F y.toNatClampNeg = x
    · rw [if_pos c2]
    · rw [if_neg c2] at h ⊢
      by_cases c3 : canS ev F x.toNatClampNeg y.toNatClampNeg = true
      · rw [if_pos c3] at h
        rw [Bool.and_eq_true] at c1
        have h1 := in_of hF.1 c1.2
        obtain ⟨q, hq, e⟩ := hF.2 _ h1.1
        exfalso; apply h
        simp only
        rw [e, show (0 : Int32) = nI 0 from rfl, le_of_nI (by omega) (by have := hF.1; omega)]
        omega
      · rw [if_neg c3]
  · rw [if_neg c1]
theorem cc_says (k : Nat) (A : AS) (x y : Int32) : CC (k + 5) M_X11_says [.int x, .int y] A (.int (doneC A (saidS A.ev A.F x y)).1) (doneC A (saidS A.ev A.F x y)).2 := by
  intro σ hv
  obtain ⟨r, s, hb⟩ := hv.b
  refine EvM.of mk_X11_says (Nat.le_of_ble_eq_true rfl) ?_
  refine wpW K_X11_says [] 20 ?_
  refine ⟨_, ev_marks _ σ hb.P, ?_⟩
  rintro w σ1 ⟨rfl, p1, f1⟩
  refine ⟨r, (f1.R (by decide) 11).trans hb.r1, ?_⟩
  have b1 := hb.kF f1 (by decide)
  have hR1 : RC σ1 r A.ev := by
    rcases hb.r with rfl | rfl
    · exact RC_fr f1 (by decide) (by decide) hb.rc
    · exact RC_fr f1 (by decide) (by decide) hb.rc
  refine ⟨_, ev_saidBy _ σ1 r 5 hb.r (Or.inl rfl) b1.1 A.ev hR1 x y, ?_⟩
  rintro w σ2 ⟨rfl, c2, o2, f2⟩
  rw [b1.2] at c2 ⊢
  refine ⟨_, ev_keepDone _ σ2 (PM_fr f2 ?_ ?_ p1) _, ?_⟩
  · rcases hb.r with rfl | rfl <;> decide
  · rcases hb.r with rfl | rfl <;> decide
  rintro w τ ⟨rfl, p3, f3⟩
  rw [hb.F] at p3
  refine cv_deed hb hv.t hv.R f1 f2 ?_ f3 ⟨o2, c2⟩ (said_neg (hb.F ▸ hb.f.2)) p3
  rcases hb.r with rfl | rfl <;> decide
theorem nn_nI {n : Nat} (h : n ≤ 1024) : 0 ≤ nI n := by rw [show (0 : Int32) = nI 0 from rfl, le_of_nI (by omega) h]; omega
theorem add_nI (a b : Nat) : nI a + nI b = nI (a + b) := by unfold nI; rw [Int32.ofNat_add]
theorem nI_ex {x : Int32} {m : Nat} (hm : m ≤ 1023) (h0 : 0 ≤ x.toInt) (h1 : x.toInt ≤ m) : ∃ n, n ≤ m ∧ x = nI n := by
  have := inS_80 (t := m + 1) (x := x) (by omega) (decide_eq_true ⟨h0, by omega⟩)
  exact ⟨_, by omega, this.2⟩
theorem sign_neg {F : FS} {x n : Int32} (hF : fOK F) (h : ¬ 0 ≤ (signS F x n).1) : (signS F x n).2 = F := by
  unfold signS at h ⊢
  by_cases c1 : (inS (fN F) x && !decide (n < 1) && !decide (99 < n)) = true
  · rw [if_pos c1] at h ⊢
    simp only [Bool.and_eq_true, Bool.not_eq_true', decide_eq_false_iff_not] at c1
    by_cases c2 : fHo F x.toNatClampNeg = x
    · rw [if_pos c2]
    · rw [if_neg c2] at h ⊢
      by_cases c3 : fPu F x.toNatClampNeg < n ∨ 99 < fPu F (hoN F x.toNatClampNeg) + n
      · rw [if_pos c3]
      · rw [if_neg c3] at h
        have h1 := in_of hF.1.1 c1.1.1
        have ho := fs_ho hF.1 h1.1
        have hne : hoN F x.toNatClampNeg ≠ x.toNatClampNeg := fun e => c2 (by rw [ho.2, e]; exact h1.2.symm)
        exfalso; apply h
        simp only [upd, if_pos, if_neg hne]
        obtain ⟨p, hp, e⟩ := (hF.2 (hoN F x.toNatClampNeg)).2.2
        have a1 := c1.1.2; have a2 := c1.2
        rw [Int32.lt_iff_toInt_lt] at a1 a2
        simp at a1 a2
        obtain ⟨m, hm1, hm2⟩ := nI_ex (m := 99) (by omega) (by omega) a2
        rw [e, hm2, add_nI]
        exact nn_nI (by omega)
  · rw [if_neg c1]
theorem cc_signs (k : Nat) (A : AS) (hA : fOK A.F) (x n : Int32) : CC (k + 5) M_X11_signs [.int x, .int n] A (.int (doneC A (signS A.F x n)).1) (doneC A (signS A.F x n)).2 := by
  intro σ hv
  obtain ⟨r, s, hb⟩ := hv.b
  refine EvM.of mk_X11_signs (Nat.le_of_ble_eq_true rfl) ?_
  refine wpW K_X11_signs [] 20 ?_
  refine ⟨_, ev_marks _ σ hb.P, ?_⟩
  rintro w σ1 ⟨rfl, p1, f1⟩
  have b1 := hb.kF f1 (by decide)
  refine ⟨_, ev_signedFor _ σ1 5 (Or.inl rfl) b1.1 x n, ?_⟩
  rintro w σ2 ⟨rfl, c2, o2, f2⟩
  rw [b1.2] at c2 ⊢
  refine ⟨_, ev_keepDone _ σ2 (PM_fr f2 (by decide) (by decide) p1) _, ?_⟩
  rintro w τ ⟨rfl, p3, f3⟩
  rw [hb.F] at p3
  exact cv_deed hb hv.t hv.R f1 f2 (by decide) f3 ⟨o2, c2⟩ (sign_neg hA) p3
theorem abs_nI : ∀ a, a < 10 → ∀ b, b < 10 → absS (nI a - nI b) = nI (if a ≤ b then b - a else a - b) := by decide +kernel
theorem move_neg {F : FS} {x n : Int32} (hF : fOK F) (h : ¬ 0 ≤ (moveS F x n).1) : (moveS F x n).2 = F := by
  unfold moveS at h ⊢
  by_cases c1 : (inS (fN F) x && !decide (n < 0) && !decide (10 ≤ n)) = true
  · rw [if_pos c1] at h ⊢
    simp only [Bool.and_eq_true, Bool.not_eq_true', decide_eq_false_iff_not] at c1
    by_cases c2 : absS (fPl F x.toNatClampNeg - n) = 0
    · rw [if_pos c2]
    · rw [if_neg c2] at h
      obtain ⟨p, hp, e⟩ := (hF.2 x.toNatClampNeg).1
      have a1 := c1.1.2; have a2 := c1.2
      rw [Int32.lt_iff_toInt_lt] at a1
      rw [Int32.le_iff_toInt_le] at a2
      simp at a1 a2
      obtain ⟨m, hm1, hm2⟩ := nI_ex (m := 9) (by omega) a1 (by omega)
      exfalso; apply h
      simp only
      rw [e, hm2, abs_nI p hp m (by omega)]
      exact nn_nI (by split <;> omega)
  · rw [if_neg c1]
theorem cc_moves (k : Nat) (A : AS) (hA : fOK A.F) (x n : Int32) : CC (k + 5) M_X11_moves [.int x, .int n] A (.int (doneC A (moveS A.F x n)).1) (doneC A (moveS A.F x n)).2 := by
  intro σ hv
  obtain ⟨r, s, hb⟩ := hv.b
  refine EvM.of mk_X11_moves (Nat.le_of_ble_eq_true rfl) ?_
  refine wpW K_X11_moves [] 20 ?_
  refine ⟨_, ev_marks _ σ hb.P, ?_⟩
  rintro w σ1 ⟨rfl, p1, f1⟩
  have b1 := hb.kF f1 (by decide)
  refine ⟨_, ev_movedTo _ σ1 5 (Or.inl rfl) b1.1 x n, ?_⟩
  rintro w σ2 ⟨rfl, c2, o2, f2⟩
  rw [b1.2] at c2 ⊢
  refine ⟨_, ev_keepDone _ σ2 (PM_fr f2 (by decide) (by decide) p1) _, ?_⟩
  rintro w τ ⟨rfl, p3, f3⟩
  rw [hb.F] at p3
  exact cv_deed hb hv.t hv.R f1 f2 (by decide) f3 ⟨o2, c2⟩ (move_neg hA) p3
theorem roll_cnt (ev : (Nat → Int32) → Int32) (F : FS) (q : Nat) : ∀ n, n ≤ 7 → ∃ c, c ≤ n ∧ (rollS ev F q n).1 = nI c ∧ (c = 0 → (rollS ev F q n).2 = F) := by
  intro n hn
  induction n with
  | zero => exact ⟨0, by omega, rfl, fun _ => rfl⟩
  | succ n ih =>
    obtain ⟨c, h1, h2, h3⟩ := ih (by omega)
    have e : rollS ev F q (n + 1) = if canS ev (rollS ev F q n).2 q n then ((rollS ev F q n).1 + 1, sayF (rollS ev F q n).2 q n) else rollS ev F q n := rfl
    rw [e]
    by_cases c2 : canS ev (rollS ev F q n).2 q n = true
    · rw [if_pos c2]
      refine ⟨c + 1, by omega, ?_, fun h => by omega⟩
      rw [h2, nI_1]
    · rw [if_neg c2]
      exact ⟨c, by omega, h2, h3⟩
theorem roll_neg {ev : (Nat → Int32) → Int32} {F : FS} {x : Int32} (hF : fsOK F) (h : ¬ 0 ≤ (rcallS ev F x).1) : (rcallS ev F x).2 = F := by
  unfold rcallS at h ⊢
  by_cases c1 : inS (fN F) x = true
  · rw [if_pos c1] at h ⊢
    obtain ⟨c, h1, h2, h3⟩ := roll_cnt ev F x.toNatClampNeg (fN F) hF.1
    simp only at h ⊢
    rw [h2] at h
    by_cases c0 : c = 0
    · exact h3 c0
    · exfalso; apply h
      have h7 := hF.1
      rw [if_neg (by rw [show (0 : Int32) = nI 0 from rfl, le_of_nI (by omega) (by omega)]; omega)]
      exact nn_nI (by omega)
  · rw [if_neg c1]
theorem cc_calls (k : Nat) (A : AS) (x : Int32) : CC (k + 5) M_X11_calls [.int x] A (.int (doneC A (rcallS A.ev A.F x)).1) (doneC A (rcallS A.ev A.F x)).2 := by
  intro σ hv
  obtain ⟨r, s, hb⟩ := hv.b
  refine EvM.of mk_X11_calls (Nat.le_of_ble_eq_true rfl) ?_
  refine wpW K_X11_calls [] 20 ?_
  refine ⟨_, ev_marks _ σ hb.P, ?_⟩
  rintro w σ1 ⟨rfl, p1, f1⟩
  refine ⟨r, (f1.R (by decide) 11).trans hb.r1, ?_⟩
  have b1 := hb.kF f1 (by decide)
  have hR1 : RC σ1 r A.ev := by
    rcases hb.r with rfl | rfl
    · exact RC_fr f1 (by decide) (by decide) hb.rc
    · exact RC_fr f1 (by decide) (by decide) hb.rc
  refine ⟨_, ev_rollCalled _ σ1 r 5 hb.r (Or.inl rfl) b1.1 A.ev hR1 x, ?_⟩
  rintro w σ2 ⟨rfl, c2, o2, -, f2⟩
  rw [b1.2] at c2 ⊢
  refine ⟨_, ev_keepDone _ σ2 (PM_fr f2 ?_ ?_ p1) _, ?_⟩
  · rcases hb.r with rfl | rfl <;> decide
  · rcases hb.r with rfl | rfl <;> decide
  rintro w τ ⟨rfl, p3, f3⟩
  rw [hb.F] at p3
  refine cv_deed hb hv.t hv.R f1 f2 ?_ f3 ⟨o2, c2⟩ (roll_neg (hb.F ▸ hb.f.2)) p3
  rcases hb.r with rfl | rfl <;> decide
