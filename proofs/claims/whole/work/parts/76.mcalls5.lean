/-! the model's calls: says, signs, moves, calls -/
def lDm : List Nat := [53, 60, 61, 63]
def jDm : List Nat := [7, 8, 9, 10, 11, 12, 17, 20]
theorem mv_deedM {σ τ : Sto} {A : AS} (h : MV σ A) (ff : FM lDm jDm σ τ) {G : FS} {U : List (Nat → Int32)} (hF : mF τ 53 = G) (hn : fN G = fN A.F) (ho : fOK G) (hU : UV τ U) : MV τ ((A.wF G).wU U) ∧ Fr lM σ τ := by
  have hb := h.1
  obtain ⟨e3, r3⟩ := rw_fr ff (by decide) (by decide)
  refine ⟨⟨?_, r3 h.2.1, e3.trans h.2.2⟩, ff.fr (by decide)⟩
  refine hb.gen (B := (A.wF G).wU U) ff ⟨by show _ = nI (fN G); rw [hn]; exact (ff.i 1 (by decide)).trans hb.n, hF, ho⟩ (hb.x.go ff (by decide) (by decide)) hU ?_ (hb.h.go ff (by decide) (by decide) (by decide)) (hb.s.go ff (by decide) (by decide) (by decide)) rfl (by decide) (by decide)
  show KV τ (fN G) A.K
  rw [hn]
  exact hb.k.go ff (by decide) (by decide) (by decide) (by decide)
def rfS (ev : (Nat → Int32) → Int32) (F : FS) (x y : Int32) : Int32 := if inS (fN F) x && inS (fN F) y then (if fHo F y.toNatClampNeg = x then -2 else if canS ev F x.toNatClampNeg y.toNatClampNeg then 0 else -3) else -1
theorem ev_refS (k : Nat) (σ : Sto) (a : Nat) (ha : a = 53 ∨ a = 63) (ho : mOK σ a) (ev : (Nat → Int32) → Int32) (hR : MRu σ ev) (x y : Int32) : EvM (k + 262) M_X12_refusesSaying [.ref 52, .ref a, .int x, .int y] σ (fun v τ => v = some (.int (rfS ev (mF σ a) x y)) ∧ FM [60] jQ σ τ) := by
  have h7 := ho.2.1
  have hn := ho.1
  obtain ⟨-, -, -, rHo, -⟩ := mF_rd σ a
  have hcan := fun q nm hq hnm => ev_canSay k σ a ha ho ev hR q nm hq hnm
  generalize mF σ a = F at *
  refine EvM.of mk_X12_refusesSaying (Nat.le_of_ble_eq_true rfl) ?_
  unfold rfS
  rcases ha with rfl | rfl
  all_goals
    refine wpW K_X12_refusesSaying [] 60 ?_
    refine ⟨_, ev_isOne _ σ (fN F) hn h7 x, ?_⟩
    rintro v τ ⟨h9, rfl⟩
    obtain rfl := h9.symm
    refine ⟨fun c => ?_, fun c1 => ⟨_, ev_isOne _ σ (fN F) hn h7 y, ?_⟩⟩
    · rw [bI_eq] at c
      rw [if_neg (by rw [c]; simp)]
      exact ⟨rfl, FM.rf⟩
    rw [bI_ne] at c1
    rintro v τ ⟨h9, rfl⟩
    obtain rfl := h9.symm
    refine ⟨fun c2 => ?_, fun c => ?_⟩
    · rw [bI_ne] at c2
      rw [if_pos (by rw [c1, c2]; rfl)]
      obtain ⟨x1, x2⟩ := in_of h7 c1
      obtain ⟨y1, y2⟩ := in_of h7 c2
      generalize x.toNatClampNeg = q at *
      generalize y.toNatClampNeg = nm at *
      subst x2 y2
      refine ⟨i14_30 (by omega), fun d => ⟨_, hcan q nm x1 y1, ?_⟩, fun d => ?_⟩
      · have d' : ¬ fHo F nm = nI q := fun z => d ((rHo nm (by omega)).trans z)
        rw [if_neg d']
        rintro v τ' ⟨rfl, f⟩
        refine ⟨fun e => ?_, fun e => ?_⟩
        · rw [bI_eq] at e
          rw [if_neg (by rw [e]; decide)]
          exact ⟨rfl, f⟩
        · rw [bI_ne] at e
          rw [if_pos e]
          exact ⟨rfl, f⟩
      · have d' : fHo F nm = nI q := (rHo nm (by omega)).symm.trans d
        rw [if_pos d']
        exact ⟨rfl, FM.rf⟩
    · rw [bI_eq] at c
      rw [if_neg (by rw [c, c1]; decide)]
      exact ⟨rfl, FM.rf⟩
theorem said_rf (ev : (Nat → Int32) → Int32) {F : FS} (hF : fsOK F) (x y : Int32) : (rfS ev F x y < 0 ∧ doneC = doneC ∧ saidS ev F x y = (rfS ev F x y, F)) ∨ (rfS ev F x y = 0 ∧ inS (fN F) x = true ∧ inS (fN F) y = true ∧ 0 ≤ (saidS ev F x y).1 ∧ saidS ev F x y = (fHo F y.toNatClampNeg, sayF F x.toNatClampNeg y.toNatClampNeg)) := by
  unfold rfS saidS
  by_cases c : (inS (fN F) x && inS (fN F) y) = true
  · rw [if_pos c, if_pos c]
    by_cases d : fHo F y.toNatClampNeg = x
    · rw [if_pos d, if_pos d]
      exact Or.inl ⟨by decide, rfl, rfl⟩
    · rw [if_neg d, if_neg d]
      by_cases e : canS ev F x.toNatClampNeg y.toNatClampNeg = true
      · rw [if_pos e, if_pos e]
        rw [Bool.and_eq_true] at c
        refine Or.inr ⟨rfl, c.1, c.2, ?_, rfl⟩
        obtain ⟨h1, h2⟩ := fs_ho hF (in_of hF.1 c.2).1
        have := hF.1
        show 0 ≤ fHo F _
        rw [h2]
        exact nn_nI (by omega)
      · rw [if_neg e, if_neg e]
        exact Or.inl ⟨by decide, rfl, rfl⟩
  · rw [if_neg c, if_neg c]
    exact Or.inl ⟨by decide, rfl, rfl⟩
theorem doneC_neg {A : AS} {r : Int32} (h : r < 0) : doneC A (r, A.F) = (r, A) := by
  unfold doneC
  rw [if_neg (fun z => Int32.not_lt.mpr z h)]
theorem mc_says (k : Nat) (A : AS) (x y : Int32) : MC (k + 263) M_X12_says [.int x, .int y] A (.int (doneC A (saidS A.ev A.F x y)).1) (doneC A (saidS A.ev A.F x y)).2 := by
  intro σ0 hv0
  refine EvM.of mk_X12_says (Nat.le_of_ble_eq_true rfl) ?_
  refine wpW K_X12_says [5] 10 ?_
  obtain ⟨hv, f0⟩ := mv_t0 hv0
  show WW _ _ _ 5 [some (.ref 52), some (.int x), some (.int y), none, none] _ (t0S σ0)
  generalize t0S σ0 = σ at hv f0 ⊢
  have hb := hv.1
  have h7 := hb.n7
  have hS := ev_refS k σ 53 (Or.inl rfl) hb.mok A.ev hb.ru x y
  rw [hb.F] at hS
  refine wpW K_X12_says [] 60 ?_
  refine ⟨_, hS, ?_⟩
  rintro v σ1 ⟨rfl, f1⟩
  rcases said_rf A.ev hb.ok.1 x y with ⟨n1, -, n2⟩ | ⟨n1, n2, n3, n4, n5⟩
  · rw [n2, doneC_neg n1]
    refine ⟨fun c => absurd n1 (Int32.not_lt.mpr c), fun _ => ⟨rfl, ?_⟩⟩
    have := mv_same hv f1 (by decide) (by decide) (by decide) (by decide)
    exact ⟨this.1, f0.tr this.2⟩
  · rw [n1]
    refine ⟨fun _ => ?_, fun c => absurd (by decide) c⟩
    rw [doneC, if_pos n4, n5]
    obtain ⟨x1, x2⟩ := in_of h7 n2
    obtain ⟨y1, y2⟩ := in_of h7 n3
    generalize x.toNatClampNeg = q at *
    generalize y.toNatClampNeg = nm at *
    subst x2 y2
    refine ⟨_, ev_remember _ σ1 53 (Or.inl rfl) (hb.u.go f1 (by decide) (by decide)), ?_⟩
    rintro v σ2 ⟨rfl, hU, f2⟩
    have e53 : gA σ2 53 = gA σ 53 := by rw [f2.a 53 (by decide), f1.a 53 (by decide)]
    have hF2 : mF σ2 53 = A.F := by
      rw [mF_fr f2 (by decide) (by decide) (by decide), mF_fr f1 (by decide) (by decide) (by decide), hb.F]
    obtain ⟨-, -, -, rHo, -⟩ := mF_rd σ2 53
    refine ⟨i14_30 (by omega), _, ev_goSaying _ σ2 53 (Or.inl rfl) q nm (by omega), ?_⟩
    rintro v σ3 ⟨rfl, hF3, f3⟩
    rw [hF2] at hF3
    have ff : FM lDm jDm σ σ3 := ((f1.up _ _ (by decide) (by decide)).tr (f2.up _ _ (by decide) (by decide))).tr (f3.up _ _ (by decide) (by decide))
    have hU3 := hU.go f3 (by decide) (by decide)
    rw [f1.a 53 (by decide), ← snap_seg, hb.F] at hU3
    have := mv_deedM hv ff hF3 rfl (fok_say hb.ok x1) hU3
    refine ⟨?_, this.1, f0.tr this.2⟩
    show some (Value.int (gA σ2 53 (14 + nI nm).toNatClampNeg)) = _
    rw [rHo nm (by omega), hF2]
def rdS (F : FS) (x n : Int32) : Int32 := if inS (fN F) x && !decide (n < 1) && !decide (99 < n) then (if fHo F x.toNatClampNeg = x then -2 else if fPu F x.toNatClampNeg < n ∨ 99 < fPu F (hoN F x.toNatClampNeg) + n then -3 else 0) else -1
theorem ev_refD (k : Nat) (σ : Sto) (ho : mOK σ 53) (x n : Int32) : EvM (k + 2) M_X12_refusesDeed [.ref 52, .int x, .int n] σ (fun v τ => τ = σ ∧ v = some (.int (rdS (mF σ 53) x n))) := by
  have hF := ho.2
  have h7 := ho.2.1
  have hn := ho.1
  obtain ⟨-, -, rPu, rHo, -⟩ := mF_rd σ 53
  generalize mF σ 53 = F at *
  refine EvM.of mk_X12_refusesDeed (Nat.le_of_ble_eq_true rfl) ?_
  unfold rdS
  refine wpW K_X12_refusesDeed [30] 60 ?_
  refine ⟨_, ev_isOne _ σ (fN F) hn h7 x, ?_⟩
  rintro v τ ⟨h9, rfl⟩
  obtain rfl := h9.symm
  refine ⟨fun c => ?_, fun c1 => ⟨_, ev_in _ _ _ _ _, ?_⟩⟩
  · rw [bI_eq] at c
    rw [c]
    exact ⟨rfl, rfl⟩
  rw [bI_ne] at c1
  rintro v τ ⟨h9, rfl⟩
  obtain rfl := h9.symm
  refine ⟨fun c2 => ?_, fun c => ?_⟩
  · rw [bI_ne] at c2
    rw [Bool.and_assoc, c1, c2]
    obtain ⟨x1, x2⟩ := in_of h7 c1
    generalize x.toNatClampNeg = i at *
    subst x2
    obtain ⟨e1, e2⟩ := fs_ho hF x1
    have eH := rHo i (by omega)
    rw [e2] at eH
    refine ⟨i14_30 (by omega), ?_⟩
    show WW _ _ _ 30 [some (.ref 52), some (.int (nI i)), some (.int n), some (.int (gA σ 53 (14 + nI i).toNatClampNeg))] [] σ
    rw [eH, if_pos (show (true && true) = true from rfl)]
    refine wpW K_X12_refusesDeed [] 60 ?_
    refine ⟨fun d => ⟨i7_30 (by omega), fun e => ?_, fun e => ⟨i7_30 (by omega), fun g => ?_, fun g => ?_⟩⟩, fun d => ?_⟩
    · rw [rPu i (by omega)] at e
      rw [if_neg (by rw [e2]; exact d), if_pos (Or.inl e)]
      exact ⟨rfl, rfl⟩
    · rw [rPu i (by omega)] at e
      rw [rPu _ (by omega)] at g
      rw [if_neg (by rw [e2]; exact d), if_neg (by rintro (z | z); exact e z; exact Int32.not_lt.mpr g z)]
      exact ⟨rfl, rfl⟩
    · rw [rPu i (by omega)] at e
      rw [rPu _ (by omega)] at g
      rw [if_neg (by rw [e2]; exact d), if_pos (Or.inr (Int32.not_le.mp g))]
      exact ⟨rfl, rfl⟩
    · rw [if_pos (by rw [e2]; exact d)]
      exact ⟨rfl, rfl⟩
  · rw [bI_eq] at c
    rw [Bool.and_assoc, c, Bool.and_false]
    exact ⟨rfl, rfl⟩
