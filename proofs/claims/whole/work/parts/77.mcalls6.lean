/-! the model's calls: signs, moves, calls, days -/
theorem sign_rd {F : FS} (hF : fOK F) (x n : Int32) : (rdS F x n < 0 ∧ signS F x n = (rdS F x n, F)) ∨ (rdS F x n = 0 ∧ inS (fN F) x = true ∧ 0 ≤ (signS F x n).1 ∧ signS F x n = (upd (upd (fPu F) x.toNatClampNeg (fPu F x.toNatClampNeg - n)) (hoN F x.toNatClampNeg) (upd (fPu F) x.toNatClampNeg (fPu F x.toNatClampNeg - n) (hoN F x.toNatClampNeg) + n) (hoN F x.toNatClampNeg), wPu F (upd (upd (fPu F) x.toNatClampNeg (fPu F x.toNatClampNeg - n)) (hoN F x.toNatClampNeg) (upd (fPu F) x.toNatClampNeg (fPu F x.toNatClampNeg - n) (hoN F x.toNatClampNeg) + n)))) := by
  have hneg : ¬ 0 ≤ (signS F x n).1 → (signS F x n).2 = F := sign_neg hF
  have hpu := (fok_sign hF x n).pu
  unfold rdS
  unfold signS at hneg hpu ⊢
  by_cases c : (inS (fN F) x && !decide (n < 1) && !decide (99 < n)) = true
  · rw [if_pos c] at hneg hpu ⊢
    rw [if_pos c]
    by_cases d : fHo F x.toNatClampNeg = x
    · rw [if_pos d, if_pos d]; exact Or.inl ⟨by decide, rfl⟩
    · rw [if_neg d] at hneg hpu ⊢
      rw [if_neg d]
      by_cases e : fPu F x.toNatClampNeg < n ∨ 99 < fPu F (hoN F x.toNatClampNeg) + n
      · rw [if_pos e, if_pos e]; exact Or.inl ⟨by decide, rfl⟩
      · rw [if_neg e] at hneg hpu ⊢
        rw [if_neg e]
        simp only [Bool.and_eq_true] at c
        refine Or.inr ⟨rfl, c.1.1, ?_, rfl⟩
        obtain ⟨p, p1, p2⟩ := hpu (hoN F x.toNatClampNeg)
        have p2' : upd (upd (fPu F) x.toNatClampNeg (fPu F x.toNatClampNeg - n)) (hoN F x.toNatClampNeg) (upd (fPu F) x.toNatClampNeg (fPu F x.toNatClampNeg - n) (hoN F x.toNatClampNeg) + n) (hoN F x.toNatClampNeg) = nI p := p2
        show 0 ≤ upd _ _ _ _
        rw [p2']
        exact nn_nI (by omega)
  · rw [if_neg c, if_neg c]; exact Or.inl ⟨by decide, rfl⟩
theorem ev_goDeed (k : Nat) (σ : Sto) (ho : mOK σ 53) (i : Nat) (hi : i < fN (mF σ 53)) (n : Int32) : EvM k M_X12_goDeed [.ref 52, .int (nI i), .int n] σ (fun v τ => v = some (.int (upd (upd (fPu (mF σ 53)) i (fPu (mF σ 53) i - n)) (hoN (mF σ 53) i) (upd (fPu (mF σ 53)) i (fPu (mF σ 53) i - n) (hoN (mF σ 53) i) + n) (hoN (mF σ 53) i))) ∧ mF τ 53 = wPu (mF σ 53) (upd (upd (fPu (mF σ 53)) i (fPu (mF σ 53) i - n)) (hoN (mF σ 53) i) (upd (fPu (mF σ 53)) i (fPu (mF σ 53) i - n) (hoN (mF σ 53) i) + n)) ∧ FM [53] [] σ τ) := by
  have h7 := ho.2.1
  obtain ⟨-, -, -, rHo, -⟩ := mF_rd σ 53
  obtain ⟨e1, e2⟩ := fs_ho ho.2 hi
  have eH := rHo i (by omega)
  rw [e2] at eH
  generalize hh : hoN (mF σ 53) i = h at *
  have hp := mG_Pu2 (gI σ 52 1).toNatClampNeg (r7 (gA σ 54)) (gA σ 53) (i := i) (h := h) (by omega) (by omega) n n
  refine EvM.of mk_X12_goDeed (Nat.le_of_ble_eq_true rfl) ?_
  refine wpW K_X12_goDeed [10] 60 ?_
  refine ⟨i14_30 (by omega), ?_⟩
  show WW _ _ _ 10 [some (.ref 52), some (.int (nI i)), some (.int n), some (.int (gA σ 53 (14 + nI i).toNatClampNeg))] [] σ
  rw [eH]
  refine wpW K_X12_goDeed [] 60 ?_
  refine ⟨i7_30 (by omega), i7_30 (by omega), i7_30 (by omega), i7_30 (by omega), i7_30 (by omega), ?_⟩
  simp only [c7 (show i < 7 by omega), c7 (show h < 7 by omega)]
  refine ⟨?_, ?_, (FM.rf.sA (by decide)).sA (by decide)⟩
  · have hq := congrArg (fun F => fPu F h) hp
    refine congrArg (fun z => some (Value.int z)) (Eq.trans ?_ hq)
    exact (show r7 (fun j => upd (upd (gA σ 53) (7 + i) (gA σ 53 (7 + i) - n)) (7 + h) (upd (gA σ 53) (7 + i) (gA σ 53 (7 + i) - n) (7 + h) + n) (7 + j)) h = _ from r7_lt (by omega)).symm
  · exact hp
theorem mc_signs (k : Nat) (A : AS) (x n : Int32) : MC (k + 3) M_X12_signs [.int x, .int n] A (.int (doneC A (signS A.F x n)).1) (doneC A (signS A.F x n)).2 := by
  intro σ0 hv0
  refine EvM.of mk_X12_signs (Nat.le_of_ble_eq_true rfl) ?_
  refine wpW K_X12_signs [5] 10 ?_
  obtain ⟨hv, f0⟩ := mv_t0 hv0
  show WW _ _ _ 5 [some (.ref 52), some (.int x), some (.int n), none] _ (t0S σ0)
  generalize t0S σ0 = σ at hv f0 ⊢
  have hb := hv.1
  have h7 := hb.n7
  have hS := ev_refD k σ hb.mok x n
  rw [hb.F] at hS
  refine wpW K_X12_signs [] 60 ?_
  refine ⟨_, hS, ?_⟩
  rintro v τ ⟨h9, rfl⟩
  obtain rfl := h9.symm
  rcases sign_rd hb.ok x n with ⟨n1, n2⟩ | ⟨n1, n2, n4, n5⟩
  · rw [n2, doneC_neg n1]
    exact ⟨fun c => absurd n1 (Int32.not_lt.mpr c), fun _ => ⟨rfl, hv, f0⟩⟩
  · rw [n1]
    refine ⟨fun _ => ?_, fun c => absurd (by decide) c⟩
    have hok := fok_sign hb.ok x n
    rw [doneC, if_pos n4]
    rw [n5] at hok ⊢
    obtain ⟨x1, x2⟩ := in_of h7 n2
    generalize x.toNatClampNeg = i at *
    subst x2
    refine ⟨_, ev_remember _ σ 53 (Or.inl rfl) hb.u, ?_⟩
    rintro v σ2 ⟨rfl, hU, f2⟩
    have hF2 : mF σ2 53 = A.F := by rw [mF_fr f2 (by decide) (by decide) (by decide), hb.F]
    have hg := ev_goDeed (k + 2) σ2 (mOK_fr f2 (by decide) (by decide) (by decide) hb.mok) i (by rw [hF2]; exact x1) n
    rw [hF2] at hg
    refine ⟨_, hg, ?_⟩
    rintro v σ3 ⟨rfl, hF3, f3⟩
    have ff : FM lDm jDm σ σ3 := (f2.up _ _ (by decide) (by decide)).tr (f3.up _ _ (by decide) (by decide))
    have hU3 := hU.go f3 (by decide) (by decide)
    rw [← snap_seg, hb.F] at hU3
    have := mv_deedM hv ff hF3 rfl hok hU3
    exact ⟨rfl, this.1, f0.tr this.2⟩
def rmS (F : FS) (x to : Int32) : Int32 := if inS (fN F) x && (!decide (to < 0) && !decide (9 < to)) then (if fPl F x.toNatClampNeg = to then -2 else 0) else -1
theorem ev_refM (k : Nat) (σ : Sto) (a : Nat) (ha : a = 53 ∨ a = 63) (ho : mOK σ a) (x to : Int32) : EvM (k + 2) M_X12_refusesMove [.ref 52, .ref a, .int x, .int to] σ (fun v τ => τ = σ ∧ v = some (.int (rmS (mF σ a) x to))) := by
  have h7 := ho.2.1
  have hn := ho.1
  obtain ⟨rPl, -⟩ := mF_rd σ a
  generalize mF σ a = F at *
  refine EvM.of mk_X12_refusesMove (Nat.le_of_ble_eq_true rfl) ?_
  unfold rmS
  rcases ha with rfl | rfl
  all_goals
    refine wpW K_X12_refusesMove [] 60 ?_
    refine ⟨_, ev_isOne _ σ (fN F) hn h7 x, ?_⟩
    rintro v τ ⟨h9, rfl⟩
    obtain rfl := h9.symm
    refine ⟨fun c => ?_, fun c1 => ⟨_, ev_in _ _ _ _ _, ?_⟩⟩
    · rw [bI_eq] at c
      rw [c]
      exact ⟨rfl, rfl⟩
    rw [bI_ne] at c1
    rintro v τ ⟨h9, rfl⟩
    obtain rfl := h9.symm
    refine ⟨fun c2 => ?_, fun c => ?_⟩
    · rw [bI_ne] at c2
      rw [if_pos (by rw [c1, c2]; rfl)]
      obtain ⟨x1, x2⟩ := in_of h7 c1
      generalize x.toNatClampNeg = i at *
      subst x2
      refine ⟨i30 (by omega), fun d => ?_, fun d => ?_⟩
      · have d' : ¬ fPl F i = to := fun z => d ((rPl i (by omega)).trans z)
        rw [if_neg d']
        exact ⟨rfl, rfl⟩
      · have d' : fPl F i = to := (rPl i (by omega)).symm.trans d
        rw [if_pos d']
        exact ⟨rfl, rfl⟩
    · rw [bI_eq] at c
      rw [if_neg (by rw [c, Bool.and_false]; decide)]
      exact ⟨rfl, rfl⟩
theorem abs_0 : ∀ a, a < 10 → ∀ b, b < 10 → (absS (nI a - nI b) = 0 ↔ a = b) := by decide +kernel
theorem move_rm {F : FS} (hF : fOK F) (x to : Int32) : (rmS F x to < 0 ∧ moveS F x to = (rmS F x to, F)) ∨ (rmS F x to = 0 ∧ inS (fN F) x = true ∧ 0 ≤ (moveS F x to).1 ∧ moveS F x to = (absS (fPl F x.toNatClampNeg - to), wPl F (upd (fPl F) x.toNatClampNeg to))) := by
  have e10 : (!decide (to < 0) && !decide (10 ≤ to)) = (!decide (to < 0) && !decide (9 < to)) := by
    have e : decide (10 ≤ to) = decide (9 < to) := by
      rw [decide_eq_decide, Int32.le_iff_toInt_le, Int32.lt_iff_toInt_lt]
      exact ⟨fun h => by simp at h ⊢; omega, fun h => by simp at h ⊢; omega⟩
    rw [e]
  unfold rmS moveS
  rw [Bool.and_assoc, e10]
  by_cases c : (inS (fN F) x && (!decide (to < 0) && !decide (9 < to))) = true
  · rw [if_pos c, if_pos c]
    rw [Bool.and_eq_true, show (9 : Int32) = nI 9 from rfl, in_S (by omega)] at c
    obtain ⟨t1, t2⟩ := inS_80 (by omega) c.2
    generalize to.toNatClampNeg = t at *
    subst t2
    obtain ⟨p, p1, p2⟩ := hF.pl x.toNatClampNeg
    rw [p2]
    by_cases d : p = t
    · rw [if_pos (by rw [d]), if_pos ((abs_0 p p1 t (by omega)).mpr d)]
      exact Or.inl ⟨by decide, rfl⟩
    · rw [if_neg (fun z => d ((eq_of_nI (by omega) (by omega)).mp z)), if_neg (fun z => d ((abs_0 p p1 t (by omega)).mp z))]
      refine Or.inr ⟨rfl, c.1, ?_, rfl⟩
      show 0 ≤ absS (nI p - nI t)
      rw [abs_nI p p1 t (by omega)]
      exact nn_nI (by split <;> omega)
  · rw [if_neg c, if_neg c]; exact Or.inl ⟨by decide, rfl⟩
theorem mc_moves (k : Nat) (A : AS) (x to : Int32) : MC (k + 3) M_X12_moves [.int x, .int to] A (.int (doneC A (moveS A.F x to)).1) (doneC A (moveS A.F x to)).2 := by
  intro σ0 hv0
  refine EvM.of mk_X12_moves (Nat.le_of_ble_eq_true rfl) ?_
  refine wpW K_X12_moves [5] 10 ?_
  obtain ⟨hv, f0⟩ := mv_t0 hv0
  show WW _ _ _ 5 [some (.ref 52), some (.int x), some (.int to), none, none] _ (t0S σ0)
  generalize t0S σ0 = σ at hv f0 ⊢
  have hb := hv.1
  have h7 := hb.n7
  have hS := ev_refM k σ 53 (Or.inl rfl) hb.mok x to
  rw [hb.F] at hS
  refine wpW K_X12_moves [] 60 ?_
  refine ⟨_, hS, ?_⟩
  rintro v τ ⟨h9, rfl⟩
  obtain rfl := h9.symm
  rcases move_rm hb.ok x to with ⟨n1, n2⟩ | ⟨n1, n2, n4, n5⟩
  · rw [n2, doneC_neg n1]
    exact ⟨fun c => absurd n1 (Int32.not_lt.mpr c), fun _ => ⟨rfl, hv, f0⟩⟩
  · rw [n1]
    refine ⟨fun _ => ?_, fun c => absurd (by decide) c⟩
    have hok := fok_move hb.ok x to
    rw [doneC, if_pos n4]
    rw [n5] at hok ⊢
    obtain ⟨x1, x2⟩ := in_of h7 n2
    generalize x.toNatClampNeg = i at *
    subst x2
    refine ⟨_, ev_remember _ σ 53 (Or.inl rfl) hb.u, ?_⟩
    rintro v σ2 ⟨rfl, hU, f2⟩
    have hF2 : mF σ2 53 = A.F := by rw [mF_fr f2 (by decide) (by decide) (by decide), hb.F]
    obtain ⟨rPl, -⟩ := mF_rd σ2 53
    rw [hF2] at rPl
    refine ⟨i30 (by omega), i30 (by omega), ?_⟩
    have f3 : FM [53] [] σ2 (sA σ2 53 (upd (gA σ2 53) i to)) := FM.rf.sA (by decide)
    have hF3 : mF (sA σ2 53 (upd (gA σ2 53) i to)) 53 = wPl A.F (upd (fPl A.F) i to) := by
      rw [mF_sA (Or.inl rfl), mG_Pl _ _ _ (by omega)]
      show wPl (mF σ2 53) (upd (fPl (mF σ2 53)) i to) = _
      rw [hF2]
    have ff : FM lDm jDm σ (sA σ2 53 (upd (gA σ2 53) i to)) := (f2.up _ _ (by decide) (by decide)).tr (f3.up _ _ (by decide) (by decide))
    have hU3 := hU.go f3 (by decide) (by decide)
    rw [← snap_seg, hb.F] at hU3
    have := mv_deedM hv ff hF3 rfl hok hU3
    have eP := rPl i (by omega)
    refine ⟨?_, ?_⟩
    · show some (Value.int (absS (gA σ2 53 (nI i).toNatClampNeg - to))) = _
      rw [eP]
    · show MV (sA σ2 53 (upd (gA σ2 53) (nI i).toNatClampNeg to)) _ ∧ Fr lM σ0 (sA σ2 53 (upd (gA σ2 53) (nI i).toNatClampNeg to))
      rw [nI_clamp (by omega)]
      exact ⟨this.1, f0.tr this.2⟩
