/-! the model's calls: count, heard, forget, saw, denies, keep, again, undo, end -/
theorem mc_count (k : Nat) (A : AS) (x : Int32) : MC (k + 1) M_X12_count [.int x] A (.int (countC A x)) A := by
  intro σ0 hv0
  refine EvM.of mk_X12_count (Nat.le_of_ble_eq_true rfl) ?_
  refine wpW K_X12_count [5] 10 ?_
  obtain ⟨hv, f0⟩ := mv_t0 hv0
  show WW _ _ _ 5 _ _ (t0S σ0)
  generalize t0S σ0 = σ at hv f0 ⊢
  have hb := hv.1
  obtain ⟨-, -, -, -, -, rDy, rSd⟩ := mF_rd σ 53
  rw [hb.F] at rDy rSd
  have fin : MV σ A ∧ Fr lM σ0 σ := ⟨hv, f0⟩
  refine wpW K_X12_count [] 20 ?_
  refine ⟨fun h => ?_, fun h0 => ⟨fun h => ?_, fun h1 => ⟨fun h => ?_, fun h2 => ⟨fun h => ?_, fun h3 => ⟨fun h => ?_, fun h4 => ⟨fun h => ?_, fun h5 => ⟨fun h => ?_, fun h6 => ⟨fun h => ?_, fun h7 => ⟨fun h => ?_, fun h8 => ⟨fun h => ?_, fun h9 => ⟨fun h => ?_, fun h10 => ⟨fun h => ?_, fun h11 => ?_⟩⟩⟩⟩⟩⟩⟩⟩⟩⟩⟩⟩
  · refine ⟨?_, fin⟩; rw [hb.n]; simp [countC, h]
  · refine ⟨inN (i := 28) (n := 30) (by decide) (by decide), ?_, fin⟩
    rw [show gA σ (52 + 1) (28 : Int32).toNatClampNeg = fDy A.F from rDy]; simp [countC, h]
  · refine ⟨inN (i := 29) (n := 30) (by decide) (by decide), ?_, fin⟩
    rw [show gA σ (52 + 1) (29 : Int32).toNatClampNeg = fSd A.F from rSd]; simp [countC, h]
  · refine ⟨_, ev_atHome _ σ 53 (Or.inl rfl) hb.mok, ?_⟩
    rintro v τ ⟨rfl, rfl⟩
    refine ⟨?_, fin⟩; rw [hb.F]; simp [countC, h]
  · refine ⟨_, ev_sumOf _ σ 53 (Or.inl rfl) hb.mok 7 (by omega), ?_⟩
    rintro v τ ⟨rfl, rfl⟩
    refine ⟨?_, fin⟩
    rw [show r7 (fun i => gA τ 53 (7 + i)) = fPu A.F by rw [← hb.F]; rfl, hb.F]; simp [countC, h]
  · refine ⟨_, ev_sumOf _ σ 53 (Or.inl rfl) hb.mok 21 (by omega), ?_⟩
    rintro v τ ⟨rfl, rfl⟩
    refine ⟨?_, fin⟩
    rw [show r7 (fun i => gA τ 53 (21 + i)) = fAg A.F by rw [← hb.F]; rfl, hb.F]; simp [countC, h]
  · refine ⟨_, ev_voices _ σ hb.mok, ?_⟩
    rintro v τ ⟨rfl, rfl⟩
    refine ⟨?_, fin⟩; rw [hb.F]; simp [countC, h]
  · refine ⟨?_, fin⟩; rw [hb.h.1]; simp [countC, h]
  · refine ⟨?_, fin⟩; rw [hb.s.1]; simp [countC, h]
  · refine ⟨?_, fin⟩; rw [hb.u.1]; simp [countC, h]
  · refine ⟨?_, fin⟩; rw [hv.2.1.1, hv.2.2]; simp [countC, h]
  · refine ⟨?_, fin⟩; rw [hb.x.1]; simp [countC, h]
  · refine ⟨?_, fin⟩; simp [countC, h0, h1, h2, h3, h4, h5, h6, h7, h8, h9, h10, h11]
theorem mc_forget (k : Nat) (A : AS) : MC k M_X12_forget [] A (.int (nI A.H.length)) (A.wH []) := by
  intro σ0 hv0
  refine EvM.of mk_X12_forget (Nat.le_of_ble_eq_true rfl) ?_
  refine wpW K_X12_forget [5] 10 ?_
  obtain ⟨hv, f0⟩ := mv_t0 hv0
  show WW _ _ _ 5 _ _ (t0S σ0)
  generalize t0S σ0 = σ at hv f0 ⊢
  have hb := hv.1
  refine wpW K_X12_forget [] 20 ?_
  have hf : FM [] [35] σ (sI σ 52 35 0) := FM.rf.sI (by decide)
  obtain ⟨e, r⟩ := rw_fr hf (by decide) (by decide)
  refine ⟨by rw [hb.h.1], ⟨?_, r hv.2.1, e.trans hv.2.2⟩, f0.tr (hf.fr (by decide))⟩
  exact hb.gen (B := A.wH []) hf (hb.kF hf (by decide) (by decide) (by decide)) (hb.x.go hf (by decide) (by decide)) (hb.u.go hf (by decide) (by decide)) (hb.k.go hf (by decide) (by decide) (by decide) (by decide)) ⟨rfl, Nat.zero_le _, fun j hj => absurd hj (by simp [AS.wH, AS.H])⟩ (hb.s.go hf (by decide) (by decide) (by decide)) rfl (by decide) (by decide)
theorem mc_denies (k : Nat) (A : AS) : MC k M_X12_denies [] A (.int (nI A.S.length)) (A.wS []) := by
  intro σ0 hv0
  refine EvM.of mk_X12_denies (Nat.le_of_ble_eq_true rfl) ?_
  refine wpW K_X12_denies [5] 10 ?_
  obtain ⟨hv, f0⟩ := mv_t0 hv0
  show WW _ _ _ 5 _ _ (t0S σ0)
  generalize t0S σ0 = σ at hv f0 ⊢
  have hb := hv.1
  refine wpW K_X12_denies [] 20 ?_
  have hf : FM [] [38] σ (sI σ 52 38 0) := FM.rf.sI (by decide)
  obtain ⟨e, r⟩ := rw_fr hf (by decide) (by decide)
  refine ⟨by rw [hb.s.1], ⟨?_, r hv.2.1, e.trans hv.2.2⟩, f0.tr (hf.fr (by decide))⟩
  exact hb.gen (B := A.wS []) hf (hb.kF hf (by decide) (by decide) (by decide)) (hb.x.go hf (by decide) (by decide)) (hb.u.go hf (by decide) (by decide)) (hb.k.go hf (by decide) (by decide) (by decide) (by decide)) (hb.h.go hf (by decide) (by decide) (by decide)) ⟨rfl, Nat.zero_le _, fun j hj => absurd hj (by simp [AS.wS, AS.S])⟩ rfl (by decide) (by decide)
def hiS (w : Int32) : Int32 := if w = 1 ∨ w = 2 then 99 else if w = 3 then 9 else 6
theorem hear_M (l : List (Int32 × Int32)) (w v : Int32) (hl : l.length ≤ 12) : hearOK l w v = ((!decide (w < 0) && !decide (4 < w)) && (!decide (v < 0) && !decide (hiS w < v)) && !decide (l.length = 12)) := by
  unfold hearOK hiS valS
  have hlen : decide (l.length < 12) = !decide (l.length = 12) := by
    by_cases h : l.length = 12
    · rw [decide_eq_true h, decide_eq_false (by omega)]; rfl
    · rw [decide_eq_false h, decide_eq_true (by omega)]; rfl
  rw [hlen]
  congr 1
  have key : ∀ c : Int32, ∀ n : Nat, n < 1000 → c = nI n → (!decide (nI (n + 1) ≤ v)) = !decide (c < v) := by
    intro c n hn hc
    subst hc
    congr 1
    rw [decide_eq_decide, Int32.le_iff_toInt_le, Int32.lt_iff_toInt_lt, nI_toInt (by omega), nI_toInt (by omega)]
    omega
  have k6 := key 6 6 (by omega) (by decide)
  have k9 := key 9 9 (by omega) (by decide)
  have k99 := key 99 99 (by omega) (by decide)
  by_cases h0 : w = 0
  · subst h0; rw [if_pos rfl, if_neg (by decide), if_neg (by decide)]; rw [← k6]; simp; rfl
  by_cases h1 : w = 1
  · subst h1; rw [if_neg (by decide), if_pos rfl, if_pos (by decide), ← k99]; simp; rfl
  by_cases h2 : w = 2
  · subst h2; rw [if_neg (by decide), if_neg (by decide), if_pos rfl, if_pos (by decide), ← k99]; simp; rfl
  by_cases h3 : w = 3
  · subst h3; rw [if_neg (by decide), if_neg (by decide), if_neg (by decide), if_pos rfl, if_neg (by decide), if_pos rfl, ← k9]; simp; rfl
  by_cases h4 : w = 4
  · subst h4; rw [if_neg (by decide), if_neg (by decide), if_neg (by decide), if_neg (by decide), if_pos rfl, if_neg (by decide), if_neg (by decide), ← k6]; simp; rfl
  rw [if_neg h0, if_neg h1, if_neg h2, if_neg h3, if_neg h4]
  have hw : (!decide (w < 0) && !decide (4 < w)) = false := by
    rw [Bool.eq_false_iff]
    intro c
    rw [show (4 : Int32) = nI 4 from rfl, in_S (by omega)] at c
    obtain ⟨c1, c2⟩ := inS_80 (by omega) c
    generalize w.toNatClampNeg = n at *
    subst c2
    match n, c1 with
    | 0, _ => exact h0 rfl
    | 1, _ => exact h1 rfl
    | 2, _ => exact h2 rfl
    | 3, _ => exact h3 rfl
    | 4, _ => exact h4 rfl
  rw [hw]
  by_cases c : v < 0
  · simp [c]
  · have : (0 : Int32) ≤ v := Int32.not_lt.mp c
    simp [c, this]
