/-! the model: who can say what -/
def jQ : List Nat := [8, 9, 10, 11, 12, 17]
theorem ev_begin (k : Nat) (σ : Sto) (a : Nat) (x y : Int32) : EvM k M_X12_begin [.ref 52, .ref a, .int x, .int y] σ (fun v τ => v = none ∧ τ = sI (sI (sI (sI (sR σ 52 8 (a + 1)) 52 9 x) 52 10 y) 52 11 0) 52 12 (-1)) := by
  refine EvM.of mk_X12_begin (Nat.le_of_ble_eq_true rfl) ?_
  refine wpW K_X12_begin [] 30 ?_
  exact ⟨rfl, rfl⟩
def bgS (σ : Sto) (a : Nat) (x y : Int32) : Sto := sI (sI (sI (sI (sR σ 52 8 (a + 1)) 52 9 x) 52 10 y) 52 11 0) 52 12 (-1)
theorem bg_fm (σ : Sto) (a : Nat) (x y : Int32) : FM [] jQ σ (bgS σ a x y) := ((((FM.rf.sR (by decide)).sI (by decide)).sI (by decide)).sI (by decide)).sI (by decide)
def MB (σ : Sto) (a t : Nat) (cs : Nat → Int32) : Prop := (∀ q, cs q = if q < t ∧ q < 40 then gA σ a q &&& 255 else -1) ∧ ∀ q, q < t → q < 40 → ∃ c, c < 256 ∧ gA σ a q = b8 (nI c)
theorem bg_pr {σ : Sto} {a t m : Nat} {cs : Nat → Int32} (ht : t ≤ 80) (hm : m ≤ 80) (ha : a = 55 ∨ (a = 58 ∨ a = 59) ∧ t ≤ 40) (h1 : ∀ q, cs q = if q < t ∧ q < m then gA σ a q &&& 255 else -1) (h2 : ∀ q, q < t → q < m → ∃ c, c < 256 ∧ gA σ a q = b8 (nI c)) : PR (bgS σ a (nI t) (nI m)) a t m cs 0 (-1) :=
  ⟨rfl, rfl, rfl, rfl, rfl, by omega, ht, hm, ha, h1, h2⟩
/-- the rule that the model has -/
def MRu (σ : Sto) (ev : (Nat → Int32) → Int32) : Prop := ∃ a t, (a = 58 ∨ a = 59) ∧ gR σ 52 14 = a + 1 ∧ gI σ 52 16 = nI t ∧ t ≤ 40 ∧ ((t = 0 ∧ ev = evNone) ∨ (0 < t ∧ ∃ cs, MB σ a t cs ∧ (ruleP cs (fun _ => 0) 4 0).1 = true ∧ ev = evS cs))
theorem MRu.go {σ τ : Sto} {ev : (Nat → Int32) → Int32} (h : MRu σ ev) {l js : List Nat} (hf : FM l js σ τ) (hj : (!js.contains 14 && !js.contains 16) = true) (hl : (!(52 :: l).contains 58 && !(52 :: l).contains 59) = true) : MRu τ ev := by
  simp only [Bool.and_eq_true] at hj hl
  obtain ⟨a, t, h1, h2, h3, h4, h5⟩ := h
  have ha : gA τ a = gA σ a := by
    rcases h1 with rfl | rfl
    · exact hf.a 58 hl.1
    · exact hf.a 59 hl.2
  refine ⟨a, t, h1, (hf.r 14 hj.1).trans h2, (hf.i 16 hj.2).trans h3, h4, ?_⟩
  unfold MB
  rw [ha]
  exact h5
theorem ev_canSay (k : Nat) (σ : Sto) (a : Nat) (ha : a = 53 ∨ a = 63) (ho : mOK σ a) (ev : (Nat → Int32) → Int32) (hR : MRu σ ev) (q nm : Nat) (hq : q < fN (mF σ a)) (hnm : nm < fN (mF σ a)) :
    EvM (k + 261) M_X12_canSay [.ref 52, .ref a, .int (nI q), .int (nI nm)] σ (fun v τ => v = some (.int (bI (canS ev (mF σ a) q nm))) ∧ FM [60] jQ σ τ) := by
  have hh := ev_heldBy
  obtain ⟨hn, hF⟩ := id ho
  have h7 := hF.1
  obtain ⟨rPl, rVo, rPu, rHo, rAg, rDy, rSd⟩ := mF_rd σ a
  obtain ⟨ho1, ho2⟩ := fs_ho hF hnm
  have e14 := rHo nm (by omega)
  rw [ho2] at e14
  refine EvM.of mk_X12_canSay (Nat.le_of_ble_eq_true rfl) ?_
  obtain ⟨ra, t, hra, hr14, hr16, ht, hrt⟩ := id hR
  have hch : (fHo (mF σ a) nm = nI q) ↔ nI (hoN (mF σ a) nm) = nI q := by rw [ho2]
  have hx0 : t = 0 → ev (askS (mF σ a) q nm) = gA σ 54 (nI q).toNatClampNeg - absS (fPl (mF σ a) q - fPl (mF σ a) (hoN (mF σ a) nm)) := fun ht0 => by
    have hev : ev = evNone := (hrt.resolve_right (fun z => by omega)).2
    rw [hev, rVo q (by omega)]
    rfl
  have tail : ∀ (b : Int32) σ4, 0 < t → ¬ fHo (mF σ a) nm = nI q → FM [60] [] σ σ4 → b = askS (mF σ a) q nm 5 → (∀ i, i < 5 → gA σ4 60 i = askS (mF σ a) q nm i) → WW M_X12_canSay (k + 261) (fun v τ => v = some (.int (bI (canS ev (mF σ a) q nm))) ∧ FM [60] jQ σ τ) 126 [some (.ref 52), some (.ref a), some (.int (nI q)), some (.int (nI nm)), some (.int (nI (hoN (mF σ a) nm))), none] [.int b, .int 5, .ref 60] σ4 := by
    intro b σ4 ht0 hne f4 hb hv
    have hrt' := hrt.resolve_left (fun z => by omega)
    obtain ⟨-, cs, hMB, hr1, hev⟩ := hrt'
    have e28 : gA σ4 a 28 = fDy (mF σ a) := by rcases ha with rfl | rfl <;> rw [f4.a _ (by decide)] <;> exact rDy
    have e5 : FM [60] jQ σ (sA (sA σ4 60 (upd (gA σ4 60) 5 b)) 60 (upd (gA (sA σ4 60 (upd (gA σ4 60) 5 b)) 60) 6 (fDy (mF σ a) - fDy (mF σ a) / 7 * 7))) := ((f4.up [60] jQ (by decide) (by decide)).sA (by decide)).sA (by decide)
    have e6 : ∀ i, i < 7 → gA (sA (sA σ4 60 (upd (gA σ4 60) 5 b)) 60 (upd (gA (sA σ4 60 (upd (gA σ4 60) 5 b)) 60) 6 (fDy (mF σ a) - fDy (mF σ a) / 7 * 7))) 60 i = askS (mF σ a) q nm i := by
      intro i hi
      rw [gA_eq, upd]
      by_cases c6 : i = 6
      · subst c6; rw [if_pos rfl]; rfl
      rw [if_neg c6, gA_eq, upd]
      by_cases c5 : i = 5
      · subst c5; rw [if_pos rfl]; exact hb
      rw [if_neg c5]
      exact hv i (by omega)
    have main : ∀ σ5, FM [60] jQ σ σ5 → (∀ i, i < 7 → gA σ5 60 i = askS (mF σ a) q nm i) → WW M_X12_canSay (k + 261) (fun v τ => v = some (.int (bI (canS ev (mF σ a) q nm))) ∧ FM [60] jQ σ τ) 141 [some (.ref 52), some (.ref a), some (.int (nI q)), some (.int (nI nm)), some (.int (nI (hoN (mF σ a) nm))), none] [] σ5 := by
      intro σ5 f5 hv5
      have hR5 := hR.go f5 (by decide) (by decide)
      have ga : gA σ5 ra = gA σ ra := by rcases hra with rfl | rfl <;> exact f5.a _ (by decide)
      have r5 : gR σ5 52 14 = ra + 1 := (f5.r 14 (by decide)).trans hr14
      have i5 : gI σ5 52 16 = nI t := (f5.i 16 (by decide)).trans hr16
      refine wpW K_X12_canSay [] 60 ?_
      refine ⟨ra, r5, _, ev_begin _ _ _ _ _, ?_⟩
      rintro w τ ⟨rfl, h9⟩
      rw [i5] at h9
      have hPR : PR τ ra t 40 cs 0 (-1) := by rw [h9]; exact bg_pr (m := 40) (by omega) (by omega) (Or.inr ⟨hra, ht⟩) (by rw [ga]; exact hMB.1) (by rw [ga]; exact hMB.2)
      have f6 : FM [] jQ σ5 τ := by rw [h9]; exact bg_fm _ _ _ _
      have e60 : gA τ 60 = gA σ5 60 := f6.a 60 (by decide)
      clear h9
      refine ⟨Or.inr rfl, ?_⟩
      have f7 : FM [] [17] τ (sI τ 52 17 1) := FM.rf.sI (by decide)
      have hP7 : PR (sI τ 52 17 1) ra t 40 cs 0 (-1) := hPR.go f7 (by decide) (by decide) hPR.at hPR.wr (by omega)
      have hA7 : AQ (sI τ 52 17 1) (askS (mF σ a) q nm) := Or.inr ⟨rfl, fun i hi => by rw [← hv5 i hi, ← e60]; rfl⟩
      refine ⟨_, ev_mread ra t cs (askS (mF σ a) q nm) k _ 0 hP7 hA7 (by omega), ?_⟩
      rintro w τ2 ⟨f8, x, rfl, hx⟩
      have hok : (ruleP cs (askS (mF σ a) q nm) 4 0).1 = true := by rw [(eq_rule cs (askS (mF σ a) q nm) (fun _ => 0) 4 0).1]; exact hr1
      rw [if_pos hok] at hx
      have hfin : FM [60] jQ σ (sI τ2 52 17 0) := (((f5.tr (f6.up _ _ (by decide) (by decide))).tr (f7.up _ _ (by decide) (by decide))).tr (f8.up _ _ (by decide) (by decide))).sI (by decide)
      have hxe : ev (askS (mF σ a) q nm) = x := by rw [hev, hx.1]; rfl
      refine ⟨Or.inl rfl, fun c => ⟨Or.inl rfl, ?_, hfin⟩, fun c => ⟨Or.inr rfl, ?_, hfin⟩⟩
      · rw [canS, hxe, decide_eq_false (fun z => Int32.not_lt.mpr z c), Bool.and_false]; rfl
      · rw [canS, hxe, decide_eq_true (Int32.not_lt.mp c), decide_eq_false hne]; rfl
    rcases ha with rfl | rfl
    all_goals
      refine wpW K_X12_canSay [141] 60 ?_
      refine ⟨inN (i := 5) (n := 7) (by decide) (by decide), inN (i := 28) (n := 30) (by decide) (by decide), by decide, inN (i := 6) (n := 7) (by decide) (by decide), ?_⟩
      have := main _ e5 e6
      rw [← e28] at this
      exact this
  have head : WW M_X12_canSay (k + 261) (fun v τ => v = some (.int (bI (canS ev (mF σ a) q nm))) ∧ FM [60] jQ σ τ) 8 [some (.ref 52), some (.ref a), some (.int (nI q)), some (.int (nI nm)), some (.int (nI (hoN (mF σ a) nm))), none] [] σ := by
    rcases ha with rfl | rfl
    all_goals
      refine wpW K_X12_canSay [126] 100 ?_
      refine ⟨fun c => ⟨fun c2 => ?_, fun c2 => ?_⟩, fun c => ⟨Or.inl rfl, ?_, FM.rf⟩⟩
      · have ht0 : 0 < t := by
          rcases Nat.eq_zero_or_pos t with z | z
          · rw [hr16, z] at c2; exact absurd rfl c2
          · exact z
        have hne := fun z => c (hch.mp z)
        refine ⟨in7 (by omega), inN (i := 0) (n := 7) (by decide) (by decide), in7 (by omega), inN (i := 1) (n := 7) (by decide) (by decide), _, ev_farOf _ _ _ (by decide) q (hoN (mF σ _) nm) (by omega) (by omega), ?_⟩
        rintro w τ ⟨h9, rfl⟩
        obtain rfl := h9.symm
        refine ⟨inN (i := 2) (n := 7) (by decide) (by decide), _, ev_heldBy _ _ _ (by decide) ?_ _, ?_⟩
        · exact ho
        rintro w τ ⟨h9, rfl⟩
        obtain rfl := h9.symm
        refine ⟨_, ev_bc _ _ _, ?_⟩
        rintro w τ ⟨h9, rfl⟩
        obtain rfl := h9.symm
        refine ⟨inN (i := 3) (n := 7) (by decide) (by decide), i21_30 (by omega), inN (i := 4) (n := 7) (by decide) (by decide), fun d => ?_, fun d => ?_⟩
        · refine tail 0 _ ht0 hne (FM.sA (FM.sA (FM.sA (FM.sA (FM.sA FM.rf (by decide)) (by decide)) (by decide)) (by decide)) (by decide)) ?_ ?_
          · rw [eq_of_nI (by omega) (by omega)] at d
            exact (if_neg d).symm
          · intro i hi
            match i, hi with
            | 0, _ => exact rVo q (by omega)
            | 1, _ => exact rVo (hoN (mF σ _) nm) (by omega)
            | 2, _ => rfl
            | 3, _ => rfl
            | 4, _ => exact rAg nm (by omega)
        · refine tail 1 _ ht0 hne (FM.sA (FM.sA (FM.sA (FM.sA (FM.sA FM.rf (by decide)) (by decide)) (by decide)) (by decide)) (by decide)) ?_ ?_
          · rw [eq_of_nI (by omega) (by omega)] at d
            exact (if_pos d).symm
          · intro i hi
            match i, hi with
            | 0, _ => exact rVo q (by omega)
            | 1, _ => exact rVo (hoN (mF σ _) nm) (by omega)
            | 2, _ => rfl
            | 3, _ => rfl
            | 4, _ => exact rAg nm (by omega)
      · have ht0 : t = 0 := by
          rw [hr16, show (0 : Int32) = nI 0 from rfl, eq_of_nI (by omega) (by omega)] at c2
          exact c2
        have hne := fun z => c (hch.mp z)
        have hx := hx0 ht0
        refine ⟨in7 (by omega), _, ev_farOf _ _ _ (by decide) q (hoN (mF σ _) nm) (by omega) (by omega), ?_⟩
        rintro w τ ⟨h9, rfl⟩
        obtain rfl := h9.symm
        refine ⟨fun c3 => ⟨Or.inl rfl, ?_, FM.rf⟩, fun c3 => ⟨Or.inr rfl, ?_, FM.rf⟩⟩
        · rw [canS, hx, decide_eq_false (fun z => Int32.not_lt.mpr z c3), Bool.and_false]; rfl
        · rw [canS, hx, decide_eq_true (Int32.not_lt.mp c3), decide_eq_false hne]; rfl
      · rw [canS, decide_eq_true (hch.mpr c)]; rfl
  rcases ha with rfl | rfl
  all_goals
    refine wpW K_X12_canSay [8] 60 ?_
    refine ⟨i14_30 (by omega), ?_⟩
    rw [← e14] at head
    exact head
