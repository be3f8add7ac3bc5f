/-! the model's calls: calls, days, later, home, poor, peace -/
theorem mG_cg {n : Nat} {vo g g' : Nat → Int32} (h : ∀ j, j < 30 → g j = g' j) : mG n vo g = mG n vo g' := cp30 (F := mG n vo g') rfl rfl h
theorem ev_lay63 (k : Nat) {σ : Sto} {A : AS} (hb : MVc σ A) : EvM k M_X12_lay [.ref 53, .ref 63, .int 0] σ (fun v τ => v = none ∧ FJ 63 σ τ (fN A.F) A.F) := by
  refine (ev_lay k σ 53 63 0 30 (by omega) (by omega)).post ?_
  rintro v τ ⟨rfl, e⟩
  have hf : FM [60, 63] jQ σ τ := by rw [e]; exact FM.rf.sA (by decide)
  have hF : mF τ 63 = A.F := by
    rw [e, mF_sA (Or.inr rfl), ← hb.F]
    refine mG_cg (fun j hj => ?_)
    rw [layF, if_pos (by omega)]
    rfl
  refine ⟨rfl, hF, ⟨?_, by rw [hF]; exact hb.ok.1⟩, rfl, hf⟩
  rw [hF]
  exact (hf.i 1 (by decide)).trans hb.n
def rrS (ev : (Nat → Int32) → Int32) (F : FS) (x : Int32) : Int32 := if inS (fN F) x then (if (rollS ev F x.toNatClampNeg (fN F)).1 = 0 then -2 else 0) else -1
theorem ev_roll63 (k : Nat) {σ τ : Sto} {A : AS} (hb : MVc σ A) (hJ : FJ 63 σ τ (fN A.F) A.F) (q : Nat) (hq : q < fN A.F) : EvM (k + 262) M_X12_goRoll [.ref 52, .ref 63, .int (nI q)] τ (fun v υ => v = some (.int (rollS A.ev A.F q (fN A.F)).1) ∧ FM [60, 63] jQ σ υ) := by
  have h := ev_goRoll k τ 63 (Or.inr rfl) hJ.2.1 A.ev (hJ.rule (Or.inr rfl) hb.ru) q (by rw [hJ.1]; exact hq)
  rw [hJ.1] at h
  refine h.post ?_
  rintro v υ ⟨rfl, e⟩
  exact ⟨rfl, hJ.2.2.2.tr e.2.2.2⟩
theorem ev_refR (k : Nat) {σ : Sto} {A : AS} (hb : MVc σ A) (x : Int32) : EvM (k + 263) M_X12_refusesRoll [.ref 52, .int x] σ (fun v τ => v = some (.int (rrS A.ev A.F x)) ∧ FM [60, 63] jQ σ τ) := by
  have h7 := hb.n7
  refine EvM.of mk_X12_refusesRoll (Nat.le_of_ble_eq_true rfl) ?_
  unfold rrS
  refine wpW K_X12_refusesRoll [] 60 ?_
  refine ⟨_, ev_isOne _ σ (fN A.F) hb.n h7 x, ?_⟩
  rintro v τ ⟨h9, rfl⟩
  obtain rfl := h9.symm
  refine ⟨fun c => ⟨_, ev_lay63 _ hb, ?_⟩, fun c => ?_⟩
  · rw [bI_ne] at c
    rw [if_pos c]
    obtain ⟨x1, x2⟩ := in_of h7 c
    generalize x.toNatClampNeg = q at *
    subst x2
    rintro v τ ⟨rfl, hJ⟩
    refine ⟨_, ev_roll63 _ hb hJ q x1, ?_⟩
    rintro v υ ⟨rfl, f⟩
    refine ⟨fun d => ?_, fun d => ?_⟩
    · rw [if_neg d]; exact ⟨rfl, f⟩
    · rw [if_pos d]; exact ⟨rfl, f⟩
  · rw [bI_eq] at c
    rw [if_neg (by rw [c]; decide)]
    exact ⟨rfl, FM.rf⟩
theorem rcall_rr (ev : (Nat → Int32) → Int32) {F : FS} (hF : fsOK F) (x : Int32) : (rrS ev F x < 0 ∧ rcallS ev F x = (rrS ev F x, F)) ∨ (rrS ev F x = 0 ∧ inS (fN F) x = true ∧ 0 ≤ (rcallS ev F x).1 ∧ rcallS ev F x = rollS ev F x.toNatClampNeg (fN F)) := by
  unfold rrS rcallS
  by_cases c : inS (fN F) x = true
  · rw [if_pos c, if_pos c]
    obtain ⟨m, m1, m2, m3⟩ := roll_cnt ev F x.toNatClampNeg (fN F) hF.1
    have h7 := hF.1
    by_cases d : m = 0
    · rw [m2, m3 d, d]
      exact Or.inl ⟨by decide, rfl⟩
    · have e1 : ¬ nI m = 0 := fun z => d ((eq_of_nI (b := 0) (by omega) (by omega)).mp z)
      have e2 : ¬ nI m ≤ 0 := fun z => by rw [show (0 : Int32) = nI 0 from rfl, le_of_nI (by omega) (by omega)] at z; omega
      rw [m2, if_neg e1, if_neg e2]
      refine Or.inr ⟨rfl, c, nn_nI (by omega), ?_⟩
      rw [← m2]
  · rw [if_neg c, if_neg c]
    exact Or.inl ⟨by decide, rfl⟩
theorem mc_calls (k : Nat) (A : AS) (x : Int32) : MC (k + 264) M_X12_calls [.int x] A (.int (doneC A (rcallS A.ev A.F x)).1) (doneC A (rcallS A.ev A.F x)).2 := by
  intro σ0 hv0
  refine EvM.of mk_X12_calls (Nat.le_of_ble_eq_true rfl) ?_
  refine wpW K_X12_calls [5] 10 ?_
  obtain ⟨hv, f0⟩ := mv_t0 hv0
  show WW _ _ _ 5 [some (.ref 52), some (.int x), none] _ (t0S σ0)
  generalize t0S σ0 = σ at hv f0 ⊢
  have hb := hv.1
  have h7 := hb.n7
  refine wpW K_X12_calls [] 60 ?_
  refine ⟨_, ev_refR _ hb x, ?_⟩
  rintro v σ1 ⟨rfl, f1⟩
  rcases rcall_rr A.ev hb.ok.1 x with ⟨n1, n2⟩ | ⟨n1, n2, n4, n5⟩
  · rw [n2, doneC_neg n1]
    refine ⟨fun c => absurd n1 (Int32.not_lt.mpr c), fun _ => ⟨rfl, ?_⟩⟩
    have := mv_same hv f1 (by decide) (by decide) (by decide) (by decide)
    exact ⟨this.1, f0.tr this.2⟩
  · rw [n1]
    refine ⟨fun _ => ?_, fun c => absurd (by decide) c⟩
    have hok := fok_rcall (ev := A.ev) hb.ok x
    rw [doneC, if_pos n4]
    rw [n5] at hok ⊢
    obtain ⟨x1, x2⟩ := in_of h7 n2
    generalize x.toNatClampNeg = q at *
    subst x2
    refine ⟨_, ev_remember _ σ1 53 (Or.inl rfl) (hb.u.go f1 (by decide) (by decide)), ?_⟩
    rintro v σ2 ⟨rfl, hU, f2⟩
    have f12 : FM lDm jDm σ σ2 := (f1.up _ _ (by decide) (by decide)).tr (f2.up _ _ (by decide) (by decide))
    have hF2 : mF σ2 53 = A.F := by rw [mF_fr f2 (by decide) (by decide) (by decide), mF_fr f1 (by decide) (by decide) (by decide), hb.F]
    have hok2 : mOK σ2 53 := mOK_fr f2 (by decide) (by decide) (by decide) (mOK_fr f1 (by decide) (by decide) (by decide) hb.mok)
    have hg := ev_goRoll (k + 1) σ2 53 (Or.inl rfl) hok2 A.ev (hb.ru.go f12 (by decide) (by decide)) q (by rw [hF2]; exact x1)
    rw [hF2] at hg
    refine ⟨_, hg, ?_⟩
    rintro v σ3 ⟨rfl, hJ⟩
    have ff : FM lDm jDm σ σ3 := f12.tr (hJ.2.2.2.up _ _ (by decide) (by decide))
    have hU3 := hU.go hJ.2.2.2 (by decide) (by decide)
    rw [f1.a 53 (by decide), ← snap_seg, hb.F] at hU3
    have := mv_deedM hv ff hJ.1 hJ.2.2.1 hok hU3
    exact ⟨rfl, this.1, f0.tr this.2⟩
theorem ev_tellL (k : Nat) {σ : Sto} {L : List Int64} (hr : rOK σ) (e : mRw σ = L) (hL : L.length < 16) (x : Int64) : EvM k M_X12_tell [.ref 52, .long x] σ (fun v τ => v = none ∧ rOK τ ∧ mRw τ = L ++ [x] ∧ FM [56] [6] σ τ) := by
  refine (ev_tell k σ hr (by rw [e]; exact hL) x).post ?_
  rintro v τ ⟨rfl, h1, h2, h3⟩
  exact ⟨rfl, h2, by rw [h1, e], h3⟩
theorem mv_deedR {σ τ : Sto} {A : AS} (hb : MVc σ A) (ff : FM (56 :: lDm) (6 :: jDm) σ τ) {G : FS} {U : List (Nat → Int32)} (hF : mF τ 53 = G) (hn : fN G = fN A.F) (ho : fOK G) (hU : UV τ U) {R : List Int64} (hr : rOK τ) (e : mRw τ = R) : MV τ (((A.wF G).wU U).wR R) ∧ Fr lM σ τ := by
  refine ⟨⟨?_, hr, e⟩, ff.fr (by decide)⟩
  refine hb.gen (B := ((A.wF G).wU U).wR R) ff ⟨by show _ = nI (fN G); rw [hn]; exact (ff.i 1 (by decide)).trans hb.n, hF, ho⟩ (hb.x.go ff (by decide) (by decide)) hU ?_ (hb.h.go ff (by decide) (by decide) (by decide)) (hb.s.go ff (by decide) (by decide) (by decide)) rfl (by decide) (by decide)
  show KV τ (fN G) A.K
  rw [hn]
  exact hb.k.go ff (by decide) (by decide) (by decide) (by decide)
theorem mc_days (k : Nat) (A : AS) (x : Int32) : MC (k + 264) M_X12_days [.int x] A (.int (daysC A x).1) (daysC A x).2 := by
  intro σ0 hv0
  refine EvM.of mk_X12_days (Nat.le_of_ble_eq_true rfl) ?_
  refine wpW K_X12_days [5] 10 ?_
  obtain ⟨hv, f0⟩ := mv_t0 hv0
  show WW _ _ _ 5 [some (.ref 52), some (.int x), none] _ (t0S σ0)
  generalize t0S σ0 = σ at hv f0 ⊢
  have hb := hv.1
  have h7 := hb.n7
  unfold daysC
  refine wpW K_X12_days [29] 60 ?_
  refine ⟨_, ev_in _ _ _ _ _, ?_⟩
  rintro v τ ⟨h9, rfl⟩
  obtain rfl := h9.symm
  rw [show (60 : Int32) = nI 60 from rfl, in_S (by omega)]
  refine ⟨fun c => ?_, fun c => ?_⟩
  rotate_left
  · rw [bI_eq] at c
    rw [if_neg (by rw [c]; decide)]
    exact ⟨rfl, hv, f0⟩
  rw [bI_ne] at c
  rw [if_pos c]
  obtain ⟨x1, x2⟩ := inS_80 (by omega) c
  generalize x.toNatClampNeg = d at *
  subst x2
  have hdk := fok_days (ev := A.ev) (sil := -1) hb.ok d
  have tail : ∀ σ1 U, FM [61] [20] σ σ1 → UV σ1 U → U = (if d = 0 then A.U else (snapF A.F :: A.U).take 12) → WW M_X12_days (k + 264) (fun w τ => w = some (.int (homesS (daysS A.ev (-1) (fN A.F) A.F d))) ∧ MV τ (((A.wF (daysS A.ev (-1) (fN A.F) A.F d)).wU (if d = 0 then A.U else (snapF A.F :: A.U).take 12)).wR [(fSd (daysS A.ev (-1) (fN A.F) A.F d) - fSd A.F).toInt64, (sumS (fN A.F) (fPu (daysS A.ev (-1) (fN A.F) A.F d))).toInt64]) ∧ Fr lM σ0 τ) 29 [some (.ref 52), some (.int (nI d)), none] [] σ1 := by
    intro σ1 U f1 hU hUe
    rw [← hUe]
    have hF1 : mF σ1 53 = A.F := by rw [mF_fr f1 (by decide) (by decide) (by decide), hb.F]
    have hok1 : mOK σ1 53 := mOK_fr f1 (by decide) (by decide) (by decide) hb.mok
    have hR1 := hb.ru.go f1 (by decide) (by decide)
    have hJ1 := FJ.refl hok1
    rw [hF1] at hJ1
    have rSd := (mF_rd σ1 53).2.2.2.2.2.2
    rw [hF1] at rSd
    refine wpW K_X12_days [52] 60 ?_
    refine ⟨inN (i := 29) (n := 30) (by decide) (by decide), _, ev_goDays k σ1 53 (Or.inl rfl) hJ1 hb.ok A.ev hR1 d (by omega) (-1), ?_⟩
    rintro v σ2 ⟨rfl, hJ⟩
    generalize daysS A.ev (-1) (fN A.F) A.F d = G at hJ hdk ⊢
    obtain ⟨r1, r2⟩ := row_0 σ2
    have f3 : FM [] [6] σ2 (sI σ2 52 6 0) := FM.rf.sI (by decide)
    show WW _ _ _ 52 [some (.ref 52), some (.int (nI d)), some (.int (gA σ1 53 (29 : Int32).toNatClampNeg))] [] (sI σ2 52 6 0)
    generalize sI σ2 52 6 0 = σ3 at r1 r2 f3 ⊢
    refine wpW K_X12_days [] 60 ?_
    have hF3 : mF σ3 53 = G := (mF_fr f3 (by decide) (by decide) (by decide)).trans hJ.1
    have hok3 : mOK σ3 53 := mOK_fr f3 (by decide) (by decide) (by decide) hJ.2.1
    have rS3 := (mF_rd σ3 53).2.2.2.2.2.2
    rw [hF3] at rS3
    refine ⟨inN (i := 29) (n := 30) (by decide) (by decide), _, ev_tellL _ r1 r2 (by simp) _, ?_⟩
    rintro v σ4 ⟨rfl, r4, e4, f4⟩
    have hF4 : mF σ4 53 = G := (mF_fr f4 (by decide) (by decide) (by decide)).trans hF3
    have hok4 : mOK σ4 53 := mOK_fr f4 (by decide) (by decide) (by decide) hok3
    refine ⟨_, ev_sumOf _ σ4 53 (Or.inl rfl) hok4 7 (by omega), ?_⟩
    rintro v τ ⟨h9, rfl⟩
    obtain rfl := h9.symm
    refine ⟨_, ev_tellL _ r4 e4 (by simp) _, ?_⟩
    rintro v σ5 ⟨rfl, r5, e5, f5⟩
    have hF5 : mF σ5 53 = G := (mF_fr f5 (by decide) (by decide) (by decide)).trans hF4
    have hok5 : mOK σ5 53 := mOK_fr f5 (by decide) (by decide) (by decide) hok4
    refine ⟨_, ev_atHome _ σ5 53 (Or.inl rfl) hok5, ?_⟩
    rintro v τ ⟨h9, rfl⟩
    obtain rfl := h9.symm
    have ff : FM (56 :: lDm) (6 :: jDm) σ σ5 := ((((f1.up _ _ (by decide) (by decide)).tr (hJ.2.2.2.up _ _ (by decide) (by decide))).tr (f3.up _ _ (by decide) (by decide))).tr (f4.up _ _ (by decide) (by decide))).tr (f5.up _ _ (by decide) (by decide))
    have hU5 : UV σ5 U := (((hU.go hJ.2.2.2 (by decide) (by decide)).go f3 (by decide) (by decide)).go f4 (by decide) (by decide)).go f5 (by decide) (by decide)
    have := mv_deedR hb ff hF5 hdk.2 hdk.1 hU5 r5 e5
    refine ⟨by rw [hF5], ?_, f0.tr this.2⟩
    have e1 : gA σ3 53 (29 : Int32).toNatClampNeg - gA σ1 53 (29 : Int32).toNatClampNeg = fSd G - fSd A.F := congr (congrArg _ rS3) rSd
    have e2 : sumS (fN (mF σ4 53)) (r7 (fun i => gA σ4 53 (7 + i))) = sumS (fN A.F) (fPu G) := by
      rw [show r7 (fun i => gA σ4 53 (7 + i)) = fPu (mF σ4 53) from rfl, hF4, hdk.2]
    rw [e2] at this
    have t1 := this.1
    rw [show ([] ++ [(gA σ3 (52 + 1) (29 : Int32).toNatClampNeg - gA σ1 53 (29 : Int32).toNatClampNeg).toInt64] ++ [(sumS (fN A.F) (fPu G)).toInt64]) = [(fSd G - fSd A.F).toInt64, (sumS (fN A.F) (fPu G)).toInt64] by rw [← e1]; rfl] at t1
    exact t1
  refine ⟨fun e => ?_, fun e => ?_⟩
  · rw [show (0 : Int32) = nI 0 from rfl, le_of_nI (by omega) (by omega)] at e
    exact tail σ A.U FM.rf hb.u (by rw [if_pos (by omega)])
  · rw [show (0 : Int32) = nI 0 from rfl, le_of_nI (by omega) (by omega)] at e
    refine ⟨_, ev_remember _ σ 53 (Or.inl rfl) hb.u, ?_⟩
    rintro v σ1 ⟨rfl, hU, f1⟩
    rw [← snap_seg, hb.F] at hU
    exact tail σ1 _ f1 hU (by rw [if_neg (by omega)])
