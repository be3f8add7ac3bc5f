/-! the model's call: week; the acts are done -/
def actM (ev : (Nat → Int32) → Int32) (F : FS) (w a b : Int32) : Int32 × FS := if w = 99 then rcallS ev F a else if w = 103 then signS F a b else if w = 109 then moveS F a b else if w = 110 then (a, daysS ev (-1) (fN F) F a.toNatClampNeg) else if w = 115 then saidS ev F a b else (-1, F)
theorem act_M {ev : (Nat → Int32) → Int32} {F : FS} {c : Nat → Int32} {p : Nat} {b : Int32} (hb : 2 ≤ adN (c p) → b = actB c p) : actS ev F c p = actM ev F (c p) (digS (c (p + 1))) b := by
  obtain ⟨a1, a2, a3, a4, a5⟩ := ad_of (c := c p)
  unfold actS actM
  by_cases h1 : c p = 99
  · rw [if_pos h1, if_pos h1]
  rw [if_neg h1, if_neg h1]
  by_cases h2 : c p = 103
  · rw [if_pos h2, if_pos h2, hb (by rw [a5 h2]; omega), actB, if_pos (a5 h2)]
  rw [if_neg h2, if_neg h2]
  by_cases h3 : c p = 109
  · rw [if_pos h3, if_pos h3, hb (by rw [a4 h3]; omega), actB, if_neg (by rw [a4 h3]; omega)]
  rw [if_neg h3, if_neg h3]
  by_cases h4 : c p = 110
  · rw [if_pos h4, if_pos h4]
  rw [if_neg h4, if_neg h4]
  by_cases h5 : c p = 115
  · rw [if_pos h5, if_pos h5, hb (by rw [a3 h5]; omega), actB, if_neg (by rw [a3 h5]; omega)]
  · rw [if_neg h5, if_neg h5]
theorem mvc_fen {τ υ : Sto} {B : AS} (h : MVc τ B) (ff : FM [53, 60, 63] jQ τ υ) {G : FS} (hF : mF υ 53 = G) (hn : fN G = fN B.F) (ho : fOK G) : MVc υ (B.wF G) := by
  refine h.gen (B := B.wF G) ff ⟨by show _ = nI (fN G); rw [hn]; exact (ff.i 1 (by decide)).trans h.n, hF, ho⟩ (h.x.go ff (by decide) (by decide)) (h.u.go ff (by decide) (by decide)) ?_ (h.h.go ff (by decide) (by decide) (by decide)) (h.s.go ff (by decide) (by decide) (by decide)) rfl (by decide) (by decide)
  show KV υ (fN G) B.K
  rw [hn]
  exact h.k.go ff (by decide) (by decide) (by decide) (by decide)
theorem sign_n {F : FS} {x y : Int32} : fN (signS F x y).2 = fN F := by
  unfold signS
  split
  · split
    · rfl
    · split <;> rfl
  · rfl
theorem ev_actM (k : Nat) {τ : Sto} {B : AS} (hb : MVc τ B) (w a b : Int32) (hw : ¬ adN w = 0) (ha : ∃ d, d < 10 ∧ a = nI d) : EvM (k + 264) M_X12_act [.ref 52, .int w, .int a, .int b] τ (fun v υ => v = some (.int (bI (decide (0 ≤ (actM B.ev B.F w a b).1)))) ∧ MVc υ (B.wF (actM B.ev B.F w a b).2) ∧ FM [53, 60, 63] jQ τ υ) := by
  have h7 := hb.n7
  have hok := hb.ok
  obtain ⟨d, d1, rfl⟩ := ha
  have same : ∀ υ, FM [53, 60, 63] jQ τ υ → gA υ 53 = gA τ 53 → MVc υ (B.wF B.F) := fun υ f e => mvc_fen hb f (by
    unfold mF
    rw [e, f.i 1 (by decide), f.a 54 (by decide)]
    exact hb.F) rfl hok
  refine EvM.of mk_X12_act (Nat.le_of_ble_eq_true rfl) ?_
  refine wpW K_X12_act [] 60 ?_
  refine ⟨fun e => ?_, fun n103 => ⟨fun e => ?_, fun n109 => ⟨fun e => ?_, fun n110 => ⟨fun e => ?_, fun n115 => ?_⟩⟩⟩⟩
  · have hm : actM B.ev B.F w (nI d) b = signS B.F (nI d) b := by rw [actM, if_neg (by rw [e]; decide), if_pos e]
    rw [hm]
    have hS := ev_refD (k + 261) τ hb.mok (nI d) b
    rw [hb.F] at hS
    refine ⟨_, hS, ?_⟩
    rintro v τ' ⟨h9, rfl⟩
    obtain rfl := h9.symm
    rcases sign_rd hok (nI d) b with ⟨n1, n2⟩ | ⟨n1, n2, n4, n5⟩
    · rw [n2, decide_eq_false (Int32.not_le.mpr n1)]
      exact ⟨fun c => absurd n1 (Int32.not_lt.mpr c), fun _ => ⟨Or.inl rfl, rfl, same τ FM.rf rfl, FM.rf⟩⟩
    · have hok' := fok_sign hok (nI d) b
      rw [decide_eq_true n4]
      rw [n5] at hok' ⊢
      rw [n1]
      refine ⟨fun _ => ?_, fun c => absurd (by decide) c⟩
      obtain ⟨x1, x2⟩ := in_of h7 n2
      rw [nI_clamp (by omega)] at x1 hok' ⊢
      have hg := ev_goDeed (k + 263) τ hb.mok d (by rw [hb.F]; exact x1) b
      rw [hb.F] at hg
      refine ⟨_, hg, ?_⟩
      rintro v υ ⟨rfl, hF3, f3⟩
      have ff : FM [53, 60, 63] jQ τ υ := f3.up _ _ (by decide) (by decide)
      exact ⟨Or.inr rfl, rfl, mvc_fen hb ff hF3 rfl hok', ff⟩
  · have hm : actM B.ev B.F w (nI d) b = moveS B.F (nI d) b := by rw [actM, if_neg (by rw [e]; decide), if_neg (by rw [e]; decide), if_pos e]
    rw [hm]
    have hS := ev_refM (k + 261) τ 53 (Or.inl rfl) hb.mok (nI d) b
    rw [hb.F] at hS
    refine ⟨_, hS, ?_⟩
    rintro v τ' ⟨h9, rfl⟩
    obtain rfl := h9.symm
    rcases move_rm hok (nI d) b with ⟨n1, n2⟩ | ⟨n1, n2, n4, n5⟩
    · rw [n2, decide_eq_false (Int32.not_le.mpr n1)]
      exact ⟨fun c => absurd n1 (Int32.not_lt.mpr c), fun _ => ⟨Or.inl rfl, rfl, same τ FM.rf rfl, FM.rf⟩⟩
    · have hok' := fok_move hok (nI d) b
      rw [decide_eq_true n4]
      rw [n5] at hok' ⊢
      rw [n1]
      obtain ⟨x1, x2⟩ := in_of h7 n2
      rw [nI_clamp (by omega)] at x1 hok' ⊢
      refine ⟨fun _ => ⟨i30 (by omega), Or.inr rfl, rfl, ?_⟩, fun c => absurd (by decide) c⟩
      show MVc (sA τ 53 (upd (gA τ 53) (nI d).toNatClampNeg b)) _ ∧ FM [53, 60, 63] jQ τ (sA τ 53 (upd (gA τ 53) (nI d).toNatClampNeg b))
      rw [nI_clamp (by omega)]
      have f3 : FM [53, 60, 63] jQ τ (sA τ 53 (upd (gA τ 53) d b)) := FM.rf.sA (by decide)
      refine ⟨mvc_fen hb f3 ?_ rfl hok', f3⟩
      rw [mF_sA (Or.inl rfl), mG_Pl _ _ _ (by omega)]
      show wPl (mF τ 53) (upd (fPl (mF τ 53)) d b) = _
      rw [hb.F]
  · have hm : actM B.ev B.F w (nI d) b = (nI d, daysS B.ev (-1) (fN B.F) B.F d) := by rw [actM, if_neg (by rw [e]; decide), if_neg (by rw [e]; decide), if_neg (by rw [e]; decide), if_pos e, nI_clamp (by omega)]
    rw [hm, decide_eq_true (show 0 ≤ nI d from nn_nI (by omega))]
    have hJ0 : FJ 53 τ τ (fN B.F) B.F := ⟨hb.F, hb.mok, rfl, FM.rf⟩
    have hg := ev_goDays k τ 53 (Or.inl rfl) hJ0 hok B.ev hb.ru d (by omega) (-1)
    refine ⟨_, hg, ?_⟩
    rintro v υ ⟨rfl, hJ⟩
    have ff : FM [53, 60, 63] jQ τ υ := hJ.2.2.2.up _ _ (by decide) (by decide)
    exact ⟨Or.inr rfl, rfl, mvc_fen hb ff hJ.1 hJ.2.2.1 (fok_days hok d).1, ff⟩
  · have hm : actM B.ev B.F w (nI d) b = saidS B.ev B.F (nI d) b := by rw [actM, if_neg (by rw [e]; decide), if_neg (by rw [e]; decide), if_neg (by rw [e]; decide), if_neg (by rw [e]; decide), if_pos e]
    rw [hm]
    have hS := ev_refS (k + 1) τ 53 (Or.inl rfl) hb.mok B.ev hb.ru (nI d) b
    rw [hb.F] at hS
    refine ⟨_, hS, ?_⟩
    rintro v τ1 ⟨rfl, f1⟩
    have g1 : FM [53, 60, 63] jQ τ τ1 := f1.up _ _ (by decide) (by decide)
    rcases said_rf B.ev hok.1 (nI d) b with ⟨n1, -, n2⟩ | ⟨n1, n2, n3, n4, n5⟩
    · rw [n2, decide_eq_false (Int32.not_le.mpr n1)]
      exact ⟨fun c => absurd n1 (Int32.not_lt.mpr c), fun _ => ⟨Or.inl rfl, rfl, same τ1 g1 (f1.a 53 (by decide)), g1⟩⟩
    · have hok' := fok_said (ev := B.ev) hok (nI d) b
      rw [decide_eq_true n4]
      rw [n5] at hok' ⊢
      rw [n1]
      obtain ⟨x1, x2⟩ := in_of h7 n2
      obtain ⟨y1, y2⟩ := in_of h7 n3
      generalize b.toNatClampNeg = nm at *
      rw [nI_clamp (by omega)] at x1 hok' ⊢
      subst y2
      have hJ1 : FJ 53 τ τ1 (fN B.F) B.F := ⟨(mF_fr f1 (by decide) (by decide) (by decide)).trans hb.F, mOK_fr f1 (by decide) (by decide) (by decide) hb.mok, rfl, f1.up _ _ (by decide) (by decide)⟩
      refine ⟨fun _ => ⟨_, hJ1.say _ (Or.inl rfl) d nm x1 y1, ?_⟩, fun c => absurd (by decide) c⟩
      rintro v υ ⟨rfl, hJ⟩
      have ff : FM [53, 60, 63] jQ τ υ := hJ.2.2.2.up _ _ (by decide) (by decide)
      exact ⟨Or.inr rfl, rfl, mvc_fen hb ff hJ.1 hJ.2.2.1 hok', ff⟩
  · have e : w = 99 := Decidable.byContradiction (fun z => hw ((ad_nn w).mpr ⟨n110, n115, n103, n109, z⟩))
    have hm : actM B.ev B.F w (nI d) b = rcallS B.ev B.F (nI d) := by rw [actM, if_pos e]
    rw [hm]
    refine ⟨_, ev_refR k hb (nI d), ?_⟩
    rintro v τ1 ⟨rfl, f1⟩
    have g1 : FM [53, 60, 63] jQ τ τ1 := f1.up _ _ (by decide) (by decide)
    rcases rcall_rr B.ev hok.1 (nI d) with ⟨n1, n2⟩ | ⟨n1, n2, n4, n5⟩
    · rw [n2, decide_eq_false (Int32.not_le.mpr n1)]
      exact ⟨fun c => absurd n1 (Int32.not_lt.mpr c), fun _ => ⟨Or.inl rfl, rfl, same τ1 g1 (f1.a 53 (by decide)), g1⟩⟩
    · have hok' := fok_rcall (ev := B.ev) hok (nI d)
      rw [decide_eq_true n4]
      rw [n5] at hok' ⊢
      rw [n1]
      obtain ⟨x1, x2⟩ := in_of h7 n2
      rw [nI_clamp (by omega)] at x1 hok' ⊢
      have hF1 : mF τ1 53 = B.F := (mF_fr f1 (by decide) (by decide) (by decide)).trans hb.F
      have hg := ev_goRoll (k + 1) τ1 53 (Or.inl rfl) (mOK_fr f1 (by decide) (by decide) (by decide) hb.mok) B.ev (hb.ru.go f1 (by decide) (by decide)) d (by rw [hF1]; exact x1)
      rw [hF1] at hg
      refine ⟨fun _ => ⟨_, hg, ?_⟩, fun c => absurd (by decide) c⟩
      rintro v υ ⟨rfl, hJ⟩
      have ff : FM [53, 60, 63] jQ τ υ := g1.tr (hJ.2.2.2.up _ _ (by decide) (by decide))
      exact ⟨Or.inr rfl, rfl, mvc_fen hb ff hJ.1 hJ.2.2.1 hok', ff⟩
theorem mc_week (k : Nat) (A : AS) : MC (k + 265) M_X12_week [] A (.int (weekC A).1) (weekC A).2 := by
  intro σ0 hv0
  refine EvM.of mk_X12_week (Nat.le_of_ble_eq_true rfl) ?_
  refine wpW K_X12_week [5] 10 ?_
  obtain ⟨hv, f0⟩ := mv_t0 hv0
  show WW _ _ _ 5 [some (.ref 52), none, none] _ (t0S σ0)
  generalize t0S σ0 = σ at hv f0 ⊢
  have hb := hv.1
  have h7 := hb.n7
  have ht := hb.x.2.1
  have hxe := hb.x.2.2.2
  generalize hC : weekC A = C
  have cutc : ∀ τ, FM [64] jT σ τ → gI τ 52 4 = 0 → MVc τ (A.wX (cutX A.X 0)) := fun τ f h4 => hb.gen (B := A.wX (cutX A.X 0)) f (hb.kF f (by decide) (by decide) (by decide)) (mv_ruleX hb f h4) (hb.u.go f (by decide) (by decide)) (hb.k.go f (by decide) (by decide) (by decide) (by decide)) (hb.h.go f (by decide) (by decide) (by decide)) (hb.s.go f (by decide) (by decide) (by decide)) rfl (by decide) (by decide)
  have bad : ∀ τ i e p, FM [64] jT σ τ → gI τ 52 4 = 0 → PR τ 55 A.X.1 60 (cs60 A.X) p (nI e) → e ≤ 80 → weekW A.X.1 A.X.2 = some e → WW M_X12_week (k + 265) (fun w τ => w = some (.int C.1) ∧ MV τ C.2 ∧ Fr lM σ0 τ) 13 [some (.ref 52), some (.int (nI i)), none] [] τ := by
    intro τ i e p f h4 hP he hw
    have hne := nI_nm1 (e := e) (by omega)
    refine wpW K_X12_week [] 40 ?_
    refine ⟨_, ev_fine _ τ hP.wr, ?_⟩
    rintro v τ' ⟨h9, rfl⟩
    obtain rfl := h9.symm
    rw [decide_eq_false hne]
    refine ⟨fun _ => ⟨_, ev_wasRight _ τ hP, ?_⟩, fun y => absurd rfl y⟩
    rintro v τ1 ⟨rfl, hP', f'⟩
    rw [decide_eq_false (fun y => hne y.1)]
    rw [if_neg (fun y => hne y.1)] at hP'
    refine ⟨fun y => absurd rfl y, fun _ => ?_⟩
    have g1 : FM [64] jT σ τ1 := f.tr (f'.up _ _ (by decide) (by decide))
    obtain ⟨e3, r3⟩ := rw_fr g1 (by decide) (by decide)
    rw [← hC, weekC, hw]
    exact ⟨by rw [hP'.wr], ⟨cutc τ1 g1 ((f'.i 4 (by decide)).trans h4), r3 hv.2.1, e3.trans hv.2.2⟩, f0.tr (g1.fr (by decide))⟩
  have good : ∀ τ i, WH A σ i τ → A.X.1 ≤ posW A.X.2 i → WW M_X12_week (k + 265) (fun w τ => w = some (.int C.1) ∧ MV τ C.2 ∧ Fr lM σ0 τ) 44 [some (.ref 52), some (.int (nI i)), none] [] τ := by
    intro τ i h hle
    have hi := h.i
    obtain ⟨f, hP, h4, hM, hW, hA⟩ := h
    have hte : posW A.X.2 i = A.X.1 := by omega
    have hw : weekW A.X.1 A.X.2 = none := by
      rw [hte, show min A.X.1 60 - A.X.1 = 0 by omega, wkS] at hW
      exact week_3 hW (by omega)
    rw [weekC, hw] at hC
    simp only at hC
    refine wpW K_X12_week [58] 20 ?_
    refine ⟨_, ev_wasRight _ τ hP, ?_⟩
    rintro v τ1 ⟨rfl, hP', f'⟩
    rw [decide_eq_true (show (-1 : Int32) = -1 ∧ A.X.1 ≤ posW A.X.2 i from ⟨rfl, hle⟩)]
    refine ⟨fun _ => ?_, fun y => absurd y (by decide)⟩
    have g1 : FM [64] jT σ τ1 := f.tr (f'.up _ _ (by decide) (by decide))
    have b1 := cutc τ1 g1 ((f'.i 4 (by decide)).trans h4)
    have a1 : ∀ j, j < i → AW A.X.2 j τ1 ∧ posW A.X.2 j < A.X.1 := fun j hj => by
      have := hA j hj
      unfold AW at this ⊢
      rw [f'.a 64 (by decide)]
      exact this
    show WW _ _ _ 58 [some (.ref 52), some (.int (nI i)), none] [] τ1
    refine wpW K_X12_week [72] 20 ?_
    refine ⟨_, ev_lay _ τ1 53 62 0 30 (by omega) (by omega), ?_⟩
    rintro v τ2 ⟨rfl, e2⟩
    have f2 : FM [62] [] τ1 τ2 := by rw [e2]; exact FM.rf.sA (by decide)
    have g62 : seg (gA τ2 62) 0 = snapF A.F := by
      have h53 : mF τ1 53 = A.F := b1.F
      rw [e2, gA_eq, ← h53, snap_seg]
      have := seg_lay (gA τ1 53) (gA τ1 62) 0 0
      rw [if_pos rfl] at this
      exact this
    clear e2
    have b2 : MVc τ2 (A.wX (cutX A.X 0)) := b1.fr (f2.up _ _ (by decide) (by decide))
    have a2 : ∀ j, j < i → AW A.X.2 j τ2 ∧ posW A.X.2 j < A.X.1 := fun j hj => by
      have := a1 j hj
      unfold AW at this ⊢
      rw [f2.a 64 (by decide)]
      exact this
    have ff2 : FM [62, 64] jT σ τ2 := (g1.up _ _ (by decide) (by decide)).tr (f2.up _ _ (by decide) (by decide))
    -- the end
    have fin : ∀ υ d G (rf : Bool), MVc υ ((A.wX (cutX A.X 0)).wF G) → FM [53, 60, 63] jQ τ2 υ → d ≤ i → (rf = true ↔ d < i) → weekE A = (d, G, rf) → WW M_X12_week (k + 265) (fun w τ => w = some (.int C.1) ∧ MV τ C.2 ∧ Fr lM σ0 τ) 118 [some (.ref 52), some (.int (nI i)), some (.int (nI d))] [] υ := by
      intro υ d G rf hm fu hd hrf hE
      rw [hE] at hC
      simp only at hC
      have fs : FM [53, 60, 62, 63, 64] jT σ υ := (ff2.up _ _ (by decide) (by decide)).tr (fu.up _ _ (by decide) (by decide))
      have tail : ∀ υ2 U, FM [61] [20] υ υ2 → UV υ2 U → U = (if d = 0 then A.U else (snapF A.F :: A.U).take 12) → WW M_X12_week (k + 265) (fun w τ => w = some (.int C.1) ∧ MV τ C.2 ∧ Fr lM σ0 τ) 130 [some (.ref 52), some (.int (nI i)), some (.int (nI d))] [] υ2 := by
        intro υ2 U f3 hU hUe
        obtain ⟨r1, r2⟩ := row_0 υ2
        have f4 : FM [] [6] υ2 (sI υ2 52 6 0) := FM.rf.sI (by decide)
        refine wpW K_X12_week [135] 20 ?_
        show WW _ _ _ 135 [some (.ref 52), some (.int (nI i)), some (.int (nI d))] [] (sI υ2 52 6 0)
        generalize sI υ2 52 6 0 = υ3 at r1 r2 f4 ⊢
        have f34 : FM [61] [6, 20] υ υ3 := (f3.up _ _ (by decide) (by decide)).tr (f4.up _ _ (by decide) (by decide))
        have e53 : mF υ3 53 = G := (mF_fr f34 (by decide) (by decide) (by decide)).trans hm.F
        have last : ∀ x : Int64, x = (bI rf).toInt64 → WW M_X12_week (k + 265) (fun w τ => w = some (.int C.1) ∧ MV τ C.2 ∧ Fr lM σ0 τ) 146 [some (.ref 52), some (.int (nI i)), some (.int (nI d))] [.long x, .ref 52] υ3 := by
          intro x hx
          refine wpW K_X12_week [] 40 ?_
          refine ⟨_, ev_tellL _ r1 r2 (by simp) _, ?_⟩
          rintro v υ4 ⟨rfl, r4, e4, f5⟩
          have e53' : mF υ4 53 = G := (mF_fr f5 (by decide) (by decide) (by decide)).trans e53
          have esd : gA υ4 53 29 = fSd G := by rw [← e53']; exact (mF_rd υ4 53).2.2.2.2.2.2
          refine ⟨inN (i := 29) (n := 30) (by decide) (by decide), _, ev_tellL _ r4 e4 (by simp) _, ?_⟩
          rintro v υ5 ⟨rfl, r5, e5, f6⟩
          have fz : FM [56, 61] [6, 20] υ υ5 := (f34.up _ _ (by decide) (by decide)).tr ((f5.up _ _ (by decide) (by decide)).tr (f6.up _ _ (by decide) (by decide)))
          have e5' : mRw υ5 = [(bI rf).toInt64, (fSd G).toInt64] := by rw [e5, ← esd, hx]; rfl
          have hU5 : UV υ5 U := ((hU.go f4 (by decide) (by decide)).go f5 (by decide) (by decide)).go f6 (by decide) (by decide)
          rw [← hC]
          refine ⟨rfl, ⟨?_, r5, e5'⟩, ?_⟩
          · refine hm.gen (B := (((A.wX (cutX A.X 0)).wF G).wU (if d = 0 then A.U else (snapF A.F :: A.U).take 12)).wR [(bI rf).toInt64, (fSd G).toInt64]) fz (hm.kF fz (by decide) (by decide) (by decide)) (hm.x.go fz (by decide) (by decide)) (by rw [hUe] at hU5; exact hU5) (hm.k.go fz (by decide) (by decide) (by decide) (by decide)) (hm.h.go fz (by decide) (by decide) (by decide)) (hm.s.go fz (by decide) (by decide) (by decide)) rfl (by decide) (by decide)
          · exact f0.tr ((fs.fr (by decide)).tr (fz.fr (by decide)))
        refine wpW K_X12_week [146] 20 ?_
        refine ⟨fun e => ?_, fun e => ?_⟩
        · rw [le_of_nI (by omega) (by omega)] at e
          refine last 0 ?_
          have : rf = false := by
            rw [Bool.eq_false_iff]
            exact fun z => by have := hrf.mp z; omega
          rw [this]; rfl
        · rw [le_of_nI (by omega) (by omega)] at e
          refine last 1 ?_
          rw [hrf.mpr (by omega)]; rfl
      refine wpW K_X12_week [130] 20 ?_
      refine ⟨fun e => ?_, fun e => ⟨_, ev_remember _ υ 62 (Or.inr rfl) hm.u, ?_⟩⟩
      · have e' : nI d ≤ nI 0 := e
        rw [le_of_nI (by omega) (by omega)] at e'
        exact tail υ _ FM.rf hm.u (by rw [if_pos (by omega)]; rfl)
      · have e' : ¬ nI d ≤ nI 0 := e
        rw [le_of_nI (by omega) (by omega)] at e'
        rintro v υ2 ⟨rfl, hU, f3⟩
        refine tail υ2 _ f3 hU ?_
        rw [if_neg (by omega), fu.a 62 (by decide), g62]
        rfl
    have hE0 : weekE A = wkX A.ev A.X.2 A.X.1 (81 - 0) (posW A.X.2 0) 0 A.F := rfl
    generalize hEE : weekE A = E at *
    show WW _ _ _ 72 [some (.ref 52), some (.int (nI i)), some (.int (nI 0))] [] τ2
    refine loopI (α := Sto × FS) 72 (fun d _ => [some (.ref 52), some (.int (nI i)), some (.int (nI d))]) (fun a => a.1) (fun d a => MVc a.1 ((A.wX (cutX A.X 0)).wF a.2) ∧ FM [53, 60, 63] jQ τ2 a.1 ∧ E = wkX A.ev A.X.2 A.X.1 (81 - d) (posW A.X.2 d) d a.2) i ?_ ?_ 0 (τ2, A.F) (Nat.zero_le _) ⟨b2, FM.rf, hE0⟩
    · rintro d ⟨υ, G⟩ hd ⟨hm, fu, hI⟩ go
      simp only at hm fu hI ⊢
      obtain ⟨⟨w1, w2, w3, w4⟩, w5⟩ := a2 d hd
      have hs : posW A.X.2 (d + 1) = posW A.X.2 d + 1 + adN (A.X.2 (posW A.X.2 d)) := rfl
      have i0 : (3 : Int32) * nI d = nI (3 * d) := by rw [show (3 : Int32) = nI 3 from rfl, mul_nI]
      have i1 : (3 : Int32) * nI d + 1 = nI (3 * d + 1) := by rw [i0, nI_1]
      have i2 : (3 : Int32) * nI d + 2 = nI (3 * d + 2) := by rw [i0]; exact add_nI (3 * d) 2
      have v0 : vp_in ((3 : Int32) * nI d) 240 := by rw [i0]; exact inN (by omega) (by omega)
      have v1 : vp_in ((3 : Int32) * nI d + 1) 240 := by rw [i1]; exact inN (by omega) (by omega)
      have v2 : vp_in ((3 : Int32) * nI d + 2) 240 := by rw [i2]; exact inN (by omega) (by omega)
      have g0 : gA υ 64 ((3 : Int32) * nI d).toNatClampNeg = A.X.2 (posW A.X.2 d) := by rw [i0, nI_clamp (by omega), fu.a 64 (by decide)]; exact w2
      have g1 : gA υ 64 ((3 : Int32) * nI d + 1).toNatClampNeg = digS (A.X.2 (posW A.X.2 d + 1)) := by rw [i1, nI_clamp (by omega), fu.a 64 (by decide)]; exact w3
      have g2 : 2 ≤ adN (A.X.2 (posW A.X.2 d)) → gA υ 64 ((3 : Int32) * nI d + 2).toNatClampNeg = actB A.X.2 (posW A.X.2 d) := fun h2 => by rw [i2, nI_clamp (by omega), fu.a 64 (by decide)]; exact w4 h2
      have hev := ev_actM k hm (gA υ 64 ((3 : Int32) * nI d).toNatClampNeg) (gA υ 64 ((3 : Int32) * nI d + 1).toNatClampNeg) (gA υ 64 ((3 : Int32) * nI d + 2).toNatClampNeg) (by rw [g0]; exact w1) (by rw [g1]; exact dig_in _)
      have hact : actS A.ev G A.X.2 (posW A.X.2 d) = actM A.ev G (gA υ 64 ((3 : Int32) * nI d).toNatClampNeg) (gA υ 64 ((3 : Int32) * nI d + 1).toNatClampNeg) (gA υ 64 ((3 : Int32) * nI d + 2).toNatClampNeg) := by
        rw [g0, g1]
        exact act_M g2
      rw [show 81 - d = (81 - (d + 1)) + 1 by omega, wkX, if_pos w5, hact] at hI
      refine wpW K_X12_week [72, 118] 60 ?_
      refine ⟨fun e => ?_, fun _ => ⟨v0, v1, v2, _, hev, ?_⟩⟩
      · rw [le_of_nI (by omega) (by omega)] at e; omega
      show ∀ (v : Option Value) (σ' : Sto), (v = some (.int (bI (decide (0 ≤ (actM A.ev G _ _ _).1)))) ∧ MVc σ' ((A.wX (cutX A.X 0)).wF (actM A.ev G _ _ _).2) ∧ FM [53, 60, 63] jQ υ σ') → _
      generalize actM A.ev G (gA υ 64 ((3 : Int32) * nI d).toNatClampNeg) (gA υ 64 ((3 : Int32) * nI d + 1).toNatClampNeg) (gA υ 64 ((3 : Int32) * nI d + 2).toNatClampNeg) = R at hI ⊢
      rintro v υ2 ⟨rfl, hm2, f2⟩
      refine ⟨fun e => ?_, fun e => ?_⟩
      · rw [bI_eq, decide_eq_false_iff_not] at e
        rw [if_pos (Int32.not_le.mp e)] at hI
        exact fin υ2 d R.2 true hm2 (fu.tr f2) (by omega) ⟨fun _ => hd, fun _ => rfl⟩ hI
      · rw [bI_ne, decide_eq_true_eq] at e
        rw [if_neg (Int32.not_lt.mpr e)] at hI
        exact go (υ2, R.2) _ _ (by rw [← nI_1 d]; rfl) rfl ⟨hm2, fu.tr f2, hI⟩
    · rintro ⟨υ, G⟩ ⟨hm, fu, hI⟩
      simp only at hm fu hI ⊢
      rw [show 81 - i = (81 - (i + 1)) + 1 by omega, wkX, if_neg (by omega)] at hI
      refine wpW K_X12_week [118] 20 ?_
      refine ⟨fun _ => fin υ i G false hm fu (Nat.le_refl _) ⟨fun z => absurd z (by decide), fun z => by omega⟩ hI, fun e => absurd (Int32.le_refl _) e⟩
  refine wpW K_X12_week [13] 20 ?_
  refine ⟨_, ev_beginText _ hb 60 (by omega), ?_⟩
  rintro v σ1 ⟨rfl, hP1, h41, f1⟩
  show WW _ _ _ 13 [some (.ref 52), some (.int (nI 0)), none] [] σ1
  refine loopI (α := Sto) 13 (fun i _ => [some (.ref 52), some (.int (nI i)), none]) (fun a => a) (fun i a => WH A σ i a) 31 ?_ ?_ 0 σ1 (Nat.zero_le _) ⟨f1.up _ _ (by decide) (by decide), hP1, h41, Nat.zero_le _, rfl, fun j hj => by omega⟩
  · rintro i τ hi h go
    obtain ⟨f, hP, h4, hM, hW, hA⟩ := id h
    have e3 : (3 : Int32) * nI i = nI (3 * i) := by rw [show (3 : Int32) = nI 3 from rfl, mul_nI]
    refine wpW K_X12_week [13, 44] 40 ?_
    refine ⟨_, ev_fine _ τ hP.wr, ?_⟩
    rintro v τ' ⟨h9, rfl⟩
    obtain rfl := h9.symm
    refine ⟨fun y => absurd y (by decide), fun _ => ⟨fun e => ?_, fun e => ?_⟩⟩
    · rw [hP.at, hP.2.1, le_of_nI (by omega) (by omega)] at e
      exact good τ i h e
    · rw [hP.at, hP.2.1, le_of_nI (by omega) (by omega)] at e
      have hev := ev_readAct (k + 261) hxe h (by omega)
      rw [← e3] at hev
      refine ⟨_, hev, ?_⟩
      rintro v υ ⟨rfl, hN⟩
      rcases hN with h' | ⟨fu, h4u, e, p, hPe, he, hw⟩
      · exact go υ _ _ (by rw [← nI_1 i]; rfl) rfl h'
      · have := bad υ (i + 1) e p fu h4u hPe he hw
        rw [← nI_1 i] at this
        exact this
  · intro τ h
    have := h.i
    omega
