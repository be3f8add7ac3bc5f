theorem ad_of {c : Int32} : (c = 110 → adN c = 1) ∧ (c = 99 → adN c = 1) ∧ (c = 115 → adN c = 2) ∧ (c = 109 → adN c = 2) ∧ (c = 103 → adN c = 3) := by
  refine ⟨?_, ?_, ?_, ?_, ?_⟩ <;> (intro h; rw [h]; decide)
theorem ev_readAct (k : Nat) {σ : Sto} {A : AS} (hxe : xEnd A.X) {i : Nat} {τ : Sto} (h : WH A σ i τ) (hlt : posW A.X.2 i < A.X.1) : EvM (k + 3) M_X12_readAct [.ref 52, .int (nI (3 * i))] τ (fun v υ => v = none ∧ WN A σ i υ) := by
  have hi := h.i
  obtain ⟨f, hP, h4, hM, hW, hA⟩ := id h
  refine EvM.of mk_X12_readAct (Nat.le_of_ble_eq_true rfl) ?_
  have hwn := fun υ a b c d e => wn_of (υ := υ) hxe h hlt a b c d e
  generalize hp : posW A.X.2 i = p at *
  have i1 : nI (3 * i) + 1 = nI (3 * i + 1) := nI_1 _
  have i2 : nI (3 * i) + 2 = nI (3 * i + 2) := add_nI (3 * i) 2
  have v0 : vp_in (nI (3 * i)) 240 := inN (by omega) (by omega)
  have v1 : vp_in (nI (3 * i) + 1) 240 := by rw [i1]; exact inN (by omega) (by omega)
  have v2 : vp_in (nI (3 * i) + 2) 240 := by rw [i2]; exact inN (by omega) (by omega)
  have n0 : (nI (3 * i)).toNatClampNeg = 3 * i := nI_clamp (by omega)
  have n1 : (nI (3 * i) + 1).toNatClampNeg = 3 * i + 1 := by rw [i1, nI_clamp (by omega)]
  have n2 : (nI (3 * i) + 2).toNatClampNeg = 3 * i + 2 := by rw [i2, nI_clamp (by omega)]
  -- behind the sign
  have at44 : ¬ adN (cs60 A.X p) = 0 → WW M_X12_readAct (k + 3) (fun v υ => v = none ∧ WN A σ i υ) 44 [some (.ref 52), some (.int (nI (3 * i))), some (.int (cs60 A.X p))] [] τ := by
    intro hne
    obtain ⟨a1, a2, a3, a4, a5⟩ := ad_of (c := cs60 A.X p)
    have p60 := (cs60_in hxe (q := p) (fun z => hne (by rw [z]; decide))).1
    have fin := fun υ => hwn υ hne
    generalize hcp : cs60 A.X p = cp at *
    have fb : FM [64] jT τ (sA (sI τ 52 11 (gI τ 52 11 + 1)) 64 (upd (gA τ 64) (3 * i) cp)) := (FM.rf.sI (by decide)).sA (by decide)
    have rb : gA (sA (sI τ 52 11 (gI τ 52 11 + 1)) 64 (upd (gA τ 64) (3 * i) cp)) 64 = upd (gA τ 64) (3 * i) cp := gA_eq
    have sb : gI (sA (sI τ 52 11 (gI τ 52 11 + 1)) 64 (upd (gA τ 64) (3 * i) cp)) 52 4 = 0 := h4
    have hPb : PR (sA (sI τ 52 11 (gI τ 52 11 + 1)) 64 (upd (gA τ 64) (3 * i) cp)) 55 A.X.1 60 (cs60 A.X) (p + 1) (-1) := by
      have f9 : FM [64] [11] τ (sA (sI τ 52 11 (gI τ 52 11 + 1)) 64 (upd (gA τ 64) (3 * i) cp)) := (FM.rf.sI (by decide)).sA (by decide)
      refine hP.go f9 (by decide) (by decide) ?_ hP.wr (by omega)
      show gI τ 52 11 + 1 = _
      rw [hP.at, nI_1]
    refine wpW K_X12_readAct [61] 30 ?_
    refine ⟨v0, ?_⟩
    rw [n0]
    show WW _ _ _ 61 [some (.ref 52), some (.int (nI (3 * i))), some (.int cp)] [] (sA (sI τ 52 11 (gI τ 52 11 + 1)) 64 (upd (gA τ 64) (3 * i) cp))
    generalize sA (sI τ 52 11 (gI τ 52 11 + 1)) 64 (upd (gA τ 64) (3 * i) cp) = τb at fb rb sb hPb ⊢
    have hL0 : LnT (cs60 A.X) A.X.1 (p + 1) 0 τb := Or.inl ⟨hPb, fun q a b => by omega⟩
    refine wpW K_X12_readAct [77] 30 ?_
    refine ⟨_, ev_oneT _ hL0, ?_⟩
    rintro v τ1 ⟨x0, rfl, hx0, hL1, f1⟩
    refine ⟨v1, ?_⟩
    rw [n1]
    have hL1' := hL1.go (show FM [64] [] τ1 (sA τ1 64 (upd (gA τ1 64) (3 * i + 1) x0)) from FM.rf.sA (by decide))
    have q1 : FM [64] jT τ (sA τ1 64 (upd (gA τ1 64) (3 * i + 1) x0)) := (fb.tr (f1.up _ _ (by decide) (by decide))).sA (by decide)
    have r1 : gA (sA τ1 64 (upd (gA τ1 64) (3 * i + 1) x0)) 64 = upd (upd (gA τ 64) (3 * i) cp) (3 * i + 1) x0 := by rw [gA_eq, f1.a 64 (by decide), rb]
    have s1 : gI (sA τ1 64 (upd (gA τ1 64) (3 * i + 1) x0)) 52 4 = 0 := (f1.i 4 (by decide)).trans sb
    show WW _ _ _ 77 [some (.ref 52), some (.int (nI (3 * i))), some (.int cp)] [] (sA τ1 64 (upd (gA τ1 64) (3 * i + 1) x0))
    generalize sA τ1 64 (upd (gA τ1 64) (3 * i + 1) x0) = υ1 at hL1' q1 r1 s1 ⊢
    have keep : ∀ υ (g : Nat → Int32), gA υ 64 = g → (∀ j, j < 3 * i → g j = gA τ 64 j) → ∀ j, j < i → AW A.X.2 j υ := by
      intro υ g e hg j hj
      obtain ⟨⟨w1, w2, w3, w4⟩, -⟩ := hA j hj
      unfold AW
      rw [e, hg _ (by omega), hg _ (by omega), hg _ (by omega)]
      exact ⟨w1, w2, w3, w4⟩
    -- one digit
    have one : adN cp = 1 → WN A σ i υ1 := by
      intro e1
      refine fin υ1 (f.tr q1) s1 (by rw [e1]; exact hL1') (keep υ1 _ r1 (fun j hj => by rw [pk_un (by omega), pk_un (by omega)])) (fun hd => ?_)
      rw [r1]
      refine ⟨by rw [pk_un (by omega), pk_us], ?_, fun z => by omega, fun z => by omega⟩
      rw [pk_us, hx0 (fun q a b => hd q a (by omega))]
    have at95 : (∀ υ2 x1, LnT (cs60 A.X) A.X.1 (p + 1) 2 υ2 → FM [64] jT τ υ2 → gI υ2 52 4 = 0 → gA υ2 64 = upd (upd (upd (gA τ 64) (3 * i) cp) (3 * i + 1) x0) (3 * i + 2) x1 → ((∀ q, p + 1 ≤ q → q < p + 1 + 2 → isDg (cs60 A.X q) = true) → x1 = digS (cs60 A.X (p + 2))) → WW M_X12_readAct (k + 3) (fun v υ => v = none ∧ WN A σ i υ) 111 [some (.ref 52), some (.int (nI (3 * i))), some (.int cp)] [] υ2) → WW M_X12_readAct (k + 3) (fun v υ => v = none ∧ WN A σ i υ) 95 [some (.ref 52), some (.int (nI (3 * i))), some (.int cp)] [] υ1 := by
      intro go
      refine wpW K_X12_readAct [111] 30 ?_
      refine ⟨_, ev_oneT _ hL1', ?_⟩
      rintro v τ2 ⟨x1, rfl, hx1, hL2, f2⟩
      refine ⟨v2, ?_⟩
      rw [n2]
      exact go _ x1 (hL2.go (FM.rf.sA (by decide))) ((q1.tr (f2.up _ _ (by decide) (by decide))).sA (by decide)) ((f2.i 4 (by decide)).trans s1) (by rw [show (52 : Nat) + 12 = 64 from rfl, gA_eq, f2.a 64 (by decide), r1]) hx1
    have two : adN cp = 2 → ¬ cp = 103 → WW M_X12_readAct (k + 3) (fun v υ => v = none ∧ WN A σ i υ) 95 [some (.ref 52), some (.int (nI (3 * i))), some (.int cp)] [] υ1 := by
      intro e2 ng
      refine at95 (fun υ2 x1 hL2 q2 s2 r2 hx1 => ?_)
      refine wpW K_X12_readAct [] 30 ?_
      refine ⟨fun _ => ⟨rfl, ?_⟩, fun z => absurd z ng⟩
      refine fin υ2 (f.tr q2) s2 (by rw [e2]; exact hL2) (keep υ2 _ r2 (fun j hj => by rw [pk_un (by omega), pk_un (by omega), pk_un (by omega)])) (fun hd => ?_)
      rw [r2]
      refine ⟨by rw [pk_un (by omega), pk_un (by omega), pk_us], ?_, fun _ => ?_, fun z => by omega⟩
      · rw [pk_un (by omega), pk_us, hx0 (fun q a b => hd q a (by omega))]
      · rw [pk_us]
        exact hx1 (fun q a b => hd q a (by omega))
    have three : cp = 103 → WW M_X12_readAct (k + 3) (fun v υ => v = none ∧ WN A σ i υ) 95 [some (.ref 52), some (.int (nI (3 * i))), some (.int cp)] [] υ1 := by
      intro eg
      have e3 := a5 eg
      refine at95 (fun υ2 x1 hL2 q2 s2 r2 hx1 => ?_)
      refine wpW K_X12_readAct [] 30 ?_
      refine ⟨fun z => absurd eg z, fun _ => ⟨v2, _, ev_oneT _ hL2, ?_⟩⟩
      rintro v τ3 ⟨x2, rfl, hx2, hL3, f3⟩
      refine ⟨v2, rfl, ?_⟩
      have g2 : gA υ2 64 (3 * i + 2) = x1 := by rw [r2, pk_us]
      rw [n2, show (52 : Nat) + 12 = 64 from rfl, g2]
      have r3 : gA (sA τ3 64 (upd (gA τ3 64) (3 * i + 2) (10 * x1 + x2))) 64 = upd (upd (upd (upd (gA τ 64) (3 * i) cp) (3 * i + 1) x0) (3 * i + 2) x1) (3 * i + 2) (10 * x1 + x2) := by rw [gA_eq, f3.a 64 (by decide), r2]
      refine fin _ (f.tr ((q2.tr (f3.up _ _ (by decide) (by decide))).sA (by decide))) ((f3.i 4 (by decide)).trans s2) (by rw [e3]; exact hL3.go (FM.rf.sA (by decide))) (keep _ _ r3 (fun j hj => by rw [pk_un (by omega), pk_un (by omega), pk_un (by omega), pk_un (by omega)])) (fun hd => ?_)
      rw [r3]
      refine ⟨by rw [pk_un (by omega), pk_un (by omega), pk_un (by omega), pk_us], ?_, fun z => by omega, fun _ => ?_⟩
      · rw [pk_un (by omega), pk_un (by omega), pk_us, hx0 (fun q a b => hd q a (by omega))]
      · rw [pk_us, hx1 (fun q a b => hd q a (by omega)), hx2 (fun q a b => hd q a (by omega))]
    refine wpW K_X12_readAct [95, 111] 30 ?_
    refine ⟨fun e => two (a3 e) (by rw [e]; decide), fun e1 => ⟨fun e => two (a4 e) (by rw [e]; decide), fun e2 => ⟨fun e3 => ?_, fun e => three e⟩⟩⟩
    show WW _ _ _ 111 [some (.ref 52), some (.int (nI (3 * i))), some (.int cp)] [] υ1
    refine wpW K_X12_readAct [] 30 ?_
    refine ⟨fun _ => ⟨rfl, one ?_⟩, fun z => absurd z e3⟩
    by_cases c1 : cp = 110
    · exact a1 c1
    · by_cases c2 : cp = 99
      · exact a2 c2
      · exact absurd ((ad_nn cp).mpr ⟨c1, e1, e3, e2, c2⟩) hne
  refine wpW K_X12_readAct [44] 40 ?_
  refine ⟨_, ev_here _ τ hP, ?_⟩
  rintro v τ' ⟨h9, rfl⟩
  obtain rfl := h9.symm
  have nz : ∀ c : Int32, cs60 A.X p = c → ¬ adN c = 0 → ¬ adN (cs60 A.X p) = 0 := fun c e z y => z (by rw [← e]; exact y)
  refine ⟨fun e => at44 (nz _ e (by decide)), fun e1 => ⟨fun e => at44 (nz _ e (by decide)), fun e2 => ⟨fun e => at44 (nz _ e (by decide)), fun e3 => ⟨fun e => at44 (nz _ e (by decide)), fun e4 => ⟨fun e => at44 (nz _ e (by decide)), fun e5 => ⟨_, ev_fault _ τ hP _, ?_⟩⟩⟩⟩⟩⟩
  rintro v υ ⟨rfl, hP', f'⟩
  rw [if_pos rfl, hP.at] at hP'
  refine ⟨rfl, Or.inr ⟨f.tr (f'.up _ _ (by decide) (by decide)), (f'.i 4 (by decide)).trans h4, p, p, hP', by omega, ?_⟩⟩
  have h0 := (ad_nn (cs60 A.X p)).mpr ⟨e1, e2, e3, e4, e5⟩
  by_cases c : p < min A.X.1 60
  · rw [cs60_lt (by omega)] at h0
    rw [show min A.X.1 60 - p = (min A.X.1 60 - p - 1) + 1 by omega, wkS, if_neg (by omega), if_pos h0] at hW
    exact week_1 hW
  · have : p = min A.X.1 60 := by omega
    rw [← this, Nat.sub_self, wkS] at hW
    have h2 := week_2 (t := A.X.1) (c := A.X.2) (d := 0) (by rw [← this]; exact hW) (by omega)
    rw [h2, ← this]
