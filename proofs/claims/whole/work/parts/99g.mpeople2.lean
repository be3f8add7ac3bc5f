theorem mc_people (k : Nat) (A : AS) : MC (k + 4) M_X12_people [] A (.int (peopleC A).1) (peopleC A).2 := by
  intro σ0 hv0
  refine EvM.of mk_X12_people (Nat.le_of_ble_eq_true rfl) ?_
  refine wpW K_X12_people [5] 10 ?_
  obtain ⟨hv, f0⟩ := mv_t0 hv0
  show WW _ _ _ 5 [some (.ref 52), none, none, none] _ (t0S σ0)
  generalize t0S σ0 = σ at hv f0 ⊢
  have hb := hv.1
  have h7 := hb.n7
  have ht := hb.x.2.1
  have hxe := hb.x.2.2.2
  generalize hC : peopleC A = C
  -- an end that leaves all but the text
  have same : ∀ τ l js, FM l js σ τ → (l = [] ∨ l = [57]) → js = jT → gI τ 52 4 = 0 → MV τ (A.wX (cutX A.X 0)) ∧ Fr lM σ0 τ := by
    intro τ l js f hl hj h4
    subst hj
    rcases hl with rfl | rfl
    all_goals
      obtain ⟨e3, r3⟩ := rw_fr f (by decide) (by decide)
      exact ⟨⟨hb.gen (B := A.wX (cutX A.X 0)) f (hb.kF f (by decide) (by decide) (by decide)) (mv_ruleX hb f h4) (hb.u.go f (by decide) (by decide)) (hb.k.go f (by decide) (by decide) (by decide) (by decide)) (hb.h.go f (by decide) (by decide) (by decide)) (hb.s.go f (by decide) (by decide) (by decide)) rfl (by decide) (by decide), r3 hv.2.1, e3.trans hv.2.2⟩, f0.tr (f.fr (by decide))⟩
  refine wpW K_X12_people [20] 20 ?_
  refine ⟨_, ev_beginText _ hb 34 (by omega), ?_⟩
  rintro v σ1 ⟨rfl, hP1, h41, f1⟩
  refine ⟨fun e => ?_, fun e => ?_⟩
  rotate_left
  · have t0 : A.X.1 = 0 := by
      have : nI A.X.1 = nI 0 := hP1.2.1.symm.trans e
      rw [eq_of_nI (by omega) (by omega)] at this
      exact this
    have e0 : pplW (fN A.F) A.X.1 A.X.2 = none := by rw [t0]; rfl
    rw [← hC, peopleC, e0]
    simp only
    rw [if_pos t0]
    have := same σ1 _ _ f1 (Or.inl rfl) rfl h41
    exact ⟨rfl, this.1, this.2⟩
  have t0 : ¬ A.X.1 = 0 := fun z => e (hP1.2.1.trans (by rw [z]; rfl))
  have hn1 : ∀ τ, FM [57] jT σ τ → gI τ 52 1 = nI (fN A.F) := fun τ f => (f.i 1 (by decide)).trans hb.n
  have bad : ∀ τ i (mo : Bool) e p w, FM [57] jT σ τ → gI τ 52 4 = 0 → PR τ 55 A.X.1 34 (cs34 A.X) p w → pplW (fN A.F) A.X.1 A.X.2 = some e → e ≤ 80 → (w = nI e ∨ (w = -1 ∧ p = e ∧ e < A.X.1 ∧ mo = false)) → WW M_X12_people (k + 4) (fun w τ => w = some (.int C.1) ∧ MV τ C.2 ∧ Fr lM σ0 τ) 24 [some (.ref 52), some (.int (nI i)), some (.int (bI mo)), none] [] τ := by
    intro τ i mo e p w f h4 hP hw he hor
    have hne := nI_nm1 (e := e) (by omega)
    have at146 : WW M_X12_people (k + 4) (fun w τ => w = some (.int C.1) ∧ MV τ C.2 ∧ Fr lM σ0 τ) 146 [some (.ref 52), some (.int (nI i)), some (.int (bI mo)), none] [] τ := by
      refine wpW K_X12_people [] 20 ?_
      refine ⟨_, ev_wasRight _ τ hP, ?_⟩
      rintro v τ' ⟨rfl, hP', f'⟩
      have hd : ¬ (w = -1 ∧ A.X.1 ≤ p) := by
        rcases hor with z | ⟨z1, z2, z3, -⟩
        · exact fun y => hne (z.symm.trans y.1)
        · exact fun y => by omega
      have hw' : (if w = -1 ∧ p < A.X.1 then nI p else w) = nI e := by
        rcases hor with z | ⟨z1, z2, z3, -⟩
        · rw [if_neg (fun y => hne (z.symm.trans y.1)), z]
        · rw [if_pos ⟨z1, by omega⟩, z2]
      rw [decide_eq_false hd]
      refine ⟨fun y => absurd rfl y, fun _ => ?_⟩
      have := same τ' _ _ (f.tr (f'.up _ _ (by decide) (by decide))) (Or.inr rfl) rfl ((f'.i 4 (by decide)).trans h4)
      rw [← hC, peopleC, hw]
      exact ⟨by rw [hP'.wr, hw'], this.1, this.2⟩
    refine wpW K_X12_people [146] 20 ?_
    refine ⟨fun _ => at146, fun hmo => ⟨_, ev_fine _ τ hP.wr, ?_⟩⟩
    rw [bI_ne] at hmo
    rintro v τ' ⟨h9, rfl⟩
    obtain rfl := h9.symm
    refine ⟨fun _ => at146, fun y => ?_⟩
    rw [bI_ne, decide_eq_true_eq] at y
    rcases hor with z | ⟨-, -, -, z⟩
    · exact absurd (z.symm.trans y) hne
    · rw [z] at hmo; exact absurd hmo (by decide)
  have good : ∀ τ i, FM [57] jT σ τ → gI τ 52 4 = 0 → PR τ 55 A.X.1 34 (cs34 A.X) (5 * i + 4) (-1) → A.X.1 = 5 * i + 4 → fN A.F + i < 7 → pplW (fN A.F) A.X.1 A.X.2 = none → (∀ j, j < i + 1 → gA τ 57 (3 * j) = digS (A.X.2 (5 * j)) ∧ gA τ 57 (3 * j + 1) = digS (A.X.2 (5 * j + 1)) ∧ gA τ 57 (3 * j + 2) = 10 * digS (A.X.2 (5 * j + 2)) + digS (A.X.2 (5 * j + 3))) → WW M_X12_people (k + 4) (fun w τ => w = some (.int C.1) ∧ MV τ C.2 ∧ Fr lM σ0 τ) 24 [some (.ref 52), some (.int (nI (i + 1))), some (.int (bI false)), none] [] τ := by
    intro τ i f h4 hP hti hNi hw hco
    have hL : (A.X.1 + 1) / 5 = i + 1 := by omega
    rw [peopleC, hw] at hC
    simp only at hC
    rw [if_neg t0, hL] at hC
    refine wpW K_X12_people [160] 20 ?_
    refine ⟨fun _ => ⟨_, ev_wasRight _ τ hP, ?_⟩, fun y => absurd rfl y⟩
    rintro v τ1 ⟨rfl, hP', f'⟩
    rw [decide_eq_true (show (-1 : Int32) = -1 ∧ A.X.1 ≤ 5 * i + 4 from ⟨rfl, by omega⟩)]
    refine ⟨fun _ => ?_, fun y => absurd y (by decide)⟩
    have g1 : FM [57] jT σ τ1 := f.tr (f'.up _ _ (by decide) (by decide))
    have g4 : gI τ1 52 4 = 0 := (f'.i 4 (by decide)).trans h4
    have gco : ∀ j, j < i + 1 → gA τ1 57 (3 * j) = digS (A.X.2 (5 * j)) ∧ gA τ1 57 (3 * j + 1) = digS (A.X.2 (5 * j + 1)) ∧ gA τ1 57 (3 * j + 2) = 10 * digS (A.X.2 (5 * j + 2)) + digS (A.X.2 (5 * j + 3)) := fun j hj => by rw [f'.a 57 (by decide)]; exact hco j hj
    have e53 : mF τ1 53 = A.F := (mF_fr g1 (by decide) (by decide) (by decide)).trans hb.F
    show WW _ _ _ 160 [some (.ref 52), some (.int (nI (i + 1))), some (.int (bI false)), none] [] τ1
    refine wpW K_X12_people [162] 20 ?_
    show WW _ _ _ 162 [some (.ref 52), some (.int (nI (i + 1))), some (.int (bI false)), some (.int (nI 0))] [] τ1
    refine loopI (α := Sto) 162 (fun j _ => [some (.ref 52), some (.int (nI (i + 1))), some (.int (bI false)), some (.int (nI j))]) (fun a => a) (fun j a => FM [53, 54, 57] (1 :: jT) σ a ∧ gI a 52 1 = nI (fN A.F + j) ∧ mF a 53 = pplF A.X.2 A.F j ∧ fOK (pplF A.X.2 A.F j) ∧ gI a 52 4 = 0 ∧ gA a 57 = gA τ1 57) (i + 1) ?_ ?_ 0 τ1 (Nat.zero_le _) ⟨g1.up _ _ (by decide) (by decide), hn1 τ1 g1, e53, hb.ok, g4, rfl⟩
    · rintro j a hj ⟨a1, a2, a3, a4, a5, a6⟩ go
      obtain ⟨c1, c2, c3⟩ := gco j hj
      rw [← a6] at c1 c2 c3
      have hpn := ppl_n A.X.2 A.F j
      have i0 : (3 : Int32) * nI j = nI (3 * j) := by rw [show (3 : Int32) = nI 3 from rfl, mul_nI]
      have i1 : (3 : Int32) * nI j + 1 = nI (3 * j + 1) := by rw [i0, nI_1]
      have i2 : (3 : Int32) * nI j + 2 = nI (3 * j + 2) := by rw [i0]; exact add_nI (3 * j) 2
      have v0 : vp_in ((3 : Int32) * nI j) 21 := by rw [i0]; exact inN (by omega) (by omega)
      have v1 : vp_in ((3 : Int32) * nI j + 1) 21 := by rw [i1]; exact inN (by omega) (by omega)
      have v2 : vp_in ((3 : Int32) * nI j + 2) 21 := by rw [i2]; exact inN (by omega) (by omega)
      have w0 : vp_in (gI a 52 1) 30 := by rw [a2]; exact i30 (by omega)
      have w1 : vp_in (gI a 52 1) 7 := by rw [a2]; exact in7 (by omega)
      have w2 : vp_in (7 + gI a 52 1) 30 := by rw [a2]; exact i7_30 (by omega)
      have w3 : vp_in (14 + gI a 52 1) 30 := by rw [a2]; exact i14_30 (by omega)
      have w4 : vp_in (21 + gI a 52 1) 30 := by rw [a2]; exact i21_30 (by omega)
      obtain ⟨d0, d01, d02⟩ := dig_in (A.X.2 (5 * j))
      obtain ⟨d1, d11, d12⟩ := dig_in (A.X.2 (5 * j + 1))
      obtain ⟨d2, d21, d22⟩ := dig_in (A.X.2 (5 * j + 2))
      obtain ⟨d3, d31, d32⟩ := dig_in (A.X.2 (5 * j + 3))
      have hst : pplF A.X.2 A.F (j + 1) = addF (pplF A.X.2 A.F j) (digS (A.X.2 (5 * j))) (digS (A.X.2 (5 * j + 1))) (10 * digS (A.X.2 (5 * j + 2)) + digS (A.X.2 (5 * j + 3))) := rfl
      refine wpW K_X12_people [162] 80 ?_
      refine ⟨fun e => ?_, fun _ => ⟨v0, w0, v1, w1, v2, w2, w3, w4, ?_⟩⟩
      · rw [le_of_nI (by omega) (by omega)] at e; omega
      refine go _ _ _ (by rw [← nI_1 j]; rfl) rfl ⟨(((((a1.sA (by decide)).sA (by decide)).sA (by decide)).sA (by decide)).sA (by decide)).sI (by decide), ?_, ?_, ?_, a5, a6⟩
      · show gI a 52 1 + 1 = _
        rw [a2, nI_1]
        rfl
      · show mG (gI a 52 1 + 1).toNatClampNeg (r7 (upd (gA a 54) (gI a 52 1).toNatClampNeg (gA a 57 ((3 : Int32) * nI j + 1).toNatClampNeg))) (upd (upd (upd (upd (gA a 53) (gI a 52 1).toNatClampNeg (gA a 57 ((3 : Int32) * nI j).toNatClampNeg)) (7 + gI a 52 1).toNatClampNeg (gA a 57 ((3 : Int32) * nI j + 2).toNatClampNeg)) (14 + gI a 52 1).toNatClampNeg (gI a 52 1)) (21 + gI a 52 1).toNatClampNeg 0) = _
        rw [i1, i2, i0, nI_clamp (by omega), nI_clamp (by omega), nI_clamp (by omega), c1, c2, c3, hst, ← a3]
        have hmf : mF a 53 = mG (fN A.F + j) (r7 (gA a 54)) (gA a 53) := by unfold mF; rw [a2, nI_clamp (by omega)]
        rw [hmf, a2, nI_1, nI_clamp (by omega), nI_clamp (by omega), c7 (by omega), c14 (by omega), c21 (by omega)]
        exact mF_add (by omega) _ _ _ _ _
      · rw [hst, d02, d12, d22, d32, show (10 : Int32) = nI 10 from rfl, mul_nI, add_nI]
        exact fok_add a4 (by omega) d01 d11 (by omega)
    · rintro a ⟨a1, a2, a3, a4, a5, a6⟩
      have hpn := ppl_n A.X.2 A.F (i + 1)
      refine wpW K_X12_people [] 40 ?_
      refine ⟨fun _ => ?_, fun e => absurd (Int32.le_refl _) e⟩
      have ff : FM [53, 54, 57] [1, 4, 8, 9, 10, 11, 12, 17, 20, 43] σ (sI (sI a 52 20 0) 52 43 (gI a 52 43 + 1)) := ((a1.up [53, 54, 57] [1, 4, 8, 9, 10, 11, 12, 17, 20, 43] (by decide) (by decide)).sI (by decide)).sI (by decide)
      obtain ⟨e3, r3⟩ := rw_fr ff (by decide) (by decide)
      rw [← hC]
      refine ⟨rfl, ⟨?_, r3 hv.2.1, e3.trans hv.2.2⟩, f0.tr (ff.fr (by decide))⟩
      refine hb.gen (B := (((A.wX (cutX A.X 0)).wF (pplF A.X.2 A.F (i + 1))).wU []).wK (fun _ => none)) ff ⟨?_, a3, a4⟩ (mv_ruleX hb ff a5) ⟨rfl, Nat.zero_le _, fun j hj => absurd hj (Nat.not_lt_zero _)⟩ ?_ (hb.h.go ff (by decide) (by decide) (by decide)) (hb.s.go ff (by decide) (by decide) (by decide)) rfl (by decide) (by decide)
      · show gI a 52 1 = nI (fN (pplF A.X.2 A.F (i + 1)))
        rw [hpn]; exact a2
      · obtain ⟨m, m1, m2, m3, m4⟩ := hb.k
        have g43 : gI a 52 43 = nI m := (a1.i 43 (by decide)).trans m1
        refine ⟨m + 1, ?_, ?_, fun x hx => ?_, fun _ _ => rfl⟩
        · show gI a 52 43 + 1 = _
          rw [g43, nI_1]
        · show m + 1 ≤ fN (pplF A.X.2 A.F (i + 1))
          rw [hpn]; omega
        · obtain ⟨k1, ⟨c, k2, k3⟩, -⟩ := m3 x hx
          have g81 : gA (sI (sI a 52 20 0) 52 43 (gI (sI a 52 20 0) 52 43 + 1)) 81 = gA σ 81 := ff.a 81 (by decide)
          have g82 : gA (sI (sI a 52 20 0) 52 43 (gI (sI a 52 20 0) 52 43 + 1)) 82 = gA σ 82 := ff.a 82 (by decide)
          rw [g81, g82]
          refine ⟨k1, ⟨c, by omega, k3⟩, ?_⟩
          show none = _
          rw [if_neg]
          rintro ⟨-, z⟩
          rw [k3, eq_of_nI (by omega) (by omega)] at z
          omega
  refine wpW K_X12_people [24] 20 ?_
  show WW _ _ _ 24 [some (.ref 52), some (.int (nI 0)), some (.int (bI true)), none] [] σ1
  refine loopI (α := Sto) 24 (fun i _ => [some (.ref 52), some (.int (nI i)), some (.int (bI true)), none]) (fun a => a) (fun i a => PH A σ i a) 8 ?_ ?_ 0 σ1 (Nat.zero_le _) ⟨f1.up _ _ (by decide) (by decide), hP1, h41, by omega, fun q hq => by omega, by omega, fun j hj => by omega⟩
  · rintro i τ hi ⟨f, hP, h4, hN, hst, hM, hco⟩ go
    -- behind a line
    have at133 : ∀ υ, FM [57] jT σ υ → gI υ 52 4 = 0 → (∃ e p, PR υ 55 A.X.1 34 (cs34 A.X) p (nI e) ∧ e ≤ 80 ∧ pplW (fN A.F) A.X.1 A.X.2 = some e) ∨ (PR υ 55 A.X.1 34 (cs34 A.X) (5 * i + 4) (-1) ∧ fN A.F + i < 7 ∧ (∀ q, q < 5 * i + 4 → stands (fN A.F) A.X.2 q = true) ∧ 5 * i + 4 ≤ min A.X.1 34 ∧ ∀ j, j < i + 1 → gA υ 57 (3 * j) = digS (A.X.2 (5 * j)) ∧ gA υ 57 (3 * j + 1) = digS (A.X.2 (5 * j + 1)) ∧ gA υ 57 (3 * j + 2) = 10 * digS (A.X.2 (5 * j + 2)) + digS (A.X.2 (5 * j + 3))) → WW M_X12_people (k + 4) (fun w τ => w = some (.int C.1) ∧ MV τ C.2 ∧ Fr lM σ0 τ) 133 [some (.ref 52), some (.int (nI i)), some (.int (bI true)), none] [] υ := by
      intro υ fu h4u hor
      rcases hor with ⟨e, p, hPe, he, hw⟩ | ⟨hPk, hN7, hsk, hMk, hck⟩
      · have hne := nI_nm1 (e := e) (by omega)
        refine wpW K_X12_people [24] 20 ?_
        refine ⟨_, ev_passes _ υ hPe 59 (by decide), ?_⟩
        rintro v υ' ⟨rfl, hP', f'⟩
        rw [if_neg (fun z => hne z.1)] at hP'
        have := bad υ' (i + 1) (decide (nI e = -1 ∧ cs34 A.X p = 59)) e p (nI e) (fu.tr (f'.up _ _ (by decide) (by decide))) ((f'.i 4 (by decide)).trans h4u) hP' hw he (Or.inl rfl)
        rw [← nI_1 i] at this
        exact this
      · refine wpW K_X12_people [24] 20 ?_
        refine ⟨_, ev_passes _ υ hPk 59 (by decide), ?_⟩
        rintro v υ' ⟨rfl, hP', f'⟩
        have fu' : FM [57] jT σ υ' := fu.tr (f'.up _ _ (by decide) (by decide))
        have h4' : gI υ' 52 4 = 0 := (f'.i 4 (by decide)).trans h4u
        by_cases c59 : cs34 A.X (5 * i + 4) = 59
        · rw [if_pos ⟨rfl, c59⟩] at hP'
          obtain ⟨q1, q2⟩ := cs34_in hxe (q := 5 * i + 4) (by rw [c59]; decide)
          refine go υ' _ _ ?_ rfl ⟨fu', hP', h4', by omega, fun q hq => ?_, by omega, fun j hj => by rw [f'.a 57 (by decide)]; exact hck j hj⟩
          · rw [decide_eq_true ⟨rfl, c59⟩, ← nI_1 i]
            rfl
          · by_cases c : q = 5 * i + 4
            · unfold stands
              rw [if_pos (by omega), c, ← q2]
              exact decide_eq_true c59
            · exact hsk q (by omega)
        · rw [if_neg (fun z => c59 z.2)] at hP'
          rw [decide_eq_false (fun z => c59 z.2)]
          by_cases ct : 5 * i + 4 < A.X.1
          · have hw : pplW (fN A.F) A.X.1 A.X.2 = some (5 * i + 4) := by
              refine ppl_bad hsk hMk (fun hlt => ?_) (fun he => Or.inl (by omega))
              unfold stands
              rw [if_pos (by omega)]
              refine decide_eq_false (fun z => c59 ?_)
              rw [cs34_lt (by omega), z]
            have := bad υ' (i + 1) false (5 * i + 4) (5 * i + 4) (-1) fu' h4' hP' hw (by omega) (Or.inr ⟨rfl, rfl, ct, rfl⟩)
            rw [← nI_1 i] at this
            exact this
          · have hte : A.X.1 = 5 * i + 4 := by omega
            have hw : pplW (fN A.F) A.X.1 A.X.2 = none := ppl_good (fun q hq => hsk q (by omega)) (by omega) (by omega)
            have := good υ' i fu' h4' hP' hte hN7 hw (fun j hj => by rw [f'.a 57 (by decide)]; exact hck j hj)
            rw [← nI_1 i] at this
            exact this
    have hL0 : LnS (cs34 A.X) A.X.1 (5 * i) 0 τ := Or.inl ⟨hP, fun q a b => by omega⟩
    refine wpW K_X12_people [57, 133] 20 ?_
    refine ⟨fun e => absurd e (by decide), fun _ => ⟨_, ev_fine _ τ hP.wr, ?_⟩⟩
    rintro v τ' ⟨h9, rfl⟩
    obtain rfl := h9.symm
    refine ⟨fun e => absurd e (by decide), fun _ => ⟨fun e => ?_, fun e => ⟨_, ev_fault _ τ hP _, ?_⟩⟩⟩
    rotate_left
    · have e7 : fN A.F + i = 7 := by
        have : nI (fN A.F + i) = nI 7 := by rw [← add_nI, ← hn1 τ f]; exact e
        rw [eq_of_nI (by omega) (by omega)] at this
        exact this
      rintro v υ ⟨rfl, hP', f'⟩
      rw [if_pos rfl, hP.at] at hP'
      refine at133 υ (f.tr (f'.up _ _ (by decide) (by decide))) ((f'.i 4 (by decide)).trans h4) (Or.inl ⟨5 * i, 5 * i, hP', by omega, ?_⟩)
      refine ppl_bad hst hM (fun _ => ?_) (fun he => ?_)
      · unfold stands
        rw [if_neg (by omega), decide_eq_false (show ¬ fN A.F + 5 * i / 5 < 7 by omega)]
        rfl
      · by_cases c : 34 < A.X.1
        · exact Or.inl c
        · exact Or.inr (by omega)
    have e7 : fN A.F + i < 7 := by
      have : ¬ nI (fN A.F + i) = nI 7 := fun z => e (by rw [hn1 τ f, add_nI]; exact z)
      rw [eq_of_nI (by omega) (by omega)] at this
      omega
    have i0 : (3 : Int32) * nI i = nI (3 * i) := by rw [show (3 : Int32) = nI 3 from rfl, mul_nI]
    have i1 : (3 : Int32) * nI i + 1 = nI (3 * i + 1) := by rw [i0, nI_1]
    have i2 : (3 : Int32) * nI i + 2 = nI (3 * i + 2) := by rw [i0]; exact add_nI (3 * i) 2
    have v0 : vp_in ((3 : Int32) * nI i) 21 := by rw [i0]; exact inN (by omega) (by omega)
    have v1 : vp_in ((3 : Int32) * nI i + 1) 21 := by rw [i1]; exact inN (by omega) (by omega)
    have v2 : vp_in ((3 : Int32) * nI i + 2) 21 := by rw [i2]; exact inN (by omega) (by omega)
    have n0 : ((3 : Int32) * nI i).toNatClampNeg = 3 * i := by rw [i0, nI_clamp (by omega)]
    have n1 : ((3 : Int32) * nI i + 1).toNatClampNeg = 3 * i + 1 := by rw [i1, nI_clamp (by omega)]
    have n2 : ((3 : Int32) * nI i + 2).toNatClampNeg = 3 * i + 2 := by rw [i2, nI_clamp (by omega)]
    show WW _ _ _ 57 [some (.ref 52), some (.int (nI i)), some (.int (bI true)), none] [] τ
    refine wpW K_X12_people [73] 30 ?_
    refine ⟨_, ev_one4 _ hL0, ?_⟩
    rintro v τ1 ⟨x0, rfl, hx0, hL1, f1⟩
    refine ⟨v0, ?_⟩
    show WW _ _ _ 73 [some (.ref 52), some (.int (nI i)), some (.int (bI true)), none] [] (sA τ1 57 (upd (gA τ1 57) ((3 : Int32) * nI i).toNatClampNeg x0))
    rw [n0]
    have hL1' := hL1.go (show FM [57] [] τ1 (sA τ1 57 (upd (gA τ1 57) (3 * i) x0)) from FM.rf.sA (by decide))
    have q1 : FM [57] jT τ (sA τ1 57 (upd (gA τ1 57) (3 * i) x0)) := (f1.up _ _ (by decide) (by decide)).sA (by decide)
    have r1 : gA (sA τ1 57 (upd (gA τ1 57) (3 * i) x0)) 57 = upd (gA τ 57) (3 * i) x0 := by rw [gA_eq, f1.a 57 (by decide)]
    have s1 : gI (sA τ1 57 (upd (gA τ1 57) (3 * i) x0)) 52 4 = 0 := (f1.i 4 (by decide)).trans h4
    generalize sA τ1 57 (upd (gA τ1 57) (3 * i) x0) = υ1 at hL1' q1 r1 s1 ⊢
    refine wpW K_X12_people [91] 30 ?_
    refine ⟨_, ev_one4 _ hL1', ?_⟩
    rintro v τ2 ⟨x1, rfl, hx1, hL2, f2⟩
    refine ⟨v1, ?_⟩
    show WW _ _ _ 91 [some (.ref 52), some (.int (nI i)), some (.int (bI true)), none] [] (sA τ2 57 (upd (gA τ2 57) ((3 : Int32) * nI i + 1).toNatClampNeg x1))
    rw [n1]
    have hL2' := hL2.go (show FM [57] [] τ2 (sA τ2 57 (upd (gA τ2 57) (3 * i + 1) x1)) from FM.rf.sA (by decide))
    have q2 : FM [57] jT τ (sA τ2 57 (upd (gA τ2 57) (3 * i + 1) x1)) := (q1.tr (f2.up _ _ (by decide) (by decide))).sA (by decide)
    have r2 : gA (sA τ2 57 (upd (gA τ2 57) (3 * i + 1) x1)) 57 = upd (upd (gA τ 57) (3 * i) x0) (3 * i + 1) x1 := by rw [gA_eq, f2.a 57 (by decide), r1]
    have s2 : gI (sA τ2 57 (upd (gA τ2 57) (3 * i + 1) x1)) 52 4 = 0 := (f2.i 4 (by decide)).trans s1
    generalize sA τ2 57 (upd (gA τ2 57) (3 * i + 1) x1) = υ2 at hL2' q2 r2 s2 ⊢
    refine wpW K_X12_people [112] 30 ?_
    refine ⟨_, ev_one4 _ hL2', ?_⟩
    rintro v τ3 ⟨x2, rfl, hx2, hL3, f3⟩
    refine ⟨v2, ?_⟩
    show WW _ _ _ 112 [some (.ref 52), some (.int (nI i)), some (.int (bI true)), none] [] (sA τ3 57 (upd (gA τ3 57) ((3 : Int32) * nI i + 2).toNatClampNeg (10 * x2)))
    rw [n2]
    have hL3' := hL3.go (show FM [57] [] τ3 (sA τ3 57 (upd (gA τ3 57) (3 * i + 2) (10 * x2))) from FM.rf.sA (by decide))
    have q3 : FM [57] jT τ (sA τ3 57 (upd (gA τ3 57) (3 * i + 2) (10 * x2))) := (q2.tr (f3.up _ _ (by decide) (by decide))).sA (by decide)
    have r3 : gA (sA τ3 57 (upd (gA τ3 57) (3 * i + 2) (10 * x2))) 57 = upd (upd (upd (gA τ 57) (3 * i) x0) (3 * i + 1) x1) (3 * i + 2) (10 * x2) := by rw [gA_eq, f3.a 57 (by decide), r2]
    have s3 : gI (sA τ3 57 (upd (gA τ3 57) (3 * i + 2) (10 * x2))) 52 4 = 0 := (f3.i 4 (by decide)).trans s2
    generalize sA τ3 57 (upd (gA τ3 57) (3 * i + 2) (10 * x2)) = υ3 at hL3' q3 r3 s3 ⊢
    refine wpW K_X12_people [133] 30 ?_
    refine ⟨v2, _, ev_one4 _ hL3', ?_⟩
    rintro v τ4 ⟨x3, rfl, hx3, hL4, f4⟩
    refine ⟨v2, ?_⟩
    show WW _ _ _ 133 [some (.ref 52), some (.int (nI i)), some (.int (bI true)), none] [] (sA τ4 57 (upd (gA τ4 57) ((3 : Int32) * nI i + 2).toNatClampNeg (gA υ3 57 ((3 : Int32) * nI i + 2).toNatClampNeg + x3)))
    have g2 : gA υ3 57 (3 * i + 2) = 10 * x2 := by rw [r3, pk_us]
    rw [n2, g2]
    have hL4' := hL4.go (show FM [57] [] τ4 (sA τ4 57 (upd (gA τ4 57) (3 * i + 2) (10 * x2 + x3))) from FM.rf.sA (by decide))
    have q4 : FM [57] jT τ (sA τ4 57 (upd (gA τ4 57) (3 * i + 2) (10 * x2 + x3))) := (q3.tr (f4.up _ _ (by decide) (by decide))).sA (by decide)
    have r4 : gA (sA τ4 57 (upd (gA τ4 57) (3 * i + 2) (10 * x2 + x3))) 57 = upd (upd (upd (upd (gA τ 57) (3 * i) x0) (3 * i + 1) x1) (3 * i + 2) (10 * x2)) (3 * i + 2) (10 * x2 + x3) := by rw [gA_eq, f4.a 57 (by decide), r3]
    have s4 : gI (sA τ4 57 (upd (gA τ4 57) (3 * i + 2) (10 * x2 + x3))) 52 4 = 0 := (f4.i 4 (by decide)).trans s3
    generalize sA τ4 57 (upd (gA τ4 57) (3 * i + 2) (10 * x2 + x3)) = υ4 at hL4' q4 r4 s4 ⊢
    refine at133 υ4 (f.tr q4) s4 ?_
    rcases hL4' with ⟨hPk, hdg⟩ | ⟨e, e1, e2, hPe, hdg, hnd⟩
    · refine Or.inr ⟨hPk, e7, fun q hq => ?_, ?_, fun j hj => ?_⟩
      · by_cases c : q < 5 * i
        · exact hst q c
        · exact (stand_dg hxe e7 (by omega) hq (hdg q (by omega) hq)).1
      · have := (stand_dg hxe e7 (q := 5 * i + 3) (by omega) (by omega) (hdg _ (by omega) (by omega))).2
        omega
      · rw [r4]
        by_cases c : j = i
        · subst c
          rw [pk_un (by omega), pk_un (by omega), pk_un (by omega), pk_us, pk_un (by omega), pk_un (by omega), pk_us, pk_us, hx0 (fun q a b => hdg q a (by omega)), hx1 (fun q a b => hdg q a (by omega)), hx2 (fun q a b => hdg q a (by omega)), hx3 (fun q a b => hdg q a (by omega))]
          have m3 := (stand_dg hxe e7 (q := 5 * j + 3) (by omega) (by omega) (hdg _ (by omega) (by omega))).2
          rw [Nat.add_zero, cs34_lt (by omega), cs34_lt (by omega), cs34_lt (by omega), cs34_lt (by omega)]
          exact ⟨rfl, rfl, rfl⟩
        · rw [pk_un (by omega), pk_un (by omega), pk_un (by omega), pk_un (by omega), pk_un (by omega), pk_un (by omega), pk_un (by omega), pk_un (by omega), pk_un (by omega), pk_un (by omega), pk_un (by omega), pk_un (by omega)]
          exact hco j (by omega)
    · refine Or.inl ⟨e, e, hPe, by have := hPe.p80; omega, ?_⟩
      have hem : e ≤ min A.X.1 34 := by
        by_cases c : e = 5 * i
        · omega
        · have := (stand_dg hxe e7 (q := e - 1) (by omega) (by omega) (hdg _ (by omega) (by omega))).2
          omega
      refine ppl_bad (fun q hq => ?_) hem (fun hlt => ?_) (fun he => ?_)
      · by_cases c : q < 5 * i
        · exact hst q c
        · exact (stand_dg hxe e7 (by omega) (by omega) (hdg q (by omega) hq)).1
      · unfold stands
        rw [if_neg (by omega), ← cs34_lt (X := A.X) (q := e) (by omega), hnd, Bool.and_false]
      · by_cases c : 34 < A.X.1
        · exact Or.inl c
        · exact Or.inr (by omega)
  · rintro τ ⟨-, -, -, hN, -⟩
    omega
