/-! the model's call: rings -/
def On (h : Nat → Nat) (v w : Nat) : Prop := ∃ p, Cyc h v p ∧ ∃ i, i < p ∧ itH h v i = w
theorem on_of {h : Nat → Nat} {v w p i : Nat} (hc : Cyc h v p) (e : itH h v i = w) : On h v w := ⟨p, hc, i % p, Nat.mod_lt _ hc.1, (cyc_md hc i).symm.trans e⟩
theorem on_sym {h : Nat → Nat} {v w : Nat} (o : On h v w) : On h w v := by
  obtain ⟨p, hc, i, -, rfl⟩ := o
  have hle : i ≤ p * i := Nat.le_mul_of_pos_left i hc.1
  exact on_of (cyc_rot hc i) (i := p * i - i) (by rw [← it_add, show i + (p * i - i) = p * i by omega, cyc_mul hc])
theorem on_tr {h : Nat → Nat} {v w u : Nat} (o : On h v w) (o' : On h w u) : On h v u := by
  obtain ⟨p, hc, i, -, rfl⟩ := o
  obtain ⟨p', -, j, -, rfl⟩ := o'
  exact on_of hc (i := i + j) (it_add h v i j)
theorem on_bit {h : Nat → Nat} {n v p : Nat} (h7 : n ≤ 7) (hh : ∀ a, a < n → h a < n) (hv : v < n) (hc : Cyc h v p) (w : Nat) (hw : w < 7) : mkH h v p / 2 ^ w % 2 = 1 ↔ On h v w := by
  rw [mk_bit h7 hh hv w hw]
  constructor
  · rintro ⟨j, -, e⟩; exact on_of hc e
  · rintro ⟨p', -, i, -, e⟩
    exact ⟨i % p, Nat.mod_lt _ hc.1, (cyc_md hc i).symm.trans e⟩
theorem or_bit3 (a b v : Nat) : (a ||| b) / 2 ^ v % 2 = 1 ↔ a / 2 ^ v % 2 = 1 ∨ b / 2 ^ v % 2 = 1 := by
  have h := Nat.testBit_or a b v
  rw [Nat.testBit_eq_decide_div_mod_eq, Nat.testBit_eq_decide_div_mod_eq, Nat.testBit_eq_decide_div_mod_eq, Bool.eq_iff_iff] at h
  simpa using h
theorem nt_iff : ∀ m, m < 128 → 0 < m → ∀ q, q < 7 → (ntN m = q ↔ m / 2 ^ q % 2 = 1 ∧ ∀ v, v < q → m / 2 ^ v % 2 = 0) := by decide +kernel
theorem ev_ringOf (k0 : Nat) (σ : Sto) (ho : mOK σ 53) (q k j : Nat) (hq : q < fN (mF σ 53)) (hl : Lead (hoN (mF σ 53)) q k j) (hk : k ≤ 7) : EvM (k0 + 1) M_X12_ringOf [.ref 52, .int (nI q)] σ (fun v τ => v = some (.int (nI (mkH (hoN (mF σ 53)) (itH (hoN (mF σ 53)) q k) (k - j)))) ∧ FM [57, 67] [] σ τ) := by
  have hgo := ev_goLead k0 σ ho q k j hq hl hk
  have rHo : ∀ τ, FM [57, 67] [] σ τ → ∀ i, i < 7 → gA τ 53 (14 + nI i).toNatClampNeg = fHo (mF σ 53) i := fun τ f i hi => by
    rw [f.a 53 (by decide)]
    exact (mF_rd σ 53).2.2.2.1 i hi
  obtain ⟨hn, hF⟩ := id ho
  have h7 := hF.1
  generalize mF σ 53 = F at *
  have hp := pow7 h7
  have hh : ∀ a, a < fN F → hoN F a < fN F := fun a ha => (fs_ho hF ha).1
  have hc := lead_cyc hl
  have hr := it_lt hh hq k
  generalize itH (hoN F) q k = r at *
  generalize k - j = p at *
  refine EvM.of mk_X12_ringOf (Nat.le_of_ble_eq_true rfl) ?_
  refine wpW K_X12_ringOf [8] 20 ?_
  refine ⟨_, hgo, ?_⟩
  rintro v τ ⟨rfl, g1, -, f⟩
  show WW _ _ _ 8 [some (.ref 52), some (.int (nI q)), some (.int (nI (mkH (hoN F) r 0))), none] [] τ
  refine wpW K_X12_ringOf [15] 20 ?_
  refine ⟨inN (i := 0) (n := 21) (by decide) (by decide), ?_⟩
  show WW _ _ _ 15 [some (.ref 52), some (.int (nI q)), some (.int (nI (mkH (hoN F) r 0))), some (.int (gA τ 57 0))] [] τ
  rw [g1]
  refine loopI (α := Unit) 15 (fun i _ => [some (.ref 52), some (.int (nI q)), some (.int (nI (mkH (hoN F) r i))), some (.int (nI (itH (hoN F) r i)))]) (fun _ => τ) (fun i _ => True) p ?_ ?_ 0 () (Nat.zero_le _) trivial
  · rintro i - hi - go
    have hit := it_lt hh hr i
    have hml := mk_lt h7 hh hr i
    obtain ⟨o1, o2⟩ := fs_ho hF hit
    have hnb : bit1 (nI (mkH (hoN F) r i)) (itH (hoN F) r i) = false := by
      rw [Bool.eq_false_iff]
      intro e
      rw [b1_iff _ (by omega) _ (by omega), mk_bit h7 hh hr _ (by omega)] at e
      obtain ⟨j, j1, j2⟩ := e
      exact hc.2.2 j i j1 hi j2
    refine wpW K_X12_ringOf [15] 40 ?_
    refine ⟨_, ev_mhas _ _ _ _, ?_⟩
    rintro v τ' ⟨h9, rfl⟩
    obtain rfl := h9.symm
    rw [hnb]
    refine ⟨fun e => absurd rfl e, fun _ => ⟨i14_30 (by omega), ?_⟩⟩
    refine go () _ _ ?_ rfl trivial
    have e1 := rHo τ f (itH (hoN F) r i) (by omega)
    rw [o2] at e1
    have e2 := (or_nI _ (show mkH (hoN F) r i < 128 by omega) _ (show itH (hoN F) r i < 7 by omega)).1
    show _ = [some (Value.ref 52), some (Value.int (nI q)), some (Value.int (nI (mkH (hoN F) r i ||| 2 ^ itH (hoN F) r i))), some (Value.int (nI (hoN F (itH (hoN F) r i))))]
    rw [← e1, ← e2]
    rfl
  · rintro - -
    have hml := mk_lt h7 hh hr p
    have hyb : bit1 (nI (mkH (hoN F) r p)) r = true := by
      rw [b1_iff _ (by omega) _ (by omega), mk_bit h7 hh hr _ (by omega)]
      exact ⟨0, hc.1, rfl⟩
    rw [hc.2.1]
    refine wpW K_X12_ringOf [] 40 ?_
    refine ⟨_, ev_mhas _ _ _ _, ?_⟩
    rintro v τ' ⟨h9, rfl⟩
    obtain rfl := h9.symm
    rw [hyb]
    exact ⟨fun _ => ⟨rfl, f⟩, fun e => absurd e (by decide)⟩
def RI (F : FS) (q c s lg : Nat) : Prop := s < 128 ∧ lg < 128 ∧ (∀ v, v < fN F → (s / 2 ^ v % 2 = 1 ↔ ∃ q', q' < q ∧ On (hoN F) q' v)) ∧ c = (ringsS F q).1 ∧ (ringsS F q).2.1 = bcS (nI lg) ∧ (c = 0 → lg = 0 ∧ ∀ q', q' < q → ∀ w, ¬ On (hoN F) q' w) ∧ (0 < c → (ringsS F q).2.2 = ntS (nI lg))
theorem mc_rings (k : Nat) (A : AS) : MC (k + 3) M_X12_rings [] A (.int (ringsC A).1) (ringsC A).2 := by
  intro σ0 hv0
  refine EvM.of mk_X12_rings (Nat.le_of_ble_eq_true rfl) ?_
  refine wpW K_X12_rings [5] 10 ?_
  obtain ⟨hv, f0⟩ := mv_t0 hv0
  show WW _ _ _ 5 [some (.ref 52), none, none, none, none, none] _ (t0S σ0)
  generalize t0S σ0 = σ at hv f0 ⊢
  have hb := hv.1
  have h7 := hb.n7
  have hp := pow7 h7
  have hF := hb.ok.1
  have hh : ∀ a, a < fN A.F → hoN A.F a < fN A.F := fun a ha => (fs_ho hF ha).1
  refine wpW K_X12_rings [14] 20 ?_
  show WW _ _ _ 14 [some (.ref 52), some (.int (nI 0)), some (.int (nI 0)), some (.int (nI 0)), some (.int (nI 0)), none] [] σ
  have rI0 : RI A.F 0 0 0 0 := by
    refine ⟨by decide, by decide, fun v hv => ⟨fun e => ?_, fun ⟨q', h, _⟩ => by omega⟩, rfl, by show (0 : Int32) = _; decide, fun _ => ⟨rfl, fun q' h => by omega⟩, fun h => by omega⟩
    rw [Nat.zero_div] at e
    exact absurd e (by decide)
  refine loopI (α := Sto × (Nat × Nat × Nat) × Option Value) 14 (fun q a => [some (.ref 52), some (.int (nI a.2.1.1)), some (.int (nI a.2.1.2.1)), some (.int (nI a.2.1.2.2)), some (.int (nI q)), a.2.2]) (fun a => a.1) (fun q a => FM [57, 67] [] σ a.1 ∧ RI A.F q a.2.1.1 a.2.1.2.1 a.2.1.2.2) (fN A.F) ?_ ?_ 0 (σ, (0, 0, 0), none) (Nat.zero_le _) ⟨FM.rf, rI0⟩
  · rintro q ⟨τ, ⟨c, s, lg⟩, o⟩ hq ⟨f, i1, i2, i3, i4, i5, i6, i7⟩ go
    simp only at f i1 i2 i3 i4 i5 i6 i7 ⊢
    have hbt := hb.fr (f.up _ _ (by decide) (by decide))
    obtain ⟨kk, j, hl, hk7, -⟩ := ld_lead hF hq
    have hc := lead_cyc hl
    have hr := it_lt hh hq kk
    have hev := ev_ringOf (k + 1) τ hbt.mok q kk j (by rw [hbt.F]; exact hq) (by rw [hbt.F]; exact hl) hk7
    rw [hbt.F] at hev
    have hst : ringsS A.F (q + 1) = rgT A.F q (ringsS A.F q) := rfl
    have hcy : ∀ i, 1 ≤ i → itH (hoN A.F) q i = q → mkH (hoN A.F) (itH (hoN A.F) q kk) (kk - j) / 2 ^ q % 2 = 1 := by
      intro i hi e
      obtain ⟨d, e2⟩ := reach (k := kk) hi e
      rw [on_bit h7 hh hr hc q (by omega)]
      exact on_of hc e2
    have hmb : mkH (hoN A.F) (itH (hoN A.F) q kk) (kk - j) / 2 ^ q % 2 = 1 → Cyc (hoN A.F) q (kk - j) ∧ mkH (hoN A.F) q (kk - j) = mkH (hoN A.F) (itH (hoN A.F) q kk) (kk - j) := by
      intro e
      rw [mk_bit h7 hh hr q (by omega)] at e
      obtain ⟨i, -, e⟩ := e
      have a1 := cyc_rot hc i
      have a2 := cyc_mk h7 hh hr hc i
      rw [e] at a1 a2
      exact ⟨a1, a2⟩
    have hml := mk_lt h7 hh hr (kk - j)
    generalize mkH (hoN A.F) (itH (hoN A.F) q kk) (kk - j) = m at *
    have cle : c ≤ q := by rw [i4]; exact rings_le A.F q
    refine wpW K_X12_rings [14] 60 ?_
    refine ⟨fun e => ?_, fun _ => ⟨_, hev, ?_⟩⟩
    · rw [hbt.n, le_of_nI (by omega) (by omega)] at e; omega
    rintro v τ1 ⟨rfl, f1⟩
    refine ⟨_, ev_mhas _ _ _ _, ?_⟩
    rintro v τ' ⟨h9, rfl⟩
    obtain rfl := h9.symm
    refine ⟨fun e => ?_, fun e => ⟨_, ev_mhas _ _ _ _, ?_⟩⟩
    · rw [bI_eq, Bool.eq_false_iff, ne_eq, b1_iff _ (by omega) _ (by omega)] at e
      have hr0 : ringS A.F q = 0 := ring_0 (fun i h1 _ z => e (hcy i h1 z))
      have hno : ∀ w, ¬ On (hoN A.F) q w := fun w ⟨p, hp, _⟩ => e (hcy p hp.1 hp.2.1)
      have hrt : ringsS A.F (q + 1) = ringsS A.F q := by rw [hst, rgT, if_neg (fun z => z.1 hr0)]
      refine go (τ1, (c, s, lg), _) _ _ (by rw [← nI_1 q]; rfl) rfl ⟨f.tr f1, i1, i2, fun v hv => ?_, by rw [hrt]; exact i4, by rw [hrt]; exact i5, fun z => ⟨(i6 z).1, fun q' h w => ?_⟩, by rw [hrt]; exact i7⟩
      · rw [i3 v hv]
        constructor
        · rintro ⟨q', h1, h2⟩; exact ⟨q', by omega, h2⟩
        · rintro ⟨q', h1, h2⟩
          by_cases c : q' = q
          · subst c; exact absurd h2 (hno v)
          · exact ⟨q', by omega, h2⟩
      · by_cases c : q' = q
        · subst c; exact hno w
        · exact (i6 z).2 q' (by omega) w
    · rw [bI_ne, b1_iff _ (by omega) _ (by omega)] at e
      obtain ⟨cy, hmq⟩ := hmb e
      have hon : ∀ w, w < 7 → (m / 2 ^ w % 2 = 1 ↔ On (hoN A.F) q w) := fun w hw => by rw [← hmq]; exact on_bit h7 hh hq cy w hw
      obtain ⟨g1, g2, g3⟩ := ring_cyc hF hq cy
      rw [hmq] at g1 g3
      have hm0 : 0 < m := by
        rcases Nat.eq_zero_or_pos m with z | z
        · rw [z, Nat.zero_div] at e; exact absurd e (by decide)
        · exact z
      have hnz : ¬ ringS A.F q = 0 := by
        rw [g1, show (0 : Int32) = nI 0 from rfl, eq_of_nI (by omega) (by omega)]; omega
      have hnt : ntS (ringS A.F q) = nI q ↔ ∀ v, v < q → m / 2 ^ v % 2 = 0 := by
        rw [g1, nt_nI m (by omega) hm0, eq_of_nI (by unfold ntN; split <;> (try split) <;> (try split) <;> (try split) <;> (try split) <;> (try split) <;> omega) (by omega), nt_iff m (by omega) hm0 q (by omega)]
        exact ⟨fun z => z.2, fun z => ⟨e, z⟩⟩
      rintro v τ' ⟨h9, rfl⟩
      obtain rfl := h9.symm
      refine ⟨fun d => ?_, fun d => ?_⟩
      · rw [bI_eq, Bool.eq_false_iff, ne_eq, b1_iff _ (by omega) _ (by omega)] at d
        have hno : ∀ q', q' < q → ¬ On (hoN A.F) q' q := fun q' h o => d ((i3 q hq).mpr ⟨q', h, o⟩)
        have hnt' : ntS (ringS A.F q) = nI q := hnt.mpr (fun v hv => by
          have : ¬ m / 2 ^ v % 2 = 1 := fun z => hno v hv (on_sym ((hon v (by omega)).mp z))
          omega)
        have hrt : ringsS A.F (q + 1) = (c + 1, if bcS (nI m) ≤ bcS (nI lg) then (ringsS A.F q).2 else (bcS (nI m), nI q)) := by
          rw [hst, rgT, if_pos ⟨hnz, hnt'⟩, g1, i5, ← i4]
        have hse : ∀ v, v < fN A.F → ((s ||| m) / 2 ^ v % 2 = 1 ↔ ∃ q', q' < q + 1 ∧ On (hoN A.F) q' v) := by
          intro v hv
          rw [or_bit3, i3 v hv, hon v (by omega)]
          constructor
          · rintro (⟨q', h1, h2⟩ | h)
            · exact ⟨q', by omega, h2⟩
            · exact ⟨q, by omega, h⟩
          · rintro ⟨q', h1, h2⟩
            by_cases c : q' = q
            · subst c; exact Or.inr h2
            · exact Or.inl ⟨q', by omega, h2⟩
        have hsm : s ||| m < 128 := Nat.or_lt_two_pow (n := 7) i1 (by omega)
        refine ⟨_, ev_bc _ _ _, ?_⟩
        rintro v τ' ⟨h9, rfl⟩
        obtain rfl := h9.symm
        refine ⟨_, ev_bc _ _ _, ?_⟩
        rintro v τ' ⟨h9, rfl⟩
        obtain rfl := h9.symm
        refine ⟨fun y => ?_, fun y => ?_⟩
        · rw [if_pos y] at hrt
          have hc0 : ¬ c = 0 := fun z => by
            rw [(i6 z).1, bc_nI m (by omega), g3, bc_nI 0 (by omega), show pcN 0 = 0 by decide, le_of_nI (by omega) (by omega)] at y
            have := cy.1
            omega
          refine go (τ1, (c + 1, s ||| m, lg), some (.int (nI m))) _ _ ?_ rfl ⟨f.tr f1, hsm, i2, hse, by rw [hrt], by rw [hrt]; exact i5, fun z => absurd z (Nat.succ_ne_zero _), fun _ => by rw [hrt]; exact i7 (by omega)⟩
          simp only
          rw [← nI_1 q, ← nI_1 c, ← or_nI2 s i1 m (by omega)]
          rfl
        · rw [if_neg y] at hrt
          refine go (τ1, (c + 1, s ||| m, m), some (.int (nI m))) _ _ ?_ rfl ⟨f.tr f1, hsm, (by show m < 128; omega), hse, by rw [hrt], by rw [hrt], fun z => absurd z (Nat.succ_ne_zero _), fun _ => by rw [hrt, ← g1]; exact hnt'.symm⟩
          simp only
          rw [← nI_1 q, ← nI_1 c, ← or_nI2 s i1 m (by omega)]
          rfl
      · rw [bI_ne, b1_iff _ (by omega) _ (by omega)] at d
        obtain ⟨q', d1, d2⟩ := (i3 q hq).mp d
        have hnt' : ¬ ntS (ringS A.F q) = nI q := fun z => by
          have := hnt.mp z q' d1
          have h2 := (hon q' (by omega)).mpr (on_sym d2)
          omega
        have hrt : ringsS A.F (q + 1) = ringsS A.F q := by rw [hst, rgT, if_neg (fun z => hnt' z.2)]
        refine go (τ1, (c, s, lg), _) _ _ (by rw [← nI_1 q]; rfl) rfl ⟨f.tr f1, i1, i2, fun v hv => ?_, by rw [hrt]; exact i4, by rw [hrt]; exact i5, fun z => absurd d2 ((i6 z).2 q' d1 q), by rw [hrt]; exact i7⟩
        rw [i3 v hv]
        constructor
        · rintro ⟨u, h1, h2⟩; exact ⟨u, by omega, h2⟩
        · rintro ⟨u, h1, h2⟩
          by_cases c : u = q
          · subst c; exact ⟨q', d1, on_tr d2 h2⟩
          · exact ⟨u, by omega, h2⟩
  · rintro ⟨τ, ⟨c, s, lg⟩, o⟩ ⟨f, i1, i2, i3, i4, i5, i6, i7⟩
    simp only at f i1 i2 i3 i4 i5 i6 i7 ⊢
    have hbt := hb.fr (f.up _ _ (by decide) (by decide))
    have cle : c ≤ fN A.F := by rw [i4]; exact rings_le A.F (fN A.F)
    have hcn : c = 0 ↔ fN A.F = 0 := by
      constructor
      · intro z
        rcases Nat.eq_zero_or_pos (fN A.F) with y | y
        · exact y
        · obtain ⟨kk, j, hl, hk7, -⟩ := ld_lead hF y
          have hc := lead_cyc hl
          exact absurd (on_of hc (i := 0) rfl) ((i6 z).2 _ (it_lt hh y kk) _)
      · intro z; omega
    unfold ringsC
    rw [← i4]
    refine wpW K_X12_rings [91] 60 ?_
    refine ⟨fun _ => ?_, fun e => ?_⟩
    rotate_left
    · rw [hbt.n, le_of_nI (by omega) (by omega)] at e; omega
    obtain ⟨r1, r2⟩ := row_0 τ
    have f3 : FM [] [6] τ (sI τ 52 6 0) := FM.rf.sI (by decide)
    show WW _ _ _ 91 [some (.ref 52), some (.int (nI c)), some (.int (nI s)), some (.int (nI lg)), some (.int (nI (fN A.F))), o] [] (sI τ 52 6 0)
    generalize sI τ 52 6 0 = σ3 at r1 r2 f3 ⊢
    have n3 : gI σ3 52 1 = nI (fN A.F) := (f3.i 1 (by decide)).trans hbt.n
    have ff : FM lMs jMs σ σ3 := (f.up _ _ (by decide) (by decide)).tr (f3.up _ _ (by decide) (by decide))
    refine wpW K_X12_rings [] 60 ?_
    refine ⟨fun e => ?_, fun e => ⟨_, ev_bc _ _ _, ?_⟩⟩
    · rw [n3, show (0 : Int32) = nI 0 from rfl, le_of_nI (by omega) (by omega)] at e
      rw [if_pos (hcn.mpr (by omega))]
      have := mv_end hb ff r1 r2
      exact ⟨rfl, this.1, f0.tr this.2⟩
    · rw [n3, show (0 : Int32) = nI 0 from rfl, le_of_nI (by omega) (by omega)] at e
      have hc0 : ¬ c = 0 := fun z => e (by rw [hcn.mp z]; exact Nat.le_refl _)
      rw [if_neg hc0, i5, i7 (by omega)]
      rintro v τ' ⟨h9, rfl⟩
      obtain rfl := h9.symm
      refine ⟨_, ev_tellL _ r1 r2 (by simp) _, ?_⟩
      rintro v σ4 ⟨rfl, r4, e4, f4⟩
      refine ⟨_, ev_ntz _ _ _, ?_⟩
      rintro v τ' ⟨h9, rfl⟩
      obtain rfl := h9.symm
      refine ⟨_, ev_tellL _ r4 e4 (by simp) _, ?_⟩
      rintro v σ5 ⟨rfl, r5, e5, f5⟩
      have := mv_end hb (ff.tr ((f4.up _ _ (by decide) (by decide)).tr (f5.up _ _ (by decide) (by decide)))) r5 e5
      exact ⟨rfl, this.1, f0.tr this.2⟩
