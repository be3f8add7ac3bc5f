/-! the orders of saying back: the class's pruned search is the search through all -/
def nxC (ev : (Nat → Int32) → Int32) (F : FS) (w : Nat → Nat) (m came i : Nat) : Nat := if canS ev (cameF F w m came) (w i) (w i) then came ||| 2 ^ i else came
def exC (ev : (Nat → Int32) → Int32) (F : FS) (w : Nat → Nat) (m : Nat) (hf : Int32) : Nat → Nat → Nat → List Nat → Int32 × List Nat → Int32 × List Nat
  | 0, _, came, pre, st => if hf + bcS (nI came) ≤ st.1 then st else (hf + bcS (nI came), pre)
  | r + 1, had, came, pre, st => fo (fun i st => if had / 2 ^ i % 2 = 0 then exC ev F w m hf r (had ||| 2 ^ i) (nxC ev F w m came i) (pre ++ [w i]) st else st) st m
def LeC (ev : (Nat → Int32) → Int32) (F : FS) (w : Nat → Nat) (m : Nat) (hf : Int32) : Nat → Nat → Nat → Int32 → Prop
  | 0, _, came, x => hf + bcS (nI came) ≤ x
  | r + 1, had, came, x => ∀ i, i < m → had / 2 ^ i % 2 = 0 → LeC ev F w m hf r (had ||| 2 ^ i) (nxC ev F w m came i) x
theorem le_mono {ev : (Nat → Int32) → Int32} {F : FS} {w : Nat → Nat} {m : Nat} {hf x y : Int32} (h : x ≤ y) : ∀ r had came, LeC ev F w m hf r had came x → LeC ev F w m hf r had came y := by
  intro r
  induction r with
  | zero => intro had came h1; exact Int32.le_trans h1 h
  | succ r ih => intro had came h1 i hi hb; exact ih _ _ (h1 i hi hb)
theorem ex_le {ev : (Nat → Int32) → Int32} {F : FS} {w : Nat → Nat} {m : Nat} {hf : Int32} : ∀ r had came pre (st : Int32 × List Nat), LeC ev F w m hf r had came st.1 → exC ev F w m hf r had came pre st = st := by
  intro r
  induction r with
  | zero => intro had came pre st h; exact if_pos h
  | succ r ih =>
    intro had came pre st h
    rw [exC]
    refine fo_inv (fun _ x => x = st) rfl (fun i x hi hx => ?_)
    subst hx
    split
    · next c => exact ih _ _ _ _ (h i hi c)
    · rfl
theorem or64 : ∀ a, a < 64 → ∀ i, i < 6 → a ||| 2 ^ i < 64 := by decide +kernel
theorem pc_or2 : ∀ m, m < 64 → ∀ q, q < 6 → pcN (m ||| 2 ^ q) ≤ pcN m + 1 := by decide +kernel
theorem pc_free : ∀ m, m ≤ 6 → ∀ h, h < 64 → pcN h < m → ∃ i, i < m ∧ h / 2 ^ i % 2 = 0 := by decide +kernel
theorem nx_lt {ev : (Nat → Int32) → Int32} {F : FS} {w : Nat → Nat} {m came i : Nat} (hc : came < 64) (hi : i < 6) : nxC ev F w m came i < 64 ∧ pcN (nxC ev F w m came i) ≤ pcN came + 1 := by
  rw [nxC]
  split
  · exact ⟨or64 _ hc _ hi, pc_or2 _ hc _ hi⟩
  · exact ⟨hc, by omega⟩
theorem hf_le {h0 came : Nat} (h07 : h0 ≤ 7) (hc : came < 64) (x : Int32) : nI h0 + bcS (nI came) ≤ x ↔ ((h0 + pcN came : Nat) : Int) ≤ x.toInt := by
  have := pc_7 came (by omega)
  rw [bc_nI came (by omega), add_nI, Int32.le_iff_toInt_le, nI_toInt (by omega)]
theorem le_bnd {ev : (Nat → Int32) → Int32} {F : FS} {w : Nat → Nat} {m h0 : Nat} (hm : m ≤ 6) (h07 : h0 ≤ 7) : ∀ r had came (x : Int32), came < 64 → ((h0 + pcN came + r : Nat) : Int) ≤ x.toInt → LeC ev F w m (nI h0) r had came x := by
  intro r
  induction r with
  | zero => intro had came x hc h; exact (hf_le h07 hc x).mpr h
  | succ r ih =>
    intro had came x hc h i hi hb
    obtain ⟨h1, h2⟩ := nx_lt (ev := ev) (F := F) (w := w) (m := m) hc (show i < 6 by omega)
    exact ih _ _ x h1 (by omega)
theorem le_pos {ev : (Nat → Int32) → Int32} {F : FS} {w : Nat → Nat} {m h0 : Nat} (hm : m ≤ 6) (h07 : h0 ≤ 7) : ∀ r had came (x : Int32), had < 64 → came < 64 → pcN had + r = m → LeC ev F w m (nI h0) r had came x → 0 ≤ x.toInt := by
  intro r
  induction r with
  | zero => intro had came x hh hc _ h; have := (hf_le h07 hc x).mp h; omega
  | succ r ih =>
    intro had came x hh hc hp h
    obtain ⟨i, hi, hb⟩ := pc_free m hm had hh (by omega)
    refine ih _ _ x (or64 _ hh i (by omega)) (nx_lt hc (show i < 6 by omega)).1 ?_ (h i hi hb)
    rw [pc_or had (by omega) i (by omega) hb]
    omega
theorem and1 (y : BitVec 64) : (y &&& 1#64 = 1#64) ↔ y.getLsbD 0 = true := by
  rw [BitVec.and_one_eq_setWidth_ofBool_getLsbD]
  cases y.getLsbD 0 <;> decide
theorem sh64 : ∀ c, c < 64 → (((nI c).toInt64 &&& 63).toBitVec.smod 64).toNat = c := by decide +kernel
theorem bitL_lsb {x : Int64} {c : Nat} (hc : c < 64) : bitL x c = x.toBitVec.getLsbD c := by
  rw [bitL, Bool.eq_iff_iff, decide_eq_true_eq, ← Int64.toBitVec_inj, Int64.toBitVec_and]
  refine (and1 _).trans ?_
  rw [Int64.toBitVec_shiftRight, BitVec.sshiftRight_eq', sh64 c hc, BitVec.getLsbD_sshiftRight]
  simp [hc]
theorem setL_lsb {x : Int64} {c d : Nat} (hc : c < 64) (hd : d < 64) : (setL x c).toBitVec.getLsbD d = (x.toBitVec.getLsbD d || decide (d = c)) := by
  rw [setL, Int64.toBitVec_or, BitVec.getLsbD_or, Int64.toBitVec_shiftLeft, BitVec.shiftLeft_eq', sh64 c hc, BitVec.getLsbD_shiftLeft]
  congr 1
  rw [show (1 : Int64).toBitVec = 1#64 from rfl, BitVec.getLsbD_one]
  by_cases h : d = c
  · subst h; simp [hd]
  · simp [h, hd]; omega
theorem set_bit {x : Int64} {c d : Nat} (hc : c < 64) (hd : d < 64) : bitL (setL x c) d = (bitL x d || decide (d = c)) := by
  rw [bitL_lsb hd, setL_lsb hc hd, bitL_lsb hd]
def OInv (ev : (Nat → Int32) → Int32) (F : FS) (w : Nat → Nat) (m : Nat) (hf : Int32) (E : Nat → Nat → Prop) (x : Int32) (tr : Nat → Int64) : Prop := ∀ h c, h < 64 → c < 64 → bitL (tr h) c = true → ¬ E h c → LeC ev F w m hf (m - pcN h) h c x
def OB (m : Nat) (x : Int32) (best : Nat → Int32) (l : List Nat) : Prop := x = -1 ∨ (l.length = m ∧ ∀ j, j < m → best j = nI (l.getD j 0))
def OG (ev : (Nat → Int32) → Int32) (F : FS) (w : Nat → Nat) (m : Nat) (hf : Int32) (d : Nat) (pre : List Nat) (E : Nat → Nat → Prop) (T : OT) (st : Int32 × List Nat) : Prop := T.1 = st.1 ∧ OB m T.1 T.2.1 st.2 ∧ (∀ j, j < d → T.2.2.1 j = nI (pre.getD j 0)) ∧ OInv ev F w m hf E T.1 T.2.2.2
theorem use_le {h0 came m r : Nat} {x : Int32} (h07 : h0 ≤ 7) (hc : came < 64) (hm : m ≤ 6) (hr : r ≤ m) : nI h0 + bcS (nI came) + nI m - nI (m - r) ≤ x ↔ ((h0 + pcN came + r : Nat) : Int) ≤ x.toInt := by
  have := pc_7 came (by omega)
  have e : nI h0 + bcS (nI came) + nI m - nI (m - r) = nI (h0 + pcN came + r) := by
    rw [bc_nI came (by omega), add_nI, add_nI, show h0 + pcN came + m = (h0 + pcN came + r) + (m - r) by omega, ← add_nI _ (m - r)]
    exact Int32.add_sub_cancel _ _
  rw [e, Int32.le_iff_toInt_le, nI_toInt (by omega)]
theorem tt_ex {ev : (Nat → Int32) → Int32} {F : FS} {w : Nat → Nat} {m h0 : Nat} (hm : m ≤ 6) (h07 : h0 ≤ 7) : ∀ r had came pre (T : OT) (st : Int32 × List Nat) (E : Nat → Nat → Prop), r ≤ m → had < 64 → came < 64 → pcN had = m - r → pre.length = m - r → (∀ h c, E h c → pcN h < m - r) → OG ev F w m (nI h0) (m - r) pre E T st →
    OG ev F w m (nI h0) (m - r) pre E (ttS ev F w m (nI h0) r had came T) (exC ev F w m (nI h0) r had came pre st) ∧ LeC ev F w m (nI h0) r had came (ttS ev F w m (nI h0) r had came T).1 ∧ T.1 ≤ (ttS ev F w m (nI h0) r had came T).1 := by
  intro r
  induction r with
  | zero =>
    intro had came pre T st E hr hh hc hp hl hE ⟨g1, g2, g3, g4⟩
    rw [ttS, exC, show m - 0 = m from rfl] at *
    have hu := use_le (x := T.1) h07 hc hm (Nat.zero_le m)
    rw [Nat.sub_zero] at hu
    by_cases c : nI h0 + bcS (nI came) + nI m - nI m ≤ T.1 ∨ bitL (T.2.2.2 had) came = true
    · have hL : LeC ev F w m (nI h0) 0 had came T.1 := by
        rcases c with c | c
        · exact (hf_le h07 hc _).mpr (hu.mp c)
        · have := g4 had came hh hc c (fun e => by have := hE _ _ e; omega)
          rw [hp, Nat.sub_self] at this
          exact this
      rw [if_pos c, if_pos (show nI h0 + bcS (nI came) ≤ st.1 by rw [← g1]; exact hL)]
      exact ⟨⟨g1, g2, g3, g4⟩, hL, Int32.le_refl _⟩
    · rw [if_neg c]
      have hx : ¬ nI h0 + bcS (nI came) ≤ T.1 := fun q => c (Or.inl (hu.mpr ((hf_le h07 hc _).mp q)))
      rw [if_neg (show ¬ nI h0 + bcS (nI came) ≤ st.1 by rw [← g1]; exact hx)]
      have hle : T.1 ≤ nI h0 + bcS (nI came) := by
        rw [Int32.le_iff_toInt_le] at hx ⊢
        omega
      refine ⟨⟨rfl, Or.inr ⟨hl, fun j hj => ?_⟩, g3, ?_⟩, Int32.le_refl _, hle⟩
      · simp only
        rw [if_pos (by omega)]
        exact g3 j hj
      · intro h d h1 h2 hb he
        simp only at hb ⊢
        by_cases ch : h = had
        · subst ch
          rw [vp_updL, if_pos rfl, set_bit hc h2, Bool.or_eq_true, decide_eq_true_eq] at hb
          rcases hb with hb | rfl
          · exact le_mono hle _ _ _ (g4 h d h1 h2 hb he)
          · rw [hp, Nat.sub_self]
            exact Int32.le_refl _
        · rw [vp_updL, if_neg ch] at hb
          exact le_mono hle _ _ _ (g4 h d h1 h2 hb he)
  | succ r ih =>
    intro had came pre T st E hr hh hc hp hl hE hG
    obtain ⟨g1, g2, g3, g4⟩ := id hG
    have hu := use_le (x := T.1) h07 hc hm hr
    rw [ttS]
    by_cases c : nI h0 + bcS (nI came) + nI m - nI (m - (r + 1)) ≤ T.1 ∨ bitL (T.2.2.2 had) came = true
    · have hL : LeC ev F w m (nI h0) (r + 1) had came T.1 := by
        rcases c with c | c
        · exact le_bnd hm h07 _ _ _ _ hc (hu.mp c)
        · have := g4 had came hh hc c (fun e => by have := hE _ _ e; omega)
          rw [hp, show m - (m - (r + 1)) = r + 1 by omega] at this
          exact this
      rw [if_pos c, ex_le _ _ _ _ _ (by rw [← g1]; exact hL)]
      exact ⟨hG, hL, Int32.le_refl _⟩
    · rw [if_neg c, exC]
      let E' : Nat → Nat → Prop := fun h d => E h d ∨ (h = had ∧ d = came)
      have key : ∀ i, i ≤ m → ∀ Ti si, Ti = fo (fun i T => if had / 2 ^ i % 2 = 0 then ttS ev F w m (nI h0) r (had ||| 2 ^ i) (if canS ev (cameF F w m came) (w i) (w i) then came ||| 2 ^ i else came) (T.1, T.2.1, upd T.2.2.1 (m - (r + 1)) (nI (w i)), T.2.2.2) else T) (T.1, T.2.1, T.2.2.1, vp_updL T.2.2.2 had (setL (T.2.2.2 had) came)) i → si = fo (fun i st => if had / 2 ^ i % 2 = 0 then exC ev F w m (nI h0) r (had ||| 2 ^ i) (nxC ev F w m came i) (pre ++ [w i]) st else st) st i →
          OG ev F w m (nI h0) (m - (r + 1)) pre E' Ti si ∧ (∀ i', i' < i → had / 2 ^ i' % 2 = 0 → LeC ev F w m (nI h0) r (had ||| 2 ^ i') (nxC ev F w m came i') Ti.1) ∧ T.1 ≤ Ti.1 := by
        intro i
        induction i with
        | zero =>
          rintro _ Ti si rfl rfl
          refine ⟨⟨g1, g2, g3, ?_⟩, fun i' h => by omega, Int32.le_refl _⟩
          intro h d h1 h2 hb he
          simp only [fo] at hb ⊢
          by_cases ch : h = had
          · subst ch
            rw [vp_updL, if_pos rfl, set_bit hc h2, Bool.or_eq_true, decide_eq_true_eq] at hb
            rcases hb with hb | rfl
            · exact g4 h d h1 h2 hb (fun q => he (Or.inl q))
            · exact absurd (Or.inr ⟨rfl, rfl⟩) he
          · rw [vp_updL, if_neg ch] at hb
            exact g4 h d h1 h2 hb (fun q => he (Or.inl q))
        | succ i ihi =>
          intro hi Ti si eT es
          obtain ⟨hg, hLi, hTi⟩ := ihi (by omega) _ _ rfl rfl
          rw [fo] at eT es
          generalize fo (fun i T => if had / 2 ^ i % 2 = 0 then ttS ev F w m (nI h0) r (had ||| 2 ^ i) (if canS ev (cameF F w m came) (w i) (w i) then came ||| 2 ^ i else came) (T.1, T.2.1, upd T.2.2.1 (m - (r + 1)) (nI (w i)), T.2.2.2) else T) (T.1, T.2.1, T.2.2.1, vp_updL T.2.2.2 had (setL (T.2.2.2 had) came)) i = U at *
          generalize fo (fun i st => if had / 2 ^ i % 2 = 0 then exC ev F w m (nI h0) r (had ||| 2 ^ i) (nxC ev F w m came i) (pre ++ [w i]) st else st) st i = u at *
          obtain ⟨k1, k2, k3, k4⟩ := id hg
          by_cases cb : had / 2 ^ i % 2 = 0
          · rw [if_pos cb] at eT es
            have := ih (had ||| 2 ^ i) (nxC ev F w m came i) (pre ++ [w i]) (U.1, U.2.1, upd U.2.2.1 (m - (r + 1)) (nI (w i)), U.2.2.2) u E' (by omega) (or64 _ hh i (by omega)) (nx_lt hc (by omega)).1 (by rw [pc_or had (by omega) i (by omega) cb]; omega) (by rw [List.length_append, List.length_singleton]; omega) (by
              rintro h d (he | ⟨rfl, rfl⟩)
              · have := hE h d he; omega
              · omega) ⟨k1, k2, (fun j hj => by
              simp only [upd]
              by_cases cj : j = m - (r + 1)
              · rw [if_pos cj, cj, ← hl]; simp
              · rw [if_neg cj, k3 j (by omega)]
                congr 1
                simp only [List.getD]
                rw [List.getElem?_append_left (by omega)]), k4⟩
            rw [nxC] at es this
            rw [← eT, ← es] at this
            obtain ⟨⟨q1, q2, q3, q4⟩, qL, qT⟩ := this
            refine ⟨⟨q1, q2, fun j hj => ?_, q4⟩, ?_, Int32.le_trans hTi qT⟩
            · rw [q3 j (by omega)]
              congr 1
              simp only [List.getD]
              rw [List.getElem?_append_left (by omega)]
            · intro i' h1 h2
              by_cases ci : i' = i
              · subst ci; rw [nxC]; exact qL
              · exact le_mono qT _ _ _ (hLi i' (by omega) h2)
          · rw [if_neg cb] at eT es
            subst eT es
            refine ⟨hg, fun i' h1 h2 => ?_, hTi⟩
            by_cases ci : i' = i
            · subst ci; exact absurd h2 cb
            · exact hLi i' (by omega) h2
      obtain ⟨⟨k1, k2, k3, k4⟩, kL, kT⟩ := key m (Nat.le_refl _) _ _ rfl rfl
      refine ⟨⟨k1, k2, k3, ?_⟩, kL, kT⟩
      intro h d h1 h2 hb he
      by_cases cd : h = had ∧ d = came
      · obtain ⟨rfl, rfl⟩ := cd
        rw [hp, show m - (m - (r + 1)) = r + 1 by omega]
        exact kL
      · exact k4 h d h1 h2 hb (fun q => q.elim he cd)
theorem hf_nI {F : FS} (h7 : fN F ≤ 7) : ∃ h0, h0 ≤ 7 ∧ bcS (homesS F) = nI h0 := by
  have e : homesS F = nI (maskN (fun i => decide (fHo F i = nI i)) (fN F)) := by
    rw [← mask_nI h7, homesS]
    refine fo_congr (fun i _ x => ?_)
    simp only [decide_eq_true_eq]
  have hl := mask_lt (fun i => decide (fHo F i = nI i)) (fN F)
  have hp := pow7 h7
  rw [e, bc_nI _ (by omega)]
  exact ⟨_, pc_7 _ (by omega), rfl⟩
def odS (ev : (Nat → Int32) → Int32) (F : FS) : Int32 × List Nat := exC ev F (wOf F) (thoS F).length (bcS (homesS F)) (thoS F).length 0 0 [] (-1, [])
theorem tt_od {ev : (Nat → Int32) → Int32} {F : FS} (hF : fsOK F) {b t : Nat → Int32} {z : Nat → Int64} (hz : ∀ h, h < 64 → z h = 0) : (ttS ev F (wOf F) (thoS F).length (bcS (homesS F)) (thoS F).length 0 0 (-1, b, t, z)).1 = (odS ev F).1 ∧ ∀ j, j < (thoS F).length → (ttS ev F (wOf F) (thoS F).length (bcS (homesS F)) (thoS F).length 0 0 (-1, b, t, z)).2.1 j = nI ((odS ev F).2.getD j 0) := by
  obtain ⟨h0, h07, he⟩ := hf_nI hF.1
  have hw := wo_of hF
  rw [odS, he]
  generalize wOf F = w at hw ⊢
  generalize (thoS F).length = m at hw ⊢
  have h := tt_ex (ev := ev) (F := F) (w := w) hw.1 h07 m 0 0 [] (-1, b, t, z) (-1, []) (fun _ _ => False) (Nat.le_refl _) (by omega) (by omega) (by rw [Nat.sub_self]; rfl) (by rw [Nat.sub_self]; rfl) (fun _ _ h => h.elim) ⟨rfl, Or.inl rfl, fun j hj => by omega, fun h c h1 h2 hb _ => by
    simp only at hb
    rw [hz h h1, bitL_lsb h2] at hb
    simp at hb⟩
  obtain ⟨⟨g1, g2, -, -⟩, gL, -⟩ := h
  have hp := le_pos hw.1 h07 _ _ _ _ (by omega) (by omega) (by rw [show pcN 0 = 0 from rfl, Nat.zero_add]) gL
  refine ⟨g1, ?_⟩
  rcases g2 with g2 | g2
  · rw [g2] at hp
    exact absurd hp (by decide)
  · exact g2.2
def orderC (A : AS) : Int32 × AS := ((odS A.ev A.F).1, A.wR (rngL (thoS A.F).length (fun j => (nI ((odS A.ev A.F).2.getD j 0)).toInt64)))
theorem cc_order (k : Nat) (A : AS) : CC (k + 17) M_X11_order [] A (.int (orderC A).1) (orderC A).2 := by
  intro σ hv
  obtain ⟨r, s, hb⟩ := hv.b
  have h7 := hb.n7
  refine EvM.of mk_X11_order (Nat.le_of_ble_eq_true rfl) ?_
  refine wpW K_X11_order [36] 60 ?_
  refine ⟨_, ev_takes _ σ hb.f, ?_⟩
  rintro w σ1 ⟨rfl, e1, c1, f1⟩
  have f1' : Fr lS σ σ1 := f1.up _ (by decide)
  have hb1 := hb.sS f1'
  rw [hb.F] at e1
  refine ⟨r, hb1.r1, ?_⟩
  have hS := ev_sayBack k σ1 r hb.r c1 A.ev hb1.rc
  rw [e1] at hS
  refine ⟨_, hS, ?_⟩
  rintro w σ2 ⟨⟨z, hz, h9, g2⟩, hm, f2⟩
  obtain ⟨t1, t2⟩ := tt_od (ev := A.ev) hb.fs (b := gA σ1 27) (t := gA σ1 25) hz
  rw [t1] at h9
  rw [← g2] at t2
  obtain rfl := h9.symm
  have f2' : Fr lS σ1 σ2 := by
    rcases hb.r with rfl | rfl
    · exact f2.up _ (by decide)
    · exact f2.up _ (by decide)
  refine ⟨_, ev_rclears _ _, ?_⟩
  rintro w σ3 ⟨rfl, e3, k3, f3⟩
  have f13 : Fr lS σ σ3 := (f1'.tr f2').tr (f3.up _ (by decide))
  have h6 := (wo_of hb.fs).1
  have hm3 : gI σ3 20 9 = nI (thoS A.F).length := by rw [f3.I (by decide)]; exact hm
  have hr3 : ∀ j, j < (thoS A.F).length → gA σ3 27 j = nI ((odS A.ev A.F).2.getD j 0) := fun j hj => by rw [f3.A (by decide)]; exact t2 j hj
  unfold orderC
  generalize odS A.ev A.F = D at *
  generalize (thoS A.F).length = m at *
  refine loopI (α := Sto) 36 (fun i _ => [some (.ref 0), some (.int D.1), some (.int (nI i))]) (fun a => a) (fun i a => Fr [3, 4] σ3 a ∧ tOK a ∧ tR a = rngL i (fun j => (nI (D.2.getD j 0)).toInt64)) m ?_ ?_ 0 σ3 (Nat.zero_le _) ⟨Fr.rf, k3, e3⟩
  · rintro i τ hi ⟨f, ht, hI⟩ go
    refine wpW K_X11_order [36] 60 ?_
    refine ⟨fun h => ?_, fun _ => ⟨in6 (by omega), _, ev_radds _ _ ht _ (by rw [hI, rngL_l]; omega), ?_⟩⟩
    · rw [show gI τ (0 + 20) 9 = nI m from (f.I (by decide) 9).trans hm3, le_of_nI (by omega) (by omega)] at h; omega
    rintro w τ' ⟨rfl, e4, k4, f4⟩
    refine go τ' _ _ (by rw [← nI_1 i]; rfl) rfl ⟨f.tr f4, k4, ?_⟩
    rw [e4, hI, rngL_s, nI_clamp (by omega), f.A (by decide), hr3 i hi]
  · rintro τ ⟨f, ht, hI⟩
    refine wpW K_X11_order [36] 60 ?_
    refine ⟨fun h => ?_, fun h => ?_⟩
    · exact ⟨rfl, cv_end hb (f13.tr (f.up _ (by decide))) ht hI⟩
    · rw [show gI τ (0 + 20) 9 = nI m from (f.I (by decide) 9).trans hm3, le_of_nI (by omega) (by omega)] at h; omega
