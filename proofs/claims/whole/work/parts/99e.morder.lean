/-! the model's call: order -/
theorem od_pos {ev : (Nat → Int32) → Int32} {F : FS} (hF : fsOK F) : 0 ≤ (odS ev F).1.toInt := by
  obtain ⟨h0, h07, he⟩ := hf_nI hF.1
  have hw := wo_of hF
  rw [odS, he]
  generalize wOf F = w at hw ⊢
  generalize (thoS F).length = m at hw ⊢
  have h := tt_ex (ev := ev) (F := F) (w := w) hw.1 h07 m 0 0 [] (-1, fun _ => 0, fun _ => 0, fun _ => 0) (-1, []) (fun _ _ => False) (Nat.le_refl _) (by omega) (by omega) (by rw [Nat.sub_self]; rfl) (by rw [Nat.sub_self]; rfl) (fun _ _ h => h.elim) ⟨rfl, Or.inl rfl, fun j hj => by omega, fun h c h1 h2 hb _ => by
    simp only at hb
    rw [bitL_lsb h2] at hb
    simp at hb⟩
  obtain ⟨⟨g1, g2, -, -⟩, gL, -⟩ := h
  have hp := le_pos hw.1 h07 _ _ _ _ (by omega) (by omega) (by rw [show pcN 0 = 0 from rfl, Nat.zero_add]) gL
  rw [g1] at hp
  exact hp
def smS (ev : (Nat → Int32) → Int32) (G : FS) (p : Nat) : FS := if canS ev G p p then sayF G p p else G
def simL (ev : (Nat → Int32) → Int32) (F : FS) (l : List Nat) : FS := l.foldl (smS ev) F
def hcN (G : FS) : Nat := pcN (maskN (fun i => decide (fHo G i = nI i)) (fN G))
theorem hc_nI {G : FS} (h7 : fN G ≤ 7) : bcS (homesS G) = nI (hcN G) := by
  have hl := mask_lt (fun i => decide (fHo G i = nI i)) (fN G)
  have hp := pow7 h7
  rw [homes_nI h7, bc_nI _ (by omega)]
  rfl
theorem hc_7 {G : FS} (h7 : fN G ≤ 7) : hcN G ≤ 7 := by
  have hl := mask_lt (fun i => decide (fHo G i = nI i)) (fN G)
  have hp := pow7 h7
  exact pc_7 _ (by omega)
theorem hc_say {G : FS} (h7 : fN G ≤ 7) {p : Nat} (hp : p < fN G) (hn : ¬ fHo G p = nI p) : hcN (sayF G p p) = hcN G + 1 := by
  have hw := pow7 h7
  have l1 := mask_lt (fun i => decide (fHo G i = nI i)) (fN G)
  have l2 := mask_lt (fun i => decide (fHo (sayF G p p) i = nI i)) (fN G)
  have e : maskN (fun i => decide (fHo (sayF G p p) i = nI i)) (fN G) = maskN (fun i => decide (fHo G i = nI i)) (fN G) ||| 2 ^ p := by
    have l3 := or_lt _ h7 _ l1 p hp
    refine bits_eq (by omega) (by omega) (fun v hv => ?_)
    rw [or_bit, mask_bit, mask_bit]
    have e1 : fHo (sayF G p p) v = if v = p then nI p else fHo G v := rfl
    rw [e1]
    by_cases c : v = p
    · subst c
      rw [if_pos rfl, if_pos ⟨hp, decide_eq_true rfl⟩]
      exact ⟨fun _ => Or.inr rfl, fun _ => rfl⟩
    · rw [if_neg c]
      exact ⟨fun z => Or.inl z, fun z => z.elim id (fun y => absurd y.symm c)⟩
  have hb := mask_bit (fun i => decide (fHo G i = nI i)) (fN G) p
  rw [if_neg (fun z => hn (of_decide_eq_true z.2))] at hb
  show pcN (maskN (fun i => decide (fHo (sayF G p p) i = nI i)) (fN G)) = _
  rw [e, pc_or _ (by omega) p (by omega) hb]
  rfl
def SC (ev : (Nat → Int32) → Int32) (F : FS) (w : Nat → Nat) (m : Nat) (pre : List Nat) (had came : Nat) : Prop := (∃ s, simL ev F pre = wSd (cameF F w m came) s) ∧ hcN (simL ev F pre) = hcN F + pcN came ∧ (∀ i, i < 7 → came / 2 ^ i % 2 = 1 → had / 2 ^ i % 2 = 1) ∧ came < 64
theorem sim_app (ev : (Nat → Int32) → Int32) (F : FS) (pre : List Nat) (p : Nat) : simL ev F (pre ++ [p]) = smS ev (simL ev F pre) p := by rw [simL, List.foldl_append]; rfl
theorem SC.n {ev : (Nat → Int32) → Int32} {F : FS} {w : Nat → Nat} {m had came : Nat} {pre : List Nat} (h : SC ev F w m pre had came) : fN (simL ev F pre) = fN F := by
  obtain ⟨⟨s, e⟩, -⟩ := h
  rw [e]
  exact came_n F w came m
theorem SC.step {ev : (Nat → Int32) → Int32} {F : FS} {w : Nat → Nat} {m had came i : Nat} {pre : List Nat} (hw : WO F w m) (h : SC ev F w m pre had came) (hi : i < m) (hb : had / 2 ^ i % 2 = 0) : SC ev F w m (pre ++ [w i]) (had ||| 2 ^ i) (nxC ev F w m came i) := by
  have h7 := hw.2.2.2.1
  have hm := hw.1
  have hN := h.n
  obtain ⟨⟨s, e⟩, h2, h3, h4⟩ := h
  have hcb : came / 2 ^ i % 2 = 0 := by
    have : ¬ came / 2 ^ i % 2 = 1 := fun z => by have := h3 i (by omega) z; omega
    omega
  have hmono : ∀ j, j < 7 → came / 2 ^ j % 2 = 1 → (had ||| 2 ^ i) / 2 ^ j % 2 = 1 := fun j hj z => (or_bit _ _ _).mpr (Or.inl (h3 j hj z))
  have hcan : canS ev (simL ev F pre) (w i) (w i) = canS ev (cameF F w m came) (w i) (w i) := by rw [e]; rfl
  unfold SC
  rw [sim_app, smS, nxC, hcan]
  by_cases c : canS ev (cameF F w m came) (w i) (w i) = true
  · rw [if_pos c, if_pos c]
    have hne : ¬ fHo (simL ev F pre) (w i) = nI (w i) := by
      rw [← hcan, canS, Bool.and_eq_true] at c
      have := c.1
      simpa using this
    refine ⟨⟨minS 9999 (s + 1), ?_⟩, ?_, fun j hj z => ?_, or64 came h4 i (by omega)⟩
    · rw [came_or hw.2.2.1 hi, e]
      rfl
    · rw [hc_say (by omega) (by rw [hN]; exact hw.2.1 i hi) hne, h2, pc_or came (by omega) i (by omega) hcb]
      omega
    · rcases (or_bit _ _ _).mp z with z | z
      · exact hmono j hj z
      · exact (or_bit _ _ _).mpr (Or.inr z)
  · rw [if_neg c, if_neg c]
    exact ⟨⟨s, e⟩, h2, hmono, h4⟩
theorem sim_ok {ev : (Nat → Int32) → Int32} {F : FS} (hF : fsOK F) : ∀ (l : List Nat), (∀ p ∈ l, p < fN F) → fsOK (simL ev F l) ∧ fN (simL ev F l) = fN F := by
  have key : ∀ (l : List Nat) (G : FS), fsOK G → fN G = fN F → (∀ p ∈ l, p < fN F) → fsOK (l.foldl (smS ev) G) ∧ fN (l.foldl (smS ev) G) = fN F := by
    intro l
    induction l with
    | nil => intro G h1 h2 _; exact ⟨h1, h2⟩
    | cons p l ih =>
      intro G h1 h2 h3
      rw [List.foldl_cons]
      refine ih _ ?_ ?_ (fun q hq => h3 q (List.mem_cons_of_mem _ hq))
      · unfold smS
        split
        · exact fs_say h1 (by rw [h2]; exact h3 p List.mem_cons_self)
        · exact h1
      · unfold smS
        split
        · exact h2
        · exact h2
  intro l hl
  exact key l F hF rfl hl
def lOm : List Nat := [60, 63, 66, 68]
def jOm : List Nat := [8, 9, 10, 11, 12, 17, 29]
def OM (σ : Sto) (m : Nat) (τ : Sto) (d : Nat) (pre : List Nat) (st : Int32 × List Nat) : Prop := FM lOm jOm σ τ ∧ (∀ j, j < d → gA τ 66 j = nI (pre.getD j 0)) ∧ gI τ 52 29 = st.1 ∧ (st.1 = -1 ∨ (st.2.length = m ∧ ∀ j, j < m → gA τ 68 j = nI (st.2.getD j 0)))
theorem ev_goOrder (k : Nat) {σ : Sto} {A : AS} (hb : MVc σ A) (w : Nat → Nat) (m : Nat) (hw : WO A.F w m) (hwho : ∀ i, i < m → gA σ 69 i = nI (w i)) : ∀ r had came pre st τ, r ≤ m → had < 64 → pre.length = m - r → (∀ p ∈ pre, p < fN A.F) → SC A.ev A.F w m pre had came → OM σ m τ (m - r) pre st → EvM (k + 262 + r) M_X12_goOrder [.ref 52, .int (nI (m - r)), .int (nI m), .int (nI had)] τ (fun v υ => v = none ∧ OM σ m υ (m - r) pre (exC A.ev A.F w m (bcS (homesS A.F)) r had came pre st)) := by
  have h7 := hb.n7
  have hm6 := hw.1
  intro r
  induction r with
  | zero =>
    intro had came pre st τ hr hhad hlen hpre hsc ⟨f, o1, o2, o3⟩
    rw [Nat.sub_zero] at hlen o1 ⊢
    have hbt : MVc τ A := hb.fr (f.up _ _ (by decide) (by decide))
    have hN := hsc.n
    obtain ⟨-, h2, -, h4⟩ := hsc
    have hval : bcS (homesS (simL A.ev A.F pre)) = bcS (homesS A.F) + bcS (nI came) := by
      rw [hc_nI (by omega), hc_nI h7, bc_nI came (by omega), add_nI, h2]
    rw [exC, ← hval]
    generalize hv9 : bcS (homesS (simL A.ev A.F pre)) = v9 at *
    refine EvM.of mk_X12_goOrder (Nat.le_of_ble_eq_true rfl) ?_
    refine wpW K_X12_goOrder [5] 10 ?_
    refine ⟨fun e => absurd rfl e, fun _ => ?_⟩
    show WW _ _ _ 5 [some (.ref 52), some (.int (nI m)), some (.int (nI m)), some (.int (nI had)), none, none] [] τ
    refine wpW K_X12_goOrder [20] 20 ?_
    refine ⟨_, ev_lay63 _ hbt, ?_⟩
    rintro v τ1 ⟨rfl, hJ1⟩
    show WW _ _ _ 20 [some (.ref 52), some (.int (nI m)), some (.int (nI m)), some (.int (nI had)), some (.int (nI 0)), none] [] τ1
    refine loopI (α := Sto) 20 (fun i _ => [some (.ref 52), some (.int (nI m)), some (.int (nI m)), some (.int (nI had)), some (.int (nI i)), none]) (fun a => a) (fun i a => FJ 63 τ a (fN A.F) (simL A.ev A.F (pre.take i))) m ?_ ?_ 0 τ1 (Nat.zero_le _) hJ1
    · intro i υ hi hJ go
      have hil : i < pre.length := by omega
      have hpi : pre.getD i 0 < fN A.F := by
        rw [List.getD_eq_getElem?_getD, List.getElem?_eq_getElem hil]
        exact hpre _ (List.getElem_mem hil)
      have ei : gA υ 66 (nI i).toNatClampNeg = nI (pre.getD i 0) := by
        rw [nI_clamp (by omega), hJ.2.2.2.a 66 (by decide)]
        exact o1 i hi
      have es : pre.take (i + 1) = pre.take i ++ [pre.getD i 0] := by
        rw [List.take_succ, List.getD_eq_getElem?_getD, List.getElem?_eq_getElem hil]
        rfl
      generalize pre.getD i 0 = p at *
      have hsm : simL A.ev A.F (pre.take (i + 1)) = smS A.ev (simL A.ev A.F (pre.take i)) p := by rw [es, sim_app]
      rw [smS] at hsm
      have hcan := hJ.can (k + 0) (Or.inr rfl) hbt.ru p p hpi hpi
      rw [← ei] at hcan
      refine wpW K_X12_goOrder [20] 60 ?_
      refine ⟨fun e => ?_, fun _ => ⟨in7 (by omega), in7 (by omega), _, hcan, ?_⟩⟩
      · rw [le_of_nI (by omega) (by omega)] at e; omega
      rintro v υ2 ⟨rfl, hJ2⟩
      refine ⟨fun e => ?_, fun e => ?_⟩
      · rw [bI_eq] at e
        rw [if_neg (by rw [e]; decide)] at hsm
        exact go υ2 _ _ (by rw [← nI_1 i]; rfl) rfl (by rw [hsm]; exact hJ2)
      · rw [bI_ne] at e
        rw [if_pos e] at hsm
        have ei2 : gA υ2 66 (nI i).toNatClampNeg = nI p := by rw [← ei, hJ2.2.2.2.a 66 (by decide), hJ.2.2.2.a 66 (by decide)]
        have hsay := hJ2.say (k + 260) (Or.inr rfl) p p hpi hpi
        rw [← ei2] at hsay
        refine ⟨in7 (by omega), in7 (by omega), _, hsay, ?_⟩
        rintro v υ3 ⟨rfl, hJ3⟩
        exact go υ3 _ _ (by rw [← nI_1 i]; rfl) rfl (by rw [hsm]; exact hJ3)
    · intro υ hJ
      rw [List.take_of_length_le (by omega)] at hJ
      have fu : FM lOm jOm σ υ := f.tr (hJ.2.2.2.up _ _ (by decide) (by decide))
      have e29 : gI υ 52 29 = st.1 := (hJ.2.2.2.i 29 (by decide)).trans o2
      have e66 : gA υ 66 = gA τ 66 := hJ.2.2.2.a 66 (by decide)
      have e68 : gA υ 68 = gA τ 68 := hJ.2.2.2.a 68 (by decide)
      refine wpW K_X12_goOrder [107] 60 ?_
      refine ⟨fun _ => ⟨_, ev_atHome _ υ 63 (Or.inr rfl) hJ.2.1, ?_⟩, fun e => ?_⟩
      rotate_left
      · rw [le_of_nI (by omega) (by omega)] at e; omega
      rintro v τ' ⟨h9, rfl⟩
      obtain rfl := h9.symm
      rw [hJ.1]
      refine ⟨_, ev_bc _ _ _, ?_⟩
      rintro v τ' ⟨h9, rfl⟩
      obtain rfl := h9.symm
      rw [hv9]
      refine ⟨fun e => ?_, fun e => ?_⟩
      · rw [e29] at e
        rw [if_neg (Int32.not_le.mpr e)]
        have f2 : FM lOm jOm σ (sI υ 52 29 v9) := fu.sI (by decide)
        have g29 : gI (sI υ 52 29 v9) 52 29 = v9 := by rw [gI_sI, if_pos ⟨rfl, rfl⟩]
        have g66 : gA (sI υ 52 29 v9) 66 = gA τ 66 := e66
        show WW _ _ _ 107 [some (.ref 52), some (.int (nI m)), some (.int (nI m)), some (.int (nI had)), some (.int v9), none] [] (sI υ 52 29 v9)
        generalize sI υ 52 29 v9 = υ2 at f2 g29 g66 ⊢
        refine wpW K_X12_goOrder [110] 20 ?_
        show WW _ _ _ 110 [some (.ref 52), some (.int (nI m)), some (.int (nI m)), some (.int (nI had)), some (.int v9), some (.int (nI 0))] [] υ2
        refine loopI (α := Sto) 110 (fun i _ => [some (.ref 52), some (.int (nI m)), some (.int (nI m)), some (.int (nI had)), some (.int v9), some (.int (nI i))]) (fun a => a) (fun i a => FM lOm jOm σ a ∧ gI a 52 29 = v9 ∧ gA a 66 = gA τ 66 ∧ ∀ j, j < i → gA a 68 j = nI (pre.getD j 0)) m ?_ ?_ 0 υ2 (Nat.zero_le _) ⟨f2, g29, g66, fun j hj => by omega⟩
        · rintro i a hi ⟨a1, a2, a3, a4⟩ go
          refine wpW K_X12_goOrder [110] 40 ?_
          refine ⟨fun e => ?_, fun _ => ⟨in7 (by omega), in7 (by omega), ?_⟩⟩
          · rw [le_of_nI (by omega) (by omega)] at e; omega
          refine go (sA a 68 (upd (gA a 68) i (gA a 66 i))) _ _ (by rw [← nI_1 i]; rfl) (by rw [nI_clamp (by omega)]) ⟨a1.sA (by decide), a2, a3, fun j hj => ?_⟩
          rw [gA_eq]
          by_cases c : j = i
          · subst c; rw [pk_us, a3]; exact o1 j hi
          · rw [pk_un c]; exact a4 j (by omega)
        · rintro a ⟨a1, a2, a3, a4⟩
          refine wpW K_X12_goOrder [] 40 ?_
          refine ⟨fun _ => ⟨rfl, a1, fun j hj => ?_, a2, Or.inr ⟨hlen, a4⟩⟩, fun e => ?_⟩
          · rw [a3]; exact o1 j hj
          · rw [le_of_nI (by omega) (by omega)] at e; omega
      · rw [e29] at e
        rw [if_pos (Int32.not_lt.mp e)]
        refine ⟨rfl, fu, fun j hj => by rw [e66]; exact o1 j hj, e29, ?_⟩
        rcases o3 with z | ⟨z1, z2⟩
        · exact Or.inl z
        · exact Or.inr ⟨z1, fun j hj => by rw [e68]; exact z2 j hj⟩
  | succ r ih =>
    intro had came pre st τ hr hhad hlen hpre hsc hO
    refine EvM.of mk_X12_goOrder (Nat.le_of_ble_eq_true rfl) ?_
    rw [exC]
    refine wpW K_X12_goOrder [137] 10 ?_
    refine ⟨fun _ => ?_, fun e => ?_⟩
    rotate_left
    · rw [eq_of_nI (by omega) (by omega)] at e; omega
    show WW _ _ _ 137 [some (.ref 52), some (.int (nI (m - (r + 1)))), some (.int (nI m)), some (.int (nI had)), none, none] [] τ
    refine wpW K_X12_goOrder [140] 10 ?_
    show WW _ _ _ 140 [some (.ref 52), some (.int (nI (m - (r + 1)))), some (.int (nI m)), some (.int (nI had)), some (.int (nI 0)), none] [] τ
    refine loopI (α := Sto × (Int32 × List Nat)) 140 (fun i _ => [some (.ref 52), some (.int (nI (m - (r + 1)))), some (.int (nI m)), some (.int (nI had)), some (.int (nI i)), none]) (fun a => a.1) (fun i a => OM σ m a.1 (m - (r + 1)) pre a.2 ∧ a.2 = fo (fun i st => if had / 2 ^ i % 2 = 0 then exC A.ev A.F w m (bcS (homesS A.F)) r (had ||| 2 ^ i) (nxC A.ev A.F w m came i) (pre ++ [w i]) st else st) st i) m ?_ ?_ 0 (τ, st) (Nat.zero_le _) ⟨hO, rfl⟩
    · rintro i ⟨υ, su⟩ hi ⟨⟨f, o1, o2, o3⟩, hI⟩ go
      simp only at f o1 o2 o3 hI ⊢
      have hs : fo (fun i st => if had / 2 ^ i % 2 = 0 then exC A.ev A.F w m (bcS (homesS A.F)) r (had ||| 2 ^ i) (nxC A.ev A.F w m came i) (pre ++ [w i]) st else st) st (i + 1) = if had / 2 ^ i % 2 = 0 then exC A.ev A.F w m (bcS (homesS A.F)) r (had ||| 2 ^ i) (nxC A.ev A.F w m came i) (pre ++ [w i]) su else su := by rw [fo, ← hI]
      refine wpW K_X12_goOrder [140, 171] 40 ?_
      refine ⟨fun e => ?_, fun _ => ⟨_, ev_mhas _ _ _ _, ?_⟩⟩
      · rw [le_of_nI (by omega) (by omega)] at e; omega
      rintro v τ' ⟨h9, rfl⟩
      obtain rfl := h9.symm
      refine ⟨fun e => ⟨in7 (by omega), in7 (by omega), ?_⟩, fun e => ?_⟩
      rotate_left
      · rw [bI_ne, b1_iff had (by omega) i (by omega)] at e
        rw [if_neg (by omega)] at hs
        exact go (υ, su) _ _ (by rw [← nI_1 i]; rfl) rfl ⟨⟨f, o1, o2, o3⟩, hs.symm⟩
      rw [bI_eq, Bool.eq_false_iff, ne_eq, b1_iff had (by omega) i (by omega)] at e
      have e0 : had / 2 ^ i % 2 = 0 := by omega
      rw [if_pos e0] at hs
      have ew : gA υ 69 (nI i).toNatClampNeg = nI (w i) := by rw [nI_clamp (by omega), f.a 69 (by decide)]; exact hwho i hi
      have hst : sA υ 66 (upd (gA υ 66) (nI (m - (r + 1))).toNatClampNeg (gA υ 69 (nI i).toNatClampNeg)) = sA υ 66 (upd (gA υ 66) (m - (r + 1)) (nI (w i))) := by rw [ew, nI_clamp (by omega)]
      have o5 : OM σ m (sA υ 66 (upd (gA υ 66) (m - (r + 1)) (nI (w i)))) (m - r) (pre ++ [w i]) su := by
        refine ⟨f.sA (by decide), fun j hj => ?_, o2, o3⟩
        rw [gA_eq]
        by_cases c : j = m - (r + 1)
        · subst c
          rw [pk_us, List.getD_eq_getElem?_getD, List.getElem?_append_right (by omega), hlen, Nat.sub_self]
          rfl
        · rw [pk_un c, o1 j (by omega), List.getD_eq_getElem?_getD, List.getD_eq_getElem?_getD, List.getElem?_append_left (by omega)]
      show WW _ _ _ 171 [some (.ref 52), some (.int (nI (m - (r + 1)))), some (.int (nI m)), some (.int (nI had)), some (.int (nI i)), none] [] (sA υ 66 (upd (gA υ 66) (nI (m - (r + 1))).toNatClampNeg (gA υ 69 (nI i).toNatClampNeg)))
      rw [hst]
      generalize sA υ 66 (upd (gA υ 66) (m - (r + 1)) (nI (w i))) = υ2 at o5 ⊢
      have ho64 := or64 had hhad i (by omega)
      have hrec := ih (had ||| 2 ^ i) (nxC A.ev A.F w m came i) (pre ++ [w i]) su υ2 (by omega) ho64 (by rw [List.length_append, hlen]; simp; omega) (fun p hp => by
        rcases List.mem_append.mp hp with z | z
        · exact hpre p z
        · rw [List.mem_singleton.mp z]; exact hw.2.1 i hi) (hsc.step hw hi e0) o5
      have e1 : nI (m - r) = nI (m - (r + 1)) + 1 := by rw [nI_1]; congr 1; omega
      rw [e1, ← (or_nI had (by omega) i (by omega)).1] at hrec
      refine wpW K_X12_goOrder [140] 40 ?_
      refine ⟨_, hrec, ?_⟩
      rintro v υ3 ⟨rfl, f3, p1, p2, p3⟩
      refine go (υ3, exC A.ev A.F w m (bcS (homesS A.F)) r (had ||| 2 ^ i) (nxC A.ev A.F w m came i) (pre ++ [w i]) su) _ _ (by rw [← nI_1 i]; rfl) rfl ⟨⟨f3, fun j hj => ?_, p2, p3⟩, hs.symm⟩
      rw [p1 j (by omega), List.getD_eq_getElem?_getD, List.getD_eq_getElem?_getD, List.getElem?_append_left (by omega)]
    · rintro ⟨υ, su⟩ ⟨hO, hI⟩
      simp only at hO hI ⊢
      refine wpW K_X12_goOrder [] 40 ?_
      refine ⟨fun _ => ⟨rfl, by rw [← hI]; exact hO⟩, fun e => ?_⟩
      rw [le_of_nI (by omega) (by omega)] at e; omega
theorem mc_order (k : Nat) (A : AS) : MC (k + 269) M_X12_order [] A (.int (orderC A).1) (orderC A).2 := by
  intro σ0 hv0
  refine EvM.of mk_X12_order (Nat.le_of_ble_eq_true rfl) ?_
  refine wpW K_X12_order [5] 10 ?_
  obtain ⟨hv, f0⟩ := mv_t0 hv0
  show WW _ _ _ 5 [some (.ref 52), none, none] _ (t0S σ0)
  generalize t0S σ0 = σ at hv f0 ⊢
  have hb := hv.1
  have h7 := hb.n7
  have hF := hb.ok.1
  have hw := wo_of hF
  have hm6 := hw.1
  unfold orderC
  have hpos := od_pos (ev := A.ev) hF
  generalize hD : odS A.ev A.F = D at hpos ⊢
  rw [odS] at hD
  have fin : ∀ τ q, FM [69] [] σ τ → (∀ j, j < (thoS A.F).length → gA τ 69 j = nI (wOf A.F j)) → WW M_X12_order (k + 269) (fun w τ => w = some (.int D.1) ∧ MV τ (A.wR (rngL (thoS A.F).length (fun j => (nI (D.2.getD j 0)).toInt64))) ∧ Fr lM σ0 τ) 55 [some (.ref 52), some (.int (nI (thoS A.F).length)), q] [] τ := by
    intro τ q f hg
    generalize wOf A.F = w at *
    generalize (thoS A.F).length = m at *
    have f1 : FM [69] [29] σ (sI τ 52 29 (-1)) := (f.up _ _ (by decide) (by decide)).sI (by decide)
    have g1 : ∀ j, j < m → gA (sI τ 52 29 (-1)) 69 j = nI (w j) := hg
    have g29 : gI (sI τ 52 29 (-1)) 52 29 = -1 := by rw [gI_sI, if_pos ⟨rfl, rfl⟩]
    refine wpW K_X12_order [60] 20 ?_
    show WW _ _ _ 60 [some (.ref 52), some (.int (nI m)), q] [] (sI τ 52 29 (-1))
    generalize sI τ 52 29 (-1) = τ1 at f1 g1 g29 ⊢
    have hb1 : MVc τ1 A := hb.fr (f1.up _ _ (by decide) (by decide))
    have hgo := ev_goOrder (k + 6 - m) hb1 w m hw g1 m 0 0 [] (-1, []) τ1 (Nat.le_refl _) (by omega) (by rw [Nat.sub_self]; rfl) (fun p hp => by cases hp) ⟨⟨fSd A.F, by
      have e0 : cameF A.F w m 0 = A.F := by
        have : ∀ m, cameF A.F w m 0 = A.F := by
          intro m
          induction m with
          | zero => rfl
          | succ m ih =>
            show (if 0 / 2 ^ m % 2 = 1 then _ else cameF A.F w m 0) = _
            rw [Nat.zero_div, if_neg (by decide)]
            exact ih
        exact this m
      rw [e0]
      rfl⟩, by show hcN A.F = hcN A.F + pcN 0; rw [show pcN 0 = 0 by decide, Nat.add_zero], fun i hi z => by rw [Nat.zero_div] at z; exact absurd z (by decide), by omega⟩ ⟨FM.rf, fun j hj => by rw [Nat.sub_self] at hj; omega, g29, Or.inl rfl⟩
    rw [Nat.sub_self, show k + 6 - m + 262 + m = k + 268 by omega, hD] at hgo
    refine wpW K_X12_order [72] 20 ?_
    refine ⟨_, hgo, ?_⟩
    rintro v τ2 ⟨rfl, f2, -, p2, p3⟩
    have hb68 : ∀ j, j < m → gA τ2 68 j = nI (D.2.getD j 0) := by
      rcases p3 with z | z
      · rw [z] at hpos
        exact absurd hpos (by decide)
      · exact z.2
    obtain ⟨r1, r2⟩ := row_0 τ2
    have f3 : FM [] [6] τ2 (sI τ2 52 6 0) := FM.rf.sI (by decide)
    show WW _ _ _ 72 [some (.ref 52), some (.int (nI m)), q] [] (sI τ2 52 6 0)
    generalize sI τ2 52 6 0 = σ3 at r1 r2 f3 ⊢
    have ff : FM lMs jMs σ σ3 := (f1.up _ _ (by decide) (by decide)).tr ((f2.up _ _ (by decide) (by decide)).tr (f3.up _ _ (by decide) (by decide)))
    have g68 : ∀ j, j < m → gA σ3 68 j = nI (D.2.getD j 0) := fun j hj => by rw [f3.a 68 (by decide)]; exact hb68 j hj
    have q29 : gI σ3 52 29 = D.1 := (f3.i 29 (by decide)).trans p2
    refine wpW K_X12_order [74] 20 ?_
    show WW _ _ _ 74 [some (.ref 52), some (.int (nI m)), some (.int (nI 0))] [] σ3
    refine loopI (α := Sto) 74 (fun i _ => [some (.ref 52), some (.int (nI m)), some (.int (nI i))]) (fun a => a) (fun i a => FM [56] [6] σ3 a ∧ rOK a ∧ mRw a = rngL i (fun j => (nI (D.2.getD j 0)).toInt64)) m ?_ ?_ 0 σ3 (Nat.zero_le _) ⟨FM.rf, r1, r2⟩
    · rintro i υ hi ⟨fu, hr, hR⟩ go2
      have ei : gA υ 68 (nI i).toNatClampNeg = nI (D.2.getD i 0) := by rw [nI_clamp (by omega), fu.a 68 (by decide)]; exact g68 i hi
      refine wpW K_X12_order [74] 40 ?_
      refine ⟨fun e => ?_, fun _ => ⟨in7 (by omega), _, ev_tellL _ hr hR (by rw [rngL_l]; omega) _, ?_⟩⟩
      · rw [le_of_nI (by omega) (by omega)] at e; omega
      rintro v υ' ⟨rfl, r4, e4, f4⟩
      refine go2 υ' _ _ (by rw [← nI_1 i]; rfl) rfl ⟨fu.tr f4, r4, ?_⟩
      rw [e4, rngL_s, ← ei]
    · rintro υ ⟨fu, hr, hR⟩
      refine wpW K_X12_order [] 40 ?_
      refine ⟨fun _ => ?_, fun e => absurd (Int32.le_refl _) e⟩
      have := mv_end hb (ff.tr (fu.up _ _ (by decide) (by decide))) hr hR
      exact ⟨by rw [← q29, ← fu.i 29 (by decide)], this.1, f0.tr this.2⟩
  refine wpW K_X12_order [9] 20 ?_
  show WW _ _ _ 9 [some (.ref 52), some (.int (nI (thoI A.F 0).length)), some (.int (nI 0))] [] σ
  refine loopI (α := Sto) 9 (fun q _ => [some (.ref 52), some (.int (nI (thoI A.F q).length)), some (.int (nI q))]) (fun a => a) (fun q a => FM [69] [] σ a ∧ ∀ j, j < (thoI A.F q).length → gA a 69 j = nI ((thoI A.F q).getD j 0)) (fN A.F) ?_ ?_ 0 σ (Nat.zero_le _) ⟨FM.rf, fun j hj => absurd hj (by show ¬ j < 0; omega)⟩
  · rintro q τ hq ⟨f, hg⟩ go
    have hle : (thoI A.F q).length ≤ 6 := (tho_sp A.F q).1
    have hn : gI τ 52 1 = nI (fN A.F) := (f.i 1 (by decide)).trans hb.n
    have hs : thoI A.F (q + 1) = if fHo A.F q = nI q ∨ 6 ≤ (thoI A.F q).length then thoI A.F q else thoI A.F q ++ [q] := rfl
    have hst : 6 ≤ (thoI A.F q).length → thoS A.F = thoI A.F q := fun h6 => by
      have := tho_stop A.F h6 (fN A.F - q)
      rw [show q + (fN A.F - q) = fN A.F by omega] at this
      exact this
    rw [hs] at go
    generalize thoI A.F q = L at *
    have rHo : gA τ 53 (14 + nI q).toNatClampNeg = fHo A.F q := by
      rw [f.a 53 (by decide), ← hb.F]
      exact (mF_rd σ 53).2.2.2.1 q (by omega)
    refine wpW K_X12_order [9, 55] 40 ?_
    refine ⟨fun e => ?_, fun _ => ⟨fun e => ?_, fun e => ⟨i14_30 (by omega), fun d => ⟨in7 ?_, ?_⟩, fun d => ?_⟩⟩⟩
    · rw [hn, le_of_nI (by omega) (by omega)] at e; omega
    · rw [show (6 : Int32) = nI 6 from rfl, le_of_nI (by omega) (by omega)] at e
      have h1 := hst e
      have := fin τ (some (.int (nI q))) f (fun j hj => by rw [wOf, h1]; rw [h1] at hj; exact hg j hj)
      rw [h1] at this ⊢
      exact this
    · rw [show (6 : Int32) = nI 6 from rfl, le_of_nI (by omega) (by omega)] at e; omega
    · rw [show (6 : Int32) = nI 6 from rfl, le_of_nI (by omega) (by omega)] at e
      have d' : ¬ fHo A.F q = nI q := fun z => d (rHo.trans z)
      rw [if_neg (fun z => z.elim d' e)] at go
      refine go (sA τ 69 (upd (gA τ 69) L.length (nI q))) _ _ ?_ (by rw [nI_clamp (by omega)]) ⟨f.sA (by decide), fun j hj => ?_⟩
      · rw [List.length_append, List.length_singleton, ← nI_1 q, ← nI_1 L.length]
        rfl
      · rw [gA_eq]
        rw [List.length_append, List.length_singleton] at hj
        by_cases c : j = L.length
        · subst c
          rw [pk_us, List.getD_eq_getElem?_getD, List.getElem?_append_right (Nat.le_refl _), Nat.sub_self]
          rfl
        · rw [pk_un c, hg j (by omega), List.getD_eq_getElem?_getD, List.getD_eq_getElem?_getD, List.getElem?_append_left (by omega)]
    · have d' : fHo A.F q = nI q := rHo.symm.trans d
      rw [if_pos (Or.inl d')] at go
      exact go τ _ _ (by rw [← nI_1 q]; rfl) rfl ⟨f, hg⟩
  · rintro τ ⟨f, hg⟩
    have hn : gI τ 52 1 = nI (fN A.F) := (f.i 1 (by decide)).trans hb.n
    refine wpW K_X12_order [55] 40 ?_
    refine ⟨fun _ => fin τ _ f hg, fun e => ?_⟩
    rw [hn, le_of_nI (by omega) (by omega)] at e; omega
