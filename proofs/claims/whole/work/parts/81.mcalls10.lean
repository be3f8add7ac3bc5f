/-! the model's calls: goes, wed, loud, robs -/
theorem say_nI {ev : (Nat → Int32) → Int32} {F : FS} {q : Nat} (h7 : fN F ≤ 7) : ∃ m, m < 128 ∧ sayableS ev F q = nI m ∧ bcS (sayableS ev F q) = nI (pcN m) := by
  have e : sayableS ev F q = nI (maskN (fun i => canS ev F q i) (fN F)) := mask_nI h7
  have hl := mask_lt (fun i => canS ev F q i) (fN F)
  have hp := pow7 h7
  exact ⟨_, by omega, e, by rw [e, bc_nI _ (by omega)]⟩
theorem m1_lt {n : Nat} (h : n ≤ 1024) : (-1 : Int32) < nI n := by
  rw [Int32.lt_iff_toInt_lt, nI_toInt (by omega)]
  show (-1 : Int) < _
  omega
theorem go_init {ev : (Nat → Int32) → Int32} {F : FS} {q : Nat} (h7 : fN F ≤ 7) (a b : Int32) : ∀ n, goS ev F q a (n + 1) = goS ev F q b (n + 1) := by
  intro n
  induction n with
  | zero =>
    have h : (-1 : Int32) < goN ev F q 0 := by
      obtain ⟨m, m1, -, m3⟩ := say_nI (ev := ev) (F := goF F q 0) (q := q) h7
      rw [goN, m3]
      have := pc_7 m m1
      exact m1_lt (by omega)
    have key : ∀ a, goS ev F q a 1 = (goN ev F q 0, nI 0) := fun a => if_pos (Or.inl h)
    rw [key, key]
  | succ n ih =>
    have e : ∀ a, goS ev F q a (n + 2) = (fun st : Int32 × Int32 => if st.1 < goN ev F q (n + 1) ∨ goN ev F q (n + 1) = st.1 ∧ absS (nI (n + 1) - fPl F q) < absS (st.2 - fPl F q) then (goN ev F q (n + 1), nI (n + 1)) else st) (goS ev F q a (n + 1)) := fun _ => rfl
    rw [e, e, ih]
theorem mc_goes (k : Nat) (A : AS) (x : Int32) : MC (k + 263) M_X12_goes [.int x] A (.int (goesC A x).1) (goesC A x).2 := by
  intro σ0 hv0
  refine EvM.of mk_X12_goes (Nat.le_of_ble_eq_true rfl) ?_
  refine wpW K_X12_goes [5] 10 ?_
  obtain ⟨hv, f0⟩ := mv_t0 hv0
  show WW _ _ _ 5 [some (.ref 52), some (.int x), none, none, none, none] _ (t0S σ0)
  generalize t0S σ0 = σ at hv f0 ⊢
  have hb := hv.1
  have h7 := hb.n7
  unfold goesC
  refine wpW K_X12_goes [22] 60 ?_
  refine ⟨_, ev_isOne _ σ (fN A.F) hb.n h7 x, ?_⟩
  rintro v τ ⟨h9, rfl⟩
  obtain rfl := h9.symm
  refine ⟨fun c => ?_, fun c => ?_⟩
  rotate_left
  · rw [bI_eq] at c
    rw [if_neg (by rw [c]; decide)]
    exact ⟨rfl, hv, f0⟩
  rw [bI_ne] at c
  rw [if_pos c]
  obtain ⟨x1, x2⟩ := in_of h7 c
  generalize x.toNatClampNeg = q at *
  subst x2
  rw [go_init h7 (fPl A.F q) (-1) 9]
  have rd : ∀ τ, FM lMs jMs σ τ → gA τ 53 (nI q).toNatClampNeg = fPl A.F q := fun τ f => by
    have := (mF_rd τ 53).1 q (by omega)
    rw [(hb.fr f).F] at this
    exact this
  refine loopI (α := Sto × (Int32 × Int32) × Option Value) 22 (fun i a => [some (.ref 52), some (.int (nI q)), some (.int a.2.1.2), some (.int a.2.1.1), some (.int (nI i)), a.2.2]) (fun a => a.1) (fun i a => FM [60, 63] jQ σ a.1 ∧ a.2.1 = goS A.ev A.F q (-1) i) 10 ?_ ?_ 0 (σ, (-1, -1), none) (Nat.zero_le _) ⟨FM.rf, rfl⟩
  · rintro i ⟨τ, ⟨m, b⟩, o⟩ hi ⟨f, hI⟩ go
    simp only at f hI ⊢
    have hs : goS A.ev A.F q (-1) (i + 1) = (fun st : Int32 × Int32 => if st.1 < goN A.ev A.F q i ∨ goN A.ev A.F q i = st.1 ∧ absS (nI i - fPl A.F q) < absS (st.2 - fPl A.F q) then (goN A.ev A.F q i, nI i) else st) (goS A.ev A.F q (-1) i) := rfl
    rw [← hI] at hs
    simp only at hs
    have f' : FM lMs jMs σ τ := f.up _ _ (by decide) (by decide)
    refine wpW K_X12_goes [22, 49, 61] 60 ?_
    refine ⟨fun e => ?_, fun _ => ⟨_, ev_lay63 _ (hb.fr f'), ?_⟩⟩
    · rw [show (10 : Int32) = nI 10 from rfl, le_of_nI (by omega) (by omega)] at e; omega
    rintro v σ1 ⟨rfl, hJ1⟩
    have hJ2 : FJ 63 τ (sA σ1 63 (upd (gA σ1 63) q (nI i))) (fN A.F) (goF A.F q i) := by
      refine hJ1.w (Or.inr rfl) (FM.rf.sA (by decide)) ?_ rfl hb.ok.1
      rw [mF_sA (Or.inr rfl), mG_Pl _ _ _ (by omega)]
      show wPl (mF σ1 63) (upd (fPl (mF σ1 63)) q _) = _
      rw [hJ1.1]
      rfl
    refine ⟨i30 (by omega), ?_⟩
    show WW _ _ _ 49 [some (.ref 52), some (.int (nI q)), some (.int b), some (.int m), some (.int (nI i)), o] [] (sA σ1 63 (upd (gA σ1 63) (nI q).toNatClampNeg (nI i)))
    rw [nI_clamp (by omega)]
    generalize sA σ1 63 (upd (gA σ1 63) q (nI i)) = σ2 at hJ2 ⊢
    have hsay := ev_sayableM k σ2 63 (Or.inr rfl) hJ2.2.1 A.ev (hJ2.rule (Or.inr rfl) (hb.fr f').ru) q (by rw [hJ2.1]; exact x1)
    rw [hJ2.1] at hsay
    refine wpW K_X12_goes [22, 61] 60 ?_
    refine ⟨_, hsay, ?_⟩
    rintro v σ3 ⟨rfl, f3⟩
    refine ⟨_, ev_bc _ _ _, ?_⟩
    rintro v τ' ⟨h9, rfl⟩
    obtain rfl := h9.symm
    have ff : FM [60, 63] jQ σ σ3 := (f.tr hJ2.2.2.2).tr (f3.up _ _ (by decide) (by decide))
    have e53 := rd σ3 (ff.up _ _ (by decide) (by decide))
    show WW _ _ _ 61 [some (.ref 52), some (.int (nI q)), some (.int b), some (.int m), some (.int (nI i)), o] [.int (goN A.ev A.F q i)] σ3
    generalize goN A.ev A.F q i = g at hs ⊢
    refine wpW K_X12_goes [22] 60 ?_
    refine ⟨fun e => ?_, fun e => ⟨fun e2 => ?_, fun e2 => ⟨i30 (by omega), i30 (by omega), fun e3 => ?_, fun e3 => ?_⟩⟩⟩
    · refine go (σ3, (m, b), _) _ _ (by rw [← nI_1]; rfl) rfl ⟨ff, ?_⟩
      rw [hs, if_neg]
      rintro (z | z)
      · exact Int32.lt_irrefl (Int32.lt_trans e z)
      · rw [z.1] at e; exact Int32.lt_irrefl e
    · refine go (σ3, (g, nI i), some (.int g)) _ _ (by rw [← nI_1]; rfl) rfl ⟨ff, ?_⟩
      rw [hs, if_pos]
      left
      rw [Int32.lt_iff_toInt_lt] at e ⊢
      rw [← Int32.toInt_inj] at e2
      omega
    · refine go (σ3, (g, nI i), some (.int g)) _ _ (by rw [← nI_1]; rfl) rfl ⟨ff, ?_⟩
      rw [hs, if_pos]
      right
      refine ⟨e2, ?_⟩
      have e3' : absS (nI i - gA σ3 53 (nI q).toNatClampNeg) < absS (b - gA σ3 53 (nI q).toNatClampNeg) := e3
      rw [e53] at e3'
      exact e3'
    · refine go (σ3, (m, b), _) _ _ (by rw [← nI_1]; rfl) rfl ⟨ff, ?_⟩
      rw [hs, if_neg]
      rintro (z | z)
      · rw [e2] at z; exact Int32.lt_irrefl z
      · have e3' : ¬ absS (nI i - gA σ3 53 (nI q).toNatClampNeg) < absS (b - gA σ3 53 (nI q).toNatClampNeg) := e3
        rw [e53] at e3'
        exact e3' z.2
  · rintro ⟨τ, ⟨m, b⟩, o⟩ ⟨f, hI⟩
    simp only at f hI ⊢
    refine wpW K_X12_goes [121] 60 ?_
    refine ⟨fun _ => ?_, fun e => absurd (show (10 : Int32) ≤ nI 10 by decide) e⟩
    obtain ⟨r1, r2⟩ := row_0 τ
    have f3 : FM [] [6] τ (sI τ 52 6 0) := FM.rf.sI (by decide)
    show WW _ _ _ 121 [some (.ref 52), some (.int (nI q)), some (.int b), some (.int m), some (.int (nI 10)), o] [] (sI τ 52 6 0)
    generalize sI τ 52 6 0 = σ3 at r1 r2 f3 ⊢
    refine wpW K_X12_goes [] 60 ?_
    refine ⟨_, ev_tellL _ r1 r2 (by simp) _, ?_⟩
    rintro v σ4 ⟨rfl, r4, e4, f4⟩
    have f14 : FM lMs jMs σ σ4 := ((f.up _ _ (by decide) (by decide)).tr (f3.up _ _ (by decide) (by decide))).tr (f4.up _ _ (by decide) (by decide))
    have e53 := rd σ4 f14
    refine ⟨i30 (by omega), _, ev_tellL _ r4 e4 (by simp) _, ?_⟩
    rintro v σ6 ⟨rfl, r6, e6, f6⟩
    have ff : FM lMs jMs σ σ6 := f14.tr (f6.up _ _ (by decide) (by decide))
    rw [← hI]
    have e6' : mRw σ6 = [m.toInt64, (absS (b - fPl A.F q)).toInt64] := by rw [e6, ← e53]; rfl
    have := mv_end hb ff r6 e6'
    exact ⟨rfl, this.1, f0.tr this.2⟩
theorem mc_robs (k : Nat) (A : AS) (x : Int32) : MC (k + 2) M_X12_robs [.int x] A (.int (robsC A x).1) (robsC A x).2 := by
  intro σ0 hv0
  refine EvM.of mk_X12_robs (Nat.le_of_ble_eq_true rfl) ?_
  refine wpW K_X12_robs [5] 10 ?_
  obtain ⟨hv, f0⟩ := mv_t0 hv0
  show WW _ _ _ 5 [some (.ref 52), some (.int x), none, none, none] _ (t0S σ0)
  generalize t0S σ0 = σ at hv f0 ⊢
  have hb := hv.1
  have h7 := hb.n7
  obtain ⟨-, -, rPu, rHo, -⟩ := mF_rd σ 53
  rw [hb.F] at rPu rHo
  unfold robsC
  refine wpW K_X12_robs [22] 60 ?_
  refine ⟨_, ev_isOne _ σ (fN A.F) hb.n h7 x, ?_⟩
  rintro v τ ⟨h9, rfl⟩
  obtain rfl := h9.symm
  refine ⟨fun c => ?_, fun c => ?_⟩
  rotate_left
  · rw [bI_eq] at c
    rw [if_neg (by rw [c]; decide)]
    exact ⟨rfl, hv, f0⟩
  rw [bI_ne] at c
  rw [if_pos c]
  obtain ⟨x1, x2⟩ := in_of h7 c
  generalize x.toNatClampNeg = q at *
  subst x2
  refine loopI (α := Int32 × Option Nat) 22 (fun i a => [some (.ref 52), some (.int (nI q)), some (.int a.1), some (.int (opI a.2)), some (.int (nI i))]) (fun _ => σ) (fun i a => a = robS A.F q i) (fN A.F) ?_ ?_ 0 (0, none) (Nat.zero_le _) rfl
  · rintro i ⟨s, b⟩ hi hI go
    simp only
    have hs : robS A.F q (i + 1) = (fun st : Int32 × Option Nat => if fHo A.F i = nI q ∧ ¬ i = q then (st.1 + fPu A.F i, match st.2 with
      | some b => if fPu A.F i ≤ fPu A.F b then some b else some i
      | none => some i) else st) (robS A.F q i) := rfl
    have hbl := rob_lt A.F q i
    rw [← hI] at hs hbl
    simp only at hs hbl
    have eH := rHo i (by omega)
    have eP := rPu i (by omega)
    refine wpW K_X12_robs [22, 100] 60 ?_
    refine ⟨fun e => ?_, fun _ => ⟨fun e => ?_, fun e => ⟨i14_30 (by omega), fun e2 => ⟨i7_30 (by omega), ?_⟩, fun e2 => ?_⟩⟩⟩
    · rw [hb.n, le_of_nI (by omega) (by omega)] at e; omega
    · rw [eq_of_nI (by omega) (by omega)] at e
      exact go (s, b) _ _ (by rw [← nI_1]; rfl) rfl (by rw [hs, if_neg (fun z => z.2 e)])
    · rw [eq_of_nI (by omega) (by omega)] at e
      have e2' : fHo A.F i = nI q := eH.symm.trans e2
      rw [if_pos ⟨e2', e⟩] at hs
      have eP' : gA σ (52 + 1) (7 + nI i).toNatClampNeg = fPu A.F i := eP
      match b, hbl with
      | none, _ =>
        refine ⟨fun _ => ?_, fun z => absurd rfl z⟩
        rw [eP']
        refine wpW K_X12_robs [22] 60 ?_
        exact go (s + fPu A.F i, some i) _ _ (by rw [← nI_1]; rfl) rfl hs.symm
      | some b, hbl =>
        have hb' := hbl b rfl
        have eB : gA σ (52 + 1) (7 + nI b).toNatClampNeg = fPu A.F b := rPu b (by omega)
        refine ⟨fun z => absurd z (ne_m1 (by omega)), fun _ => ⟨i7_30 (by omega), i7_30 (by omega), fun z => ?_, fun z => ?_⟩⟩
        · have z' : fPu A.F i ≤ fPu A.F b := by rw [← eP', ← eB]; exact z
          simp only [if_pos z'] at hs
          rw [eP']
          refine wpW K_X12_robs [22] 60 ?_
          exact go (s + fPu A.F i, some b) _ _ (by rw [← nI_1]; rfl) rfl hs.symm
        · have z' : ¬ fPu A.F i ≤ fPu A.F b := by rw [← eP', ← eB]; exact z
          simp only [if_neg z'] at hs
          rw [eP']
          refine wpW K_X12_robs [22] 60 ?_
          exact go (s + fPu A.F i, some i) _ _ (by rw [← nI_1]; rfl) rfl hs.symm
    · have e2' : ¬ fHo A.F i = nI q := fun z => e2 (eH.trans z)
      exact go (s, b) _ _ (by rw [← nI_1]; rfl) rfl (by rw [hs, if_neg (fun z => e2' z.1)])
  · rintro ⟨s, b⟩ hI
    simp only
    refine wpW K_X12_robs [112] 60 ?_
    refine ⟨fun _ => ?_, fun e => ?_⟩
    rotate_left
    · rw [hb.n, le_of_nI (by omega) (by omega)] at e; omega
    obtain ⟨r1, r2⟩ := row_0 σ
    have f3 : FM [] [6] σ (sI σ 52 6 0) := FM.rf.sI (by decide)
    show WW _ _ _ 112 [some (.ref 52), some (.int (nI q)), some (.int s), some (.int (opI b)), some (.int (nI (fN A.F)))] [] (sI σ 52 6 0)
    generalize sI σ 52 6 0 = σ3 at r1 r2 f3 ⊢
    refine wpW K_X12_robs [] 60 ?_
    refine ⟨_, ev_tellL _ r1 r2 (by simp) _, ?_⟩
    rintro v σ4 ⟨rfl, r4, e4, f4⟩
    have ff : FM lMs jMs σ σ4 := (f3.up _ _ (by decide) (by decide)).tr (f4.up _ _ (by decide) (by decide))
    rw [← hI]
    have := mv_end hb ff r4 e4
    exact ⟨rfl, this.1, f0.tr this.2⟩
