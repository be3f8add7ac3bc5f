/-! the model's calls: wed, loud -/
theorem loud_inv {ev : (Nat → Int32) → Int32} {F : FS} (h7 : fN F ≤ 7) : ∀ i, 0 < i → i ≤ fN F → ∃ b, b < fN F ∧ (loudS ev F i).1 = nI b ∧ (loudS ev F i).2.1 = bcS (sayableS ev F b) := by
  intro i
  induction i with
  | zero => intro h; omega
  | succ i ih =>
    intro _ hi
    have hs : loudS ev F (i + 1) = (fun st : Int32 × Int32 × Int32 => if bcS (sayableS ev F i) ≤ st.2.1 then (st.1, st.2.1, st.2.2 ||| sayableS ev F i) else (nI i, bcS (sayableS ev F i), st.2.2 ||| sayableS ev F i)) (loudS ev F i) := rfl
    rw [hs]
    simp only
    split
    · next c =>
      rcases Nat.eq_zero_or_pos i with z | z
      · subst z
        obtain ⟨m, m1, -, m3⟩ := say_nI (ev := ev) (F := F) (q := 0) h7
        have hp := pc_7 m m1
        rw [m3] at c
        exact absurd c (Int32.not_le.mpr (m1_lt (by omega)))
      · exact ih z (by omega)
    · exact ⟨i, by omega, rfl, rfl⟩
theorem mc_loud (k : Nat) (A : AS) : MC (k + 263) M_X12_loud [] A (.int (loudC A).1) (loudC A).2 := by
  intro σ0 hv0
  refine EvM.of mk_X12_loud (Nat.le_of_ble_eq_true rfl) ?_
  refine wpW K_X12_loud [5] 10 ?_
  obtain ⟨hv, f0⟩ := mv_t0 hv0
  show WW _ _ _ 5 [some (.ref 52), none, none, none, none] _ (t0S σ0)
  generalize t0S σ0 = σ at hv f0 ⊢
  have hb := hv.1
  have h7 := hb.n7
  have hsay : ∀ τ, FM lMs jMs σ τ → ∀ q, q < fN A.F → EvM (k + 262) M_X12_sayable [.ref 52, .ref 53, .int (nI q)] τ (fun v υ => v = some (.int (sayableS A.ev A.F q)) ∧ FM [60] jQ τ υ) := by
    intro τ f q hq
    have h' := hb.fr f
    have := ev_sayableM k τ 53 (Or.inl rfl) h'.mok A.ev h'.ru q (by rw [h'.F]; exact hq)
    rw [h'.F] at this
    exact this
  unfold loudC
  refine wpW K_X12_loud [21] 60 ?_
  refine ⟨fun c => ?_, fun c => ?_⟩
  rotate_left
  · rw [hb.n, show (0 : Int32) = nI 0 from rfl, eq_of_nI (by omega) (by omega)] at c
    rw [if_pos c]
    exact ⟨rfl, hv, f0⟩
  rw [hb.n, show (0 : Int32) = nI 0 from rfl, eq_of_nI (by omega) (by omega)] at c
  rw [if_neg c]
  refine loopI (α := Sto × (Nat × Int32) × Option Value) 21 (fun i a => [some (.ref 52), some (.int (nI a.2.1.1)), some (.int a.2.1.2), some (.int (nI i)), a.2.2]) (fun a => a.1) (fun i a => FM [60] jQ σ a.1 ∧ a.2.1.1 < fN A.F ∧ a.2.1.2 = (loudS A.ev A.F i).2.2 ∧ (i = 0 ∧ a.2.1.1 = 0 ∨ (loudS A.ev A.F i).1 = nI a.2.1.1 ∧ (loudS A.ev A.F i).2.1 = bcS (sayableS A.ev A.F a.2.1.1))) (fN A.F) ?_ ?_ 0 (σ, (0, 0), none) (Nat.zero_le _) ⟨FM.rf, by simp only; omega, rfl, Or.inl ⟨rfl, rfl⟩⟩
  · rintro i ⟨τ, ⟨b, s⟩, o⟩ hi ⟨f, hbn, hsd, hI⟩ go
    simp only at f hbn hsd hI ⊢
    have hs : loudS A.ev A.F (i + 1) = (fun st : Int32 × Int32 × Int32 => if bcS (sayableS A.ev A.F i) ≤ st.2.1 then (st.1, st.2.1, st.2.2 ||| sayableS A.ev A.F i) else (nI i, bcS (sayableS A.ev A.F i), st.2.2 ||| sayableS A.ev A.F i)) (loudS A.ev A.F i) := rfl
    simp only at hs
    refine wpW K_X12_loud [21] 60 ?_
    refine ⟨fun e => ?_, fun _ => ⟨_, hsay τ (f.up _ _ (by decide) (by decide)) i hi, ?_⟩⟩
    · rw [f.i 1 (by decide), hb.n, le_of_nI (by omega) (by omega)] at e; omega
    rintro v τ1 ⟨rfl, f1⟩
    refine ⟨_, ev_bc _ _ _, ?_⟩
    rintro v τ' ⟨h9, rfl⟩
    obtain rfl := h9.symm
    refine ⟨_, hsay τ1 ((f.tr f1).up _ _ (by decide) (by decide)) b hbn, ?_⟩
    rintro v τ2 ⟨rfl, f2⟩
    refine ⟨_, ev_bc _ _ _, ?_⟩
    rintro v τ' ⟨h9, rfl⟩
    obtain rfl := h9.symm
    have ff := (f.tr f1).tr f2
    have sd : (loudS A.ev A.F (i + 1)).2.2 = s ||| sayableS A.ev A.F i := by rw [hs]; split <;> rw [hsd]
    refine ⟨fun e => ?_, fun e => ?_⟩
    · refine go (τ2, (b, s ||| sayableS A.ev A.F i), some (.int (sayableS A.ev A.F i))) _ _ (by rw [← nI_1]; rfl) rfl ⟨ff, hbn, sd.symm, Or.inr ?_⟩
      simp only
      rcases hI with ⟨rfl, rfl⟩ | ⟨i1, i2⟩
      · have hc : ¬ bcS (sayableS A.ev A.F 0) ≤ (loudS A.ev A.F 0).2.1 := by
          obtain ⟨m, m1, -, m3⟩ := say_nI (ev := A.ev) (F := A.F) (q := 0) h7
          have hp := pc_7 m m1
          rw [m3]
          exact Int32.not_le.mpr (m1_lt (by omega))
        rw [hs, if_neg hc]
        exact ⟨rfl, rfl⟩
      · rw [hs, i2, if_pos e]
        exact ⟨i1, rfl⟩
    · refine go (τ2, (i, s ||| sayableS A.ev A.F i), some (.int (sayableS A.ev A.F i))) _ _ (by rw [← nI_1]; rfl) rfl ⟨ff, hi, sd.symm, Or.inr ?_⟩
      simp only
      rcases hI with ⟨rfl, rfl⟩ | ⟨i1, i2⟩
      · exact absurd (Int32.le_refl _) e
      · rw [hs, i2, if_neg e]
        exact ⟨rfl, rfl⟩
  · rintro ⟨τ, ⟨b, s⟩, o⟩ ⟨f, hbn, hsd, hI⟩
    simp only at f hbn hsd hI ⊢
    have hI' := hI.resolve_left (fun z => by omega)
    refine wpW K_X12_loud [82] 60 ?_
    refine ⟨fun _ => ?_, fun e => ?_⟩
    rotate_left
    · rw [f.i 1 (by decide), hb.n, le_of_nI (by omega) (by omega)] at e; omega
    obtain ⟨r1, r2⟩ := row_0 τ
    have f3 : FM [] [6] τ (sI τ 52 6 0) := FM.rf.sI (by decide)
    show WW _ _ _ 82 [some (.ref 52), some (.int (nI b)), some (.int s), some (.int (nI (fN A.F))), o] [] (sI τ 52 6 0)
    generalize sI τ 52 6 0 = σ3 at r1 r2 f3 ⊢
    have f13 : FM lMs jMs σ σ3 := (f.up _ _ (by decide) (by decide)).tr (f3.up _ _ (by decide) (by decide))
    refine wpW K_X12_loud [] 60 ?_
    refine ⟨_, hsay σ3 f13 b hbn, ?_⟩
    rintro v σ4 ⟨rfl, f4⟩
    refine ⟨_, ev_bc _ _ _, ?_⟩
    rintro v τ' ⟨h9, rfl⟩
    obtain rfl := h9.symm
    obtain ⟨w4, k4⟩ := rw_fr f4 (by decide) (by decide)
    refine ⟨_, ev_tellL _ (k4 r1) (w4.trans r2) (by simp) _, ?_⟩
    rintro v σ5 ⟨rfl, r5, e5, f5⟩
    have f15 : FM lMs jMs σ σ5 := (f13.tr (f4.up _ _ (by decide) (by decide))).tr (f5.up _ _ (by decide) (by decide))
    refine ⟨_, ev_all _ σ5 (fN A.F) (hb.fr f15).n, ?_⟩
    rintro v τ' ⟨h9, rfl⟩
    obtain rfl := h9.symm
    refine ⟨_, ev_tellL _ r5 e5 (by simp) _, ?_⟩
    rintro v σ6 ⟨rfl, r6, e6, f6⟩
    have ff : FM lMs jMs σ σ6 := f15.tr (f6.up _ _ (by decide) (by decide))
    rw [hI'.1, hI'.2, ← hsd]
    have := mv_end hb ff r6 e6
    exact ⟨rfl, this.1, f0.tr this.2⟩
theorem wedM_le (F : FS) : ∀ n, (wedS F n).1 ≤ n ∧ (wedS F n).2.length ≤ 2 := by
  intro n
  induction n with
  | zero => exact ⟨Nat.le_refl _, Nat.zero_le _⟩
  | succ n ih =>
    have hs : wedS F (n + 1) = (fun st : Nat × List Int64 => if n < hoN F n ∧ hoN F (hoN F n) = n then (st.1 + 1, if st.1 = 0 then [(nI n).toInt64, (nI (hoN F n)).toInt64] else st.2) else st) (wedS F n) := rfl
    rw [hs]
    simp only
    split
    · refine ⟨by simp only; omega, ?_⟩
      simp only
      split
      · exact Nat.le_refl _
      · exact ih.2
    · exact ⟨by omega, ih.2⟩
theorem wedM_0 (F : FS) : ∀ n, (wedS F n).1 = 0 → (wedS F n).2 = [] := by
  intro n
  induction n with
  | zero => intro _; rfl
  | succ n ih =>
    have hs : wedS F (n + 1) = (fun st : Nat × List Int64 => if n < hoN F n ∧ hoN F (hoN F n) = n then (st.1 + 1, if st.1 = 0 then [(nI n).toInt64, (nI (hoN F n)).toInt64] else st.2) else st) (wedS F n) := rfl
    rw [hs]
    simp only
    split
    · intro h; simp at h
    · exact ih
theorem mc_wed (k : Nat) (A : AS) : MC (k + 2) M_X12_wed [] A (.int (nI (wedS A.F (fN A.F)).1)) (A.wR (wedS A.F (fN A.F)).2) := by
  intro σ0 hv0
  refine EvM.of mk_X12_wed (Nat.le_of_ble_eq_true rfl) ?_
  refine wpW K_X12_wed [5] 10 ?_
  obtain ⟨hv, f0⟩ := mv_t0 hv0
  show WW _ _ _ 5 [some (.ref 52), none, none, none] _ (t0S σ0)
  generalize t0S σ0 = σ at hv f0 ⊢
  have hb := hv.1
  have h7 := hb.n7
  obtain ⟨r1, r2⟩ := row_0 σ
  have f3 : FM [] [6] σ (sI σ 52 6 0) := FM.rf.sI (by decide)
  refine wpW K_X12_wed [14] 60 ?_
  show WW _ _ _ 14 [some (.ref 52), some (.int (nI 0)), some (.int (nI 0)), none] [] (sI σ 52 6 0)
  generalize sI σ 52 6 0 = σ3 at r1 r2 f3 ⊢
  have rd : ∀ τ, FM [56] [6] σ τ → ∀ i, i < fN A.F → gA τ 53 (14 + nI i).toNatClampNeg = nI (hoN A.F i) := fun τ f i hi => by
    have := (mF_rd τ 53).2.2.2.1 i (by omega)
    rw [(hb.fr (f.up _ _ (by decide) (by decide))).F, (fs_ho hb.ok.1 hi).2] at this
    exact this
  refine loopI (α := Sto × Option Value) 14 (fun p a => [some (.ref 52), some (.int (nI (wedS A.F p).1)), some (.int (nI p)), a.2]) (fun a => a.1) (fun p a => FM [56] [6] σ a.1 ∧ rOK a.1 ∧ mRw a.1 = (wedS A.F p).2) (fN A.F) ?_ ?_ 0 (σ3, none) (Nat.zero_le _) ⟨f3.up _ _ (by decide) (by decide), r1, r2⟩
  · rintro p ⟨τ, o⟩ hp ⟨f, hr, hR⟩ go
    simp only at f hr hR ⊢
    have hW : wedS A.F (p + 1) = (fun st : Nat × List Int64 => if p < hoN A.F p ∧ hoN A.F (hoN A.F p) = p then (st.1 + 1, if st.1 = 0 then [(nI p).toInt64, (nI (hoN A.F p)).toInt64] else st.2) else st) (wedS A.F p) := rfl
    simp only at hW
    obtain ⟨w1, w2⟩ := wedM_le A.F p
    have w0 := wedM_0 A.F p
    have hh := (fs_ho hb.ok.1 hp).1
    generalize hWe : wedS A.F (p + 1) = W at hW go
    generalize wedS A.F p = st at *
    generalize hhe : hoN A.F p = h at *
    refine wpW K_X12_wed [26] 60 ?_
    refine ⟨fun e => ?_, fun _ => ?_⟩
    · rw [f.i 1 (by decide), hb.n, le_of_nI (by omega) (by omega)] at e; omega
    show WW _ _ _ 26 [some (.ref 52), some (.int (nI st.1)), some (.int (nI p)), some (.int (nI p + 1))] [] τ
    rw [nI_1]
    have inner := loopI (α := Sto × (Nat × List Int64)) (M := M_X12_wed) (k := k + 2) (Q := fun w τ => w = some (.int (nI (wedS A.F (fN A.F)).1)) ∧ MV τ (A.wR (wedS A.F (fN A.F)).2) ∧ Fr lM σ0 τ) 26 (fun j a => [some (.ref 52), some (.int (nI a.2.1)), some (.int (nI p)), some (.int (nI (p + 1 + j)))]) (fun a => a.1) (fun j a => FM [56] [6] σ a.1 ∧ rOK a.1 ∧ mRw a.1 = a.2.2 ∧ a.2 = if p < h ∧ h < p + 1 + j ∧ hoN A.F h = p then W else st) (fN A.F - (p + 1)) ?_ ?_ 0 (τ, st) (Nat.zero_le _) ⟨f, hr, hR, by rw [if_neg (by omega)]⟩
    · exact inner
    · rintro j ⟨τ, a⟩ hj ⟨g, kr, kR, hI⟩ go2
      simp only at g kr kR hI ⊢
      have e1 := rd τ g p hp
      have e2 := rd τ g (p + 1 + j) (by omega)
      rw [hhe] at e1
      refine wpW K_X12_wed [26] 60 ?_
      refine ⟨fun e => ?_, fun _ => ⟨i14_30 (by omega), fun e => ?_, fun e => ⟨i14_30 (by omega), fun e3 => ?_, fun e3 => ?_⟩⟩⟩
      · rw [g.i 1 (by decide), hb.n, le_of_nI (by omega) (by omega)] at e; omega
      · have e' : ¬ h = p + 1 + j := fun z => e (by rw [show gA τ (52 + 1) (14 + nI p).toNatClampNeg = nI h from e1, z])
        refine go2 (τ, a) _ _ (by rw [show p + 1 + (j + 1) = p + 1 + j + 1 from rfl, ← nI_1 (p + 1 + j)]; rfl) rfl ⟨g, kr, kR, ?_⟩
        rw [hI]
        by_cases c : p < h ∧ h < p + 1 + j ∧ hoN A.F h = p
        · rw [if_pos c, if_pos (by omega)]
        · rw [if_neg c, if_neg (by omega)]
      · have e' : h = p + 1 + j := by
          have : nI h = nI (p + 1 + j) := e1.symm.trans e
          rw [eq_of_nI (by omega) (by omega)] at this
          exact this
        have e3' : hoN A.F h = p := by
          have : nI (hoN A.F (p + 1 + j)) = nI p := e2.symm.trans e3
          have hb2 := (fs_ho hb.ok.1 (show p + 1 + j < fN A.F by omega)).1
          rw [eq_of_nI (by omega) (by omega)] at this
          rw [e']; exact this
        rw [if_neg (by omega)] at hI
        subst hI
        rw [if_pos ⟨by omega, e3'⟩] at hW
        have nW : (if p < h ∧ h < p + 1 + (j + 1) ∧ hoN A.F h = p then W else a) = W := if_pos ⟨by omega, by omega, e3'⟩
        refine ⟨fun c => ?_, fun c => ?_⟩
        · have c' : ¬ a.1 = 0 := fun z => c (by rw [z]; rfl)
          rw [if_neg c'] at hW
          refine go2 (τ, W) _ _ (by rw [hW, show p + 1 + (j + 1) = p + 1 + j + 1 from rfl, ← nI_1 (p + 1 + j)]; show _ = [_, some (Value.int (nI (a.1 + 1))), _, _]; rw [← nI_1 a.1]; rfl) rfl ⟨g, kr, ?_, ?_⟩
          · simp only; rw [kR, hW]
          · simp only; rw [nW]
        · have c' : a.1 = 0 := by
            have : nI a.1 = nI 0 := c
            rw [eq_of_nI (by omega) (by omega)] at this
            exact this
          rw [if_pos c'] at hW
          rw [w0 c'] at kR
          refine ⟨_, ev_tellL _ kr kR (by simp) _, ?_⟩
          rintro v τ1 ⟨rfl, r4, e4, f4⟩
          refine ⟨_, ev_tellL _ r4 e4 (by simp) _, ?_⟩
          rintro v τ2 ⟨rfl, r5, e5, f5⟩
          refine go2 (τ2, W) _ _ (by rw [hW, show p + 1 + (j + 1) = p + 1 + j + 1 from rfl, ← nI_1 (p + 1 + j)]; show _ = [_, some (Value.int (nI (a.1 + 1))), _, _]; rw [← nI_1 a.1]; rfl) rfl ⟨(g.tr f4).tr f5, r5, ?_, ?_⟩
          · rw [e5, hW, e']; rfl
          · simp only; rw [nW]
      · have e' : h = p + 1 + j := by
          have : nI h = nI (p + 1 + j) := e1.symm.trans e
          rw [eq_of_nI (by omega) (by omega)] at this
          exact this
        have e3' : ¬ hoN A.F h = p := fun z => e3 (by rw [show gA τ (52 + 1) (14 + nI (p + 1 + j)).toNatClampNeg = nI (hoN A.F (p + 1 + j)) from e2, ← e', z])
        refine go2 (τ, a) _ _ (by rw [show p + 1 + (j + 1) = p + 1 + j + 1 from rfl, ← nI_1 (p + 1 + j)]; rfl) rfl ⟨g, kr, kR, ?_⟩
        rw [hI, if_neg (fun z => e3' z.2.2), if_neg (fun z => e3' z.2.2)]
    · rintro ⟨τ, a⟩ ⟨f, hr, hR, hI⟩
      simp only at f hr hR hI ⊢
      have hIW : a = W := by
        rw [hI, hW]
        by_cases c : p < h ∧ hoN A.F h = p
        · rw [if_pos ⟨c.1, by omega, c.2⟩]
        · rw [if_neg (fun z => c ⟨z.1, z.2.2⟩), if_neg c]
      refine wpW K_X12_wed [14] 60 ?_
      refine ⟨fun _ => ?_, fun e => ?_⟩
      · refine go (τ, some (.int (nI (p + 1 + (fN A.F - (p + 1)))))) _ _ ?_ rfl ⟨f, hr, by simp only; rw [hR, hIW]⟩
        rw [← nI_1, ← hIW]; rfl
      · rw [f.i 1 (by decide), hb.n, le_of_nI (by omega) (by omega)] at e; omega
  · rintro ⟨τ, o⟩ ⟨f, hr, hR⟩
    simp only at f hr hR ⊢
    refine wpW K_X12_wed [] 60 ?_
    refine ⟨fun _ => ?_, fun e => ?_⟩
    · have := mv_end hb (f.up _ _ (by decide) (by decide)) hr hR
      exact ⟨rfl, this.1, f0.tr this.2⟩
    · rw [f.i 1 (by decide), hb.n, le_of_nI (by omega) (by omega)] at e; omega
