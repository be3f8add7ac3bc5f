/-! the model's calls: asks -/
theorem fo_split {α : Type} (s : Nat → α → α) (a : α) (m : Nat) : ∀ n, fo s a (m + n) = fo (fun i x => s (m + i) x) (fo s a m) n := by
  intro n
  induction n with
  | zero => rfl
  | succ n ih => rw [← Nat.add_assoc, fo, ih, fo]
def askM (ev : (Nat → Int32) → Int32) (F : FS) (b : Int32) (a : Nat) (st : Int32 × Int32) : Int32 × Int32 := if 7 ≤ a ∧ a ≤ 29 then st else if st.2 ≤ leftS ev F b (nI (a / 10)) (nI (a % 10)) then st else (nI a, leftS ev F b (nI (a / 10)) (nI (a % 10)))
theorem sub_7 : ∀ a, a ≤ 7 → ∀ b, b ≤ 7 → (nI a - nI b).toInt ≤ 7 := by decide +kernel
theorem cnt_nI (P : Nat → Bool) : ∀ n, ∃ c, c ≤ n ∧ fo (fun i (s : Int32) => if P i then s + 1 else s) 0 n = nI c := by
  intro n
  induction n with
  | zero => exact ⟨0, Nat.le_refl _, rfl⟩
  | succ n ih =>
    obtain ⟨c, c1, c2⟩ := ih
    rw [fo, c2]
    by_cases h : P n = true
    · rw [if_pos h, nI_1]; exact ⟨c + 1, by omega, rfl⟩
    · rw [if_neg h]; exact ⟨c, by omega, rfl⟩
theorem left_7 {ev : (Nat → Int32) → Int32} {F : FS} {m : Nat} {w v : Int32} (h7 : fN F ≤ 7) (hm : m < 128) : (leftS ev F (nI m) w v).toInt ≤ 7 := by
  obtain ⟨c, c1, c2⟩ := cnt_nI (fun nm => bit1 (nI m) nm && isSoS ev F nm w v) (fN F)
  have hp := pc_7 m hm
  rw [leftS, c2, bc_nI m hm, maxS]
  split
  · exact sub_7 _ hp _ (by omega)
  · rw [nI_toInt (by omega)]; omega
theorem fit_nI {ev : (Nat → Int32) → Int32} {F : FS} {l : List (Int32 × Int32)} (h7 : fN F ≤ 7) : ∃ m, m < 128 ∧ fitS ev F l = nI m := by
  have e : fitS ev F l = nI (maskN (fun nm => l.all (fun w => isSoS ev F nm w.1 w.2)) (fN F)) := mask_nI h7
  have hl := mask_lt (fun nm => l.all (fun w => isSoS ev F nm w.1 w.2)) (fN F)
  have hp := pow7 h7
  exact ⟨_, by omega, e⟩
theorem ask_t0 {ev : (Nat → Int32) → Int32} {F : FS} {m : Nat} (h7 : fN F ≤ 7) (hm : m < 128) : ∀ n, fo (fun v st => askT ev F (nI m) 0 v st) (-1, 1000000) (n + 1) = fo (fun v st => askT ev F (nI m) 0 v st) (0, 8) (n + 1) := by
  intro n
  induction n with
  | zero =>
    have hL := left_7 (ev := ev) (w := askK 0) (v := nI 0) h7 hm
    have key : ∀ a : Int32 × Int32, 8 ≤ a.2.toInt → askT ev F (nI m) 0 0 a = (10 * askK 0 + nI 0, leftS ev F (nI m) (askK 0) (nI 0)) := fun a ha => by
      rw [askT, if_neg]
      rw [Int32.le_iff_toInt_le]
      omega
    show askT ev F (nI m) 0 0 (-1, 1000000) = askT ev F (nI m) 0 0 (0, 8)
    rw [key _ (by decide), key _ (by decide)]
  | succ n ih => rw [fo, ih]; rfl
theorem ask_M {ev : (Nat → Int32) → Int32} {F : FS} {m : Nat} (h7 : fN F ≤ 7) (hm : m < 128) : fo (askM ev F (nI m)) (-1, 1000000) 47 = asksS ev F (nI m) := by
  have s1 : ∀ a, fo (askM ev F (nI m)) a 7 = fo (fun v st => askT ev F (nI m) 0 v st) a 7 := fun a => fo_congr (fun i hi x => by
    rw [askM, if_neg (by omega), askT, show i / 10 = 0 by omega, show i % 10 = i by omega, show askK 0 = nI 0 by decide, show (10 : Int32) * nI 0 + nI i = nI i by rw [show (10 : Int32) * nI 0 = nI 0 by decide, add_nI, Nat.zero_add]])
  have s2 : ∀ a, fo (fun i x => askM ev F (nI m) (7 + i) x) a 23 = a := fun a => fo_inv (fun _ x => x = a) rfl (fun i x hi hx => by rw [askM, if_pos (by omega)]; exact hx)
  have s3 : ∀ a, fo (fun i x => askM ev F (nI m) (30 + i) x) a 10 = fo (fun v st => askT ev F (nI m) 1 v st) a 10 := fun a => fo_congr (fun i hi x => by
    rw [askM, if_neg (by omega), askT, show (30 + i) / 10 = 3 by omega, show (30 + i) % 10 = i by omega, show askK 1 = nI 3 by decide, show (10 : Int32) * nI 3 + nI i = nI (30 + i) by rw [show (10 : Int32) * nI 3 = nI 30 by decide, add_nI]])
  have s4 : ∀ a, fo (fun i x => askM ev F (nI m) (40 + i) x) a 7 = fo (fun v st => askT ev F (nI m) 2 v st) a 7 := fun a => fo_congr (fun i hi x => by
    rw [askM, if_neg (by omega), askT, show (40 + i) / 10 = 4 by omega, show (40 + i) % 10 = i by omega, show askK 2 = nI 4 by decide, show (10 : Int32) * nI 4 + nI i = nI (40 + i) by rw [show (10 : Int32) * nI 4 = nI 40 by decide, add_nI]])
  rw [show 47 = 40 + 7 from rfl, fo_split, show 40 = 30 + 10 from rfl, fo_split, show 30 = 7 + 23 from rfl, fo_split, s1, s2]
  have e3 : ∀ a, fo (fun i x => askM ev F (nI m) (7 + 23 + i) x) a 10 = fo (fun v st => askT ev F (nI m) 1 v st) a 10 := s3
  have e4 : ∀ a, fo (fun i x => askM ev F (nI m) (7 + 23 + 10 + i) x) a 7 = fo (fun v st => askT ev F (nI m) 2 v st) a 7 := s4
  rw [e3, e4, show 7 = 6 + 1 from rfl, ask_t0 h7 hm 6]
  rfl
theorem div10 : ∀ a, a < 47 → nI a / 10 = nI (a / 10) ∧ nI a - nI a / 10 * 10 = nI (a % 10) := by decide +kernel
theorem in_29 : ∀ a, a < 47 → (!decide (nI a < 7) && !decide (29 < nI a)) = decide (7 ≤ a ∧ a ≤ 29) := by decide +kernel
theorem mc_asks (k : Nat) (A : AS) (hH : hK A.H) : MC (k + 264) M_X12_asks [] A (.int (asksC A).1) (asksC A).2 := by
  intro σ0 hv0
  refine EvM.of mk_X12_asks (Nat.le_of_ble_eq_true rfl) ?_
  refine wpW K_X12_asks [5] 10 ?_
  obtain ⟨hv, f0⟩ := mv_t0 hv0
  show WW _ _ _ 5 [some (.ref 52), none, none, none, none, none, none] _ (t0S σ0)
  generalize t0S σ0 = σ at hv f0 ⊢
  have hb := hv.1
  have h7 := hb.n7
  unfold asksC
  refine wpW K_X12_asks [26] 60 ?_
  refine ⟨_, ev_fittingM k hb hH, ?_⟩
  rintro v σ1 ⟨rfl, f1⟩
  obtain ⟨m, hm, em⟩ := fit_nI (ev := A.ev) (F := A.F) (l := A.H) h7
  rw [em]
  refine ⟨fun c => ?_, fun c => ?_⟩
  rotate_left
  · rw [if_pos c]
    have := mv_same hv f1 (by decide) (by decide) (by decide) (by decide)
    exact ⟨rfl, this.1, f0.tr this.2⟩
  rw [if_neg c, ← ask_M h7 hm]
  refine loopI (α := Sto × (Int32 × Int32) × Option Value × Option Value) 26 (fun i a => [some (.ref 52), some (.int (nI m)), some (.int a.2.1.1), some (.int a.2.1.2), some (.int (nI i)), a.2.2.1, a.2.2.2]) (fun a => a.1) (fun i a => FM [60] jQ σ a.1 ∧ a.2.1 = fo (askM A.ev A.F (nI m)) (-1, 1000000) i) 47 ?_ ?_ 0 (σ1, (-1, 1000000), none, none) (Nat.zero_le _) ⟨f1, rfl⟩
  · rintro i ⟨τ, ⟨be, le⟩, o5, o6⟩ hi ⟨f, hI⟩ go
    simp only at f hI ⊢
    have hs : fo (askM A.ev A.F (nI m)) (-1, 1000000) (i + 1) = askM A.ev A.F (nI m) i (be, le) := by rw [hI]; rfl
    obtain ⟨d1, d2⟩ := div10 i hi
    refine wpW K_X12_asks [26, 54] 60 ?_
    refine ⟨fun e => ?_, fun _ => ⟨_, ev_in _ _ _ _ _, ?_⟩⟩
    · rw [show (47 : Int32) = nI 47 from rfl, le_of_nI (by omega) (by omega)] at e; omega
    rintro v τ' ⟨h9, rfl⟩
    obtain rfl := h9.symm
    rw [in_29 i hi]
    refine ⟨fun e => ?_, fun e => ?_⟩
    rotate_left
    · rw [bI_ne, decide_eq_true_eq] at e
      exact go (τ, (be, le), _, _) _ _ (by rw [← nI_1]; rfl) rfl ⟨f, by rw [hs, askM, if_pos e]⟩
    rw [bI_eq, decide_eq_false_iff_not] at e
    rw [askM, if_neg e] at hs
    show WW _ _ _ 54 [some (.ref 52), some (.int (nI m)), some (.int be), some (.int le), some (.int (nI i)), some (.int 0), some (.int (nI 0))] [] τ
    refine loopI (α := Sto × Int32) 54 (fun j a => [some (.ref 52), some (.int (nI m)), some (.int be), some (.int le), some (.int (nI i)), some (.int a.2), some (.int (nI j))]) (fun a => a.1) (fun j a => FM [60] jQ σ a.1 ∧ a.2 = fo (fun nm s => if bit1 (nI m) nm && isSoS A.ev A.F nm (nI (i / 10)) (nI (i % 10)) then s + 1 else s) 0 j) (fN A.F) ?_ ?_ 0 (τ, 0) (Nat.zero_le _) ⟨f, rfl⟩
    · rintro j ⟨τ, y⟩ hj ⟨f, hY⟩ go2
      simp only at f hY ⊢
      have hys : fo (fun nm s => if bit1 (nI m) nm && isSoS A.ev A.F nm (nI (i / 10)) (nI (i % 10)) then s + 1 else s) 0 (j + 1) = if bit1 (nI m) j && isSoS A.ev A.F j (nI (i / 10)) (nI (i % 10)) then y + 1 else y := by rw [fo, ← hY]
      refine wpW K_X12_asks [54] 60 ?_
      refine ⟨fun e => ?_, fun _ => ⟨_, ev_mhas _ _ m j, ?_⟩⟩
      · rw [f.i 1 (by decide), hb.n, le_of_nI (by omega) (by omega)] at e; omega
      rintro v τ' ⟨h9, rfl⟩
      obtain rfl := h9.symm
      refine ⟨fun e => ?_, fun e => ⟨by decide, by decide, ?_⟩⟩
      · rw [bI_eq] at e
        rw [e, Bool.false_and, if_neg (by decide)] at hys
        exact go2 (τ, y) _ _ (by rw [← nI_1]; show st1 (st1 _ _ _) _ _ = _; rw [Int32.add_zero]; rfl) rfl ⟨f, hys.symm⟩
      · rw [bI_ne] at e
        rw [e, Bool.true_and] at hys
        have hft := ev_fitsM (k + 1) hb (f.up lMs jMs (by decide) (by decide)) j hj (i / 10) (by omega) (nI (i % 10))
        rw [← d2, ← d1] at hft
        refine ⟨_, hft, ?_⟩
        rintro r υ ⟨rfl, f'⟩
        rw [d2, d1]
        refine ⟨fun d => ?_, fun d => ?_⟩
        · rw [bI_eq] at d
          rw [d, if_neg (by decide)] at hys
          exact go2 (υ, y) _ _ (by rw [← nI_1]; show st1 (st1 _ _ _) _ _ = _; rw [Int32.add_zero]; rfl) rfl ⟨f.tr f', hys.symm⟩
        · rw [bI_ne] at d
          rw [d, if_pos rfl] at hys
          exact go2 (υ, y + 1) _ _ (by rw [← nI_1]; rfl) rfl ⟨f.tr f', hys.symm⟩
    · rintro ⟨τ, y⟩ ⟨f, hY⟩
      simp only at f hY ⊢
      have hL : leftS A.ev A.F (nI m) (nI (i / 10)) (nI (i % 10)) = maxS y (bcS (nI m) - y) := by rw [leftS, ← hY]
      rw [hL] at hs
      simp only at hs
      refine wpW K_X12_asks [26] 60 ?_
      refine ⟨fun _ => ⟨_, ev_bc _ _ _, ?_⟩, fun e => ?_⟩
      · rintro v τ' ⟨h9, rfl⟩
        obtain rfl := h9.symm
        refine ⟨fun d => ?_, fun d => ?_⟩
        · have d' : maxS y (bcS (nI m) - y) < le := d
          refine go (τ, (nI i, maxS y (bcS (nI m) - y)), some (.int y), some (.int (maxS y (bcS (nI m) - y)))) _ _ (by rw [← nI_1]; rfl) rfl ⟨f, ?_⟩
          rw [hs, if_neg (Int32.not_le.mpr d')]
        · have d' : ¬ maxS y (bcS (nI m) - y) < le := d
          refine go (τ, (be, le), some (.int y), some (.int (maxS y (bcS (nI m) - y)))) _ _ (by rw [← nI_1]; rfl) rfl ⟨f, ?_⟩
          rw [hs, if_pos (Int32.not_lt.mp d')]
      · rw [f.i 1 (by decide), hb.n, le_of_nI (by omega) (by omega)] at e; omega
  · rintro ⟨τ, ⟨be, le⟩, o5, o6⟩ ⟨f, hI⟩
    simp only at f hI ⊢
    refine wpW K_X12_asks [147] 60 ?_
    refine ⟨fun _ => ?_, fun e => absurd (show (47 : Int32) ≤ nI 47 by decide) e⟩
    obtain ⟨r1, r2⟩ := row_0 τ
    have f3 : FM [] [6] τ (sI τ 52 6 0) := FM.rf.sI (by decide)
    show WW _ _ _ 147 [some (.ref 52), some (.int (nI m)), some (.int be), some (.int le), some (.int (nI 47)), o5, o6] [] (sI τ 52 6 0)
    generalize sI τ 52 6 0 = σ3 at r1 r2 f3 ⊢
    refine wpW K_X12_asks [] 60 ?_
    refine ⟨_, ev_tellL _ r1 r2 (by simp) _, ?_⟩
    rintro v σ4 ⟨rfl, r4, e4, f4⟩
    have ff : FM lMs jMs σ σ4 := ((f.up _ _ (by decide) (by decide)).tr (f3.up _ _ (by decide) (by decide))).tr (f4.up _ _ (by decide) (by decide))
    rw [← hI]
    have := mv_end hb ff r4 e4
    exact ⟨rfl, this.1, f0.tr this.2⟩
