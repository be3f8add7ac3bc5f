/-! the class's calls: sheet, people -/
def entS (kd n f st : Int32) (i : Nat) : Int32 := if kd = 0 then (if n ≤ nI i then 0 else f + nI i * st).toInt8.toInt32 else if kd = 1 then (if n ≤ nI i then 0 else f + nI i * st).toInt16.toInt32 else if n ≤ nI i then 0 else f + nI i * st
def fillS (kd n f st : Int32) (F : FS) (m : Nat) : FS := fo (fun i G => wPu G (upd (fPu G) i (maxS 0 (minS 99 (entS kd n f st i))))) F m
theorem fill_n (kd n f st : Int32) (F : FS) : ∀ m, fN (fillS kd n f st F m) = fN F ∧ fHo (fillS kd n f st F m) = fHo F := by
  intro m
  induction m with
  | zero => exact ⟨rfl, rfl⟩
  | succ m ih => exact ih
theorem ev_fill (k : Nat) (σ : Sto) {A : AS} {r s : Nat} (hb : CB σ A r s) (kd n f st : Int32) : EvM (k + 1) M_X11_fillPurses [.ref 0, .int kd, .int n, .int f, .int st] σ (fun v τ => v = none ∧ cF τ 5 = fillS kd n f st A.F (fN A.F) ∧ cOK τ 5 ∧ Fr [8] σ τ) := by
  have h7 := hb.n7
  refine EvM.of mk_X11_fillPurses (Nat.le_of_ble_eq_true rfl) ?_
  refine wpW K_X11_fillPurses [3] 60 ?_
  refine loopI (α := Sto × Option Value) 3 (fun i a => [some (.ref 0), some (.int kd), some (.int n), some (.int f), some (.int st), some (.int (nI i)), a.2]) (fun a => a.1) (fun i a => cF a.1 5 = fillS kd n f st A.F i ∧ gI a.1 5 5 = nI (fN A.F) ∧ Fr [8] σ a.1) (fN A.F) ?_ ?_ 0 (σ, none) (Nat.zero_le _) ⟨hb.F, hb.sz, Fr.rf⟩
  · rintro i ⟨τ, o⟩ hi ⟨hc, hn, hf⟩ go
    simp only at hc hn hf ⊢
    refine wpW K_X11_fillPurses [3, 56] 60 ?_
    have fin : ∀ e, e = entS kd n f st i → WW M_X11_fillPurses (k + 1) (fun v τ => v = none ∧ cF τ 5 = fillS kd n f st A.F (fN A.F) ∧ cOK τ 5 ∧ Fr [8] σ τ) 56 [some (.ref 0), some (.int kd), some (.int n), some (.int f), some (.int st), some (.int (nI i)), some (.int e)] [] τ := by
      rintro e rfl
      refine wpW K_X11_fillPurses [3] 60 ?_
      refine ⟨in7 (by omega), ?_⟩
      refine go (_, _) _ _ (by rw [← nI_1 i]; rfl) rfl ⟨?_, hn, hf.sA List.mem_cons_self⟩
      show cF (sA τ (5 + 3) _) 5 = _
      rw [nI_clamp (by omega), cF_Pu, r7_upd (by omega), show r7 (gA τ (5 + 3)) = fPu (cF τ 5) from rfl, hc]
      rfl
    refine ⟨fun h => ?_, fun _ => ⟨fun h1 => ⟨fun h2 => ⟨fun h3 => ?_, fun h3 => ?_⟩, fun h2 => ?_⟩, fun h1 => ⟨fun h2 => ⟨fun h3 => ?_, fun h3 => ?_⟩, fun h2 => ?_⟩⟩⟩
    · rw [hn, le_of_nI (by omega) (by omega)] at h; omega
    all_goals refine fin _ ?_
    all_goals simp [entS, h1, h2]
    all_goals simp [h3]
  · rintro ⟨τ, o⟩ ⟨hc, hn, hf⟩
    simp only at hc hn hf ⊢
    refine wpW K_X11_fillPurses [3] 60 ?_
    refine ⟨fun h => ⟨rfl, hc, ⟨?_, ?_⟩, hf⟩, fun h => ?_⟩
    · rw [hc, (fill_n kd n f st A.F _).1]; exact hn
    · rw [hc]
      unfold fsOK
      rw [(fill_n kd n f st A.F _).1, (fill_n kd n f st A.F _).2]
      exact hb.fs
    · rw [hn] at h; exact absurd (Int32.le_refl _) h
def sheetC (A : AS) (kd n f st : Int32) : Int32 × AS := if inS 4 kd && !decide (7 < n) then (if kd = 3 then (-3, A.wF (fillS kd 0 f st A.F (fN A.F))) else if n < 0 then (-2, A) else (sumS (fN A.F) (fPu (fillS kd n f st A.F (fN A.F))), A.wF (fillS kd n f st A.F (fN A.F)))) else (-1, A)
theorem cc_sheet (k : Nat) (A : AS) (kd n f st : Int32) : CC (k + 2) M_X11_sheet [.int kd, .int n, .int f, .int st] A (.int (sheetC A kd n f st).1) (sheetC A kd n f st).2 := by
  intro σ hv
  obtain ⟨r, s, hb⟩ := hv.b
  have hno : ¬ (inS 4 kd = true ∧ ¬ 7 < n) → some (Value.int (-1)) = some (Value.int (sheetC A kd n f st).1) ∧ CV σ (sheetC A kd n f st).2 ∧ Fr lC σ σ := by
    intro c
    unfold sheetC
    rw [if_neg (by simpa using c)]
    exact ⟨rfl, hv, Fr.rf⟩
  have lx := cnd (x := kd) (n := 3) (by omega)
  refine EvM.of mk_X11_sheet (Nat.le_of_ble_eq_true rfl) ?_
  refine wpW K_X11_sheet [17] 60 ?_
  refine ⟨fun h => hno (fun q => (lx.mp q.1).1 h), fun h1 => ⟨fun h => hno (fun q => (lx.mp q.1).2 h), fun h2 => ⟨fun h3 => ?_, fun h => hno (fun q => q.2 (Int32.not_le.mp h))⟩⟩⟩
  unfold sheetC
  rw [if_pos (by simp [lx.mpr ⟨h1, h2⟩, Int32.not_lt.mpr h3])]
  refine wpW K_X11_sheet [] 60 ?_
  refine ⟨fun h4 => ⟨fun h5 => ⟨_, ev_fill _ σ hb _ _ _ _, ?_⟩, fun h5 => ?_⟩, fun h4 => ⟨_, ev_fill _ σ hb _ _ _ _, ?_⟩⟩
  · rintro w σ1 ⟨rfl, c1, o1, f1⟩
    rw [if_neg h4, if_neg (Int32.not_lt.mpr h5)]
    refine ⟨_, ev_purses _ σ1 5 (Or.inl rfl) o1, ?_⟩
    rintro w τ'' ⟨h9, rfl⟩
    obtain rfl := h9.symm
    rw [c1, (fill_n _ _ _ _ _ _).1]
    exact ⟨rfl, cv_fen hb hv.t hv.R f1 (by decide) ⟨o1, c1⟩ (hb.kP f1 (by decide) (by decide))⟩
  · rw [if_neg h4, if_pos (Int32.not_le.mp h5)]
    exact ⟨rfl, hv, Fr.rf⟩
  · rintro w σ1 ⟨rfl, c1, o1, f1⟩
    rw [if_pos h4]
    exact ⟨rfl, cv_fen hb hv.t hv.R f1 (by decide) ⟨o1, c1⟩ (hb.kP f1 (by decide) (by decide))⟩
