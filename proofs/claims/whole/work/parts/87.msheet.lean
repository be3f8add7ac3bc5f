/-! the model's calls: sheet -/
def eK (kd v : Int32) : Int32 := if kd = 0 then v.toInt8.toInt32 else if kd = 1 then v.toInt16.toInt32 else v
theorem ent_K (kd n f st : Int32) (i : Nat) : entS kd n f st i = eK kd (if n ≤ nI i then 0 else f + nI i * st) := rfl
theorem eK_0 (kd : Int32) : maxS 0 (minS 99 (eK kd 0)) = 0 := by
  unfold eK
  by_cases h : kd = 0
  · rw [if_pos h]; decide
  · rw [if_neg h]
    by_cases h1 : kd = 1
    · rw [if_pos h1]; decide
    · rw [if_neg h1]; decide
theorem mul_1 (i : Nat) (f st : Int32) : f + nI i * st + st = f + nI (i + 1) * st := by
  rw [← nI_1, Int32.add_mul, Int32.one_mul, Int32.add_assoc]
theorem mc_sheet (k : Nat) (A : AS) (kd n f st : Int32) : MC (k + 1) M_X12_sheet [.int kd, .int n, .int f, .int st] A (.int (sheetC A kd n f st).1) (sheetC A kd n f st).2 := by
  intro σ0 hv0
  refine EvM.of mk_X12_sheet (Nat.le_of_ble_eq_true rfl) ?_
  refine wpW K_X12_sheet [5] 10 ?_
  obtain ⟨hv, f0⟩ := mv_t0 hv0
  show WW _ _ _ 5 [some (.ref 52), some (.int kd), some (.int n), some (.int f), some (.int st), none, none, none] _ (t0S σ0)
  generalize t0S σ0 = σ at hv f0 ⊢
  have hb := hv.1
  have h7 := hb.n7
  unfold sheetC
  generalize hN : (if kd = 3 then (0 : Int32) else n) = N
  have main : ∀ B : Int32 × AS, B = (if kd = 3 then -3 else sumS (fN A.F) (fPu (fillS kd N f st A.F (fN A.F))), A.wF (fillS kd N f st A.F (fN A.F))) → WW M_X12_sheet (k + 1) (fun w τ => w = some (.int B.1) ∧ MV τ B.2 ∧ Fr lM σ0 τ) 34 [some (.ref 52), some (.int kd), some (.int n), some (.int f), some (.int st), none, none, none] [] σ := by
    rintro B rfl
    simp only
    refine wpW K_X12_sheet [40] 60 ?_
    refine loopI (α := Sto × Int32 × Option Value) 40 (fun i a => [some (.ref 52), some (.int kd), some (.int n), some (.int f), some (.int st), some (.int a.2.1), some (.int (nI i)), a.2.2]) (fun a => a.1) (fun i a => FM [53] [] σ a.1 ∧ mF a.1 53 = fillS kd N f st A.F i ∧ a.2.1 = f + nI i * st) (fN A.F) ?_ ?_ 0 (σ, f, none) (Nat.zero_le _) ⟨FM.rf, hb.F, by simp only; rw [show nI 0 = (0 : Int32) from rfl, Int32.zero_mul, Int32.add_zero]⟩
    · rintro i ⟨τ, v, o⟩ hi ⟨g, hF, hv1⟩ go
      simp only at g hF hv1 ⊢
      have hs : fillS kd N f st A.F (i + 1) = wPu (fillS kd N f st A.F i) (upd (fPu (fillS kd N f st A.F i)) i (maxS 0 (minS 99 (entS kd N f st i)))) := rfl
      have tail : ∀ val e, val = maxS 0 (minS 99 (entS kd N f st i)) → WW M_X12_sheet (k + 1) (fun w τ => w = some (.int (if kd = 3 then -3 else sumS (fN A.F) (fPu (fillS kd N f st A.F (fN A.F))))) ∧ MV τ (A.wF (fillS kd N f st A.F (fN A.F))) ∧ Fr lM σ0 τ) 109 [some (.ref 52), some (.int kd), some (.int n), some (.int f), some (.int st), some (.int v), some (.int (nI i)), some (.int e)] [.int val, .int (7 + nI i), .ref 53] τ := by
        rintro val e rfl
        refine wpW K_X12_sheet [40] 60 ?_
        refine ⟨i7_30 (by omega), ?_⟩
        refine go (sA τ 53 (upd (gA τ 53) (7 + i) (maxS 0 (minS 99 (entS kd N f st i)))), v + st, some (.int e)) _ _ (by rw [← nI_1]; rfl) (by rw [c7 (by omega)]) ⟨g.sA (by decide), ?_, ?_⟩
        · rw [mF_sA (Or.inl rfl), mG_Pu _ _ _ (by omega), hs, ← hF]
          rfl
        · simp only; rw [hv1, mul_1]
      have mid : ∀ e, e = eK kd v → WW M_X12_sheet (k + 1) (fun w τ => w = some (.int (if kd = 3 then -3 else sumS (fN A.F) (fPu (fillS kd N f st A.F (fN A.F))))) ∧ MV τ (A.wF (fillS kd N f st A.F (fN A.F))) ∧ Fr lM σ0 τ) 72 [some (.ref 52), some (.int kd), some (.int n), some (.int f), some (.int st), some (.int v), some (.int (nI i)), o] [.int e] τ := by
        rintro e rfl
        have z0 : N ≤ nI i → (0 : Int32) = maxS 0 (minS 99 (entS kd N f st i)) := fun h => by rw [ent_K, if_pos h, eK_0]
        refine wpW K_X12_sheet [109] 60 ?_
        refine ⟨fun c => tail 0 _ (z0 ?_), fun c => ⟨fun d => tail _ _ ?_, fun d => tail 0 _ (z0 ?_)⟩⟩
        · rw [← hN, if_pos c]; exact nn_nI (by omega)
        · rw [if_neg c] at hN
          rw [ent_K, ← hN, if_neg (Int32.not_le.mpr d), ← hv1]
          rfl
        · rw [if_neg c] at hN
          rw [← hN]
          exact Int32.not_lt.mp d
      refine wpW K_X12_sheet [72] 60 ?_
      refine ⟨fun e => ?_, fun _ => ⟨fun c => ⟨fun c1 => mid _ ?_, fun c1 => mid _ ?_⟩, fun c => mid _ ?_⟩⟩
      · rw [g.i 1 (by decide), hb.n, le_of_nI (by omega) (by omega)] at e; omega
      · unfold eK; rw [if_neg c, if_neg c1]
      · unfold eK; rw [if_neg c, if_pos c1]
      · unfold eK; rw [if_pos c]
    · rintro ⟨τ, v, o⟩ ⟨g, hF, hv1⟩
      simp only at g hF hv1 ⊢
      have hfn := fill_n kd N f st A.F (fN A.F)
      have hmok : mOK τ 53 := ⟨by rw [g.i 1 (by decide), hF, hfn.1]; exact hb.n, by rw [hF]; exact (fok_fill hb.ok (fN A.F)).1⟩
      have fin : MV τ (A.wF (fillS kd N f st A.F (fN A.F))) ∧ Fr lM σ τ := mv_deedM hv (g.up _ _ (by decide) (by decide)) hF hfn.1 (fok_fill hb.ok _) (hb.u.go g (by decide) (by decide))
      refine wpW K_X12_sheet [] 60 ?_
      refine ⟨fun _ => ⟨fun c => ⟨_, ev_sumOf _ τ 53 (Or.inl rfl) hmok 7 (by omega), ?_⟩, fun c => ?_⟩, fun e => ?_⟩
      · rintro w τ' ⟨h9, rfl⟩
        obtain rfl := h9.symm
        refine ⟨?_, fin.1, f0.tr fin.2⟩
        rw [if_neg c, show r7 (fun i => gA τ 53 (7 + i)) = fPu (mF τ 53) from rfl, hF, hfn.1]
      · exact ⟨by rw [if_pos c], fin.1, f0.tr fin.2⟩
      · rw [g.i 1 (by decide), hb.n, le_of_nI (by omega) (by omega)] at e; omega
  refine wpW K_X12_sheet [34] 60 ?_
  refine ⟨_, ev_in _ _ _ _ _, ?_⟩
  rintro w τ ⟨h9, rfl⟩
  obtain rfl := h9.symm
  have in3 : (!decide (kd < 0) && !decide (3 < kd)) = inS 4 kd := in_S (n := 3) (by omega)
  rw [in3]
  refine ⟨fun c => ?_, fun c => ⟨fun d => ⟨fun e => ?_, fun e => ⟨fun g => ?_, fun g => ?_⟩⟩, fun d => ?_⟩⟩
  · rw [bI_eq] at c; rw [c]; exact ⟨rfl, hv, f0⟩
  · rw [bI_ne] at c
    have hk3 : kd = 3 := by
      obtain ⟨x1, x2⟩ := inS_80 (by omega) c
      rw [x2, show (3 : Int32) = nI 3 from rfl, le_of_nI (by omega) (by omega)] at e
      rw [x2, show kd.toNatClampNeg = 3 by omega]
      rfl
    refine main _ ?_
    rw [if_pos hk3] at hN
    rw [if_pos (by rw [c, decide_eq_false (Int32.not_lt.mpr d)]; rfl), if_pos hk3, if_pos hk3, ← hN]
  · rw [bI_ne] at c
    have hk3 : ¬ kd = 3 := fun z => e (by rw [z]; exact Int32.le_refl _)
    refine main _ ?_
    rw [if_neg hk3] at hN
    rw [if_pos (by rw [c, decide_eq_false (Int32.not_lt.mpr d)]; rfl), if_neg hk3, if_neg hk3, if_neg (Int32.not_lt.mpr g), ← hN]
  · rw [bI_ne] at c
    have hk3 : ¬ kd = 3 := fun z => e (by rw [z]; exact Int32.le_refl _)
    rw [if_pos (by rw [c, decide_eq_false (Int32.not_lt.mpr d)]; rfl), if_neg hk3, if_pos (Int32.not_le.mp g)]
    exact ⟨rfl, hv, f0⟩
  · rw [decide_eq_true (Int32.not_le.mp d), Bool.not_true, Bool.and_false]
    exact ⟨rfl, hv, f0⟩
