/-! the model: a day, days, rows laid into rows -/
theorem mG_Pu2 (n : Nat) (vo g : Nat → Int32) {i h : Nat} (hi : i < 7) (hh : h < 7) (c d : Int32) : mG n vo (upd (upd g (7 + i) (g (7 + i) - c)) (7 + h) (upd g (7 + i) (g (7 + i) - c) (7 + h) + d)) = wPu (mG n vo g) (upd (upd (fPu (mG n vo g)) i (fPu (mG n vo g) i - c)) h (upd (fPu (mG n vo g)) i (fPu (mG n vo g) i - c) h + d)) := by
  have e1 : fPu (mG n vo g) i = g (7 + i) := (r7_lt hi : r7 (fun i => g (7 + i)) i = _)
  have e2 : upd (fPu (mG n vo g)) i (fPu (mG n vo g) i - c) h = upd g (7 + i) (g (7 + i) - c) (7 + h) := by
    rw [e1]
    unfold upd
    by_cases q : h = i
    · subst q; simp
    · rw [if_neg q, if_neg (by omega)]; exact (r7_lt hh : r7 (fun i => g (7 + i)) h = _)
  rw [mG_Pu _ _ _ hh, mG_Pu _ _ _ hi, e2, e1]
  rfl
theorem ev_goDay (k : Nat) (σ : Sto) (a : Nat) (ha : a = 53 ∨ a = 63) (ho : mOK σ a) (hf : fOK (mF σ a)) (ev : (Nat → Int32) → Int32) (hR : MRu σ ev) (sil : Int32) : EvM (k + 262) M_X12_goDay [.ref 52, .ref a, .int sil] σ (fun v τ => v = none ∧ FJ a σ τ (fN (mF σ a)) (dayS ev sil (fN (mF σ a)) (mF σ a))) := by
  have h0 := FJ.refl ho
  have h7 := ho.2.1
  generalize mF σ a = F at *
  refine EvM.of mk_X12_goDay (Nat.le_of_ble_eq_true rfl) ?_
  obtain ⟨a1, a2⟩ := fok_D1 (ev := ev) (sil := sil) hf (fN F) (Nat.le_refl _)
  generalize hF1 : fo (d1st ev sil) F (fN F) = F1 at a1 a2
  obtain ⟨b1, b2⟩ := fok_D2 a1 (fN F) (by omega)
  generalize hF2 : fo d2st F1 (fN F) = F2 at b1 b2
  obtain ⟨c1, c2⟩ := fok_D3 b1 (fN F)
  have hD : dayS ev sil (fN F) F = wDy (fo d3st F2 (fN F)) (fDy (fo d3st F2 (fN F)) + 1) := by rw [dayS, hF1, hF2]
  rw [hD]
  have L3 : ∀ τ o, FJ a σ τ (fN F) F2 → WW M_X12_goDay (k + 262) (fun v τ => v = none ∧ FJ a σ τ (fN F) (wDy (fo d3st F2 (fN F)) (fDy (fo d3st F2 (fN F)) + 1))) 114 [some (.ref 52), some (.ref a), some (.int sil), some (.int 0), o] [] τ := by
    intro τ o hJ
    refine loopI (α := Sto) 114 (fun i x => [some (.ref 52), some (.ref a), some (.int sil), some (.int (nI i)), o]) (fun x => x) (fun i x => FJ a σ x (fN F) (fo d3st F2 i)) (fN F) ?_ ?_ 0 τ (Nat.zero_le _) hJ
    · intro i τ hi hJ go
      have h7' : i < 7 := by omega
      obtain ⟨-, -, -, -, rAg, -⟩ := mF_rd τ a
      have nx : FJ a σ (sA τ a (upd (gA τ a) (21 + i) (minS 99 (fAg (fo d3st F2 i) i + 1)))) (fN F) (fo d3st F2 (i + 1)) := by
        refine hJ.w ha (FM.sA FM.rf (by simp)) ?_ (by rw [(fok_D3 b1 (i + 1)).2, b2, a2]) (fok_D3 b1 (i + 1)).1.1
        rw [mF_sA ha, mG_Ag _ _ _ h7']
        show wAg (mF τ a) (upd (fAg (mF τ a)) i _) = _
        rw [hJ.1]
        rfl
      rcases ha with rfl | rfl
      all_goals
        refine wpW K_X12_goDay [114] 40 ?_
        refine ⟨fun h => ?_, fun h => ⟨i21_30 h7', i21_30 h7', ?_⟩⟩
        · rw [hJ.n, le_of_nI (by omega) (by omega)] at h; omega
        refine go _ _ _ (by rw [← nI_1]; rfl) ?_ nx
        rw [← hJ.1, ← rAg i h7', c21 h7']
        rfl
    · intro τ hJ
      have rDy := (mF_rd τ a).2.2.2.2.2.1
      rcases ha with rfl | rfl
      all_goals
        refine wpW K_X12_goDay [114] 40 ?_
        refine ⟨fun h => ⟨inN (i := 28) (n := 30) (by decide) (by decide), inN (i := 28) (n := 30) (by decide) (by decide), rfl, ?_⟩, fun h => ?_⟩
        · refine hJ.w (by decide) (FM.sA FM.rf (by decide)) ?_ (by show fN (fo d3st F2 (fN F)) = _; rw [c2, b2, a2]) (fok_dy c1).1
          rw [mF_sA (by decide)]
          show mG _ _ (upd (gA τ _) 28 (gA τ _ 28 + 1)) = _
          rw [mG_Dy, rDy]
          show wDy (mF τ _) _ = _
          rw [hJ.1]
        · rw [hJ.n, le_of_nI (by omega) (by omega)] at h; omega
  have L2 : ∀ τ o, FJ a σ τ (fN F) F1 → WW M_X12_goDay (k + 262) (fun v τ => v = none ∧ FJ a σ τ (fN F) (wDy (fo d3st F2 (fN F)) (fDy (fo d3st F2 (fN F)) + 1))) 39 [some (.ref 52), some (.ref a), some (.int sil), some (.int 0), o] [] τ := by
    intro τ o hJ
    refine loopI (α := Sto × Option Value) 39 (fun i x => [some (.ref 52), some (.ref a), some (.int sil), some (.int (nI i)), x.2]) (fun x => x.1) (fun i x => FJ a σ x.1 (fN F) (fo d2st F1 i)) (fN F) ?_ ?_ 0 (τ, o) (Nat.zero_le _) hJ
    · rintro i ⟨τ, o⟩ hi hJ go
      simp only at hJ ⊢
      have h7' : i < 7 := by omega
      obtain ⟨d1, d2⟩ := fok_D2 a1 i (by omega)
      obtain ⟨-, -, rPu, rHo, -⟩ := mF_rd τ a
      have hnx := fok_D2 a1 (i + 1) (by omega)
      have hst : fo d2st F1 (i + 1) = d2st i (fo d2st F1 i) := rfl
      rw [hst] at hnx
      generalize hG : fo d2st F1 i = G at *
      rw [hJ.1] at rPu rHo
      obtain ⟨e1, e2⟩ := fs_ho d1.1 (show i < fN G by omega)
      have eH := rHo i h7'
      rw [e2] at eH
      obtain ⟨p, p1, p2⟩ := d1.pu i
      have nx : (¬ fHo G i = nI i ∧ 0 < fPu G i ∧ fPu G (hoN G i) < 99) → FJ a σ (sA (sA τ a (upd (gA τ a) (7 + i) (gA τ a (7 + i) - 1))) a (upd (upd (gA τ a) (7 + i) (gA τ a (7 + i) - 1)) (7 + hoN G i) (upd (gA τ a) (7 + i) (gA τ a (7 + i) - 1) (7 + hoN G i) + 1))) (fN F) (fo d2st F1 (i + 1)) := by
        intro hc
        rw [hst]
        refine hJ.w ha (FM.sA (FM.sA FM.rf (by simp)) (by simp)) ?_ (by rw [hnx.2, a2]) hnx.1.1
        rw [mF_sA ha, d2st, if_pos hc]
        refine Eq.trans (mG_Pu2 _ _ (gA τ a) h7' (show hoN G i < 7 by omega) 1 1) ?_
        have e54 : gA (sA τ a (upd (gA τ a) (7 + i) (gA τ a (7 + i) - 1))) 54 = gA τ 54 := by rcases ha with rfl | rfl <;> rfl
        rw [e54]
        show wPu (mF τ a) (upd (upd (fPu (mF τ a)) i (fPu (mF τ a) i - 1)) (hoN G i) (upd (fPu (mF τ a)) i (fPu (mF τ a) i - 1) (hoN G i) + 1)) = _
        rw [hJ.1]
      rcases ha with rfl | rfl
      all_goals
        refine wpW K_X12_goDay [39, 55] 40 ?_
        refine ⟨fun h => ?_, fun h => ⟨i14_30 h7', ?_⟩⟩
        · rw [hJ.n, le_of_nI (by omega) (by omega)] at h; omega
        rw [eH]
        refine wpW K_X12_goDay [39] 60 ?_
        refine ⟨fun h2 => ?_, fun h2 => ⟨i7_30 h7', fun h3 => ?_, fun h3 => ⟨i7_30 (by omega), fun h4 => ?_, fun h4 => ?_⟩⟩⟩
        · refine go (τ, _) _ _ (by rw [← nI_1]; rfl) rfl ?_
          rw [hst, d2st, if_neg (fun q => q.1 (by rw [e2]; exact h2))]
          exact hJ
        · rw [rPu i h7'] at h3
          refine go (τ, _) _ _ (by rw [← nI_1]; rfl) rfl ?_
          rw [hst, d2st, if_neg (fun q => by rw [h3] at q; exact absurd q.2.1 (by decide))]
          exact hJ
        · rw [rPu i h7'] at h3
          rw [rPu (hoN G i) (by omega)] at h4
          have hc : ¬ fHo G i = nI i ∧ 0 < fPu G i ∧ fPu G (hoN G i) < 99 := by
            refine ⟨fun q => h2 (by rw [← e2]; exact q), ?_, h4⟩
            rw [p2, show (0 : Int32) = nI 0 from rfl, eq_of_nI (by omega) (by omega)] at h3
            rw [p2, show (0 : Int32) = nI 0 from rfl, lt_of_nI (by omega) (by omega)]
            omega
          refine ⟨i7_30 h7', i7_30 h7', i7_30 (by omega), i7_30 (by omega), ?_⟩
          refine go (_, _) _ _ (by rw [← nI_1]; rfl) ?_ (nx hc)
          simp only
          rw [c7 h7', c7 (show hoN G i < 7 by omega)]
          rfl
        · rw [rPu (hoN G i) (by omega)] at h4
          refine go (τ, _) _ _ (by rw [← nI_1]; rfl) rfl ?_
          rw [hst, d2st, if_neg (fun q => h4 q.2.2)]
          exact hJ
    · rintro ⟨τ, o⟩ hJ
      simp only at hJ ⊢
      rw [hF2] at hJ
      have h3 := L3 τ o hJ
      rcases ha with rfl | rfl
      all_goals
        refine wpW K_X12_goDay [114] 40 ?_
        refine ⟨fun h => h3, fun h => ?_⟩
        rw [hJ.n, le_of_nI (by omega) (by omega)] at h; omega
  have L1 : WW M_X12_goDay (k + 262) (fun v τ => v = none ∧ FJ a σ τ (fN F) (wDy (fo d3st F2 (fN F)) (fDy (fo d3st F2 (fN F)) + 1))) 2 [some (.ref 52), some (.ref a), some (.int sil), some (.int 0), none] [] σ := by
    refine loopI (α := Sto) 2 (fun i x => [some (.ref 52), some (.ref a), some (.int sil), some (.int (nI i)), none]) (fun x => x) (fun i x => FJ a σ x (fN F) (fo (d1st ev sil) F i)) (fN F) ?_ ?_ 0 σ (Nat.zero_le _) h0
    · intro i τ hi hJ go
      have hst : fo (d1st ev sil) F (i + 1) = d1st ev sil i (fo (d1st ev sil) F i) := rfl
      rcases ha with rfl | rfl
      all_goals
        refine wpW K_X12_goDay [2] 40 ?_
        refine ⟨fun h => ?_, fun h => ⟨fun h2 => ?_, fun h2 => ⟨_, hJ.can k (by decide) hR i i hi hi, ?_⟩⟩⟩
        · rw [hJ.n, le_of_nI (by omega) (by omega)] at h; omega
        · refine go τ _ _ (by rw [← nI_1]; rfl) rfl ?_
          rw [hst, d1st, if_neg (fun q => q.1 h2)]
          exact hJ
        · rintro w τ' ⟨rfl, hJ'⟩
          refine ⟨fun h3 => ?_, fun h3 => ⟨_, hJ'.say _ (by decide) i i hi hi, ?_⟩⟩
          · rw [bI_eq] at h3
            refine go τ' _ _ (by rw [← nI_1]; rfl) rfl ?_
            rw [hst, d1st, if_neg (fun q => by rw [h3] at q; exact absurd q.2 (by decide))]
            exact hJ'
          · rw [bI_ne] at h3
            rintro w τ'' ⟨rfl, hJ2⟩
            refine go τ'' _ _ (by rw [← nI_1]; rfl) rfl ?_
            rw [hst, d1st, if_pos ⟨h2, h3⟩]
            exact hJ2
    · intro τ hJ
      rw [hF1] at hJ
      have h2 := L2 τ none hJ
      rcases ha with rfl | rfl
      all_goals
        refine wpW K_X12_goDay [39] 40 ?_
        refine ⟨fun h => h2, fun h => ?_⟩
        rw [hJ.n, le_of_nI (by omega) (by omega)] at h; omega
  rcases ha with rfl | rfl
  all_goals
    refine wpW K_X12_goDay [2] 40 ?_
    exact L1
