theorem mc_mouths (k : Nat) (A : AS) : MC (k + 3) M_X12_mouths [] A (.int (mouthsC A).1) (mouthsC A).2 := by
  intro σ0 hv0
  refine EvM.of mk_X12_mouths (Nat.le_of_ble_eq_true rfl) ?_
  refine wpW K_X12_mouths [5] 10 ?_
  obtain ⟨hv, f0⟩ := mv_t0 hv0
  show WW _ _ _ 5 [some (.ref 52), none, none, none, none] _ (t0S σ0)
  generalize t0S σ0 = σ at hv f0 ⊢
  have hb := hv.1
  have h7 := hb.n7
  have hp := pow7 h7
  have hF := hb.ok
  have hall := all_nI _ h7
  unfold mouthsC
  refine wpW K_X12_mouths [16] 20 ?_
  refine ⟨fun h => ?_, fun h => ?_⟩
  rotate_left
  · rw [hb.n, show (2 : Int32) = nI 2 from rfl, le_of_nI (by omega) (by omega)] at h
    rw [if_pos (by omega)]
    exact ⟨rfl, hv, f0⟩
  rw [hb.n, show (2 : Int32) = nI 2 from rfl, le_of_nI (by omega) (by omega)] at h
  rw [if_neg (by omega)]
  have hn : ∀ τ, FM [70] [] σ τ → gI τ 52 1 = nI (fN A.F) := fun τ f => (f.i 1 (by decide)).trans hb.n
  have fin : ∀ τ o2 o3 o4 R, FM [56, 70] [6] σ τ → T70 A.F τ 0 0 → rOK τ → mRw τ = R → WW M_X12_mouths (k + 3) (fun w τ => w = some (.int (lstZ A.F 0)) ∧ MV τ (A.wR R) ∧ Fr lM σ0 τ) 253 [some (.ref 52), o2, some (.int (nI (fN A.F))), o3, o4] [] τ := by
    intro τ o2 o3 o4 R f ht hr hR
    refine wpW K_X12_mouths [] 20 ?_
    have := mv_end hb (f.up _ _ (by decide) (by decide)) hr hR
    refine ⟨inN (i := 0) (n := 1024) (by decide) (by decide), ?_, this.1, f0.tr this.2⟩
    show some (Value.int (gA τ 70 0)) = _
    have h0 : gA τ 70 0 = nI (tM (vN A.F (fN A.F - 0) 0)) := ht
    rw [h0, lstZ_v hF (by omega), show pcN 0 = 0 by decide, Nat.sub_zero, tM, if_pos (v_ok0 hF (by omega))]
  -- the row
  have phase3 : ∀ (τ : Sto) (o2 o3 o4 o5 : Option Value), FM [70] [] σ τ → (∀ k', k' ≤ fN A.F → ∀ m, m < 2 ^ fN A.F → T70 A.F τ k' m) → WW M_X12_mouths (k + 3) (fun w τ => w = some (.int (lstZ A.F 0)) ∧ MV τ (A.wR (rngL (fN A.F) (fun j => (nI (pkW A.F j)).toInt64))) ∧ Fr lM σ0 τ) 159 [some (.ref 52), o2, o3, o4, o5] [] τ := by
    intro τ o2 o3 o4 o5 f ht
    obtain ⟨r1, r2⟩ := row_0 τ
    have f3 : FM [] [6] τ (sI τ 52 6 0) := FM.rf.sI (by decide)
    refine wpW K_X12_mouths [166] 20 ?_
    show WW _ _ _ 166 [some (.ref 52), some (.int (nI 0)), o3, o4, o5] [] (sI τ 52 6 0)
    generalize sI τ 52 6 0 = σ3 at r1 r2 f3 ⊢
    have ht3 : ∀ υ, FM [56] [6] σ3 υ → ∀ k', k' ≤ fN A.F → ∀ m, m < 2 ^ fN A.F → T70 A.F υ k' m := fun υ fu k' h1 m h2 => by
      unfold T70
      rw [fu.a 70 (by decide), f3.a 70 (by decide)]
      exact ht k' h1 m h2
    have fa : FM [56, 70] [6] σ σ3 := (f.up _ _ (by decide) (by decide)).tr (f3.up _ _ (by decide) (by decide))
    refine wpW K_X12_mouths [168] 20 ?_
    show WW _ _ _ 168 [some (.ref 52), some (.int (nI (pkS A.F 0).2)), some (.int (nI 0)), o4, o5] [] σ3
    refine loopI (α := Sto × Option Value) 168 (fun i a => [some (.ref 52), some (.int (nI (pkS A.F i).2)), some (.int (nI i)), a.2, o5]) (fun a => a.1) (fun i a => FM [56] [6] σ3 a.1 ∧ rOK a.1 ∧ mRw a.1 = (pkS A.F i).1.map (fun x => (nI x).toInt64)) (fN A.F) ?_ ?_ 0 (σ3, o4) (Nat.zero_le _) ⟨FM.rf, r1, r2⟩
    · rintro i ⟨υ, o⟩ hi ⟨fu, hr, hR⟩ go
      simp only at fu hr hR ⊢
      obtain ⟨a1, a2, a3⟩ := pk_st hF (by omega) i (by omega)
      obtain ⟨b1, b2, b3⟩ := pick_ok hF hi a1 a2 a3
      have hlen := (pkS_lt h7 (by omega) i).2
      have e1 : (pkS A.F (i + 1)).1 = (pkS A.F i).1 ++ [cheapS A.F (lstZ A.F) i (pkS A.F i).2 (fN A.F) 0] := rfl
      have e2 : (pkS A.F (i + 1)).2 = (pkS A.F i).2 ||| 2 ^ cheapS A.F (lstZ A.F) i (pkS A.F i).2 (fN A.F) 0 := rfl
      have go' := fun υ' (q : Nat) (h : q = cheapS A.F (lstZ A.F) i (pkS A.F i).2 (fN A.F) 0) => go (υ', some (.int (nI q)))
      generalize cheapS A.F (lstZ A.F) i (pkS A.F i).2 (fN A.F) 0 = q0 at *
      rw [e1, e2] at go'
      generalize hL : (pkS A.F i).1 = L at *
      generalize (pkS A.F i).2 = m at *
      have n3 : gI υ 52 1 = nI (fN A.F) := (fu.i 1 (by decide)).trans ((f3.i 1 (by decide)).trans (hn τ f))
      have hF53 : mF υ 53 = A.F := (mF_fr fu (by decide) (by decide) (by decide)).trans ((mF_fr f3 (by decide) (by decide) (by decide)).trans ((mF_fr f (by decide) (by decide) (by decide)).trans hb.F))
      refine wpW K_X12_mouths [178] 20 ?_
      refine ⟨fun e => ?_, fun _ => ?_⟩
      · rw [n3, le_of_nI (by omega) (by omega)] at e; omega
      show WW _ _ _ 178 [some (.ref 52), some (.int (nI m)), some (.int (nI i)), some (.int (nI 0)), o5] [] υ
      have ea : ∀ q, q < fN A.F → ((nI i + 1) <<< ((7 : Int32) &&& 31) ||| nI m) ||| (1 : Int32) <<< (nI q &&& 31) = nI (128 * (i + 1) + (m ||| 2 ^ q)) := fun q hq => by rw [nI_1 i, ix70 (i + 1) (by omega) m (by omega), ix70b (i + 1) (by omega) m (by omega) q (by omega)]
      have ia : ∀ q, q < fN A.F → vp_in (((nI i + 1) <<< ((7 : Int32) &&& 31) ||| nI m) ||| (1 : Int32) <<< (nI q &&& 31)) 1024 := fun q hq => by
        have ol := or_lt _ h7 _ a1 _ hq
        rw [ea q hq]; exact inN (by omega) (by omega)
      have ib : vp_in (nI i <<< ((7 : Int32) &&& 31) ||| nI m) 1024 := by rw [ix70 i (by omega) m (by omega)]; exact inN (by omega) (by omega)
      have va : ∀ q, q < fN A.F → absS (fPl (mF υ 53) i - fPl (mF υ 53) q) + gA υ 70 (((nI i + 1) <<< ((7 : Int32) &&& 31) ||| nI m) ||| (1 : Int32) <<< (nI q &&& 31)).toNatClampNeg = nI (fzN A.F i q + tM (vN A.F (fN A.F - (i + 1)) (m ||| 2 ^ q))) := fun q hq => by
        have ol := or_lt _ h7 _ a1 _ hq
        rw [ea q hq, nI_clamp (by omega), ht3 υ fu (i + 1) (by omega) _ ol, hF53, (fz_nI hF i q).1, add_nI]
      have vb : gA υ 70 (nI i <<< ((7 : Int32) &&& 31) ||| nI m).toNatClampNeg = nI (vN A.F (fN A.F - i) m) := by
        rw [ix70 i (by omega) m (by omega), nI_clamp (by omega), ht3 υ fu i (by omega) _ a1, tM, if_pos a3]
      refine loopI (α := Unit) 178 (fun q _ => [some (.ref 52), some (.int (nI m)), some (.int (nI i)), some (.int (nI q)), o5]) (fun _ => υ) (fun _ _ => True) q0 ?_ ?_ 0 () (Nat.zero_le _) trivial
      · rintro q - hq - go2
        have hno := b3 q hq
        refine wpW K_X12_mouths [178] 60 ?_
        refine ⟨_, ev_canMouth _ υ i q m (by omega) (by omega) (by omega), ?_⟩
        rintro v τ' ⟨h9, rfl⟩
        obtain rfl := h9.symm
        refine ⟨fun _ => go2 () _ _ (by rw [← nI_1 q]; rfl) rfl trivial, fun d => ⟨_, ev_farOf _ υ 53 (Or.inl rfl) i q (by omega) (by omega), ?_⟩⟩
        rw [bI_ne, decide_eq_true_eq] at d
        rintro v τ' ⟨h9, rfl⟩
        obtain rfl := h9.symm
        have hb2 := v_bd hF (fN A.F - (i + 1)) (by omega) (m ||| 2 ^ q)
        have h9' := (fz_nI hF i q).2.1
        refine ⟨ia q (by omega), ib, fun z => ?_, fun _ => go2 () _ _ (by rw [← nI_1 q]; rfl) rfl trivial⟩
        exfalso
        have z : nI (fzN A.F i q + tM (vN A.F (fN A.F - (i + 1)) (m ||| 2 ^ q))) = nI (vN A.F (fN A.F - i) m) := (va q (by omega)).symm.trans (Eq.trans z vb)
        refine hno ⟨d, ?_⟩
        unfold vB at hb2
        rw [nI_eq (by unfold tM; split <;> omega) (by omega)] at z
        unfold tM at z
        split at z <;> omega
      · rintro - -
        obtain ⟨d, d2⟩ := b2
        have ol := or_lt _ h7 _ a1 q0 b1
        have h9' := (fz_nI hF i q0).2.1
        refine wpW K_X12_mouths [168, 178] 60 ?_
        refine ⟨_, ev_canMouth _ υ i q0 m (by omega) (by omega) (by omega), ?_⟩
        rintro v τ' ⟨h9, rfl⟩
        obtain rfl := h9.symm
        refine ⟨fun e => ?_, fun _ => ⟨_, ev_farOf _ υ 53 (Or.inl rfl) i q0 (by omega) (by omega), ?_⟩⟩
        · rw [bI_eq, decide_eq_false_iff_not] at e
          exact absurd d e
        rintro v τ' ⟨h9, rfl⟩
        obtain rfl := h9.symm
        refine ⟨ia q0 b1, ib, fun _ => ⟨_, ev_tellL _ hr hR (by rw [List.length_map]; omega) _, ?_⟩, fun z => ?_⟩
        · rintro v υ' ⟨rfl, r4, e4, f4⟩
          refine go' υ' q0 rfl _ _ ?_ rfl ⟨fu.tr f4, r4, ?_⟩
          · simp only
            rw [← nI_1 i, ← (or_nI m (by omega) q0 (by omega)).1]
            rfl
          · simp only
            rw [e4, List.map_append]
            rfl
        · exfalso
          apply z
          refine (va q0 b1).trans (Eq.trans ?_ vb.symm)
          rw [tM, if_pos (by omega), d2]
    · rintro ⟨υ, o⟩ ⟨fu, hr, hR⟩
      simp only at fu hr hR ⊢
      have hlen := (pkS_lt h7 (by omega) (fN A.F)).2
      rw [map_rng hlen] at hR
      have n3 : gI υ 52 1 = nI (fN A.F) := (fu.i 1 (by decide)).trans ((f3.i 1 (by decide)).trans (hn τ f))
      refine wpW K_X12_mouths [253] 20 ?_
      refine ⟨fun _ => fin υ _ _ _ _ (fa.tr (fu.up _ _ (by decide) (by decide))) (ht3 υ fu 0 (by omega) 0 (by omega)) hr hR, fun e => ?_⟩
      rw [n3, le_of_nI (by omega) (by omega)] at e; omega
  generalize lstZ A.F 0 = mx at *
  generalize rngL (fN A.F) (fun j => (nI (pkW A.F j)).toInt64) = RR at *
  -- the table
  have phase2 : ∀ τ o2, FM [70] [] σ τ → (∀ m, m < 2 ^ fN A.F → T70 A.F τ (fN A.F) m) → WW M_X12_mouths (k + 3) (fun w τ => w = some (.int mx) ∧ MV τ (A.wR RR) ∧ Fr lM σ0 τ) 54 [some (.ref 52), some (.int (nI (fN A.F - 0) - 1)), o2, none, none] [] τ := by
    intro τ o2 f ht
    refine loopI (α := Sto × Option Value × Option Value × Option Value) 54 (fun t a => [some (.ref 52), some (.int (nI (fN A.F - t) - 1)), a.2.1, a.2.2.1, a.2.2.2]) (fun a => a.1) (fun t a => FM [70] [] σ a.1 ∧ ∀ k', fN A.F - t ≤ k' → k' ≤ fN A.F → ∀ m, m < 2 ^ fN A.F → T70 A.F a.1 k' m) (fN A.F) ?_ ?_ 0 (τ, o2, none, none) (Nat.zero_le _) ⟨f, fun k' h1 h2 => by rw [show k' = fN A.F by omega]; exact ht⟩
    · rintro t ⟨τ, o2, o3, o4⟩ ht ⟨f, hT⟩ go
      simp only at f hT ⊢
      obtain ⟨i, hi⟩ : ∃ i, fN A.F - t = i + 1 := ⟨fN A.F - t - 1, by omega⟩
      have hnt : fN A.F - (t + 1) = i := by omega
      have hin : i < fN A.F := by omega
      have hci : fN A.F - i = (fN A.F - (i + 1)) + 1 := by omega
      rw [hi, nI_pred]
      refine wpW K_X12_mouths [60] 20 ?_
      refine ⟨fun e => absurd e (nI_pos (by omega)), fun _ => ?_⟩
      show WW _ _ _ 60 [some (.ref 52), some (.int (nI i)), some (.int (nI 0)), o3, o4] [] τ
      refine loopI (α := Sto × Option Value × Option Value) 60 (fun m a => [some (.ref 52), some (.int (nI i)), some (.int (nI m)), a.2.1, a.2.2]) (fun a => a.1) (fun m a => FM [70] [] σ a.1 ∧ (∀ k', i + 1 ≤ k' → k' ≤ fN A.F → ∀ m, m < 2 ^ fN A.F → T70 A.F a.1 k' m) ∧ ∀ m', m' < m → T70 A.F a.1 i m') (2 ^ fN A.F) ?_ ?_ 0 (τ, o3, o4) (Nat.zero_le _) ⟨f, fun k' h1 h2 => hT k' (by omega) h2, fun m' h => by omega⟩
      · rintro m ⟨τ, o3, o4⟩ hm ⟨f, hT, hM⟩ go2
        simp only at f hT hM ⊢
        have hF53 : mF τ 53 = A.F := (mF_fr f (by decide) (by decide) (by decide)).trans hb.F
        refine wpW K_X12_mouths [75] 20 ?_
        refine ⟨_, ev_all _ τ (fN A.F) (hn τ f), ?_⟩
        rintro v τ' ⟨h9, rfl⟩
        obtain rfl := h9.symm
        rw [hall]
        refine ⟨fun e => ?_, fun _ => ?_⟩
        · rw [lt_of_nI (by omega) (by omega)] at e; omega
        show WW _ _ _ 75 [some (.ref 52), some (.int (nI i)), some (.int (nI m)), some (.int (nI 1000000)), some (.int (nI 0))] [] τ
        refine loopI (α := Nat) 75 (fun q b => [some (.ref 52), some (.int (nI i)), some (.int (nI m)), some (.int (nI b)), some (.int (nI q))]) (fun _ => τ) (fun q b => b = fo (vI A.F i m (fun m => tM (vN A.F (fN A.F - (i + 1)) m))) 1000000 q ∧ b ≤ 1000000) (fN A.F) ?_ ?_ 0 1000000 (Nat.zero_le _) ⟨rfl, Nat.le_refl _⟩
        · rintro q b hq ⟨hB, hbl⟩ go3
          have es : fo (vI A.F i m (fun m => tM (vN A.F (fN A.F - (i + 1)) m))) 1000000 (q + 1) = vI A.F i m (fun m => tM (vN A.F (fN A.F - (i + 1)) m)) q b := by rw [fo, ← hB]
          rw [vI] at es
          have ol := or_lt _ h7 _ hm q hq
          have h9' := (fz_nI hF i q).2.1
          have tl := tM_le hF (c := fN A.F - (i + 1)) (by omega) (m ||| 2 ^ q)
          refine wpW K_X12_mouths [75, 125] 60 ?_
          refine ⟨fun e => ?_, fun _ => ⟨_, ev_canMouth _ τ i q m (by omega) (by omega) (by omega), ?_⟩⟩
          · rw [hn τ f, le_of_nI (by omega) (by omega)] at e; omega
          rintro v τ' ⟨h9, rfl⟩
          obtain rfl := h9.symm
          refine ⟨fun d => ?_, fun d => ⟨_, ev_farOf _ τ 53 (Or.inl rfl) i q (by omega) (by omega), ?_⟩⟩
          · rw [bI_eq, decide_eq_false_iff_not] at d
            rw [if_neg d] at es
            exact go3 b _ _ (by rw [← nI_1 q]; rfl) rfl ⟨es.symm, hbl⟩
          rw [bI_ne, decide_eq_true_eq] at d
          rw [if_pos d] at es
          rintro v τ' ⟨h9, rfl⟩
          obtain rfl := h9.symm
          have ea : ((nI i + 1) <<< ((7 : Int32) &&& 31) ||| nI m) ||| (1 : Int32) <<< (nI q &&& 31) = nI (128 * (i + 1) + (m ||| 2 ^ q)) := by rw [nI_1 i, ix70 (i + 1) (by omega) m (by omega), ix70b (i + 1) (by omega) m (by omega) q (by omega)]
          have ia : vp_in (((nI i + 1) <<< ((7 : Int32) &&& 31) ||| nI m) ||| (1 : Int32) <<< (nI q &&& 31)) 1024 := by rw [ea]; exact inN (by omega) (by omega)
          have va : absS (fPl (mF τ 53) i - fPl (mF τ 53) q) + gA τ 70 (((nI i + 1) <<< ((7 : Int32) &&& 31) ||| nI m) ||| (1 : Int32) <<< (nI q &&& 31)).toNatClampNeg = nI (fzN A.F i q + tM (vN A.F (fN A.F - (i + 1)) (m ||| 2 ^ q))) := by
            rw [ea, nI_clamp (by omega), hT (i + 1) (by omega) (by omega) _ ol, hF53, (fz_nI hF i q).1, add_nI]
          refine ⟨ia, ?_⟩
          show WW _ _ _ 125 [some (.ref 52), some (.int (nI i)), some (.int (nI m)), some (.int (nI b)), some (.int (nI q))] [.int (absS (fPl (mF τ 53) i - fPl (mF τ 53) q) + gA τ 70 (((nI i + 1) <<< ((7 : Int32) &&& 31) ||| nI m) ||| (1 : Int32) <<< (nI q &&& 31)).toNatClampNeg), .int (nI b)] τ
          rw [va]
          have hmn := minS_nI (a := b) (b := fzN A.F i q + tM (vN A.F (fN A.F - (i + 1)) (m ||| 2 ^ q))) (by omega) (by omega)
          refine wpW K_X12_mouths [75] 60 ?_
          refine go3 (min b (fzN A.F i q + tM (vN A.F (fN A.F - (i + 1)) (m ||| 2 ^ q)))) _ _ ?_ rfl ⟨es.symm, by omega⟩
          rw [← nI_1 q, ← hmn]
          rfl
        · rintro b ⟨hB, hbl⟩
          rw [tM_fo hF (by omega)] at hB
          have hBv : b = tM (vN A.F (fN A.F - i) m) := by
            rw [hB, hci, vN, show fN A.F - (fN A.F - (i + 1) + 1) = i by omega]
          have hii := ix70 i (by omega) m (by omega)
          refine wpW K_X12_mouths [60] 60 ?_
          have ib : vp_in (nI i <<< ((7 : Int32) &&& 31) ||| nI m) 1024 := by rw [hii]; exact inN (by omega) (by omega)
          refine ⟨fun _ => ⟨ib, ?_⟩, fun e => ?_⟩
          rotate_left
          · rw [hn τ f, le_of_nI (by omega) (by omega)] at e; omega
          refine go2 (sA τ 70 (upd (gA τ 70) (128 * i + m) (nI b)), some (.int (nI b)), some (.int (nI (fN A.F)))) _ _ (by rw [← nI_1 m]; rfl) (by
            show sA τ 70 (upd (gA τ 70) (nI i <<< ((7 : Int32) &&& 31) ||| nI m).toNatClampNeg (nI b)) = _
            rw [hii, nI_clamp (by omega)]) ⟨f.sA (by decide), fun k' h1 h2 m' h3 => ?_, fun m' h => ?_⟩
          · unfold T70
            rw [gA_eq, pk_un (by omega)]
            exact hT k' h1 h2 m' h3
          · unfold T70
            rw [gA_eq]
            by_cases c : m' = m
            · subst c; rw [pk_us, hBv]
            · rw [pk_un (by omega)]; exact hM m' (by omega)
      · rintro ⟨τ, o3, o4⟩ ⟨f, hT, hM⟩
        simp only at f hT hM ⊢
        refine wpW K_X12_mouths [54] 20 ?_
        refine ⟨_, ev_all _ τ (fN A.F) (hn τ f), ?_⟩
        rintro v τ' ⟨h9, rfl⟩
        obtain rfl := h9.symm
        rw [hall]
        refine ⟨fun _ => ?_, fun e => ?_⟩
        · refine go (τ, some (.int (nI (2 ^ fN A.F))), o3, o4) _ _ (by rw [hnt, ← dn_lit]; rfl) rfl ⟨f, fun k' h1 h2 m h3 => ?_⟩
          by_cases c : k' = i
          · subst c; exact hM m h3
          · exact hT k' (by omega) h2 m h3
        · rw [lt_of_nI (by omega) (by omega)] at e; omega
    · rintro ⟨τ, o2, o3, o4⟩ ⟨f, hT⟩
      simp only at f hT ⊢
      rw [Nat.sub_self]
      refine wpW K_X12_mouths [159] 20 ?_
      refine ⟨fun _ => phase3 τ _ _ o3 o4 f (fun k' h1 => hT k' (by omega) h1), fun e => absurd (by decide) e⟩
  refine wpW K_X12_mouths [18] 20 ?_
  show WW _ _ _ 18 [some (.ref 52), some (.int (nI 0)), none, none, none] [] σ
  refine loopI (α := Sto) 18 (fun m _ => [some (.ref 52), some (.int (nI m)), none, none, none]) (fun a => a) (fun m a => FM [70] [] σ a ∧ ∀ m', m' < m → T70 A.F a (fN A.F) m') (2 ^ fN A.F) ?_ ?_ 0 σ (Nat.zero_le _) ⟨FM.rf, fun m' h => by omega⟩
  · rintro m τ hm ⟨f, hT⟩ go
    refine wpW K_X12_mouths [18] 20 ?_
    refine ⟨_, ev_all _ τ (fN A.F) (hn τ f), ?_⟩
    rintro v τ' ⟨h9, rfl⟩
    obtain rfl := h9.symm
    rw [hall]
    have ec : gI τ 52 1 <<< ((7 : Int32) &&& 31) ||| nI m = nI (128 * fN A.F + m) := by rw [hn τ f, ix70 (fN A.F) (by omega) m (by omega)]
    have ib : vp_in (gI τ 52 1 <<< ((7 : Int32) &&& 31) ||| nI m) 1024 := by rw [ec]; exact inN (by omega) (by omega)
    refine ⟨fun e => ?_, fun _ => ⟨ib, ?_⟩⟩
    · rw [lt_of_nI (by omega) (by omega)] at e; omega
    refine go (sA τ 70 (upd (gA τ 70) (128 * fN A.F + m) 0)) _ _ (by rw [← nI_1 m]; rfl) (by
      show sA τ 70 (upd (gA τ 70) (gI τ 52 1 <<< ((7 : Int32) &&& 31) ||| nI m).toNatClampNeg 0) = _
      rw [ec, nI_clamp (by omega)]) ⟨f.sA (by decide), fun m' h => ?_⟩
    unfold T70
    rw [gA_eq]
    by_cases c : m' = m
    · subst c; rw [pk_us, Nat.sub_self]; rfl
    · rw [pk_un (by omega)]; exact hT m' (by omega)
  · rintro τ ⟨f, hT⟩
    refine wpW K_X12_mouths [47] 20 ?_
    refine ⟨_, ev_all _ τ (fN A.F) (hn τ f), ?_⟩
    rintro v τ' ⟨h9, rfl⟩
    obtain rfl := h9.symm
    rw [hall]
    refine ⟨fun _ => ?_, fun e => ?_⟩
    · show WW _ _ _ 47 [some (.ref 52), some (.int (nI (2 ^ fN A.F))), none, none, none] [] τ
      refine wpW K_X12_mouths [54] 20 ?_
      have := phase2 τ none f hT
      rw [Nat.sub_zero, ← hn τ f] at this
      exact this
    · rw [lt_of_nI (by omega) (by omega)] at e; omega
