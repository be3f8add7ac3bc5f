/-! the model's calls: end, sign -/
theorem and255 (x : Int32) : ∃ c, c < 256 ∧ x &&& 255 = nI c := by
  refine ⟨(x &&& 255).toBitVec.toNat, ?_, ?_⟩
  · rw [Int32.toBitVec_and, BitVec.toNat_and]
    exact Nat.lt_of_le_of_lt Nat.and_le_right (by decide)
  · rw [← Int32.toBitVec_inj, nI, Int32.toBitVec_ofNat', BitVec.ofNat_toNat, BitVec.setWidth_eq]
theorem b8_sh (v : Int32) (s : Nat) (hs : s = 0 ∨ s = 8 ∨ s = 16 ∨ s = 24) : b8 (ush v (nI s) &&& 255) = b8 (v >>> (nI s &&& 31)) := by
  unfold b8
  congr 1
  rw [← Int8.toBitVec_inj, Int32.toBitVec_toInt8, Int32.toBitVec_toInt8]
  refine BitVec.eq_of_getLsbD_eq (fun i hi => ?_)
  rw [BitVec.getLsbD_signExtend, BitVec.getLsbD_signExtend, if_pos (by omega), if_pos (by omega), Int32.toBitVec_and, BitVec.getLsbD_and, Int32.toBitVec_shiftRight, BitVec.sshiftRight_eq', BitVec.getLsbD_sshiftRight]
  unfold ush
  rw [UInt32.toBitVec_toInt32, UInt32.toBitVec_shiftRight, BitVec.ushiftRight_eq', BitVec.getLsbD_ushiftRight, Int32.toBitVec_toUInt32]
  have h255 : (255 : Int32).toBitVec.getLsbD i = true := (show ∀ i, i < 8 → (255 : Int32).toBitVec.getLsbD i = true by decide) i hi
  rw [h255]
  have e1 : ((nI s).toUInt32 &&& Int32.toUInt32 31).toBitVec % 32 = BitVec.ofNat 32 s := by rcases hs with rfl | rfl | rfl | rfl <;> decide
  have e2 : ((nI s &&& 31).toBitVec.smod 32).toNat = s := by rcases hs with rfl | rfl | rfl | rfl <;> decide
  rw [e1, e2, if_pos (by omega)]
  have e3 : (BitVec.ofNat 32 s).toNat = s := by rcases hs with rfl | rfl | rfl | rfl <;> decide
  rw [e3, decide_eq_false (show ¬ 32 ≤ i by omega), Bool.and_true, Bool.not_false, Bool.true_and]
theorem ch_c : ∀ c, c < 256 → vp_nar .char ((nI c).toUInt32 % 65536).toInt32 = nI c := by decide +kernel
theorem ch_255 (v s : Int32) : chS v s = ush v s &&& 255 := by
  obtain ⟨c, c1, c2⟩ := and255 (ush v s)
  rw [chS, c2, ch_c c c1]
theorem ch_ex (v s : Int32) : ∃ c, c < 256 ∧ chS v s = nI c := by rw [ch_255]; exact and255 _
theorem by_ch (v : Int32) (k : Nat) (hk : k ≤ 3) : vp_nar .byte ((v >>> ((8 * nI k) &&& 31)).toInt8.toInt32) = b8 (chS v (nI (8 * k))) := by
  have e : (8 : Int32) * nI k = nI (8 * k) := (show ∀ k, k ≤ 3 → (8 : Int32) * nI k = nI (8 * k) by decide) k hk
  rw [e, ch_255, b8_sh v (8 * k) (by omega)]
  show ((v >>> (nI (8 * k) &&& 31)).toInt8.toInt32).toInt8.toInt32 = _
  rw [Int8.toInt8_toInt32]
  rfl
theorem mc_end (k : Nat) (A : AS) (x : Int32) : MC (k + 1) M_X12_end [.int x] A (.int (bI (endC A x).1)) (endC A x).2 := by
  intro σ0 hv0
  refine EvM.of mk_X12_end (Nat.le_of_ble_eq_true rfl) ?_
  refine wpW K_X12_end [5] 10 ?_
  obtain ⟨hv, f0⟩ := mv_t0 hv0
  show WW _ _ _ 5 [some (.ref 52), some (.int x)] _ (t0S σ0)
  generalize t0S σ0 = σ at hv f0 ⊢
  have hb := hv.1
  obtain ⟨x1, x2, x3, x4⟩ := hb.x
  unfold endC
  refine wpW K_X12_end [] 60 ?_
  refine ⟨_, ev_in _ _ _ _ _, ?_⟩
  rintro r τ ⟨h9, rfl⟩
  obtain rfl := h9.symm
  rw [x1, in_S (by omega)]
  refine ⟨fun d => ?_, fun d => ?_⟩
  · rw [bI_ne] at d
    rw [if_pos d]
    obtain ⟨v1, v2⟩ := inS_80 (by omega) d
    generalize x.toNatClampNeg = n at *
    subst v2
    have ff : FM [] [4] σ (sI σ 52 4 (nI n)) := FM.rf.sI (by decide)
    obtain ⟨e3, r3⟩ := rw_fr ff (by decide) (by decide)
    refine ⟨Or.inr rfl, rfl, ⟨?_, r3 hv.2.1, e3.trans hv.2.2⟩, f0.tr (ff.fr (by decide))⟩
    refine hb.gen (B := A.wX (cutX A.X n)) ff (hb.kF ff (by decide) (by decide) (by decide)) ⟨rfl, by show n ≤ 80; omega, ?_, ?_⟩ (hb.u.go ff (by decide) (by decide)) (hb.k.go ff (by decide) (by decide) (by decide) (by decide)) (hb.h.go ff (by decide) (by decide) (by decide)) (hb.s.go ff (by decide) (by decide) (by decide)) rfl (by decide) (by decide)
    · intro i hi
      show ∃ c, c < 256 ∧ (if i < n then A.X.2 i else -1) = nI c ∧ gA σ 55 i = b8 (nI c)
      have hi' : i < n := hi
      rw [if_pos hi']
      exact x3 i (by omega)
    · intro p hp
      show (if p < n then A.X.2 p else -1) = -1
      rw [if_neg (by have : n ≤ p := hp; omega)]
  · rw [bI_eq] at d
    rw [if_neg (by rw [d]; decide)]
    exact ⟨Or.inl rfl, rfl, hv, f0⟩
theorem mc_sign (k : Nat) (A : AS) (v : Int32) : MC k M_X12_sign [.int v] A (.int (signC A v).1) (signC A v).2 := by
  intro σ0 hv0
  refine EvM.of mk_X12_sign (Nat.le_of_ble_eq_true rfl) ?_
  refine wpW K_X12_sign [5] 10 ?_
  obtain ⟨hv, f0⟩ := mv_t0 hv0
  show WW _ _ _ 5 [some (.ref 52), some (.int v), none] _ (t0S σ0)
  generalize t0S σ0 = σ at hv f0 ⊢
  have hb := hv.1
  obtain ⟨x1, x2, x3, x4⟩ := hb.x
  unfold signC
  generalize hX : A.X = X at x1 x2 x3 x4 ⊢
  refine wpW K_X12_sign [20] 60 ?_
  refine ⟨fun c => ?_, fun c => ?_⟩
  rotate_left
  · rw [x1, show (4 : Int32) = nI 4 from rfl, add_nI, show (80 : Int32) = nI 80 from rfl, le_of_nI (by omega) (by omega)] at c
    rw [if_neg (by omega)]
    exact ⟨rfl, hv, f0⟩
  rw [x1, show (4 : Int32) = nI 4 from rfl, add_nI, show (80 : Int32) = nI 80 from rfl, le_of_nI (by omega) (by omega)] at c
  rw [if_pos (by omega)]
  show WW _ _ _ 20 [some (.ref 52), some (.int v), some (.int (nI 3))] [] σ
  have step : ∀ (Q : Option Value → Sto → Prop) (τ : Sto) (t m : Nat) (y : Int32), m ≤ 3 → t < 80 → gI τ 52 4 = nI t → y = nI m - 1 → (∀ τ', FM [55] [4] τ τ' → gI τ' 52 4 = nI (t + 1) → gA τ' 55 = upd (gA τ 55) t (b8 (chS v (nI (8 * m)))) → WW M_X12_sign k Q 20 [some (.ref 52), some (.int v), some (.int y)] [] τ') → WW M_X12_sign k Q 20 [some (.ref 52), some (.int v), some (.int (nI m))] [] τ := by
    rintro Q τ t m y hm ht h4 rfl nx
    refine wpW K_X12_sign [20] 60 ?_
    refine ⟨fun c => absurd c (ge0_nI (by omega)), fun _ => ⟨by rw [h4]; exact vp_in_nI (show t < 80 from ht) (by omega), ?_⟩⟩
    have := nx (sA (sI τ 52 4 (gI τ 52 4 + 1)) 55 (upd (gA τ 55) (gI τ 52 4).toNatClampNeg (vp_nar .byte ((v >>> ((8 * nI m) &&& 31)).toInt8.toInt32)))) ((FM.rf.sI (by decide)).sA (by decide)) (by show gI τ 52 4 + 1 = _; rw [h4, nI_1]) (by rw [gA_eq, h4, nI_clamp (by omega), by_ch v m hm])
    rw [← dn_lit] at this
    exact this
  refine step _ σ X.1 3 (nI 2) (by omega) (by omega) x1 (by decide) (fun σ1 f1 i1 g1 => ?_)
  refine step _ σ1 (X.1 + 1) 2 (nI 1) (by omega) (by omega) i1 (by decide) (fun σ2 f2 i2 g2 => ?_)
  refine step _ σ2 (X.1 + 1 + 1) 1 (nI 0) (by omega) (by omega) i2 (by decide) (fun σ3 f3 i3 g3 => ?_)
  refine step _ σ3 (X.1 + 1 + 1 + 1) 0 (-1) (by omega) (by omega) i3 (by decide) (fun σ4 f4 i4 g4 => ?_)
  have ff : FM [55] [4] σ σ4 := ((f1.tr f2).tr f3).tr f4
  refine wpW K_X12_sign [] 60 ?_
  refine ⟨fun _ => ?_, fun c => absurd (by decide) c⟩
  obtain ⟨e3, r3⟩ := rw_fr ff (by decide) (by decide)
  refine ⟨by rw [i4], ⟨?_, r3 hv.2.1, e3.trans hv.2.2⟩, f0.tr (ff.fr (by decide))⟩
  refine hb.gen (B := A.wX (pushX X v)) ff (hb.kF ff (by decide) (by decide) (by decide)) ⟨i4, by show X.1 + 4 ≤ 80; omega, ?_, ?_⟩ (hb.u.go ff (by decide) (by decide)) (hb.k.go ff (by decide) (by decide) (by decide) (by decide)) (hb.h.go ff (by decide) (by decide) (by decide)) (hb.s.go ff (by decide) (by decide) (by decide)) rfl (by decide) (by decide)
  · intro i hi
    have hi' : i < X.1 + 4 := hi
    rw [g4, g3, g2, g1]
    show ∃ c, c < 256 ∧ upd (upd (upd (upd X.2 X.1 (chS v 24)) (X.1 + 1) (chS v 16)) (X.1 + 2) (chS v 8)) (X.1 + 3) (chS v 0) i = nI c ∧ _
    unfold upd
    by_cases d3 : i = X.1 + 3
    · rw [if_pos d3, if_pos d3]
      obtain ⟨c, c1, c2⟩ := ch_ex v 0
      exact ⟨c, c1, c2, by rw [← c2]; rfl⟩
    rw [if_neg d3, if_neg d3]
    by_cases d2 : i = X.1 + 2
    · rw [if_pos d2, if_pos d2]
      obtain ⟨c, c1, c2⟩ := ch_ex v 8
      exact ⟨c, c1, c2, by rw [← c2]; rfl⟩
    rw [if_neg d2, if_neg d2]
    by_cases d1 : i = X.1 + 1
    · rw [if_pos d1, if_pos d1]
      obtain ⟨c, c1, c2⟩ := ch_ex v 16
      exact ⟨c, c1, c2, by rw [← c2]; rfl⟩
    rw [if_neg d1, if_neg d1]
    by_cases d0 : i = X.1
    · rw [if_pos d0, if_pos d0]
      obtain ⟨c, c1, c2⟩ := ch_ex v 24
      exact ⟨c, c1, c2, by rw [← c2]; rfl⟩
    rw [if_neg d0, if_neg d0]
    exact x3 i (by omega)
  · intro p hp
    have hp' : X.1 + 4 ≤ p := hp
    show upd (upd (upd (upd X.2 X.1 (chS v 24)) (X.1 + 1) (chS v 16)) (X.1 + 2) (chS v 8)) (X.1 + 3) (chS v 0) p = -1
    unfold upd
    rw [if_neg (by omega), if_neg (by omega), if_neg (by omega), if_neg (by omega)]
    exact x4 p (by omega)
