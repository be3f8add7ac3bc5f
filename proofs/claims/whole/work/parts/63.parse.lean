/-! the model's reader: a row of bytes, a place, what is wrong -/
def b8 (c : Int32) : Int32 := c.toInt8.toInt32
theorem b8_and : ∀ c, c < 256 → b8 (nI c) &&& 255 = nI c := by decide +kernel
theorem b8_small : ∀ c, c < 128 → b8 (nI c) = nI c := by decide +kernel
theorem and_ge : ∀ c, c < 256 → ¬ nI c = -1 := by decide +kernel
def PR (σ : Sto) (a t m : Nat) (cs : Nat → Int32) (p : Nat) (w : Int32) : Prop := gR σ 52 8 = a + 1 ∧ gI σ 52 9 = nI t ∧ gI σ 52 10 = nI m ∧ gI σ 52 11 = nI p ∧ gI σ 52 12 = w ∧ p ≤ 80 ∧ t ≤ 80 ∧ m ≤ 80 ∧ (a = 55 ∨ (a = 58 ∨ a = 59) ∧ t ≤ 40) ∧ (∀ q, cs q = if q < t ∧ q < m then gA σ a q &&& 255 else -1) ∧ ∀ q, q < t → q < m → ∃ c, c < 256 ∧ gA σ a q = b8 (nI c)
theorem PR.go {σ τ : Sto} {a t m : Nat} {cs : Nat → Int32} {p : Nat} {w : Int32} (h : PR σ a t m cs p w) {l js : List Nat} (hf : FM l js σ τ) (hj : (!js.contains 8 && !js.contains 9 && !js.contains 10) = true) (hl : (!(52 :: l).contains 55 && !(52 :: l).contains 58 && !(52 :: l).contains 59) = true) {p' : Nat} {w' : Int32} (h11 : gI τ 52 11 = nI p') (h12 : gI τ 52 12 = w') (hp : p' ≤ 80) : PR τ a t m cs p' w' := by
  simp only [Bool.and_eq_true] at hj hl
  obtain ⟨h1, h2, h3, h4, h5, h6, h7, h8, h9, h10, h11'⟩ := h
  have ha : gA τ a = gA σ a := by
    rcases h9 with rfl | ⟨rfl | rfl, -⟩
    · exact hf.a 55 hl.1.1
    · exact hf.a 58 hl.1.2
    · exact hf.a 59 hl.2
  refine ⟨(hf.r 8 hj.1.1).trans h1, (hf.i 9 hj.1.2).trans h2, (hf.i 10 hj.2).trans h3, h11, h12, hp, h7, h8, h9, ?_, ?_⟩
  · rw [ha]; exact h10
  · rw [ha]; exact h11'
theorem PR.lt {σ : Sto} {a t m : Nat} {cs : Nat → Int32} {p : Nat} {w : Int32} (h : PR σ a t m cs p w) {q : Nat} (hq : ¬ cs q = -1) : q < t ∧ q < m := by
  rw [h.2.2.2.2.2.2.2.2.2.1 q] at hq
  exact Decidable.byContradiction (fun c => hq (if_neg c))
theorem PR.raw {σ : Sto} {a t m : Nat} {cs : Nat → Int32} {p : Nat} {w : Int32} (h : PR σ a t m cs p w) {q c : Nat} (hc : c < 128) (hq : cs q = nI c) : gA σ a q = nI c := by
  have hn : ¬ cs q = -1 := by rw [hq]; exact and_ge c (by omega)
  obtain ⟨h1, h2⟩ := h.lt hn
  obtain ⟨d, d1, d2⟩ := h.2.2.2.2.2.2.2.2.2.2 q h1 h2
  have := h.2.2.2.2.2.2.2.2.2.1 q
  rw [if_pos ⟨h1, h2⟩, d2, b8_and d d1, hq, eq_of_nI (by omega) (by omega)] at this
  subst this
  rw [d2, b8_small c hc]
theorem PR.at {σ : Sto} {a t m : Nat} {cs : Nat → Int32} {p : Nat} {w : Int32} (h : PR σ a t m cs p w) : gI σ 52 11 = nI p := h.2.2.2.1
theorem PR.wr {σ : Sto} {a t m : Nat} {cs : Nat → Int32} {p : Nat} {w : Int32} (h : PR σ a t m cs p w) : gI σ 52 12 = w := h.2.2.2.2.1
theorem PR.p80 {σ : Sto} {a t m : Nat} {cs : Nat → Int32} {p : Nat} {w : Int32} (h : PR σ a t m cs p w) : p ≤ 80 := h.2.2.2.2.2.1
theorem PR.t80 {σ : Sto} {a t m : Nat} {cs : Nat → Int32} {p : Nat} {w : Int32} (h : PR σ a t m cs p w) : t ≤ 80 := h.2.2.2.2.2.2.1
theorem ev_fine (k : Nat) (σ : Sto) {w : Int32} (h : gI σ 52 12 = w) : EvM k M_X12_fine [.ref 52] σ (fun v τ => τ = σ ∧ v = some (.int (bI (decide (w = -1))))) := by
  refine EvM.of mk_X12_fine (Nat.le_of_ble_eq_true rfl) ?_
  refine wpW K_X12_fine [] 20 ?_
  refine ⟨fun c => ⟨Or.inl rfl, rfl, ?_⟩, fun c => ⟨Or.inr rfl, rfl, ?_⟩⟩
  · rw [h] at c; simp [bI, c]
  · rw [h] at c; simp [bI, c]
theorem ev_here (k : Nat) (σ : Sto) {a t m : Nat} {cs : Nat → Int32} {p : Nat} {w : Int32} (h : PR σ a t m cs p w) : EvM k M_X12_here [.ref 52] σ (fun v τ => τ = σ ∧ v = some (.int (cs p))) := by
  obtain ⟨h1, h2, h3, h4, h5, h6, h7, h8, h9, h10, h11⟩ := id h
  refine EvM.of mk_X12_here (Nat.le_of_ble_eq_true rfl) ?_
  refine wpW K_X12_here [] 30 ?_
  refine ⟨fun c => ?_, fun c => ⟨fun d => ?_, fun d => ⟨a, h1, ?_⟩⟩⟩
  · rw [h4, h2, le_of_nI (by omega) (by omega)] at c
    exact ⟨rfl, by rw [h10 p, if_neg (by omega)]⟩
  · rw [h4, h3, le_of_nI (by omega) (by omega)] at d
    exact ⟨rfl, by rw [h10 p, if_neg (by omega)]⟩
  · rw [h4, h2, le_of_nI (by omega) (by omega)] at c
    rw [h4, h3, le_of_nI (by omega) (by omega)] at d
    have e := h10 p
    rw [if_pos (by omega)] at e
    rcases h9 with rfl | ⟨rfl | rfl, h9⟩
    · refine ⟨by rw [h4]; exact vp_in_nI (show p < 80 by omega) (by omega), rfl, ?_⟩
      rw [h4, nI_clamp (by omega), e]
    · refine ⟨by rw [h4]; exact vp_in_nI (show p < 40 by omega) (by omega), rfl, ?_⟩
      rw [h4, nI_clamp (by omega), e]
    · refine ⟨by rw [h4]; exact vp_in_nI (show p < 40 by omega) (by omega), rfl, ?_⟩
      rw [h4, nI_clamp (by omega), e]
def jP : List Nat := [11, 12]
theorem ev_fault (k : Nat) (σ : Sto) {a t m : Nat} {cs : Nat → Int32} {p : Nat} {w : Int32} (h : PR σ a t m cs p w) (x : Int32) : EvM (k + 1) M_X12_fault [.ref 52, .int x] σ (fun v τ => v = none ∧ PR τ a t m cs p (if w = -1 then x else w) ∧ FM [] jP σ τ) := by
  refine EvM.of mk_X12_fault (Nat.le_of_ble_eq_true rfl) ?_
  refine wpW K_X12_fault [] 20 ?_
  refine ⟨_, ev_fine _ σ h.wr, ?_⟩
  rintro v τ ⟨h9, rfl⟩
  obtain rfl := h9.symm
  refine ⟨fun c => ?_, fun c => ?_⟩
  · rw [bI_eq, decide_eq_false_iff_not] at c
    rw [if_neg c]
    exact ⟨rfl, h, FM.rf⟩
  · rw [bI_ne, decide_eq_true_eq] at c
    rw [if_pos c]
    have hf : FM [] jP σ (sI σ 52 12 x) := FM.rf.sI (by decide)
    exact ⟨rfl, h.go hf (by decide) (by decide) (h.at) rfl h.p80, hf⟩
theorem ev_passes (k : Nat) (σ : Sto) {a t m : Nat} {cs : Nat → Int32} {p : Nat} {w : Int32} (h : PR σ a t m cs p w) (c : Int32) (hc : ¬ c = -1) : EvM (k + 1) M_X12_passes [.ref 52, .int c] σ (fun v τ => v = some (.int (bI (decide (w = -1 ∧ cs p = c)))) ∧ PR τ a t m cs (if w = -1 ∧ cs p = c then p + 1 else p) w ∧ FM [] jP σ τ) := by
  refine EvM.of mk_X12_passes (Nat.le_of_ble_eq_true rfl) ?_
  refine wpW K_X12_passes [] 20 ?_
  refine ⟨_, ev_fine _ σ h.wr, ?_⟩
  rintro v τ ⟨h9, rfl⟩
  obtain rfl := h9.symm
  refine ⟨fun d => ?_, fun d => ⟨_, ev_here _ σ h, ?_⟩⟩
  · rw [bI_eq, decide_eq_false_iff_not] at d
    have d' : ¬ (w = -1 ∧ cs p = c) := fun q => d q.1
    rw [if_neg d', decide_eq_false d']
    exact ⟨Or.inl rfl, rfl, h, FM.rf⟩
  · rw [bI_ne, decide_eq_true_eq] at d
    rintro v τ ⟨h9, rfl⟩
    obtain rfl := h9.symm
    refine ⟨fun e => ?_, fun e => ?_⟩
    · have d' : w = -1 ∧ cs p = c := ⟨d, e⟩
      rw [if_pos d', decide_eq_true d']
      have hf : FM [] jP σ (sI σ 52 11 (gI σ 52 11 + 1)) := FM.rf.sI (by decide)
      have hl := h.lt (q := p) (by rw [e]; exact hc)
      have := h.t80
      refine ⟨Or.inr rfl, rfl, h.go hf (by decide) (by decide) ?_ h.wr (by omega), hf⟩
      rw [gI_sI, if_pos ⟨rfl, rfl⟩, h.at, nI_1]
    · have d' : ¬ (w = -1 ∧ cs p = c) := fun q => e q.2
      rw [if_neg d', decide_eq_false d']
      exact ⟨Or.inl rfl, rfl, h, FM.rf⟩
theorem ev_need (k : Nat) (σ : Sto) {a t m : Nat} {cs : Nat → Int32} {p : Nat} {w : Int32} (h : PR σ a t m cs p w) (c : Int32) (hc : ¬ c = -1) : EvM (k + 2) M_X12_need [.ref 52, .int c] σ (fun v τ => v = none ∧ PR τ a t m cs (if w = -1 ∧ cs p = c then p + 1 else p) (if w = -1 ∧ ¬ cs p = c then nI p else w) ∧ FM [] jP σ τ) := by
  refine EvM.of mk_X12_need (Nat.le_of_ble_eq_true rfl) ?_
  refine wpW K_X12_need [] 20 ?_
  refine ⟨_, ev_passes _ σ h c hc, ?_⟩
  rintro v τ ⟨rfl, h1, f1⟩
  refine ⟨fun d => ?_, fun d => ?_⟩
  · rw [bI_ne, decide_eq_true_eq] at d
    rw [if_neg (show ¬ (w = -1 ∧ ¬ cs p = c) from fun q => q.2 d.2)]
    exact ⟨rfl, h1, f1⟩
  · rw [bI_eq, decide_eq_false_iff_not] at d
    rw [if_neg d] at h1 ⊢
    refine ⟨_, ev_fault _ τ h1 _, ?_⟩
    rintro v τ' ⟨rfl, h2, f2⟩
    refine ⟨rfl, ?_, f1.tr f2⟩
    rw [h1.at] at h2
    by_cases e : w = -1
    · rw [if_pos e] at h2
      rw [if_pos ⟨e, fun q => d ⟨e, q⟩⟩]
      exact h2
    · rw [if_neg e] at h2
      rw [if_neg (fun q => e q.1)]
      exact h2
theorem dg_iff {x : Int32} : (!decide (x < 48) && !decide (57 < x)) = isDg x := rfl
theorem dg_c {x : Int32} (h : isDg x = true) : ∃ c, c < 128 ∧ x = nI c := by
  rw [isDg, Bool.and_eq_true, Bool.not_eq_true', Bool.not_eq_true', decide_eq_false_iff_not, decide_eq_false_iff_not, Int32.lt_iff_toInt_lt, Int32.lt_iff_toInt_lt] at h
  rw [show (48 : Int32).toInt = 48 from rfl, show (57 : Int32).toInt = 57 from rfl] at h
  obtain ⟨n, h1, h2⟩ := nI_ex (m := 127) (x := x) (by omega) (by omega) (by omega)
  exact ⟨n, by omega, h2⟩
theorem ev_oneOf (k : Nat) (σ : Sto) {a t m : Nat} {cs : Nat → Int32} {p : Nat} {w : Int32} (h : PR σ a t m cs p w) : EvM (k + 2) M_X12_oneOf [.ref 52, .int 48, .int 10] σ (fun v τ => v = some (.int (if w = -1 then digS (cs p) else 0)) ∧ PR τ a t m cs (if w = -1 ∧ isDg (cs p) = true then p + 1 else p) (if w = -1 ∧ ¬ isDg (cs p) = true then nI p else w) ∧ FM [] jP σ τ) := by
  refine EvM.of mk_X12_oneOf (Nat.le_of_ble_eq_true rfl) ?_
  refine wpW K_X12_oneOf [] 40 ?_
  refine ⟨_, ev_fine _ σ h.wr, ?_⟩
  rintro v τ ⟨h9, rfl⟩
  obtain rfl := h9.symm
  refine ⟨fun d => ⟨_, ev_here _ σ h, ?_⟩, fun d => ?_⟩
  · rw [bI_ne, decide_eq_true_eq] at d
    rintro v τ ⟨h9, rfl⟩
    obtain rfl := h9.symm
    refine ⟨_, ev_in _ _ _ _ _, ?_⟩
    rintro v τ ⟨h9, rfl⟩
    obtain rfl := h9.symm
    rw [show (48 : Int32) + 10 - 1 = 57 from rfl, dg_iff, if_pos d]
    refine ⟨fun e => ⟨a, h.1, ?_⟩, fun e => ⟨_, ev_fault _ σ h _, ?_⟩⟩
    · rw [bI_ne] at e
      rw [if_pos ⟨d, e⟩, if_neg (fun q => q.2 e)]
      obtain ⟨c, c1, c2⟩ := dg_c e
      have hr := h.raw c1 c2
      have hl := h.lt (q := p) (dg_ne e)
      have ht := h.t80
      have hf : FM [] jP σ (sI σ 52 11 (gI σ 52 11 + 1)) := FM.rf.sI (by decide)
      have e11 : gI (sI σ 52 11 (gI σ 52 11 + 1)) 52 11 = nI (p + 1) := by rw [gI_sI, if_pos ⟨rfl, rfl⟩, h.at, nI_1]
      have e12 : gI (sI σ 52 11 (gI σ 52 11 + 1)) 52 11 - 1 = nI p := by rw [e11, ← add_nI]; exact Int32.add_sub_cancel _ _
      have hv : gA σ a (nI p).toNatClampNeg - 48 = digS (cs p) := by rw [nI_clamp (by omega), hr, digS, if_pos e, c2]
      have hP := h.go hf (by decide) (by decide) e11 h.wr (by omega)
      rcases h.2.2.2.2.2.2.2.2.1 with rfl | ⟨rfl | rfl, h40⟩
      · refine ⟨?_, ?_, hP, hf⟩
        · show vp_in (gI (sI σ 52 11 (gI σ 52 11 + 1)) 52 11 - 1) 80
          rw [e12]; exact vp_in_nI (by omega) (by omega)
        · show some (Value.int (gA σ 55 (gI (sI σ 52 11 (gI σ 52 11 + 1)) 52 11 - 1).toNatClampNeg - 48)) = _
          rw [e12, hv]
      · refine ⟨?_, ?_, hP, hf⟩
        · show vp_in (gI (sI σ 52 11 (gI σ 52 11 + 1)) 52 11 - 1) 40
          rw [e12]; exact vp_in_nI (by omega) (by omega)
        · show some (Value.int (gA σ 58 (gI (sI σ 52 11 (gI σ 52 11 + 1)) 52 11 - 1).toNatClampNeg - 48)) = _
          rw [e12, hv]
      · refine ⟨?_, ?_, hP, hf⟩
        · show vp_in (gI (sI σ 52 11 (gI σ 52 11 + 1)) 52 11 - 1) 40
          rw [e12]; exact vp_in_nI (by omega) (by omega)
        · show some (Value.int (gA σ 59 (gI (sI σ 52 11 (gI σ 52 11 + 1)) 52 11 - 1).toNatClampNeg - 48)) = _
          rw [e12, hv]
    · rintro v τ' ⟨rfl, h2, f2⟩
      rw [bI_eq] at e
      have e' : ¬ isDg (cs p) = true := by rw [e]; decide
      rw [if_neg (fun q => e' q.2), if_pos ⟨d, e'⟩]
      rw [if_pos d, h.at] at h2
      exact ⟨by rw [digS, if_neg e'], h2, f2⟩
  · rw [bI_eq, decide_eq_false_iff_not] at d
    rw [if_neg d, if_neg (fun q => d q.1), if_neg (fun q => d q.1)]
    exact ⟨rfl, h, FM.rf⟩
theorem num_add (x y : Int32) : 10 * x + (y - 48) = 10 * x + y - 48 := by
  rw [Int32.sub_eq_add_neg, Int32.sub_eq_add_neg, Int32.add_assoc]
theorem ev_number (k : Nat) (σ : Sto) {a t m : Nat} {cs : Nat → Int32} {p : Nat} (h : PR σ a t m cs p (-1)) (hd : isDg (cs p) = true) : EvM (k + 3) M_X12_number [.ref 52, .int 3] σ (fun v τ => v = some (.int (numS cs 3 p 0 0).2) ∧ PR τ a t m cs (p + (numS cs 3 p 0 0).1) (-1) ∧ FM [] jP σ τ) := by
  refine EvM.of mk_X12_number (Nat.le_of_ble_eq_true rfl) ?_
  refine wpW K_X12_number [11] 40 ?_
  refine ⟨_, ev_oneOf _ σ h, ?_⟩
  rintro v σ1 ⟨rfl, h1, f1⟩
  rw [if_pos rfl, digS, if_pos hd]
  rw [if_pos ⟨rfl, hd⟩, if_neg (fun q => q.2 hd)] at h1
  generalize hT : numS cs 3 p 0 0 = T
  rw [numS, if_pos hd, show (10 * 0 + cs p - 48 : Int32) = cs p - 48 by rw [show (10 * 0 : Int32) = 0 from rfl, Int32.zero_add]] at hT
  have fin : ∀ i (τ : Sto), PR τ a t m cs (p + T.1) (-1) → FM [] jP σ τ → WW M_X12_number (k + 3) (fun v τ => v = some (.int T.2) ∧ PR τ a t m cs (p + T.1) (-1) ∧ FM [] jP σ τ) 57 [some (.ref 52), some (.int 3), some (.int T.2), some (.int (nI i))] [] τ := by
    intro i τ hp hf
    refine wpW K_X12_number [] 20 ?_
    exact ⟨rfl, hp, hf⟩
  refine loopI (α := Sto × Int32) 11 (fun i x => [some (.ref 52), some (.int 3), some (.int x.2), some (.int (nI (i + 1)))]) (fun x => x.1) (fun i x => PR x.1 a t m cs (p + (i + 1)) (-1) ∧ FM [] jP σ x.1 ∧ T = numS cs (2 - i) (p + (i + 1)) x.2 (i + 1)) 2 ?_ ?_ 0 (σ1, cs p - 48) (Nat.zero_le _) ⟨h1, f1, hT.symm⟩
  · rintro i ⟨τ, x⟩ hi ⟨hp, hf, hI⟩ go
    simp only at hp hf hI ⊢
    rw [show 2 - i = (2 - (i + 1)) + 1 by omega, numS] at hI
    refine wpW K_X12_number [11, 57] 40 ?_
    refine ⟨fun c => ?_, fun _ => ⟨_, ev_fine _ _ hp.wr, ?_⟩⟩
    · rw [show (3 : Int32) = nI 3 from rfl, le_of_nI (by omega) (by omega)] at c; omega
    rintro v τ' ⟨h9, rfl⟩
    obtain rfl := h9.symm
    refine ⟨fun c => absurd c (by decide), fun _ => ⟨_, ev_here _ _ hp, ?_⟩⟩
    rintro v τ' ⟨h9, rfl⟩
    obtain rfl := h9.symm
    refine ⟨_, ev_in _ _ _ _ _, ?_⟩
    rintro v τ' ⟨h9, rfl⟩
    obtain rfl := h9.symm
    rw [dg_iff]
    refine ⟨fun c => ?_, fun c => ⟨_, ev_oneOf _ _ hp, ?_⟩⟩
    · rw [bI_eq] at c
      rw [if_neg (by rw [c]; decide)] at hI
      have := fin (i + 1) τ (by rw [hI]; exact hp) hf
      rw [hI] at this ⊢
      exact this
    · rw [bI_ne] at c
      rw [if_pos c] at hI
      rintro v τ' ⟨rfl, h2, f2⟩
      rw [if_pos ⟨rfl, c⟩, if_neg (fun q => q.2 c)] at h2
      refine go (τ', 10 * x + cs (p + (i + 1)) - 48) _ _ ?_ rfl ⟨h2, hf.tr f2, hI⟩
      rw [if_pos rfl, digS, if_pos c, ← num_add, ← nI_1 (i + 1)]
      rfl
  · rintro ⟨τ, x⟩ ⟨hp, hf, hI⟩
    simp only at hp hf hI ⊢
    rw [numS] at hI
    refine wpW K_X12_number [57] 40 ?_
    refine ⟨fun _ => ?_, fun c => absurd (show (3 : Int32) ≤ nI 3 by decide) c⟩
    have := fin 3 τ (by rw [hI]; exact hp) hf
    rw [hI] at this ⊢
    exact this
theorem ev_wasRight (k : Nat) (σ : Sto) {a t m : Nat} {cs : Nat → Int32} {p : Nat} {w : Int32} (h : PR σ a t m cs p w) : EvM (k + 2) M_X12_wasRight [.ref 52] σ (fun v τ => v = some (.int (bI (decide (w = -1 ∧ t ≤ p)))) ∧ PR τ a t m cs p (if w = -1 ∧ p < t then nI p else w) ∧ FM [] jP σ τ) := by
  have hp := h.p80
  have ht := h.t80
  refine EvM.of mk_X12_wasRight (Nat.le_of_ble_eq_true rfl) ?_
  refine wpW K_X12_wasRight [] 40 ?_
  refine ⟨fun c => ⟨_, ev_fine _ _ h.wr, ?_⟩, fun c => ⟨_, ev_fault _ σ h _, ?_⟩⟩
  · rw [h.at, h.2.1, le_of_nI (by omega) (by omega)] at c
    rintro v τ' ⟨h9, rfl⟩
    obtain rfl := h9.symm
    rw [if_neg (fun q => by omega)]
    refine ⟨bI_or _, ?_, h, FM.rf⟩
    by_cases d : w = -1
    · rw [decide_eq_true d, decide_eq_true ⟨d, c⟩]
    · rw [decide_eq_false d, decide_eq_false (fun q => d q.1)]
  · rw [h.at, h.2.1, le_of_nI (by omega) (by omega)] at c
    rintro v τ ⟨rfl, h2, f2⟩
    rw [h.at] at h2
    refine ⟨_, ev_fine _ _ h2.wr, ?_⟩
    rintro v τ' ⟨h9, rfl⟩
    obtain rfl := h9.symm
    rw [decide_eq_false (show ¬ (w = -1 ∧ t ≤ p) from fun q => by omega)]
    by_cases d : w = -1
    · rw [if_pos d] at h2 ⊢
      rw [if_pos ⟨d, by omega⟩, decide_eq_false (ne_m1 (by omega))]
      exact ⟨Or.inl rfl, rfl, h2, f2⟩
    · rw [if_neg d] at h2 ⊢
      rw [if_neg (fun q => d q.1), decide_eq_false d]
      exact ⟨Or.inl rfl, rfl, h2, f2⟩
