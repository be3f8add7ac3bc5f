/-! the model's calls: rests -/
theorem ev_gets (k : Nat) (σ : Sto) (x y w : Int32) : EvM (k + 1) M_X12_gets [.int x, .int y, .int w] σ (fun r τ => τ = σ ∧ r = some (.int (gainS x y w))) := by
  refine EvM.of mk_X12_gets (Nat.le_of_ble_eq_true rfl) ?_
  refine wpW K_X12_gets [] 40 ?_
  refine ⟨fun h => ⟨rfl, ?_⟩, fun h => ⟨rfl, ?_⟩⟩
  · rw [gainS, if_pos h]; rfl
  · rw [gainS, if_neg h]; rfl
def ibS (w : Int32) (x y : Nat) : Nat → Nat → Bool
  | 0, _ => true
  | c + 1, z => if gainS (nI z) (nI y) w ≤ gainS (nI x) (nI y) w then ibS w x y c (z + 1) else false
theorem ev_isBest (k : Nat) (σ : Sto) (w : Int32) (x y : Nat) : EvM (k + 2) M_X12_isBest [.int (nI x), .int (nI y), .int w] σ (fun r τ => τ = σ ∧ r = some (.int (bI (ibS w x y 10 0)))) := by
  refine EvM.of mk_X12_isBest (Nat.le_of_ble_eq_true rfl) ?_
  generalize hT : ibS w x y 10 0 = T
  refine wpW K_X12_isBest [2] 20 ?_
  refine loopI (α := Unit) 2 (fun i _ => [some (.int (nI x)), some (.int (nI y)), some (.int w), some (.int (nI i))]) (fun _ => σ) (fun i _ => T = ibS w x y (10 - i) i) 10 ?_ ?_ 0 () (Nat.zero_le _) hT.symm
  · rintro i - hi hI go
    rw [show 10 - i = (10 - (i + 1)) + 1 by omega, ibS] at hI
    refine wpW K_X12_isBest [2] 40 ?_
    refine ⟨fun e => ?_, fun _ => ⟨_, ev_gets _ _ _ _ _, ?_⟩⟩
    · rw [show (9 : Int32) = nI 9 from rfl, lt_of_nI (by omega) (by omega)] at e; omega
    rintro v τ' ⟨h9, rfl⟩
    obtain rfl := h9.symm
    refine ⟨_, ev_gets _ _ _ _ _, ?_⟩
    rintro v τ' ⟨h9, rfl⟩
    obtain rfl := h9.symm
    refine ⟨fun e => ?_, fun e => ?_⟩
    · rw [if_pos e] at hI
      exact go () _ _ (by rw [← nI_1]; rfl) rfl hI
    · rw [if_neg e] at hI
      exact ⟨Or.inl rfl, rfl, by rw [hI]; rfl⟩
  · rintro - hI
    rw [Nat.sub_self, ibS] at hI
    refine wpW K_X12_isBest [] 40 ?_
    refine ⟨fun _ => ⟨Or.inr rfl, rfl, by rw [hI]; rfl⟩, fun e => absurd (show (9 : Int32) < nI 10 by decide) e⟩
theorem ib_all (w : Int32) (x y : Nat) : ∀ c z, ibS w x y c z = true ↔ ∀ j, z ≤ j → j < z + c → gainS (nI j) (nI y) w ≤ gainS (nI x) (nI y) w := by
  intro c
  induction c with
  | zero => intro z; exact ⟨fun _ j h1 h2 => by omega, fun _ => rfl⟩
  | succ c ih =>
    intro z
    rw [ibS]
    by_cases h : gainS (nI z) (nI y) w ≤ gainS (nI x) (nI y) w
    · rw [if_pos h, ih (z + 1)]
      refine ⟨fun q j h1 h2 => ?_, fun q j h1 h2 => q j (by omega) (by omega)⟩
      by_cases e : j = z
      · rw [e]; exact h
      · exact q j (by omega) (by omega)
    · rw [if_neg h]
      exact ⟨fun q => absurd q (by decide), fun q => absurd (q z (Nat.le_refl _) (by omega)) h⟩
theorem best_max (w : Int32) (y : Nat) : ∀ n, (∀ j, j ≤ n → gainS (nI j) (nI y) w ≤ fo (fun x m => maxS m (gainS (nI (x + 1)) (nI y) w)) (gainS 0 (nI y) w) n) ∧ ∃ j, j ≤ n ∧ fo (fun x m => maxS m (gainS (nI (x + 1)) (nI y) w)) (gainS 0 (nI y) w) n = gainS (nI j) (nI y) w := by
  intro n
  induction n with
  | zero => exact ⟨fun j hj => by rw [show j = 0 by omega]; exact Int32.le_refl _, 0, Nat.le_refl _, rfl⟩
  | succ n ih =>
    obtain ⟨i1, j, j1, j2⟩ := ih
    rw [fo]
    generalize fo (fun x m => maxS m (gainS (nI (x + 1)) (nI y) w)) (gainS 0 (nI y) w) n = b at *
    unfold maxS
    by_cases c : b < gainS (nI (n + 1)) (nI y) w
    · rw [if_pos c]
      refine ⟨fun i hi => ?_, n + 1, Nat.le_refl _, rfl⟩
      by_cases e : i = n + 1
      · rw [e]; exact Int32.le_refl _
      · exact Int32.le_trans (i1 i (by omega)) (Int32.le_of_lt c)
    · rw [if_neg c]
      refine ⟨fun i hi => ?_, j, by omega, j2⟩
      by_cases e : i = n + 1
      · rw [e]; exact Int32.not_lt.mp c
      · exact i1 i (by omega)
theorem ib_best (w : Int32) {x y : Nat} (hx : x < 10) : ibS w x y 10 0 = decide (gainS (nI x) (nI y) w = bestS w y) := by
  obtain ⟨b1, j, b2, b3⟩ := best_max w y 9
  rw [Bool.eq_iff_iff, ib_all, decide_eq_true_eq]
  show _ ↔ gainS (nI x) (nI y) w = fo (fun x m => maxS m (gainS (nI (x + 1)) (nI y) w)) (gainS 0 (nI y) w) 9
  refine ⟨fun q => Int32.le_antisymm (b1 x (by omega)) ?_, fun q i _ hi => by rw [q]; exact b1 i (by omega)⟩
  rw [b3]
  exact q j (by omega) (by omega)
theorem rest_M (w : Int32) {x y : Nat} (hx : x < 10) (hy : y < 10) : restS w x y = (ibS w x y 10 0 && ibS w y x 10 0) := by rw [ib_best w hx, ib_best w hy, restS]
theorem rests_bd (w : Int32) : ∀ n, (fo (fun x st => fo (fun y st => rstT w x y st) st 10) (0, []) n).1 ≤ 10 * n ∧ ((fo (fun x st => fo (fun y st => rstT w x y st) st 10) (0, []) n).1 = 0 → (fo (fun x st => fo (fun y st => rstT w x y st) st 10) (0, []) n).2 = []) := by
  have inn : ∀ x (st : Nat × List Int64), (st.1 = 0 → st.2 = []) → ∀ m, (fo (fun y st => rstT w x y st) st m).1 ≤ st.1 + m ∧ ((fo (fun y st => rstT w x y st) st m).1 = 0 → (fo (fun y st => rstT w x y st) st m).2 = []) := by
    intro x st h m
    induction m with
    | zero => exact ⟨Nat.le_refl _, h⟩
    | succ m ih =>
      rw [fo, rstT]
      split
      · exact ⟨by simp only; omega, fun z => by simp at z⟩
      · exact ⟨by omega, ih.2⟩
  intro n
  induction n with
  | zero => exact ⟨Nat.le_refl _, fun _ => rfl⟩
  | succ n ih =>
    have := inn n _ ih.2 10
    rw [fo]
    exact ⟨by omega, this.2⟩
theorem rests_in (w : Int32) (x : Nat) (st : Nat × List Int64) (h : st.1 = 0 → st.2 = []) : ∀ m, (fo (fun y st => rstT w x y st) st m).1 ≤ st.1 + m ∧ ((fo (fun y st => rstT w x y st) st m).1 = 0 → (fo (fun y st => rstT w x y st) st m).2 = []) := by
  intro m
  induction m with
  | zero => exact ⟨Nat.le_refl _, h⟩
  | succ m ih =>
    rw [fo, rstT]
    split
    · exact ⟨by simp only; omega, fun z => by simp at z⟩
    · exact ⟨by omega, ih.2⟩
theorem mc_rests (k : Nat) (A : AS) (w : Int32) : MC (k + 3) M_X12_rests [.int w] A (.int (restsC A w).1) (restsC A w).2 := by
  intro σ0 hv0
  refine EvM.of mk_X12_rests (Nat.le_of_ble_eq_true rfl) ?_
  refine wpW K_X12_rests [5] 10 ?_
  obtain ⟨hv, f0⟩ := mv_t0 hv0
  show WW _ _ _ 5 [some (.ref 52), some (.int w), none, none, none] _ (t0S σ0)
  generalize t0S σ0 = σ at hv f0 ⊢
  have hb := hv.1
  unfold restsC
  refine wpW K_X12_rests [26] 60 ?_
  refine ⟨_, ev_in _ _ _ _ _, ?_⟩
  rintro v τ ⟨h9, rfl⟩
  obtain rfl := h9.symm
  rw [show (20 : Int32) = nI 20 from rfl, in_S (by omega)]
  refine ⟨fun c => ?_, fun c => ?_⟩
  rotate_left
  · rw [bI_eq] at c
    rw [if_neg (by rw [c]; decide)]
    exact ⟨rfl, hv, f0⟩
  rw [bI_ne] at c
  rw [if_pos c]
  obtain ⟨r1, r2⟩ := row_0 σ
  have f3 : FM [] [6] σ (sI σ 52 6 0) := FM.rf.sI (by decide)
  show WW _ _ _ 26 [some (.ref 52), some (.int w), some (.int (nI 0)), some (.int (nI 0)), none] [] (sI σ 52 6 0)
  generalize sI σ 52 6 0 = σ3 at r1 r2 f3 ⊢
  refine loopI (α := Sto × (Nat × List Int64) × Option Value) 26 (fun x a => [some (.ref 52), some (.int w), some (.int (nI a.2.1.1)), some (.int (nI x)), a.2.2]) (fun a => a.1) (fun x a => FM [56] [6] σ a.1 ∧ rOK a.1 ∧ mRw a.1 = a.2.1.2 ∧ a.2.1 = fo (fun x st => fo (fun y st => rstT w x y st) st 10) (0, []) x) 10 ?_ ?_ 0 (σ3, (0, []), none) (Nat.zero_le _) ⟨f3.up _ _ (by decide) (by decide), r1, r2, rfl⟩
  · rintro x ⟨τ, st, o⟩ hx ⟨f, hr, hR, hI⟩ go
    simp only at f hr hR hI ⊢
    have bd := rests_bd w x
    rw [← hI] at bd
    have hs : fo (fun x st => fo (fun y st => rstT w x y st) st 10) (0, []) (x + 1) = fo (fun y st => rstT w x y st) st 10 := by rw [fo, ← hI]
    refine wpW K_X12_rests [35] 60 ?_
    refine ⟨fun e => ?_, fun _ => ?_⟩
    · rw [show (9 : Int32) = nI 9 from rfl, lt_of_nI (by omega) (by omega)] at e; omega
    show WW _ _ _ 35 [some (.ref 52), some (.int w), some (.int (nI st.1)), some (.int (nI x)), some (.int (nI 0))] [] τ
    refine loopI (α := Sto × (Nat × List Int64)) 35 (fun y a => [some (.ref 52), some (.int w), some (.int (nI a.2.1)), some (.int (nI x)), some (.int (nI y))]) (fun a => a.1) (fun y a => FM [56] [6] σ a.1 ∧ rOK a.1 ∧ mRw a.1 = a.2.2 ∧ a.2 = fo (fun y st => rstT w x y st) st y) 10 ?_ ?_ 0 (τ, st) (Nat.zero_le _) ⟨f, hr, hR, rfl⟩
    · rintro y ⟨τ, su⟩ hy ⟨g, kr, kR, kI⟩ go2
      simp only at g kr kR kI ⊢
      have bi := rests_in w x st bd.2 y
      rw [← kI] at bi
      have ks : fo (fun y st => rstT w x y st) st (y + 1) = rstT w x y su := by rw [fo, ← kI]
      rw [rstT, rest_M w hx hy] at ks
      refine wpW K_X12_rests [35] 60 ?_
      refine ⟨fun e => ?_, fun _ => ⟨_, ev_isBest _ _ _ _ _, ?_⟩⟩
      · rw [show (9 : Int32) = nI 9 from rfl, lt_of_nI (by omega) (by omega)] at e; omega
      rintro v τ' ⟨h9, rfl⟩
      obtain rfl := h9.symm
      refine ⟨fun e => ?_, fun e => ⟨_, ev_isBest _ _ _ _ _, ?_⟩⟩
      · rw [bI_eq] at e
        rw [if_neg (by rw [e]; simp)] at ks
        exact go2 (τ, su) _ _ (by rw [← nI_1]; rfl) rfl ⟨g, kr, kR, ks.symm⟩
      rw [bI_ne] at e
      rintro v τ' ⟨h9, rfl⟩
      obtain rfl := h9.symm
      refine ⟨fun d => ?_, fun d => ?_⟩
      · rw [bI_ne] at d
        rw [if_pos (by rw [e, d]; rfl)] at ks
        refine ⟨fun z => ?_, fun z => ?_⟩
        · have z' : ¬ su.1 = 0 := fun y => z (by rw [y]; rfl)
          rw [if_neg z'] at ks
          exact go2 (τ, su.1 + 1, su.2) _ _ (by rw [← nI_1 y]; show _ = [_, _, some (Value.int (nI (su.1 + 1))), _, _]; rw [← nI_1 su.1]; rfl) rfl ⟨g, kr, kR, ks.symm⟩
        · have z' : su.1 = 0 := by
            have : nI su.1 = nI 0 := z
            rw [eq_of_nI (by omega) (by omega)] at this
            exact this
          rw [if_pos z'] at ks
          rw [bi.2 z'] at kR
          refine ⟨_, ev_tellL _ kr kR (by simp) _, ?_⟩
          rintro v τ1 ⟨rfl, r4, e4, f4⟩
          refine ⟨_, ev_tellL _ r4 e4 (by simp) _, ?_⟩
          rintro v τ2 ⟨rfl, r5, e5, f5⟩
          exact go2 (τ2, su.1 + 1, [(nI x).toInt64, (nI y).toInt64]) _ _ (by rw [← nI_1 y]; show _ = [_, _, some (Value.int (nI (su.1 + 1))), _, _]; rw [← nI_1 su.1]; rfl) rfl ⟨(g.tr f4).tr f5, r5, e5, ks.symm⟩
      · rw [bI_eq] at d
        rw [if_neg (by rw [d]; simp)] at ks
        exact go2 (τ, su) _ _ (by rw [← nI_1]; rfl) rfl ⟨g, kr, kR, ks.symm⟩
    · rintro ⟨τ, su⟩ ⟨g, kr, kR, kI⟩
      simp only at g kr kR kI ⊢
      refine wpW K_X12_rests [26] 60 ?_
      refine ⟨fun _ => ?_, fun e => absurd (show (9 : Int32) < nI 10 by decide) e⟩
      exact go (τ, su, some (.int (nI 10))) _ _ (by rw [← nI_1 x]; rfl) rfl ⟨g, kr, kR, by simp only; rw [hs, kI]⟩
  · rintro ⟨τ, st, o⟩ ⟨f, hr, hR, hI⟩
    simp only at f hr hR hI ⊢
    refine wpW K_X12_rests [] 60 ?_
    refine ⟨fun _ => ?_, fun e => absurd (show (9 : Int32) < nI 10 by decide) e⟩
    have e : restsS w = st := by rw [hI, restsS]
    rw [e]
    have := mv_end hb (f.up _ _ (by decide) (by decide)) hr hR
    exact ⟨rfl, this.1, f0.tr this.2⟩
