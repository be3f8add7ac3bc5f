/-! the model's call: criers -/
def covQ (F : FS) (v : Int32) (m p c : Nat) : Bool := fo (fun q h => h || (bit1 (nI m) q && !decide (v < absS (fPl F p - fPl F q)))) false c
def isG (F : FS) (v : Int32) (m : Nat) : Nat → Nat → Bool → Bool
  | 0, _, b => b
  | c + 1, p, b => if b then isG F v m c (p + 1) (covQ F v m p (fN F)) else false
theorem isG_iff (F : FS) (v : Int32) (m : Nat) : ∀ c p b, isG F v m c p b = true ↔ b = true ∧ ∀ i, p ≤ i → i < p + c → covQ F v m i (fN F) = true := by
  intro c
  induction c with
  | zero => intro p b; exact ⟨fun h => ⟨h, fun i h1 h2 => by omega⟩, fun h => h.1⟩
  | succ c ih =>
    intro p b
    rw [isG]
    cases b with
    | false => simp
    | true =>
      rw [if_pos rfl, ih]
      refine ⟨fun h => ⟨rfl, fun i a1 a2 => ?_⟩, fun h => ⟨h.2 p (Nat.le_refl _) (by omega), fun i a1 a2 => h.2 i (by omega) (by omega)⟩⟩
      by_cases e : i = p
      · rw [e]; exact h.1
      · exact h.2 i (by omega) (by omega)
theorem covQ_iff (F : FS) (v : Int32) (m p : Nat) : ∀ c, covQ F v m p c = true ↔ ∃ q, q < c ∧ bit1 (nI m) q = true ∧ ¬ v < absS (fPl F p - fPl F q) := by
  intro c
  induction c with
  | zero => exact ⟨fun h => absurd (show false = true from h) (by decide), fun ⟨q, h, _⟩ => by omega⟩
  | succ c ih =>
    rw [covQ, fo, ← covQ, Bool.or_eq_true, ih, Bool.and_eq_true]
    simp only [Bool.not_eq_true', decide_eq_false_iff_not]
    constructor
    · rintro (⟨q, h1, h2⟩ | h)
      · exact ⟨q, by omega, h2⟩
      · exact ⟨c, by omega, h⟩
    · rintro ⟨q, h1, h2⟩
      by_cases e : q = c
      · subst e; exact Or.inr h2
      · exact Or.inl ⟨q, by omega, h2⟩
def Cov (F : FS) (v : Int32) (m : Nat) : Prop := ∀ i, i < fN F → covQ F v m i (fN F) = true
theorem all_bit : ∀ n, n ≤ 7 → ∀ q, q < n → bit1 (nI (2 ^ n - 1)) q = true := by decide +kernel
theorem cov_all {F : FS} {v : Int32} (h7 : fN F ≤ 7) (hv : ¬ v < 0) : Cov F v (2 ^ fN F - 1) := by
  intro i hi
  rw [covQ_iff]
  refine ⟨i, hi, all_bit _ h7 i hi, ?_⟩
  rw [Int32.sub_self]
  exact hv
theorem or_nI2 : ∀ a, a < 128 → ∀ b, b < 128 → nI a ||| nI b = nI (a ||| b) := by decide +kernel
theorem mask_or (P Q : Nat → Bool) : ∀ n, maskN P n ||| maskN Q n = maskN (fun i => P i || Q i) n := by
  intro n
  induction n with
  | zero => show (0 : Nat) ||| 0 = 0; rfl
  | succ n ih =>
    show (if P n then maskN P n ||| 2 ^ n else maskN P n) ||| (if Q n then maskN Q n ||| 2 ^ n else maskN Q n) = if (P n || Q n) then maskN (fun i => P i || Q i) n ||| 2 ^ n else maskN (fun i => P i || Q i) n
    rw [← ih]
    generalize maskN P n = a
    generalize maskN Q n = b
    generalize 2 ^ n = t
    refine Nat.eq_of_testBit_eq (fun i => ?_)
    cases P n <;> cases Q n <;> simp only [Bool.or_self, Bool.or_true, Bool.true_or, if_true, if_false, Bool.false_eq_true, Nat.testBit_or] <;> cases a.testBit i <;> cases b.testBit i <;> cases t.testBit i <;> rfl
theorem mask_f (n : Nat) : maskN (fun _ => false) n = 0 := by
  induction n with
  | zero => rfl
  | succ n ih => exact ih
theorem hear_nI {F : FS} (h7 : fN F ≤ 7) (c : Nat) (v : Int32) : hearS F c v = nI (maskN (fun i => !decide (v < absS (fPl F i - fPl F c))) (fN F)) := by
  rw [← mask_nI h7, hearS]
  refine fo_congr (fun i _ x => ?_)
  by_cases h : v < absS (fPl F i - fPl F c)
  · rw [if_pos h, if_neg (by simp [h])]
  · rw [if_neg h, if_pos (by simp [h])]
theorem heard_nI {F : FS} (h7 : fN F ≤ 7) (v : Int32) (m : Nat) : ∀ c, heardS c (crowS F v) (nI m) = nI (maskN (fun p => covQ F v m p c) (fN F)) := by
  have hp := pow7 h7
  intro c
  induction c with
  | zero => exact (congrArg nI (mask_f (fN F))).symm
  | succ c ih =>
    have es : ∀ p, covQ F v m p (c + 1) = (covQ F v m p c || (bit1 (nI m) c && !decide (v < absS (fPl F p - fPl F c)))) := fun _ => rfl
    rw [heardS, fo, ← heardS, ih]
    by_cases b : bit1 (nI m) c = true
    · have l1 := mask_lt (fun p => covQ F v m p c) (fN F)
      have l2 := mask_lt (fun i => !decide (v < absS (fPl F i - fPl F c))) (fN F)
      rw [if_pos b, crowS, hear_nI h7, or_nI2 _ (by omega) _ (by omega), mask_or]
      congr 2
      funext p
      rw [es, b, Bool.true_and]
    · rw [if_neg b]
      congr 2
      funext p
      rw [es, show bit1 (nI m) c = false by simpa using b, Bool.false_and, Bool.or_false]
theorem all_mk : ∀ n, n ≤ 7 → maskN (fun _ => true) n = 2 ^ n - 1 := by decide +kernel
theorem all_b2 : ∀ n, n ≤ 7 → ∀ q, q < n → (2 ^ n - 1) / 2 ^ q % 2 = 1 := by decide +kernel
theorem mask_all {P : Nat → Bool} {n : Nat} (hn : n ≤ 7) : nI (maskN P n) = allS n ↔ ∀ i, i < n → P i = true := by
  have hp := pow7 hn
  have hl := mask_lt P n
  rw [all_nI n hn, eq_of_nI (by omega) (by omega)]
  constructor
  · intro h i hi
    have b := mask_bit P n i
    rw [h, all_b2 n hn i hi] at b
    by_cases c : P i = true
    · exact c
    · rw [if_neg (fun z => c z.2)] at b
      exact absurd b (by decide)
  · intro h
    rw [← all_mk n hn]
    exact fo_congr (fun i hi x => by rw [h i hi])
theorem cov_heard {F : FS} (h7 : fN F ≤ 7) (v : Int32) (m : Nat) : heardS (fN F) (crowS F v) (nI m) = allS (fN F) ↔ Cov F v m := by
  rw [heard_nI h7, mask_all h7]
  exact Iff.rfl
def crT (F : FS) (v : Int32) (t b : Nat) : Nat := if isG F v (2 ^ fN F - 1 - t) (fN F) 0 (decide (pcN (2 ^ fN F - 1 - t) ≤ pcN b)) then 2 ^ fN F - 1 - t else b
def crM (F : FS) (v : Int32) : Nat := fo (crT F v) (2 ^ fN F - 1) (2 ^ fN F)
def crL (F : FS) (v : Int32) (b : Nat) (S : Nat → Prop) : Prop := ∀ m, S m → Cov F v m → pcN b < pcN m ∨ (pcN b = pcN m ∧ b ≤ m)
theorem pc_all : ∀ n, n ≤ 7 → pcN (2 ^ n - 1) = n := by decide +kernel
theorem cr_class {F : FS} {v : Int32} (h7 : fN F ≤ 7) (hv : ¬ v < 0) : ∃ b, crierS F v = nI b ∧ b < 2 ^ fN F ∧ Cov F v b ∧ crL F v b (fun m => m < 2 ^ fN F) := by
  have hp := pow7 h7
  have key := fo_inv (s := fun m best => if bcS (nI m) < bcS best ∧ heardS (fN F) (crowS F v) (nI m) = allS (fN F) then nI m else best) (a := allS (fN F)) (fun i x => ∃ b, x = nI b ∧ b < 2 ^ fN F ∧ (b < i ∨ b = 2 ^ fN F - 1) ∧ Cov F v b ∧ crL F v b (fun m => m < i)) (n := 2 ^ fN F - 1) ⟨2 ^ fN F - 1, all_nI _ h7, by omega, Or.inr rfl, cov_all h7 hv, fun m h => by omega⟩ (by
    rintro i x hi ⟨b, rfl, b1, b2, b3, b4⟩
    have p1 := pc_7 i (by omega)
    have p2 := pc_7 b (by omega)
    have hq : (bcS (nI i) < bcS (nI b) ∧ heardS (fN F) (crowS F v) (nI i) = allS (fN F)) ↔ (pcN i < pcN b ∧ Cov F v i) := by rw [bc_nI i (by omega), bc_nI b (by omega), lt_of_nI (by omega) (by omega), cov_heard h7]
    by_cases c : pcN i < pcN b ∧ Cov F v i
    · rw [if_pos (hq.mpr c)]
      refine ⟨i, rfl, by omega, Or.inl (by omega), c.2, fun m hm hc => ?_⟩
      by_cases e : m = i
      · subst e; exact Or.inr ⟨rfl, Nat.le_refl _⟩
      · rcases b4 m (by show m < i; omega) hc with h | h
        · exact Or.inl (by omega)
        · exact Or.inl (by omega)
    · rw [if_neg (fun z => c (hq.mp z))]
      refine ⟨b, rfl, b1, by omega, b3, fun m hm hc => ?_⟩
      by_cases e : m = i
      · subst e
        have h1 : pcN b ≤ pcN m := Nat.not_lt.mp (fun z => c ⟨z, hc⟩)
        rcases b2 with h | h
        · by_cases q : pcN b = pcN m
          · exact Or.inr ⟨q, by omega⟩
          · exact Or.inl (by omega)
        · have := pc_lt _ h7 m hi
          rw [h, pc_all _ h7] at h1
          omega
      · exact b4 m (by show m < i; omega) hc)
  obtain ⟨b, e, b1, b2, b3, b4⟩ := key
  refine ⟨b, e, b1, b3, fun m hm hc => ?_⟩
  by_cases q : m < 2 ^ fN F - 1
  · exact b4 m q hc
  · have : m = 2 ^ fN F - 1 := by omega
    subst this
    rcases b2 with h | h
    · have := pc_lt _ h7 b h
      rw [pc_all _ h7]
      exact Or.inl this
    · rw [h]; exact Or.inr ⟨rfl, Nat.le_refl _⟩
theorem cr_inv {F : FS} {v : Int32} (h7 : fN F ≤ 7) (hv : ¬ v < 0) : ∀ t, t ≤ 2 ^ fN F → fo (crT F v) (2 ^ fN F - 1) t < 2 ^ fN F ∧ 2 ^ fN F - t ≤ fo (crT F v) (2 ^ fN F - 1) t + 1 ∧ Cov F v (fo (crT F v) (2 ^ fN F - 1) t) ∧ crL F v (fo (crT F v) (2 ^ fN F - 1) t) (fun m => 2 ^ fN F - t ≤ m ∧ m < 2 ^ fN F) := by
  have hp := pow7 h7
  intro t
  induction t with
  | zero => intro _; exact ⟨by simp only [fo]; omega, by simp only [fo]; omega, cov_all h7 hv, fun m h => by omega⟩
  | succ t ih =>
    intro ht
    obtain ⟨i1, i2, i3, i4⟩ := ih (by omega)
    rw [fo]
    generalize fo (crT F v) (2 ^ fN F - 1) t = b at *
    unfold crT
    by_cases c : isG F v (2 ^ fN F - 1 - t) (fN F) 0 (decide (pcN (2 ^ fN F - 1 - t) ≤ pcN b)) = true
    · rw [if_pos c]
      rw [isG_iff, decide_eq_true_eq] at c
      refine ⟨by omega, by omega, fun i hi => c.2 i (by omega) (by omega), fun m hm hc => ?_⟩
      by_cases e : m = 2 ^ fN F - 1 - t
      · exact Or.inr ⟨by rw [e], by omega⟩
      · rcases i4 m ⟨by omega, hm.2⟩ hc with h | h
        · exact Or.inl (by omega)
        · by_cases q : pcN (2 ^ fN F - 1 - t) = pcN b
          · exact Or.inr ⟨by omega, by omega⟩
          · exact Or.inl (by omega)
    · rw [if_neg c]
      refine ⟨i1, by omega, i3, fun m hm hc => ?_⟩
      by_cases e : m = 2 ^ fN F - 1 - t
      · subst e
        refine Or.inl (Nat.not_le.mp (fun z => c ?_))
        rw [isG_iff, decide_eq_true_eq]
        exact ⟨z, fun i _ hi => hc i (by omega)⟩
      · exact i4 m ⟨by omega, hm.2⟩ hc
theorem crier_M {F : FS} {v : Int32} (h7 : fN F ≤ 7) (hv : ¬ v < 0) : crierS F v = nI (crM F v) := by
  obtain ⟨b, e, b1, b2, b3⟩ := cr_class h7 hv
  obtain ⟨c1, -, c2, c3⟩ := cr_inv h7 hv (2 ^ fN F) (Nat.le_refl _)
  rw [e]
  show nI b = nI (fo (crT F v) (2 ^ fN F - 1) (2 ^ fN F))
  generalize fo (crT F v) (2 ^ fN F - 1) (2 ^ fN F) = c at *
  have h1 := b3 c c1 c2
  have h2 := c3 b ⟨by omega, b1⟩ b2
  rw [show b = c by omega]
theorem mc_criers (k : Nat) (A : AS) (x : Int32) : MC (k + 2) M_X12_criers [.int x] A (.int (criersC A x).1) (criersC A x).2 := by
  intro σ0 hv0
  refine EvM.of mk_X12_criers (Nat.le_of_ble_eq_true rfl) ?_
  refine wpW K_X12_criers [5] 10 ?_
  obtain ⟨hv, f0⟩ := mv_t0 hv0
  show WW _ _ _ 5 [some (.ref 52), some (.int x), none, none, none, none, none, none] _ (t0S σ0)
  generalize t0S σ0 = σ at hv f0 ⊢
  have hb := hv.1
  have h7 := hb.n7
  have hp := pow7 h7
  unfold criersC
  refine wpW K_X12_criers [27] 60 ?_
  refine ⟨_, ev_in _ _ _ _ _, ?_⟩
  rintro v τ ⟨h9, rfl⟩
  obtain rfl := h9.symm
  rw [show (9 : Int32) = nI 9 from rfl, in_S (by omega)]
  refine ⟨fun c => ?_, fun c => ?_⟩
  rotate_left
  · rw [bI_eq] at c
    rw [if_neg (by rw [c]; decide)]
    exact ⟨rfl, hv, f0⟩
  rw [bI_ne] at c
  rw [if_pos c]
  have hx0 : ¬ x < 0 := ((cnd (n := 9) (by omega)).mp c).1
  rw [crier_M h7 hx0]
  refine ⟨_, ev_all _ σ (fN A.F) hb.n, ?_⟩
  rintro v τ ⟨h9, rfl⟩
  obtain rfl := h9.symm
  refine ⟨_, ev_all _ σ (fN A.F) hb.n, ?_⟩
  rintro v τ ⟨h9, rfl⟩
  obtain rfl := h9.symm
  rw [all_nI _ h7]
  show WW _ _ _ 27 [some (.ref 52), some (.int x), some (.int (nI (2 ^ fN A.F - 1))), some (.int (nI (2 ^ fN A.F - 1))), none, none, none, none] [] σ
  have e0 : nI (2 ^ fN A.F - 1) = nI (2 ^ fN A.F - 0) - 1 := by rw [Nat.sub_zero, show 2 ^ fN A.F = 2 ^ fN A.F - 1 + 1 by omega, nI_pred]; rfl
  have start : WW M_X12_criers (k + 2) (fun w τ => w = some (.int (bcS (nI (crM A.F x)))) ∧ MV τ (A.wR [(nI (crM A.F x)).toInt64]) ∧ Fr lM σ0 τ) 27 [some (.ref 52), some (.int x), some (.int (nI (2 ^ fN A.F - 1))), some (.int (nI (2 ^ fN A.F - 0) - 1)), none, none, none, none] [] σ := by
    refine loopI (α := Nat × Option Value × Option Value × Option Value × Option Value) 27 (fun t a => [some (.ref 52), some (.int x), some (.int (nI a.1)), some (.int (nI (2 ^ fN A.F - t) - 1)), a.2.1, a.2.2.1, a.2.2.2.1, a.2.2.2.2]) (fun _ => σ) (fun t a => a.1 = fo (crT A.F x) (2 ^ fN A.F - 1) t) (2 ^ fN A.F) ?_ ?_ 0 (2 ^ fN A.F - 1, none, none, none, none) (Nat.zero_le _) rfl
    · rintro t ⟨b, o4, o5, o6, o7⟩ ht hI go
      simp only at hI ⊢
      obtain ⟨s, hs⟩ : ∃ s, 2 ^ fN A.F - t = s + 1 := ⟨2 ^ fN A.F - t - 1, by omega⟩
      have hnt : 2 ^ fN A.F - (t + 1) = s := by omega
      have hst : 2 ^ fN A.F - 1 - t = s := by omega
      obtain ⟨b1, -⟩ := cr_inv h7 hx0 t (by omega)
      rw [← hI] at b1
      have estep : fo (crT A.F x) (2 ^ fN A.F - 1) (t + 1) = crT A.F x t b := by rw [fo, ← hI]
      rw [crT, hst] at estep
      rw [hs, nI_pred]
      have p1 := pc_7 s (by omega)
      have p2 := pc_7 b (by omega)
      generalize hT : isG A.F x s (fN A.F) 0 (decide (pcN s ≤ pcN b)) = T at estep
      have fin : ∀ o5 o6 o7, WW M_X12_criers (k + 2) (fun w τ => w = some (.int (bcS (nI (crM A.F x)))) ∧ MV τ (A.wR [(nI (crM A.F x)).toInt64]) ∧ Fr lM σ0 τ) 133 [some (.ref 52), some (.int x), some (.int (nI b)), some (.int (nI s)), some (.int (bI T)), o5, o6, o7] [] σ := by
        intro o5 o6 o7
        refine wpW K_X12_criers [27] 20 ?_
        refine ⟨fun e => ?_, fun e => ?_⟩
        · rw [bI_eq] at e
          rw [if_neg (by rw [e]; decide)] at estep
          exact go (b, _, o5, o6, o7) _ _ (by rw [hnt, ← dn_lit]; rfl) rfl estep.symm
        · rw [bI_ne] at e
          rw [if_pos e] at estep
          exact go (s, _, o5, o6, o7) _ _ (by rw [hnt, ← dn_lit]; rfl) rfl estep.symm
      have mid : WW M_X12_criers (k + 2) (fun w τ => w = some (.int (bcS (nI (crM A.F x)))) ∧ MV τ (A.wR [(nI (crM A.F x)).toInt64]) ∧ Fr lM σ0 τ) 52 [some (.ref 52), some (.int x), some (.int (nI b)), some (.int (nI s)), some (.int (bI (decide (pcN s ≤ pcN b)))), some (.int (nI 0)), o6, o7] [] σ := by
        refine loopI (α := Bool × Option Value × Option Value) 52 (fun p a => [some (.ref 52), some (.int x), some (.int (nI b)), some (.int (nI s)), some (.int (bI a.1)), some (.int (nI p)), a.2.1, a.2.2]) (fun _ => σ) (fun p a => T = isG A.F x s (fN A.F - p) p a.1) (fN A.F) ?_ ?_ 0 (decide (pcN s ≤ pcN b), o6, o7) (Nat.zero_le _) hT.symm
        · rintro p ⟨d, o6, o7⟩ hpn hJ go2
          simp only at hJ ⊢
          rw [show fN A.F - p = (fN A.F - (p + 1)) + 1 by omega, isG] at hJ
          refine wpW K_X12_criers [72, 133] 40 ?_
          refine ⟨fun e => ?_, fun _ => ⟨fun e => ?_, fun e => ?_⟩⟩
          · rw [hb.n, le_of_nI (by omega) (by omega)] at e; omega
          · rw [bI_eq] at e
            rw [if_neg (by rw [e]; decide)] at hJ
            have := fin (some (.int (nI p))) o6 o7
            rw [hJ] at this
            rw [e]
            exact this
          · rw [bI_ne] at e
            rw [if_pos e] at hJ
            show WW _ _ _ 72 [some (.ref 52), some (.int x), some (.int (nI b)), some (.int (nI s)), some (.int (bI d)), some (.int (nI p)), some (.int (bI false)), some (.int (nI 0))] [] σ
            refine loopI (α := Bool) 72 (fun q h => [some (.ref 52), some (.int x), some (.int (nI b)), some (.int (nI s)), some (.int (bI d)), some (.int (nI p)), some (.int (bI h)), some (.int (nI q))]) (fun _ => σ) (fun q h => h = covQ A.F x s p q) (fN A.F) ?_ ?_ 0 false (Nat.zero_le _) rfl
            · intro q h hq hK go3
              have ks : covQ A.F x s p (q + 1) = (h || (bit1 (nI s) q && !decide (x < absS (fPl A.F p - fPl A.F q)))) := by rw [covQ, fo, ← covQ, ← hK]
              refine wpW K_X12_criers [72] 40 ?_
              refine ⟨fun e => ?_, fun _ => ⟨fun e => ?_, fun e => ⟨_, ev_mhas _ _ _ _, ?_⟩⟩⟩
              · rw [hb.n, le_of_nI (by omega) (by omega)] at e; omega
              · rw [bI_ne] at e
                exact go3 true _ _ (by rw [← nI_1 q]; rfl) rfl (by rw [ks, e]; rfl)
              · rw [bI_eq] at e
                rintro v τ ⟨h9, rfl⟩
                obtain rfl := h9.symm
                refine ⟨fun e2 => ?_, fun e2 => ⟨_, ev_farOf _ _ 53 (Or.inl rfl) p q (by omega) (by omega), ?_⟩⟩
                · rw [bI_eq] at e2
                  exact go3 false _ _ (by rw [← nI_1 q]; rfl) rfl (by rw [ks, e, e2]; rfl)
                · rw [bI_ne] at e2
                  rintro v τ ⟨h9, rfl⟩
                  obtain rfl := h9.symm
                  rw [hb.F]
                  refine ⟨fun e3 => ?_, fun e3 => ?_⟩
                  · exact go3 false _ _ (by rw [← nI_1 q]; rfl) rfl (by rw [ks, e, e2, decide_eq_true e3]; rfl)
                  · exact go3 true _ _ (by rw [← nI_1 q]; rfl) rfl (by rw [ks, e, e2, decide_eq_false e3]; rfl)
            · intro h hK
              refine wpW K_X12_criers [52] 40 ?_
              refine ⟨fun _ => ?_, fun e => ?_⟩
              · exact go2 (h, some (.int (bI h)), some (.int (nI (fN A.F)))) _ _ (by rw [← nI_1 p]; rfl) rfl (by rw [hK]; exact hJ)
              · rw [hb.n, le_of_nI (by omega) (by omega)] at e; omega
        · rintro ⟨d, o6, o7⟩ hJ
          simp only at hJ ⊢
          rw [Nat.sub_self, isG] at hJ
          refine wpW K_X12_criers [133] 40 ?_
          refine ⟨fun _ => ?_, fun e => ?_⟩
          · have := fin (some (.int (nI (fN A.F)))) o6 o7
            rw [hJ] at this
            exact this
          · rw [hb.n, le_of_nI (by omega) (by omega)] at e; omega
      refine wpW K_X12_criers [52] 60 ?_
      refine ⟨fun e => absurd e (nI_pos (by omega)), fun _ => ⟨_, ev_bc _ _ _, ?_⟩⟩
      rintro v τ ⟨h9, rfl⟩
      obtain rfl := h9.symm
      refine ⟨_, ev_bc _ _ _, ?_⟩
      rintro v τ ⟨h9, rfl⟩
      obtain rfl := h9.symm
      rw [bc_nI s (by omega), bc_nI b (by omega)]
      refine ⟨fun e => ?_, fun e => ?_⟩
      · rw [lt_of_nI (by omega) (by omega)] at e
        rw [decide_eq_false (by omega)] at mid
        exact mid
      · rw [lt_of_nI (by omega) (by omega)] at e
        rw [decide_eq_true (by omega)] at mid
        exact mid
    · rintro ⟨b, o4, o5, o6, o7⟩ hI
      simp only at hI ⊢
      have hbm : b = crM A.F x := hI
      subst hbm
      rw [Nat.sub_self]
      refine wpW K_X12_criers [151] 60 ?_
      refine ⟨fun _ => ?_, fun e => absurd (by decide) e⟩
      obtain ⟨r1, r2⟩ := row_0 σ
      have f3 : FM [] [6] σ (sI σ 52 6 0) := FM.rf.sI (by decide)
      show WW _ _ _ 151 [some (.ref 52), some (.int x), some (.int (nI (crM A.F x))), some (.int (nI 0 - 1)), o4, o5, o6, o7] [] (sI σ 52 6 0)
      generalize sI σ 52 6 0 = σ3 at r1 r2 f3 ⊢
      refine wpW K_X12_criers [] 60 ?_
      refine ⟨_, ev_tellL _ r1 r2 (by simp) _, ?_⟩
      rintro v σ4 ⟨rfl, r4, e4, f4⟩
      refine ⟨_, ev_bc _ _ _, ?_⟩
      rintro v τ ⟨h9, rfl⟩
      obtain rfl := h9.symm
      have := mv_end hb ((f3.up _ _ (by decide) (by decide)).tr (f4.up _ _ (by decide) (by decide))) r4 e4
      exact ⟨rfl, this.1, f0.tr this.2⟩
  rw [← e0] at start
  exact start
