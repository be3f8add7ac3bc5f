/-! the model's call: tries -/
def trT (S : List W3) (K L : Nat) (st : Nat × Nat) : Nat × Nat := if lawB S L then (if (canB L K == true) then st.1 + 1 else st.1, if (canB L K == false) then st.2 + 1 else st.2) else st
def trS (S : List W3) (K n : Nat) : Nat × Nat := fo (trT S K) (0, 0) n
theorem add_bI (y : Nat) (b : Bool) : nI y + bI b = nI (if b then y + 1 else y) := by
  cases b
  · exact Int32.add_zero _
  · exact nI_1 y
theorem tr_sum (S : List W3) (K : Nat) : ∀ n, (trS S K n).1 + (trS S K n).2 = (lwS S n).1 := by
  intro n
  induction n with
  | zero => rfl
  | succ n ih =>
    rw [trS, fo, ← trS, lwS, fo, ← lwS, trT, lwT]
    by_cases h : lawB S n = true
    · rw [if_pos h, if_pos h]
      cases canB n K
      · simp; omega
      · simp; omega
    · rw [if_neg h, if_neg h]; exact ih
theorem tr_in {S : List W3} {p l h K : Nat} (h4 : ∀ c, c < 10 → (lawB S (10 * p + c) = true ↔ l ≤ c ∧ c + 27 ≤ h)) (st : Nat × Nat) : ∀ n, n ≤ 10 → (fo (fun c st => trT S K (10 * p + c) st) st n).1 = st.1 + (min n (min h (rcN p (K / 10) (K % 10)) - 26) - l) := by
  intro n
  induction n with
  | zero => intro _; rw [fo]; omega
  | succ n ih =>
    intro hn
    rw [fo, trT]
    have hcb : canB (10 * p + n) K = decide (n + 27 ≤ rcN p (K / 10) (K % 10)) := by rw [canB]; exact law_rc (by omega) (by omega)
    rw [hcb]
    generalize rcN p (K / 10) (K % 10) = r at *
    have ih := ih (by omega)
    by_cases q : lawB S (10 * p + n) = true
    · have q' := (h4 n (by omega)).mp q
      rw [if_pos q]
      simp only
      rw [ih]
      by_cases z : n + 27 ≤ r
      · rw [decide_eq_true z, if_pos (by decide)]; omega
      · rw [decide_eq_false z, if_neg (by decide)]; omega
    · have q' : ¬ (l ≤ n ∧ n + 27 ≤ h) := fun z => q ((h4 n (by omega)).mpr z)
      rw [if_neg q, ih]; omega
theorem hear_L {S : List W3} (hs : sBd S) {K : Nat} (hK : K < 100) : ∀ n, n ≤ 16 → fo (fun p s => s + maxS 0 (minS (loHi S p).2 (rchS (nI p) (nI (K / 10)) (nI (K % 10))) - (loHi S p).1 + 1)) 0 n = nI (trS S K (10 * n)).1 := by
  intro n
  induction n with
  | zero => intro _; rfl
  | succ n ih =>
    intro hn
    obtain ⟨l, h, e1, e2, e3, e4⟩ := lohi_nI hs (show n < 16 by omega)
    have r55 := rc_lt (show n < 16 by omega) (show K / 10 < 10 by omega) (show K % 10 < 10 by omega)
    have es : trS S K (10 * (n + 1)) = fo (fun c st => trT S K (10 * n + c) st) (trS S K (10 * n)) 10 := by rw [trS, fo_mul, fo, ← fo_mul]; rfl
    rw [es, tr_in e4 _ 10 (Nat.le_refl _), fo, ih (by omega), e1]
    simp only
    rw [rch_nI n (by omega) _ (by omega) _ (by omega), min_27 h e3 _ r55, cnt_27 l e2 _ (by omega), add_nI]
    congr 1
    omega
theorem hear_K {S : List W3} (hs : sBd S) {K : Nat} (hK : K < 100) : hearN S (nI (K / 10)) (nI (K % 10)) = nI (trS S K 160).1 := hear_L hs hK 16 (Nat.le_refl _)
def tsW (S : List W3) (K : Nat) : Nat := max (trS S K 160).1 (trS S K 160).2
def tsT (S : List W3) (K : Nat) (st : Int32 × Nat) : Int32 × Nat := if st.2 ≤ tsW S K then st else (nI K, tsW S K)
def tsS (S : List W3) (n : Nat) : Int32 × Nat := fo (tsT S) (-1, 1000000) n
theorem ts_w (S : List W3) (K : Nat) : tsW S K ≤ (lwS S 160).1 ∧ (0 < (lwS S 160).1 → 0 < tsW S K) := by
  have := tr_sum S K 160
  unfold tsW
  omega
theorem ts_bd (S : List W3) : ∀ n, (tsS S (n + 1)).2 ≤ 160 ∧ ((lwS S 160).1 = 0 → (tsS S (n + 1)).2 = 0) ∧ (0 < (lwS S 160).1 → 0 < (tsS S (n + 1)).2) := by
  have hl := lw_le S 160
  intro n
  induction n with
  | zero =>
    have := ts_w S 0
    rw [tsS, fo, fo, tsT, if_neg (by simp only; omega)]
    simp only
    omega
  | succ n ih =>
    have := ts_w S (n + 1)
    rw [tsS, fo, ← tsS, tsT]
    split
    · exact ih
    · simp only; omega
theorem try_K {S : List W3} (hs : sBd S) {K : Nat} (hK : K < 100) (b : Int32) (m : Nat) (hm : m ≤ 1000) : tryS S (lawsN S) (K / 10) (K % 10) (b, nI m) = ((tsT S K (b, m)).1, nI (tsT S K (b, m)).2) := by
  have hl := lw_le S 160
  have h2 := tr_sum S K 160
  have hw := ts_w S K
  have e1 : lawsN S = nI (lwS S 160).1 := (laws_M hs 16 (Nat.le_refl _)).1
  rw [tryS, hear_K hs hK, e1, ← h2, sub_nI (by omega), maxS_nI (by omega) (by omega), show (trS S K 160).1 + (trS S K 160).2 - (trS S K 160).1 = (trS S K 160).2 by omega, show (10 : Int32) = nI 10 from rfl, mul_nI, add_nI, show 10 * (K / 10) + K % 10 = K by omega]
  show (if nI m ≤ nI (tsW S K) then (b, nI m) else (nI K, nI (tsW S K))) = _
  rw [tsT]
  by_cases c : m ≤ tsW S K
  · rw [if_pos ((le_of_nI (by omega) (by omega)).mpr c), if_pos c]
  · rw [if_neg (fun z => c ((le_of_nI (by omega) (by omega)).mp z)), if_neg c]
theorem tries_K {S : List W3} (hs : sBd S) : ∀ n, n < 100 → fo (fun K st => tryS S (lawsN S) (K / 10) (K % 10) st) (0, lawsN S + 1) (n + 1) = ((tsS S (n + 1)).1, nI (tsS S (n + 1)).2) := by
  have hl := lw_le S 160
  have e1 : lawsN S = nI (lwS S 160).1 := (laws_M hs 16 (Nat.le_refl _)).1
  intro n
  induction n with
  | zero =>
    intro _
    have hw := ts_w S 0
    rw [fo, fo]
    rw [show lawsN S + 1 = nI ((lwS S 160).1 + 1) by rw [e1, nI_1]]
    rw [try_K hs (show 0 < 100 by omega) _ _ (by omega), tsS, fo, fo, tsT, tsT, if_neg (by simp only; omega), if_neg (by simp only; omega)]
  | succ n ih =>
    intro hn
    obtain ⟨b1, -⟩ := ts_bd S n
    rw [fo, ih (by omega)]
    rw [try_K hs hn _ _ (by omega), tsS.eq_def S (n + 1 + 1), fo, ← tsS]
theorem triesS_M {S : List W3} (hs : sBd S) : triesS S = ((tsS S 100).1, nI (tsS S 100).2) := by
  rw [← tries_K hs 99 (by omega), show 99 + 1 = 10 * 10 from rfl, fo_mul, triesS]
  refine fo_congr (fun i hi x => fo_congr (fun j hj y => ?_))
  rw [show (10 * i + j) / 10 = i by omega, show (10 * i + j) % 10 = j by omega]
theorem mc_tries (k : Nat) (A : AS) : MC (k + 2) M_X12_tries [] A (.int (triesC A).1) (triesC A).2 := by
  intro σ0 hv0
  refine EvM.of mk_X12_tries (Nat.le_of_ble_eq_true rfl) ?_
  refine wpW K_X12_tries [5] 10 ?_
  obtain ⟨hv, f0⟩ := mv_t0 hv0
  show WW _ _ _ 5 [some (.ref 52), none, none, none, none, none, none] _ (t0S σ0)
  generalize t0S σ0 = σ at hv f0 ⊢
  have hb := hv.1
  have hbd := hb.s.bd
  have hl := lw_le A.S 160
  have e1 : lawsN A.S = nI (lwS A.S 160).1 := (laws_M hbd 16 (Nat.le_refl _)).1
  refine wpW K_X12_tries [13] 60 ?_
  show WW _ _ _ 13 [some (.ref 52), some (.int (-1)), some (.int (nI 1000000)), some (.int (nI 0)), none, none, none] [] σ
  refine loopI (α := (Int32 × Nat) × Option Value × Option Value × Option Value) 13 (fun K a => [some (.ref 52), some (.int a.1.1), some (.int (nI a.1.2)), some (.int (nI K)), a.2.1, a.2.2.1, a.2.2.2]) (fun _ => σ) (fun K a => a.1 = tsS A.S K ∧ a.1.2 ≤ 1000000) 100 ?_ ?_ 0 ((-1, 1000000), none, none, none) (Nat.zero_le _) ⟨rfl, Nat.le_refl _⟩
  · rintro K ⟨⟨b, m⟩, o4, o5, o6⟩ hK ⟨hI, hm⟩ go
    simp only at hI hm ⊢
    have hs : tsS A.S (K + 1) = tsT A.S K (b, m) := by rw [tsS, fo, ← tsS, ← hI]
    have hw := ts_w A.S K
    rw [tsT] at hs
    simp only at hs
    refine wpW K_X12_tries [28] 60 ?_
    refine ⟨fun e => ?_, fun _ => ?_⟩
    · rw [show (100 : Int32) = nI 100 from rfl, le_of_nI (by omega) (by omega)] at e; omega
    show WW _ _ _ 28 [some (.ref 52), some (.int b), some (.int (nI m)), some (.int (nI K)), some (.int (nI 0)), some (.int (nI 0)), some (.int (nI 0))] [] σ
    refine loopI (α := Nat × Nat) 28 (fun L a => [some (.ref 52), some (.int b), some (.int (nI m)), some (.int (nI K)), some (.int (nI a.1)), some (.int (nI a.2)), some (.int (nI L))]) (fun _ => σ) (fun L a => a = trS A.S K L) 160 ?_ ?_ 0 (0, 0) (Nat.zero_le _) rfl
    · rintro L ⟨y, z⟩ hL hJ go2
      simp only
      have ks : trS A.S K (L + 1) = trT A.S K L (y, z) := by rw [trS, fo, ← trS, ← hJ]
      rw [trT] at ks
      simp only at ks
      refine wpW K_X12_tries [28] 60 ?_
      refine ⟨fun e => ?_, fun _ => ⟨_, ev_isLaw _ σ A.S hb.s L hL, ?_⟩⟩
      · rw [show (160 : Int32) = nI 160 from rfl, le_of_nI (by omega) (by omega)] at e; omega
      rintro v τ' ⟨h9, rfl⟩
      obtain rfl := h9.symm
      refine ⟨fun e => ⟨_, ev_saysL _ _ L K hL hK true, ?_⟩, fun e => ?_⟩
      · rw [bI_ne] at e
        rw [if_pos e] at ks
        rintro v τ' ⟨h9, rfl⟩
        obtain rfl := h9.symm
        refine ⟨_, ev_saysL _ _ L K hL hK false, ?_⟩
        rintro v τ' ⟨h9, rfl⟩
        obtain rfl := h9.symm
        exact go2 (if (canB L K == true) then y + 1 else y, if (canB L K == false) then z + 1 else z) _ _ (by simp only; rw [← nI_1 L, ← add_bI, ← add_bI]; rfl) rfl ks.symm
      · rw [bI_eq] at e
        rw [if_neg (by rw [e]; decide)] at ks
        exact go2 (y, z) _ _ (by rw [← nI_1 L]; rfl) rfl ks.symm
    · rintro ⟨y, z⟩ hJ
      simp only
      have hw' : tsW A.S K = max y z := by rw [tsW, ← hJ]
      rw [hw'] at hw hs
      have hmx := maxS_nI (a := y) (b := z) (by omega) (by omega)
      refine wpW K_X12_tries [13] 60 ?_
      refine ⟨fun _ => ⟨fun e => ?_, fun e => ?_⟩, fun e => absurd (by decide) e⟩
      · have e' : nI (max y z) < nI m := by rw [← hmx]; exact e
        rw [nI_ltI (by omega) (by omega)] at e'
        rw [if_neg (by omega)] at hs
        refine go ((nI K, max y z), some (.int (nI y)), some (.int (nI z)), some (.int (nI 160))) _ _ ?_ rfl ⟨hs.symm, by simp only; omega⟩
        simp only
        rw [← nI_1 K, ← hmx]
        rfl
      · have e' : ¬ nI (max y z) < nI m := by rw [← hmx]; exact e
        rw [nI_ltI (by omega) (by omega)] at e'
        rw [if_pos (by omega)] at hs
        exact go ((b, m), some (.int (nI y)), some (.int (nI z)), some (.int (nI 160))) _ _ (by rw [← nI_1 K]; rfl) rfl ⟨hs.symm, hm⟩
  · rintro ⟨⟨b, m⟩, o4, o5, o6⟩ ⟨hI, hm⟩
    simp only at hI hm ⊢
    obtain ⟨t1, t2, t3⟩ := ts_bd A.S 99
    rw [show 99 + 1 = 100 from rfl, ← hI] at t1 t2 t3
    simp only at t1 t2 t3
    unfold triesC
    rw [triesS_M hbd, ← hI, e1]
    refine wpW K_X12_tries [120] 60 ?_
    refine ⟨fun _ => ⟨fun e => ?_, fun e => ?_⟩, fun e => absurd (by decide) e⟩
    · have hm0 : ¬ m = 0 := fun z => e (by rw [z]; rfl)
      have hN : ¬ nI (lwS A.S 160).1 = 0 := by
        rw [show (0 : Int32) = nI 0 from rfl, eq_of_nI (by omega) (by omega)]
        exact fun z => hm0 (t2 z)
      rw [if_neg hN]
      obtain ⟨r1, r2⟩ := row_0 σ
      have f3 : FM [] [6] σ (sI σ 52 6 0) := FM.rf.sI (by decide)
      show WW _ _ _ 120 [some (.ref 52), some (.int b), some (.int (nI m)), some (.int (nI 100)), o4, o5, o6] [] (sI σ 52 6 0)
      generalize sI σ 52 6 0 = σ3 at r1 r2 f3 ⊢
      refine wpW K_X12_tries [] 60 ?_
      refine ⟨_, ev_tellL _ r1 r2 (by simp) _, ?_⟩
      rintro v σ4 ⟨rfl, r4, e4, f4⟩
      have := mv_end hb ((f3.up _ _ (by decide) (by decide)).tr (f4.up _ _ (by decide) (by decide))) r4 e4
      exact ⟨rfl, this.1, f0.tr this.2⟩
    · have hm0 : m = 0 := by
        have : nI m = nI 0 := e
        rw [eq_of_nI (by omega) (by omega)] at this
        exact this
      have hN : nI (lwS A.S 160).1 = 0 := by
        rw [show (0 : Int32) = nI 0 from rfl, eq_of_nI (by omega) (by omega)]
        omega
      rw [if_pos hN]
      exact ⟨rfl, hv, f0⟩
