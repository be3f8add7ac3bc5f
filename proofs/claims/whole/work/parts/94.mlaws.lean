/-! the model's calls: laws, tries -/
def rcN (p v f : Nat) : Nat := p / 4 * v + 27 - p % 4 * f
theorem d40 : ∀ L, L < 160 → nI L / 40 = nI (L / 40) ∧ nI L / 10 - nI L / 10 / 4 * 4 = nI (L / 10 % 4) ∧ nI L - nI L / 10 * 10 = nI (L % 10) ∧ nI L / 10 = nI (L / 10) := by decide +kernel
theorem p4 : ∀ p, p < 16 → nI p / 4 = nI (p / 4) ∧ nI p - nI p / 4 * 4 = nI (p % 4) := by decide +kernel
theorem mul_nI (a b : Nat) : nI a * nI b = nI (a * b) := by unfold nI; rw [Int32.ofNat_mul]
theorem sub_27 : ∀ x, x < 28 → ∀ y, y < 28 → (nI x - nI y).toInt = (x : Int) - y := by decide +kernel
theorem le_27 {c x y : Nat} (hc : c < 10) (hx : x < 28) (hy : y < 28) : nI x - nI y < nI c ↔ ¬ c + y ≤ x := by
  rw [Int32.lt_iff_toInt_lt, sub_27 x hx y hy, nI_toInt (by omega)]
  omega
theorem mul_33 {a v : Nat} (ha : a < 4) (hv : v < 10) : a * v < 28 := by
  have := Nat.mul_le_mul (show a ≤ 3 by omega) (show v ≤ 9 by omega)
  omega
def lawF (L : Nat) (w : W3) : Bool := decide (L % 10 + L / 10 % 4 * w.2.1.toNatClampNeg ≤ L / 40 * w.1.toNatClampNeg) == decide (w.2.2 = 1)
def canB (L K : Nat) : Bool := decide (L % 10 + L / 10 % 4 * (K % 10) ≤ L / 40 * (K / 10))
theorem ev_saysL (k : Nat) (σ : Sto) (L K : Nat) (hL : L < 160) (hK : K < 100) (b : Bool) : EvM k M_X12_says_ [.int (nI L), .int (nI K), .int (bI b)] σ (fun r τ => τ = σ ∧ r = some (.int (bI (canB L K == b)))) := by
  obtain ⟨l1, l2, l3, -⟩ := d40 L hL
  obtain ⟨-, -, k3, k4⟩ := d40 K (by omega)
  have m1 := mul_33 (show L / 40 < 4 by omega) (show K / 10 < 10 by omega)
  have m2 := mul_33 (show L / 10 % 4 < 4 by omega) (show K % 10 < 10 by omega)
  have hc := le_27 (show L % 10 < 10 by omega) m1 m2
  refine EvM.of mk_X12_says_ (Nat.le_of_ble_eq_true rfl) ?_
  refine wpW K_X12_says_ [33] 60 ?_
  refine ⟨by decide, by decide, by decide, by decide, by decide, by decide, ?_⟩
  rw [l1, l2, l3, k3, k4, mul_nI, mul_nI]
  refine ⟨fun c => ?_, fun c => ?_⟩
  · refine wpW K_X12_says_ [] 60 ?_
    rw [canB, decide_eq_false (hc.mp c)]
    cases b with
    | false => exact ⟨fun e => absurd rfl e, fun e => ⟨rfl, rfl⟩⟩
    | true => exact ⟨fun e => ⟨rfl, rfl⟩, fun e => absurd e (by decide)⟩
  · refine wpW K_X12_says_ [] 60 ?_
    rw [canB, decide_eq_true (Decidable.not_not.mp (fun z => c (hc.mpr z)))]
    cases b with
    | false => exact ⟨fun e => ⟨rfl, rfl⟩, fun e => absurd e (by decide)⟩
    | true => exact ⟨fun e => absurd rfl e, fun e => ⟨rfl, rfl⟩⟩
def lawB (S : List W3) (L : Nat) : Bool := S.all (lawF L)
def sBd (S : List W3) : Prop := ∀ w ∈ S, ∃ v f c, v < 10 ∧ f < 10 ∧ c < 2 ∧ w = (nI v, nI f, nI c)
theorem SV.bd {σ : Sto} {S : List W3} (h : SV σ S) : sBd S := by
  intro w hw
  obtain ⟨j, hj, e⟩ := List.mem_iff_getElem.mp hw
  obtain ⟨v, f, c, h1, h2, h3, h4, -⟩ := h.2.2 j hj
  rw [List.getElem?_eq_getElem hj, e] at h4
  exact ⟨v, f, c, h1, h2, h3, Option.some.inj h4⟩
theorem ev_isLaw (k : Nat) (σ : Sto) (S : List W3) (hs : SV σ S) (L : Nat) (hL : L < 160) : EvM (k + 1) M_X12_isLaw [.ref 52, .int (nI L)] σ (fun r τ => τ = σ ∧ r = some (.int (bI (lawB S L)))) := by
  obtain ⟨s1, s2, s3⟩ := hs
  refine EvM.of mk_X12_isLaw (Nat.le_of_ble_eq_true rfl) ?_
  generalize hT : lawB S L = T
  refine wpW K_X12_isLaw [2] 10 ?_
  refine loopI (α := Unit) 2 (fun i _ => [some (.ref 52), some (.int (nI L)), some (.int (nI i))]) (fun _ => σ) (fun i _ => T = (S.drop i).all (lawF L)) S.length ?_ ?_ 0 () (Nat.zero_le _) hT.symm
  · rintro i - hi hI go
    obtain ⟨v, f, c, hv, hf, hc, e, e5, e6⟩ := s3 i hi
    have hd : S.drop i = (nI v, nI f, nI c) :: S.drop (i + 1) := by
      rw [List.drop_eq_getElem_cons hi]
      rw [List.getElem?_eq_getElem hi] at e
      rw [Option.some.inj e]
    rw [hd, List.all_cons] at hI
    have hcb : lawF L (nI v, nI f, nI c) = (canB L (10 * v + f) == decide (nI c = 1)) := by
      rw [lawF, canB]
      simp only
      rw [nI_clamp (by omega), nI_clamp (by omega), show (10 * v + f) % 10 = f by omega, show (10 * v + f) / 10 = v by omega]
    rw [hcb] at hI
    have fin : ∀ b, b = decide (nI c = 1) → WW M_X12_isLaw (k + 1) (fun r τ => τ = σ ∧ r = some (.int (bI T))) 32 [some (.ref 52), some (.int (nI L)), some (.int (nI i))] [.int (bI b), .int (nI (10 * v + f)), .int (nI L)] σ := by
      intro b hb
      refine wpW K_X12_isLaw [2] 30 ?_
      refine ⟨_, ev_saysL _ _ L (10 * v + f) hL (by omega) b, ?_⟩
      rintro w τ ⟨h9, rfl⟩
      obtain rfl := h9.symm
      rw [hb]
      refine ⟨fun e => ?_, fun e => ⟨Or.inl rfl, rfl, ?_⟩⟩
      · rw [bI_ne] at e
        rw [e, Bool.true_and] at hI
        exact go () _ _ (by rw [← nI_1]; rfl) rfl hI
      · rw [bI_eq] at e
        rw [e, Bool.false_and] at hI
        rw [hI]
        rfl
    have c1 : gA σ 75 (nI i).toNatClampNeg = nI (10 * v + f) := by rw [nI_clamp (by omega)]; exact e5
    have c2 : gA σ 76 (nI i).toNatClampNeg = nI c := by rw [nI_clamp (by omega)]; exact e6
    refine wpW K_X12_isLaw [32] 30 ?_
    refine ⟨fun h => ?_, fun _ => ⟨inN (by omega) (by omega), inN (by omega) (by omega), fun h => ?_, fun h => ?_⟩⟩
    · rw [s1, le_of_nI (by omega) (by omega)] at h; omega
    · have h' : ¬ nI c = 1 := fun z => h (c2.trans z)
      have := fin false (decide_eq_false h').symm
      rw [← c1] at this
      exact this
    · have h' : nI c = 1 := c2.symm.trans h
      have := fin true (decide_eq_true h').symm
      rw [← c1] at this
      exact this
  · rintro - hI
    rw [List.drop_length, List.all_nil] at hI
    refine wpW K_X12_isLaw [] 30 ?_
    refine ⟨fun _ => ⟨Or.inr rfl, rfl, by rw [hI]; rfl⟩, fun h => ?_⟩
    rw [s1, le_of_nI (by omega) (by omega)] at h; omega
/-! laws by pairs: from the least to the largest c -/
theorem rc_lt {p v f : Nat} (hp : p < 16) (hv : v < 10) (hf : f < 10) : rcN p v f < 55 := by
  have := mul_33 (show p / 4 < 4 by omega) hv
  unfold rcN; omega
theorem rch_nI : ∀ p, p < 16 → ∀ v, v < 10 → ∀ f, f < 10 → rchS (nI p) (nI v) (nI f) = nI (rcN p v f) - 27 := by decide +kernel
theorem min_27 : ∀ h, h < 37 → ∀ r, r < 55 → minS (nI h - 27) (nI r - 27) = nI (min h r) - 27 := by decide +kernel
theorem max_27 : ∀ l, l < 29 → ∀ r, r < 55 → maxS (nI l) (nI r - 27 + 1) = nI (max l (r - 26)) := by decide +kernel
theorem cnt_27 : ∀ l, l < 29 → ∀ h, h < 37 → maxS 0 (nI h - 27 - nI l + 1) = nI (h + 1 - (l + 27)) := by decide +kernel
theorem lt_h27 : ∀ l, l < 29 → ∀ h, h < 37 → (nI h - 27 < nI l ↔ h < l + 27) := by decide +kernel
theorem law_rc {p c v f : Nat} (hc : c < 10) (hf : f < 10) : decide ((10 * p + c) % 10 + (10 * p + c) / 10 % 4 * f ≤ (10 * p + c) / 40 * v) = decide (c + 27 ≤ rcN p v f) := by
  rw [show (10 * p + c) % 10 = c by omega, show (10 * p + c) / 10 % 4 = p % 4 by omega, show (10 * p + c) / 40 = p / 4 by omega]
  apply decide_eq_decide.mpr
  have := mul_33 (show p % 4 < 4 by omega) hf
  unfold rcN; omega
theorem lohi_gen {p : Nat} (hp : p < 16) : ∀ (S : List W3) (l0 h0 : Nat), sBd S → l0 < 29 → h0 < 37 → ∃ l h, S.foldl (lhS (nI p)) (nI l0, nI h0 - 27) = (nI l, nI h - 27) ∧ l < 29 ∧ h < 37 ∧ ∀ c, c < 10 → ((l ≤ c ∧ c + 27 ≤ h) ↔ (l0 ≤ c ∧ c + 27 ≤ h0) ∧ lawB S (10 * p + c) = true) := by
  intro S
  induction S with
  | nil => intro l0 h0 _ a b; exact ⟨l0, h0, rfl, a, b, fun c _ => ⟨fun h => ⟨h, rfl⟩, fun h => h.1⟩⟩
  | cons w S ih =>
    intro l0 h0 hs a b
    obtain ⟨v, f, d, hv, hf, hd, rfl⟩ := hs w List.mem_cons_self
    have hs' : sBd S := fun w hw => hs w (List.mem_cons_of_mem _ hw)
    have r55 := rc_lt hp hv hf
    have hlw : ∀ c, c < 10 → lawF (10 * p + c) (nI v, nI f, nI d) = (decide (c + 27 ≤ rcN p v f) == decide (nI d = 1)) := by
      intro c hc
      rw [lawF]
      simp only
      rw [nI_clamp (by omega), nI_clamp (by omega), law_rc hc hf]
    rw [List.foldl_cons, lhS]
    simp only
    rw [rch_nI p hp v hv f hf]
    by_cases e : nI d = 1
    · rw [if_pos e, min_27 _ b _ r55]
      obtain ⟨l, h, e1, e2, e3, e4⟩ := ih l0 (min h0 (rcN p v f)) hs' a (by omega)
      refine ⟨l, h, e1, e2, e3, fun c hc => ?_⟩
      rw [e4 c hc, lawB, lawB, List.all_cons, hlw c hc, Bool.and_eq_true, decide_eq_true e]
      by_cases q : c + 27 ≤ rcN p v f
      · rw [decide_eq_true q]
        exact ⟨fun z => ⟨by omega, rfl, z.2⟩, fun z => ⟨by omega, z.2.2⟩⟩
      · rw [decide_eq_false q]
        exact ⟨fun z => by omega, fun z => absurd z.2.1 (by decide)⟩
    · rw [if_neg e, max_27 _ a _ r55]
      obtain ⟨l, h, e1, e2, e3, e4⟩ := ih (max l0 (rcN p v f - 26)) h0 hs' (by omega) b
      refine ⟨l, h, e1, e2, e3, fun c hc => ?_⟩
      rw [e4 c hc, lawB, lawB, List.all_cons, hlw c hc, Bool.and_eq_true, decide_eq_false e]
      by_cases q : c + 27 ≤ rcN p v f
      · rw [decide_eq_true q]
        exact ⟨fun z => by omega, fun z => absurd z.2.1 (by decide)⟩
      · rw [decide_eq_false q]
        exact ⟨fun z => ⟨by omega, rfl, z.2⟩, fun z => ⟨by omega, z.2.2⟩⟩
theorem lohi_nI {S : List W3} (hs : sBd S) {p : Nat} (hp : p < 16) : ∃ l h, loHi S p = (nI l, nI h - 27) ∧ l < 29 ∧ h < 37 ∧ ∀ c, c < 10 → (lawB S (10 * p + c) = true ↔ l ≤ c ∧ c + 27 ≤ h) := by
  obtain ⟨l, h, e1, e2, e3, e4⟩ := lohi_gen hp S 0 36 hs (by omega) (by omega)
  refine ⟨l, h, ?_, e2, e3, fun c hc => ?_⟩
  · rw [← e1]; rfl
  · rw [e4 c hc]
    exact ⟨fun z => ⟨by omega, z⟩, fun z => z.2⟩
theorem fo_add {α : Type} (s : Nat → α → α) (a : α) (m : Nat) : ∀ n, fo s a (m + n) = fo (fun i => s (m + i)) (fo s a m) n := by
  intro n
  induction n with
  | zero => rfl
  | succ n ih => rw [← Nat.add_assoc, fo, ih, fo]
theorem fo_mul {α : Type} (s : Nat → α → α) (a : α) (m : Nat) : ∀ n, fo s a (m * n) = fo (fun p st => fo (fun c st => s (m * p + c) st) st m) a n := by
  intro n
  induction n with
  | zero => rfl
  | succ n ih => rw [Nat.mul_succ, fo_add, ih]; rfl
def lwT (S : List W3) (L : Nat) (st : Nat × List Int64) : Nat × List Int64 := if lawB S L then (st.1 + 1, if st.1 = 0 then [(nI (L / 40)).toInt64, (nI (L / 10 % 4)).toInt64, (nI (L % 10)).toInt64] else st.2) else st
def lwS (S : List W3) (n : Nat) : Nat × List Int64 := fo (lwT S) (0, []) n
theorem lw_in {S : List W3} {p l h : Nat} (h4 : ∀ c, c < 10 → (lawB S (10 * p + c) = true ↔ l ≤ c ∧ c + 27 ≤ h)) (st : Nat × List Int64) : ∀ n, n ≤ 10 → fo (fun c st => lwT S (10 * p + c) st) st n = (st.1 + (min n (h - 26) - l), if st.1 = 0 ∧ l < min n (h - 26) then [(nI (p / 4)).toInt64, (nI (p % 4)).toInt64, (nI l).toInt64] else st.2) := by
  intro n
  induction n with
  | zero => intro _; rw [fo, if_neg (by omega)]; simp only [show min 0 (h - 26) - l = 0 by omega, Nat.add_zero]
  | succ n ih =>
    intro hn
    rw [fo, ih (by omega), lwT]
    simp only
    by_cases q : lawB S (10 * p + n) = true
    · have q' := (h4 n (by omega)).mp q
      rw [if_pos q, show min (n + 1) (h - 26) = n + 1 by omega, show min n (h - 26) = n by omega, show st.1 + (n - l) + 1 = st.1 + (n + 1 - l) by omega]
      congr 1
      by_cases z : st.1 = 0
      · by_cases z2 : n = l
        · subst z2
          rw [if_pos (by omega), if_pos (by omega), show (10 * p + n) / 40 = p / 4 by omega, show (10 * p + n) / 10 % 4 = p % 4 by omega, show (10 * p + n) % 10 = n by omega]
        · rw [if_neg (by omega), if_pos (by omega), if_pos (by omega)]
      · rw [if_neg (by omega), if_neg (by omega), if_neg (by omega)]
    · rw [if_neg q]
      have q' : ¬ (l ≤ n ∧ n + 27 ≤ h) := fun z => q ((h4 n (by omega)).mpr z)
      by_cases z : n < l
      · rw [show min n (h - 26) - l = 0 by omega, show min (n + 1) (h - 26) - l = 0 by omega, if_neg (by omega), if_neg (by omega)]
      · rw [show min (n + 1) (h - 26) = min n (h - 26) by omega]
theorem laws_M {S : List W3} (hs : sBd S) : ∀ n, n ≤ 16 → fo (fun p s => s + maxS 0 ((loHi S p).2 - (loHi S p).1 + 1)) 0 n = nI (lwS S (10 * n)).1 ∧ (lwS S (10 * n)).1 ≤ 10 * n ∧ (((lwS S (10 * n)).1 = 0 ∧ (lwS S (10 * n)).2 = [] ∧ leastS S 16 0 = leastS S (16 - n) n) ∨ (0 < (lwS S (10 * n)).1 ∧ ∃ q, q < 16 ∧ leastS S 16 0 = nI q ∧ (lwS S (10 * n)).2 = [(nI (q / 4)).toInt64, (nI (q % 4)).toInt64, (loHi S q).1.toInt64])) := by
  intro n
  induction n with
  | zero => intro _; exact ⟨rfl, Nat.le_refl _, Or.inl ⟨rfl, rfl, rfl⟩⟩
  | succ n ih =>
    intro hn
    obtain ⟨i1, i2, i3⟩ := ih (by omega)
    obtain ⟨l, h, e1, e2, e3, e4⟩ := lohi_nI hs (show n < 16 by omega)
    have es : lwS S (10 * (n + 1)) = fo (fun c st => lwT S (10 * n + c) st) (lwS S (10 * n)) 10 := by rw [lwS, fo_mul, fo, ← fo_mul]; rfl
    rw [lw_in e4 _ 10 (Nat.le_refl _)] at es
    rw [fo, i1, es, e1]
    simp only
    rw [cnt_27 l e2 h e3, add_nI, show min 10 (h - 26) = h - 26 by omega, show h + 1 - (l + 27) = h - 26 - l by omega]
    refine ⟨rfl, by omega, ?_⟩
    rcases i3 with ⟨a1, a2, a3⟩ | ⟨a1, q, a2, a3, a4⟩
    · rw [a1]
      replace a3 : leastS S 16 0 = if (loHi S n).2 < (loHi S n).1 then leastS S (16 - (n + 1)) (n + 1) else nI n := by
        rw [a3, show 16 - n = (16 - (n + 1)) + 1 by omega]; rfl
      rw [e1] at a3
      simp only [lt_h27 l e2 h e3] at a3
      by_cases z : h < l + 27
      · rw [if_pos z] at a3
        refine Or.inl ⟨by omega, ?_, a3⟩
        rw [if_neg (by omega)]
        exact a2
      · rw [if_neg z] at a3
        refine Or.inr ⟨by omega, n, by omega, a3, ?_⟩
        rw [if_pos (by omega), e1]
    · refine Or.inr ⟨by omega, q, a2, a3, ?_⟩
      rw [if_neg (by omega)]
      exact a4
theorem lawsC_M {A : AS} (hs : sBd A.S) : lawsC A = (nI (lwS A.S 160).1, A.wR (lwS A.S 160).2) ∧ (lwS A.S 160).1 ≤ 160 := by
  obtain ⟨h1, h2, h3⟩ := laws_M hs 16 (Nat.le_refl _)
  rw [show 10 * 16 = 160 from rfl] at h1 h2 h3
  refine ⟨?_, h2⟩
  unfold lawsC
  rw [show lawsN A.S = nI (lwS A.S 160).1 from h1]
  congr 2
  rcases h3 with ⟨a1, a2, a3⟩ | ⟨a1, q, a2, a3, a4⟩
  · rw [a3, a2, if_pos (by rw [Nat.sub_self, leastS]; decide)]
  · obtain ⟨d1, d2⟩ := p4 q a2
    rw [a3, a4, if_neg (nI_pos (by omega)), nI_clamp (by omega), d1]
    rw [d1] at d2
    rw [d2]
theorem lw_0 (S : List W3) : ∀ n, (lwS S n).1 = 0 → (lwS S n).2 = [] := by
  intro n
  induction n with
  | zero => intro _; rfl
  | succ n ih =>
    rw [lwS, fo, ← lwS, lwT]
    split
    · intro h; simp at h
    · exact ih
theorem lw_le (S : List W3) : ∀ n, (lwS S n).1 ≤ n := by
  intro n
  induction n with
  | zero => exact Nat.le_refl _
  | succ n ih =>
    rw [lwS, fo, ← lwS, lwT]
    split
    · simp only; omega
    · omega
theorem mc_laws (k : Nat) (A : AS) : MC (k + 2) M_X12_laws [] A (.int (lawsC A).1) (lawsC A).2 := by
  intro σ0 hv0
  refine EvM.of mk_X12_laws (Nat.le_of_ble_eq_true rfl) ?_
  refine wpW K_X12_laws [5] 10 ?_
  obtain ⟨hv, f0⟩ := mv_t0 hv0
  show WW _ _ _ 5 [some (.ref 52), none, none] _ (t0S σ0)
  generalize t0S σ0 = σ at hv f0 ⊢
  have hb := hv.1
  rw [(lawsC_M hb.s.bd).1]
  obtain ⟨r1, r2⟩ := row_0 σ
  have f3 : FM [] [6] σ (sI σ 52 6 0) := FM.rf.sI (by decide)
  refine wpW K_X12_laws [14] 60 ?_
  show WW _ _ _ 14 [some (.ref 52), some (.int (nI 0)), some (.int (nI 0))] [] (sI σ 52 6 0)
  generalize sI σ 52 6 0 = σ3 at r1 r2 f3 ⊢
  refine loopI (α := Sto × (Nat × List Int64)) 14 (fun L a => [some (.ref 52), some (.int (nI a.2.1)), some (.int (nI L))]) (fun a => a.1) (fun L a => FM [56] [6] σ a.1 ∧ rOK a.1 ∧ mRw a.1 = a.2.2 ∧ a.2 = lwS A.S L) 160 ?_ ?_ 0 (σ3, (0, [])) (Nat.zero_le _) ⟨f3.up _ _ (by decide) (by decide), r1, r2, rfl⟩
  · rintro L ⟨τ, st⟩ hL ⟨f, hr, hR, hI⟩ go
    simp only at f hr hR hI ⊢
    have hle := lw_le A.S L
    have h00 := lw_0 A.S L
    rw [← hI] at hle h00
    have hs : lwS A.S (L + 1) = lwT A.S L st := by rw [lwS, fo, ← lwS, ← hI]
    obtain ⟨d1, d2, d3, -⟩ := d40 L hL
    have hsv := hb.s.go f (by decide) (by decide) (by decide)
    rw [lwT] at hs
    refine wpW K_X12_laws [14] 60 ?_
    refine ⟨fun e => ?_, fun _ => ⟨_, ev_isLaw _ τ A.S hsv L hL, ?_⟩⟩
    · rw [show (160 : Int32) = nI 160 from rfl, le_of_nI (by omega) (by omega)] at e; omega
    rintro v τ' ⟨h9, rfl⟩
    obtain rfl := h9.symm
    refine ⟨fun e => ?_, fun e => ?_⟩
    · rw [bI_ne] at e
      rw [if_pos e] at hs
      refine ⟨fun z => ?_, fun z => ?_⟩
      · have z' : ¬ st.1 = 0 := fun y => z (by rw [y]; rfl)
        rw [if_neg z'] at hs
        exact go (τ, st.1 + 1, st.2) _ _ (by rw [← nI_1 L]; show _ = [_, some (Value.int (nI (st.1 + 1))), _]; rw [← nI_1 st.1]; rfl) rfl ⟨f, hr, hR, hs.symm⟩
      · have z' : st.1 = 0 := by
          have : nI st.1 = nI 0 := z
          rw [eq_of_nI (by omega) (by omega)] at this
          exact this
        rw [if_pos z'] at hs
        rw [h00 z'] at hR
        refine ⟨by decide, _, ev_tellL _ hr hR (by simp) _, ?_⟩
        rintro v τ1 ⟨rfl, r4, e4, f4⟩
        refine ⟨by decide, by decide, _, ev_tellL _ r4 e4 (by simp) _, ?_⟩
        rintro v τ2 ⟨rfl, r5, e5, f5⟩
        refine ⟨by decide, _, ev_tellL _ r5 e5 (by simp) _, ?_⟩
        rintro v τ3 ⟨rfl, r6, e6, f6⟩
        refine go (τ3, st.1 + 1, [(nI (L / 40)).toInt64, (nI (L / 10 % 4)).toInt64, (nI (L % 10)).toInt64]) _ _ (by rw [← nI_1 L]; show _ = [_, some (Value.int (nI (st.1 + 1))), _]; rw [← nI_1 st.1]; rfl) rfl ⟨((f.tr f4).tr f5).tr f6, r6, ?_, hs.symm⟩
        rw [e6, ← d1, ← d2, ← d3]
        rfl
    · rw [bI_eq] at e
      rw [if_neg (by rw [e]; decide)] at hs
      exact go (τ, st) _ _ (by rw [← nI_1 L]; rfl) rfl ⟨f, hr, hR, hs.symm⟩
  · rintro ⟨τ, st⟩ ⟨f, hr, hR, hI⟩
    simp only at f hr hR hI ⊢
    refine wpW K_X12_laws [] 60 ?_
    refine ⟨fun _ => ?_, fun e => absurd (by decide) e⟩
    rw [← hI]
    have := mv_end hb (f.up _ _ (by decide) (by decide)) hr hR
    exact ⟨rfl, this.1, f0.tr this.2⟩
