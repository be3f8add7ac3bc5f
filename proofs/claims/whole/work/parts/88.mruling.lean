/-! the model's calls: rule -/
def PrT (t : Nat) (f : Nat → RR) : Prop := ∀ p, p ≤ t → (f p).2.1 ≤ t
def csT (t : Nat) (cs : Nat → Int32) : Prop := ∀ p, t ≤ p → cs p = -1
theorem ct_lt {t : Nat} {cs : Nat → Int32} (hc : csT t cs) {p : Nat} (h : cs p ≠ -1) : p < t := Decidable.byContradiction (fun q => h (hc p (by omega)))
theorem num_t {t : Nat} {cs : Nat → Int32} (hc : csT t cs) : ∀ n p x k, p ≤ t → p + ((numS cs n p x k).1 - k) ≤ t ∧ k ≤ (numS cs n p x k).1 := by
  intro n
  induction n with
  | zero => intro p x k h; exact ⟨by simp only [numS]; omega, Nat.le_refl _⟩
  | succ n ih =>
    intro p x k h
    rw [numS]
    split
    · next c =>
      have hl := ct_lt hc (dg_ne c)
      have := ih (p + 1) (10 * x + cs p - 48) (k + 1) (by omega)
      omega
    · exact ⟨by simp only; omega, Nat.le_refl _⟩
theorem thing_t {t : Nat} {cs as : Nat → Int32} (hc : csT t cs) {deep : Option (Nat → RR)} (hd : ∀ f, deep = some f → PrT t f) : PrT t (thingP cs as deep) := by
  intro p hp
  rw [thingP.eq_def]
  by_cases c : cs p = 40
  · rw [if_pos c]
    have hl := ct_lt hc (by rw [c]; decide)
    match deep, hd with
    | none, _ => exact hp
    | some f, hd =>
      have h1 := hd f rfl (p + 1) (by omega)
      simp only
      split
      · next e =>
        rw [Bool.and_eq_true, decide_eq_true_eq] at e
        have := ct_lt hc (p := (f (p + 1)).2.1) (by rw [e.2]; decide)
        simp only; omega
      · exact h1
  · rw [if_neg c]
    split
    · next e =>
      have hl := ct_lt hc (p := p) (fun z => by rw [z] at e; exact absurd e (by decide))
      simp only; omega
    · have := (num_t hc 3 p 0 0 hp).1
      simp only
      omega
theorem lead_t {t : Nat} {cs : Nat → Int32} (hc : csT t cs) : ∀ n p, p ≤ t → p + leadS cs n p ≤ t := by
  intro n
  induction n with
  | zero => intro p h; exact h
  | succ n ih =>
    intro p h
    rw [leadS]
    split
    · next c =>
      have hl := ct_lt hc (p := p) (by rw [c]; decide)
      have := ih (p + 1) (by omega)
      omega
    · exact h
theorem sign_t {t : Nat} {cs : Nat → Int32} (hc : csT t cs) {th : Nat → RR} (ht : PrT t th) : PrT t (signP cs th) := by
  intro p hp
  have := ht (p + leadS cs 40 p) (lead_t hc 40 p hp)
  rw [signP]
  split
  · exact this
  · exact this
theorem chain_t {t : Nat} {cs : Nat → Int32} (hc : csT t cs) {op : Int32 → Bool} (ho : op (-1) = false) {sub : Nat → RR} (hs : PrT t sub) : ∀ n (r : RR), r.2.1 ≤ t → (chainP cs op sub n r).2.1 ≤ t := by
  intro n
  induction n with
  | zero => intro r h; exact h
  | succ n ih =>
    intro r h
    rw [chainP]
    split
    · next c =>
      rw [Bool.and_eq_true] at c
      have hl := ct_lt hc (p := r.2.1) (fun z => by rw [z, ho] at c; exact absurd c.2 (by decide))
      exact ih _ (hs (r.2.1 + 1) (by omega))
    · exact h
theorem rule_t {t : Nat} {cs as : Nat → Int32} (hc : csT t cs) : ∀ l, PrT t (ruleP cs as l) := by
  have step : ∀ th, PrT t th → PrT t (compP cs th) := fun th ht => by
    have h1 : PrT t (signP cs th) := sign_t hc ht
    have h2 : PrT t (prodP cs th) := fun p hp => chain_t hc (by decide) h1 40 _ (h1 p hp)
    have h3 : PrT t (sumP cs th) := fun p hp => chain_t hc (by decide) h2 40 _ (h2 p hp)
    exact fun p hp => chain_t hc (by decide) h3 1 _ (h3 p hp)
  intro l
  induction l with
  | zero => exact step _ (thing_t hc (fun f h => absurd h (by simp)))
  | succ l ih => exact step _ (thing_t hc (fun f h => by injection h with h; rw [← h]; exact ih))
theorem csX_T {X : Nat × (Nat → Int32)} (hx : xEnd X) : csT X.1 (csX X) := fun p hp => by
  rw [csX]
  split
  · exact hx p hp
  · rfl
theorem XV.cs {σ : Sto} {X : Nat × (Nat → Int32)} (h : XV σ X) (m : Nat) (q : Nat) : (if q < m then X.2 q else -1) = if q < X.1 ∧ q < m then gA σ 55 q &&& 255 else -1 := by
  by_cases c : q < m
  · by_cases d : q < X.1
    · rw [if_pos c, if_pos ⟨d, c⟩]
      obtain ⟨b, b1, b2, b3⟩ := h.2.2.1 q d
      rw [b3, b8_and b b1, b2]
    · rw [if_pos c, if_neg (fun z => d z.1)]
      exact h.2.2.2 q (by omega)
  · rw [if_neg c, if_neg (fun z => c z.2)]
theorem XV.by {σ : Sto} {X : Nat × (Nat → Int32)} (h : XV σ X) (q : Nat) (hq : q < X.1) : ∃ c, c < 256 ∧ gA σ 55 q = b8 (nI c) := by
  obtain ⟨b, b1, b2, b3⟩ := h.2.2.1 q hq
  exact ⟨b, b1, b3⟩
def jT : List Nat := [4, 8, 9, 10, 11, 12, 17]
theorem ev_beginText (k : Nat) {σ : Sto} {A : AS} (hb : MVc σ A) (m : Nat) (hm : m ≤ 80) : EvM (k + 1) M_X12_beginText [.ref 52, .int (nI m)] σ (fun v τ => v = none ∧ PR τ 55 A.X.1 m (fun q => if q < m then A.X.2 q else -1) 0 (-1) ∧ gI τ 52 4 = 0 ∧ FM [] jT σ τ) := by
  have hx := hb.x
  refine EvM.of mk_X12_beginText (Nat.le_of_ble_eq_true rfl) ?_
  refine wpW K_X12_beginText [] 30 ?_
  refine ⟨_, ev_begin _ _ _ _ _, ?_⟩
  rintro w τ ⟨rfl, h9⟩
  rw [hx.1] at h9
  have hP : PR τ 55 A.X.1 m (fun q => if q < m then A.X.2 q else -1) 0 (-1) := by
    rw [h9]
    exact bg_pr hx.2.1 hm (Or.inl rfl) (fun q => hx.cs m q) (fun q h1 _ => hx.by q h1)
  have f1 : FM [] jQ σ τ := by rw [h9]; exact bg_fm _ _ _ _
  have f2 : FM [] [4] τ (sI τ 52 4 0) := FM.rf.sI (by decide)
  exact ⟨rfl, hP.go f2 (by decide) (by decide) hP.at hP.wr (by omega), rfl, (f1.up _ _ (by decide) (by decide)).tr (f2.up _ _ (by decide) (by decide))⟩
theorem ev_readRule (k : Nat) {σ : Sto} {A : AS} (hb : MVc σ A) : EvM (k + 261) M_X12_readRule [.ref 52] σ (fun v τ => v = some (.int (bI (decide (rwS (csX A.X) A.X.1 = none)))) ∧ gI τ 52 12 = wrI (rwS (csX A.X) A.X.1) ∧ gI τ 52 4 = 0 ∧ FM [] jT σ τ) := by
  have ht := hb.x.2.1
  have hxe := hb.x.2.2.2
  refine EvM.of mk_X12_readRule (Nat.le_of_ble_eq_true rfl) ?_
  refine wpW K_X12_readRule [] 40 ?_
  refine ⟨_, ev_beginText _ hb 40 (by omega), ?_⟩
  rintro w σ1 ⟨rfl, hP, h4, f1⟩
  refine ⟨Or.inl rfl, ?_⟩
  have f2 : FM [] [17] σ1 (sI σ1 52 17 0) := FM.rf.sI (by decide)
  have hP2 : PR (sI σ1 52 17 0) 55 A.X.1 40 (csX A.X) 0 (-1) := hP.go f2 (by decide) (by decide) hP.at hP.wr (by omega)
  have hA2 : AQ (sI σ1 52 17 0) (fun _ => 0) := Or.inl ⟨rfl, rfl⟩
  have f12 : FM [] jT σ (sI σ1 52 17 0) := f1.tr (f2.up _ _ (by decide) (by decide))
  have h42 : gI (sI σ1 52 17 0) 52 4 = 0 := h4
  have h9t : gI (sI σ1 52 17 0) 52 9 = nI A.X.1 := hP2.2.1
  refine ⟨fun c => ?_, fun c => ?_⟩
  · have c' : A.X.1 = 0 := by
      have : nI A.X.1 ≤ nI 0 := by rw [← h9t]; exact c
      rw [le_of_nI (by omega) (by omega)] at this
      omega
    refine ⟨_, ev_wasRight _ _ hP2, ?_⟩
    rintro v τ ⟨rfl, hP3, f3⟩
    rw [rwS, if_pos c']
    refine ⟨bI_or _, ?_, ?_, (f3.i 4 (by decide)).trans h42, f12.tr (f3.up _ _ (by decide) (by decide))⟩
    · rw [decide_eq_true ⟨rfl, by omega⟩, decide_eq_true rfl]
    · rw [hP3.wr, if_neg (by omega)]; rfl
  · have c' : ¬ A.X.1 = 0 := fun z => c (by rw [show gI (sI σ1 52 17 0) 52 9 = nI A.X.1 from h9t, z]; exact Int32.le_refl _)
    refine ⟨_, ev_mread 55 A.X.1 (csX A.X) (fun _ => 0) k _ 0 hP2 hA2 (by omega), ?_⟩
    rintro v τ ⟨f3, x, rfl, hx⟩
    have hT := rule_t (as := fun _ => 0) (csX_T hxe) 4 0 (by omega)
    have hO := rule_ok (as := fun _ => 0) (csX_end A.X) 4 0 (by omega)
    rw [rwS, if_neg c']
    generalize ruleP (csX A.X) (fun _ => 0) 4 0 = r at hx hT hO
    by_cases hr : r.1 = true
    · rw [if_pos hr] at hx
      refine ⟨_, ev_wasRight _ _ hx.2, ?_⟩
      rintro v τ' ⟨rfl, hP3, f4⟩
      refine ⟨bI_or _, ?_, ?_, ((f4.i 4 (by decide)).trans (f3.i 4 (by decide))).trans h42, (f12.tr (f3.up _ _ (by decide) (by decide))).tr (f4.up _ _ (by decide) (by decide))⟩
      · by_cases e : r.2.1 = A.X.1
        · rw [if_pos (by rw [hr, decide_eq_true e]; rfl), decide_eq_true ⟨rfl, by omega⟩, decide_eq_true rfl]
        · rw [if_neg (by rw [decide_eq_false e]; simp), decide_eq_false (by omega), decide_eq_false (by simp)]
      · rw [hP3.wr]
        by_cases e : r.2.1 = A.X.1
        · rw [if_pos (show (r.1 && decide (r.2.1 = A.X.1)) = true by rw [hr, decide_eq_true e]; rfl), if_neg (by omega)]; rfl
        · rw [if_neg (show ¬ (r.1 && decide (r.2.1 = A.X.1)) = true by rw [decide_eq_false e]; simp), if_pos ⟨rfl, by omega⟩]; rfl
    · rw [if_neg hr] at hx
      obtain ⟨p', hx⟩ := hx
      have hw : ¬ nI r.2.1 = -1 := ne_m1 (by omega)
      refine ⟨_, ev_wasRight _ _ hx, ?_⟩
      rintro v τ' ⟨rfl, hP3, f4⟩
      rw [if_neg (show ¬ (r.1 && decide (r.2.1 = A.X.1)) = true by simp [hr])]
      refine ⟨bI_or _, ?_, ?_, ((f4.i 4 (by decide)).trans (f3.i 4 (by decide))).trans h42, (f12.tr (f3.up _ _ (by decide) (by decide))).tr (f4.up _ _ (by decide) (by decide))⟩
      · rw [decide_eq_false (fun z => hw z.1), decide_eq_false (by simp)]
      · rw [hP3.wr, if_neg (fun z => hw z.1)]; rfl
