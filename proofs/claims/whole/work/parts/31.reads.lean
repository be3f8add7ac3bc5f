/-! the reader's methods, each over what it reads -/
def csEnd (cs : Nat → Int32) : Prop := ∀ p, 40 ≤ p → cs p = -1
theorem cs_end (t : Nat) (g : Nat → Int32) : csEnd (csS t g) := fun p hp => by rw [csS, if_neg (fun c => by omega)]
def PrOK (f : Nat → RR) : Prop := ∀ p, p ≤ 40 → p ≤ (f p).2.1 ∧ (f p).2.1 ≤ 40 ∧ ((f p).1 = true → (f p).2.2.1.length + p ≤ (f p).2.1)
theorem cs_lt {cs : Nat → Int32} (hc : csEnd cs) {p : Nat} (h : cs p ≠ -1) : p < 40 := by
  by_cases c : p < 40
  · exact c
  · exact absurd (hc p (by omega)) h
theorem dg_ne {c : Int32} (h : isDg c = true) : c ≠ -1 := by rintro rfl; exact absurd h (by decide)
theorem num_le (cs : Nat → Int32) (hc : csEnd cs) : ∀ n p x k, p ≤ 40 → (numS cs n p x k).1 ≤ k + n ∧ k ≤ (numS cs n p x k).1 ∧ p + ((numS cs n p x k).1 - k) ≤ 40 := by
  intro n
  induction n with
  | zero => intro p x k hp; exact ⟨Nat.le_refl _, Nat.le_refl _, by show p + (k - k) ≤ 40; omega⟩
  | succ n ih =>
    intro p x k hp
    unfold numS
    split
    · rename_i h
      have := cs_lt hc (dg_ne h)
      have := ih (p + 1) (10 * x + cs p - 48) (k + 1) (by omega)
      omega
    · exact ⟨by omega, Nat.le_refl _, by show p + (k - k) ≤ 40; omega⟩
theorem thing_ok {cs as : Nat → Int32} (hc : csEnd cs) {deep : Option (Nat → RR)} (hd : ∀ f, deep = some f → PrOK f) : PrOK (thingP cs as deep) := by
  intro p hp
  unfold thingP
  split
  · rename_i h40
    have hp40 : p < 40 := cs_lt hc (by rw [h40]; decide)
    cases deep with
    | none => exact ⟨Nat.le_refl _, hp, fun h => Bool.noConfusion (show false = true from h)⟩
    | some f =>
      have hf := hd f rfl (p + 1) (by omega)
      simp only
      split
      · rename_i hh
        rw [Bool.and_eq_true] at hh
        have h41 := of_decide_eq_true hh.2
        have : (f (p + 1)).2.1 < 40 := cs_lt hc (by rw [h41]; decide)
        refine ⟨by show p ≤ _ + 1; omega, by show _ + 1 ≤ 40; omega, fun _ => ?_⟩
        have := hf.2.2 hh.1
        show ((f (p + 1)).2.2.1).length + p ≤ (f (p + 1)).2.1 + 1
        omega
      · exact ⟨by show p ≤ (f (p + 1)).2.1; omega, hf.2.1, fun h => Bool.noConfusion (show false = true from h)⟩
  · split
    · rename_i hl
      have hp40 : p < 40 := cs_lt hc (fun e => by rw [e] at hl; exact absurd hl (by decide))
      exact ⟨by show p ≤ p + 1; omega, hp40, fun _ => by show 1 + p ≤ p + 1; omega⟩
    · have := num_le cs hc 3 p 0 0 hp
      refine ⟨by show p ≤ p + _; omega, by show p + _ ≤ 40; omega, fun h => ?_⟩
      have h0 : 0 < (numS cs 3 p 0 0).1 := of_decide_eq_true h
      show 1 + p ≤ p + _
      omega
theorem lead_le {cs : Nat → Int32} (hc : csEnd cs) : ∀ n p, p ≤ 40 → p + leadS cs n p ≤ 40 := by
  intro n
  induction n with
  | zero => intro p hp; exact hp
  | succ n ih =>
    intro p hp
    unfold leadS
    split
    · rename_i h
      have : p < 40 := cs_lt hc (by rw [h]; decide)
      have := ih (p + 1) (by omega)
      omega
    · exact hp
theorem sign_ok {cs : Nat → Int32} (hc : csEnd cs) {th : Nat → RR} (ht : PrOK th) : PrOK (signP cs th) := by
  intro p hp
  have hl := lead_le hc 40 p hp
  have h := ht _ hl
  unfold signP
  split
  · refine ⟨by show p ≤ (th _).2.1; omega, h.2.1, fun q => ?_⟩
    have := h.2.2 q
    show ((th (p + leadS cs 40 p)).2.2.1 ++ [(1126 : Int32)]).length + p ≤ (th (p + leadS cs 40 p)).2.1
    rw [List.length_append]
    have : [(1126 : Int32)].length = 1 := rfl
    omega
  · exact ⟨by omega, h.2.1, fun q => by have := h.2.2 q; omega⟩
theorem chain_ok {cs : Nat → Int32} (hc : csEnd cs) {op : Int32 → Bool} (ho : op (-1) = false) {sub : Nat → RR} (hs : PrOK sub) : ∀ n (r : RR) p, p ≤ r.2.1 → r.2.1 ≤ 40 → (r.1 = true → r.2.2.1.length + p ≤ r.2.1) → p ≤ (chainP cs op sub n r).2.1 ∧ (chainP cs op sub n r).2.1 ≤ 40 ∧ ((chainP cs op sub n r).1 = true → (chainP cs op sub n r).2.2.1.length + p ≤ (chainP cs op sub n r).2.1) := by
  intro n
  induction n with
  | zero => intro r p h1 h2 h3; exact ⟨h1, h2, h3⟩
  | succ n ih =>
    intro r p h1 h2 h3
    unfold chainP
    split
    · rename_i h
      rw [Bool.and_eq_true] at h
      have hlt : r.2.1 < 40 := cs_lt hc (fun e => by rw [e, ho] at h; exact absurd h.2 (by decide))
      have hsub := hs (r.2.1 + 1) (by omega)
      refine ih _ p (by show p ≤ (sub _).2.1; omega) hsub.2.1 (fun q => ?_)
      have q1 := hsub.2.2 q
      have q2 := h3 h.1
      show (_ ++ _ ++ [_]).length + p ≤ (sub _).2.1
      rw [List.length_append, List.length_append]
      show _ + _ + 1 + p ≤ _
      omega
    · exact ⟨h1, h2, h3⟩
theorem prod_ok {cs : Nat → Int32} (hc : csEnd cs) {th : Nat → RR} (ht : PrOK th) : PrOK (prodP cs th) := fun p hp => chain_ok hc (by decide) (sign_ok hc ht) 40 _ p (sign_ok hc ht p hp).1 (sign_ok hc ht p hp).2.1 (sign_ok hc ht p hp).2.2
theorem sum_ok {cs : Nat → Int32} (hc : csEnd cs) {th : Nat → RR} (ht : PrOK th) : PrOK (sumP cs th) := fun p hp => chain_ok hc (by decide) (prod_ok hc ht) 40 _ p (prod_ok hc ht p hp).1 (prod_ok hc ht p hp).2.1 (prod_ok hc ht p hp).2.2
theorem comp_ok {cs : Nat → Int32} (hc : csEnd cs) {th : Nat → RR} (ht : PrOK th) : PrOK (compP cs th) := fun p hp => chain_ok hc (by decide) (sum_ok hc ht) 1 _ p (sum_ok hc ht p hp).1 (sum_ok hc ht p hp).2.1 (sum_ok hc ht p hp).2.2
theorem rule_ok {cs as : Nat → Int32} (hc : csEnd cs) : ∀ l, PrOK (ruleP cs as l) := by
  intro l
  induction l with
  | zero => exact comp_ok hc (thing_ok hc (fun f h => by cases h))
  | succ l ih => exact comp_ok hc (thing_ok hc (fun f h => by cases h; exact ih))
theorem deep_ok {cs as : Nat → Int32} (hc : csEnd cs) (l : Nat) : ∀ f, deepP cs as l = some f → PrOK f := by
  intro f h
  cases l with
  | zero => cases h
  | succ l => cases h; exact rule_ok hc l
/-- behind a method that reads: it stands at r -/
def QP (σ : Sto) (s : Nat) (L : List Int32) (r : RR) : Option Value → Sto → Prop := fun v τ => v = some (.int (bI r.1)) ∧ RD τ s r.2.1 ∧ SW τ s ∧ (r.1 = true → SI τ s (L ++ r.2.2.1)) ∧ Fr [17, s, s + 1] σ τ
/-- ahead of it -/
def PP0 (cs : Nat → Int32) (σ : Sto) (s p : Nat) (L : List Int32) : Prop := xOK σ ∧ csS (xT σ) (gA σ 2) = cs ∧ RD σ s p ∧ SI σ s L ∧ L.length ≤ p ∧ p ≤ 40
def PMt (cs : Nat → Int32) (k : Nat) (M : Mt) (args : List Value) (f : Nat → RR) : Prop := ∀ σ s p L, (s = 46 ∨ s = 49) → PP0 cs σ s p L → EvM k M args σ (QP σ s L (f p))
theorem x_fr {l : List Nat} {σ τ : Sto} (h : Fr l σ τ) (h1 : 1 ∉ l) (h2 : 2 ∉ l) (hx : xOK σ) : xOK τ ∧ csS (xT τ) (gA τ 2) = csS (xT σ) (gA σ 2) := by
  have e : xT τ = xT σ := by unfold xT; rw [h.I h1]
  exact ⟨⟨by rw [h.I h1, e]; exact hx.1, by rw [e]; exact hx.2⟩, by rw [e, h.A h2]⟩
theorem PP0.next {cs : Nat → Int32} {σ τ : Sto} {s p q : Nat} {L L' : List Int32} (hs : s = 46 ∨ s = 49) (h : PP0 cs σ s p L) (hfr : Fr [17, s, s + 1] σ τ) (hd : RD τ s q) (hi : SI τ s L') (hl : L'.length ≤ q) (hq : q ≤ 40) : PP0 cs τ s q L' := by
  have := x_fr hfr (by rcases hs with rfl | rfl <;> decide) (by rcases hs with rfl | rfl <;> decide) h.1
  exact ⟨this.1, this.2.trans h.2.1, hd, hi, hl, hq⟩
theorem PP0.nx {cs : Nat → Int32} {σ : Sto} {s p : Nat} {L : List Int32} (h : PP0 cs σ s p L) (k : Nat) : EvM (k + 1) M_X6_next [.ref 17] σ (fun v τ => τ = σ ∧ v = some (.int (cs p))) := by
  have := ev_next k σ s p h.1 h.2.2.1
  rw [h.2.1] at this
  exact this
/-- one sign on -/
theorem RD.inc {σ : Sto} {s p : Nat} (h : RD σ s p) (hp : p < 80) : RD (sI σ 17 2 (gI σ 17 2 + 1)) s (p + 1) := ⟨h.1, h.2.1, by show gI σ 17 2 + 1 = _; rw [h.2.2.1, nI_1], by omega⟩
theorem SI_17 {σ : Sto} {s : Nat} {L : List Int32} {v : Int32} (hs : s = 46 ∨ s = 49) (h : SI σ s L) : SI (sI σ 17 2 v) s L := by
  rcases hs with rfl | rfl <;> exact h
theorem SW_17 {σ : Sto} {s : Nat} {v : Int32} (hs : s = 46 ∨ s = 49) (h : SW σ s) : SW (sI σ 17 2 v) s := by
  rcases hs with rfl | rfl <;> exact h
theorem RD_puts {σ τ : Sto} {s p : Nat} (hs : s = 46 ∨ s = 49) (h : RD σ s p) (hfr : Fr [s, s + 1] σ τ) : RD τ s p := by
  have h17 : 17 ∉ [s, s + 1] := by rcases hs with rfl | rfl <;> decide
  exact ⟨by rw [hfr.R h17]; exact h.1, by rw [hfr.R h17]; exact h.2.1, by rw [hfr.I h17]; exact h.2.2.1, h.2.2.2⟩
/-! numbers -/
theorem ev_readsNumber (cs : Nat → Int32) (hcs : csEnd cs) (k : Nat) : PMt cs (k + 2) M_X6_readsNumber [.ref 17] (fun p => (decide (0 < (numS cs 3 p 0 0).1), p + (numS cs 3 p 0 0).1, [(numS cs 3 p 0 0).2], (numS cs 3 p 0 0).2)) := by
  intro σ s p L hs hp
  show EvM (k + 2) M_X6_readsNumber [.ref 17] σ (QP σ s L (decide (0 < (numS cs 3 p 0 0).1), p + (numS cs 3 p 0 0).1, [(numS cs 3 p 0 0).2], (numS cs 3 p 0 0).2))
  refine EvM.of mk_X6_readsNumber (Nat.le_of_ble_eq_true rfl) ?_
  have hp40 := hp.2.2.2.2.2
  have hLp := hp.2.2.2.2.1
  have hfin := num_le cs hcs 3 p 0 0 hp40
  generalize hN : numS cs 3 p 0 0 = N at *
  have fin : ∀ τ y3, PP0 cs τ s (p + N.1) L → Fr [17, s, s + 1] σ τ → WW M_X6_readsNumber (k + 2) (QP σ s L (decide (0 < N.1), p + N.1, [N.2], N.2)) 61 [some (.ref 17), some (.int N.2), some (.int (nI N.1)), y3] [] τ := by
    intro τ y3 hpp hfr
    refine wpW K_X6_readsNumber [] 40 ?_
    refine ⟨s, hpp.2.2.1.2.1, ?_⟩
    have hpu := ev_puts (k + 1) τ s hs hpp.2.2.2.1.w N.2
    have hres : ∀ (b : Bool) υ, b = decide (0 < N.1) → SW υ s → (∀ L, SI τ s L → L.length < 40 → SI υ s (L ++ [N.2])) → Fr [s, s + 1] τ υ → QP σ s L (decide (0 < N.1), p + N.1, [N.2], N.2) (some (.int (bI b))) υ := by
      intro b υ hb q1 q2 q3
      refine ⟨by rw [hb], RD_puts hs hpp.2.2.1 q3, q1, fun q => q2 L hpp.2.2.2.1 ?_, hfr.tr (q3.mono (by simp))⟩
      have h0 : 0 < N.1 := of_decide_eq_true q
      have := hpp.2.2.2.2.2
      omega
    rcases hs with rfl | rfl
    all_goals
      refine ⟨_, hpu, ?_⟩
      rintro v υ ⟨rfl, q1, q2, q3⟩
      refine ⟨fun c => ⟨Or.inl rfl, ?_⟩, fun c => ⟨Or.inr rfl, ?_⟩⟩
      · refine hres false υ ?_ q1 q2 q3
        rw [show (0 : Int32) = nI 0 from rfl, le_of_nI (by omega) (by omega)] at c
        exact (decide_eq_false (by omega)).symm
      · refine hres true υ ?_ q1 q2 q3
        rw [show (0 : Int32) = nI 0 from rfl, le_of_nI (by omega) (by omega)] at c
        exact (decide_eq_true (by omega)).symm
  refine wpW K_X6_readsNumber [6] 10 ?_
  refine loopI (α := Sto × Int32) 6 (fun i a => [some (.ref 17), some (.int a.2), some (.int (nI i)), some (.int (nI i))]) (fun a => a.1) (fun i a => PP0 cs a.1 s (p + i) L ∧ Fr [17, s, s + 1] σ a.1 ∧ numS cs (3 - i) (p + i) a.2 i = N) 3 ?_ ?_ 0 (σ, 0) (Nat.zero_le _) ⟨hp, Fr.rf, hN⟩
  · rintro i ⟨τ, x⟩ hi ⟨hpp, hfr, hI⟩ go
    simp only at hpp hfr hI
    obtain ⟨c, hc1⟩ : ∃ c, 3 - i = c + 1 := ⟨2 - i, by omega⟩
    have hc2 : 3 - (i + 1) = c := by omega
    rw [hc1, numS] at hI
    have nx := hpp.nx (k := k)
    refine wpW K_X6_readsNumber [6, 61] 60 ?_
    have stop : isDg (cs (p + i)) = false → WW M_X6_readsNumber (k + 2) (QP σ s L (decide (0 < N.1), p + N.1, [N.2], N.2)) 61 [some (.ref 17), some (.int x), some (.int (nI i)), some (.int (nI i))] [] τ := by
      intro h
      rw [h] at hI
      have e1 : N.1 = i := by rw [← hI]; rfl
      have e2 : N.2 = x := by rw [← hI]; rfl
      have := fin τ (some (.int (nI i))) (by rw [e1]; exact hpp) hfr
      rw [e1, e2] at this
      rw [e1, e2]
      exact this
    refine ⟨fun h => ?_, fun _ => ⟨_, nx, ?_⟩⟩
    · rw [show (3 : Int32) = nI 3 from rfl, le_of_nI (by omega) (by omega)] at h; omega
    · rintro v υ ⟨h9, rfl⟩
      obtain rfl := h9.symm
      refine ⟨fun h => stop (by simp [isDg, h]), fun h => ⟨_, nx, ?_⟩⟩
      rintro v υ ⟨h9, rfl⟩
      obtain rfl := h9.symm
      refine ⟨fun h2 => stop (by simp [isDg, h2]), fun h2 => ⟨_, nx, ?_⟩⟩
      rintro v υ ⟨h9, rfl⟩
      obtain rfl := h9.symm
      have hdg : isDg (cs (p + i)) = true := by simp [isDg, h, h2]
      have hlt := cs_lt hcs (dg_ne hdg)
      rw [if_pos hdg] at hI
      refine go (_, 10 * x + cs (p + i) - 48) _ _ (by rw [← nI_1 i]; rfl) rfl ⟨hpp.next hs (Fr.rf.sI (by simp)) (hpp.2.2.1.inc (by omega)) (SI_17 hs hpp.2.2.2.1) (by omega) (by omega), Fr.sI hfr (by simp), ?_⟩
      rw [hc2]; exact hI
  · rintro ⟨τ, x⟩ ⟨hpp, hfr, hI⟩
    simp only at hpp hfr hI
    have e1 : N.1 = 3 := by rw [← hI]; rfl
    have e2 : N.2 = x := by rw [← hI]; rfl
    refine wpW K_X6_readsNumber [6, 61] 60 ?_
    refine ⟨fun h => ?_, fun h => absurd (by decide) h⟩
    have := fin τ (some (.int (nI 3))) (by rw [e1]; exact hpp) hfr
    rw [e1, e2] at this
    rw [e1, e2]
    exact this
