/-! what is read doesn't hang on what is asked; what is put computes what is read -/
def EqR (r r' : RR) : Prop := r.1 = r'.1 ∧ r.2.1 = r'.2.1 ∧ r.2.2.1 = r'.2.2.1
theorem eq_thing {cs as as' : Nat → Int32} {deep deep' : Option (Nat → RR)} (h : (deep = none ∧ deep' = none) ∨ ∃ f f', deep = some f ∧ deep' = some f' ∧ ∀ p, EqR (f p) (f' p)) (p : Nat) : EqR (thingP cs as deep p) (thingP cs as' deep' p) := by
  unfold thingP
  split
  · rcases h with ⟨rfl, rfl⟩ | ⟨f, f', rfl, rfl, hf⟩
    · exact ⟨rfl, rfl, rfl⟩
    · obtain ⟨h1, h2, h3⟩ := hf (p + 1)
      simp only
      rw [← h1, ← h2, ← h3]
      split
      · exact ⟨rfl, rfl, rfl⟩
      · exact ⟨rfl, rfl, rfl⟩
  · split
    · exact ⟨rfl, rfl, rfl⟩
    · exact ⟨rfl, rfl, rfl⟩
theorem eq_sign {cs : Nat → Int32} {th th' : Nat → RR} (h : ∀ p, EqR (th p) (th' p)) (p : Nat) : EqR (signP cs th p) (signP cs th' p) := by
  obtain ⟨h1, h2, h3⟩ := h (p + leadS cs 40 p)
  unfold signP
  split
  · exact ⟨h1, h2, by show _ ++ _ = _ ++ _; rw [h3]⟩
  · exact ⟨h1, h2, h3⟩
theorem eq_chain {cs : Nat → Int32} {op : Int32 → Bool} {sub sub' : Nat → RR} (h : ∀ p, EqR (sub p) (sub' p)) : ∀ n r r', EqR r r' → EqR (chainP cs op sub n r) (chainP cs op sub' n r') := by
  intro n
  induction n with
  | zero => intro r r' hr; exact hr
  | succ n ih =>
    intro r r' hr
    obtain ⟨e1, e2, e3⟩ := hr
    unfold chainP
    rw [← e1, ← e2]
    split
    · obtain ⟨h1, h2, h3⟩ := h (r.2.1 + 1)
      exact ih _ _ ⟨h1, h2, by show _ ++ _ ++ _ = _ ++ _ ++ _; rw [e3, h3]⟩
    · exact ⟨e1, e2, e3⟩
theorem eq_comp {cs : Nat → Int32} {th th' : Nat → RR} (h : ∀ p, EqR (th p) (th' p)) (p : Nat) : EqR (compP cs th p) (compP cs th' p) :=
  eq_chain (fun p => eq_chain (fun p => eq_chain (eq_sign h) 40 _ _ (eq_sign h p)) 40 _ _ (eq_chain (eq_sign h) 40 _ _ (eq_sign h p))) 1 _ _ (eq_chain (fun p => eq_chain (eq_sign h) 40 _ _ (eq_sign h p)) 40 _ _ (eq_chain (eq_sign h) 40 _ _ (eq_sign h p)))
theorem eq_rule (cs as as' : Nat → Int32) : ∀ l p, EqR (ruleP cs as l p) (ruleP cs as' l p) := by
  intro l
  induction l with
  | zero => exact eq_comp (eq_thing (Or.inl ⟨rfl, rfl⟩))
  | succ l ih => exact eq_comp (eq_thing (Or.inr ⟨_, _, rfl, rfl, ih⟩))
/-! compiled -/
def exS (as : Nat → Int32) (st : Nat × (Nat → Int32)) (L : List Int32) : Nat × (Nat → Int32) := L.foldl (fun st s => stpS as s st) st
theorem exS_app (as : Nat → Int32) (st : Nat × (Nat → Int32)) (L M : List Int32) : exS as st (L ++ M) = exS as (exS as st L) M := List.foldl_append
/-- steps L push v -/
def Psh (as : Nat → Int32) (L : List Int32) (v : Int32) : Prop := ∀ top stk, top + L.length ≤ 40 → ∃ stk', exS as (top, stk) L = (top + 1, stk') ∧ stk' top = v ∧ ∀ j, j < top → stk' j = stk j
theorem psh_one {as : Nat → Int32} {x v : Int32} (h : ∀ top stk, top < 40 → stpS as x (top, stk) = (top + 1, upd stk top v)) : Psh as [x] v := by
  intro top stk ht
  have ht' : top < 40 := ht
  exact ⟨upd stk top v, h top stk ht', pk_us, fun j hj => pk_un (by omega)⟩
theorem sub1000 (c : Int32) : 1000 + c - 1000 = c := by
  apply Int32.toBitVec_inj.mp
  simp only [Int32.toBitVec_sub, Int32.toBitVec_add]
  rw [BitVec.add_comm, BitVec.add_sub_cancel]
theorem psh_let {as : Nat → Int32} {c : Int32} (h : isLet c = true) : Psh as [1000 + c] (thS as c) := by
  apply psh_one
  intro top stk ht
  have key : ¬ c < 0 ∧ (97 ≤ c ∧ ¬ c = 126) := by
    unfold isLet at h
    simp only [Bool.or_eq_true, decide_eq_true_eq] at h
    rcases h with (((((rfl | rfl) | rfl) | rfl) | rfl) | rfl) | rfl <;> decide
  unfold stpS
  rw [sub1000, if_neg key.1, if_pos key.2, if_pos ht]
theorem psh_num {as : Nat → Int32} {x : Int32} (h : x - 1000 < 0) : Psh as [x] x := by
  apply psh_one
  intro top stk ht
  unfold stpS
  rw [if_pos h, if_pos ht]
theorem psh_neg {as : Nat → Int32} {L : List Int32} {v : Int32} (h : Psh as L v) : Psh as (L ++ [1126]) (-v) := by
  intro top stk ht
  rw [List.length_append] at ht
  obtain ⟨stk', e1, e2, e3⟩ := h top stk (by omega)
  refine ⟨upd stk' top (-v), ?_, pk_us, fun j hj => by rw [pk_un (by omega)]; exact e3 j hj⟩
  rw [exS_app, e1]
  show stpS as 1126 (top + 1, stk') = _
  unfold stpS
  rw [if_neg (by decide), if_neg (by decide), if_pos (by decide), if_pos (by show 1 ≤ top + 1; omega)]
  show (top + 1, upd stk' top (-(stk' top))) = _
  rw [e2]
theorem psh_join {as : Nat → Int32} {L M : List Int32} {v w c : Int32} (hc : ¬ c < 0 ∧ ¬ 97 ≤ c) (h : Psh as L v) (h' : Psh as M w) : Psh as (L ++ M ++ [1000 + c]) (joinS c v w) := by
  intro top stk ht
  rw [List.length_append, List.length_append] at ht
  obtain ⟨s1, e1, e2, e3⟩ := h top stk (by omega)
  have hL : 0 < [(1000 : Int32) + c].length := by simp
  obtain ⟨s2, f1, f2, f3⟩ := h' (top + 1) s1 (by
    have : [(1000 : Int32) + c].length = 1 := rfl
    by_cases hz : L.length = 0
    · -- an empty row pushes nothing
      exfalso
      have hLn : L = [] := List.length_eq_zero_iff.mp hz
      subst hLn
      have : ((top, stk) : Nat × (Nat → Int32)) = (top + 1, s1) := e1
      have := congrArg Prod.fst this
      simp at this
    · omega)
  refine ⟨upd s2 top (joinS c v w), ?_, pk_us, fun j hj => by rw [pk_un (by omega), f3 j (by omega)]; exact e3 j hj⟩
  rw [exS_app, exS_app, e1, f1]
  show stpS as (1000 + c) (top + 1 + 1, s2) = _
  unfold stpS
  have h126 : ¬ c = 126 := fun e => hc.2 (by rw [e]; decide)
  rw [sub1000, if_neg hc.1, if_neg (fun z => hc.2 z.1), if_neg h126, if_pos (by show 2 ≤ top + 1 + 1; omega)]
  show (top + 1, upd s2 top (joinS c (s2 top) (s2 (top + 1)))) = _
  rw [f2, f3 top (by omega), e2]
def CmpP (as : Nat → Int32) (f : Nat → RR) : Prop := ∀ p, (f p).1 = true → Psh as (f p).2.2.1 (f p).2.2.2
theorem num_small (cs : Nat → Int32) : ∀ n p (x : Int32) k, 0 ≤ x.toInt → x.toInt < 10 ^ (3 - n) → n ≤ 3 → 0 ≤ (numS cs n p x k).2.toInt ∧ (numS cs n p x k).2.toInt < 1000 := by
  intro n
  induction n with
  | zero => intro p x k h1 h2 _; exact ⟨h1, h2⟩
  | succ n ih =>
    intro p x k h1 h2 hn
    have hb : (10 : Int) ^ (3 - (n + 1)) * 10 = 10 ^ (3 - n) := by
      rw [show 3 - n = 3 - (n + 1) + 1 by omega, Int.pow_succ]
    have hb2 : (10 : Int) ^ (3 - (n + 1)) ≤ 100 := by
      have h3 : n = 0 ∨ n = 1 ∨ n = 2 := by omega
      rcases h3 with rfl | rfl | rfl <;> decide
    unfold numS
    split
    · rename_i hd
      unfold isDg at hd
      simp only [Bool.and_eq_true, Bool.not_eq_true', decide_eq_false_iff_not, Int32.lt_iff_toInt_lt] at hd
      have e48 : (48 : Int32).toInt = 48 := rfl
      have e57 : (57 : Int32).toInt = 57 := rfl
      rw [e48, e57] at hd
      have e10 : (10 * x).toInt = 10 * x.toInt := by
        rw [Int32.toInt_mul, show (10 : Int32).toInt = 10 from rfl]
        exact Int.bmod_eq_of_le (by omega) (by omega)
      have e11 : (10 * x + cs p).toInt = 10 * x.toInt + (cs p).toInt := by
        rw [Int32.toInt_add, e10]
        exact Int.bmod_eq_of_le (by omega) (by omega)
      have e12 : (10 * x + cs p - 48).toInt = 10 * x.toInt + (cs p).toInt - 48 := by
        rw [Int32.toInt_sub, e11, e48]
        exact Int.bmod_eq_of_le (by omega) (by omega)
      exact ih (p + 1) _ (k + 1) (by omega) (by rw [← hb]; omega) (by omega)
    · exact ⟨h1, by show x.toInt < 1000; omega⟩
theorem cmp_thing {cs as : Nat → Int32} {deep : Option (Nat → RR)} (hd : ∀ f, deep = some f → CmpP as f) : CmpP as (thingP cs as deep) := by
  intro p
  unfold thingP
  split
  · cases deep with
    | none => intro h; exact Bool.noConfusion (show false = true from h)
    | some f =>
      simp only
      split
      · rename_i hh
        rw [Bool.and_eq_true] at hh
        intro _
        exact hd f rfl (p + 1) hh.1
      · intro h; exact Bool.noConfusion (show false = true from h)
  · split
    · rename_i hl
      intro _
      exact psh_let hl
    · intro _
      have := num_small cs 3 p 0 0 (by decide) (by decide) (by omega)
      apply psh_num
      rw [Int32.lt_iff_toInt_lt, Int32.toInt_sub, show (1000 : Int32).toInt = 1000 from rfl, Int.bmod_eq_of_le (by omega) (by omega)]
      show _ - 1000 < (0 : Int32).toInt
      rw [show (0 : Int32).toInt = 0 from rfl]
      omega
theorem cmp_sign {cs as : Nat → Int32} {th : Nat → RR} (h : CmpP as th) : CmpP as (signP cs th) := by
  intro p
  unfold signP
  split
  · intro q; exact psh_neg (h _ q)
  · exact h _
theorem cmp_chain {cs as : Nat → Int32} {op : Int32 → Bool} (ho : ∀ c, op c = true → ¬ c < 0 ∧ ¬ 97 ≤ c) {sub : Nat → RR} (hs : CmpP as sub) : ∀ n (r : RR), (r.1 = true → Psh as r.2.2.1 r.2.2.2) → ((chainP cs op sub n r).1 = true → Psh as (chainP cs op sub n r).2.2.1 (chainP cs op sub n r).2.2.2) := by
  intro n
  induction n with
  | zero => intro r h; exact h
  | succ n ih =>
    intro r h
    unfold chainP
    split
    · rename_i c
      rw [Bool.and_eq_true] at c
      exact ih _ (fun q => psh_join (ho _ c.2) (h c.1) (hs _ q))
    · exact h
theorem op_mul (c : Int32) (h : mulO c = true) : ¬ c < 0 ∧ ¬ 97 ≤ c := by
  unfold mulO at h
  simp only [Bool.or_eq_true, decide_eq_true_eq] at h
  rcases h with rfl | rfl <;> decide
theorem op_add (c : Int32) (h : addO c = true) : ¬ c < 0 ∧ ¬ 97 ≤ c := by
  unfold addO at h
  simp only [Bool.or_eq_true, decide_eq_true_eq] at h
  rcases h with rfl | rfl <;> decide
theorem op_cmp (c : Int32) (h : cmpO c = true) : ¬ c < 0 ∧ ¬ 97 ≤ c := by
  unfold cmpO at h
  simp only [Bool.or_eq_true, decide_eq_true_eq] at h
  rcases h with (rfl | rfl) | rfl <;> decide
theorem cmp_comp {cs as : Nat → Int32} {th : Nat → RR} (h : CmpP as th) : CmpP as (compP cs th) := by
  have hp : CmpP as (prodP cs th) := fun p => cmp_chain op_mul (cmp_sign h) 40 _ (cmp_sign h p)
  have hs : CmpP as (sumP cs th) := fun p => cmp_chain op_add hp 40 _ (hp p)
  exact fun p => cmp_chain op_cmp hs 1 _ (hs p)
theorem cmp_rule (cs as : Nat → Int32) : ∀ l, CmpP as (ruleP cs as l) := by
  intro l
  induction l with
  | zero => exact cmp_comp (cmp_thing (fun f h => by cases h))
  | succ l ih => exact cmp_comp (cmp_thing (fun f h => by cases h; exact ih))
theorem run_ex {g : Nat → Int32} {L : List Int32} (h : rowIs g L) (as stk : Nat → Int32) : ∀ m, m ≤ L.length → runS g m as stk = exS as (0, stk) (L.take m) := by
  intro m
  induction m with
  | zero => intro _; simp [runS, fo, exS]
  | succ m ih =>
    intro hm
    obtain ⟨x, hx⟩ : ∃ x, L[m]? = some x := ⟨_, List.getElem?_eq_getElem (by omega)⟩
    show stpS as (g m) (runS g m as stk) = _
    rw [ih (by omega), h m x hx]
    show _ = exS as (0, stk) (L.take (m + 1))
    unfold exS
    rw [foldl_take _ _ _ _ _ hx]
/-- what a rule says of what it asks -/
def evS (cs : Nat → Int32) : (Nat → Int32) → Int32 := fun as => (ruleP cs as 4 0).2.2.2
def evNone : (Nat → Int32) → Int32 := fun as => as 0 - as 2
theorem RC_of {τ : Sto} {s : Nat} {cs as0 : Nat → Int32} (hsi : SI τ s (ruleP cs as0 4 0).2.2.1) (hok : (ruleP cs as0 4 0).1 = true) : RC τ s (evS cs) := by
  refine ⟨_, hsi.1, hsi.2.1, fun as stk => ?_⟩
  rw [run_ex hsi.2.2 as stk _ (Nat.le_refl _), List.take_length]
  obtain ⟨e1, e2, e3⟩ := eq_rule cs as0 as 4 0
  have := cmp_rule cs as 4 0 (by rw [← e1]; exact hok) 0 stk (by rw [← e3]; have := hsi.2.1; omega)
  obtain ⟨stk', f1, f2, -⟩ := this
  rw [e3, f1]
  exact f2
theorem RC_none {τ : Sto} {s : Nat} (hsi : SI τ s [1118, 1102, 1045]) : RC τ s evNone := by
  refine ⟨_, hsi.1, hsi.2.1, fun as stk => ?_⟩
  rw [run_ex hsi.2.2 as stk _ (Nat.le_refl _)]
  have h1 : Psh as [1118] (as 0) := psh_let (c := 118) (by decide)
  have h2 : Psh as [1102] (as 2) := psh_let (c := 102) (by decide)
  obtain ⟨stk', f1, f2, -⟩ := psh_join (c := 45) (by decide) h1 h2 0 stk (by decide)
  show (exS as (0, stk) [1118, 1102, 1045]).2 0 = _
  have e : ([1118] ++ [1102] ++ [(1000 : Int32) + 45]) = [1118, 1102, 1045] := by decide
  rw [e] at f1
  rw [f1]
  rw [show evNone as = joinS 45 (as 0) (as 2) from rfl]
  exact f2
