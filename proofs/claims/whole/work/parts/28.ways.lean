/-! masks -/
def maskN (P : Nat → Bool) (n : Nat) : Nat := fo (fun i m => if P i then m ||| 2 ^ i else m) 0 n
theorem mask_lt (P : Nat → Bool) (n : Nat) : maskN P n < 2 ^ n := by
  induction n with
  | zero => exact Nat.one_pos
  | succ n ih =>
    show (if P n then maskN P n ||| 2 ^ n else maskN P n) < 2 ^ (n + 1)
    have : 2 ^ n < 2 ^ (n + 1) := by rw [Nat.pow_succ]; have := Nat.one_le_two_pow (n := n); omega
    split
    · exact Nat.or_lt_two_pow (by omega) this
    · omega
theorem mask_nI {P : Nat → Bool} {n : Nat} (hn : n ≤ 7) : fo (fun i b => if P i then b ||| bt i else b) 0 n = nI (maskN P n) := by
  induction n with
  | zero => rfl
  | succ n ih =>
    have hl := mask_lt P n
    have h128 : 2 ^ n ≤ 128 := (pow7 (by omega : n ≤ 7)).1
    show (if P n then fo _ 0 n ||| bt n else fo _ 0 n) = nI (if P n then maskN P n ||| 2 ^ n else maskN P n)
    rw [ih (by omega)]
    split
    · exact (or_nI (maskN P n) (by omega) n (by omega)).1
    · rfl
theorem mask_bit (P : Nat → Bool) (n q : Nat) : maskN P n / 2 ^ q % 2 = if q < n ∧ P q = true then 1 else 0 := by
  have key : ∀ n q, (maskN P n).testBit q = (decide (q < n) && P q) := by
    intro n
    induction n with
    | zero => intro q; simp [maskN, fo]
    | succ n ih =>
      intro q
      show Nat.testBit (if P n then maskN P n ||| 2 ^ n else maskN P n) q = _
      by_cases hP : P n = true
      · rw [if_pos hP, Nat.testBit_or, ih q, Nat.testBit_two_pow]
        by_cases e : n = q
        · subst e; simp [hP]
        · have : decide (n = q) = false := by simpa using e
          rw [this, Bool.or_false]
          congr 1
          apply decide_eq_decide.mpr; omega
      · rw [if_neg hP, ih q]
        by_cases e : n = q
        · subst e
          have : P n = false := by simpa using hP
          simp [this]
        · congr 1
          apply decide_eq_decide.mpr; omega
  have h := key n q
  rw [Nat.testBit_eq_decide_div_mod_eq] at h
  by_cases c : q < n ∧ P q = true
  · rw [if_pos c]
    have : (decide (q < n) && P q) = true := by simp [c.1, c.2]
    rw [this] at h
    exact of_decide_eq_true h
  · rw [if_neg c]
    have : (decide (q < n) && P q) = false := by
      by_cases hq : q < n
      · have : ¬ P q = true := fun z => c ⟨hq, z⟩
        simp [this]
      · simp [hq]
    rw [this] at h
    have := of_decide_eq_false h
    omega
/-! ways of sayings: whom a name meets -/
abbrev MS3 : Type := Nat × List Nat × (Nat → Int32)
def meet1 (t : Nat) (b : Int32) (q : Nat) (st : MS3) : MS3 := if (t / 2 ^ q % 2 = 1 ∧ st.1 / 2 ^ q % 2 = 0) ∧ st.2.1.length < 7 then (st.1 ||| 2 ^ q, st.2.1 ++ [q], upd st.2.2 q b) else st
def meetS (t : Nat) (b : Int32) (st : MS3) : MS3 := fo (meet1 t b) st 7
theorem andn_nI : ∀ a, a < 128 → ∀ b, b < 128 → nI a &&& (nI b ^^^ -1) = nI (a &&& (127 - b)) ∧ a &&& (127 - b) < 128 := by decide +kernel
theorem andn_bit : ∀ b, b < 128 → ∀ q, q < 7 → ((127 - b) / 2 ^ q % 2 = 1 ↔ b / 2 ^ q % 2 = 0) := by decide +kernel
theorem and_bit (a b q : Nat) : (a &&& b) / 2 ^ q % 2 = 1 ↔ a / 2 ^ q % 2 = 1 ∧ b / 2 ^ q % 2 = 1 := by
  have h := Nat.testBit_and a b q
  rw [Nat.testBit_eq_decide_div_mod_eq, Nat.testBit_eq_decide_div_mod_eq, Nat.testBit_eq_decide_div_mod_eq] at h
  constructor
  · intro c
    rw [decide_eq_true c] at h
    simpa using h.symm
  · rintro ⟨c1, c2⟩
    rw [decide_eq_true c1, decide_eq_true c2] at h
    exact of_decide_eq_true h
def qIs (g : Nat → Int32) (Q : List Nat) : Prop := ∀ j x, Q[j]? = some x → g j = nI x
theorem qIs_push {g : Nat → Int32} {Q : List Nat} {x : Nat} (h : qIs g Q) : qIs (upd g Q.length (nI x)) (Q ++ [x]) := by
  intro j y hj
  by_cases e : j < Q.length
  · rw [List.getElem?_append_left e] at hj
    rw [pk_un (by omega)]; exact h j y hj
  · have hlt := (List.getElem?_eq_some_iff.mp hj).1
    rw [List.length_append] at hlt
    have : j = Q.length := by simp at hlt; omega
    subst this
    rw [List.getElem?_append_right (Nat.le_refl _), Nat.sub_self] at hj
    cases hj
    exact pk_us
/-- the ways' cells hold st -/
def MI (τ : Sto) (st : MS3) : Prop := gI τ 20 3 = nI st.1 ∧ st.1 < 128 ∧ gI τ 20 2 = nI st.2.1.length ∧ st.2.1.length ≤ 7 ∧ qIs (gA τ 22) st.2.1 ∧ gA τ 21 = st.2.2
theorem MI_fr {l : List Nat} {σ τ : Sto} {st : MS3} (h : Fr l σ τ) (h1 : 20 ∉ l) (h2 : 21 ∉ l) (h3 : 22 ∉ l) (hm : MI σ st) : MI τ st := by
  unfold MI
  rw [h.I h1, h.I h1, h.A h2, h.A h3]
  exact hm
theorem ev_meets (k : Nat) (σ : Sto) (st : MS3) (hm : MI σ st) (t : Nat) (ht : t < 128) (b : Int32) : EvM k M_X10_meets [.ref 20, .int (nI t), .int b] σ (fun v τ => v = none ∧ MI τ (meetS t b st) ∧ Fr [20, 21, 22] σ τ) := by
  refine EvM.of mk_X10_meets (Nat.le_of_ble_eq_true rfl) ?_
  refine wpW K_X10_meets [2] 10 ?_
  refine loopI (α := Sto) 2 (fun q a => [some (.ref 20), some (.int (nI t)), some (.int b), some (.int (nI q))]) (fun a => a) (fun q a => MI a (fo (meet1 t b) st q) ∧ Fr [20, 21, 22] σ a) 7 ?_ ?_ 0 σ (Nat.zero_le _) ⟨hm, Fr.rf⟩
  · intro q τ hq hII go
    obtain ⟨hmi, hfr⟩ := hII
    have estep : fo (meet1 t b) st (q + 1) = meet1 t b q (fo (meet1 t b) st q) := rfl
    generalize fo (meet1 t b) st q = s3 at *
    obtain ⟨m, Q, fr⟩ := s3
    obtain ⟨k1, k2, k3, k4, k5, k6⟩ := hmi
    simp only at k1 k2 k3 k4 k5 k6
    obtain ⟨a1, a2⟩ := andn_nI t ht m k2
    have a3 := bt_nI _ a2 q hq
    have a4 : (t &&& (127 - m)) / 2 ^ q % 2 = 1 ↔ t / 2 ^ q % 2 = 1 ∧ m / 2 ^ q % 2 = 0 := by rw [and_bit, andn_bit m k2 q hq]
    obtain ⟨o1, o2⟩ := or_nI m k2 q hq
    refine wpW K_X10_meets [2] 60 ?_
    refine ⟨fun h => ?_, fun _ => ⟨fun c => ?_, fun c => ⟨fun d => ?_, fun d => ?_⟩⟩⟩
    · rw [show (7 : Int32) = nI 7 from rfl, le_of_nI (by omega) (by omega)] at h; omega
    · rw [k1, a1, a3, show (1 : Int32) = nI 1 from rfl, eq_of_nI (by omega) (by omega), a4] at c
      refine go τ _ _ (by rw [← nI_1 q]; rfl) rfl ⟨?_, hfr⟩
      rw [estep, meet1, if_neg (fun z => c z.1)]
      exact ⟨k1, k2, k3, k4, k5, k6⟩
    · rw [k3, show (7 : Int32) = nI 7 from rfl, le_of_nI (by omega) (by omega)] at d
      refine go τ _ _ (by rw [← nI_1 q]; rfl) rfl ⟨?_, hfr⟩
      rw [estep, meet1, if_neg (fun z => by have z2 : Q.length < 7 := z.2; omega)]
      exact ⟨k1, k2, k3, k4, k5, k6⟩
    · rw [k1, a1, a3, show (1 : Int32) = nI 1 from rfl, eq_of_nI (by omega) (by omega), a4] at c
      rw [k3, show (7 : Int32) = nI 7 from rfl, le_of_nI (by omega) (by omega)] at d
      refine ⟨in7 hq, by show vp_in (gI τ 20 2) 7; rw [k3]; exact in7 (by omega), go _ _ _ (by rw [← nI_1 q]; rfl) rfl ⟨?_, (((Fr.sI hfr (by simp)).sA (by simp)).sA (by simp)).sI (by simp)⟩⟩
      rw [estep, meet1, if_pos ⟨c, by show Q.length < 7; omega⟩]
      refine ⟨?_, o2, ?_, ?_, ?_, ?_⟩
      · show gI τ 20 3 ||| (1 : Int32) <<< (nI q &&& 31) = _
        rw [k1, o1]
      · show gI τ 20 2 + 1 = _
        rw [k3, nI_1]
        show nI (Q.length + 1) = nI (Q ++ [q]).length
        rw [List.length_append]; rfl
      · show (Q ++ [q]).length ≤ 7
        rw [List.length_append]; simp; omega
      · show qIs (upd (gA τ 22) (gI τ 20 2).toNatClampNeg (nI q)) (Q ++ [q])
        rw [k3, nI_clamp (by omega)]
        exact qIs_push k5
      · show upd (gA τ 21) (nI q).toNatClampNeg b = upd fr q b
        rw [nI_clamp (by omega), k6]
  · intro τ hII
    refine wpW K_X10_meets [2] 60 ?_
    exact ⟨fun h => ⟨rfl, hII.1, hII.2⟩, fun h => absurd (by decide) h⟩
/-- the row of those who say it, from the last on -/
def trW (fr : Nat → Int32) : Nat → Int32 → (Nat → Int32) → (Nat → Int32)
  | 0, _, w => w
  | i + 1, a, w => if a < 0 then w else trW fr i (fr a.toNatClampNeg) (upd w i a)
def okI (x : Int32) : Prop := x < 0 ∨ ∃ q, q < 7 ∧ x = nI q
theorem ev_traces (k : Nat) (σ : Sto) (hfr : ∀ q, q < 7 → okI (gA σ 21 q)) (one s : Nat) (ho : one < 7) (hs : s ≤ 4) : EvM k M_X10_traces [.ref 20, .int (nI one), .int (nI s)] σ (fun v τ => v = some (.int (nI s)) ∧ gA τ 23 = trW (gA σ 21) s (nI one) (gA σ 23) ∧ Fr [23] σ τ) := by
  refine EvM.of mk_X10_traces (Nat.le_of_ble_eq_true rfl) ?_
  have L : WW M_X10_traces k (fun v τ => v = some (.int (nI s)) ∧ gA τ 23 = trW (gA σ 21) s (nI one) (gA σ 23) ∧ Fr [23] σ τ) 7 [some (.ref 20), some (.int (nI one)), some (.int (nI s)), some (.int (nI one)), some (.int (nI (s - 0) - 1))] [] (sA σ 23 (gA σ 23)) := by
    refine loopI (α := Int32 × (Nat → Int32)) 7 (fun t a => [some (.ref 20), some (.int (nI one)), some (.int (nI s)), some (.int a.1), some (.int (nI (s - t) - 1))]) (fun a => sA σ 23 a.2) (fun t a => okI a.1 ∧ trW (gA σ 21) (s - t) a.1 a.2 = trW (gA σ 21) s (nI one) (gA σ 23)) s ?_ ?_ 0 (nI one, gA σ 23) (Nat.zero_le _) ⟨Or.inr ⟨one, ho, rfl⟩, rfl⟩
    · rintro t ⟨a, w⟩ ht ⟨hok, hI⟩ go
      simp only at hok hI
      obtain ⟨i, hi⟩ : ∃ i, s - t = i + 1 := ⟨s - t - 1, by omega⟩
      have hnt : s - (t + 1) = i := by omega
      rw [hi, trW] at hI
      simp only [hi, nI_pred]
      refine wpW K_X10_traces [7] 40 ?_
      refine ⟨fun h => absurd h (nI_pos (by omega)), fun _ => ⟨fun c => ⟨rfl, ?_, fr_one⟩, fun c => ?_⟩⟩
      · rw [if_pos c] at hI
        show gA (sA σ 23 w) 23 = _
        rw [gA_eq, ← hI]
      · rw [if_neg c] at hI
        obtain ⟨q, hq, rfl⟩ : ∃ q, q < 7 ∧ a = nI q := hok.elim (fun z => absurd z c) id
        have cq : (nI q).toNatClampNeg = q := nI_clamp (by omega)
        rw [cq] at hI
        refine ⟨inN (n := 4) (by omega) (by omega), in7 hq, ?_⟩
        rw [nI_clamp (by omega), cq, show (20 : Nat) + 3 = 23 from rfl, show (20 : Nat) + 1 = 21 from rfl, gA_eq, sA_sA, gA_ne (by decide)]
        refine go (gA σ 21 q, upd w i (nI q)) _ _ ?_ rfl ⟨hfr q hq, by rw [hnt]; exact hI⟩
        rw [hnt, ← dn_lit]; rfl
    · rintro ⟨a, w⟩ ⟨hok, hI⟩
      simp only at hok hI
      rw [Nat.sub_self, trW] at hI
      simp only [Nat.sub_self]
      refine wpW K_X10_traces [7] 40 ?_
      refine ⟨fun h => ⟨rfl, ?_, fr_one⟩, fun h => absurd (by decide) h⟩
      show gA (sA σ 23 w) 23 = _
      rw [gA_eq, hI]
  rw [sA_id, Nat.sub_zero] at L
  exact wpW K_X10_traces [7] 20 L
theorem ev_sayer (k : Nat) (σ : Sto) (i : Nat) (hi : i < 4) : EvM k M_X10_sayer [.ref 20, .int (nI i)] σ (fun v τ => τ = σ ∧ v = some (.int (gA σ 23 i))) := by
  refine EvM.of mk_X10_sayer (Nat.le_of_ble_eq_true rfl) ?_
  refine wpW K_X10_sayer [] 20 ?_
  refine ⟨fun h => absurd h (nI_pos (by omega)), fun _ => ⟨fun h => ?_, fun _ => ⟨inN (n := 4) hi (by omega), rfl, ?_⟩⟩⟩
  · rw [show (4 : Int32) = nI 4 from rfl, le_of_nI (by omega) (by omega)] at h; omega
  · rw [nI_clamp (by omega)]
