/-! orders of saying back -/
/-- most, the best row, the row of turns, what was tried -/
abbrev OT : Type := Int32 × (Nat → Int32) × (Nat → Int32) × (Nat → Int64)
def cameF (F : FS) (w : Nat → Nat) (m came : Nat) : FS := fo (fun i G => if came / 2 ^ i % 2 = 1 then wAg (wHo G (upd (fHo G) (w i) (nI (w i)))) (upd (fAg G) (w i) 0) else G) F m
theorem came_n (F : FS) (w : Nat → Nat) (came : Nat) : ∀ m, fN (cameF F w m came) = fN F := by
  intro m
  induction m with
  | zero => rfl
  | succ m ih =>
    show fN (if came / 2 ^ m % 2 = 1 then _ else _) = _
    split
    · exact ih
    · exact ih
theorem came_pl (F : FS) (w : Nat → Nat) (came : Nat) : ∀ m, fPl (cameF F w m came) = fPl F ∧ fVo (cameF F w m came) = fVo F ∧ fPu (cameF F w m came) = fPu F ∧ fDy (cameF F w m came) = fDy F ∧ fSd (cameF F w m came) = fSd F := by
  intro m
  induction m with
  | zero => exact ⟨rfl, rfl, rfl, rfl, rfl⟩
  | succ m ih =>
    have e : cameF F w (m + 1) came = if came / 2 ^ m % 2 = 1 then wAg (wHo (cameF F w m came) (upd (fHo (cameF F w m came)) (w m) (nI (w m)))) (upd (fAg (cameF F w m came)) (w m) 0) else cameF F w m came := rfl
    rw [e]
    split
    · exact ih
    · exact ih
theorem came_ho (F : FS) (w : Nat → Nat) (came : Nat) (j : Nat) : ∀ m, (∀ i, i < m → ∀ i', i' < m → w i = w i' → i = i') → fHo (cameF F w m came) j = (if ∃ i, i < m ∧ came / 2 ^ i % 2 = 1 ∧ w i = j then nI j else fHo F j) ∧ fAg (cameF F w m came) j = (if ∃ i, i < m ∧ came / 2 ^ i % 2 = 1 ∧ w i = j then 0 else fAg F j) := by
  intro m
  induction m with
  | zero =>
    intro _
    have : ¬ ∃ i, i < 0 ∧ came / 2 ^ i % 2 = 1 ∧ w i = j := fun ⟨i, h, _⟩ => by omega
    rw [if_neg this, if_neg this]
    exact ⟨rfl, rfl⟩
  | succ m ih =>
    intro hinj
    have ih' := ih (fun i hi i' hi' => hinj i (by omega) i' (by omega))
    have e : cameF F w (m + 1) came = if came / 2 ^ m % 2 = 1 then wAg (wHo (cameF F w m came) (upd (fHo (cameF F w m came)) (w m) (nI (w m)))) (upd (fAg (cameF F w m came)) (w m) 0) else cameF F w m came := rfl
    rw [e]
    by_cases hb : came / 2 ^ m % 2 = 1
    · rw [if_pos hb]
      show upd (fHo (cameF F w m came)) (w m) (nI (w m)) j = _ ∧ upd (fAg (cameF F w m came)) (w m) 0 j = _
      by_cases hj : j = w m
      · subst hj
        have : ∃ i, i < m + 1 ∧ came / 2 ^ i % 2 = 1 ∧ w i = w m := ⟨m, by omega, hb, rfl⟩
        rw [if_pos this, if_pos this, pk_us, pk_us]
        exact ⟨rfl, rfl⟩
      · rw [pk_un hj, pk_un hj, ih'.1, ih'.2]
        have : (∃ i, i < m + 1 ∧ came / 2 ^ i % 2 = 1 ∧ w i = j) ↔ ∃ i, i < m ∧ came / 2 ^ i % 2 = 1 ∧ w i = j := by
          constructor
          · rintro ⟨i, h1, h2, h3⟩
            refine ⟨i, ?_, h2, h3⟩
            have : i ≠ m := fun e => hj (by rw [← h3, e])
            omega
          · rintro ⟨i, h1, h2, h3⟩
            exact ⟨i, by omega, h2, h3⟩
        simp only [this]
        exact ⟨trivial, trivial⟩
    · rw [if_neg hb, ih'.1, ih'.2]
      have : (∃ i, i < m + 1 ∧ came / 2 ^ i % 2 = 1 ∧ w i = j) ↔ ∃ i, i < m ∧ came / 2 ^ i % 2 = 1 ∧ w i = j := by
        constructor
        · rintro ⟨i, h1, h2, h3⟩
          refine ⟨i, ?_, h2, h3⟩
          have : i ≠ m := fun e => hb (by rw [← e]; exact h2)
          omega
        · rintro ⟨i, h1, h2, h3⟩
          exact ⟨i, by omega, h2, h3⟩
      simp only [this]
      exact ⟨trivial, trivial⟩
def bitL (x : Int64) (c : Nat) : Bool := decide ((x >>> ((nI c).toInt64 &&& 63)) &&& 1 = 1)
def setL (x : Int64) (c : Nat) : Int64 := x ||| (1 : Int64) <<< ((nI c).toInt64 &&& 63)
/-- rem turns are left -/
def ttS (ev : (Nat → Int32) → Int32) (F : FS) (w : Nat → Nat) (m : Nat) (hf : Int32) : Nat → Nat → Nat → OT → OT
  | 0, had, came, T => if hf + bcS (nI came) + nI m - nI m ≤ T.1 ∨ bitL (T.2.2.2 had) came = true then T else (hf + bcS (nI came), (fun i => if i < 6 then T.2.2.1 i else T.2.1 i), T.2.2.1, vp_updL T.2.2.2 had (setL (T.2.2.2 had) came))
  | r + 1, had, came, T => if hf + bcS (nI came) + nI m - nI (m - (r + 1)) ≤ T.1 ∨ bitL (T.2.2.2 had) came = true then T else
      fo (fun i T => if had / 2 ^ i % 2 = 0 then ttS ev F w m hf r (had ||| 2 ^ i) (if canS ev (cameF F w m came) (w i) (w i) then came ||| 2 ^ i else came) (T.1, T.2.1, upd T.2.2.1 (m - (r + 1)) (nI (w i)), T.2.2.2) else T) (T.1, T.2.1, T.2.2.1, vp_updL T.2.2.2 had (setL (T.2.2.2 had) came)) m
theorem FS_ext {F G : FS} (h1 : fN F = fN G) (h2 : fPl F = fPl G) (h3 : fVo F = fVo G) (h4 : fPu F = fPu G) (h5 : fHo F = fHo G) (h6 : fAg F = fAg G) (h7 : fDy F = fDy G) (h8 : fSd F = fSd G) : F = G := by
  obtain ⟨a1, a2, a3, a4, a5, a6, a7, a8⟩ := F
  obtain ⟨b1, b2, b3, b4, b5, b6, b7, b8⟩ := G
  simp only [fN, fPl, fVo, fPu, fHo, fAg, fDy, fSd] at *
  subst h1; subst h2; subst h3; subst h4; subst h5; subst h6; subst h7; subst h8
  rfl
theorem or_bit (a i j : Nat) : (a ||| 2 ^ i) / 2 ^ j % 2 = 1 ↔ a / 2 ^ j % 2 = 1 ∨ i = j := by
  have h := Nat.testBit_or a (2 ^ i) j
  rw [Nat.testBit_two_pow, Nat.testBit_eq_decide_div_mod_eq, Nat.testBit_eq_decide_div_mod_eq] at h
  constructor
  · intro c
    rw [decide_eq_true c] at h
    simpa using h.symm
  · intro c
    have : (decide (a / 2 ^ j % 2 = 1) || decide (i = j)) = true := by simpa using c
    rw [this] at h
    exact of_decide_eq_true h
theorem came_or {F : FS} {w : Nat → Nat} {m came i : Nat} (hinj : ∀ i, i < m → ∀ i', i' < m → w i = w i' → i = i') (hi : i < m) : cameF F w m (came ||| 2 ^ i) = wAg (wHo (cameF F w m came) (upd (fHo (cameF F w m came)) (w i) (nI (w i)))) (upd (fAg (cameF F w m came)) (w i) 0) := by
  have p1 := came_pl F w (came ||| 2 ^ i) m
  have p2 := came_pl F w came m
  have key : ∀ j, (∃ i', i' < m ∧ (came ||| 2 ^ i) / 2 ^ i' % 2 = 1 ∧ w i' = j) ↔ (j = w i ∨ ∃ i', i' < m ∧ came / 2 ^ i' % 2 = 1 ∧ w i' = j) := by
    intro j
    constructor
    · rintro ⟨i', h1, h2, h3⟩
      rcases (or_bit came i i').mp h2 with h | h
      · exact Or.inr ⟨i', h1, h, h3⟩
      · exact Or.inl (by rw [← h3, h])
    · rintro (h | ⟨i', h1, h2, h3⟩)
      · exact ⟨i, hi, (or_bit came i i).mpr (Or.inr rfl), h.symm⟩
      · exact ⟨i', h1, (or_bit came i i').mpr (Or.inl h2), h3⟩
  refine FS_ext ?_ ?_ ?_ ?_ ?_ ?_ ?_ ?_
  · show fN (cameF F w m (came ||| 2 ^ i)) = fN (cameF F w m came)
    rw [came_n, came_n]
  · show fPl (cameF F w m (came ||| 2 ^ i)) = fPl (cameF F w m came)
    rw [p1.1, p2.1]
  · show fVo (cameF F w m (came ||| 2 ^ i)) = fVo (cameF F w m came)
    rw [p1.2.1, p2.2.1]
  · show fPu (cameF F w m (came ||| 2 ^ i)) = fPu (cameF F w m came)
    rw [p1.2.2.1, p2.2.2.1]
  · funext j
    show fHo (cameF F w m (came ||| 2 ^ i)) j = upd (fHo (cameF F w m came)) (w i) (nI (w i)) j
    rw [(came_ho F w (came ||| 2 ^ i) j m hinj).1]
    by_cases hj : j = w i
    · subst hj
      rw [pk_us, if_pos ((key _).mpr (Or.inl rfl))]
    · rw [pk_un hj, (came_ho F w came j m hinj).1]
      by_cases hc : ∃ i', i' < m ∧ came / 2 ^ i' % 2 = 1 ∧ w i' = j
      · rw [if_pos hc, if_pos ((key j).mpr (Or.inr hc))]
      · rw [if_neg hc, if_neg (fun z => ((key j).mp z).elim hj hc)]
  · funext j
    show fAg (cameF F w m (came ||| 2 ^ i)) j = upd (fAg (cameF F w m came)) (w i) 0 j
    rw [(came_ho F w (came ||| 2 ^ i) j m hinj).2]
    by_cases hj : j = w i
    · subst hj
      rw [pk_us, if_pos ((key _).mpr (Or.inl rfl))]
    · rw [pk_un hj, (came_ho F w came j m hinj).2]
      by_cases hc : ∃ i', i' < m ∧ came / 2 ^ i' % 2 = 1 ∧ w i' = j
      · rw [if_pos hc, if_pos ((key j).mpr (Or.inr hc))]
      · rw [if_neg hc, if_neg (fun z => ((key j).mp z).elim hj hc)]
  · show fDy (cameF F w m (came ||| 2 ^ i)) = fDy (cameF F w m came)
    rw [p1.2.2.2.1, p2.2.2.2.1]
  · show fSd (cameF F w m (came ||| 2 ^ i)) = fSd (cameF F w m came)
    rw [p1.2.2.2.2, p2.2.2.2.2]
theorem came_ok {F : FS} {w : Nat → Nat} {m came : Nat} (hF : fsOK F) (hinj : ∀ i, i < m → ∀ i', i' < m → w i = w i' → i = i') : fsOK (cameF F w m came) := by
  refine ⟨by rw [came_n]; exact hF.1, fun j hj => ?_⟩
  rw [came_n] at hj
  rw [came_n, (came_ho F w came j m hinj).1]
  split
  · exact ⟨j, hj, rfl⟩
  · exact hF.2 j hj
