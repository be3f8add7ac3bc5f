/-! the model's call: people -/
theorem first_is {P : Nat → Bool} : ∀ m p e, p ≤ e → e < p + m → (∀ q, p ≤ q → q < e → P q = true) → P e = false → firstS P m p = some e := by
  intro m
  induction m with
  | zero => intro p e h1 h2; omega
  | succ m ih =>
    intro p e h1 h2 h3 h4
    rw [firstS]
    by_cases c : p = e
    · subst c; rw [if_neg (by rw [h4]; decide)]
    · rw [if_pos (h3 p (Nat.le_refl _) (by omega))]
      exact ih (p + 1) e (by omega) (by omega) (fun q a b => h3 q (by omega) b) h4
theorem first_all {P : Nat → Bool} : ∀ m p, (∀ q, p ≤ q → q < p + m → P q = true) → firstS P m p = none := by
  intro m
  induction m with
  | zero => intro p _; rfl
  | succ m ih =>
    intro p h
    rw [firstS, if_pos (h p (Nat.le_refl _) (by omega))]
    exact ih (p + 1) (fun q a b => h q (by omega) (by omega))
theorem ppl_bad {n t e : Nat} {c : Nat → Int32} (h1 : ∀ q, q < e → stands n c q = true) (h2 : e ≤ min t 34) (h3 : e < min t 34 → stands n c e = false) (h4 : e = min t 34 → 34 < t ∨ ¬ (t = 0 ∨ t % 5 = 4)) : pplW n t c = some e := by
  unfold pplW
  by_cases he : e < min t 34
  · rw [first_is (min t 34) 0 e (Nat.zero_le _) (by omega) (fun q _ hq => h1 q hq) (h3 he)]
  · have e1 : e = min t 34 := by omega
    rw [first_all (min t 34) 0 (fun q _ hq => h1 q (by omega))]
    simp only
    have h4 := h4 e1
    by_cases c34 : 34 < t
    · rw [if_pos c34]; congr 1; omega
    · rw [if_neg c34, if_neg (h4.resolve_left c34)]; congr 1; omega
theorem ppl_good {n t : Nat} {c : Nat → Int32} (h1 : ∀ q, q < t → stands n c q = true) (h2 : t ≤ 34) (h3 : t % 5 = 4) : pplW n t c = none := by
  unfold pplW
  rw [first_all (min t 34) 0 (fun q _ hq => h1 q (by omega))]
  simp only
  rw [if_neg (by omega), if_pos (Or.inr h3)]
def cs34 (X : Nat × (Nat → Int32)) : Nat → Int32 := fun q => if q < 34 then X.2 q else -1
theorem cs34_in {X : Nat × (Nat → Int32)} (hx : xEnd X) {q : Nat} (h : ¬ cs34 X q = -1) : q < min X.1 34 ∧ cs34 X q = X.2 q := by
  unfold cs34 at h ⊢
  by_cases c : q < 34
  · rw [if_pos c] at h ⊢
    have : q < X.1 := Decidable.byContradiction (fun z => h (hx q (by omega)))
    exact ⟨by omega, rfl⟩
  · rw [if_neg c] at h
    exact absurd rfl h
theorem cs34_lt {X : Nat × (Nat → Int32)} {q : Nat} (h : q < 34) : cs34 X q = X.2 q := if_pos h
/-- j signs of a line from p on were read -/
def LnS (cs : Nat → Int32) (t p j : Nat) (τ : Sto) : Prop := (PR τ 55 t 34 cs (p + j) (-1) ∧ ∀ q, p ≤ q → q < p + j → isDg (cs q) = true) ∨ ∃ e, p ≤ e ∧ e < p + j ∧ PR τ 55 t 34 cs e (nI e) ∧ (∀ q, p ≤ q → q < e → isDg (cs q) = true) ∧ isDg (cs e) = false
theorem LnS.go {cs : Nat → Int32} {t p j : Nat} {τ υ : Sto} (h : LnS cs t p j τ) (f : FM [57] [] τ υ) : LnS cs t p j υ := by
  rcases h with ⟨h1, h2⟩ | ⟨e, e1, e2, e3, e4⟩
  · exact Or.inl ⟨h1.go f (by decide) (by decide) ((f.i 11 (by decide)).trans h1.at) ((f.i 12 (by decide)).trans h1.wr) h1.p80, h2⟩
  · exact Or.inr ⟨e, e1, e2, e3.go f (by decide) (by decide) ((f.i 11 (by decide)).trans e3.at) ((f.i 12 (by decide)).trans e3.wr) e3.p80, e4⟩
theorem nI_nm1 {e : Nat} (h : e ≤ 1024) : ¬ nI e = -1 := fun z => nI_pos (n := e) (by omega) (by rw [z]; decide)
theorem ev_one4 (k : Nat) {cs : Nat → Int32} {t p j : Nat} {τ : Sto} (h : LnS cs t p j τ) : EvM (k + 2) M_X12_oneOf [.ref 52, .int 48, .int 10] τ (fun v υ => ∃ x, v = some (.int x) ∧ ((∀ q, p ≤ q → q < p + (j + 1) → isDg (cs q) = true) → x = digS (cs (p + j))) ∧ LnS cs t p (j + 1) υ ∧ FM [] jP τ υ) := by
  rcases h with ⟨h1, h2⟩ | ⟨e, e1, e2, e3, e4, e5⟩
  · refine (ev_oneOf k τ h1).post ?_
    rintro v υ ⟨rfl, hP, f⟩
    refine ⟨_, rfl, fun _ => by rw [if_pos rfl], ?_, f⟩
    by_cases d : isDg (cs (p + j)) = true
    · rw [if_pos ⟨rfl, d⟩, if_neg (fun z => z.2 d)] at hP
      refine Or.inl ⟨hP, fun q a b => ?_⟩
      by_cases c : q = p + j
      · rw [c]; exact d
      · exact h2 q a (by omega)
    · rw [if_neg (fun z => d z.2), if_pos ⟨rfl, d⟩] at hP
      exact Or.inr ⟨p + j, by omega, by omega, hP, h2, by simpa using d⟩
  · have hne := nI_nm1 (e := e) (by have := e3.p80; omega)
    refine (ev_oneOf k τ e3).post ?_
    rintro v υ ⟨rfl, hP, f⟩
    rw [if_neg (fun z => hne z.1), if_neg (fun z => hne z.1)] at hP
    exact ⟨_, rfl, fun hd => by have := hd e e1 (by omega); rw [e5] at this; exact absurd this (by decide), Or.inr ⟨e, e1, by omega, hP, e4, e5⟩, f⟩
theorem stand_dg {n i q : Nat} {X : Nat × (Nat → Int32)} (hx : xEnd X) (hn : n + i < 7) (h1 : 5 * i ≤ q) (h2 : q < 5 * i + 4) (hd : isDg (cs34 X q) = true) : stands n X.2 q = true ∧ q < min X.1 34 := by
  have hne : ¬ cs34 X q = -1 := fun z => by rw [z] at hd; exact absurd hd (by decide)
  obtain ⟨c1, c2⟩ := cs34_in hx hne
  rw [c2] at hd
  refine ⟨?_, c1⟩
  unfold stands
  rw [if_neg (by omega), decide_eq_true (show n + q / 5 < 7 by omega), hd]
  rfl
def jPp : List Nat := [4, 8, 9, 10, 11, 12, 17]
/-- the loop's head -/
def PH (A : AS) (σ : Sto) (i : Nat) (τ : Sto) : Prop := FM [57] jT σ τ ∧ PR τ 55 A.X.1 34 (cs34 A.X) (5 * i) (-1) ∧ gI τ 52 4 = 0 ∧ fN A.F + i ≤ 7 ∧ (∀ q, q < 5 * i → stands (fN A.F) A.X.2 q = true) ∧ 5 * i ≤ min A.X.1 34 ∧ ∀ j, j < i → gA τ 57 (3 * j) = digS (A.X.2 (5 * j)) ∧ gA τ 57 (3 * j + 1) = digS (A.X.2 (5 * j + 1)) ∧ gA τ 57 (3 * j + 2) = 10 * digS (A.X.2 (5 * j + 2)) + digS (A.X.2 (5 * j + 3))
theorem mF_add {n : Nat} (hn : n < 7) (vo g : Nat → Int32) (a b c : Int32) : mG (n + 1) (r7 (upd vo n b)) (upd (upd (upd (upd g n a) (7 + n) c) (14 + n) (nI n)) (21 + n) 0) = addF (mG n (r7 vo) g) a b c := by
  rw [mG_Ag _ _ _ hn, mG_Ho _ _ _ hn, mG_Pu _ _ _ hn, mG_Pl _ _ _ hn, r7_upd hn]
  rfl
