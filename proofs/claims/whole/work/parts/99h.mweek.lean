/-! the model's call: week; the acts are read -/
def cs60 (X : Nat × (Nat → Int32)) : Nat → Int32 := fun q => if q < 60 then X.2 q else -1
theorem cs60_in {X : Nat × (Nat → Int32)} (hx : xEnd X) {q : Nat} (h : ¬ cs60 X q = -1) : q < min X.1 60 ∧ cs60 X q = X.2 q := by
  unfold cs60 at h ⊢
  by_cases c : q < 60
  · rw [if_pos c] at h ⊢
    have : q < X.1 := Decidable.byContradiction (fun z => h (hx q (by omega)))
    exact ⟨by omega, rfl⟩
  · rw [if_neg c] at h
    exact absurd rfl h
theorem cs60_lt {X : Nat × (Nat → Int32)} {q : Nat} (h : q < 60) : cs60 X q = X.2 q := if_pos h
theorem dg_in60 {X : Nat × (Nat → Int32)} (hx : xEnd X) {q : Nat} (h : isDg (cs60 X q) = true) : q < min X.1 60 ∧ isDg (X.2 q) = true := by
  obtain ⟨a, b⟩ := cs60_in hx (q := q) (fun z => by rw [z] at h; exact absurd h (by decide))
  rw [b] at h
  exact ⟨a, h⟩
/-- j signs from p on were digits, or e was none -/
def LnT (cs : Nat → Int32) (t p j : Nat) (τ : Sto) : Prop := (PR τ 55 t 60 cs (p + j) (-1) ∧ ∀ q, p ≤ q → q < p + j → isDg (cs q) = true) ∨ ∃ e, p ≤ e ∧ e < p + j ∧ PR τ 55 t 60 cs e (nI e) ∧ (∀ q, p ≤ q → q < e → isDg (cs q) = true) ∧ isDg (cs e) = false
theorem LnT.go {cs : Nat → Int32} {t p j : Nat} {τ υ : Sto} (h : LnT cs t p j τ) (f : FM [64] [] τ υ) : LnT cs t p j υ := by
  rcases h with ⟨h1, h2⟩ | ⟨e, e1, e2, e3, e4⟩
  · exact Or.inl ⟨h1.go f (by decide) (by decide) ((f.i 11 (by decide)).trans h1.at) ((f.i 12 (by decide)).trans h1.wr) h1.p80, h2⟩
  · exact Or.inr ⟨e, e1, e2, e3.go f (by decide) (by decide) ((f.i 11 (by decide)).trans e3.at) ((f.i 12 (by decide)).trans e3.wr) e3.p80, e4⟩
theorem ev_oneT (k : Nat) {cs : Nat → Int32} {t p j : Nat} {τ : Sto} (h : LnT cs t p j τ) : EvM (k + 2) M_X12_oneOf [.ref 52, .int 48, .int 10] τ (fun v υ => ∃ x, v = some (.int x) ∧ ((∀ q, p ≤ q → q < p + (j + 1) → isDg (cs q) = true) → x = digS (cs (p + j))) ∧ LnT cs t p (j + 1) υ ∧ FM [] jP τ υ) := by
  rcases h with ⟨h1, h2⟩ | ⟨e, e1, e2, e3, e4, e5⟩
  · refine (ev_oneOf k τ h1).post ?_
    rintro v υ ⟨rfl, hP, f⟩
    refine ⟨_, rfl, fun _ => by rw [if_pos rfl], ?_, f⟩
    by_cases d : isDg (cs (p + j)) = true
    · rw [if_pos ⟨rfl, d⟩, if_neg (fun z => z.2 d)] at hP
      refine Or.inl ⟨hP, fun q a b => ?_⟩
      by_cases c : q = p + j
      · rw [c]; exact d
      · exact h2 q a (by omega)
    · rw [if_neg (fun z => d z.2), if_pos ⟨rfl, d⟩] at hP
      exact Or.inr ⟨p + j, by omega, by omega, hP, h2, by simpa using d⟩
  · have hne := nI_nm1 (e := e) (by have := e3.p80; omega)
    refine (ev_oneOf k τ e3).post ?_
    rintro v υ ⟨rfl, hP, f⟩
    rw [if_neg (fun z => hne z.1), if_neg (fun z => hne z.1)] at hP
    exact ⟨_, rfl, fun hd => by have := hd e e1 (by omega); rw [e5] at this; exact absurd this (by decide), Or.inr ⟨e, e1, by omega, hP, e4, e5⟩, f⟩
theorem wk_dig {c : Nat → Int32} : ∀ d p m, (∀ q, p ≤ q → q < p + d → isDg (c q) = true) → d ≤ m → wkS c m p d = wkS c (m - d) (p + d) 0 := by
  intro d
  induction d with
  | zero => intro p m _ _; rfl
  | succ d ih =>
    intro p m h hm
    obtain ⟨n, rfl⟩ : ∃ n, m = n + 1 := ⟨m - 1, by omega⟩
    rw [wkS, if_pos (by omega), if_pos (h p (Nat.le_refl _) (by omega)), Nat.add_sub_cancel, ih (p + 1) n (fun q a b => h q (by omega) (by omega)) (by omega)]
    rw [show n + 1 - (d + 1) = n - d by omega, show p + (d + 1) = p + 1 + d by omega]
theorem wk_bad {c : Nat → Int32} {e : Nat} : ∀ d p m, (∀ q, p ≤ q → q < e → isDg (c q) = true) → p ≤ e → e < p + d → e < p + m → isDg (c e) = false → (wkS c m p d).1 = some e := by
  intro d
  induction d with
  | zero => intro p m _ h1 h2; omega
  | succ d ih =>
    intro p m h h1 h2 h3 h4
    obtain ⟨n, rfl⟩ : ∃ n, m = n + 1 := ⟨m - 1, by omega⟩
    rw [wkS, if_pos (by omega)]
    by_cases q : p = e
    · subst q; rw [if_neg (by rw [h4]; decide)]
    · rw [if_pos (h p (Nat.le_refl _) (by omega)), Nat.add_sub_cancel]
      exact ih (p + 1) n (fun q a b => h q (by omega) b) (by omega) (by omega) (by omega) h4
theorem wk_end {c : Nat → Int32} : ∀ m d p, (∀ q, p ≤ q → q < p + m → isDg (c q) = true) → m ≤ d → wkS c m p d = (none, d - m) := by
  intro m
  induction m with
  | zero => intro d p _ _; rfl
  | succ m ih =>
    intro d p h hd
    rw [wkS, if_pos (by omega), if_pos (h p (Nat.le_refl _) (by omega)), ih (d - 1) (p + 1) (fun q a b => h q (by omega) (by omega)) (by omega)]
    congr 1
    omega
theorem week_1 {t e d : Nat} {c : Nat → Int32} (h : wkS c (min t 60) 0 0 = (some e, d)) : weekW t c = some e := by unfold weekW; rw [h]
theorem week_2 {t d : Nat} {c : Nat → Int32} (h : wkS c (min t 60) 0 0 = (none, d)) (hn : ¬ (d = 0 ∧ t ≤ 60)) : weekW t c = some (min t 60) := by
  unfold weekW; rw [h]
  simp only
  rw [if_neg hn]
theorem week_3 {t : Nat} {c : Nat → Int32} (h : wkS c (min t 60) 0 0 = (none, 0)) (hn : t ≤ 60) : weekW t c = none := by
  unfold weekW; rw [h]
  show (if (0 : Nat) = 0 ∧ t ≤ 60 then none else some (min t 60)) = none
  rw [if_pos ⟨rfl, hn⟩]
def posW (c : Nat → Int32) : Nat → Nat
  | 0 => 0
  | i + 1 => posW c i + 1 + adN (c (posW c i))
def actB (c : Nat → Int32) (p : Nat) : Int32 := if adN (c p) = 3 then 10 * digS (c (p + 2)) + digS (c (p + 3)) else digS (c (p + 2))
def AW (c : Nat → Int32) (j : Nat) (τ : Sto) : Prop := ¬ adN (c (posW c j)) = 0 ∧ gA τ 64 (3 * j) = c (posW c j) ∧ gA τ 64 (3 * j + 1) = digS (c (posW c j + 1)) ∧ (2 ≤ adN (c (posW c j)) → gA τ 64 (3 * j + 2) = actB c (posW c j))
/-- the loop's head: i acts were read -/
def WH (A : AS) (σ : Sto) (i : Nat) (τ : Sto) : Prop := FM [64] jT σ τ ∧ PR τ 55 A.X.1 60 (cs60 A.X) (posW A.X.2 i) (-1) ∧ gI τ 52 4 = 0 ∧ posW A.X.2 i ≤ min A.X.1 60 ∧ wkS A.X.2 (min A.X.1 60) 0 0 = wkS A.X.2 (min A.X.1 60 - posW A.X.2 i) (posW A.X.2 i) 0 ∧ ∀ j, j < i → AW A.X.2 j τ ∧ posW A.X.2 j < A.X.1
theorem ad_nn (c : Int32) : adN c = 0 ↔ ¬ c = 110 ∧ ¬ c = 115 ∧ ¬ c = 103 ∧ ¬ c = 109 ∧ ¬ c = 99 := by
  unfold adN
  by_cases h1 : c = 99
  · rw [if_pos h1]; exact ⟨fun z => by omega, fun z => absurd h1 z.2.2.2.2⟩
  by_cases h2 : c = 103
  · rw [if_neg h1, if_pos h2]; exact ⟨fun z => by omega, fun z => absurd h2 z.2.2.1⟩
  by_cases h3 : c = 109
  · rw [if_neg h1, if_neg h2, if_pos h3]; exact ⟨fun z => by omega, fun z => absurd h3 z.2.2.2.1⟩
  by_cases h4 : c = 110
  · rw [if_neg h1, if_neg h2, if_neg h3, if_pos h4]; exact ⟨fun z => by omega, fun z => absurd h4 z.1⟩
  by_cases h5 : c = 115
  · rw [if_neg h1, if_neg h2, if_neg h3, if_neg h4, if_pos h5]; exact ⟨fun z => by omega, fun z => absurd h5 z.2.1⟩
  · rw [if_neg h1, if_neg h2, if_neg h3, if_neg h4, if_neg h5]; exact ⟨fun _ => ⟨h4, h5, h2, h3, h1⟩, fun _ => rfl⟩
theorem pos_ge (c : Nat → Int32) : ∀ i, (∀ j, j < i → ¬ adN (c (posW c j)) = 0) → 2 * i ≤ posW c i := by
  intro i
  induction i with
  | zero => intro _; exact Nat.zero_le _
  | succ i ih =>
    intro h
    have := ih (fun j hj => h j (by omega))
    have h2 := h i (by omega)
    rw [posW]
    omega
theorem WH.i {A : AS} {σ : Sto} {i : Nat} {τ : Sto} (h : WH A σ i τ) : i ≤ 30 := by
  have := pos_ge A.X.2 i (fun j hj => (h.2.2.2.2.2 j hj).1.1)
  have := h.2.2.2.1
  omega
/-- what comes of an act that is read -/
def WN (A : AS) (σ : Sto) (i : Nat) (υ : Sto) : Prop := WH A σ (i + 1) υ ∨ (FM [64] jT σ υ ∧ gI υ 52 4 = 0 ∧ ∃ e p, PR υ 55 A.X.1 60 (cs60 A.X) p (nI e) ∧ e ≤ 80 ∧ weekW A.X.1 A.X.2 = some e)
/-- digits that were due -/
theorem wn_of {A : AS} {σ : Sto} {i : Nat} {τ υ : Sto} (hxe : xEnd A.X) (h : WH A σ i τ) (hlt : posW A.X.2 i < A.X.1) (hcp : ¬ adN (cs60 A.X (posW A.X.2 i)) = 0) (fu : FM [64] jT σ υ) (h4 : gI υ 52 4 = 0) (hL : LnT (cs60 A.X) A.X.1 (posW A.X.2 i + 1) (adN (cs60 A.X (posW A.X.2 i))) υ) (hk : ∀ j, j < i → AW A.X.2 j υ) (hn : (∀ q, posW A.X.2 i + 1 ≤ q → q < posW A.X.2 i + 1 + adN (cs60 A.X (posW A.X.2 i)) → isDg (cs60 A.X q) = true) → gA υ 64 (3 * i) = cs60 A.X (posW A.X.2 i) ∧ gA υ 64 (3 * i + 1) = digS (cs60 A.X (posW A.X.2 i + 1)) ∧ (adN (cs60 A.X (posW A.X.2 i)) = 2 → gA υ 64 (3 * i + 2) = digS (cs60 A.X (posW A.X.2 i + 2))) ∧ (adN (cs60 A.X (posW A.X.2 i)) = 3 → gA υ 64 (3 * i + 2) = 10 * digS (cs60 A.X (posW A.X.2 i + 2)) + digS (cs60 A.X (posW A.X.2 i + 3)))) : WN A σ i υ := by
  obtain ⟨-, -, -, hM, hW, hA⟩ := h
  obtain ⟨p1, p2⟩ := cs60_in hxe (q := posW A.X.2 i) (fun z => hcp (by rw [z]; decide))
  have had := ad_le (A.X.2 (posW A.X.2 i))
  rw [p2] at hcp hL hn
  have hs : posW A.X.2 (i + 1) = posW A.X.2 i + 1 + adN (A.X.2 (posW A.X.2 i)) := rfl
  have hwp : wkS A.X.2 (min A.X.1 60) 0 0 = wkS A.X.2 (min A.X.1 60 - posW A.X.2 i - 1) (posW A.X.2 i + 1) (adN (A.X.2 (posW A.X.2 i))) := by
    rw [hW, show min A.X.1 60 - posW A.X.2 i = (min A.X.1 60 - posW A.X.2 i - 1) + 1 by omega, wkS, if_neg (by omega), if_neg hcp, Nat.add_sub_cancel]
  rcases hL with ⟨hP, hd⟩ | ⟨e, e1, e2, hP, hd, hnd⟩
  · obtain ⟨n1, n2, n3, n4⟩ := hn hd
    have hdl : posW A.X.2 i + adN (A.X.2 (posW A.X.2 i)) < min A.X.1 60 := (dg_in60 hxe (hd (posW A.X.2 i + adN (A.X.2 (posW A.X.2 i))) (by omega) (by omega))).1
    refine Or.inl ⟨fu, hP, h4, by omega, ?_, fun j hj => ?_⟩
    · rw [hwp, wk_dig _ _ _ (fun q a b => (dg_in60 hxe (hd q a b)).2) (by omega), hs]
      congr 1
      omega
    · by_cases c : j = i
      · subst c
        refine ⟨⟨hcp, n1, ?_, fun h2 => ?_⟩, hlt⟩
        · rw [n2, cs60_lt (by omega)]
        · unfold actB
          by_cases c3 : adN (A.X.2 (posW A.X.2 j)) = 3
          · rw [if_pos c3, n4 c3, cs60_lt (by omega), cs60_lt (by omega)]
          · rw [if_neg c3, n3 (by omega), cs60_lt (by omega)]
      · exact ⟨hk j (by omega), (hA j (by omega)).2⟩
  · refine Or.inr ⟨fu, h4, e, e, hP, by have := hP.p80; omega, ?_⟩
    by_cases hem : e < min A.X.1 60
    · rw [cs60_lt (by omega)] at hnd
      have := wk_bad (c := A.X.2) (e := e) (adN (A.X.2 (posW A.X.2 i))) (posW A.X.2 i + 1) (min A.X.1 60 - posW A.X.2 i - 1) (fun q a b => (dg_in60 hxe (hd q a b)).2) e1 e2 (by omega) hnd
      rw [← hwp] at this
      exact week_1 (d := (wkS A.X.2 (min A.X.1 60) 0 0).2) (by rw [← this])
    · have hee : e = min A.X.1 60 := by
        by_cases c : e = posW A.X.2 i + 1
        · omega
        · have := (dg_in60 hxe (hd (e - 1) (by omega) (by omega))).1
          omega
      have := wk_end (c := A.X.2) (min A.X.1 60 - posW A.X.2 i - 1) (adN (A.X.2 (posW A.X.2 i))) (posW A.X.2 i + 1) (fun q a b => (dg_in60 hxe (hd q a (by omega))).2) (by omega)
      rw [← hwp] at this
      rw [hee]
      exact week_2 this (by omega)
