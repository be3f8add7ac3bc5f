/-! what stays so of a fen, whatever is done -/
def plB (f : Nat → Int32) : Prop := ∀ i, ∃ p, p < 10 ∧ f i = nI p
def puB (f : Nat → Int32) : Prop := ∀ i, ∃ p, p < 100 ∧ f i = nI p
theorem fOK.pl {F : FS} (h : fOK F) : plB (fPl F) := fun i => (h.2 i).1
theorem fOK.vo {F : FS} (h : fOK F) : plB (fVo F) := fun i => (h.2 i).2.1
theorem fOK.pu {F : FS} (h : fOK F) : puB (fPu F) := fun i => (h.2 i).2.2
theorem fOK.of {F : FS} (h1 : fsOK F) (h2 : plB (fPl F)) (h3 : plB (fVo F)) (h4 : puB (fPu F)) : fOK F := ⟨h1, fun i => ⟨h2 i, h3 i, h4 i⟩⟩
theorem pu_upd {f : Nat → Int32} (h : puB f) {k p : Nat} (hp : p < 100) : puB (upd f k (nI p)) := fun i => by
  rw [upd]
  split
  · exact ⟨p, hp, rfl⟩
  · exact h i
theorem pl_upd {f : Nat → Int32} (h : plB f) {k p : Nat} (hp : p < 10) : plB (upd f k (nI p)) := fun i => by
  rw [upd]
  split
  · exact ⟨p, hp, rfl⟩
  · exact h i
theorem sub_nI {a b : Nat} (h : b ≤ a) : nI a - nI b = nI (a - b) := by
  rw [show nI a = nI (a - b) + nI b by rw [add_nI, show a - b + b = a by omega]]
  exact Int32.add_sub_cancel _ _
theorem fok_say {F : FS} {q nm : Nat} (h : fOK F) (hq : q < fN F) : fOK (sayF F q nm) := fOK.of (fs_say h.1 hq) h.pl h.vo h.pu
theorem d1_n {ev : (Nat → Int32) → Int32} {sil : Int32} {i : Nat} {F : FS} : fN (d1st ev sil i F) = fN F := by unfold d1st; split <;> rfl
theorem d2_n {i : Nat} {F : FS} : fN (d2st i F) = fN F := by unfold d2st; split <;> rfl
theorem fok_d1 {ev : (Nat → Int32) → Int32} {sil : Int32} {i : Nat} {F : FS} (h : fOK F) (hi : i < fN F) : fOK (d1st ev sil i F) := by
  unfold d1st
  split
  · exact fok_say h hi
  · exact h
theorem fok_d2 {i : Nat} {F : FS} (h : fOK F) (hi : i < fN F) : fOK (d2st i F) := by
  unfold d2st
  split
  · next c =>
    obtain ⟨c1, c2, c3⟩ := c
    obtain ⟨h1, h2⟩ := fs_ho h.1 hi
    have hne : ¬ hoN F i = i := fun e => c1 (by rw [h2, e])
    obtain ⟨p, p1, p2⟩ := h.pu i
    obtain ⟨p', p1', p2'⟩ := h.pu (hoN F i)
    rw [p2, show (0 : Int32) = nI 0 from rfl, lt_of_nI (by omega) (by omega)] at c2
    rw [p2', show (99 : Int32) = nI 99 from rfl, lt_of_nI (by omega) (by omega)] at c3
    refine fOK.of h.1 h.pl h.vo ?_
    show puB (upd (upd (fPu F) i (fPu F i - 1)) (hoN F i) (upd (fPu F) i (fPu F i - 1) (hoN F i) + 1))
    have e1 : upd (fPu F) i (fPu F i - 1) (hoN F i) = nI p' := by rw [upd, if_neg hne, p2']
    rw [e1, p2, show (1 : Int32) = nI 1 from rfl, sub_nI (by omega), add_nI]
    exact pu_upd (pu_upd h.pu (by omega)) (by omega)
  · exact h
theorem fok_d3 {i : Nat} {F : FS} (h : fOK F) : fOK (d3st i F) := fOK.of h.1 h.pl h.vo h.pu
theorem fok_dy {F : FS} {v : Int32} (h : fOK F) : fOK (wDy F v) := fOK.of h.1 h.pl h.vo h.pu
theorem fok_D1 {ev : (Nat → Int32) → Int32} {sil : Int32} {F : FS} (h : fOK F) : ∀ n, n ≤ fN F → fOK (fo (d1st ev sil) F n) ∧ fN (fo (d1st ev sil) F n) = fN F := by
  intro n
  induction n with
  | zero => intro _; exact ⟨h, rfl⟩
  | succ n ih =>
    intro hn
    obtain ⟨i1, i2⟩ := ih (by omega)
    exact ⟨fok_d1 i1 (by omega), by rw [fo, d1_n, i2]⟩
theorem fok_D2 {F : FS} (h : fOK F) : ∀ n, n ≤ fN F → fOK (fo d2st F n) ∧ fN (fo d2st F n) = fN F := by
  intro n
  induction n with
  | zero => intro _; exact ⟨h, rfl⟩
  | succ n ih =>
    intro hn
    obtain ⟨i1, i2⟩ := ih (by omega)
    exact ⟨fok_d2 i1 (by omega), by rw [fo, d2_n, i2]⟩
theorem fok_D3 {F : FS} (h : fOK F) : ∀ n, fOK (fo d3st F n) ∧ fN (fo d3st F n) = fN F := by
  intro n
  induction n with
  | zero => exact ⟨h, rfl⟩
  | succ n ih => exact ⟨fok_d3 ih.1, by rw [fo]; exact ih.2⟩
theorem fok_day {ev : (Nat → Int32) → Int32} {sil : Int32} {F : FS} (h : fOK F) : fOK (dayS ev sil (fN F) F) ∧ fN (dayS ev sil (fN F) F) = fN F := by
  obtain ⟨a1, a2⟩ := fok_D1 (ev := ev) (sil := sil) h (fN F) (Nat.le_refl _)
  obtain ⟨b1, b2⟩ := fok_D2 a1 (fN F) (by omega)
  obtain ⟨c1, c2⟩ := fok_D3 b1 (fN F)
  exact ⟨fok_dy c1, by show fN (fo d3st _ _) = _; rw [c2, b2, a2]⟩
theorem fok_days {ev : (Nat → Int32) → Int32} {sil : Int32} {F : FS} (h : fOK F) : ∀ d, fOK (daysS ev sil (fN F) F d) ∧ fN (daysS ev sil (fN F) F d) = fN F := by
  intro d
  induction d with
  | zero => exact ⟨h, rfl⟩
  | succ d ih =>
    have := fok_day (ev := ev) (sil := sil) ih.1
    rw [ih.2] at this
    exact this
theorem fok_roll {ev : (Nat → Int32) → Int32} {F : FS} (h : fOK F) {q : Nat} (hq : q < fN F) : ∀ n, fOK (rollS ev F q n).2 ∧ fN (rollS ev F q n).2 = fN F := by
  intro n
  induction n with
  | zero => exact ⟨h, rfl⟩
  | succ n ih =>
    rw [rollS, fo, ← rollS]
    split
    · exact ⟨fok_say ih.1 (by rw [ih.2]; exact hq), ih.2⟩
    · exact ih
theorem fok_said {ev : (Nat → Int32) → Int32} {F : FS} (h : fOK F) (x y : Int32) : fOK (saidS ev F x y).2 := by
  unfold saidS
  split
  · next c =>
    rw [Bool.and_eq_true] at c
    split
    · exact h
    · split
      · exact fok_say h (in_of h.1.1 c.1).1
      · exact h
  · exact h
theorem fok_rcall {ev : (Nat → Int32) → Int32} {F : FS} (h : fOK F) (x : Int32) : fOK (rcallS ev F x).2 := by
  unfold rcallS
  split
  · next c => exact (fok_roll h (in_of h.1.1 c).1 (fN F)).1
  · exact h
theorem fok_move {F : FS} (h : fOK F) (x to : Int32) : fOK (moveS F x to).2 := by
  unfold moveS
  split
  · next c =>
    simp only [Bool.and_eq_true, Bool.not_eq_true', decide_eq_false_iff_not] at c
    split
    · exact h
    · obtain ⟨⟨c1, c2⟩, c3⟩ := c
      obtain ⟨p, p1, p2⟩ := nI_ex (m := 9) (x := to) (by omega) (by rw [Int32.lt_iff_toInt_lt] at c2; simpa using c2) (by rw [Int32.le_iff_toInt_le] at c3; simp at c3; omega)
      subst p2
      exact fOK.of h.1 (pl_upd h.pl (by omega)) h.vo h.pu
  · exact h
theorem fok_sign {F : FS} (h : fOK F) (x n : Int32) : fOK (signS F x n).2 := by
  unfold signS
  split
  · next c =>
    simp only [Bool.and_eq_true, Bool.not_eq_true', decide_eq_false_iff_not] at c
    obtain ⟨⟨c1, c2⟩, c3⟩ := c
    obtain ⟨k1, k2⟩ := in_of h.1.1 c1
    generalize x.toNatClampNeg = i at *
    subst k2
    split
    · exact h
    · next d =>
      split
      · exact h
      · next e =>
        obtain ⟨h1, h2⟩ := fs_ho h.1 k1
        have hne : ¬ hoN F i = i := fun e => d (by rw [h2, e])
        obtain ⟨m, m1, m2⟩ := nI_ex (m := 99) (x := n) (by omega) (by rw [Int32.lt_iff_toInt_lt] at c2; simp at c2; omega) (by rw [Int32.lt_iff_toInt_lt] at c3; simp at c3; omega)
        subst m2
        obtain ⟨p, p1, p2⟩ := h.pu i
        obtain ⟨p', p1', p2'⟩ := h.pu (hoN F i)
        rw [not_or, p2, p2', add_nI, lt_of_nI (by omega) (by omega), show (99 : Int32) = nI 99 from rfl, lt_of_nI (by omega) (by omega)] at e
        refine fOK.of h.1 h.pl h.vo ?_
        show puB (upd (upd (fPu F) i (fPu F i - nI m)) (hoN F i) (upd (fPu F) i (fPu F i - nI m) (hoN F i) + nI m))
        have e1 : upd (fPu F) i (fPu F i - nI m) (hoN F i) = nI p' := by rw [upd, if_neg hne, p2']
        rw [e1, p2, sub_nI (by omega), add_nI]
        exact pu_upd (pu_upd h.pu (by omega)) (by omega)
  · exact h
theorem min_max99 (x : Int32) : ∃ p, p < 100 ∧ maxS 0 (minS 99 x) = nI p := by
  unfold maxS minS
  by_cases h : x < 99
  · rw [if_pos h]
    by_cases h2 : (0 : Int32) < x
    · rw [if_pos h2]
      rw [Int32.lt_iff_toInt_lt] at h h2
      obtain ⟨p, p1, p2⟩ := nI_ex (m := 99) (x := x) (by omega) (by simp at h2; omega) (by simp at h; omega)
      exact ⟨p, by omega, p2⟩
    · rw [if_neg h2]; exact ⟨0, by omega, rfl⟩
  · rw [if_neg h]; exact ⟨99, by omega, by decide⟩
theorem fok_fill {kd n f st : Int32} {F : FS} (h : fOK F) : ∀ m, fOK (fillS kd n f st F m) := by
  intro m
  induction m with
  | zero => exact h
  | succ m ih =>
    rw [fillS, fo, ← fillS]
    obtain ⟨p, p1, p2⟩ := min_max99 (entS kd n f st m)
    rw [p2]
    exact fOK.of ih.1 ih.pl ih.vo (pu_upd ih.pu p1)
theorem fok_add {F : FS} (h : fOK F) (h7 : fN F < 7) {p v u : Nat} (hp : p < 10) (hv : v < 10) (hu : u < 100) : fOK (addF F (nI p) (nI v) (nI u)) := fOK.of (fs_add h.1 h7) (pl_upd h.pl hp) (pl_upd h.vo hv) (pu_upd h.pu hu)
