/-! the class's calls: line, rich -/
theorem flt_add (a b c : Nat → Bool) (h : ∀ i, c i = (a i || b i)) (hd : ∀ i, ¬ (a i = true ∧ b i = true)) : ∀ l : List Nat, (l.filter a).length + (l.filter b).length = (l.filter c).length := by
  intro l
  induction l with
  | nil => rfl
  | cons x l ih =>
    have h1 := h x
    have h2 := hd x
    simp only [List.filter_cons]
    cases ha : a x <;> cases hb : b x <;> rw [ha, hb] at h1 h2 <;> simp only [h1, Bool.or_true, Bool.or_false, Bool.true_or, Bool.false_or, if_true, List.length_cons, Bool.false_eq_true, if_false] <;> first | omega | (simp at h2)
def flN (F : FS) (p n : Nat) : List Nat := (List.range n).filter (fun i => decide (fPl F i = nI p))
def lnN (F : FS) (n : Nat) : Nat → List Nat
  | 0 => []
  | p + 1 => lnN F n p ++ flN F p n
theorem ln_len (F : FS) (n : Nat) : ∀ P, P ≤ 10 → (lnN F n P).length = ((List.range n).filter (fun i => decide (∃ p, p < P ∧ fPl F i = nI p))).length := by
  intro P
  induction P with
  | zero => intro _; rw [List.filter_eq_nil_iff.mpr]; rfl; intro i _; simp
  | succ P ih =>
    intro h
    rw [lnN, List.length_append, ih (by omega), flN]
    refine flt_add _ _ _ (fun i => ?_) (fun i => ?_) _
    · rw [← Bool.decide_or, decide_eq_decide]
      constructor
      · rintro ⟨p, h1, h2⟩
        by_cases hp : p = P
        · exact Or.inr (hp ▸ h2)
        · exact Or.inl ⟨p, by omega, h2⟩
      · rintro (⟨p, h1, h2⟩ | h2)
        · exact ⟨p, by omega, h2⟩
        · exact ⟨P, by omega, h2⟩
    · simp only [decide_eq_true_eq]
      rintro ⟨⟨p, h1, h2⟩, h3⟩
      rw [h2, eq_of_nI (by omega) (by omega)] at h3
      omega
theorem ln_le (F : FS) (n : Nat) {P : Nat} (h : P ≤ 10) : (lnN F n P).length ≤ n := by
  rw [ln_len F n P h]
  exact Nat.le_trans (List.length_filter_le _ _) (by simp)
theorem ln_full {F : FS} (hF : fOK F) (n : Nat) : (lnN F n 10).length = n := by
  rw [ln_len F n 10 (by omega), List.filter_eq_self.mpr]
  · simp
  · intro i _
    obtain ⟨⟨p, h1, h2⟩, -⟩ := hF.2 i
    exact decide_eq_true ⟨p, h1, h2⟩
theorem lin_in (F : FS) (p : Nat) (L : List Int32) : ∀ i, L.length + (flN F p i).length ≤ 7 → fo (linS F p) L i = L ++ (flN F p i).map nI := by
  intro i
  induction i with
  | zero => intro _; simp [flN, fo]
  | succ i ih =>
    intro h
    have hs : flN F p (i + 1) = flN F p i ++ (if fPl F i = nI p then [i] else []) := by
      rw [flN, List.range_succ, List.filter_append, ← flN]
      by_cases c : fPl F i = nI p
      · simp [c]
      · simp [c]
    rw [hs] at h ⊢
    rw [List.length_append] at h
    rw [fo, ih (by omega), linS]
    by_cases c : fPl F i = nI p
    · rw [if_pos c] at h ⊢
      have h' : L.length + ((flN F p i).length + 1) ≤ 7 := h
      rw [if_pos ⟨c, by rw [List.length_append, List.length_map]; omega⟩]
      simp
    · rw [if_neg c] at h ⊢
      rw [if_neg (fun q => c q.1)]
      simp
theorem lin_out (F : FS) (n : Nat) (hn : n ≤ 7) : ∀ P, P ≤ 10 → fo (fun p L => fo (linS F p) L n) [] P = (lnN F n P).map nI := by
  intro P
  induction P with
  | zero => intro _; rfl
  | succ P ih =>
    intro h
    have hl := ln_le F n h
    rw [lnN, List.length_append] at hl
    rw [fo, ih (by omega), lin_in F P _ n (by rw [List.length_map]; omega), lnN, List.map_append]
theorem ln_lt (F : FS) (n : Nat) : ∀ P, ∀ q ∈ lnN F n P, q < n := by
  intro P
  induction P with
  | zero => intro q h; exact absurd h (by simp [lnN])
  | succ P ih =>
    intro q h
    rw [lnN, List.mem_append] at h
    rcases h with h | h
    · exact ih q h
    · exact List.mem_range.mp (List.mem_filter.mp h).1
def lnF (F : FS) : List Nat := lnN F (fN F) 10
def lnW (F : FS) : Nat → Nat := fun j => (lnF F).getD j 0
theorem ln_w {F : FS} (hF : fOK F) {j : Nat} (hj : j < fN F) : (lnF F)[j]? = some (lnW F j) ∧ lnW F j < fN F := by
  have hl : (lnF F).length = fN F := ln_full hF _
  have h1 : (lnF F)[j]? = some ((lnF F)[j]'(by omega)) := List.getElem?_eq_getElem (by omega)
  have h2 : lnW F j = (lnF F)[j]'(by omega) := by rw [lnW, List.getD, h1]; rfl
  rw [h2]
  exact ⟨h1, ln_lt F _ _ _ (List.getElem_mem _)⟩
theorem ln_S {F : FS} (hn : fN F ≤ 7) : lineS F = (lnF F).map nI := lin_out F (fN F) hn 10 (Nat.le_refl _)
theorem row_w {F : FS} (hF : fOK F) {g : Nat → Int32} (h : rowIs g (lineS F)) {j : Nat} (hj : j < fN F) : g j = nI (lnW F j) := by
  refine h j _ ?_
  rw [ln_S hF.1.1, List.getElem?_map, (ln_w hF hj).1]
  rfl
def rngL (n : Nat) (f : Nat → Int64) : List Int64 := (List.range n).map f
theorem rngL_s (n : Nat) (f : Nat → Int64) : rngL (n + 1) f = rngL n f ++ [f n] := by rw [rngL, List.range_succ, List.map_append]; rfl
theorem rngL_l (n : Nat) (f : Nat → Int64) : (rngL n f).length = n := by simp [rngL]
def lineC (A : AS) : Int32 × AS := (nI (fN A.F), A.wR (rngL (fN A.F) (fun j => (nI (lnW A.F j)).toInt64)))
theorem cc_line (k : Nat) (A : AS) (hA : fOK A.F) : CC (k + 2) M_X11_line [] A (.int (lineC A).1) (lineC A).2 := by
  intro σ hv
  obtain ⟨r, s, hb⟩ := hv.b
  have h7 := hb.n7
  refine EvM.of mk_X11_line (Nat.le_of_ble_eq_true rfl) ?_
  refine wpW K_X11_line [20] 60 ?_
  refine ⟨_, ev_linesUp _ σ hb.f, ?_⟩
  rintro w σ1 ⟨rfl, hr, f1⟩
  rw [hb.F] at hr
  refine ⟨_, ev_rclears _ _, ?_⟩
  rintro w σ2 ⟨rfl, e2, k2, f2⟩
  have f12 : Fr lS σ σ2 := (f1.up _ (by decide)).tr (f2.up _ (by decide))
  have hr2 : ∀ j, j < fN A.F → gA σ2 29 j = nI (lnW A.F j) := fun j hj => by rw [f2.A (by decide)]; exact row_w hA hr hj
  refine loopI (α := Sto) 20 (fun i _ => [some (.ref 0), some (.int (nI i))]) (fun a => a) (fun i a => Fr [3, 4] σ2 a ∧ tOK a ∧ tR a = rngL i (fun j => (nI (lnW A.F j)).toInt64)) (fN A.F) ?_ ?_ 0 σ2 (Nat.zero_le _) ⟨Fr.rf, k2, e2⟩
  · rintro i τ hi ⟨f, ht, hI⟩ go
    have hbt := hb.sS (f12.tr (f.up _ (by decide)))
    refine wpW K_X11_line [20] 60 ?_
    refine ⟨fun h => ?_, fun _ => ⟨in7 (by omega), _, ev_radds _ _ ht _ (by rw [hI, rngL_l]; omega), ?_⟩⟩
    · rw [hbt.sz, le_of_nI (by omega) (by omega)] at h; omega
    rintro w τ' ⟨rfl, e3, k3, f3⟩
    refine go τ' _ _ (by rw [← nI_1 i]; rfl) rfl ⟨f.tr f3, k3, ?_⟩
    rw [e3, hI, rngL_s, nI_clamp (by omega), f.A (by decide), hr2 i hi]
  · rintro τ ⟨f, ht, hI⟩
    have hbt := hb.sS (f12.tr (f.up _ (by decide)))
    refine wpW K_X11_line [20] 60 ?_
    refine ⟨fun h => ?_, fun h => ?_⟩
    · exact ⟨by rw [hbt.sz]; rfl, cv_end hb (f12.tr (f.up _ (by decide))) ht hI⟩
    · rw [hbt.sz, le_of_nI (by omega) (by omega)] at h; omega
theorem runsO_cg (P : Nat → Int32) (n i : Nat) (g g' : Nat → Int32) (h : ∀ j, i < j → j < n → g j = g' j) : ∀ d, d ≤ n - (i + 1) → ∀ j, i ≤ j → j < n → fo (fun d g => runsI P i g d) (upd g i 1) d j = fo (fun d g => runsI P i g d) (upd g' i 1) d j := by
  intro d
  induction d with
  | zero =>
    intro _ j h1 h2
    simp only [fo, upd]
    by_cases c : j = i
    · simp [c]
    · rw [if_neg c, if_neg c]; exact h j (by omega) h2
  | succ d ih =>
    intro hd j h1 h2
    have ih' := ih (by omega)
    rw [fo, fo, runsI, runsI]
    split
    · exact ih' j h1 h2
    · rw [ih' i (Nat.le_refl _) (by omega), ih' (i + 1 + d) (by omega) (by omega)]
      simp only [upd]
      by_cases c : j = i
      · simp [c]
      · rw [if_neg c, if_neg c]; exact ih' j h1 h2
theorem runs_cg (P : Nat → Int32) (n : Nat) (g g' : Nat → Int32) : ∀ t, t ≤ n → (runsS P n g t).2 = (runsS P n g' t).2 ∧ ∀ j, n - t ≤ j → j < n → (runsS P n g t).1 j = (runsS P n g' t).1 j := by
  intro t
  induction t with
  | zero => intro _; exact ⟨rfl, fun j h1 h2 => by omega⟩
  | succ t ih =>
    intro ht
    obtain ⟨i1, i2⟩ := ih (by omega)
    have key := runsO_cg P n (n - t - 1) (runsS P n g t).1 (runsS P n g' t).1 (fun j h1 h2 => i2 j (by omega) h2) _ (Nat.le_refl _)
    have e1 : ∀ g, (runsS P n g (t + 1)).1 = runsO P n (n - t - 1) (runsS P n g t).1 := fun _ => rfl
    have e2 : ∀ g, (runsS P n g (t + 1)).2 = maxS (runsS P n g t).2 (runsO P n (n - t - 1) (runsS P n g t).1 (n - t - 1)) := fun _ => rfl
    refine ⟨?_, fun j h1 h2 => ?_⟩
    · rw [e2, e2, i1, runsO, key (n - t - 1) (Nat.le_refl _) (by omega)]
      rfl
    · rw [e1, e1]
      exact key j (by omega) h2
def lnP (F : FS) : Nat → Int32 := fun j => fPu F (lnW F j)
def rnT (F : FS) : (Nat → Int32) × Int32 := runsS (lnP F) (fN F) (fun _ => 0) (fN F)
def richR (F : FS) : Nat → Nat → Int32 × Int32 × List Int64 → Int32 × Int32 × List Int64
  | 0, _, st => st
  | c + 1, i, st => if st.1 ≤ 0 then st else richR F c (i + 1) (if (rnT F).1 i = st.1 ∧ ¬ lnP F i ≤ st.2.1 then (st.1 - 1, lnP F i, st.2.2 ++ [(nI (lnW F i)).toInt64]) else st)
def richC (A : AS) : Int32 × AS := ((rnT A.F).2, A.wR (richR A.F (fN A.F) 0 ((rnT A.F).2, -1, [])).2.2)
theorem cc_rich (k : Nat) (A : AS) (hA : fOK A.F) : CC (k + 3) M_X11_rich [] A (.int (richC A).1) (richC A).2 := by
  intro σ hv
  obtain ⟨r, s, hb⟩ := hv.b
  have h7 := hb.n7
  refine EvM.of mk_X11_rich (Nat.le_of_ble_eq_true rfl) ?_
  refine wpW K_X11_rich [37] 60 ?_
  refine ⟨_, ev_linesUp _ σ hb.f, ?_⟩
  rintro w σ1 ⟨rfl, hr, f1⟩
  rw [hb.F] at hr
  have hb1 := hb.sS (f1.up _ (by decide))
  have hL := ev_longestFrom (k + 1) σ1 hb1.f (lnW A.F) (fun j hj => by rw [hb1.F] at hj; exact ⟨row_w hA hr hj, by have := (ln_w hA hj).2; omega⟩)
  rw [hb1.F] at hL
  refine ⟨_, hL, ?_⟩
  rintro w σ2 ⟨h9, g2, f2⟩
  obtain ⟨c1, c2⟩ := runs_cg (lnP A.F) (fN A.F) (gA σ1 31) (fun _ => 0) (fN A.F) (Nat.le_refl _)
  change w = some (.int (runsS (lnP A.F) (fN A.F) (gA σ1 31) (fN A.F)).2) at h9
  rw [c1] at h9
  change w = some (.int (rnT A.F).2) at h9
  obtain rfl := h9.symm
  refine ⟨_, ev_rclears _ _, ?_⟩
  rintro w σ3 ⟨rfl, e3, k3, f3⟩
  have f13 : Fr lS σ σ3 := ((f1.up _ (by decide)).tr (f2.up _ (by decide))).tr (f3.up _ (by decide))
  have hr3 : ∀ j, j < fN A.F → gA σ3 29 j = nI (lnW A.F j) := fun j hj => by rw [f3.A (by decide), f2.A (by decide)]; exact row_w hA hr hj
  have hn3 : ∀ j, j < fN A.F → gA σ3 31 j = (rnT A.F).1 j := fun j hj => by rw [f3.A (by decide), g2]; exact c2 j (by omega) hj
  have hp3 : ∀ j, j < 7 → gA σ3 8 (nI j).toNatClampNeg = fPu A.F j := fun j hj => (hb.sS f13).rd.2.2.1 j hj
  unfold richC
  generalize hT : richR A.F (fN A.F) 0 ((rnT A.F).2, -1, []) = T
  generalize (rnT A.F).2 = mx at hT ⊢
  have fin : ∀ i (τ : Sto) (o : Option Value), Fr [3, 4] σ3 τ → tOK τ → tR τ = T.2.2 → WW M_X11_rich (k + 3) (fun w τ => w = some (.int mx) ∧ CV τ (A.wR T.2.2) ∧ Fr lC σ τ) 123 [some (.ref 0), some (.int mx), some (.int T.1), some (.int T.2.1), some (.int (nI i)), o] [] τ := by
    intro i τ o f ht e
    refine wpW K_X11_rich [] 20 ?_
    exact ⟨rfl, cv_end hb (f13.tr (f.up _ (by decide))) ht e⟩
  refine loopI (α := Sto × (Int32 × Int32 × List Int64) × Option Value) 37 (fun i a => [some (.ref 0), some (.int mx), some (.int a.2.1.1), some (.int a.2.1.2.1), some (.int (nI i)), a.2.2]) (fun a => a.1) (fun i a => Fr [3, 4] σ3 a.1 ∧ tOK a.1 ∧ tR a.1 = a.2.1.2.2 ∧ a.2.1.2.2.length ≤ i ∧ T = richR A.F (fN A.F - i) i a.2.1) (fN A.F) ?_ ?_ 0 (σ3, (mx, -1, []), none) (Nat.zero_le _) ⟨Fr.rf, k3, e3, Nat.le_refl _, hT.symm⟩
  · rintro i ⟨τ, ⟨l, a, R⟩, o⟩ hi ⟨f, ht, hR, hl, hI⟩ go
    simp only at f ht hR hl hI ⊢
    have hbt := hb.sS (f13.tr (f.up _ (by decide)))
    rw [show fN A.F - i = (fN A.F - (i + 1)) + 1 by omega, richR] at hI
    have hw := (ln_w hA hi).2
    have e29 : gA τ 29 (nI i).toNatClampNeg = nI (lnW A.F i) := by rw [nI_clamp (by omega), f.A (by decide)]; exact hr3 i hi
    have e31 : gA τ 31 (nI i).toNatClampNeg = (rnT A.F).1 i := by rw [nI_clamp (by omega), f.A (by decide)]; exact hn3 i hi
    have e8 : gA τ 8 (nI (lnW A.F i)).toNatClampNeg = lnP A.F i := by rw [f.A (by decide)]; exact hp3 _ (by omega)
    refine wpW K_X11_rich [37, 123, 71] 60 ?_
    refine ⟨fun h => ?_, fun _ => ⟨fun h => ?_, fun hl0 => ⟨in7 (by omega), ?_⟩⟩⟩
    · rw [hbt.sz, le_of_nI (by omega) (by omega)] at h; omega
    · rw [if_pos h] at hI
      have := fin i τ o f ht (by rw [hI]; exact hR)
      rw [hI] at this ⊢
      exact this
    rw [if_neg hl0] at hI
    simp only [e29, e8]
    refine ⟨in7 (by omega), ?_⟩
    refine wpW K_X11_rich [37] 60 ?_
    refine ⟨in7 (by omega), ?_⟩
    simp only [e31, e29]
    refine ⟨fun h => ?_, fun h1 => ⟨fun h => ?_, fun h2 => ⟨in7 (by omega), _, ev_radds _ _ ht _ (by rw [hR]; omega), ?_⟩⟩⟩
    · rw [if_neg (fun q => h q.1)] at hI
      exact go (τ, (l, a, R), _) _ _ (by rw [← nI_1 i]; rfl) rfl ⟨f, ht, hR, by simp only; omega, hI⟩
    · rw [show gA τ (0 + 5 + 3) (nI (lnW A.F i)).toNatClampNeg = lnP A.F i from e8] at h
      rw [if_neg (fun q => q.2 h)] at hI
      exact go (τ, (l, a, R), _) _ _ (by rw [← nI_1 i]; rfl) rfl ⟨f, ht, hR, by simp only; omega, hI⟩
    · rintro w τ' ⟨rfl, e4, k4, f4⟩
      rw [show gA τ (0 + 5 + 3) (nI (lnW A.F i)).toNatClampNeg = lnP A.F i from e8] at h2
      rw [if_pos ⟨h1, h2⟩] at hI
      rw [show gA τ (0 + 28 + 1) (nI i).toNatClampNeg = nI (lnW A.F i) from e29] at e4
      refine go (τ', (l - 1, lnP A.F i, R ++ [(nI (lnW A.F i)).toInt64]), some (.int (lnP A.F i))) _ _ (by rw [← nI_1 i, ← dn_lit, ← e8]; rfl) rfl ⟨f.tr f4, k4, by rw [e4, hR], by simp only [List.length_append, List.length_singleton]; omega, hI⟩
  · rintro ⟨τ, ⟨l, a, R⟩, o⟩ ⟨f, ht, hR, hl, hI⟩
    simp only at f ht hR hl hI ⊢
    have hbt := hb.sS (f13.tr (f.up _ (by decide)))
    rw [Nat.sub_self, richR] at hI
    refine wpW K_X11_rich [123] 60 ?_
    refine ⟨fun h => ?_, fun h => ?_⟩
    · have := fin (fN A.F) τ o f ht (by rw [hI]; exact hR)
      rw [hI] at this ⊢
      exact this
    · rw [hbt.sz, le_of_nI (by omega) (by omega)] at h; omega
