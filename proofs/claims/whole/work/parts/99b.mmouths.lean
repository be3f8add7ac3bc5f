/-! the model's call: mouths -/
def fzN (F : FS) (a b : Nat) : Nat := (absS (fPl F a - fPl F b)).toNatClampNeg
theorem fz_nI {F : FS} (hF : fOK F) (a b : Nat) : absS (fPl F a - fPl F b) = nI (fzN F a b) ∧ fzN F a b ≤ 9 ∧ fzN F b a = fzN F a b := by
  obtain ⟨p, p1, p2⟩ := hF.pl a
  obtain ⟨q, q1, q2⟩ := hF.pl b
  have e1 : fzN F a b = if p ≤ q then q - p else p - q := by
    rw [fzN, p2, q2, abs_nI p p1 q q1, nI_clamp (by split <;> omega)]
  have e2 : fzN F b a = if q ≤ p then p - q else q - p := by
    rw [fzN, p2, q2, abs_nI q q1 p p1, nI_clamp (by split <;> omega)]
  refine ⟨?_, ?_, ?_⟩
  · rw [e1, p2, q2, abs_nI p p1 q q1]
  · rw [e1]; split <;> omega
  · rw [e1, e2]; split <;> split <;> omega
def vI (F : FS) (nm m : Nat) (v : Nat → Nat) (q b : Nat) : Nat := if ¬ q = nm ∧ m / 2 ^ q % 2 = 0 then min b (fzN F nm q + v (m ||| 2 ^ q)) else b
def vN (F : FS) : Nat → Nat → Nat
  | 0, _ => 0
  | c + 1, m => fo (vI F (fN F - (c + 1)) m (vN F c)) 1000 (fN F)
def vB (c x : Nat) : Prop := x ≤ 9 * c ∨ x = 1000
theorem vI_bd {F : FS} (hF : fOK F) {c nm m q b : Nat} {v : Nat → Nat} (hc : c ≤ 6) (hv : ∀ m, vB c (v m)) (hb : vB (c + 1) b) : vB (c + 1) (vI F nm m v q b) := by
  have h9 := (fz_nI hF nm q).2.1
  unfold vI vB at *
  split
  · have := hv (m ||| 2 ^ q); omega
  · exact hb
theorem v_bd {F : FS} (hF : fOK F) : ∀ c, c ≤ 7 → ∀ m, vB c (vN F c m) := by
  intro c
  induction c with
  | zero => intro _ m; exact Or.inl (Nat.le_refl _)
  | succ c ih =>
    intro hc m
    rw [vN]
    exact fo_inv (fun _ x => vB (c + 1) x) (Or.inr rfl) (fun i x _ hx => vI_bd hF (by omega) (ih (by omega)) hx)
theorem minS_nI {a b : Nat} (ha : a < 2 ^ 31) (hb : b < 2 ^ 31) : minS (nI a) (nI b) = nI (min a b) := by
  unfold minS
  by_cases h : b < a
  · rw [if_pos ((nI_ltI hb ha).mpr h), Nat.min_eq_right (by omega)]
  · rw [if_neg (fun z => h ((nI_ltI hb ha).mp z)), Nat.min_eq_left (by omega)]
theorem or_ne : ∀ m, m < 128 → ∀ q, q < 7 → m / 2 ^ q % 2 = 0 → ¬ m ||| 2 ^ q = m := by decide +kernel
theorem upd2 (g : Nat → Int32) (m : Nat) (a b : Int32) : upd (upd g m a) m b = upd g m b := by
  funext j
  unfold upd
  by_cases h : j = m
  · rw [if_pos h, if_pos h]
  · rw [if_neg h, if_neg h, if_neg h]
theorem lstO_v {F : FS} (hF : fOK F) {m c : Nat} (hm : m < 2 ^ fN F) (hc : fN F - pcN m = c + 1) {g : Nat → Int32} (hg : ∀ q, q < fN F → m / 2 ^ q % 2 = 0 → g (m ||| 2 ^ q) = nI (vN F c (m ||| 2 ^ q))) : ∀ q, q ≤ fN F → fo (fun q g => lstI F m g q) (upd g m 1000) q = upd g m (nI (fo (vI F (pcN m) m (vN F c)) 1000 q)) := by
  have h7 := hF.1.1
  have hp := pow7 h7
  intro q
  induction q with
  | zero => intro _; rfl
  | succ q ih =>
    intro hq
    have hbd : vB (c + 1) (fo (vI F (pcN m) m (vN F c)) 1000 q) := fo_inv (fun _ x => vB (c + 1) x) (Or.inr rfl) (fun i x _ hx => vI_bd hF (by omega) (v_bd hF c (by omega)) hx)
    rw [fo, ih (by omega), fo]
    generalize fo (vI F (pcN m) m (vN F c)) 1000 q = x at *
    rw [lstI, pk_us, costS, vI]
    unfold vB at hbd
    by_cases h : ¬ q = pcN m ∧ m / 2 ^ q % 2 = 0
    · obtain ⟨z1, z2, z3⟩ := fz_nI hF q (pcN m)
      have hv := v_bd hF c (by omega) (m ||| 2 ^ q)
      unfold vB at hv
      rw [if_pos h, if_pos h, pk_un (or_ne m (by omega) q (by omega) h.2), hg q (by omega) h.2, z1, z3, add_nI, minS_nI (by omega) (by omega), upd2]
    · rw [if_neg h, if_neg h, show (1000 : Int32) = nI 1000 from rfl, minS_nI (by omega) (by omega), upd2, Nat.min_eq_left (by omega)]
theorem lst_v {F : FS} (hF : fOK F) : ∀ t, t ≤ 2 ^ fN F - 1 → ∀ m, 2 ^ fN F - 1 - t ≤ m → m < 2 ^ fN F → lstS F (fun _ => 0) t m = nI (vN F (fN F - pcN m) m) := by
  have h7 := hF.1.1
  have hp := pow7 h7
  intro t
  induction t with
  | zero =>
    intro _ m h1 h2
    have : m = 2 ^ fN F - 1 := by omega
    subst this
    rw [lstS, fo, pk_us, pc_all _ h7, Nat.sub_self]
    rfl
  | succ t ih =>
    intro ht m h1 h2
    have e : lstS F (fun _ => 0) (t + 1) = lstO F (2 ^ fN F - 1 - t - 1) (lstS F (fun _ => 0) t) := rfl
    have hm' : 2 ^ fN F - 1 - t - 1 < 2 ^ fN F - 1 := by omega
    generalize hmm : 2 ^ fN F - 1 - t - 1 = m' at *
    have hpc := pc_lt _ h7 m' hm'
    obtain ⟨c, hc⟩ : ∃ c, fN F - pcN m' = c + 1 := ⟨fN F - pcN m' - 1, by omega⟩
    have hO := lstO_v hF (m := m') (by omega) hc (g := lstS F (fun _ => 0) t) (fun q hq h0 => by
      have hgt := or_gt m' (by omega) q (by omega) h0
      rw [ih (by omega) _ (by omega) (or_lt _ h7 _ (by omega) _ hq), pc_or m' (by omega) q (by omega) h0, show fN F - (pcN m' + 1) = c by omega]) (fN F) (Nat.le_refl _)
    rw [e, lstO, hO]
    by_cases q : m = m'
    · subst q
      rw [pk_us, hc, vN, show fN F - (c + 1) = pcN m by omega]
    · rw [pk_un q]
      exact ih (by omega) m (by omega) h2
theorem lstZ_v {F : FS} (hF : fOK F) {m : Nat} (hm : m < 2 ^ fN F) : lstZ F m = nI (vN F (fN F - pcN m) m) := lst_v hF _ (Nat.le_refl _) m (by omega) hm
def tM (x : Nat) : Nat := if x < 1000 then x else 1000000
theorem tM_fo {F : FS} (hF : fOK F) {c : Nat} (hc : c ≤ 6) (nm m : Nat) : ∀ q, fo (vI F nm m (fun m => tM (vN F c m))) 1000000 q = tM (fo (vI F nm m (vN F c)) 1000 q) := by
  intro q
  induction q with
  | zero => rfl
  | succ q ih =>
    have hbd : vB (c + 1) (fo (vI F nm m (vN F c)) 1000 q) := fo_inv (fun _ x => vB (c + 1) x) (Or.inr rfl) (fun i x _ hx => vI_bd hF hc (v_bd hF c (by omega)) hx)
    rw [fo, ih, fo]
    generalize fo (vI F nm m (vN F c)) 1000 q = x at *
    have h9 := (fz_nI hF nm q).2.1
    have hv := v_bd hF c (by omega) (m ||| 2 ^ q)
    unfold vB at hv hbd
    rw [vI, vI]
    split
    · unfold tM
      split <;> split <;> split <;> omega
    · rfl
theorem vI_le {F : FS} {nm m : Nat} {v : Nat → Nat} {q : Nat} (hf : ¬ q = nm ∧ m / 2 ^ q % 2 = 0) : ∀ n, q < n → fo (vI F nm m v) 1000 n ≤ fzN F nm q + v (m ||| 2 ^ q) := by
  intro n
  induction n with
  | zero => intro h; omega
  | succ n ih =>
    intro h
    rw [fo, vI]
    by_cases c : q = n
    · subst c
      rw [if_pos hf]
      omega
    · have := ih (by omega)
      split <;> omega
theorem vI_at {F : FS} {nm m : Nat} {v : Nat → Nat} : ∀ n, fo (vI F nm m v) 1000 n < 1000 → ∃ q, q < n ∧ (¬ q = nm ∧ m / 2 ^ q % 2 = 0) ∧ fzN F nm q + v (m ||| 2 ^ q) = fo (vI F nm m v) 1000 n := by
  intro n
  induction n with
  | zero => intro h; exact absurd (show (1000 : Nat) < 1000 from h) (by decide)
  | succ n ih =>
    intro h
    rw [fo, vI] at h ⊢
    by_cases c : ¬ n = nm ∧ m / 2 ^ n % 2 = 0
    · rw [if_pos c] at h ⊢
      by_cases d : fzN F nm n + v (m ||| 2 ^ n) ≤ fo (vI F nm m v) 1000 n
      · exact ⟨n, by omega, c, by omega⟩
      · obtain ⟨q, q1, q2, q3⟩ := ih (by omega)
        exact ⟨q, by omega, q2, by omega⟩
    · rw [if_neg c] at h ⊢
      obtain ⟨q, q1, q2, q3⟩ := ih h
      exact ⟨q, by omega, q2, q3⟩
theorem shp_or : ∀ k, k < 7 → (2 ^ (k + 1) - 2) / 2 ^ (k + 1) % 2 = 0 ∧ 2 ^ (k + 1) - 2 ||| 2 ^ (k + 1) = 2 ^ (k + 2) - 2 ∧ (2 ^ (k + 1) - 2) / 2 ^ 0 % 2 = 0 := by decide +kernel
theorem v_ok {F : FS} (hF : fOK F) (h2 : 2 ≤ fN F) : ∀ c, c < fN F → vN F (c + 1) (2 ^ (fN F - (c + 1) + 1) - 2) < 1000 := by
  have h7 := hF.1.1
  intro c
  induction c with
  | zero =>
    intro _
    obtain ⟨-, -, s3⟩ := shp_or (fN F - (0 + 1)) (by omega)
    have h9 := (fz_nI hF (fN F - (0 + 1)) 0).2.1
    have := vI_le (F := F) (nm := fN F - (0 + 1)) (v := vN F 0) (q := 0) ⟨by omega, s3⟩ (fN F) (by omega)
    rw [vN]
    refine Nat.lt_of_le_of_lt this ?_
    show fzN F (fN F - (0 + 1)) 0 + 0 < 1000
    omega
  | succ c ih =>
    intro hc
    have ih := ih (by omega)
    have hb := v_bd hF (c + 1) (by omega) (2 ^ (fN F - (c + 1) + 1) - 2)
    unfold vB at hb
    obtain ⟨s1, s2, -⟩ := shp_or (fN F - (c + 1 + 1)) (by omega)
    have h9 := (fz_nI hF (fN F - (c + 1 + 1)) (fN F - (c + 1 + 1) + 1)).2.1
    have := vI_le (F := F) (nm := fN F - (c + 1 + 1)) (v := vN F (c + 1)) (q := fN F - (c + 1 + 1) + 1) ⟨by omega, s1⟩ (fN F) (by omega)
    rw [s2, show fN F - (c + 1 + 1) + 2 = fN F - (c + 1) + 1 by omega] at this
    rw [vN]
    omega
theorem v_ok0 {F : FS} (hF : fOK F) (h2 : 2 ≤ fN F) : vN F (fN F) 0 < 1000 := by
  have := v_ok hF h2 (fN F - 1) (by omega)
  rw [show fN F - 1 + 1 = fN F by omega, Nat.sub_self] at this
  exact this
def okQ (F : FS) (k m q : Nat) : Prop := (¬ q = k ∧ m / 2 ^ q % 2 = 0) ∧ fzN F k q + vN F (fN F - (k + 1)) (m ||| 2 ^ q) = vN F (fN F - k) m
theorem cond_iff {F : FS} (hF : fOK F) {k m q : Nat} (hk : k < fN F) (hm : m < 2 ^ fN F) (hpc : pcN m = k) (hv : vN F (fN F - k) m < 1000) (hq : q < fN F) : costS F (lstZ F) k q m = lstZ F m ↔ okQ F k m q := by
  have h7 := hF.1.1
  have hp := pow7 h7
  rw [lstZ_v hF hm, hpc, costS]
  unfold okQ
  by_cases h : ¬ q = k ∧ m / 2 ^ q % 2 = 0
  · obtain ⟨z1, z2, z3⟩ := fz_nI hF q k
    have hb := v_bd hF (fN F - (k + 1)) (by omega) (m ||| 2 ^ q)
    unfold vB at hb
    rw [if_pos h, z1, lstZ_v hF (or_lt _ h7 _ hm _ hq), pc_or m (by omega) q (by omega) h.2, hpc, add_nI, eq_of_nI (by omega) (by omega), z3]
    exact ⟨fun e => ⟨h, e⟩, fun e => e.2⟩
  · rw [if_neg h, show (1000 : Int32) = nI 1000 from rfl, eq_of_nI (by omega) (by omega)]
    exact ⟨fun e => by omega, fun e => absurd e.1 h⟩
theorem ch_first {F : FS} {g : Nat → Int32} {nm m : Nat} : ∀ c q, (∃ i, q ≤ i ∧ i < q + c ∧ costS F g nm i m = g m) → q ≤ cheapS F g nm m c q ∧ cheapS F g nm m c q < q + c ∧ costS F g nm (cheapS F g nm m c q) m = g m ∧ ∀ i, q ≤ i → i < cheapS F g nm m c q → ¬ costS F g nm i m = g m := by
  intro c
  induction c with
  | zero => rintro q ⟨i, h1, h2, -⟩; omega
  | succ c ih =>
    rintro q ⟨i, h1, h2, h3⟩
    rw [cheapS]
    by_cases e : costS F g nm q m = g m
    · rw [if_pos e]
      exact ⟨Nat.le_refl _, by omega, e, fun i a b => by omega⟩
    · rw [if_neg e]
      have hne : ¬ i = q := fun z => e (z ▸ h3)
      obtain ⟨a1, a2, a3, a4⟩ := ih (q + 1) ⟨i, by omega, by omega, h3⟩
      refine ⟨by omega, by omega, a3, fun i b1 b2 => ?_⟩
      by_cases z : i = q
      · rw [z]; exact e
      · exact a4 i (by omega) b2
theorem pick_ok {F : FS} (hF : fOK F) {k m : Nat} (hk : k < fN F) (hm : m < 2 ^ fN F) (hpc : pcN m = k) (hv : vN F (fN F - k) m < 1000) : cheapS F (lstZ F) k m (fN F) 0 < fN F ∧ okQ F k m (cheapS F (lstZ F) k m (fN F) 0) ∧ ∀ i, i < cheapS F (lstZ F) k m (fN F) 0 → ¬ okQ F k m i := by
  have h7 := hF.1.1
  have hp := pow7 h7
  have hv' := hv
  rw [show fN F - k = (fN F - (k + 1)) + 1 by omega, vN, show fN F - (fN F - (k + 1) + 1) = k by omega] at hv'
  obtain ⟨i, i1, i2, i3⟩ := vI_at (fN F) hv'
  have hi : okQ F k m i := ⟨i2, by rw [i3, show fN F - k = (fN F - (k + 1)) + 1 by omega, vN, show fN F - (fN F - (k + 1) + 1) = k by omega]⟩
  obtain ⟨a1, a2, a3, a4⟩ := ch_first (F := F) (g := lstZ F) (nm := k) (m := m) (fN F) 0 ⟨i, by omega, by omega, (cond_iff hF hk hm hpc hv i1).mpr hi⟩
  refine ⟨by omega, (cond_iff hF hk hm hpc hv (by omega)).mp a3, fun i hi z => a4 i (by omega) hi ((cond_iff hF hk hm hpc hv (by omega)).mpr z)⟩
theorem pk_st {F : FS} (hF : fOK F) (h2 : 2 ≤ fN F) : ∀ k, k ≤ fN F → (pkS F k).2 < 2 ^ fN F ∧ pcN (pkS F k).2 = k ∧ vN F (fN F - k) (pkS F k).2 < 1000 := by
  have h7 := hF.1.1
  have hp := pow7 h7
  intro k
  induction k with
  | zero => intro _; exact ⟨by show 0 < _; omega, by show pcN 0 = 0; decide, v_ok0 hF h2⟩
  | succ k ih =>
    intro hk
    obtain ⟨i1, i2, i3⟩ := ih (by omega)
    obtain ⟨p1, p2, -⟩ := pick_ok hF (by omega) i1 i2 i3
    have e : (pkS F (k + 1)).2 = (pkS F k).2 ||| 2 ^ cheapS F (lstZ F) k (pkS F k).2 (fN F) 0 := rfl
    rw [e]
    generalize cheapS F (lstZ F) k (pkS F k).2 (fN F) 0 = q at *
    have hb := v_bd hF (fN F - (k + 1)) (by omega) ((pkS F k).2 ||| 2 ^ q)
    unfold vB at hb
    obtain ⟨f1, f2⟩ := p2
    exact ⟨or_lt _ h7 _ i1 _ p1, by rw [pc_or _ (by omega) _ (by omega) f1.2, i2], by omega⟩
theorem ix70 : ∀ k, k < 8 → ∀ m, m < 128 → nI k <<< ((7 : Int32) &&& 31) ||| nI m = nI (128 * k + m) := by decide +kernel
theorem ix70b : ∀ k, k < 8 → ∀ m, m < 128 → ∀ q, q < 7 → nI (128 * k + m) ||| (1 : Int32) <<< (nI q &&& 31) = nI (128 * k + (m ||| 2 ^ q)) := by decide +kernel
theorem ev_canMouth (k0 : Nat) (σ : Sto) (k q m : Nat) (hk : k < 7) (hq : q < 7) (hm : m < 128) : EvM (k0 + 1) M_X12_canMouth [.ref 52, .int (nI k), .int (nI q), .int (nI m)] σ (fun r τ => τ = σ ∧ r = some (.int (bI (decide (¬ q = k ∧ m / 2 ^ q % 2 = 0))))) := by
  refine EvM.of mk_X12_canMouth (Nat.le_of_ble_eq_true rfl) ?_
  refine wpW K_X12_canMouth [] 20 ?_
  refine ⟨fun e => ⟨Or.inl rfl, rfl, ?_⟩, fun e => ⟨_, ev_mhas _ _ _ _, ?_⟩⟩
  · rw [eq_of_nI (by omega) (by omega)] at e
    rw [decide_eq_false (fun z => z.1 e)]; rfl
  · rw [eq_of_nI (by omega) (by omega)] at e
    rintro v τ ⟨h9, rfl⟩
    obtain rfl := h9.symm
    refine ⟨fun d => ⟨Or.inl rfl, rfl, ?_⟩, fun d => ⟨Or.inr rfl, rfl, ?_⟩⟩
    · rw [bI_ne, b1_iff m hm q hq] at d
      rw [decide_eq_false (fun z => by omega)]; rfl
    · rw [bI_eq, Bool.eq_false_iff, ne_eq, b1_iff m hm q hq] at d
      rw [decide_eq_true ⟨e, by omega⟩]; rfl
def T70 (F : FS) (τ : Sto) (k m : Nat) : Prop := gA τ 70 (128 * k + m) = nI (tM (vN F (fN F - k) m))
theorem tM_le {F : FS} (hF : fOK F) {c : Nat} (hc : c ≤ 7) (m : Nat) : tM (vN F c m) ≤ 1000000 := by
  unfold tM
  split <;> omega
theorem map_rng {l : List Nat} {n : Nat} (h : l.length = n) (f : Nat → Int64) : l.map f = rngL n (fun j => f (l.getD j 0)) := by
  subst h
  apply List.ext_getElem
  · simp [rngL]
  · intro i h1 h2
    have hi : i < l.length := by simpa using h1
    simp [rngL, List.getD, List.getElem?_eq_getElem hi]
