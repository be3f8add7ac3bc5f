/-! the class's calls: people -/
def stands (n : Nat) (c : Nat → Int32) (p : Nat) : Bool := if p % 5 = 4 then decide (c p = 59) else decide (n + p / 5 < 7) && isDg (c p)
def firstS (P : Nat → Bool) : Nat → Nat → Option Nat
  | 0, _ => none
  | m + 1, p => if P p then firstS P m (p + 1) else some p
def pplW (n t : Nat) (c : Nat → Int32) : Option Nat := match firstS (stands n c) (min t 34) 0 with
  | some p => some p
  | none => if 34 < t then some 34 else if t = 0 ∨ t % 5 = 4 then none else some t
theorem at_X2 {A : AS} {p : Nat} (ht : A.X.1 ≤ 80) (hp : p < A.X.1) : atX A.X (nI p) = A.X.2 p := by
  unfold atX
  have : inS A.X.1 (nI p) = true := by
    unfold inS
    rw [nI_toInt (by omega)]
    exact decide_eq_true ⟨by omega, by omega⟩
  rw [if_pos this, nI_clamp (by omega)]
theorem CB.t80 {σ : Sto} {A : AS} {r s : Nat} (hb : CB σ A r s) : A.X.1 ≤ 80 ∧ xT σ = A.X.1 ∧ gI σ 1 1 = nI A.X.1 := by
  have e : xT σ = A.X.1 := by rw [← hb.X]; rfl
  exact ⟨e ▸ hb.x.2, e, e ▸ hb.x.1⟩
theorem ev_atX (k : Nat) (σ : Sto) {A : AS} {r s : Nat} (hb : CB σ A r s) (x : Int32) : EvM k M_X8_at [.ref 1, .int x] σ (fun v τ => τ = σ ∧ v = some (.int (atX A.X x))) := by
  have h := ev_at k σ hb.x x
  rw [at_X hb.x, hb.X] at h
  exact h
theorem ev_isDigitX (k : Nat) (σ : Sto) {A : AS} {r s : Nat} (hb : CB σ A r s) (x : Int32) : EvM (k + 1) M_X8_isDigit [.ref 1, .int x] σ (fun v τ => τ = σ ∧ v = some (.int (bI (isDg (atX A.X x))))) := by
  have h := ev_isDigit k σ hb.x x
  rw [at_X hb.x, hb.X] at h
  exact h
theorem ev_digitX (k : Nat) (σ : Sto) {A : AS} {r s : Nat} (hb : CB σ A r s) (x : Int32) : EvM (k + 2) M_X8_digit [.ref 1, .int x] σ (fun v τ => τ = σ ∧ v = some (.int (digS (atX A.X x)))) := by
  have h := ev_digit k σ hb.x x
  rw [at_X hb.x, hb.X] at h
  exact h
theorem ev_twoDigitsX (k : Nat) (σ : Sto) {A : AS} {r s : Nat} (hb : CB σ A r s) (x : Int32) : EvM (k + 3) M_X8_twoDigits [.ref 1, .int x] σ (fun v τ => τ = σ ∧ v = some (.int (10 * digS (atX A.X x) + digS (atX A.X (x + 1))))) := by
  have h := ev_twoDigits k σ hb.x x
  rw [at_X hb.x, at_X hb.x, hb.X] at h
  exact h
theorem rem5 : ∀ p, p < 81 → nI p - nI p / 5 * 5 = nI (p % 5) ∧ nI p / 5 = nI (p / 5) := by decide +kernel
theorem ev_stands (k : Nat) (σ : Sto) {A : AS} {r s : Nat} (hb : CB σ A r s) (p : Nat) (hp : p < A.X.1) : EvM (k + 2) M_X11_standsInLine [.ref 0, .int (nI p)] σ (fun v τ => τ = σ ∧ v = some (.int (bI (stands (fN A.F) A.X.2 p)))) := by
  obtain ⟨t80, -, -⟩ := hb.t80
  have h7 := hb.n7
  obtain ⟨e1, e2⟩ := rem5 p (by omega)
  have ea := at_X2 (A := A) t80 hp
  refine EvM.of mk_X11_standsInLine (Nat.le_of_ble_eq_true rfl) ?_
  refine wpW K_X11_standsInLine [3] 60 ?_
  refine ⟨by decide, ?_⟩
  show WW M_X11_standsInLine _ _ 3 _ [Value.int (nI p - nI p / 5 * 5)] _
  rw [e1]
  refine wpW K_X11_standsInLine [] 60 ?_
  unfold stands
  refine ⟨fun h => ⟨by decide, fun h2 => ⟨fun _ => ?_, fun q => absurd rfl q⟩, fun h2 => ⟨fun q => absurd q (by decide), fun _ => ⟨_, ev_isDigitX _ σ hb _, ?_⟩⟩⟩, fun h => ⟨_, ev_atX _ σ hb _, ?_⟩⟩
  · rw [show (4 : Int32) = nI 4 from rfl, eq_of_nI (by omega) (by omega)] at h
    rw [if_neg h]
    rw [hb.sz, e2, add_nI, show (7 : Int32) = nI 7 from rfl, le_of_nI (by omega) (by omega)] at h2
    exact ⟨bI_or false, rfl, by rw [decide_eq_false (by omega)]; rfl⟩
  · rintro w τ'' ⟨h9, rfl⟩
    obtain rfl := h9.symm
    rw [show (4 : Int32) = nI 4 from rfl, eq_of_nI (by omega) (by omega)] at h
    rw [if_neg h, ea]
    rw [hb.sz, e2, add_nI, show (7 : Int32) = nI 7 from rfl, le_of_nI (by omega) (by omega)] at h2
    rw [decide_eq_true (show fN A.F + p / 5 < 7 by omega), Bool.true_and]
    refine ⟨fun h3 => ⟨bI_or false, rfl, ?_⟩, fun h3 => ⟨bI_or true, rfl, ?_⟩⟩
    · rw [(bI_eq _).mp h3]; rfl
    · rw [(bI_ne _).mp h3]; rfl
  · rintro w τ'' ⟨h9, rfl⟩
    obtain rfl := h9.symm
    rw [show (4 : Int32) = nI 4 from rfl, eq_of_nI (by omega) (by omega)] at h
    rw [if_pos h, ea]
    refine ⟨fun h3 => ⟨bI_or false, rfl, ?_⟩, fun h3 => ⟨bI_or true, rfl, ?_⟩⟩
    · rw [decide_eq_false h3]; rfl
    · rw [decide_eq_true h3]; rfl
theorem min_nI {a b : Nat} (ha : a ≤ 1024) (hb : b ≤ 1024) : (if nI b < nI a then nI b else nI a) = nI (min a b) := by
  by_cases h : b < a
  · rw [if_pos ((lt_of_nI hb ha).mpr h), Nat.min_eq_right (by omega)]
  · rw [if_neg (fun q => h ((lt_of_nI hb ha).mp q)), Nat.min_eq_left (by omega)]
def wrI (o : Option Nat) : Int32 := match o with
  | some p => nI p
  | none => -1
theorem ev_pplW (k : Nat) (σ : Sto) {A : AS} {r s : Nat} (hb : CB σ A r s) : EvM (k + 3) M_X11_peopleWrongAt [.ref 0] σ (fun v τ => τ = σ ∧ v = some (.int (wrI (pplW (fN A.F) A.X.1 A.X.2)))) := by
  obtain ⟨t80, -, et⟩ := hb.t80
  refine EvM.of mk_X11_peopleWrongAt (Nat.le_of_ble_eq_true rfl) ?_
  refine wpW K_X11_peopleWrongAt [12] 60 ?_
  show WW M_X11_peopleWrongAt _ _ 12 _ [Value.int (if (34 : Int32) < gI σ 1 1 then 34 else gI σ 1 1)] _
  rw [et, show (34 : Int32) = nI 34 from rfl, min_nI (by omega) (by omega)]
  refine wpW K_X11_peopleWrongAt [15] 60 ?_
  refine loopI (α := Unit) 15 (fun i _ => [some (.ref 0), some (.int (nI (min A.X.1 34))), some (.int (nI i))]) (fun _ => σ) (fun i _ => firstS (stands (fN A.F) A.X.2) (min A.X.1 34) 0 = firstS (stands (fN A.F) A.X.2) (min A.X.1 34 - i) i) (min A.X.1 34) ?_ ?_ 0 () (Nat.zero_le _) rfl
  · intro i _ hi hI go
    refine wpW K_X11_peopleWrongAt [15] 60 ?_
    refine ⟨fun h => ?_, fun _ => ⟨_, ev_stands _ σ hb i (by omega), ?_⟩⟩
    · rw [le_of_nI (by omega) (by omega)] at h; omega
    rintro w τ'' ⟨h9, rfl⟩
    obtain rfl := h9.symm
    rw [show min A.X.1 34 - i = (min A.X.1 34 - (i + 1)) + 1 by omega, firstS] at hI
    refine ⟨fun h => ?_, fun h => ⟨rfl, ?_⟩⟩
    · rw [if_pos ((bI_ne _).mp h)] at hI
      exact go () _ _ (by rw [← nI_1 i]; rfl) rfl hI
    · rw [if_neg (by rw [(bI_eq _).mp h]; decide)] at hI
      unfold pplW
      rw [hI]
      rfl
  · intro _ hI
    rw [Nat.sub_self, firstS] at hI
    refine wpW K_X11_peopleWrongAt [] 60 ?_
    unfold pplW
    rw [hI]
    simp only
    refine ⟨fun _ => ⟨fun h1 => ⟨fun h2 => ?_, fun h2 => ⟨by decide, fun h3 => ?_, fun h3 => ?_⟩⟩, fun h1 => ?_⟩, fun h => absurd (Int32.le_refl _) h⟩
    all_goals rw [et, show (34 : Int32) = nI 34 from rfl, le_of_nI (by omega) (by omega)] at h1
    · rw [et, show (0 : Int32) = nI 0 from rfl, eq_of_nI (by omega) (by omega)] at h2
      rw [if_neg (by omega), if_pos (Or.inl h2)]
      exact ⟨fun q => absurd q (by decide), fun _ => ⟨rfl, rfl⟩⟩
    · rw [et, show (0 : Int32) = nI 0 from rfl, eq_of_nI (by omega) (by omega)] at h2
      rw [et, (rem5 _ (by omega)).1, show (4 : Int32) = nI 4 from rfl, eq_of_nI (by omega) (by omega)] at h3
      rw [if_neg (by omega), if_neg (by rintro (q | q) <;> contradiction)]
      refine ⟨fun _ => ⟨rfl, ?_⟩, fun q => absurd rfl q⟩
      show some (Value.int (gI σ 1 1)) = _
      rw [et]; rfl
    · rw [et, (rem5 _ (by omega)).1, show (4 : Int32) = nI 4 from rfl, eq_of_nI (by omega) (by omega)] at h3
      rw [if_neg (by omega), if_pos (Or.inr h3)]
      exact ⟨fun q => absurd q (by decide), fun _ => ⟨rfl, rfl⟩⟩
    · rw [if_pos (by omega)]
      exact ⟨rfl, rfl⟩
def pplF (c : Nat → Int32) (F : FS) (m : Nat) : FS := fo (fun i G => addF G (digS (c (5 * i))) (digS (c (5 * i + 1))) (10 * digS (c (5 * i + 2)) + digS (c (5 * i + 3)))) F m
theorem ppl_n (c : Nat → Int32) (F : FS) : ∀ m, fN (pplF c F m) = fN F + m := by
  intro m
  induction m with
  | zero => rfl
  | succ m ih => rw [pplF, fo, ← pplF]; show fN (pplF c F m) + 1 = _; omega
theorem first_none {P : Nat → Bool} : ∀ m p, firstS P m p = none → ∀ q, p ≤ q → q < p + m → P q = true := by
  intro m
  induction m with
  | zero => intro p _ q h1 h2; omega
  | succ m ih =>
    intro p h q h1 h2
    rw [firstS] at h
    split at h
    · by_cases e : q = p
      · rw [e]; assumption
      · exact ih (p + 1) h q (by omega) (by omega)
    · exact absurd h (by simp)
theorem ppl_ok {n t : Nat} {c : Nat → Int32} (h : pplW n t c = none) : t ≤ 34 ∧ (t = 0 ∨ t % 5 = 4) ∧ (t = 0 ∨ n + (t + 1) / 5 ≤ 7) ∧ ∀ q, q < t → stands n c q = true := by
  unfold pplW at h
  split at h
  · exact absurd h (by simp)
  · rename_i hf
    split at h
    · exact absurd h (by simp)
    · rename_i h34
      split at h
      · rename_i h5
        have hs : ∀ q, q < t → stands n c q = true := fun q hq => first_none _ _ hf q (by omega) (by omega)
        refine ⟨by omega, h5, ?_, hs⟩
        rcases h5 with h5 | h5
        · exact Or.inl h5
        · have := hs (t - 1) (by omega)
          unfold stands at this
          rw [if_neg (by omega), Bool.and_eq_true, decide_eq_true_eq] at this
          right; omega
      · exact absurd h (by simp)
theorem dig_X {A : AS} {p : Nat} (ht : A.X.1 ≤ 80) (hp : p < A.X.1) (q : Nat) (e : nI p + nI q = nI (p + q)) (hq : p + q < A.X.1) : atX A.X (nI p + nI q) = A.X.2 (p + q) := by rw [e]; exact at_X2 ht hq
theorem cb_5 {σ τ : Sto} {A : AS} {r s : Nat} (hb : CB σ A r s) (h : Fr [5, 6, 7, 8, 9, 10] σ τ) {G : FS} (hG : cOK τ 5 ∧ cF τ 5 = G) : CB τ (A.wF G) r s :=
  hb.gen h hG (hb.kX h (by decide) (by decide)) (hb.kP h (by decide) (by decide)) rfl (hb.kH h (by decide) (by decide) (by decide)) (hb.kS h (by decide) (by decide) (by decide) (by decide)) (by decide)
theorem ev_take (k : Nat) (σ : Sto) {A : AS} {r s : Nat} (hb : CB σ A r s) (hw : pplW (fN A.F) A.X.1 A.X.2 = none) : EvM (k + 4) M_X11_takePeople [.ref 0] σ (fun v τ => v = some (.int (nI ((A.X.1 + 1) / 5))) ∧ CB τ (A.wF (pplF A.X.2 A.F ((A.X.1 + 1) / 5))) r s ∧ Fr [5, 6, 7, 8, 9, 10] σ τ) := by
  obtain ⟨t80, -, et⟩ := hb.t80
  obtain ⟨w1, w2, w3, w4⟩ := ppl_ok hw
  have h7 := hb.n7
  refine EvM.of mk_X11_takePeople (Nat.le_of_ble_eq_true rfl) ?_
  refine wpW K_X11_takePeople [4] 60 ?_
  refine loopI (α := Sto) 4 (fun i _ => [some (.ref 0), some (.int (nI i)), some (.int (nI (5 * i)))]) (fun a => a) (fun i a => CB a (A.wF (pplF A.X.2 A.F i)) r s ∧ Fr [5, 6, 7, 8, 9, 10] σ a) ((A.X.1 + 1) / 5) ?_ ?_ 0 σ (Nat.zero_le _) ⟨hb, Fr.rf⟩
  · rintro i τ hi ⟨b, f⟩ go
    have et' : gI τ 1 1 = nI A.X.1 := b.t80.2.2
    refine wpW K_X11_takePeople [4] 60 ?_
    refine ⟨fun h => ?_, fun _ => ⟨_, ev_digitX _ τ b _, ?_⟩⟩
    · rw [et', le_of_nI (by omega) (by omega)] at h; omega
    rintro w τ'' ⟨h9, rfl⟩
    obtain rfl := h9.symm
    refine ⟨_, ev_digitX _ τ b _, ?_⟩
    rintro w τ'' ⟨h9, rfl⟩
    obtain rfl := h9.symm
    refine ⟨_, ev_twoDigitsX _ τ b _, ?_⟩
    rintro w τ'' ⟨h9, rfl⟩
    obtain rfl := h9.symm
    have a0 : atX A.X (nI (5 * i)) = A.X.2 (5 * i) := at_X2 t80 (by omega)
    have a1 : atX A.X (nI (5 * i) + 1) = A.X.2 (5 * i + 1) := by rw [nI_1]; exact at_X2 t80 (by omega)
    have a2 : atX A.X (nI (5 * i) + 2) = A.X.2 (5 * i + 2) := by rw [show (2 : Int32) = nI 2 from rfl, add_nI]; exact at_X2 t80 (by omega)
    have a3 : atX A.X (nI (5 * i) + 2 + 1) = A.X.2 (5 * i + 3) := by rw [show (2 : Int32) = nI 2 from rfl, add_nI, nI_1]; exact at_X2 t80 (by omega)
    refine ⟨_, ev_fadds _ τ b.f ?_ _ _ _, ?_⟩
    · rw [b.F]; show fN (pplF A.X.2 A.F i) < 7
      rw [ppl_n]; omega
    rintro w τ2 ⟨rfl, c2, o2, f2⟩
    rw [b.F] at c2
    refine go τ2 _ _ (by rw [← nI_1 i, show 5 * (i + 1) = 5 * i + 5 by omega, ← add_nI]; rfl) rfl ⟨?_, f.tr f2⟩
    have e : addF (A.wF (pplF A.X.2 A.F i)).F (digS (atX (A.wF (pplF A.X.2 A.F i)).X (nI (5 * i)))) (digS (atX (A.wF (pplF A.X.2 A.F i)).X (nI (5 * i) + 1))) (10 * digS (atX (A.wF (pplF A.X.2 A.F i)).X (nI (5 * i) + 2)) + digS (atX (A.wF (pplF A.X.2 A.F i)).X (nI (5 * i) + 2 + 1))) = pplF A.X.2 A.F (i + 1) := by
      show addF (pplF A.X.2 A.F i) (digS (atX A.X (nI (5 * i)))) (digS (atX A.X (nI (5 * i) + 1))) (10 * digS (atX A.X (nI (5 * i) + 2)) + digS (atX A.X (nI (5 * i) + 2 + 1))) = _
      rw [a0, a1, a2, a3]; rfl
    exact cb_5 hb (f.tr f2) ⟨o2, c2.trans e⟩
  · rintro τ ⟨b, f⟩
    have et' : gI τ 1 1 = nI A.X.1 := b.t80.2.2
    refine wpW K_X11_takePeople [4] 60 ?_
    refine ⟨fun h => ⟨rfl, b, f⟩, fun h => ?_⟩
    rw [et', le_of_nI (by omega) (by omega)] at h; omega
def peopleC (A : AS) : Int32 × AS := match pplW (fN A.F) A.X.1 A.X.2 with
  | some p => (-1 - nI p, A.wX (cutX A.X 0))
  | none => if A.X.1 = 0 then (0, A.wX (cutX A.X 0)) else (nI ((A.X.1 + 1) / 5), (((A.wX (cutX A.X 0)).wF (pplF A.X.2 A.F ((A.X.1 + 1) / 5))).wU []).wK (fun _ => none))
theorem ppl_le {n t : Nat} {c : Nat → Int32} {p : Nat} (h : pplW n t c = some p) (ht : t ≤ 80) : p ≤ 80 := by
  have hb : ∀ m p q, firstS (stands n c) m p = some q → q < p + m := by
    intro m
    induction m with
    | zero => intro p q h; exact absurd h (by simp [firstS])
    | succ m ih =>
      intro p q h
      rw [firstS] at h
      split at h
      · have := ih _ _ h; omega
      · injection h with h; omega
  unfold pplW at h
  split at h
  · rename_i q hq
    have := hb _ _ _ hq
    injection h with h; omega
  · split at h
    · injection h with h; omega
    · split at h
      · exact absurd h (by simp)
      · injection h with h; omega
theorem cb_cut {σ : Sto} {A : AS} {r s : Nat} (hb : CB σ A r s) : CB (sI σ 1 1 0) (A.wX (cutX A.X 0)) r s ∧ Fr [1] σ (sI σ 1 1 0) := by
  have f2 : Fr [1] σ (sI σ 1 1 0) := Fr.rf.sI List.mem_cons_self
  have hX : xOK (sI σ 1 1 0) ∧ cX (sI σ 1 1 0) = cutX A.X 0 := by
    rw [← hb.X]
    refine cX_cut hb.x (Nat.zero_le _) ?_ rfl
    rw [gI_sI, if_pos ⟨rfl, rfl⟩]; rfl
  exact ⟨hb.gen f2 (hb.kF f2 (by decide)) hX (hb.kP f2 (by decide) (by decide)) rfl (hb.kH f2 (by decide) (by decide) (by decide)) (hb.kS f2 (by decide) (by decide) (by decide) (by decide)) (by decide), f2⟩
theorem cc_people (k : Nat) (A : AS) : CC (k + 5) M_X11_people [] A (.int (peopleC A).1) (peopleC A).2 := by
  intro σ hv
  obtain ⟨r, s, hb⟩ := hv.b
  obtain ⟨t80, -, et⟩ := hb.t80
  refine EvM.of mk_X11_people (Nat.le_of_ble_eq_true rfl) ?_
  refine wpW K_X11_people [] 60 ?_
  refine ⟨_, ev_pplW _ σ hb, ?_⟩
  rintro w τ'' ⟨h9, rfl⟩
  obtain rfl := h9.symm
  unfold peopleC
  generalize hT : pplW (fN A.F) A.X.1 A.X.2 = T
  match T, hT with
  | some p, hT =>
    have hp : ¬ nI p = -1 := ne_m1 (by have := ppl_le hT t80; omega)
    refine ⟨fun _ => ⟨fun q => absurd q hp, fun _ => ?_⟩, fun q => absurd q hp⟩
    obtain ⟨b1, f1⟩ := cb_cut hb
    exact ⟨rfl, ⟨⟨r, s, b1⟩, tOK_fr f1 (by decide) (by decide) hv.t, (tR_fr f1 (by decide) (by decide)).trans hv.R⟩, f1.C (by decide)⟩
  | none, hT =>
    obtain ⟨w1, w2, w3, w4⟩ := ppl_ok hT
    refine ⟨fun q => absurd rfl q, fun _ => ⟨_, ev_take _ σ hb hT, ?_⟩⟩
    rintro w σ1 ⟨rfl, b1, f1⟩
    refine ⟨fun _ => ⟨fun h => ?_, fun h => ?_⟩, fun q => absurd rfl q⟩
    · rw [show (0 : Int32) = nI 0 from rfl, le_of_nI (by omega) (by omega)] at h
      have t0 : A.X.1 = 0 := by omega
      rw [if_pos t0]
      have e0 : pplF A.X.2 A.F ((A.X.1 + 1) / 5) = A.F := by rw [t0]; rfl
      rw [e0] at b1
      obtain ⟨b2, f2⟩ := cb_cut b1
      have ff : Fr [1, 5, 6, 7, 8, 9, 10] σ (sI σ1 1 1 0) := (f1.up _ (by decide)).tr (f2.up _ (by decide))
      refine ⟨?_, ⟨⟨r, s, b2⟩, tOK_fr ff (by decide) (by decide) hv.t, (tR_fr ff (by decide) (by decide)).trans hv.R⟩, ff.C (by decide)⟩
      rw [t0]; rfl
    · rw [show (0 : Int32) = nI 0 from rfl, le_of_nI (by omega) (by omega)] at h
      have t0 : ¬ A.X.1 = 0 := by omega
      rw [if_neg t0]
      obtain ⟨b2, f2⟩ := cb_cut b1
      refine ⟨_, ev_forgetsAll _ _ b2.P, ?_⟩
      rintro w σ3 ⟨rfl, p3, f3⟩
      have ff : Fr [1, 5, 6, 7, 8, 9, 10, 18] σ σ3 := ((f1.up _ (by decide)).tr (f2.up _ (by decide))).tr (f3.up _ (by decide))
      have b3 : CB σ3 ((((A.wX (cutX A.X 0)).wF (pplF A.X.2 A.F ((A.X.1 + 1) / 5))).wU []).wK (fun _ => none)) r s :=
        b2.gen f3 (b2.kF f3 (by decide)) (b2.kX f3 (by decide) (by decide)) p3 rfl (b2.kH f3 (by decide) (by decide) (by decide)) (b2.kS f3 (by decide) (by decide) (by decide) (by decide)) (by decide)
      exact ⟨rfl, ⟨⟨r, s, b3⟩, tOK_fr ff (by decide) (by decide) hv.t, (tR_fr ff (by decide) (by decide)).trans hv.R⟩, ff.C (by decide)⟩
