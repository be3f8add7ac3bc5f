/-! tools: walks over a store, what is left alone, loops, folds, views of a fen -/
theorem wpW {M : Mt} {T : List (Nat × Op)} (hT : ∀ r ∈ T, OpOK M r.1 r.2) (cut : List Nat) {k : Nat} {Q : Option Value → Sto → Prop} (n : Nat) {pc : Nat} {L : List (Option Value)} {S : List Value} {σ : Sto} (h : wp T cut k Q (WW M k Q) n pc L S σ) : WW M k Q pc L S σ := wp_ok hT (fun _ _ _ _ h => h) n pc L S σ h
def bI (b : Bool) : Int32 := if b then 1 else 0
theorem bI_or (b : Bool) : bI b = 0 ∨ bI b = 1 := by cases b <;> simp [bI]
theorem bI_ne (b : Bool) : ¬ bI b = 0 ↔ b = true := by cases b <;> simp [bI]
theorem bI_eq (b : Bool) : bI b = 0 ↔ b = false := by cases b <;> simp [bI]
/-- all but the places of l is as it was -/
def Fr (l : List Nat) (σ τ : Sto) : Prop := ∀ a, a ∉ l → (∀ j, gI τ a j = gI σ a j) ∧ gA τ a = gA σ a ∧ gJ τ a = gJ σ a ∧ ∀ j, gR τ a j = gR σ a j
theorem Fr.rf {l : List Nat} {σ : Sto} : Fr l σ σ := fun _ _ => ⟨fun _ => rfl, rfl, rfl, fun _ => rfl⟩
theorem Fr.tr {l : List Nat} {σ τ υ : Sto} (h : Fr l σ τ) (h' : Fr l τ υ) : Fr l σ υ := fun a ha => ⟨fun j => ((h' a ha).1 j).trans ((h a ha).1 j), (h' a ha).2.1.trans (h a ha).2.1, (h' a ha).2.2.1.trans (h a ha).2.2.1, fun j => ((h' a ha).2.2.2 j).trans ((h a ha).2.2.2 j)⟩
theorem Fr.mono {l l' : List Nat} {σ τ : Sto} (h : Fr l σ τ) (hs : ∀ a ∈ l, a ∈ l') : Fr l' σ τ := fun a ha => h a (fun q => ha (hs a q))
theorem Fr.sI {l : List Nat} {σ τ : Sto} {a j : Nat} {v : Int32} (h : Fr l σ τ) (ha : a ∈ l) : Fr l σ (sI τ a j v) := fun b hb => by
  have hne : b ≠ a := fun e => hb (e ▸ ha)
  refine ⟨fun i => ?_, (h b hb).2.1, (h b hb).2.2.1, (h b hb).2.2.2⟩
  rw [gI_sI, if_neg (fun q => hne q.1)]
  exact (h b hb).1 i
theorem Fr.sA {l : List Nat} {σ τ : Sto} {a : Nat} {f : Nat → Int32} (h : Fr l σ τ) (ha : a ∈ l) : Fr l σ (sA τ a f) := fun b hb => by
  have hne : b ≠ a := fun e => hb (e ▸ ha)
  refine ⟨(h b hb).1, ?_, (h b hb).2.2.1, (h b hb).2.2.2⟩
  rw [gA_sA, if_neg hne]
  exact (h b hb).2.1
theorem Fr.sJ {l : List Nat} {σ τ : Sto} {a : Nat} {f : Nat → Int64} (h : Fr l σ τ) (ha : a ∈ l) : Fr l σ (sJ τ a f) := fun b hb => by
  have hne : b ≠ a := fun e => hb (e ▸ ha)
  refine ⟨(h b hb).1, (h b hb).2.1, ?_, (h b hb).2.2.2⟩
  rw [gJ_sJ, if_neg hne]
  exact (h b hb).2.2.1
theorem Fr.sR {l : List Nat} {σ τ : Sto} {a j v : Nat} (h : Fr l σ τ) (ha : a ∈ l) : Fr l σ (sR τ a j v) := fun b hb => by
  have hne : b ≠ a := fun e => hb (e ▸ ha)
  refine ⟨(h b hb).1, (h b hb).2.1, (h b hb).2.2.1, fun i => ?_⟩
  rw [gR_sR, if_neg (fun q => hne q.1)]
  exact (h b hb).2.2.2 i
theorem Fr.I {l : List Nat} {σ τ : Sto} (h : Fr l σ τ) {a : Nat} (ha : a ∉ l) (j : Nat) : gI τ a j = gI σ a j := (h a ha).1 j
theorem Fr.A {l : List Nat} {σ τ : Sto} (h : Fr l σ τ) {a : Nat} (ha : a ∉ l) : gA τ a = gA σ a := (h a ha).2.1
theorem Fr.J {l : List Nat} {σ τ : Sto} (h : Fr l σ τ) {a : Nat} (ha : a ∉ l) : gJ τ a = gJ σ a := (h a ha).2.2.1
theorem Fr.R {l : List Nat} {σ τ : Sto} (h : Fr l σ τ) {a : Nat} (ha : a ∉ l) (j : Nat) : gR τ a j = gR σ a j := (h a ha).2.2.2 j
/-- i steps on -/
def fo {α : Type} (step : Nat → α → α) (a : α) : Nat → α
  | 0 => a
  | i + 1 => step i (fo step a i)
theorem fo_congr {α : Type} {s t : Nat → α → α} {a : α} {n : Nat} (h : ∀ i, i < n → ∀ x, s i x = t i x) : fo s a n = fo t a n := by
  induction n with
  | zero => rfl
  | succ n ih => rw [fo, fo, ih (fun i hi => h i (by omega)), h n (by omega)]
theorem fo_inv {α : Type} {s : Nat → α → α} {a : α} (P : Nat → α → Prop) {n : Nat} (h0 : P 0 a) (h : ∀ i x, i < n → P i x → P (i + 1) (s i x)) : P n (fo s a n) := by
  induction n with
  | zero => exact h0
  | succ n ih => exact h n _ (by omega) (ih (fun i x hi => h i x (by omega)))
/-- a loop that counts up -/
theorem loopI {α : Type} {M : Mt} {k : Nat} {Q : Option Value → Sto → Prop} (pc : Nat) (L : Nat → α → List (Option Value)) (S : α → Sto) (I : Nat → α → Prop) (n : Nat)
    (hb : ∀ i a, i < n → I i a → (∀ a' L' τ, L' = L (i + 1) a' → τ = S a' → I (i + 1) a' → WW M k Q pc L' [] τ) → WW M k Q pc (L i a) [] (S a)) (hx : ∀ a, I n a → WW M k Q pc (L n a) [] (S a)) : ∀ i a, i ≤ n → I i a → WW M k Q pc (L i a) [] (S a) := by
  have key : ∀ m i a, i + m = n → I i a → WW M k Q pc (L i a) [] (S a) := by
    intro m
    induction m with
    | zero => intro i a hi hI; have : i = n := by omega
              subst this; exact hx a hI
    | succ m ih => intro i a hi hI; exact hb i a (by omega) hI (fun a' L' τ e1 e2 h' => by rw [e1, e2]; exact ih (i + 1) a' (by omega) h')
  intro i a hi hI
  exact key (n - i) i a (by omega) hI
/-! small numbers -/
def bt (i : Nat) : Int32 := (1 : Int32) <<< (nI i &&& 31)
def r7 (f : Nat → Int32) : Nat → Int32 := fun i => if i < 7 then f i else 0
theorem r7_lt {f : Nat → Int32} {i : Nat} (h : i < 7) : r7 f i = f i := if_pos h
theorem rd7 {f : Nat → Int32} {i : Nat} (h : i < 7) : f (nI i).toNatClampNeg = r7 f i := by rw [nI_clamp (by omega), r7_lt h]
theorem in7 {i : Nat} (h : i < 7) : vp_in (nI i) 7 := vp_in_nI h (by decide)
theorem inN {i n : Nat} (h : i < n) (hn : n ≤ 1024) : vp_in (nI i) n := vp_in_nI h (by omega)
theorem le_of_nI {a b : Nat} (ha : a ≤ 1024) (hb : b ≤ 1024) : nI a ≤ nI b ↔ a ≤ b := nI_leI (by omega) (by omega)
theorem lt_of_nI {a b : Nat} (ha : a ≤ 1024) (hb : b ≤ 1024) : nI a < nI b ↔ a < b := nI_ltI (by omega) (by omega)
theorem eq_of_nI {a b : Nat} (ha : a ≤ 1024) (hb : b ≤ 1024) : nI a = nI b ↔ a = b := nI_eq (by omega) (by omega)
theorem r7_upd {f : Nat → Int32} {i : Nat} {x : Int32} (h : i < 7) : r7 (upd f i x) = upd (r7 f) i x := by
  funext j
  unfold r7 upd
  by_cases hj : j = i
  · subst hj; simp [h]
  · simp [hj]
/-! a fen: how many, places, voices, purses, holders, ages, the day, sayings -/
abbrev FS : Type := Nat × (Nat → Int32) × (Nat → Int32) × (Nat → Int32) × (Nat → Int32) × (Nat → Int32) × Int32 × Int32
def fN (F : FS) : Nat := F.1
def fPl (F : FS) : Nat → Int32 := F.2.1
def fVo (F : FS) : Nat → Int32 := F.2.2.1
def fPu (F : FS) : Nat → Int32 := F.2.2.2.1
def fHo (F : FS) : Nat → Int32 := F.2.2.2.2.1
def fAg (F : FS) : Nat → Int32 := F.2.2.2.2.2.1
def fDy (F : FS) : Int32 := F.2.2.2.2.2.2.1
def fSd (F : FS) : Int32 := F.2.2.2.2.2.2.2
def mkF (n : Nat) (pl vo pu ho ag : Nat → Int32) (dy sd : Int32) : FS := (n, pl, vo, pu, ho, ag, dy, sd)
def cF (σ : Sto) (f : Nat) : FS := mkF (gI σ f 5).toNatClampNeg (r7 (gA σ (f + 1))) (r7 (gA σ (f + 2))) (r7 (gA σ (f + 3))) (r7 (gA σ (f + 4))) (r7 (gA σ (f + 5))) (gI σ f 6) (gI σ f 7)
def fsOK (F : FS) : Prop := fN F ≤ 7 ∧ ∀ i, i < fN F → ∃ h, h < fN F ∧ fHo F i = nI h
def cOK (σ : Sto) (f : Nat) : Prop := gI σ f 5 = nI (fN (cF σ f)) ∧ fsOK (cF σ f)
theorem cF_fr {l : List Nat} {σ τ : Sto} {f : Nat} (h : Fr l σ τ) (hf : ∀ j, j < 6 → f + j ∉ l) : cF τ f = cF σ f := by
  unfold cF
  have h0 := hf 0 (by omega)
  rw [Nat.add_zero] at h0
  rw [h.I h0, h.I h0, h.I h0, h.A (hf 1 (by omega)), h.A (hf 2 (by omega)), h.A (hf 3 (by omega)), h.A (hf 4 (by omega)), h.A (hf 5 (by omega))]
theorem cOK_fr {l : List Nat} {σ τ : Sto} {f : Nat} (h : Fr l σ τ) (hf : ∀ j, j < 6 → f + j ∉ l) (hc : cOK σ f) : cOK τ f := by
  have h0 := hf 0 (by omega)
  rw [Nat.add_zero] at h0
  exact ⟨by rw [h.I h0, cF_fr h hf]; exact hc.1, by rw [cF_fr h hf]; exact hc.2⟩
def homesS (F : FS) : Int32 := fo (fun i b => if fHo F i = nI i then b ||| bt i else b) 0 (fN F)
def heldS (F : FS) (q : Int32) : Int32 := fo (fun i b => if fHo F i = q then b ||| bt i else b) 0 (fN F)
def sumS (n : Nat) (f : Nat → Int32) : Int32 := fo (fun i s => s + f i) 0 n
def absS (x : Int32) : Int32 := if 0 ≤ x then x else 0 - x
/-! the class's fen: methods that only look -/
theorem ev_has (k : Nat) (σ : Sto) (f : Nat) (hf : f = 5 ∨ f = 11) (hc : cOK σ f) (x : Int32) : EvM k M_X2_has [.ref f, .int x] σ (fun v τ => τ = σ ∧ v = some (.int (bI (decide (0 ≤ x.toInt ∧ x.toInt < fN (cF σ f)))))) := by
  have hn := hc.1
  have h7 := hc.2.1
  generalize fN (cF σ f) = n at hn h7
  have hnI : (nI n).toInt = n := nI_toInt (by omega)
  refine EvM.of mk_X2_has (Nat.le_of_ble_eq_true rfl) ?_
  rcases hf with rfl | rfl
  all_goals
    refine wpW K_X2_has [] 20 ?_
    refine And.intro (fun h => ?_) (fun h => And.intro (fun h2 => ?_) (fun h2 => And.intro (fun h3 => ?_) (fun h3 => ?_)))
    · refine And.intro (Or.inl rfl) ⟨rfl, ?_⟩
      rw [Int32.lt_iff_toInt_lt] at h
      rw [decide_eq_false (by simp at h; omega)]; rfl
    · refine And.intro (Or.inl rfl) ⟨rfl, ?_⟩
      rw [hn, Int32.le_iff_toInt_le, hnI] at h2
      rw [decide_eq_false (by omega)]; rfl
    · refine And.intro (Or.inl rfl) ⟨rfl, ?_⟩
      rw [Int32.le_iff_toInt_le] at h3
      rw [decide_eq_false (by simp at h3; omega)]; rfl
    · refine And.intro (Or.inr rfl) ⟨rfl, ?_⟩
      rw [Int32.lt_iff_toInt_lt] at h
      rw [hn, Int32.le_iff_toInt_le, hnI] at h2
      rw [decide_eq_true (by simp at h; omega)]; rfl
theorem cF_rd (σ : Sto) (f : Nat) : (∀ i, i < 7 → gA σ (f + 1) (nI i).toNatClampNeg = fPl (cF σ f) i) ∧ (∀ i, i < 7 → gA σ (f + 2) (nI i).toNatClampNeg = fVo (cF σ f) i) ∧ (∀ i, i < 7 → gA σ (f + 3) (nI i).toNatClampNeg = fPu (cF σ f) i) ∧ (∀ i, i < 7 → gA σ (f + 4) (nI i).toNatClampNeg = fHo (cF σ f) i) ∧ (∀ i, i < 7 → gA σ (f + 5) (nI i).toNatClampNeg = fAg (cF σ f) i) ∧ gI σ f 6 = fDy (cF σ f) ∧ gI σ f 7 = fSd (cF σ f) :=
  ⟨fun _ h => rd7 h, fun _ h => rd7 h, fun _ h => rd7 h, fun _ h => rd7 h, fun _ h => rd7 h, rfl, rfl⟩
theorem ev_homes (k : Nat) (σ : Sto) (f : Nat) (hf : f = 5 ∨ f = 11) (hc : cOK σ f) : EvM k M_X2_homes [.ref f] σ (fun v τ => τ = σ ∧ v = some (.int (homesS (cF σ f)))) := by
  obtain ⟨hn, h7, -⟩ := hc
  obtain ⟨-, -, -, rHo, -⟩ := cF_rd σ f
  generalize cF σ f = F at *
  refine EvM.of mk_X2_homes (Nat.le_of_ble_eq_true rfl) ?_
  rcases hf with rfl | rfl
  all_goals
    refine wpW K_X2_homes [4] 10 ?_
    refine loopI (α := Int32) 4 (fun i b => [some (.ref _), some (.int b), some (.int (nI i))]) (fun _ => σ) (fun i b => b = fo (fun i b => if fHo F i = nI i then b ||| bt i else b) 0 i) (fN F) ?_ ?_ 0 0 (Nat.zero_le _) rfl
    · intro i b hi hI go
      refine wpW K_X2_homes [4] 20 ?_
      refine And.intro (fun h => ?_) (fun h => And.intro (in7 (by omega)) (And.intro (fun h2 => ?_) (fun h2 => ?_)))
      · rw [hn, le_of_nI (by omega) (by omega)] at h; omega
      · rw [rHo i (by omega)] at h2
        exact go b _ _ (by rw [← nI_1]; rfl) rfl (by rw [fo, ← hI]; exact (if_neg h2).symm)
      · rw [rHo i (by omega)] at h2
        exact go (b ||| bt i) _ _ (by rw [← nI_1]; rfl) rfl (by rw [fo, ← hI]; exact (if_pos h2).symm)
    · intro b hI
      refine wpW K_X2_homes [4] 20 ?_
      refine And.intro (fun h => ?_) (fun h => ?_)
      · exact ⟨rfl, by rw [hI]; rfl⟩
      · rw [hn, le_of_nI (by omega) (by omega)] at h; omega
