/-! what both sides keep; the class's cells for it -/
abbrev AS : Type := FS × (Nat × (Nat → Int32)) × List Int64 × List (Nat → Int32) × (Nat → Option (Nat → Int32)) × List (Int32 × Int32) × List W3 × ((Nat → Int32) → Int32)
def AS.F (A : AS) : FS := A.1
def AS.X (A : AS) : Nat × (Nat → Int32) := A.2.1
def AS.R (A : AS) : List Int64 := A.2.2.1
def AS.U (A : AS) : List (Nat → Int32) := A.2.2.2.1
def AS.K (A : AS) : Nat → Option (Nat → Int32) := A.2.2.2.2.1
def AS.H (A : AS) : List (Int32 × Int32) := A.2.2.2.2.2.1
def AS.S (A : AS) : List W3 := A.2.2.2.2.2.2.1
def AS.ev (A : AS) : (Nat → Int32) → Int32 := A.2.2.2.2.2.2.2
def AS.wF (A : AS) (v : FS) : AS := (v, A.X, A.R, A.U, A.K, A.H, A.S, A.ev)
def AS.wX (A : AS) (v : Nat × (Nat → Int32)) : AS := (A.F, v, A.R, A.U, A.K, A.H, A.S, A.ev)
def AS.wR (A : AS) (v : List Int64) : AS := (A.F, A.X, v, A.U, A.K, A.H, A.S, A.ev)
def AS.wU (A : AS) (v : List (Nat → Int32)) : AS := (A.F, A.X, A.R, v, A.K, A.H, A.S, A.ev)
def AS.wK (A : AS) (v : Nat → Option (Nat → Int32)) : AS := (A.F, A.X, A.R, A.U, v, A.H, A.S, A.ev)
def AS.wH (A : AS) (v : List (Int32 × Int32)) : AS := (A.F, A.X, A.R, A.U, A.K, v, A.S, A.ev)
def AS.wS (A : AS) (v : List W3) : AS := (A.F, A.X, A.R, A.U, A.K, A.H, v, A.ev)
def AS.we (A : AS) (v : (Nat → Int32) → Int32) : AS := (A.F, A.X, A.R, A.U, A.K, A.H, A.S, v)
def cX (σ : Sto) : Nat × (Nat → Int32) := (xT σ, fun i => if i < xT σ then gA σ 2 i else -1)
def atX (X : Nat × (Nat → Int32)) (x : Int32) : Int32 := if inS X.1 x then X.2 x.toNatClampNeg else -1
def csX (X : Nat × (Nat → Int32)) (p : Nat) : Int32 := if p < 40 then X.2 p else -1
theorem at_X {σ : Sto} (hx : xOK σ) (x : Int32) : atS (xT σ) (gA σ 2) x = atX (cX σ) x := by
  unfold atS atX cX
  by_cases h : inS (xT σ) x = true
  · have := (inS_80 (by have := hx.2; omega) h).1
    rw [if_pos h, if_pos h]; simp only; rw [if_pos this]
  · rw [if_neg h, if_neg h]
theorem cs_X (σ : Sto) : csS (xT σ) (gA σ 2) = csX (cX σ) := by
  funext p
  unfold csS csX cX
  by_cases h : p < 40
  · simp [h]
  · simp [h]
def hushOK (σ : Sto) : Prop := (gI σ 41 3 = 0 ∧ gA σ 44 = fun _ => 0) ∨ (gI σ 41 3 = 1 ∧ gA σ 44 = hushT (fun _ => 0))
def CB (σ : Sto) (A : AS) (r s : Nat) : Prop := cOK σ 5 ∧ cF σ 5 = A.F ∧ xOK σ ∧ cX σ = A.X ∧ PP σ A.U A.K ∧ (r = 46 ∧ s = 49 ∨ r = 49 ∧ s = 46) ∧ gR σ 0 11 = r + 1 ∧ gR σ 0 12 = s + 1 ∧ RC σ r A.ev ∧ hOK σ ∧ hL σ = A.H ∧ sOK σ ∧ sL σ = A.S ∧ fromOK σ ∧ hushOK σ
theorem CB.f {σ : Sto} {A : AS} {r s : Nat} (h : CB σ A r s) : cOK σ 5 := h.1
theorem CB.F {σ : Sto} {A : AS} {r s : Nat} (h : CB σ A r s) : cF σ 5 = A.F := h.2.1
theorem CB.x {σ : Sto} {A : AS} {r s : Nat} (h : CB σ A r s) : xOK σ := h.2.2.1
theorem CB.X {σ : Sto} {A : AS} {r s : Nat} (h : CB σ A r s) : cX σ = A.X := h.2.2.2.1
theorem CB.P {σ : Sto} {A : AS} {r s : Nat} (h : CB σ A r s) : PP σ A.U A.K := h.2.2.2.2.1
theorem CB.rs {σ : Sto} {A : AS} {r s : Nat} (h : CB σ A r s) : r = 46 ∧ s = 49 ∨ r = 49 ∧ s = 46 := h.2.2.2.2.2.1
theorem CB.r1 {σ : Sto} {A : AS} {r s : Nat} (h : CB σ A r s) : gR σ 0 11 = r + 1 := h.2.2.2.2.2.2.1
theorem CB.r2 {σ : Sto} {A : AS} {r s : Nat} (h : CB σ A r s) : gR σ 0 12 = s + 1 := h.2.2.2.2.2.2.2.1
theorem CB.rc {σ : Sto} {A : AS} {r s : Nat} (h : CB σ A r s) : RC σ r A.ev := h.2.2.2.2.2.2.2.2.1
theorem CB.h {σ : Sto} {A : AS} {r s : Nat} (h : CB σ A r s) : hOK σ := h.2.2.2.2.2.2.2.2.2.1
theorem CB.H {σ : Sto} {A : AS} {r s : Nat} (h : CB σ A r s) : hL σ = A.H := h.2.2.2.2.2.2.2.2.2.2.1
theorem CB.s {σ : Sto} {A : AS} {r s : Nat} (h : CB σ A r s) : sOK σ := h.2.2.2.2.2.2.2.2.2.2.2.1
theorem CB.S {σ : Sto} {A : AS} {r s : Nat} (h : CB σ A r s) : sL σ = A.S := h.2.2.2.2.2.2.2.2.2.2.2.2.1
theorem CB.fr {σ : Sto} {A : AS} {r s : Nat} (h : CB σ A r s) : fromOK σ := h.2.2.2.2.2.2.2.2.2.2.2.2.2.1
theorem CB.hu {σ : Sto} {A : AS} {r s : Nat} (h : CB σ A r s) : hushOK σ := h.2.2.2.2.2.2.2.2.2.2.2.2.2.2
def CV (σ : Sto) (A : AS) : Prop := (∃ r s, CB σ A r s) ∧ tOK σ ∧ tR σ = A.R
theorem CV.b {σ : Sto} {A : AS} (h : CV σ A) : ∃ r s, CB σ A r s := h.1
theorem CV.t {σ : Sto} {A : AS} (h : CV σ A) : tOK σ := h.2.1
theorem CV.R {σ : Sto} {A : AS} (h : CV σ A) : tR σ = A.R := h.2.2
def lC : List Nat := List.range 52
def lS : List Nat := [3, 4, 11, 12, 13, 14, 15, 16, 20, 22, 23, 24, 25, 26, 27, 28, 29, 30, 31, 39, 40, 42, 43, 45, 48, 51]
theorem Fr.up {l : List Nat} {σ τ : Sto} (l' : List Nat) (h : Fr l σ τ) (hs : l.all (fun a => l'.contains a) = true) : Fr l' σ τ := h.mono (fun a ha => by
  have := List.all_eq_true.mp hs a ha
  exact List.contains_iff_mem.mp this)
theorem Fr.C {l : List Nat} {σ τ : Sto} (h : Fr l σ τ) (hs : l.all (fun a => lC.contains a) = true) : Fr lC σ τ := h.up lC hs
theorem cX_fr {l : List Nat} {σ τ : Sto} (h : Fr l σ τ) (h1 : 1 ∉ l) (h2 : 2 ∉ l) : cX τ = cX σ := by
  unfold cX xT; rw [h.I h1, h.A h2]
theorem xOK_fr {l : List Nat} {σ τ : Sto} (h : Fr l σ τ) (h1 : 1 ∉ l) (h2 : 2 ∉ l) (hx : xOK σ) : xOK τ := by
  unfold xOK xT at *; rw [h.I h1]; exact hx
theorem tR_fr {l : List Nat} {σ τ : Sto} (h : Fr l σ τ) (h1 : 3 ∉ l) (h2 : 4 ∉ l) : tR τ = tR σ := by
  unfold tR; rw [h.I h1, h.J h2]
theorem tOK_fr {l : List Nat} {σ τ : Sto} (h : Fr l σ τ) (h1 : 3 ∉ l) (h2 : 4 ∉ l) (hx : tOK σ) : tOK τ := by
  unfold tOK at *; rw [tR_fr h h1 h2, h.I h1]; exact hx
theorem fromOK_fr {l : List Nat} {σ τ : Sto} (h : Fr l σ τ) (h1 : 21 ∉ l) (hx : fromOK σ) : fromOK τ := by
  unfold fromOK at *; rw [h.A h1]; exact hx
theorem hushOK_fr {l : List Nat} {σ τ : Sto} (h : Fr l σ τ) (h1 : 41 ∉ l) (h2 : 44 ∉ l) (hx : hushOK σ) : hushOK τ := by
  unfold hushOK at *; rw [h.I h1, h.A h2]; exact hx
/-- what is left alone where only l may change -/
theorem CB.fr1 {l : List Nat} {σ τ : Sto} {A : AS} {r s : Nat} (hb : CB σ A r s) (h : Fr l σ τ) (hl : ([0, 1, 2, 5, 6, 7, 8, 9, 10, 18, 19, 21, 32, 33, 34, 35, 36, 37, 38, 41, 44, r, r + 1].all (fun a => !l.contains a)) = true) : CB τ A r s := by
  have n : ∀ a, a ∈ [0, 1, 2, 5, 6, 7, 8, 9, 10, 18, 19, 21, 32, 33, 34, 35, 36, 37, 38, 41, 44, r, r + 1] → a ∉ l := by
    intro a ha hm
    have := List.all_eq_true.mp hl a ha
    rw [List.contains_iff_mem.mpr hm] at this
    exact Bool.noConfusion this
  have f5 : ∀ j, j < 6 → 5 + j ∉ l := by
    intro j hj
    match j, hj with
    | 0, _ => exact n 5 (by simp)
    | 1, _ => exact n 6 (by simp)
    | 2, _ => exact n 7 (by simp)
    | 3, _ => exact n 8 (by simp)
    | 4, _ => exact n 9 (by simp)
    | 5, _ => exact n 10 (by simp)
  exact ⟨cOK_fr h f5 hb.f, (cF_fr h f5).trans hb.F, xOK_fr h (n 1 (by simp)) (n 2 (by simp)) hb.x, (cX_fr h (n 1 (by simp)) (n 2 (by simp))).trans hb.X, PP_fr h (n 18 (by simp)) (n 19 (by simp)) hb.P, hb.rs, (h.R (n 0 (by simp)) 11).trans hb.r1, (h.R (n 0 (by simp)) 12).trans hb.r2, RC_fr h (n r (by simp)) (n (r + 1) (by simp)) hb.rc, hOK_fr h (n 32 (by simp)) (n 33 (by simp)) (n 34 (by simp)) hb.h, (hL_fr h (n 32 (by simp)) (n 33 (by simp)) (n 34 (by simp))).trans hb.H, sOK_fr h (n 35 (by simp)) (n 36 (by simp)) (n 37 (by simp)) (n 38 (by simp)) hb.s, (sL_fr h (n 35 (by simp)) (n 36 (by simp)) (n 37 (by simp)) (n 38 (by simp))).trans hb.S, fromOK_fr h (n 21 (by simp)) hb.fr, hushOK_fr h (n 41 (by simp)) (n 44 (by simp)) hb.hu⟩
theorem CB.r {σ : Sto} {A : AS} {r s : Nat} (hb : CB σ A r s) : r = 46 ∨ r = 49 := by rcases hb.rs with h | h <;> simp [h.1]
theorem CB.sS {σ : Sto} {A : AS} {r s : Nat} (hb : CB σ A r s) {τ : Sto} (h : Fr lS σ τ) : CB τ A r s := by
  refine hb.fr1 h ?_
  rcases hb.rs with h | h <;> (obtain ⟨rfl, rfl⟩ := h; decide)
theorem CB.R {σ : Sto} {A : AS} {r s : Nat} (hb : CB σ A r s) (x : List Int64) : CB σ (A.wR x) r s := hb
/-- a question's end: scratch places and the row -/
theorem cv_end {σ τ : Sto} {A : AS} {r s : Nat} (hb : CB σ A r s) (h : Fr lS σ τ) {x : List Int64} (ht : tOK τ) (e : tR τ = x) : CV τ (A.wR x) ∧ Fr lC σ τ :=
  ⟨⟨⟨r, s, (hb.sS h).R x⟩, ht, e⟩, h.C (by decide)⟩
theorem cv_same {σ τ : Sto} {A : AS} {r s : Nat} (hb : CB σ A r s) (ht : tOK σ) (e : tR σ = A.R) {l : List Nat} (h : Fr l σ τ) (hl : l.all (fun a => lS.contains a) = true) (h3 : l.contains 3 = false) (h4 : l.contains 4 = false) : CV τ A ∧ Fr lC σ τ := by
  have n3 : 3 ∉ l := fun q => by rw [List.contains_iff_mem.mpr q] at h3; exact Bool.noConfusion h3
  have n4 : 4 ∉ l := fun q => by rw [List.contains_iff_mem.mpr q] at h4; exact Bool.noConfusion h4
  exact ⟨⟨⟨r, s, hb.sS (h.up lS hl)⟩, tOK_fr h n3 n4 ht, (tR_fr h n3 n4).trans e⟩, (h.up lS hl).C (by decide)⟩
/-- a call of the class: its answer, what it keeps -/
def CC (k : Nat) (M : Mt) (args : List Value) (A : AS) (v : Value) (B : AS) : Prop := ∀ σ, CV σ A → EvM k M (.ref 0 :: args) σ (fun w τ => w = some v ∧ CV τ B ∧ Fr lC σ τ)
theorem nmem {l : List Nat} {a : Nat} (h : (!l.contains a) = true) : a ∉ l := fun q => by rw [List.contains_iff_mem.mpr q] at h; exact Bool.noConfusion h
theorem CB.kF {l : List Nat} {σ τ : Sto} {A : AS} {r s : Nat} (hb : CB σ A r s) (h : Fr l σ τ) (hl : [5, 6, 7, 8, 9, 10].all (fun a => !l.contains a) = true) : cOK τ 5 ∧ cF τ 5 = A.F := by
  have n := fun a (ha : a ∈ [5, 6, 7, 8, 9, 10]) => nmem (List.all_eq_true.mp hl a ha)
  have f5 : ∀ j, j < 6 → 5 + j ∉ l := by
    intro j hj
    match j, hj with
    | 0, _ => exact n 5 (by simp)
    | 1, _ => exact n 6 (by simp)
    | 2, _ => exact n 7 (by simp)
    | 3, _ => exact n 8 (by simp)
    | 4, _ => exact n 9 (by simp)
    | 5, _ => exact n 10 (by simp)
  exact ⟨cOK_fr h f5 hb.f, (cF_fr h f5).trans hb.F⟩
theorem CB.kX {l : List Nat} {σ τ : Sto} {A : AS} {r s : Nat} (hb : CB σ A r s) (h : Fr l σ τ) (h1 : (!l.contains 1) = true) (h2 : (!l.contains 2) = true) : xOK τ ∧ cX τ = A.X := ⟨xOK_fr h (nmem h1) (nmem h2) hb.x, (cX_fr h (nmem h1) (nmem h2)).trans hb.X⟩
theorem CB.kP {l : List Nat} {σ τ : Sto} {A : AS} {r s : Nat} (hb : CB σ A r s) (h : Fr l σ τ) (h1 : (!l.contains 18) = true) (h2 : (!l.contains 19) = true) : PP τ A.U A.K := PP_fr h (nmem h1) (nmem h2) hb.P
theorem CB.kH {l : List Nat} {σ τ : Sto} {A : AS} {r s : Nat} (hb : CB σ A r s) (h : Fr l σ τ) (h1 : (!l.contains 32) = true) (h2 : (!l.contains 33) = true) (h3 : (!l.contains 34) = true) : hOK τ ∧ hL τ = A.H := ⟨hOK_fr h (nmem h1) (nmem h2) (nmem h3) hb.h, (hL_fr h (nmem h1) (nmem h2) (nmem h3)).trans hb.H⟩
theorem CB.kS {l : List Nat} {σ τ : Sto} {A : AS} {r s : Nat} (hb : CB σ A r s) (h : Fr l σ τ) (h1 : (!l.contains 35) = true) (h2 : (!l.contains 36) = true) (h3 : (!l.contains 37) = true) (h4 : (!l.contains 38) = true) : sOK τ ∧ sL τ = A.S := ⟨sOK_fr h (nmem h1) (nmem h2) (nmem h3) (nmem h4) hb.s, (sL_fr h (nmem h1) (nmem h2) (nmem h3) (nmem h4)).trans hb.S⟩
theorem CB.gen {l : List Nat} {σ τ : Sto} {A : AS} {r s : Nat} (hb : CB σ A r s) (h : Fr l σ τ) {B : AS} (hF : cOK τ 5 ∧ cF τ 5 = B.F) (hX : xOK τ ∧ cX τ = B.X) (hP : PP τ B.U B.K) (he : B.ev = A.ev) (hH : hOK τ ∧ hL τ = B.H) (hS : sOK τ ∧ sL τ = B.S)
    (hl : ([0, 21, 41, 44, 46, 47, 49, 50].all (fun a => !l.contains a)) = true) : CB τ B r s := by
  have n := fun a (ha : a ∈ [0, 21, 41, 44, 46, 47, 49, 50]) => nmem (List.all_eq_true.mp hl a ha)
  refine ⟨hF.1, hF.2, hX.1, hX.2, hP, hb.rs, (h.R (n 0 (by simp)) 11).trans hb.r1, (h.R (n 0 (by simp)) 12).trans hb.r2, ?_, hH.1, hH.2, hS.1, hS.2, fromOK_fr h (n 21 (by simp)) hb.fr, hushOK_fr h (n 41 (by simp)) (n 44 (by simp)) hb.hu⟩
  rw [he]
  rcases hb.r with rfl | rfl
  · exact RC_fr h (n 46 (by simp)) (n 47 (by simp)) hb.rc
  · exact RC_fr h (n 49 (by simp)) (n 50 (by simp)) hb.rc
