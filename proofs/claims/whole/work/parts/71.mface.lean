/-! the model's face: what it holds, as the class does -/
def lMs : List Nat := [56, 57, 59, 60, 62, 63, 64, 65, 66, 67, 68, 69, 70, 71, 72, 77, 78, 79]
def jMs : List Nat := [6, 7, 8, 9, 10, 11, 12, 17, 29, 42]
def lM : List Nat := (List.range 31).map (fun i => 52 + i)
def XV (σ : Sto) (X : Nat × (Nat → Int32)) : Prop := gI σ 52 4 = nI X.1 ∧ X.1 ≤ 80 ∧ (∀ i, i < X.1 → ∃ c, c < 256 ∧ X.2 i = nI c ∧ gA σ 55 i = b8 (nI c)) ∧ xEnd X
def KV (σ : Sto) (n : Nat) (K : Nat → Option (Nat → Int32)) : Prop := ∃ m, gI σ 52 43 = nI m ∧ m ≤ n ∧ (∀ i, i < 2 → (gA σ 81 i = 0 ∨ gA σ 81 i = 1) ∧ (∃ c, c ≤ m ∧ gA σ 82 i = nI c) ∧ K i = if gA σ 81 i = 1 ∧ gA σ 82 i = nI m then some (seg (gA σ 80) i) else none) ∧ ∀ i, 2 ≤ i → K i = none
def HV (σ : Sto) (H : List (Int32 × Int32)) : Prop := gI σ 52 35 = nI H.length ∧ H.length ≤ 12 ∧ ∀ j, j < H.length → H[j]? = some (gA σ 73 j, gA σ 74 j)
def SV (σ : Sto) (S : List W3) : Prop := gI σ 52 38 = nI S.length ∧ S.length ≤ 10 ∧ ∀ j, j < S.length → ∃ v f c, v < 10 ∧ f < 10 ∧ c < 2 ∧ S[j]? = some (nI v, nI f, nI c) ∧ gA σ 75 j = nI (10 * v + f) ∧ gA σ 76 j = nI c
def MVc (σ : Sto) (A : AS) : Prop := (gI σ 52 1 = nI (fN A.F) ∧ mF σ 53 = A.F ∧ fOK A.F) ∧ XV σ A.X ∧ UV σ A.U ∧ KV σ (fN A.F) A.K ∧ HV σ A.H ∧ SV σ A.S ∧ (gR σ 52 14 = 59 ∧ gR σ 52 15 = 60) ∧ MRu σ A.ev
def MV (σ : Sto) (A : AS) : Prop := MVc σ A ∧ rOK σ ∧ mRw σ = A.R
theorem MVc.ok {σ : Sto} {A : AS} (h : MVc σ A) : fOK A.F := h.1.2.2
theorem MVc.n7 {σ : Sto} {A : AS} (h : MVc σ A) : fN A.F ≤ 7 := h.1.2.2.1.1
theorem MVc.mok {σ : Sto} {A : AS} (h : MVc σ A) : mOK σ 53 := ⟨by rw [h.1.2.1]; exact h.1.1, by rw [h.1.2.1]; exact h.ok.1⟩
theorem MVc.F {σ : Sto} {A : AS} (h : MVc σ A) : mF σ 53 = A.F := h.1.2.1
theorem MVc.n {σ : Sto} {A : AS} (h : MVc σ A) : gI σ 52 1 = nI (fN A.F) := h.1.1
theorem MVc.x {σ : Sto} {A : AS} (h : MVc σ A) : XV σ A.X := h.2.1
theorem MVc.u {σ : Sto} {A : AS} (h : MVc σ A) : UV σ A.U := h.2.2.1
theorem MVc.k {σ : Sto} {A : AS} (h : MVc σ A) : KV σ (fN A.F) A.K := h.2.2.2.1
theorem MVc.h {σ : Sto} {A : AS} (h : MVc σ A) : HV σ A.H := h.2.2.2.2.1
theorem MVc.s {σ : Sto} {A : AS} (h : MVc σ A) : SV σ A.S := h.2.2.2.2.2.1
theorem MVc.r {σ : Sto} {A : AS} (h : MVc σ A) : gR σ 52 14 = 59 := h.2.2.2.2.2.2.1.1
theorem MVc.r5 {σ : Sto} {A : AS} (h : MVc σ A) : gR σ 52 15 = 60 := h.2.2.2.2.2.2.1.2
theorem MVc.ru {σ : Sto} {A : AS} (h : MVc σ A) : MRu σ A.ev := h.2.2.2.2.2.2.2
theorem XV.go {σ τ : Sto} {X : Nat × (Nat → Int32)} (h : XV σ X) {l js : List Nat} (hf : FM l js σ τ) (hj : (!js.contains 4) = true) (hl : (!(52 :: l).contains 55) = true) : XV τ X := by
  unfold XV
  rw [hf.i 4 hj, hf.a 55 hl]
  exact h
theorem KV.go {σ τ : Sto} {n : Nat} {K : Nat → Option (Nat → Int32)} (h : KV σ n K) {l js : List Nat} (hf : FM l js σ τ) (hj : (!js.contains 43) = true) (h1 : (!(52 :: l).contains 80) = true) (h2 : (!(52 :: l).contains 81) = true) (h3 : (!(52 :: l).contains 82) = true) : KV τ n K := by
  unfold KV
  rw [hf.i 43 hj, hf.a 80 h1, hf.a 81 h2, hf.a 82 h3]
  exact h
theorem HV.go {σ τ : Sto} {H : List (Int32 × Int32)} (h : HV σ H) {l js : List Nat} (hf : FM l js σ τ) (hj : (!js.contains 35) = true) (h1 : (!(52 :: l).contains 73) = true) (h2 : (!(52 :: l).contains 74) = true) : HV τ H := by
  unfold HV
  rw [hf.i 35 hj, hf.a 73 h1, hf.a 74 h2]
  exact h
theorem SV.go {σ τ : Sto} {S : List W3} (h : SV σ S) {l js : List Nat} (hf : FM l js σ τ) (hj : (!js.contains 38) = true) (h1 : (!(52 :: l).contains 75) = true) (h2 : (!(52 :: l).contains 76) = true) : SV τ S := by
  unfold SV
  rw [hf.i 38 hj, hf.a 75 h1, hf.a 76 h2]
  exact h
theorem MRu.go8 {σ τ : Sto} {ev : (Nat → Int32) → Int32} (h : MRu σ ev) (h14 : gR σ 52 14 = 59) {l js : List Nat} (hf : FM l js σ τ) (hj : (!js.contains 14 && !js.contains 16) = true) (hl : (!(52 :: l).contains 58) = true) : MRu τ ev := by
  simp only [Bool.and_eq_true] at hj
  obtain ⟨a, t, h1, h2, h3, h4, h5⟩ := h
  have a58 : a = 58 := by rw [h14] at h2; omega
  subst a58
  have ha : gA τ 58 = gA σ 58 := hf.a 58 hl
  refine ⟨58, t, h1, (hf.r 14 hj.1).trans h2, (hf.i 16 hj.2).trans h3, h4, ?_⟩
  unfold MB
  rw [ha]
  exact h5
theorem MVc.gen {σ τ : Sto} {A B : AS} (h : MVc σ A) {l js : List Nat} (hf : FM l js σ τ) (hF : gI τ 52 1 = nI (fN B.F) ∧ mF τ 53 = B.F ∧ fOK B.F) (hX : XV τ B.X) (hU : UV τ B.U) (hK : KV τ (fN B.F) B.K) (hH : HV τ B.H) (hS : SV τ B.S) (he : B.ev = A.ev) (hj : (!js.contains 14 && !js.contains 16 && !js.contains 15) = true) (hl : (!(52 :: l).contains 58) = true) : MVc τ B := by
  rw [Bool.and_eq_true] at hj
  refine ⟨hF, hX, hU, hK, hH, hS, ?_, by rw [he]; exact h.ru.go8 h.r hf hj.1 hl⟩
  rw [Bool.and_eq_true] at hj
  exact ⟨(hf.r 14 hj.1.1).trans h.r, (hf.r 15 hj.2).trans h.r5⟩
theorem MVc.kF {σ τ : Sto} {A : AS} (h : MVc σ A) {l js : List Nat} (hf : FM l js σ τ) (h1 : (!js.contains 1) = true) (h2 : (!(52 :: l).contains 54) = true) (h3 : (!(52 :: l).contains 53) = true) : gI τ 52 1 = nI (fN A.F) ∧ mF τ 53 = A.F ∧ fOK A.F := ⟨(hf.i 1 h1).trans h.n, (mF_fr hf h1 h2 h3).trans h.F, h.ok⟩
theorem MVc.fr {σ τ : Sto} {A : AS} (h : MVc σ A) (hf : FM lMs jMs σ τ) : MVc τ A := h.gen hf (h.kF hf (by decide) (by decide) (by decide)) (h.x.go hf (by decide) (by decide)) (h.u.go hf (by decide) (by decide)) (h.k.go hf (by decide) (by decide) (by decide) (by decide)) (h.h.go hf (by decide) (by decide) (by decide)) (h.s.go hf (by decide) (by decide) (by decide)) rfl (by decide) (by decide)
theorem FM.fr {l js : List Nat} {σ τ : Sto} (h : FM l js σ τ) (hl : (52 :: l).all (fun a => lM.contains a) = true) : Fr lM σ τ := h.1.up lM hl
def MC (k : Nat) (M : Mt) (args : List Value) (A : AS) (v : Value) (B : AS) : Prop := ∀ σ, MV σ A → EvM k M (.ref 52 :: args) σ (fun w τ => w = some v ∧ MV τ B ∧ Fr lM σ τ)
theorem mv_end {σ τ : Sto} {A : AS} (h : MVc σ A) (hf : FM lMs jMs σ τ) {x : List Int64} (hr : rOK τ) (e : mRw τ = x) : MV τ (A.wR x) ∧ Fr lM σ τ := ⟨⟨h.fr hf, hr, e⟩, hf.fr (by decide)⟩
theorem rw_fr {l js : List Nat} {σ τ : Sto} (h : FM l js σ τ) (h1 : (!js.contains 6) = true) (h2 : (!(52 :: l).contains 56) = true) : mRw τ = mRw σ ∧ (rOK σ → rOK τ) := by
  have e : mRw τ = mRw σ := by unfold mRw; rw [h.i 6 h1, h.j 56 h2]
  refine ⟨e, fun ho => ?_⟩
  unfold rOK
  rw [e, h.i 6 h1]
  exact ho
theorem mv_same {σ τ : Sto} {A : AS} (h : MV σ A) {l js : List Nat} (hf : FM l js σ τ) (hl : l.all (fun a => lMs.contains a) = true) (hj : js.all (fun a => jMs.contains a) = true) (h1 : (!js.contains 6) = true) (h2 : (!(52 :: l).contains 56) = true) : MV τ A ∧ Fr lM σ τ := by
  obtain ⟨e, k⟩ := rw_fr hf h1 h2
  have hf' := hf.up lMs jMs hl hj
  exact ⟨⟨h.1.fr hf', k h.2.1, e.trans h.2.2⟩, hf'.fr (by decide)⟩
theorem row_0 (σ : Sto) : rOK (sI σ 52 6 0) ∧ mRw (sI σ 52 6 0) = [] := by
  have e : mRw (sI σ 52 6 0) = [] := by
    unfold mRw
    rw [gI_sI, if_pos ⟨rfl, rfl⟩]
    rfl
  refine ⟨⟨?_, ?_⟩, e⟩
  · rw [e, gI_sI, if_pos ⟨rfl, rfl⟩]; rfl
  · rw [e]; exact Nat.zero_le _
def t0S (σ : Sto) : Sto := sI σ 52 7 0
theorem t0_fm (σ : Sto) : FM [] [7] σ (t0S σ) := FM.rf.sI (by decide)
theorem mv_t0 {σ : Sto} {A : AS} (h : MV σ A) : MV (t0S σ) A ∧ Fr lM σ (t0S σ) := mv_same h (t0_fm σ) (by decide) (by decide) (by decide) (by decide)
/-! calls that only look -/
theorem ev_voices (k : Nat) (σ : Sto) (ho : mOK σ 53) : EvM k M_X12_voices [.ref 52] σ (fun v τ => τ = σ ∧ v = some (.int (sumS (fN (mF σ 53)) (fVo (mF σ 53))))) := by
  obtain ⟨hn, h7, -⟩ := ho
  obtain ⟨-, rVo, -⟩ := mF_rd σ 53
  generalize mF σ 53 = F at *
  refine EvM.of mk_X12_voices (Nat.le_of_ble_eq_true rfl) ?_
  refine wpW K_X12_voices [4] 20 ?_
  refine loopI (α := Int32) 4 (fun i x => [some (.ref 52), some (.int x), some (.int (nI i))]) (fun _ => σ) (fun i x => x = sumS i (fVo F)) (fN F) ?_ ?_ 0 0 (Nat.zero_le _) rfl
  · intro i x hi hI go
    refine wpW K_X12_voices [4] 30 ?_
    refine ⟨fun h => ?_, fun h => ⟨in7 (by omega), ?_⟩⟩
    · rw [hn, le_of_nI (by omega) (by omega)] at h; omega
    · exact go _ _ _ (by rw [← nI_1]; rfl) rfl (by rw [sumS, fo, ← sumS, ← hI, rVo i (by omega)])
  · intro x hI
    refine wpW K_X12_voices [4] 30 ?_
    refine ⟨fun h => ⟨rfl, by rw [hI]⟩, fun h => ?_⟩
    rw [hn, le_of_nI (by omega) (by omega)] at h; omega
