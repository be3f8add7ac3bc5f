/-! who stands where along the dyke -/
def hearS (F : FS) (c : Nat) (v : Int32) : Int32 := fo (fun i b => if v < absS (fPl F i - fPl F c) then b else b ||| bt i) 0 (fN F)
theorem ev_hearers (k : Nat) (σ : Sto) (hc : cOK σ 5) (c : Nat) (hcc : c < 7) (v : Int32) : EvM (k + 2) M_X0_hearers [.ref 5, .int (nI c), .int v] σ (fun r τ => τ = σ ∧ r = some (.int (hearS (cF σ 5) c v))) := by
  have hfar := fun a ha => ev_far k σ 5 (Or.inl rfl) a c ha hcc
  obtain ⟨hn, h7, -⟩ := hc
  generalize cF σ 5 = F at *
  refine EvM.of mk_X0_hearers (Nat.le_of_ble_eq_true rfl) ?_
  refine wpW K_X0_hearers [5] 10 ?_
  refine loopI (α := Int32) 5 (fun i b => [some (.ref 5), some (.int (nI c)), some (.int v), some (.int b), some (.int (nI i))]) (fun _ => σ) (fun i b => b = fo (fun i b => if v < absS (fPl F i - fPl F c) then b else b ||| bt i) 0 i) (fN F) ?_ ?_ 0 0 (Nat.zero_le _) rfl
  · intro i b hi hI go
    refine wpW K_X0_hearers [5] 40 ?_
    refine ⟨fun h => ?_, fun h => ⟨_, hfar i (by omega), ?_⟩⟩
    · rw [hn, le_of_nI (by omega) (by omega)] at h; omega
    · rintro z τ ⟨h9, rfl⟩
      obtain rfl := h9.symm
      refine ⟨fun c => ?_, fun c => ?_⟩
      · exact go b _ _ (by rw [← nI_1 i]; rfl) rfl (by rw [fo, ← hI, if_pos c])
      · exact go (b ||| bt i) _ _ (by rw [← nI_1 i]; rfl) rfl (by rw [fo, ← hI, if_neg c])
  · intro b hI
    refine wpW K_X0_hearers [5] 40 ?_
    refine ⟨fun h => ⟨rfl, by rw [hearS, ← hI]⟩, fun h => ?_⟩
    rw [hn, le_of_nI (by omega) (by omega)] at h; omega
def heardS (n : Nat) (row : Nat → Int32) (c : Int32) : Int32 := fo (fun i b => if bit1 c i then b ||| row i else b) 0 n
theorem ev_heardBy (k : Nat) (σ : Sto) (n : Nat) (hn : n ≤ 7) (c : Int32) : EvM k M_X0_heardBy [.ref 28, .int (nI n), .int c] σ (fun r τ => τ = σ ∧ r = some (.int (heardS n (gA σ 29) c))) := by
  refine EvM.of mk_X0_heardBy (Nat.le_of_ble_eq_true rfl) ?_
  refine wpW K_X0_heardBy [5] 10 ?_
  refine loopI (α := Int32) 5 (fun i b => [some (.ref 28), some (.int (nI n)), some (.int c), some (.int b), some (.int (nI i))]) (fun _ => σ) (fun i b => b = fo (fun i b => if bit1 c i then b ||| gA σ 29 i else b) 0 i) n ?_ ?_ 0 0 (Nat.zero_le _) rfl
  · intro i b hi hI go
    refine wpW K_X0_heardBy [5] 40 ?_
    refine ⟨fun h => ?_, fun h => ⟨fun q => ?_, fun q => ⟨in7 (by omega), ?_⟩⟩⟩
    · rw [le_of_nI (by omega) (by omega)] at h; omega
    · refine go b _ _ (by rw [← nI_1 i]; rfl) rfl (by rw [fo, ← hI, show bit1 c i = false from decide_eq_false q]; rfl)
    · rw [nI_clamp (by omega)]
      exact go (b ||| gA σ 29 i) _ _ (by rw [← nI_1 i]; rfl) rfl (by rw [fo, ← hI, show bit1 c i = true from decide_eq_true q]; rfl)
  · intro b hI
    refine wpW K_X0_heardBy [5] 40 ?_
    refine ⟨fun h => ⟨rfl, by rw [heardS, ← hI]⟩, fun h => ?_⟩
    rw [le_of_nI (by omega) (by omega)] at h; omega
def allS (n : Nat) : Int32 := (1 : Int32) <<< (nI n &&& 31) - 1
theorem all_nI : ∀ n, n ≤ 7 → allS n = nI (2 ^ n - 1) := by decide
theorem pow7 {n : Nat} (h : n ≤ 7) : 2 ^ n ≤ 128 ∧ 1 ≤ 2 ^ n := ⟨Nat.pow_le_pow_right (by decide) h, Nat.one_le_two_pow⟩
def crowS (F : FS) (v : Int32) : Nat → Int32 := fun i => hearS F i v
def crierS (F : FS) (v : Int32) : Int32 := fo (fun m best => if bcS (nI m) < bcS best ∧ heardS (fN F) (crowS F v) (nI m) = allS (fN F) then nI m else best) (allS (fN F)) (2 ^ fN F - 1)
theorem heardS_congr {n : Nat} {r r' : Nat → Int32} {c : Int32} (h : ∀ i, i < n → r i = r' i) : heardS n r c = heardS n r' c := fo_congr (fun i hi x => by rw [h i hi])
theorem ev_fewestCriers (k : Nat) (σ : Sto) (hc : cOK σ 5) (v : Int32) : EvM (k + 3) M_X0_fewestCriers [.ref 28, .ref 5, .int v] σ (fun r τ => r = some (.int (crierS (cF σ 5) v)) ∧ Fr [29] σ τ) := by
  have hh : ∀ τ i, Fr [29] σ τ → i < 7 → EvM (k + 2) M_X0_hearers [.ref 5, .int (nI i), .int v] τ (fun r υ => υ = τ ∧ r = some (.int (hearS (cF σ 5) i v))) := by
    intro τ i h hi
    have e := cF_fr (f := 5) h (by decide)
    have := ev_hearers k τ (cOK_fr h (by decide) hc) i hi v
    rw [e] at this
    exact this
  have hsz : ∀ τ, Fr [29] σ τ → gI τ 5 5 = nI (fN (cF σ 5)) := fun τ h => by rw [h.I (by decide)]; exact hc.1
  have h7 := hc.2.1
  generalize cF σ 5 = F at *
  have hp := pow7 h7
  have ha := all_nI (fN F) h7
  refine EvM.of mk_X0_fewestCriers (Nat.le_of_ble_eq_true rfl) ?_
  -- the sets
  have L2 : ∀ τ, (∀ i, i < fN F → gA τ 29 i = crowS F v i) → Fr [29] σ τ → WW M_X0_fewestCriers (k + 3) (fun r τ => r = some (.int (crierS F v)) ∧ Fr [29] σ τ) 47 [some (.ref 28), some (.ref 5), some (.int v), some (.int (allS (fN F))), some (.int (allS (fN F))), some (.int (nI 0))] [] τ := by
    intro τ hrow hfr
    refine loopI (α := Int32) 47 (fun m b => [some (.ref 28), some (.ref 5), some (.int v), some (.int (allS (fN F))), some (.int b), some (.int (nI m))]) (fun _ => τ) (fun m b => b = fo (fun m best => if bcS (nI m) < bcS best ∧ heardS (fN F) (crowS F v) (nI m) = allS (fN F) then nI m else best) (allS (fN F)) m) (2 ^ fN F - 1) ?_ ?_ 0 (allS (fN F)) (Nat.zero_le _) rfl
    · intro m b hm hI go
      refine wpW K_X0_fewestCriers [47] 40 ?_
      refine ⟨fun h => ?_, fun _ => ⟨_, ev_bc _ _ _, ?_⟩⟩
      · rw [ha, le_of_nI (by omega) (by omega)] at h; omega
      · rintro z ω ⟨h9, rfl⟩
        obtain rfl := h9.symm
        refine ⟨_, ev_bc _ _ _, ?_⟩
        rintro z ω ⟨h9, rfl⟩
        obtain rfl := h9.symm
        refine ⟨fun q => ?_, fun q => ⟨_, by rw [hsz τ hfr]; exact ev_heardBy _ τ (fN F) h7 (nI m), ?_⟩⟩
        · exact go b _ _ (by rw [← nI_1 m]; rfl) rfl (by rw [fo, ← hI, if_neg (fun c => absurd c.1 (Int32.not_lt.mpr q))])
        · rintro z ω ⟨h9, rfl⟩
          obtain rfl := h9.symm
          rw [heardS_congr hrow]
          refine ⟨fun c => ?_, fun c => ?_⟩
          · exact go b _ _ (by rw [← nI_1 m]; rfl) rfl (by rw [fo, ← hI, if_neg (fun z => c z.2)])
          · exact go (nI m) _ _ (by rw [← nI_1 m]; rfl) rfl (by rw [fo, ← hI, if_pos ⟨Int32.not_le.mp q, c⟩])
    · intro b hI
      refine wpW K_X0_fewestCriers [47] 40 ?_
      refine ⟨fun h => ⟨by rw [crierS, ← hI], hfr⟩, fun h => ?_⟩
      exfalso; apply h
      rw [ha, le_of_nI (by omega) (by omega)]; omega
  have start : WW M_X0_fewestCriers (k + 3) (fun r τ => r = some (.int (crierS F v)) ∧ Fr [29] σ τ) 12 [some (.ref 28), some (.ref 5), some (.int v), some (.int (allS (fN F))), some (.int (nI 0)), none] [] σ := by
    refine loopI (α := Sto) 12 (fun i a => [some (.ref 28), some (.ref 5), some (.int v), some (.int (allS (fN F))), some (.int (nI i)), none]) (fun a => a) (fun i a => (∀ j, j < i → gA a 29 j = crowS F v j) ∧ Fr [29] σ a) (fN F) ?_ ?_ 0 σ (Nat.zero_le _) ⟨fun j hj => by omega, Fr.rf⟩
    · intro i τ hi hII go
      obtain ⟨q1, q2⟩ := hII
      refine wpW K_X0_fewestCriers [12] 40 ?_
      refine ⟨fun h => ?_, fun _ => ⟨_, hh τ i q2 (by omega), ?_⟩⟩
      · rw [hsz τ q2, le_of_nI (by omega) (by omega)] at h; omega
      · rintro z ω ⟨h9, rfl⟩
        obtain rfl := h9.symm
        refine ⟨in7 (by omega), go _ _ _ (by rw [← nI_1 i]; rfl) rfl ⟨fun j hj => ?_, Fr.sA q2 (by simp)⟩⟩
        show upd (gA τ 29) (nI i).toNatClampNeg (hearS F i v) j = _
        rw [nI_clamp (by omega)]
        by_cases e : j = i
        · subst e; exact pk_us
        · rw [pk_un e]; exact q1 j (by omega)
    · intro τ hII
      obtain ⟨q1, q2⟩ := hII
      refine wpW K_X0_fewestCriers [12, 47] 40 ?_
      refine ⟨fun h => L2 τ q1 q2, fun h => ?_⟩
      rw [hsz τ q2, le_of_nI (by omega) (by omega)] at h; omega
  have e0 : allS (fN F) = (1 : Int32) <<< (gI σ 5 5 &&& 31) - 1 := by rw [hsz σ Fr.rf]; rfl
  rw [e0] at start
  exact wpW K_X0_fewestCriers [12] 20 start
/-! the line -/
def linS (F : FS) (p : Nat) (i : Nat) (L : List Int32) : List Int32 := if fPl F i = nI p ∧ L.length < 7 then L ++ [nI i] else L
def lineS (F : FS) : List Int32 := fo (fun p L => fo (linS F p) L (fN F)) [] 10
def rowIs (g : Nat → Int32) (L : List Int32) : Prop := ∀ j x, L[j]? = some x → g j = x
theorem rowIs_push {g : Nat → Int32} {L : List Int32} {x : Int32} (h : rowIs g L) : rowIs (upd g L.length x) (L ++ [x]) := by
  intro j y hj
  by_cases e : j < L.length
  · rw [List.getElem?_append_left e] at hj
    rw [pk_un (by omega)]; exact h j y hj
  · have hlt := (List.getElem?_eq_some_iff.mp hj).1
    rw [List.length_append] at hlt
    have : j = L.length := by simp at hlt; omega
    subst this
    rw [List.getElem?_append_right (Nat.le_refl _), Nat.sub_self] at hj
    cases hj
    exact pk_us
theorem ev_linesUp (k : Nat) (σ : Sto) (hc : cOK σ 5) : EvM k M_X0_linesUp [.ref 28, .ref 5] σ (fun r τ => r = none ∧ rowIs (gA τ 29) (lineS (cF σ 5)) ∧ Fr [29] σ τ) := by
  have hsz : ∀ τ, Fr [29] σ τ → gI τ 5 5 = nI (fN (cF σ 5)) := fun τ h => by rw [h.I (by decide)]; exact hc.1
  have h7 := hc.2.1
  have hpl : ∀ τ i, Fr [29] σ τ → i < 7 → gA τ (5 + 1) (nI i).toNatClampNeg = fPl (cF σ 5) i := fun τ i h hi => by rw [h.A (by decide)]; exact (cF_rd σ 5).1 i hi
  generalize cF σ 5 = F at *
  refine EvM.of mk_X0_linesUp (Nat.le_of_ble_eq_true rfl) ?_
  refine wpW K_X0_linesUp [4] 10 ?_
  refine loopI (α := List Int32 × Sto × Option Value) 4 (fun p a => [some (.ref 28), some (.ref 5), some (.int (nI a.1.length)), some (.int (nI p)), a.2.2]) (fun a => a.2.1) (fun p a => a.1 = fo (fun p L => fo (linS F p) L (fN F)) [] p ∧ a.1.length ≤ 7 ∧ rowIs (gA a.2.1 29) a.1 ∧ Fr [29] σ a.2.1) 10 ?_ ?_ 0 ([], σ, none) (Nat.zero_le _) ⟨rfl, by simp, fun j x h => by simp at h, Fr.rf⟩
  · rintro p ⟨L, τ, y4⟩ hp ⟨hI, hl7, hrow, hfr⟩ go
    simp only at hI hl7 hrow hfr
    refine wpW K_X0_linesUp [4, 13] 20 ?_
    refine ⟨fun h => ?_, fun _ => ?_⟩
    · rw [show (10 : Int32) = nI 10 from rfl, le_of_nI (by omega) (by omega)] at h; omega
    · refine loopI (α := List Int32 × Sto) 13 (fun i a => [some (.ref 28), some (.ref 5), some (.int (nI a.1.length)), some (.int (nI p)), some (.int (nI i))]) (fun a => a.2) (fun i a => a.1 = fo (linS F p) L i ∧ a.1.length ≤ 7 ∧ rowIs (gA a.2 29) a.1 ∧ Fr [29] σ a.2) (fN F) ?_ ?_ 0 (L, τ) (Nat.zero_le _) ⟨rfl, hl7, hrow, hfr⟩
      · rintro i ⟨L2, υ⟩ hi ⟨hII, hl, hr, hf⟩ go2
        simp only at hII hl hr hf
        have e1 := hpl υ i hf (by omega)
        have estep : fo (linS F p) L (i + 1) = linS F p i L2 := by rw [fo, ← hII]
        refine wpW K_X0_linesUp [4, 13] 40 ?_
        refine ⟨fun h => ?_, fun _ => ⟨in7 (by omega), fun c => ?_, fun c => ⟨fun d => ?_, fun d => ?_⟩⟩⟩
        · rw [hsz υ hf, le_of_nI (by omega) (by omega)] at h; omega
        · rw [e1] at c
          exact go2 (L2, υ) _ _ (by rw [← nI_1 i]; rfl) rfl ⟨by rw [estep, linS, if_neg (fun z => c z.1)], hl, hr, hf⟩
        · replace d : nI 7 ≤ nI L2.length := d
          rw [le_of_nI (by omega) (by omega)] at d
          exact go2 (L2, υ) _ _ (by rw [← nI_1 i]; rfl) rfl ⟨by rw [estep, linS, if_neg (fun z => by omega)], hl, hr, hf⟩
        · rw [e1] at c
          replace d : ¬ nI 7 ≤ nI L2.length := d
          rw [le_of_nI (by omega) (by omega)] at d
          refine ⟨in7 (i := L2.length) (by omega), go2 (L2 ++ [nI i], _) _ _ (by rw [← nI_1 i, List.length_append, show [nI i].length = 1 from rfl, ← nI_1 L2.length]; rfl) rfl ⟨by rw [estep, linS, if_pos ⟨c, by omega⟩], by rw [List.length_append]; simp; omega, ?_, Fr.sA hf (by simp)⟩⟩
          show rowIs (upd (gA υ 29) (nI L2.length).toNatClampNeg (nI i)) _
          rw [nI_clamp (by omega)]
          exact rowIs_push hr
      · rintro ⟨L2, υ⟩ ⟨hII, hl, hr, hf⟩
        simp only at hII hl hr hf
        refine wpW K_X0_linesUp [4, 13] 40 ?_
        refine ⟨fun h => go (L2, υ, some (.int (nI (fN F)))) _ _ (by rw [← nI_1 p]; rfl) rfl ⟨by rw [fo, ← hI]; exact hII, hl, hr, hf⟩, fun h => ?_⟩
        rw [hsz υ hf, le_of_nI (by omega) (by omega)] at h; omega
  · rintro ⟨L, τ, y4⟩ ⟨hI, hl7, hrow, hfr⟩
    simp only at hI hl7 hrow hfr
    refine wpW K_X0_linesUp [4] 20 ?_
    refine ⟨fun h => ⟨rfl, by rw [lineS, ← hI]; exact hrow, hfr⟩, fun h => absurd (by decide) h⟩
