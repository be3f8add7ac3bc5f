/-! what was seen; laws -/
abbrev W3 : Type := Int32 × Int32 × Int32
def sL (σ : Sto) : List W3 := (List.range (gI σ 35 5).toNatClampNeg).map (fun i => (gA σ 36 i, gA σ 37 i, gA σ 38 i))
def sOK (σ : Sto) : Prop := gI σ 35 5 = nI (sL σ).length ∧ (sL σ).length ≤ 10
theorem sL_fr {l : List Nat} {σ τ : Sto} (h : Fr l σ τ) (h1 : 35 ∉ l) (h2 : 36 ∉ l) (h3 : 37 ∉ l) (h4 : 38 ∉ l) : sL τ = sL σ := by
  unfold sL; rw [h.I h1, h.A h2, h.A h3, h.A h4]
theorem sOK_fr {l : List Nat} {σ τ : Sto} (h : Fr l σ τ) (h1 : 35 ∉ l) (h2 : 36 ∉ l) (h3 : 37 ∉ l) (h4 : 38 ∉ l) (ho : sOK σ) : sOK τ := by
  unfold sOK; rw [sL_fr h h1 h2 h3 h4, h.I h1]; exact ho
def sawS (l : List W3) (v f c : Int32) : Bool := !decide (v < 0) && !decide (9 < v) && !decide (f < 0) && !decide (9 < f) && !decide (c < 0) && !decide (1 < c) && decide (l.length < 10)
theorem ev_sees (k : Nat) (σ : Sto) (ho : sOK σ) (v f c : Int32) : EvM k M_X7_sees [.ref 35, .int v, .int f, .int c] σ (fun r τ => if sawS (sL σ) v f c then r = some (.int 1) ∧ sL τ = sL σ ++ [(v, f, c)] ∧ sOK τ ∧ Fr [35, 36, 37, 38] σ τ else r = some (.int 0) ∧ τ = σ) := by
  obtain ⟨hs, h12⟩ := ho
  have hdef : sL σ = (List.range (gI σ 35 5).toNatClampNeg).map (fun i => (gA σ 36 i, gA σ 37 i, gA σ 38 i)) := rfl
  have hok : ∀ τ, gI τ 35 5 = gI σ 35 5 + 1 → gA τ 36 = upd (gA σ 36) (gI σ 35 5).toNatClampNeg v → gA τ 37 = upd (gA σ 37) (gI σ 35 5).toNatClampNeg f → gA τ 38 = upd (gA σ 38) (gI σ 35 5).toNatClampNeg c → (sL σ).length < 10 → sL τ = sL σ ++ [(v, f, c)] ∧ sOK τ := by
    intro τ h1 h2 h3 h5 h4
    have hl : (gI σ 35 5).toNatClampNeg = (sL σ).length := by rw [hs]; exact nI_clamp (by omega)
    have e : sL τ = sL σ ++ [(v, f, c)] := by
      rw [hdef]
      unfold sL
      rw [h1, hs, nI_1, nI_clamp (by omega), nI_clamp (by omega)]
      rw [hl] at h2 h3 h5
      rw [List.range_succ, List.map_append]
      congr 1
      · apply List.map_congr_left
        intro i hi
        have := List.mem_range.mp hi
        rw [h2, h3, h5, pk_un (by omega), pk_un (by omega), pk_un (by omega)]
      · rw [List.map_singleton, h2, h3, h5, pk_us, pk_us, pk_us]
    refine ⟨e, ?_, by rw [e, List.length_append]; exact h4⟩
    rw [e, h1, hs, nI_1, List.length_append]; rfl
  refine EvM.of mk_X7_sees (Nat.le_of_ble_eq_true rfl) ?_
  generalize hg : (sL σ).length = s at *
  have hb : sawS (sL σ) v f c = (!decide (v < 0) && !decide (9 < v) && !decide (f < 0) && !decide (9 < f) && !decide (c < 0) && !decide (1 < c) && decide (s < 10)) := by rw [sawS, hg]
  rw [hb]
  refine wpW K_X7_sees [] 60 ?_
  refine ⟨fun h => ⟨Or.inl rfl, by simp [h]⟩, fun h1 => ⟨fun h => ⟨Or.inl rfl, by simp [h]⟩, fun h2 => ⟨fun h => ⟨Or.inl rfl, by simp [h]⟩, fun h3 => ⟨fun h => ⟨Or.inl rfl, by simp [h]⟩, fun h4 => ⟨fun h => ⟨Or.inl rfl, by simp [h]⟩, fun h5 => ⟨fun h => ⟨Or.inl rfl, by simp [h]⟩, fun h6 => ⟨fun h => absurd h (by rw [hs]; exact nI_pos (by omega)), fun _ => ⟨fun h7 => ?_, fun h7 => ⟨Or.inl rfl, ?_⟩⟩⟩⟩⟩⟩⟩⟩⟩
  · rw [hs, show (10 : Int32) = nI 10 from rfl, lt_of_nI (by omega) (by omega)] at h7
    refine ⟨by rw [hs]; exact inN h7 (by omega), by show vp_in (gI σ 35 5) 10; rw [hs]; exact inN h7 (by omega), by show vp_in (gI σ 35 5) 10; rw [hs]; exact inN h7 (by omega), Or.inr rfl, ?_⟩
    simp only [h1, h2, h3, h4, h5, h6, h7, decide_false, decide_true, Bool.not_false, Bool.and_self, if_true]
    obtain ⟨q1, q2⟩ := hok (sI (sA (sA (sA σ (35 + 1) (upd (gA σ (35 + 1)) (gI σ 35 5).toNatClampNeg v)) (35 + 2) (upd (gA σ (35 + 2)) (gI σ 35 5).toNatClampNeg f)) (35 + 3) (upd (gA σ (35 + 3)) (gI σ 35 5).toNatClampNeg c)) 35 5 (gI σ 35 5 + 1)) rfl rfl rfl rfl h7
    exact ⟨by trivial, q1, q2, (((Fr.rf.sA (by simp)).sA (by simp)).sA (by simp)).sI (by simp)⟩
  · rw [hs, show (10 : Int32) = nI 10 from rfl, lt_of_nI (by omega) (by omega)] at h7
    simp [h7]
def rchS (p v f : Int32) : Int32 := p / 4 * v - (p - p / 4 * 4) * f
theorem ev_reach (k : Nat) (σ : Sto) (p v f : Int32) : EvM k M_X7_reach [.int p, .int v, .int f] σ (fun r τ => τ = σ ∧ r = some (.int (rchS p v f))) := by
  refine EvM.of mk_X7_reach (Nat.le_of_ble_eq_true rfl) ?_
  refine wpW K_X7_reach [] 20 ?_
  exact ⟨by decide, by decide, rfl, rfl⟩
def lhS (p : Int32) (st : Int32 × Int32) (w : W3) : Int32 × Int32 := if w.2.2 = 1 then (st.1, minS st.2 (rchS p w.1 w.2.1)) else (maxS st.1 (rchS p w.1 w.2.1 + 1), st.2)
def loHi (l : List W3) (p : Nat) : Int32 × Int32 := l.foldl (lhS (nI p)) (0, 9)
def lawsN (l : List W3) : Int32 := fo (fun p s => s + maxS 0 ((loHi l p).2 - (loHi l p).1 + 1)) 0 16
theorem foldl_take {α β : Type} (g : β → α → β) (b : β) (l : List α) (i : Nat) (x : α) (h : l[i]? = some x) : (l.take (i + 1)).foldl g b = g ((l.take i).foldl g b) x := by
  rw [List.take_succ, h, List.foldl_append]
  rfl
theorem in16 {i : Nat} (h : i < 16) : vp_in (nI i) 16 := vp_in_nI h (by decide)
theorem ev_fitLaws (k : Nat) (σ : Sto) (ho : sOK σ) : EvM (k + 1) M_X7_fitLaws [.ref 35] σ (fun r τ => r = some (.int (lawsN (sL σ))) ∧ (∀ p, p < 16 → gA τ 39 p = (loHi (sL σ) p).1 ∧ gA τ 40 p = (loHi (sL σ) p).2) ∧ Fr [39, 40] σ τ) := by
  have hhs : ∀ τ, Fr [39, 40] σ τ → gI τ 35 5 = nI (sL σ).length ∧ gA τ 36 = gA σ 36 ∧ gA τ 37 = gA σ 37 ∧ gA τ 38 = gA σ 38 := fun τ h => ⟨by rw [h.I (by decide)]; exact ho.1, h.A (by decide), h.A (by decide), h.A (by decide)⟩
  have hel : ∀ i, i < (sL σ).length → (sL σ)[i]? = some (gA σ 36 (nI i).toNatClampNeg, gA σ 37 (nI i).toNatClampNeg, gA σ 38 (nI i).toNatClampNeg) := by
    intro i hi
    have hl : (sL σ).length = (gI σ 35 5).toNatClampNeg := by simp [sL]
    have := ho.2
    rw [nI_clamp (by omega)]
    unfold sL
    rw [List.getElem?_map, List.getElem?_range (by omega)]
    rfl
  have h10 := ho.2
  generalize sL σ = l at *
  refine EvM.of mk_X7_fitLaws (Nat.le_of_ble_eq_true rfl) ?_
  refine wpW K_X7_fitLaws [4] 10 ?_
  refine loopI (α := Int32 × Sto × Option Value × Option Value) 4 (fun i a => [some (.ref 35), some (.int a.1), some (.int (nI i)), a.2.2.1, a.2.2.2]) (fun a => a.2.1) (fun i a => a.1 = fo (fun p s => s + maxS 0 ((loHi l p).2 - (loHi l p).1 + 1)) 0 i ∧ (∀ p, p < i → gA a.2.1 39 p = (loHi l p).1 ∧ gA a.2.1 40 p = (loHi l p).2) ∧ Fr [39, 40] σ a.2.1) 16 ?_ ?_ 0 (0, σ, none, none) (Nat.zero_le _) ⟨rfl, fun p hp => by omega, Fr.rf⟩
  · rintro p ⟨b, τ, y3, y4⟩ hp ⟨hI, hlo, hfr⟩ go
    simp only at hI hlo hfr
    have cl : (nI p).toNatClampNeg = p := nI_clamp (by omega)
    have fin : ∀ υ z3 z4, (∀ q, q < p → gA υ 39 q = (loHi l q).1 ∧ gA υ 40 q = (loHi l q).2) → gA υ 39 p = (loHi l p).1 → gA υ 40 p = (loHi l p).2 → Fr [39, 40] σ υ → WW M_X7_fitLaws (k + 1) (fun r τ => r = some (.int (lawsN l)) ∧ (∀ p, p < 16 → gA τ 39 p = (loHi l p).1 ∧ gA τ 40 p = (loHi l p).2) ∧ Fr [39, 40] σ τ) 114 [some (.ref 35), some (.int b), some (.int (nI p)), z3, z4] [] υ := by
      intro υ z3 z4 k1 k2 k3 k4
      refine wpW K_X7_fitLaws [4] 40 ?_
      refine ⟨in16 hp, in16 hp, ?_⟩
      rw [cl, show (35 : Nat) + 4 = 39 from rfl, show (35 : Nat) + 5 = 40 from rfl, k2, k3]
      refine go (b + maxS 0 ((loHi l p).2 - (loHi l p).1 + 1), υ, z3, z4) _ _ (by rw [← nI_1]; rfl) rfl ⟨by rw [fo, ← hI], fun q hq => ?_, k4⟩
      by_cases e : q = p
      · subst e; exact ⟨k2, k3⟩
      · exact k1 q (by omega)
    refine wpW K_X7_fitLaws [4, 27] 40 ?_
    refine ⟨fun h => ?_, fun _ => ⟨in16 hp, in16 hp, ?_⟩⟩
    · rw [show (16 : Int32) = nI 16 from rfl, le_of_nI (by omega) (by omega)] at h; omega
    · refine loopI (α := Sto × Option Value) 27 (fun i a => [some (.ref 35), some (.int b), some (.int (nI p)), some (.int (nI i)), a.2]) (fun a => a.1) (fun i a => (∀ q, q < p → gA a.1 39 q = (loHi l q).1 ∧ gA a.1 40 q = (loHi l q).2) ∧ gA a.1 39 p = ((l.take i).foldl (lhS (nI p)) (0, 9)).1 ∧ gA a.1 40 p = ((l.take i).foldl (lhS (nI p)) (0, 9)).2 ∧ Fr [39, 40] σ a.1) l.length ?_ ?_ 0 (_, y4) (Nat.zero_le _) ?_
      · rintro i ⟨υ, z4⟩ hi ⟨k1, k2, k3, k4⟩ go2
        simp only at k1 k2 k3 k4
        obtain ⟨s1, s2, s3, s4⟩ := hhs υ k4
        have hx := hel i hi
        refine wpW K_X7_fitLaws [4, 27, 114] 60 ?_
        refine ⟨fun h => ?_, fun _ => ⟨fun h => ?_, fun _ => ⟨inN (by omega) (by omega), inN (by omega) (by omega), ?_⟩⟩⟩
        · rw [s1, le_of_nI (by omega) (by omega)] at h; omega
        · rw [show (10 : Int32) = nI 10 from rfl, le_of_nI (by omega) (by omega)] at h; omega
        · rw [show (35 : Nat) + 1 = 36 from rfl, show (35 : Nat) + 2 = 37 from rfl, s2, s3]
          refine ⟨_, ev_reach _ _ _ _ _, ?_⟩
          rintro z ω ⟨h9, rfl⟩
          obtain rfl := h9.symm
          refine ⟨inN (by omega) (by omega), ?_⟩
          rw [show (35 : Nat) + 3 = 38 from rfl, s4]
          have ef := foldl_take (lhS (nI p)) (0, 9) l i _ hx
          refine ⟨fun c => ⟨in16 hp, in16 hp, ?_⟩, fun c => ⟨in16 hp, in16 hp, ?_⟩⟩
          · refine go2 (_, some (.int (rchS (nI p) (gA σ 36 (nI i).toNatClampNeg) (gA σ 37 (nI i).toNatClampNeg)))) _ _ (by rw [← nI_1]; rfl) rfl ⟨fun q hq => ?_, ?_, ?_, Fr.sA k4 (by simp)⟩
            · show (upd (gA υ 39) (nI p).toNatClampNeg _ q = _) ∧ gA υ 40 q = _
              rw [cl, pk_un (by omega)]; exact k1 q hq
            · show upd (gA υ 39) (nI p).toNatClampNeg (maxS (gA υ 39 (nI p).toNatClampNeg) _) p = _
              rw [cl, pk_us, ef, lhS, if_neg c, k2]
            · show gA υ 40 p = _
              rw [ef, lhS, if_neg c, k3]
          · refine go2 (_, some (.int (rchS (nI p) (gA σ 36 (nI i).toNatClampNeg) (gA σ 37 (nI i).toNatClampNeg)))) _ _ (by rw [← nI_1]; rfl) rfl ⟨fun q hq => ?_, ?_, ?_, Fr.sA k4 (by simp)⟩
            · show gA υ 39 q = _ ∧ (upd (gA υ 40) (nI p).toNatClampNeg _ q = _)
              rw [cl, pk_un (by omega)]; exact k1 q hq
            · show gA υ 39 p = _
              rw [ef, lhS, if_pos c, k2]
            · show upd (gA υ 40) (nI p).toNatClampNeg (minS (gA υ 40 (nI p).toNatClampNeg) _) p = _
              rw [cl, pk_us, ef, lhS, if_pos c, k3]
      · rintro ⟨υ, z4⟩ ⟨k1, k2, k3, k4⟩
        simp only at k1 k2 k3 k4
        obtain ⟨s1, s2, s3, s4⟩ := hhs υ k4
        rw [List.take_length] at k2 k3
        refine wpW K_X7_fitLaws [4, 27, 114] 60 ?_
        refine ⟨fun h => fin υ _ _ k1 k2 k3 k4, fun h => ?_⟩
        rw [s1, le_of_nI (by omega) (by omega)] at h; omega
      · refine ⟨fun q hq => ?_, ?_, ?_, (Fr.sA hfr (by simp)).sA (by simp)⟩
        · show (upd (gA τ 39) (nI p).toNatClampNeg _ q = _) ∧ (upd (gA τ 40) (nI p).toNatClampNeg _ q = _)
          rw [cl, pk_un (by omega), pk_un (by omega)]; exact hlo q hq
        · show upd (gA τ 39) (nI p).toNatClampNeg _ p = _
          rw [cl, pk_us]; rfl
        · show upd (gA τ 40) (nI p).toNatClampNeg _ p = _
          rw [cl, pk_us]; rfl
  · rintro ⟨b, τ, y3, y4⟩ ⟨hI, hlo, hfr⟩
    simp only at hI hlo hfr
    refine wpW K_X7_fitLaws [4] 40 ?_
    refine ⟨fun h => ⟨by rw [lawsN, ← hI], hlo, hfr⟩, fun h => absurd (by decide) h⟩
def leastS (l : List W3) : Nat → Nat → Int32
  | 0, _ => -1
  | m + 1, p => if (loHi l p).2 < (loHi l p).1 then leastS l m (p + 1) else nI p
theorem ev_leastPair (k : Nat) (σ : Sto) (l : List W3) (hl : ∀ p, p < 16 → gA σ 39 p = (loHi l p).1 ∧ gA σ 40 p = (loHi l p).2) : EvM k M_X7_leastPair [.ref 35] σ (fun r τ => τ = σ ∧ r = some (.int (leastS l 16 0))) := by
  refine EvM.of mk_X7_leastPair (Nat.le_of_ble_eq_true rfl) ?_
  refine wpW K_X7_leastPair [2] 10 ?_
  refine loopI (α := Unit) 2 (fun i _ => [some (.ref 35), some (.int (nI i))]) (fun _ => σ) (fun i _ => leastS l (16 - i) i = leastS l 16 0) 16 ?_ ?_ 0 () (Nat.zero_le _) rfl
  · rintro p - hp hI go
    obtain ⟨m, hm⟩ : ∃ m, 16 - p = m + 1 := ⟨15 - p, by omega⟩
    have hm2 : 16 - (p + 1) = m := by omega
    rw [hm, leastS] at hI
    refine wpW K_X7_leastPair [2] 40 ?_
    refine ⟨fun h => ?_, fun _ => ⟨in16 hp, in16 hp, ?_⟩⟩
    · rw [show (16 : Int32) = nI 16 from rfl, le_of_nI (by omega) (by omega)] at h; omega
    · rw [nI_clamp (by omega), show (35 : Nat) + 4 = 39 from rfl, show (35 : Nat) + 5 = 40 from rfl, (hl p hp).1, (hl p hp).2]
      refine ⟨fun c => ?_, fun c => ⟨rfl, ?_⟩⟩
      · rw [if_pos c] at hI
        exact go () _ _ (by rw [← nI_1]; rfl) rfl (by rw [hm2]; exact hI)
      · rw [if_neg c] at hI
        rw [← hI]
  · rintro - hI
    refine wpW K_X7_leastPair [2] 40 ?_
    refine ⟨fun h => ⟨rfl, by rw [← hI]; rfl⟩, fun h => absurd (by decide) h⟩
def hearN (l : List W3) (v f : Int32) : Int32 := fo (fun p s => s + maxS 0 (minS (loHi l p).2 (rchS (nI p) v f) - (loHi l p).1 + 1)) 0 16
theorem ev_lawsThatHear (k : Nat) (σ : Sto) (l : List W3) (hl : ∀ p, p < 16 → gA σ 39 p = (loHi l p).1 ∧ gA σ 40 p = (loHi l p).2) (v f : Int32) : EvM (k + 1) M_X7_lawsThatHear [.ref 35, .int v, .int f] σ (fun r τ => τ = σ ∧ r = some (.int (hearN l v f))) := by
  refine EvM.of mk_X7_lawsThatHear (Nat.le_of_ble_eq_true rfl) ?_
  refine wpW K_X7_lawsThatHear [5] 10 ?_
  refine loopI (α := Int32 × Option Value) 5 (fun i a => [some (.ref 35), some (.int v), some (.int f), some (.int a.1), some (.int (nI i)), a.2]) (fun _ => σ) (fun i a => a.1 = fo (fun p s => s + maxS 0 (minS (loHi l p).2 (rchS (nI p) v f) - (loHi l p).1 + 1)) 0 i) 16 ?_ ?_ 0 (0, none) (Nat.zero_le _) rfl
  · rintro p ⟨b, y⟩ hp hI go
    simp only at hI
    refine wpW K_X7_lawsThatHear [5] 40 ?_
    refine ⟨fun h => ?_, fun _ => ⟨in16 hp, ⟨_, ev_reach _ _ _ _ _, ?_⟩⟩⟩
    · rw [show (16 : Int32) = nI 16 from rfl, le_of_nI (by omega) (by omega)] at h; omega
    · rintro z ω ⟨h9, rfl⟩
      obtain rfl := h9.symm
      refine ⟨in16 hp, ?_⟩
      rw [nI_clamp (by omega), show (35 : Nat) + 4 = 39 from rfl, show (35 : Nat) + 5 = 40 from rfl, (hl p hp).1, (hl p hp).2]
      exact go (b + maxS 0 (minS (loHi l p).2 (rchS (nI p) v f) - (loHi l p).1 + 1), some (.int (minS (loHi l p).2 (rchS (nI p) v f)))) _ _ (by rw [← nI_1]; rfl) rfl (by rw [fo, ← hI])
  · rintro ⟨b, y⟩ hI
    simp only at hI
    refine wpW K_X7_lawsThatHear [5] 40 ?_
    refine ⟨fun h => ⟨rfl, by rw [hearN, ← hI]⟩, fun h => absurd (by decide) h⟩
