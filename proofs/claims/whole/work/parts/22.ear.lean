/-! what was heard -/
def valS (w : Int32) : Int32 := if w = 0 then 7 else if w = 1 then 100 else if w = 2 then 100 else if w = 3 then 10 else if w = 4 then 7 else 0
theorem ev_values (k : Nat) (σ : Sto) (w : Int32) : EvM k M_X1_values [.int w] σ (fun v τ => τ = σ ∧ v = some (.int (valS w))) := by
  refine EvM.of mk_X1_values (Nat.le_of_ble_eq_true rfl) ?_
  refine wpW K_X1_values [] 20 ?_
  refine ⟨fun h => ?_, fun h1 => ⟨fun h => ?_, fun h2 => ⟨fun h => ?_, fun h3 => ⟨fun h => ?_, fun h4 => ⟨fun h => ?_, fun h5 => ?_⟩⟩⟩⟩⟩
  · exact ⟨rfl, by simp [valS, h]⟩
  · exact ⟨rfl, by simp [valS, h]⟩
  · exact ⟨rfl, by simp [valS, h]⟩
  · exact ⟨rfl, by simp [valS, h]⟩
  · exact ⟨rfl, by simp [valS, h]⟩
  · exact ⟨rfl, by simp [valS, h1, h2, h3, h4, h5]⟩
def hL (σ : Sto) : List (Int32 × Int32) := (List.range (gI σ 32 2).toNatClampNeg).map (fun i => (gA σ 33 i, gA σ 34 i))
def hOK (σ : Sto) : Prop := gI σ 32 2 = nI (hL σ).length ∧ (hL σ).length ≤ 12
theorem hL_fr {l : List Nat} {σ τ : Sto} (h : Fr l σ τ) (h1 : 32 ∉ l) (h2 : 33 ∉ l) (h3 : 34 ∉ l) : hL τ = hL σ := by
  unfold hL; rw [h.I h1, h.A h2, h.A h3]
theorem hOK_fr {l : List Nat} {σ τ : Sto} (h : Fr l σ τ) (h1 : 32 ∉ l) (h2 : 33 ∉ l) (h3 : 34 ∉ l) (ho : hOK σ) : hOK τ := by
  unfold hOK; rw [hL_fr h h1 h2 h3, h.I h1]; exact ho
theorem pair_push {g g' f f' : Nat → Int32} {s : Nat} {x y : Int32} (h1 : g' = upd g s x) (h2 : f' = upd f s y) : (List.range (s + 1)).map (fun i => (g' i, f' i)) = (List.range s).map (fun i => (g i, f i)) ++ [(x, y)] := by
  rw [List.range_succ, List.map_append]
  congr 1
  · apply List.map_congr_left
    intro i hi
    have := List.mem_range.mp hi
    rw [h1, h2, pk_un (by omega), pk_un (by omega)]
  · rw [List.map_singleton, h1, h2, pk_us, pk_us]
def hearOK (l : List (Int32 × Int32)) (w v : Int32) : Bool := !decide (v < 0) && !decide (valS w ≤ v) && decide (l.length < 12)
theorem ev_hears (k : Nat) (σ : Sto) (ho : hOK σ) (w v : Int32) : EvM (k + 1) M_X1_hears [.ref 32, .int w, .int v] σ (fun r τ => if hearOK (hL σ) w v then r = some (.int 1) ∧ hL τ = hL σ ++ [(w, v)] ∧ hOK τ ∧ Fr [32, 33, 34] σ τ else r = some (.int 0) ∧ τ = σ) := by
  obtain ⟨hs, h12⟩ := ho
  have hdef : hL σ = (List.range (gI σ 32 2).toNatClampNeg).map (fun i => (gA σ 33 i, gA σ 34 i)) := rfl
  have hok : ∀ τ, gI τ 32 2 = gI σ 32 2 + 1 → gA τ 33 = upd (gA σ 33) (gI σ 32 2).toNatClampNeg w → gA τ 34 = upd (gA σ 34) (gI σ 32 2).toNatClampNeg v → (hL σ).length < 12 → hL τ = hL σ ++ [(w, v)] ∧ hOK τ := by
    intro τ h1 h2 h3 h4
    have hl : (gI σ 32 2).toNatClampNeg = (hL σ).length := by rw [hs]; exact nI_clamp (by omega)
    have e : hL τ = hL σ ++ [(w, v)] := by
      rw [hdef]
      unfold hL
      rw [h1, hs, nI_1, nI_clamp (by omega), nI_clamp (by omega)]
      rw [hl] at h2 h3
      exact pair_push h2 h3
    refine ⟨e, ?_, by rw [e, List.length_append]; exact h4⟩
    rw [e, h1, hs, nI_1, List.length_append]; rfl
  refine EvM.of mk_X1_hears (Nat.le_of_ble_eq_true rfl) ?_
  generalize hg : (hL σ).length = s at *
  have hb : hearOK (hL σ) w v = (!decide (v < 0) && !decide (valS w ≤ v) && decide (s < 12)) := by rw [hearOK, hg]
  rw [hb]
  refine wpW K_X1_hears [] 60 ?_
  refine ⟨fun h => ⟨Or.inl rfl, ?_⟩, fun h => ⟨_, ev_values _ _ _, ?_⟩⟩
  · simp [h]
  · rintro r τ ⟨h9, rfl⟩
    obtain rfl := h9.symm
    refine ⟨fun h2 => ⟨Or.inl rfl, ?_⟩, fun h2 => ⟨fun h3 => absurd h3 (by rw [hs]; exact nI_pos (by omega)), fun _ => ⟨fun h4 => ?_, fun h4 => ⟨Or.inl rfl, ?_⟩⟩⟩⟩
    · simp [h2]
    · rw [hs, show (12 : Int32) = nI 12 from rfl, lt_of_nI (by omega) (by omega)] at h4
      refine ⟨by rw [hs]; exact inN h4 (by omega), by show vp_in (gI σ 32 2) 12; rw [hs]; exact inN h4 (by omega), Or.inr rfl, ?_⟩
      simp only [h, h2, h4, decide_false, decide_true, Bool.not_false, Bool.and_self, if_true]
      obtain ⟨q1, q2⟩ := hok (sI (sA (sA σ (32 + 1) (upd (gA σ (32 + 1)) (gI σ 32 2).toNatClampNeg w)) (32 + 2) (upd (gA σ (32 + 2)) (gI σ 32 2).toNatClampNeg v)) 32 2 (gI σ 32 2 + 1)) rfl rfl rfl h4
      exact ⟨by trivial, q1, q2, ((Fr.rf.sA (by simp)).sA (by simp)).sI (by simp)⟩
    · rw [hs, show (12 : Int32) = nI 12 from rfl, lt_of_nI (by omega) (by omega)] at h4
      simp [h4]
def isSoS (ev : (Nat → Int32) → Int32) (F : FS) (nm : Nat) (w v : Int32) : Bool := if w = 0 then decide (fHo F nm = v) else if w = 1 then !decide (fAg F nm < v) else if w = 2 then !decide (fPu F nm < v) else if w = 3 then decide (fPl F (hoN F nm) = v) else if w = 4 then inS (fN F) v && canS ev F v.toNatClampNeg nm else false
theorem ev_isSo (k : Nat) (σ : Sto) (r : Nat) (hr : r = 46 ∨ r = 49) (hc : cOK σ 5) (ev : (Nat → Int32) → Int32) (hR : RC σ r ev) (nm : Nat) (hnm : nm < fN (cF σ 5)) (w v : Int32) :
    EvM (k + 4) M_X1_isSo [.ref 5, .ref r, .int (nI nm), .int w, .int v] σ (fun z τ => z = some (.int (bI (isSoS ev (cF σ 5) nm w v))) ∧ Fr [r + 2] σ τ) := by
  have hx := ev_has (k + 3) σ 5 (Or.inl rfl) hc v
  have hcan := fun q => ev_can k σ r 5 hr (Or.inl rfl) hc ev hR q nm
  obtain ⟨rPl, -, rPu, rHo, rAg, -, -⟩ := cF_rd σ 5
  have hF := hc.2
  have h7 := hF.1
  generalize cF σ 5 = F at *
  obtain ⟨ho1, ho2⟩ := fs_ho hF hnm
  have e4 := rHo nm (by omega)
  refine EvM.of mk_X1_isSo (Nat.le_of_ble_eq_true rfl) ?_
  rcases hr with rfl | rfl
  all_goals
    refine wpW K_X1_isSo [] 30 ?_
    refine ⟨fun h => ⟨in7 (by omega), ?_⟩, fun h1 => ⟨fun h => ⟨in7 (by omega), ?_⟩, fun h2 => ⟨fun h => ⟨in7 (by omega), ?_⟩, fun h3 => ⟨fun h => ⟨in7 (by omega), by rw [e4, ho2]; exact in7 (by omega), ?_⟩, fun h4 => ⟨fun h => ⟨_, hx, ?_⟩, fun h5 => ⟨Or.inl rfl, ?_, Fr.rf⟩⟩⟩⟩⟩⟩
    · rw [e4]
      exact ⟨fun c => ⟨Or.inl rfl, by simp [isSoS, h, c, bI], Fr.rf⟩, fun c => ⟨Or.inr rfl, by simp [isSoS, h, c, bI], Fr.rf⟩⟩
    · rw [rAg nm (by omega)]
      exact ⟨fun c => ⟨Or.inl rfl, by simp [isSoS, h, c, bI], Fr.rf⟩, fun c => ⟨Or.inr rfl, by simp [isSoS, h, c, bI], Fr.rf⟩⟩
    · rw [rPu nm (by omega)]
      exact ⟨fun c => ⟨Or.inl rfl, by simp [isSoS, h, c, bI], Fr.rf⟩, fun c => ⟨Or.inr rfl, by simp [isSoS, h, c, bI], Fr.rf⟩⟩
    · rw [e4, ho2, rPl _ (by omega)]
      exact ⟨fun c => ⟨Or.inl rfl, by simp [isSoS, h, c, bI], Fr.rf⟩, fun c => ⟨Or.inr rfl, by simp [isSoS, h, c, bI], Fr.rf⟩⟩
    · rintro z τ ⟨h9, rfl⟩
      obtain rfl := h9.symm
      refine ⟨fun c => ⟨Or.inl rfl, ?_, Fr.rf⟩, fun c => ?_⟩
      · have hi : inS (fN F) v = false := (bI_eq _).mp c
        simp [isSoS, h, hi, bI]
      · have hi : inS (fN F) v = true := (bI_ne _).mp c
        obtain ⟨q1, q2⟩ := in_of h7 hi
        refine ⟨_, by rw [q2]; exact hcan v.toNatClampNeg q1 hnm, ?_⟩
        rintro z τ ⟨rfl, hfr⟩
        refine ⟨fun c => ⟨Or.inl rfl, ?_, hfr⟩, fun c => ⟨Or.inr rfl, ?_, hfr⟩⟩
        · simp [isSoS, h, hi, (bI_eq _).mp c, bI]
        · simp [isSoS, h, hi, (bI_ne _).mp c, bI]
    · simp [isSoS, h1, h2, h3, h4, h5, bI]
def fitS (ev : (Nat → Int32) → Int32) (F : FS) (l : List (Int32 × Int32)) : Int32 := fo (fun nm b => if l.all (fun w => isSoS ev F nm w.1 w.2) then b ||| bt nm else b) 0 (fN F)
theorem all_take {α : Type} (p : α → Bool) (l : List α) (i : Nat) (x : α) (h : l[i]? = some x) : (l.take (i + 1)).all p = ((l.take i).all p && p x) := by
  rw [List.take_succ, h, List.all_append]
  simp
theorem ev_fitting (k : Nat) (σ : Sto) (r : Nat) (hr : r = 46 ∨ r = 49) (hc : cOK σ 5) (ev : (Nat → Int32) → Int32) (hR : RC σ r ev) (ho : hOK σ) :
    EvM (k + 5) M_X1_fitting [.ref 32, .ref 5, .ref r] σ (fun z τ => z = some (.int (fitS ev (cF σ 5) (hL σ))) ∧ Fr [r + 2] σ τ) := by
  have hso : ∀ τ nm w v, Fr [r + 2] σ τ → nm < fN (cF σ 5) → EvM (k + 4) M_X1_isSo [.ref 5, .ref r, .int (nI nm), .int w, .int v] τ (fun z υ => z = some (.int (bI (isSoS ev (cF σ 5) nm w v))) ∧ Fr [r + 2] σ υ) := by
    intro τ nm w v h hnm
    have e := cF_fr h (apart hr (Or.inl rfl))
    refine EvM.post (ev_isSo k τ r hr (cOK_fr h (apart hr (Or.inl rfl)) hc) ev (RC_fr h (apart2 r).1 (apart2 r).2 hR) nm (by rw [e]; exact hnm) w v) ?_
    rw [e]
    rintro z υ ⟨h1, h2⟩
    exact ⟨h1, h.tr h2⟩
  have hn := hc.1
  have h7 := hc.2.1
  have hsz : ∀ τ, Fr [r + 2] σ τ → gI τ 5 5 = nI (fN (cF σ 5)) := fun τ h => by rw [h.I (by rcases hr with rfl | rfl <;> decide)]; exact hn
  have hhs : ∀ τ, Fr [r + 2] σ τ → gI τ 32 2 = nI (hL σ).length ∧ gA τ 33 = gA σ 33 ∧ gA τ 34 = gA σ 34 := fun τ h => ⟨by rw [h.I (by rcases hr with rfl | rfl <;> decide)]; exact ho.1, h.A (by rcases hr with rfl | rfl <;> decide), h.A (by rcases hr with rfl | rfl <;> decide)⟩
  have hel : ∀ i, i < (hL σ).length → (hL σ)[i]? = some (gA σ 33 (nI i).toNatClampNeg, gA σ 34 (nI i).toNatClampNeg) := by
    intro i hi
    have hl : (hL σ).length = (gI σ 32 2).toNatClampNeg := by simp [hL]
    have := ho.2
    rw [nI_clamp (by omega)]
    unfold hL
    rw [List.getElem?_map, List.getElem?_range (by omega)]
    rfl
  have h12 := ho.2
  generalize cF σ 5 = F at *
  generalize hL σ = l at *
  refine EvM.of mk_X1_fitting (Nat.le_of_ble_eq_true rfl) ?_
  refine wpW K_X1_fitting [5] 10 ?_
  refine loopI (α := Int32 × Sto × Option Value × Option Value) 5 (fun i a => [some (.ref 32), some (.ref 5), some (.ref r), some (.int a.1), some (.int (nI i)), a.2.2.1, a.2.2.2]) (fun a => a.2.1) (fun i a => a.1 = fo (fun nm b => if l.all (fun w => isSoS ev F nm w.1 w.2) then b ||| bt nm else b) 0 i ∧ Fr [r + 2] σ a.2.1) (fN F) ?_ ?_ 0 (0, σ, none, none) (Nat.zero_le _) ⟨rfl, Fr.rf⟩
  · rintro nm ⟨b, τ, y5, y6⟩ hnm ⟨hI, hfr⟩ go
    simp only at hI hfr
    have fin : ∀ (c : Bool) υ y6', c = l.all (fun w => isSoS ev F nm w.1 w.2) → Fr [r + 2] σ υ → WW M_X1_fitting (k + 5) (fun z τ => z = some (.int (fitS ev F l)) ∧ Fr [r + 2] σ τ) 70 [some (.ref 32), some (.ref 5), some (.ref r), some (.int b), some (.int (nI nm)), some (.int (bI c)), y6'] [] υ := by
      intro c υ y6' hcc hfr2
      refine wpW K_X1_fitting [5] 20 ?_
      refine ⟨fun h => ?_, fun h => ?_⟩
      · refine go (b, υ, some (.int (bI c)), y6') _ _ (by rw [← nI_1]; rfl) rfl ⟨?_, hfr2⟩
        rw [fo, ← hI, ← hcc, (bI_eq _).mp h]; rfl
      · refine go (b ||| bt nm, υ, some (.int (bI c)), y6') _ _ (by rw [← nI_1]; rfl) rfl ⟨?_, hfr2⟩
        rw [fo, ← hI, ← hcc, (bI_ne _).mp h]; rfl
    refine wpW K_X1_fitting [5, 20] 20 ?_
    refine ⟨fun h => ?_, fun _ => ?_⟩
    · rw [hsz τ hfr, le_of_nI (by omega) (by omega)] at h; omega
    · refine loopI (α := Bool × Sto) 20 (fun i a => [some (.ref 32), some (.ref 5), some (.ref r), some (.int b), some (.int (nI nm)), some (.int (bI a.1)), some (.int (nI i))]) (fun a => a.2) (fun i a => a.1 = (l.take i).all (fun w => isSoS ev F nm w.1 w.2) ∧ Fr [r + 2] σ a.2) l.length ?_ ?_ 0 (true, τ) (Nat.zero_le _) ⟨by simp, hfr⟩
      · rintro i ⟨c, υ⟩ hi ⟨hcI, hfr2⟩ go2
        simp only at hcI hfr2
        obtain ⟨s1, s2, s3⟩ := hhs υ hfr2
        refine wpW K_X1_fitting [5, 20, 70] 40 ?_
        refine ⟨fun h => ?_, fun _ => ⟨fun h => ?_, fun _ => ⟨fun h => ?_, fun h => ?_⟩⟩⟩
        · rw [s1, le_of_nI (by omega) (by omega)] at h; omega
        · rw [show (12 : Int32) = nI 12 from rfl, le_of_nI (by omega) (by omega)] at h; omega
        · refine fin c υ _ ?_ hfr2
          have hcf : c = false := (bI_eq _).mp h
          rw [hcf]
          rw [hcf] at hcI
          symm
          rw [← List.take_append_drop i l, List.all_append, ← hcI]
          rfl
        · refine ⟨inN (by omega) (by omega), inN (by omega) (by omega), ?_⟩
          rw [show (32 : Nat) + 1 = 33 from rfl, show (32 : Nat) + 2 = 34 from rfl, s2, s3]
          refine ⟨_, hso υ nm _ _ hfr2 hnm, ?_⟩
          rintro z ω ⟨rfl, hfr3⟩
          refine go2 (isSoS ev F nm (gA σ 33 (nI i).toNatClampNeg) (gA σ 34 (nI i).toNatClampNeg), ω) _ _ (by rw [← nI_1]; rfl) rfl ⟨?_, hfr3⟩
          rw [all_take _ l i _ (hel i hi), ← hcI, show c = true from (bI_ne _).mp h]
          rfl
      · rintro ⟨c, υ⟩ ⟨hcI, hfr2⟩
        simp only at hcI hfr2
        obtain ⟨s1, s2, s3⟩ := hhs υ hfr2
        rw [List.take_length] at hcI
        refine wpW K_X1_fitting [5, 20, 70] 40 ?_
        refine ⟨fun h => fin c υ _ hcI hfr2, fun h => ?_⟩
        rw [s1, le_of_nI (by omega) (by omega)] at h; omega
  · rintro ⟨b, τ, y5, y6⟩ ⟨hI, hfr⟩
    simp only at hI hfr
    refine wpW K_X1_fitting [5] 20 ?_
    refine ⟨fun h => ⟨by rw [fitS, ← hI], hfr⟩, fun h => ?_⟩
    rw [hsz τ hfr, le_of_nI (by omega) (by omega)] at h; omega
def bit1 (b : Int32) (i : Nat) : Bool := decide ((b >>> (nI i &&& 31)) &&& 1 = 1)
def leftS (ev : (Nat → Int32) → Int32) (F : FS) (b w v : Int32) : Int32 := maxS (fo (fun nm s => if bit1 b nm && isSoS ev F nm w v then s + 1 else s) 0 (fN F)) (bcS b - fo (fun nm s => if bit1 b nm && isSoS ev F nm w v then s + 1 else s) 0 (fN F))
theorem ev_mostLeft (k : Nat) (σ : Sto) (r : Nat) (hr : r = 46 ∨ r = 49) (hc : cOK σ 5) (ev : (Nat → Int32) → Int32) (hR : RC σ r ev) (b w v : Int32) :
    EvM (k + 5) M_X1_mostLeft [.ref 32, .ref 5, .ref r, .int b, .int w, .int v] σ (fun z τ => z = some (.int (leftS ev (cF σ 5) b w v)) ∧ Fr [r + 2] σ τ) := by
  have hso : ∀ τ nm, Fr [r + 2] σ τ → nm < fN (cF σ 5) → EvM (k + 4) M_X1_isSo [.ref 5, .ref r, .int (nI nm), .int w, .int v] τ (fun z υ => z = some (.int (bI (isSoS ev (cF σ 5) nm w v))) ∧ Fr [r + 2] σ υ) := by
    intro τ nm h hnm
    have e := cF_fr h (apart hr (Or.inl rfl))
    refine EvM.post (ev_isSo k τ r hr (cOK_fr h (apart hr (Or.inl rfl)) hc) ev (RC_fr h (apart2 r).1 (apart2 r).2 hR) nm (by rw [e]; exact hnm) w v) ?_
    rw [e]
    rintro z υ ⟨h1, h2⟩
    exact ⟨h1, h.tr h2⟩
  have hn := hc.1
  have h7 := hc.2.1
  have hsz : ∀ τ, Fr [r + 2] σ τ → gI τ 5 5 = nI (fN (cF σ 5)) := fun τ h => by rw [h.I (by rcases hr with rfl | rfl <;> decide)]; exact hn
  generalize cF σ 5 = F at *
  refine EvM.of mk_X1_mostLeft (Nat.le_of_ble_eq_true rfl) ?_
  refine wpW K_X1_mostLeft [6] 10 ?_
  refine loopI (α := Int32 × Sto) 6 (fun i a => [some (.ref 32), some (.ref 5), some (.ref r), some (.int b), some (.int w), some (.int v), some (.int a.1), some (.int (nI i))]) (fun a => a.2) (fun i a => a.1 = fo (fun nm s => if bit1 b nm && isSoS ev F nm w v then s + 1 else s) 0 i ∧ Fr [r + 2] σ a.2) (fN F) ?_ ?_ 0 (0, σ) (Nat.zero_le _) ⟨rfl, Fr.rf⟩
  · rintro i ⟨s, τ⟩ hi ⟨hI, hfr⟩ go
    simp only at hI hfr
    refine wpW K_X1_mostLeft [6] 40 ?_
    refine ⟨fun h => ?_, fun _ => ⟨fun h => ?_, fun h => ⟨_, hso τ i hfr hi, ?_⟩⟩⟩
    · rw [hsz τ hfr, le_of_nI (by omega) (by omega)] at h; omega
    · refine go (s, τ) _ _ (by rw [← nI_1]; rfl) rfl ⟨?_, hfr⟩
      rw [fo, ← hI, show bit1 b i = false from decide_eq_false h]; rfl
    · have hb1 : bit1 b i = true := decide_eq_true h
      rintro z υ ⟨rfl, hfr2⟩
      refine ⟨fun c => ?_, fun c => ?_⟩
      · refine go (s, υ) _ _ (by rw [← nI_1]; rfl) rfl ⟨?_, hfr2⟩
        rw [fo, ← hI, hb1, (bI_eq _).mp c]; rfl
      · refine go (s + 1, υ) _ _ (by rw [← nI_1]; rfl) rfl ⟨?_, hfr2⟩
        rw [fo, ← hI, hb1, (bI_ne _).mp c]; rfl
  · rintro ⟨s, τ⟩ ⟨hI, hfr⟩
    simp only at hI hfr
    refine wpW K_X1_mostLeft [6] 40 ?_
    refine ⟨fun h => ⟨_, ev_bc _ _ _, ?_⟩, fun h => ?_⟩
    · rintro z υ ⟨h9, rfl⟩
      obtain rfl := h9.symm
      exact ⟨by rw [leftS, ← hI]; rfl, hfr⟩
    · rw [hsz τ hfr, le_of_nI (by omega) (by omega)] at h; omega
