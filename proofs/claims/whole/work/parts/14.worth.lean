/-! Rule.worth: steps over a stack -/
theorem gA_eq {σ : Sto} {a : Nat} {f : Nat → Int32} : gA (sA σ a f) a = f := if_pos rfl
theorem gA_ne {σ : Sto} {a x : Nat} {f : Nat → Int32} (h : x ≠ a) : gA (sA σ a f) x = gA σ x := if_neg h
theorem sA_sA {σ : Sto} {a : Nat} {f g : Nat → Int32} : sA (sA σ a f) a g = sA σ a g := by
  refine Prod.ext rfl (Prod.ext ?_ rfl)
  funext x
  show (if x = a then g else if x = a then f else σ.2.1 x) = if x = a then g else σ.2.1 x
  by_cases h : x = a <;> simp [h]
theorem sA_id {σ : Sto} {a : Nat} : sA σ a (gA σ a) = σ := by
  refine Prod.ext rfl (Prod.ext ?_ rfl)
  funext x
  show (if x = a then σ.2.1 a else σ.2.1 x) = σ.2.1 x
  by_cases h : x = a
  · rw [if_pos h, h]
  · rw [if_neg h]
theorem fr_one {σ : Sto} {a : Nat} {f : Nat → Int32} : Fr [a] σ (sA σ a f) := Fr.sA Fr.rf (List.mem_singleton.mpr rfl)
theorem lit (n : Nat) : nI n = Int32.ofNat n := rfl
def stpS (as : Nat → Int32) (s : Int32) (st : Nat × (Nat → Int32)) : Nat × (Nat → Int32) :=
  if s - 1000 < 0 then (if st.1 < 40 then (st.1 + 1, upd st.2 st.1 s) else st)
  else if 97 ≤ s - 1000 ∧ ¬ s - 1000 = 126 then (if st.1 < 40 then (st.1 + 1, upd st.2 st.1 (thS as (s - 1000))) else st)
  else if s - 1000 = 126 then (if 1 ≤ st.1 then (st.1, upd st.2 (st.1 - 1) (-(st.2 (st.1 - 1)))) else st)
  else if 2 ≤ st.1 then (st.1 - 1, upd st.2 (st.1 - 2) (joinS (s - 1000) (st.2 (st.1 - 2)) (st.2 (st.1 - 1)))) else st
def runS (steps : Nat → Int32) (m : Nat) (as : Nat → Int32) (stk : Nat → Int32) : Nat × (Nat → Int32) := fo (fun i st => stpS as (steps i) st) (0, stk) m
theorem stpS_le {as : Nat → Int32} {s : Int32} {st : Nat × (Nat → Int32)} (h : st.1 ≤ 40) : (stpS as s st).1 ≤ 40 := by
  unfold stpS
  repeat' split
  all_goals (try simp only); omega
theorem in40 {i : Nat} (h : i < 40) : vp_in (nI i) 40 := vp_in_nI h (by decide)
theorem ev_worth (k : Nat) (σ : Sto) (r f : Nat) (hr : r = 46 ∨ r = 49) (hf : f = 5 ∨ f = 11) (hc : cOK σ f) (m : Nat) (hm : gI σ r 2 = nI m) (hm40 : m ≤ 40) (q nm : Nat) (hq : q < fN (cF σ f)) (hnm : nm < fN (cF σ f)) :
    EvM (k + 2) M_X5_worth [.ref r, .ref f, .int (nI q), .int (nI nm)] σ (fun v τ => v = some (.int ((runS (gA σ (r + 1)) m (askS (cF σ f) q nm) (gA σ (r + 2))).2 0)) ∧ Fr [r + 2] σ τ) := by
  have hth : ∀ stk sg, EvM (k + 1) M_X5_thing [.int sg, .ref f, .int (nI q), .int (nI nm)] (sA σ (r + 2) stk) (fun v τ => τ = sA σ (r + 2) stk ∧ v = some (.int (thS (askS (cF σ f) q nm) sg))) := by
    intro stk sg
    have hfr : Fr [r + 2] σ (sA σ (r + 2) stk) := fr_one
    have hd : ∀ j, j < 6 → f + j ∉ [r + 2] := by
      intro j hj
      rw [List.mem_singleton]
      rcases hr with rfl | rfl <;> rcases hf with rfl | rfl <;> omega
    have e := cF_fr hfr hd
    have := ev_thing k (sA σ (r + 2) stk) f hf (cOK_fr hfr hd hc) sg q nm (by rw [e]; exact hq) (by rw [e]; exact hnm)
    rw [e] at this
    exact this
  have h7 := hc.2.1
  generalize askS (cF σ f) q nm = as at *
  have hq7 : q < 7 := by omega
  have hnm7 : nm < 7 := by omega
  clear hc hq hnm h7
  generalize hst : gA σ (r + 1) = steps
  refine EvM.of mk_X5_worth (Nat.le_of_ble_eq_true rfl) ?_
  have hloop : ∀ Q : Option Value → Sto → Prop, (∀ τ, Fr [r + 2] σ τ → Q (some (.int ((runS steps m as (gA σ (r + 2))).2 0))) τ) → WW M_X5_worth (k + 2) Q 6 [some (.ref r), some (.ref f), some (.int (nI q)), some (.int (nI nm)), some (.int (nI 0)), some (.int (nI 0)), none] [] (sA σ (r + 2) (gA σ (r + 2))) := by
    intro Q hQ
    refine loopI (α := Nat × (Nat → Int32) × Option Value) 6 (fun i a => [some (.ref r), some (.ref f), some (.int (nI q)), some (.int (nI nm)), some (.int (nI a.1)), some (.int (nI i)), a.2.2]) (fun a => sA σ (r + 2) a.2.1) (fun i a => (a.1, a.2.1) = fo (fun i st => stpS as (steps i) st) (0, gA σ (r + 2)) i ∧ a.1 ≤ 40) m ?_ ?_ 0 (0, gA σ (r + 2), none) (Nat.zero_le _) ⟨rfl, by omega⟩
    · rintro i ⟨top, stk, x6⟩ hi ⟨hI, htop⟩ go
      simp only at hI htop go ⊢
      have hsz : gI (sA σ (r + 2) stk) r 2 = nI m := hm
      have hne : r + 1 ≠ r + 2 := by omega
      have hrd : ∀ i, i < 40 → gA (sA σ (r + 2) stk) (r + 1) (nI i).toNatClampNeg = steps i := fun i h => by rw [gA_ne hne, hst, nI_clamp (by omega)]
      have hrs : ∀ i, i < 40 → gA (sA σ (r + 2) stk) (r + 2) (nI i).toNatClampNeg = stk i := fun i h => by rw [gA_eq, nI_clamp (by omega)]
      have hup : ∀ i v, i < 40 → sA (sA σ (r + 2) stk) (r + 2) (upd (gA (sA σ (r + 2) stk) (r + 2)) (nI i).toNatClampNeg v) = sA σ (r + 2) (upd stk i v) := fun i v h => by rw [gA_eq, sA_sA, nI_clamp (by omega)]
      have go' : ∀ top' stk' x6' L' τ, L' = [some (.ref r), some (.ref f), some (.int (nI q)), some (.int (nI nm)), some (.int (nI top')), some (.int (nI i + 1)), x6'] → τ = sA σ (r + 2) stk' → (top', stk') = stpS as (steps i) (top, stk) → WW M_X5_worth (k + 2) Q 6 L' [] τ := by
        intro top' stk' x6' L' τ e1 e2 he
        refine go (top', stk', x6') _ _ (by rw [e1, nI_1]) e2 ⟨by rw [fo, ← hI]; exact he, ?_⟩
        have := stpS_le (as := as) (s := steps i) (st := (top, stk)) htop
        rw [← he] at this
        exact this
      clear go hI
      have hsi := hrd i (by omega)
      generalize steps i = s at *
      have hA : (s - 1000 < 0 ∨ (97 ≤ s - 1000 ∧ ¬ s - 1000 = 126)) → WW M_X5_worth (k + 2) Q 54 [some (.ref r), some (.ref f), some (.int (nI q)), some (.int (nI nm)), some (.int (nI top)), some (.int (nI i)), some (.int (s - 1000))] [] (sA σ (r + 2) stk) := by
        intro hs
        have hs0 : 0 ≤ s - 1000 → ¬ s - 1000 < 0 := fun h h' => by
          rw [Int32.le_iff_toInt_le] at h
          rw [Int32.lt_iff_toInt_lt] at h'
          omega
        have hs1 : ¬ 0 ≤ s - 1000 → s - 1000 < 0 := fun h => Int32.not_le.mp h
        rcases hr with rfl | rfl
        all_goals
          refine wpW K_X5_worth [6] 20 ?_
          refine ⟨fun h => ?_, fun h => ⟨fun h0 => ⟨_, hth stk _, ?_⟩, fun h0 => ⟨in40 (by omega), ?_⟩⟩⟩
          · have ht : ¬ top < 40 := by rw [show (40 : Int32) = nI 40 from rfl, le_of_nI (by omega) (by omega)] at h; omega
            refine go' top stk _ _ _ rfl rfl ?_
            unfold stpS
            rcases hs with hs | hs
            · simp [hs, ht]
            · simp only [hs, ht, if_false]; simp [ite_self]
          · rintro v τ ⟨rfl, rfl⟩
            have ht : top < 40 := by rw [show (40 : Int32) = nI 40 from rfl, le_of_nI (by omega) (by omega)] at h; omega
            refine ⟨in40 ht, go' (top + 1) _ _ _ _ (by rw [← nI_1]; rfl) (hup top _ ht) ?_⟩
            unfold stpS
            rcases hs with hs | hs
            · exact absurd hs (hs0 h0)
            · rw [if_neg (hs0 h0), if_pos hs, if_pos ht]
          · rw [hsi]
            have ht : top < 40 := by rw [show (40 : Int32) = nI 40 from rfl, le_of_nI (by omega) (by omega)] at h; omega
            refine ⟨in40 ht, go' (top + 1) _ _ _ _ (by rw [← nI_1]; rfl) (hup top _ ht) ?_⟩
            unfold stpS
            rw [if_pos (hs1 h0), if_pos ht]
      have hB : ¬ s - 1000 < 0 → ¬ (97 ≤ s - 1000 ∧ ¬ s - 1000 = 126) → WW M_X5_worth (k + 2) Q 97 [some (.ref r), some (.ref f), some (.int (nI q)), some (.int (nI nm)), some (.int (nI top)), some (.int (nI i)), some (.int (s - 1000))] [] (sA σ (r + 2) stk) := by
        intro hs0 hs1
        rcases hr with rfl | rfl
        all_goals
          refine wpW K_X5_worth [6] 40 ?_
          refine ⟨fun h => ⟨fun ht => ?_, fun ht => ?_⟩, fun h => ⟨fun ht => ?_, fun ht => ?_⟩⟩
          · rw [show (2 : Int32) = nI 2 from rfl, lt_of_nI (by omega) (by omega)] at ht
            refine go' top stk _ _ _ rfl rfl ?_
            unfold stpS
            rw [if_neg hs0, if_neg hs1, if_neg h, if_neg (by show ¬ 2 ≤ top; omega)]
          · rw [show (2 : Int32) = nI 2 from rfl, lt_of_nI (by omega) (by omega)] at ht
            obtain ⟨t, rfl⟩ : ∃ t, top = t + 2 := ⟨top - 2, by omega⟩
            have e1 : nI (t + 2) + (-1) = nI (t + 1) := pk_m1 (t + 1)
            have e2 : nI (t + 1) - 1 = nI t := nI_pred t
            refine ⟨by rw [e1, e2]; exact in40 (by omega), by rw [e1]; exact in40 (by omega), ⟨_, ev_joined _ _ _ _ _, ?_⟩⟩
            rintro v τ ⟨rfl, rfl⟩
            refine ⟨by rw [e1, e2]; exact in40 (by omega), go' (t + 1) _ _ _ _ (by rw [← e1]; rfl) (by rw [e1, e2, hrs t (by omega), hrs (t + 1) (by omega)]; exact hup t _ (by omega)) ?_⟩
            unfold stpS
            rw [if_neg hs0, if_neg hs1, if_neg h, if_pos (by show 2 ≤ t + 2; omega)]
            rfl
          · rw [show (1 : Int32) = nI 1 from rfl, lt_of_nI (by omega) (by omega)] at ht
            refine go' top stk _ _ _ rfl rfl ?_
            unfold stpS
            rw [if_neg hs0, if_neg hs1, if_pos h, if_neg (by show ¬ 1 ≤ top; omega)]
          · rw [show (1 : Int32) = nI 1 from rfl, lt_of_nI (by omega) (by omega)] at ht
            obtain ⟨t, rfl⟩ : ∃ t, top = t + 1 := ⟨top - 1, by omega⟩
            have e2 : nI (t + 1) - 1 = nI t := nI_pred t
            refine ⟨by rw [e2]; exact in40 (by omega), by rw [e2]; exact in40 (by omega), go' (t + 1) _ _ _ _ rfl (by rw [e2, hrs t (by omega)]; exact hup t _ (by omega)) ?_⟩
            unfold stpS
            rw [if_neg hs0, if_neg hs1, if_pos h, if_pos (by show 1 ≤ t + 1; omega)]
            rfl
      rcases hr with rfl | rfl
      all_goals
        refine wpW K_X5_worth [6, 54, 97, 177] 40 ?_
        refine ⟨fun h => ?_, fun _ => ⟨fun h => ?_, fun _ => ⟨in40 (by omega), ?_⟩⟩⟩
        · rw [hsz, le_of_nI (by omega) (by omega)] at h; omega
        · rw [show (40 : Int32) = nI 40 from rfl, le_of_nI (by omega) (by omega)] at h; omega
        · rw [hsi]
          refine ⟨fun h => hA (Or.inl h), fun h => ⟨fun h2 => hB h ?_, fun h2 => ⟨fun h3 => hB h ?_, fun h3 => hA (Or.inr ⟨Int32.not_lt.mp h2, h3⟩)⟩⟩⟩
          · intro q
            exact absurd h2 (Int32.not_lt.mpr q.1)
          · intro q
            exact q.2 h3
    · rintro ⟨top, stk, x6⟩ ⟨hI, htop⟩
      simp only at hI htop ⊢
      have hsz : gI (sA σ (r + 2) stk) r 2 = nI m := hm
      have hrs : ∀ i, i < 40 → gA (sA σ (r + 2) stk) (r + 2) (nI i).toNatClampNeg = stk i := fun i h => by rw [gA_eq, nI_clamp (by omega)]
      have hQ' : Q (some (.int (stk 0))) (sA σ (r + 2) stk) := by
        have := hQ (sA σ (r + 2) stk) fr_one
        rw [runS, ← hI] at this
        exact this
      rcases hr with rfl | rfl
      all_goals
        refine wpW K_X5_worth [6] 20 ?_
        refine ⟨fun h => ⟨in40 (i := 0) (by decide), ?_⟩, fun h => ?_⟩
        · rw [show (0 : Int32) = nI 0 from rfl, hrs 0 (by omega)]
          exact hQ'
        · rw [hsz, le_of_nI (by omega) (by omega)] at h; omega
  have fin := hloop (fun v τ => v = some (.int ((runS steps m as (gA σ (r + 2))).2 0)) ∧ Fr [r + 2] σ τ) (fun τ h => ⟨rfl, h⟩)
  rw [sA_id] at fin
  rcases hr with rfl | rfl
  all_goals exact wpW K_X5_worth [6] 10 fin
