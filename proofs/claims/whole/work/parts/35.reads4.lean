/-! RuleReader.reads -/
/-- where a text of t signs goes wrong as a rule; none: it is one -/
def rwS (cs : Nat → Int32) (t : Nat) : Option Nat := if t = 0 then none else if (ruleP cs (fun _ => 0) 4 0).1 && decide ((ruleP cs (fun _ => 0) 4 0).2.1 = t) then none else some (ruleP cs (fun _ => 0) 4 0).2.1
def rvS (cs : Nat → Int32) (t : Nat) : (Nat → Int32) → Int32 := if t = 0 then evNone else evS cs
theorem ev_reads (k : Nat) (σ : Sto) (s : Nat) (hs : s = 46 ∨ s = 49) (hx : xOK σ) : EvM (k + 33) M_X6_reads [.ref 17, .ref 1, .ref s] σ (fun v τ => (match rwS (csS (xT σ) (gA σ 2)) (xT σ) with
      | none => v = some (.int (-1)) ∧ RC τ s (rvS (csS (xT σ) (gA σ 2)) (xT σ))
      | some p => v = some (.int (nI p))) ∧ Fr [17, s, s + 1] σ τ) := by
  have hbn := ev_becomesNone (k + 31) σ s hs
  obtain ⟨hn, h80⟩ := id hx
  have hcs := cs_end (xT σ) (gA σ 2)
  have hrd := ev_reading (csS (xT σ) (gA σ 2)) (fun _ => 0) hcs k 4 (by omega)
  have hrok := rule_ok (as := fun _ => 0) hcs 4 0 (by omega)
  refine EvM.of mk_X6_reads (Nat.le_of_ble_eq_true rfl) ?_
  generalize hcc : csS (xT σ) (gA σ 2) = cs at *
  generalize hT : xT σ = t at *
  by_cases h0 : t = 0
  · subst h0
    have e1 : rwS cs 0 = none := rfl
    have e2 : rvS cs 0 = evNone := rfl
    rw [e1, e2]
    rcases hs with rfl | rfl
    all_goals
      refine wpW K_X6_reads [] 60 ?_
      refine ⟨fun h => absurd (by rw [hn]; rfl) h, fun _ => ⟨_, hbn, ?_⟩⟩
      rintro v τ ⟨rfl, q1, q2⟩
      exact ⟨⟨rfl, RC_none q1⟩, q2.mono (by simp)⟩
  · generalize hω : sI (sI (sR (sR σ 17 0 2) 17 1 (s + 1)) 17 2 0) s 2 0 = ω
    have hfr : Fr [17, s, s + 1] σ ω := by rw [← hω]; exact (((Fr.rf.sR (by simp)).sR (by simp)).sI (by simp)).sI (by simp)
    have hRD : RD ω s 0 := by
      rw [← hω]
      rcases hs with rfl | rfl <;> exact ⟨rfl, rfl, rfl, by omega⟩
    have hSI : SI ω s [] := by
      refine ⟨?_, by simp, fun j x h => by simp at h⟩
      rw [← hω, gI_sI, if_pos ⟨rfl, rfl⟩]; rfl
    have hxf := x_fr hfr (by rcases hs with rfl | rfl <;> decide) (by rcases hs with rfl | rfl <;> decide) hx
    have hev := hrd ω s 0 [] hs ⟨hxf.1, hxf.2.trans (by rw [hT]; exact hcc), hRD, hSI, Nat.le_refl _, by omega⟩
    have hlen : gI ω 1 1 = nI t := by rw [hfr.I (by rcases hs with rfl | rfl <;> decide)]; exact hn
    have hrc : ∀ τ, SI τ s ([] ++ (ruleP cs (fun _ => 0) 4 0).2.2.1) → (ruleP cs (fun _ => 0) 4 0).1 = true → RC τ s (evS cs) := fun τ h1 h2 => RC_of h1 h2
    have e1 : rwS cs t = if (ruleP cs (fun _ => 0) 4 0).1 && decide ((ruleP cs (fun _ => 0) 4 0).2.1 = t) then none else some (ruleP cs (fun _ => 0) 4 0).2.1 := by rw [rwS, if_neg h0]
    have e2 : rvS cs t = evS cs := by rw [rvS, if_neg h0]
    rw [e1, e2]
    generalize ruleP cs (fun _ => 0) 4 0 = r at *
    have tail : ∀ τ, QP ω s [] r (some (.int (bI r.1))) τ → WW M_X6_reads (k + 33) (fun v τ => (match (if r.1 && decide (r.2.1 = t) then none else some r.2.1) with
      | none => v = some (.int (-1)) ∧ RC τ s (evS cs)
      | some p => v = some (.int (nI p))) ∧ Fr [17, s, s + 1] σ τ) 38 [some (.ref 17), some (.ref 1), some (.ref s), none] [.int (bI r.1)] τ := by
      rintro τ ⟨-, q1, q2, q3, q4⟩
      have hl2 : gI τ 1 1 = nI t := by rw [q4.I (by rcases hs with rfl | rfl <;> decide)]; exact hlen
      have h17 : gI τ 17 2 = nI r.2.1 := q1.2.2.1
      refine wpW K_X6_reads [] 60 ?_
      refine ⟨fun c => ?_, fun c => ⟨fun e => ?_, fun e => ?_⟩⟩
      · rw [(bI_eq _).mp c]
        exact ⟨by show some (Value.int (gI τ 17 2)) = _; rw [h17], hfr.tr q4⟩
      · rw [h17, hl2, eq_of_nI (by omega) (by omega)] at e
        rw [(bI_ne _).mp c, decide_eq_false e]
        exact ⟨by show some (Value.int (gI τ 17 2)) = _; rw [h17], hfr.tr q4⟩
      · rw [h17, hl2, eq_of_nI (by omega) (by omega)] at e
        have hr := (bI_ne _).mp c
        rw [decide_eq_true e, hr]
        exact ⟨⟨rfl, hrc τ (q3 hr) hr⟩, hfr.tr q4⟩
    have mid : WW M_X6_reads (k + 33) (fun v τ => (match (if r.1 && decide (r.2.1 = t) then none else some r.2.1) with
      | none => v = some (.int (-1)) ∧ RC τ s (evS cs)
      | some p => v = some (.int (nI p))) ∧ Fr [17, s, s + 1] σ τ) 33 [some (.ref 17), some (.ref 1), some (.ref s), none] [] ω := by
      refine wpW K_X6_reads [38] 60 ?_
      refine ⟨_, hev, ?_⟩
      intro v τ hq
      obtain ⟨rfl, -⟩ := id hq
      exact tail τ hq
    rw [← hω] at mid
    rcases hs with rfl | rfl
    all_goals
      refine wpW K_X6_reads [33] 60 ?_
      refine ⟨fun _ => mid, fun h => ?_⟩
      exfalso
      rw [hn, show (0 : Int32) = nI 0 from rfl, eq_of_nI (by omega) (by omega)] at h
      exact h0 h
