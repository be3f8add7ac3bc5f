/-! brackets, things, signs, products, sums, comparisons -/
theorem ev_readsBracket (cs as : Nat → Int32) (hcs : csEnd cs) (k d : Nat) (hd : d ≤ 4) (hcomp : d < 4 → PMt cs (k + 1) M_X6_readsComparison [.ref 17, .int (nI (d + 1))] (ruleP cs as (4 - (d + 1)))) : ∀ σ s p L, (s = 46 ∨ s = 49) → PP0 cs σ s p L → cs p = 40 → EvM (k + 2) M_X6_readsBracket [.ref 17, .int (nI d)] σ (QP σ s L (thingP cs as (deepP cs as (4 - d)) p)) := by
  intro σ s p L hs hp hc40
  have hp40 : p < 40 := cs_lt hcs (by rw [hc40]; decide)
  have hLp := hp.2.2.2.2.1
  refine EvM.of mk_X6_readsBracket (Nat.le_of_ble_eq_true rfl) ?_
  by_cases h4 : d < 4
  · obtain ⟨l, hl⟩ : ∃ l, 4 - d = l + 1 := ⟨3 - d, by omega⟩
    have hl2 : 4 - (d + 1) = l := by omega
    have ht : thingP cs as (deepP cs as (4 - d)) p = if (ruleP cs as l (p + 1)).1 && decide (cs (ruleP cs as l (p + 1)).2.1 = 41) then (true, (ruleP cs as l (p + 1)).2.1 + 1, (ruleP cs as l (p + 1)).2.2.1, (ruleP cs as l (p + 1)).2.2.2) else (false, (ruleP cs as l (p + 1)).2.1, [], 0) := by
      unfold thingP; rw [if_pos hc40, hl]; rfl
    have hok := rule_ok (as := as) hcs l (p + 1) (by omega)
    have hcm := hcomp h4
    rw [hl2] at hcm
    rw [ht]
    have hp2 : PP0 cs (sI σ 17 2 (gI σ 17 2 + 1)) s (p + 1) L := hp.next hs (Fr.rf.sI (by simp)) (hp.2.2.1.inc (by omega)) (SI_17 hs hp.2.2.2.1) (by omega) (by omega)
    have hev := hcm _ s (p + 1) L hs hp2
    generalize ruleP cs as l (p + 1) = r at *
    refine wpW K_X6_readsBracket [] 40 ?_
    refine ⟨fun _ => ⟨_, by rw [nI_1]; exact hev, ?_⟩, fun h => ?_⟩
    · rintro v τ ⟨rfl, q1, q2, q3, q4⟩
      have hfr : Fr [17, s, s + 1] σ τ := (Fr.rf.sI (by simp)).tr q4
      refine ⟨fun c => ⟨Or.inl rfl, ?_⟩, fun c => ?_⟩
      · rw [(bI_eq _).mp c]
        exact ⟨rfl, q1, q2, fun h => Bool.noConfusion (show false = true from h), hfr⟩
      · have hr1 := (bI_ne _).mp c
        have hsi := q3 hr1
        have hlen := hok.2.2 hr1
        have hp3 : PP0 cs τ s r.2.1 (L ++ r.2.2.1) := hp.next hs hfr q1 hsi (by rw [List.length_append]; omega) hok.2.1
        refine ⟨_, hp3.nx (k := k), ?_⟩
        rintro v υ ⟨h9, rfl⟩
        obtain rfl := h9.symm
        refine ⟨fun e => ⟨Or.inr rfl, ?_⟩, fun e => ⟨Or.inl rfl, ?_⟩⟩
        · rw [hr1, decide_eq_true e]
          exact ⟨rfl, q1.inc (by have := hok.2.1; omega), SW_17 hs q2, fun _ => SI_17 hs hsi, Fr.sI hfr (by simp)⟩
        · rw [hr1, decide_eq_false e]
          exact ⟨rfl, q1, q2, fun h => Bool.noConfusion (show false = true from h), hfr⟩
    · exfalso; apply h
      rw [show (4 : Int32) = nI 4 from rfl, lt_of_nI (by omega) (by omega)]; exact h4
  · have hd4 : d = 4 := by omega
    subst hd4
    have ht : thingP cs as (deepP cs as (4 - 4)) p = (false, p, [], 0) := by unfold thingP; rw [if_pos hc40]; rfl
    rw [ht]
    refine wpW K_X6_readsBracket [] 40 ?_
    exact ⟨fun h => absurd h (by decide), fun _ => ⟨Or.inl rfl, rfl, hp.2.2.1, hp.2.2.2.1.w, fun h => Bool.noConfusion (show false = true from h), Fr.rf⟩⟩
theorem ev_readsThing (cs as : Nat → Int32) (hcs : csEnd cs) (k d : Nat) (hd : d ≤ 4) (hcomp : d < 4 → PMt cs (k + 1) M_X6_readsComparison [.ref 17, .int (nI (d + 1))] (ruleP cs as (4 - (d + 1)))) : PMt cs (k + 3) M_X6_readsThing [.ref 17, .int (nI d)] (thingP cs as (deepP cs as (4 - d))) := by
  intro σ s p L hs hp
  have hbr := ev_readsBracket cs as hcs k d hd hcomp σ s p L hs hp
  have hnum := ev_readsNumber cs hcs k σ s p L hs hp
  have hp40 := hp.2.2.2.2.2
  have hLp := hp.2.2.2.2.1
  refine EvM.of mk_X6_readsThing (Nat.le_of_ble_eq_true rfl) ?_
  refine wpW K_X6_readsThing [80, 104, 110] 40 ?_
  refine ⟨_, hp.nx (k := k + 1), ?_⟩
  rintro v υ ⟨h9, rfl⟩
  obtain rfl := h9.symm
  have hlet : isLet (cs p) = true → ¬ cs p = 40 → WW M_X6_readsThing (k + 3) (QP σ s L (thingP cs as (deepP cs as (4 - d)) p)) 80 [some (.ref 17), some (.int (nI d)), some (.int (cs p))] [] σ := by
    intro hl h40
    have hlt : p < 40 := cs_lt hcs (fun e => by rw [e] at hl; exact absurd hl (by decide))
    rw [show thingP cs as (deepP cs as (4 - d)) p = (true, p + 1, [1000 + cs p], thS as (cs p)) from by unfold thingP; rw [if_neg h40, if_pos hl]]
    refine wpW K_X6_readsThing [] 40 ?_
    refine ⟨s, hp.2.2.1.2.1, ?_⟩
    have hpu := ev_puts (k + 2) σ s hs hp.2.2.2.1.w (1000 + cs p)
    have fin : ∀ υ, SW υ s → (∀ L, SI σ s L → L.length < 40 → SI υ s (L ++ [1000 + cs p])) → Fr [s, s + 1] σ υ → QP σ s L (true, p + 1, [1000 + cs p], thS as (cs p)) (some (.int 1)) (sI υ 17 2 (gI υ 17 2 + 1)) := by
      intro υ q1 q2 q3
      refine ⟨rfl, (RD_puts hs hp.2.2.1 q3).inc (by omega), SW_17 hs q1, fun _ => SI_17 hs (q2 L hp.2.2.2.1 (by omega)), Fr.sI (q3.mono (by simp)) (by simp)⟩
    rcases hs with rfl | rfl
    all_goals
      refine ⟨_, hpu, ?_⟩
      rintro v υ ⟨rfl, q1, q2, q3⟩
      exact ⟨Or.inr rfl, fin υ q1 q2 q3⟩
  refine ⟨fun h => ?_, fun h0 => ⟨fun h => hlet (by simp [isLet, h]) h0, fun h1 => ⟨fun h => hlet (by simp [isLet, h]) h0, fun h2 => ⟨fun h => hlet (by simp [isLet, h]) h0, fun h3 => ⟨fun h => hlet (by simp [isLet, h]) h0, fun h4 => ⟨fun h => hlet (by simp [isLet, h]) h0, fun h5 => ⟨fun h => hlet (by simp [isLet, h]) h0, fun h6 => ⟨fun h => hlet (by simp [isLet, h]) h0, fun h7 => ?_⟩⟩⟩⟩⟩⟩⟩⟩
  · show WW M_X6_readsThing _ _ 104 _ _ _
    refine wpW K_X6_readsThing [] 40 ?_
    refine ⟨_, hbr h, ?_⟩
    rintro v τ hq
    obtain ⟨rfl, q⟩ := id hq
    exact ⟨bI_or _, hq⟩
  · show WW M_X6_readsThing _ _ 110 _ _ _
    have hnl : isLet (cs p) = false := by simp [isLet, h1, h2, h3, h4, h5, h6, h7]
    have ht : thingP cs as (deepP cs as (4 - d)) p = (decide (0 < (numS cs 3 p 0 0).1), p + (numS cs 3 p 0 0).1, [(numS cs 3 p 0 0).2], (numS cs 3 p 0 0).2) := by
      unfold thingP; rw [if_neg h0, hnl]; rfl
    rw [ht]
    refine wpW K_X6_readsThing [] 40 ?_
    refine ⟨_, hnum, ?_⟩
    rintro v τ hq
    obtain ⟨rfl, q⟩ := id hq
    exact ⟨bI_or _, hq⟩
theorem odd_bI (i : Nat) : bI (decide ((i + 1) % 2 = 1)) = if bI (decide (i % 2 = 1)) = 0 then 1 else 0 := by
  by_cases h : i % 2 = 1
  · rw [decide_eq_true h, decide_eq_false (by omega)]; rfl
  · rw [decide_eq_false h, decide_eq_true (by omega)]; rfl
theorem ev_readsSigned (cs as : Nat → Int32) (hcs : csEnd cs) (k d : Nat) (th : Nat → RR) (hok : PrOK th) (hth : PMt cs (k + 1) M_X6_readsThing [.ref 17, .int (nI d)] th) : PMt cs (k + 2) M_X6_readsSigned [.ref 17, .int (nI d)] (signP cs th) := by
  intro σ s p L hs hp
  have hp40 := hp.2.2.2.2.2
  have hLp := hp.2.2.2.2.1
  have hle := lead_le hcs 40 p hp40
  have hsg : signP cs th p = if leadS cs 40 p % 2 = 1 then ((th (p + leadS cs 40 p)).1, (th (p + leadS cs 40 p)).2.1, (th (p + leadS cs 40 p)).2.2.1 ++ [1126], -(th (p + leadS cs 40 p)).2.2.2) else th (p + leadS cs 40 p) := rfl
  rw [hsg]
  generalize hK : leadS cs 40 p = K at *
  refine EvM.of mk_X6_readsSigned (Nat.le_of_ble_eq_true rfl) ?_
  have fin : ∀ τ y3, PP0 cs τ s (p + K) L → Fr [17, s, s + 1] σ τ → WW M_X6_readsSigned (k + 2) (QP σ s L (if K % 2 = 1 then ((th (p + K)).1, (th (p + K)).2.1, (th (p + K)).2.2.1 ++ [1126], -(th (p + K)).2.2.2) else th (p + K))) 45 [some (.ref 17), some (.int (nI d)), some (.int (bI (decide (K % 2 = 1)))), y3] [] τ := by
    intro τ y3 hpp hfr
    have hok2 := hok (p + K) hle
    refine wpW K_X6_readsSigned [] 40 ?_
    refine ⟨_, hth τ s (p + K) L hs hpp, ?_⟩
    generalize th (p + K) = r at *
    rintro v υ ⟨rfl, q1, q2, q3, q4⟩
    refine ⟨fun c => ?_, fun c => ⟨Or.inl rfl, ?_⟩⟩
    · have hr1 := (bI_ne _).mp c
      have hsi := q3 hr1
      have hlen := hok2.2.2 hr1
      refine ⟨fun e => ⟨Or.inr rfl, ?_⟩, fun e => ⟨s, q1.2.1, ?_⟩⟩
      · have hev := of_decide_eq_false ((bI_eq _).mp e)
        rw [if_neg hev]
        exact ⟨by rw [hr1]; rfl, q1, q2, fun _ => hsi, hfr.tr q4⟩
      · have hodd := of_decide_eq_true ((bI_ne _).mp e)
        rw [if_pos hodd]
        have hpu := ev_puts (k + 1) υ s hs q2 1126
        have fin2 : ∀ ω, SW ω s → (∀ L, SI υ s L → L.length < 40 → SI ω s (L ++ [1126])) → Fr [s, s + 1] υ ω → QP σ s L (r.1, r.2.1, r.2.2.1 ++ [1126], -r.2.2.2) (some (.int 1)) ω := by
          intro ω z1 z2 z3
          refine ⟨by rw [hr1]; rfl, RD_puts hs q1 z3, z1, fun _ => ?_, (hfr.tr q4).tr (z3.mono (by simp))⟩
          rw [← List.append_assoc]
          have hK1 : 1 ≤ K := by omega
          have := hok2.2.1
          exact z2 _ hsi (by rw [List.length_append]; omega)
        rcases hs with rfl | rfl
        all_goals
          refine ⟨_, hpu, ?_⟩
          rintro v ω ⟨rfl, z1, z2, z3⟩
          exact ⟨Or.inr rfl, fin2 ω z1 z2 z3⟩
    · have hr1 := (bI_eq _).mp c
      by_cases hodd : K % 2 = 1
      · rw [if_pos hodd]
        exact ⟨by rw [hr1]; rfl, q1, q2, fun h => by rw [hr1] at h; exact Bool.noConfusion h, hfr.tr q4⟩
      · rw [if_neg hodd]
        exact ⟨by rw [hr1]; rfl, q1, q2, fun h => by rw [hr1] at h; exact Bool.noConfusion h, hfr.tr q4⟩
  refine wpW K_X6_readsSigned [4] 10 ?_
  refine loopI (α := Sto) 4 (fun i a => [some (.ref 17), some (.int (nI d)), some (.int (bI (decide (i % 2 = 1)))), some (.int (nI i))]) (fun a => a) (fun i a => PP0 cs a s (p + i) L ∧ Fr [17, s, s + 1] σ a ∧ leadS cs (40 - i) (p + i) + i = K) 40 ?_ ?_ 0 σ (Nat.zero_le _) ⟨hp, Fr.rf, by rw [Nat.sub_zero, Nat.add_zero, Nat.add_zero]; exact hK⟩
  · intro i τ hi hII go
    obtain ⟨hpp, hfr, hI⟩ := hII
    obtain ⟨c, hc1⟩ : ∃ c, 40 - i = c + 1 := ⟨39 - i, by omega⟩
    have hc2 : 40 - (i + 1) = c := by omega
    rw [hc1, leadS] at hI
    refine wpW K_X6_readsSigned [4, 45] 40 ?_
    refine ⟨fun h => ?_, fun _ => ⟨_, hpp.nx (k := k), ?_⟩⟩
    · rw [show (40 : Int32) = nI 40 from rfl, le_of_nI (by omega) (by omega)] at h; omega
    · rintro v υ ⟨h9, rfl⟩
      obtain rfl := h9.symm
      refine ⟨fun e => ?_, fun e => ?_⟩
      · rw [if_neg e] at hI
        have hKi : K = i := by omega
        have := fin τ (some (.int (nI i))) (by rw [hKi]; exact hpp) hfr
        rw [hKi] at this
        rw [hKi]
        exact this
      · rw [if_pos e] at hI
        have hlt := cs_lt hcs (p := p + i) (by rw [e]; decide)
        have hnx : PP0 cs (sI τ 17 2 (gI τ 17 2 + 1)) s (p + (i + 1)) L := hpp.next hs (Fr.rf.sI (by simp)) (hpp.2.2.1.inc (by omega)) (SI_17 hs hpp.2.2.2.1) (by omega) (by omega)
        have hI2 : leadS cs (40 - (i + 1)) (p + (i + 1)) + (i + 1) = K := by rw [hc2, ← hI]; show leadS cs c (p + i + 1) + (i + 1) = leadS cs c (p + i + 1) + 1 + i; omega
        refine ⟨fun z => ?_, fun z => ?_⟩
        · exact go _ _ _ (by rw [← nI_1 i, odd_bI, if_neg z]; rfl) rfl ⟨hnx, Fr.sI hfr (by simp), hI2⟩
        · exact go _ _ _ (by rw [← nI_1 i, odd_bI, if_pos z]; rfl) rfl ⟨hnx, Fr.sI hfr (by simp), hI2⟩
  · intro τ hII
    obtain ⟨hpp, hfr, hI⟩ := hII
    have hKi : K = 40 := by rw [← hI]; show _ = 0 + 40; rfl
    refine wpW K_X6_readsSigned [4, 45] 40 ?_
    refine ⟨fun h => ?_, fun h => absurd (by decide) h⟩
    have := fin τ (some (.int (nI 40))) (by rw [hKi]; exact hpp) hfr
    rw [hKi] at this
    rw [hKi]
    exact this
