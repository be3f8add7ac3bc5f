/-! products, sums, comparisons, and all of it -/
theorem ev_readsProduct (cs : Nat → Int32) (hcs : csEnd cs) (k d : Nat) (sub : Nat → RR) (hok : PrOK sub) (hsub : PMt cs (k + 1) M_X6_readsSigned [.ref 17, .int (nI d)] sub) : PMt cs (k + 2) M_X6_readsProduct [.ref 17, .int (nI d)] (fun p => chainP cs mulO sub 40 (sub p)) := by
  intro σ s p L hs hp
  show EvM (k + 2) M_X6_readsProduct [.ref 17, .int (nI d)] σ (QP σ s L (chainP cs mulO sub 40 (sub p)))
  have hp40 := hp.2.2.2.2.2
  have hLp := hp.2.2.2.2.1
  have hev := hsub σ s p L hs hp
  have hok0 := hok p hp40
  refine EvM.of mk_X6_readsProduct (Nat.le_of_ble_eq_true rfl) ?_
  generalize hX : chainP cs mulO sub 40 (sub p) = X
  have L1 : ∀ τ r, RD τ s r.2.1 → SW τ s → (r.1 = true → SI τ s (L ++ r.2.2.1)) → Fr [17, s, s + 1] σ τ → p ≤ r.2.1 → r.2.1 ≤ 40 → (r.1 = true → r.2.2.1.length + p ≤ r.2.1) → chainP cs mulO sub 40 r = X → WW M_X6_readsProduct (k + 2) (QP σ s L X) 8 [some (.ref 17), some (.int (nI d)), some (.int (bI r.1)), some (.int (nI 0)), none] [] τ := by
    intro τ r a1 a2 a3 a4 a5 a6 a7 a8
    refine loopI (α := Sto × RR × Option Value) 8 (fun i a => [some (.ref 17), some (.int (nI d)), some (.int (bI a.2.1.1)), some (.int (nI i)), a.2.2]) (fun a => a.1) (fun i a => RD a.1 s a.2.1.2.1 ∧ SW a.1 s ∧ (a.2.1.1 = true → SI a.1 s (L ++ a.2.1.2.2.1)) ∧ Fr [17, s, s + 1] σ a.1 ∧ p ≤ a.2.1.2.1 ∧ a.2.1.2.1 ≤ 40 ∧ (a.2.1.1 = true → a.2.1.2.2.1.length + p ≤ a.2.1.2.1) ∧ chainP cs mulO sub (40 - i) a.2.1 = X) 40 ?_ ?_ 0 (τ, r, none) (Nat.zero_le _) ⟨a1, a2, a3, a4, a5, a6, a7, a8⟩
    · rintro i ⟨υ, q, y4⟩ hi ⟨b1, b2, b3, b4, b5, b6, b7, b8⟩ go
      simp only at b1 b2 b3 b4 b5 b6 b7 b8
      obtain ⟨c, hc1⟩ : ∃ c, 40 - i = c + 1 := ⟨39 - i, by omega⟩
      have hc2 : 40 - (i + 1) = c := by omega
      rw [hc1, chainP] at b8
      refine wpW K_X6_readsProduct [8, 40] 40 ?_
      refine ⟨fun h => ?_, fun _ => ⟨fun h => ⟨bI_or _, ?_⟩, fun h => ?_⟩⟩
      · rw [show (40 : Int32) = nI 40 from rfl, le_of_nI (by omega) (by omega)] at h; omega
      · have hq : q.1 = false := (bI_eq _).mp h
        rw [hq] at b8
        have b8' : q = X := b8
        subst b8'
        exact ⟨rfl, b1, b2, b3, b4⟩
      · have hq : q.1 = true := (bI_ne _).mp h
        have hsi := b3 hq
        have hlen := b7 hq
        have hpp : PP0 cs υ s q.2.1 (L ++ q.2.2.1) := hp.next hs b4 b1 hsi (by rw [List.length_append]; omega) b6
        refine ⟨_, hpp.nx (k := k), ?_⟩
        rintro v ω ⟨h9, rfl⟩
        obtain rfl := h9.symm
        have go40 : mulO (cs q.2.1) = true → WW M_X6_readsProduct (k + 2) (QP σ s L X) 40 [some (.ref 17), some (.int (nI d)), some (.int (bI q.1)), some (.int (nI i)), some (.int (cs q.2.1))] [] υ := by
          intro hop
          have hlt : q.2.1 < 40 := cs_lt hcs (fun e => by rw [e] at hop; exact absurd hop (by decide))
          have hpp2 : PP0 cs (sI υ 17 2 (gI υ 17 2 + 1)) s (q.2.1 + 1) (L ++ q.2.2.1) := hpp.next hs (Fr.rf.sI (by simp)) (b1.inc (by omega)) (SI_17 hs hsi) (by rw [List.length_append]; omega) (by omega)
          have hok2 := hok (q.2.1 + 1) (by omega)
          have hev2 := hsub _ s (q.2.1 + 1) _ hs hpp2
          rw [hq, hop] at b8
          simp only [Bool.and_self, if_true] at b8
          generalize sub (q.2.1 + 1) = r' at *
          refine wpW K_X6_readsProduct [8] 60 ?_
          refine ⟨_, hev2, ?_⟩
          rintro v ω ⟨rfl, d1, d2, d3, d4⟩
          refine ⟨s, d1.2.1, ?_⟩
          have hpu := ev_puts (k + 1) ω s hs d2 (1000 + cs q.2.1)
          have fin : ∀ ξ, SW ξ s → (∀ L, SI ω s L → L.length < 40 → SI ξ s (L ++ [1000 + cs q.2.1])) → Fr [s, s + 1] ω ξ → WW M_X6_readsProduct (k + 2) (QP σ s L X) 8 [some (.ref 17), some (.int (nI d)), some (.int (bI r'.1)), some (.int (nI i + 1)), some (.int (cs q.2.1))] [] ξ := by
            intro ξ z1 z2 z3
            refine go (ξ, (r'.1, r'.2.1, q.2.2.1 ++ r'.2.2.1 ++ [1000 + cs q.2.1], joinS (cs q.2.1) q.2.2.2 r'.2.2.2), some (.int (cs q.2.1))) _ _ (by rw [nI_1]) rfl ⟨RD_puts hs d1 z3, z1, fun hr => ?_, (Fr.sI b4 (by simp)).tr (d4.tr (z3.mono (by simp))), by show p ≤ r'.2.1; omega, hok2.2.1, fun hr => ?_, by rw [hc2]; exact b8⟩
            · have e := d3 hr
              have hl2 := hok2.2.2 hr
              have := hok2.2.1
              have := z2 _ e (by rw [List.length_append, List.length_append]; omega)
              simpa [List.append_assoc] using this
            · have hl2 := hok2.2.2 hr
              show (q.2.2.1 ++ r'.2.2.1 ++ [1000 + cs q.2.1]).length + p ≤ r'.2.1
              rw [List.length_append, List.length_append]
              show _ + _ + 1 + p ≤ _
              omega
          rcases hs with rfl | rfl
          all_goals
            refine ⟨_, hpu, ?_⟩
            rintro v ξ ⟨rfl, z1, z2, z3⟩
            exact fin ξ z1 z2 z3
        refine ⟨fun e => go40 (by simp [mulO, e]), fun e => ⟨fun e2 => go40 (by simp [mulO, e2]), fun e2 => ⟨Or.inr rfl, ?_⟩⟩⟩
        have hno : mulO (cs q.2.1) = false := by simp [mulO, e, e2]
        rw [hq, hno] at b8
        have b8' : q = X := b8
        subst b8'
        exact ⟨by rw [hq]; rfl, b1, b2, b3, b4⟩
    · rintro ⟨υ, q, y4⟩ ⟨b1, b2, b3, b4, b5, b6, b7, b8⟩
      simp only at b1 b2 b3 b4 b5 b6 b7 b8
      have b8' : q = X := b8
      subst b8'
      refine wpW K_X6_readsProduct [8] 40 ?_
      exact ⟨fun h => ⟨bI_or _, rfl, b1, b2, b3, b4⟩, fun h => absurd (by decide) h⟩
  refine wpW K_X6_readsProduct [8] 40 ?_
  refine ⟨_, hev, ?_⟩
  rintro v τ ⟨rfl, q1, q2, q3, q4⟩
  exact L1 τ (sub p) q1 q2 q3 q4 hok0.1 hok0.2.1 hok0.2.2 hX
theorem ev_readsSum (cs : Nat → Int32) (hcs : csEnd cs) (k d : Nat) (sub : Nat → RR) (hok : PrOK sub) (hsub : PMt cs (k + 1) M_X6_readsProduct [.ref 17, .int (nI d)] sub) : PMt cs (k + 2) M_X6_readsSum [.ref 17, .int (nI d)] (fun p => chainP cs addO sub 40 (sub p)) := by
  intro σ s p L hs hp
  show EvM (k + 2) M_X6_readsSum [.ref 17, .int (nI d)] σ (QP σ s L (chainP cs addO sub 40 (sub p)))
  have hp40 := hp.2.2.2.2.2
  have hLp := hp.2.2.2.2.1
  have hev := hsub σ s p L hs hp
  have hok0 := hok p hp40
  refine EvM.of mk_X6_readsSum (Nat.le_of_ble_eq_true rfl) ?_
  generalize hX : chainP cs addO sub 40 (sub p) = X
  have L1 : ∀ τ r, RD τ s r.2.1 → SW τ s → (r.1 = true → SI τ s (L ++ r.2.2.1)) → Fr [17, s, s + 1] σ τ → p ≤ r.2.1 → r.2.1 ≤ 40 → (r.1 = true → r.2.2.1.length + p ≤ r.2.1) → chainP cs addO sub 40 r = X → WW M_X6_readsSum (k + 2) (QP σ s L X) 8 [some (.ref 17), some (.int (nI d)), some (.int (bI r.1)), some (.int (nI 0)), none] [] τ := by
    intro τ r a1 a2 a3 a4 a5 a6 a7 a8
    refine loopI (α := Sto × RR × Option Value) 8 (fun i a => [some (.ref 17), some (.int (nI d)), some (.int (bI a.2.1.1)), some (.int (nI i)), a.2.2]) (fun a => a.1) (fun i a => RD a.1 s a.2.1.2.1 ∧ SW a.1 s ∧ (a.2.1.1 = true → SI a.1 s (L ++ a.2.1.2.2.1)) ∧ Fr [17, s, s + 1] σ a.1 ∧ p ≤ a.2.1.2.1 ∧ a.2.1.2.1 ≤ 40 ∧ (a.2.1.1 = true → a.2.1.2.2.1.length + p ≤ a.2.1.2.1) ∧ chainP cs addO sub (40 - i) a.2.1 = X) 40 ?_ ?_ 0 (τ, r, none) (Nat.zero_le _) ⟨a1, a2, a3, a4, a5, a6, a7, a8⟩
    · rintro i ⟨υ, q, y4⟩ hi ⟨b1, b2, b3, b4, b5, b6, b7, b8⟩ go
      simp only at b1 b2 b3 b4 b5 b6 b7 b8
      obtain ⟨c, hc1⟩ : ∃ c, 40 - i = c + 1 := ⟨39 - i, by omega⟩
      have hc2 : 40 - (i + 1) = c := by omega
      rw [hc1, chainP] at b8
      refine wpW K_X6_readsSum [8, 40] 40 ?_
      refine ⟨fun h => ?_, fun _ => ⟨fun h => ⟨bI_or _, ?_⟩, fun h => ?_⟩⟩
      · rw [show (40 : Int32) = nI 40 from rfl, le_of_nI (by omega) (by omega)] at h; omega
      · have hq : q.1 = false := (bI_eq _).mp h
        rw [hq] at b8
        have b8' : q = X := b8
        subst b8'
        exact ⟨rfl, b1, b2, b3, b4⟩
      · have hq : q.1 = true := (bI_ne _).mp h
        have hsi := b3 hq
        have hlen := b7 hq
        have hpp : PP0 cs υ s q.2.1 (L ++ q.2.2.1) := hp.next hs b4 b1 hsi (by rw [List.length_append]; omega) b6
        refine ⟨_, hpp.nx (k := k), ?_⟩
        rintro v ω ⟨h9, rfl⟩
        obtain rfl := h9.symm
        have go40 : addO (cs q.2.1) = true → WW M_X6_readsSum (k + 2) (QP σ s L X) 40 [some (.ref 17), some (.int (nI d)), some (.int (bI q.1)), some (.int (nI i)), some (.int (cs q.2.1))] [] υ := by
          intro hop
          have hlt : q.2.1 < 40 := cs_lt hcs (fun e => by rw [e] at hop; exact absurd hop (by decide))
          have hpp2 : PP0 cs (sI υ 17 2 (gI υ 17 2 + 1)) s (q.2.1 + 1) (L ++ q.2.2.1) := hpp.next hs (Fr.rf.sI (by simp)) (b1.inc (by omega)) (SI_17 hs hsi) (by rw [List.length_append]; omega) (by omega)
          have hok2 := hok (q.2.1 + 1) (by omega)
          have hev2 := hsub _ s (q.2.1 + 1) _ hs hpp2
          rw [hq, hop] at b8
          simp only [Bool.and_self, if_true] at b8
          generalize sub (q.2.1 + 1) = r' at *
          refine wpW K_X6_readsSum [8] 60 ?_
          refine ⟨_, hev2, ?_⟩
          rintro v ω ⟨rfl, d1, d2, d3, d4⟩
          refine ⟨s, d1.2.1, ?_⟩
          have hpu := ev_puts (k + 1) ω s hs d2 (1000 + cs q.2.1)
          have fin : ∀ ξ, SW ξ s → (∀ L, SI ω s L → L.length < 40 → SI ξ s (L ++ [1000 + cs q.2.1])) → Fr [s, s + 1] ω ξ → WW M_X6_readsSum (k + 2) (QP σ s L X) 8 [some (.ref 17), some (.int (nI d)), some (.int (bI r'.1)), some (.int (nI i + 1)), some (.int (cs q.2.1))] [] ξ := by
            intro ξ z1 z2 z3
            refine go (ξ, (r'.1, r'.2.1, q.2.2.1 ++ r'.2.2.1 ++ [1000 + cs q.2.1], joinS (cs q.2.1) q.2.2.2 r'.2.2.2), some (.int (cs q.2.1))) _ _ (by rw [nI_1]) rfl ⟨RD_puts hs d1 z3, z1, fun hr => ?_, (Fr.sI b4 (by simp)).tr (d4.tr (z3.mono (by simp))), by show p ≤ r'.2.1; omega, hok2.2.1, fun hr => ?_, by rw [hc2]; exact b8⟩
            · have e := d3 hr
              have hl2 := hok2.2.2 hr
              have := hok2.2.1
              have := z2 _ e (by rw [List.length_append, List.length_append]; omega)
              simpa [List.append_assoc] using this
            · have hl2 := hok2.2.2 hr
              show (q.2.2.1 ++ r'.2.2.1 ++ [1000 + cs q.2.1]).length + p ≤ r'.2.1
              rw [List.length_append, List.length_append]
              show _ + _ + 1 + p ≤ _
              omega
          rcases hs with rfl | rfl
          all_goals
            refine ⟨_, hpu, ?_⟩
            rintro v ξ ⟨rfl, z1, z2, z3⟩
            exact fin ξ z1 z2 z3
        refine ⟨fun e => go40 (by simp [addO, e]), fun e => ⟨fun e2 => go40 (by simp [addO, e2]), fun e2 => ⟨Or.inr rfl, ?_⟩⟩⟩
        have hno : addO (cs q.2.1) = false := by simp [addO, e, e2]
        rw [hq, hno] at b8
        have b8' : q = X := b8
        subst b8'
        exact ⟨by rw [hq]; rfl, b1, b2, b3, b4⟩
    · rintro ⟨υ, q, y4⟩ ⟨b1, b2, b3, b4, b5, b6, b7, b8⟩
      simp only at b1 b2 b3 b4 b5 b6 b7 b8
      have b8' : q = X := b8
      subst b8'
      refine wpW K_X6_readsSum [8] 40 ?_
      exact ⟨fun h => ⟨bI_or _, rfl, b1, b2, b3, b4⟩, fun h => absurd (by decide) h⟩
  refine wpW K_X6_readsSum [8] 40 ?_
  refine ⟨_, hev, ?_⟩
  rintro v τ ⟨rfl, q1, q2, q3, q4⟩
  exact L1 τ (sub p) q1 q2 q3 q4 hok0.1 hok0.2.1 hok0.2.2 hX
theorem ev_readsComparison (cs : Nat → Int32) (hcs : csEnd cs) (k d : Nat) (sub : Nat → RR) (hok : PrOK sub) (hsub : PMt cs (k + 1) M_X6_readsSum [.ref 17, .int (nI d)] sub) : PMt cs (k + 2) M_X6_readsComparison [.ref 17, .int (nI d)] (fun p => chainP cs cmpO sub 1 (sub p)) := by
  intro σ s p L hs hp
  show EvM (k + 2) M_X6_readsComparison [.ref 17, .int (nI d)] σ (QP σ s L (chainP cs cmpO sub 1 (sub p)))
  have hp40 := hp.2.2.2.2.2
  have hLp := hp.2.2.2.2.1
  have hev := hsub σ s p L hs hp
  have hok0 := hok p hp40
  refine EvM.of mk_X6_readsComparison (Nat.le_of_ble_eq_true rfl) ?_
  generalize hX : chainP cs cmpO sub 1 (sub p) = X
  rw [chainP] at hX
  generalize sub p = q at *
  refine wpW K_X6_readsComparison [35] 40 ?_
  refine ⟨_, hev, ?_⟩
  rintro v υ ⟨rfl, b1, b2, b3, b4⟩
  refine ⟨fun h => ?_, fun h => ⟨Or.inl rfl, ?_⟩⟩
  · have hq : q.1 = true := (bI_ne _).mp h
    have hsi := b3 hq
    have hlen := hok0.2.2 hq
    have b6 := hok0.2.1
    have hpp : PP0 cs υ s q.2.1 (L ++ q.2.2.1) := hp.next hs b4 b1 hsi (by rw [List.length_append]; omega) b6
    refine ⟨_, hpp.nx (k := k), ?_⟩
    rintro v ω ⟨h9, rfl⟩
    obtain rfl := h9.symm
    have go35 : cmpO (cs q.2.1) = true → WW M_X6_readsComparison (k + 2) (QP σ s L X) 35 [some (.ref 17), some (.int (nI d)), some (.int (cs q.2.1))] [] υ := by
      intro hop
      have hlt : q.2.1 < 40 := cs_lt hcs (fun e => by rw [e] at hop; exact absurd hop (by decide))
      have hpp2 : PP0 cs (sI υ 17 2 (gI υ 17 2 + 1)) s (q.2.1 + 1) (L ++ q.2.2.1) := hpp.next hs (Fr.rf.sI (by simp)) (b1.inc (by omega)) (SI_17 hs hsi) (by rw [List.length_append]; omega) (by omega)
      have hok2 := hok (q.2.1 + 1) (by omega)
      have hev2 := hsub _ s (q.2.1 + 1) _ hs hpp2
      rw [hq, hop] at hX
      simp only [Bool.and_self, if_true, chainP] at hX
      generalize sub (q.2.1 + 1) = r' at *
      refine wpW K_X6_readsComparison [] 60 ?_
      refine ⟨_, hev2, ?_⟩
      rintro v ω ⟨rfl, d1, d2, d3, d4⟩
      have hfrw : Fr [17, s, s + 1] σ ω := (Fr.sI b4 (by simp)).tr d4
      refine ⟨fun c => ⟨s, d1.2.1, ?_⟩, fun c => ⟨Or.inl rfl, ?_⟩⟩
      · have hr := (bI_ne _).mp c
        have hpu := ev_puts (k + 1) ω s hs d2 (1000 + cs q.2.1)
        have fin : ∀ ξ, SW ξ s → (∀ L, SI ω s L → L.length < 40 → SI ξ s (L ++ [1000 + cs q.2.1])) → Fr [s, s + 1] ω ξ → QP σ s L X (some (.int 1)) ξ := by
          intro ξ z1 z2 z3
          rw [← hX]
          refine ⟨by rw [hr]; rfl, RD_puts hs d1 z3, z1, fun _ => ?_, hfrw.tr (z3.mono (by simp))⟩
          have e := d3 hr
          have hl2 := hok2.2.2 hr
          have := hok2.2.1
          have := z2 _ e (by rw [List.length_append, List.length_append]; omega)
          simpa [List.append_assoc] using this
        rcases hs with rfl | rfl
        all_goals
          refine ⟨_, hpu, ?_⟩
          rintro v ξ ⟨rfl, z1, z2, z3⟩
          exact ⟨Or.inr rfl, fin ξ z1 z2 z3⟩
      · have hr := (bI_eq _).mp c
        rw [← hX]
        exact ⟨by rw [hr]; rfl, d1, d2, fun h => by rw [hr] at h; exact Bool.noConfusion h, hfrw⟩
    refine ⟨fun e => go35 (by simp [cmpO, e]), fun e => ⟨fun e2 => go35 (by simp [cmpO, e2]), fun e2 => ⟨fun e3 => go35 (by simp [cmpO, e3]), fun e3 => ⟨Or.inr rfl, ?_⟩⟩⟩⟩
    have hno : cmpO (cs q.2.1) = false := by simp [cmpO, e, e2, e3]
    rw [hq, hno] at hX
    have hX' : q = X := hX
    subst hX'
    exact ⟨by rw [hq]; rfl, b1, b2, b3, b4⟩
  · have hq : q.1 = false := (bI_eq _).mp h
    rw [hq] at hX
    have hX' : q = X := hX
    subst hX'
    exact ⟨by rw [hq]; rfl, b1, b2, b3, b4⟩
/-- how deep the frames go -/
def dK (d : Nat) : Nat := 6 * (4 - d) + 8
theorem ev_reading (cs as : Nat → Int32) (hcs : csEnd cs) (k : Nat) : ∀ l, l ≤ 4 → PMt cs (k + 6 * l + 8) M_X6_readsComparison [.ref 17, .int (nI (4 - l))] (ruleP cs as l) := by
  intro l
  induction l with
  | zero =>
    intro _
    have ht := ev_readsThing cs as hcs (k + 1) 4 (by omega) (fun h => absurd h (by omega))
    have hto := thing_ok (as := as) hcs (deep := deepP cs as (4 - 4)) (deep_ok hcs _)
    have hs := ev_readsSigned cs as hcs (k + 3) 4 _ hto ht
    have hso := sign_ok hcs hto
    have hp := ev_readsProduct cs hcs (k + 4) 4 _ hso hs
    have hpo := prod_ok hcs hto
    have hsu := ev_readsSum cs hcs (k + 5) 4 _ hpo hp
    have hsuo := sum_ok hcs hto
    exact ev_readsComparison cs hcs (k + 6) 4 _ hsuo hsu
  | succ l ih =>
    intro hl
    have hd : 4 - (4 - (l + 1)) = l + 1 := by omega
    have hd2 : 4 - (l + 1) + 1 = 4 - l := by omega
    have hd3 : 4 - (4 - (l + 1) + 1) = l := by omega
    have ht := ev_readsThing cs as hcs (k + 6 * l + 7) (4 - (l + 1)) (by omega) (fun _ => by rw [hd2, show 4 - (4 - l) = l by omega]; exact ih (by omega))
    rw [hd] at ht
    have hto := thing_ok (as := as) hcs (deep := deepP cs as (l + 1)) (deep_ok hcs _)
    have hs := ev_readsSigned cs as hcs (k + 6 * l + 9) _ _ hto ht
    have hso := sign_ok hcs hto
    have hp := ev_readsProduct cs hcs (k + 6 * l + 10) _ _ hso hs
    have hpo := prod_ok hcs hto
    have hsu := ev_readsSum cs hcs (k + 6 * l + 11) _ _ hpo hp
    have hsuo := sum_ok hcs hto
    have := ev_readsComparison cs hcs (k + 6 * l + 12) _ _ hsuo hsu
    rw [show k + 6 * (l + 1) + 8 = k + 6 * l + 12 + 2 by omega]
    exact this
