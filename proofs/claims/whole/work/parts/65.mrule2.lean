/-! the model reads a rule: comparisons, things, all levels -/
theorem ev_mheld (a t : Nat) (cs as : Nat → Int32) (k : Nat) (d : Int32) (sub : Nat → RR) (hok : csEnd cs → PrOK sub) (hsub : MPt a t cs as (k + 1) M_X12_sum [.ref 52, .int d] sub) : MPt a t cs as (k + 2) M_X12_held [.ref 52, .int d] (fun p => chainP cs cmpO sub 1 (sub p)) := by
  intro σ p hp ha h40
  have hcs := hp.cse
  replace hok := hok hcs
  refine EvM.of mk_X12_held (Nat.le_of_ble_eq_true rfl) ?_
  refine wpW K_X12_held [] 60 ?_
  refine ⟨_, hsub σ p hp ha h40, ?_⟩
  rintro v σ1 ⟨f1, x, rfl, h1⟩
  simp only
  generalize hT : chainP cs cmpO sub 1 (sub p) = T
  have hp1 := hok p h40
  generalize sub p = r at h1 hT hp1
  by_cases hr : r.1 = true
  · rw [if_pos hr] at h1
    obtain ⟨hx, hR⟩ := h1
    have hnx : ∀ c, cs r.2.1 = c → cmpO c = true → ∀ τ, PR τ a t 40 cs (r.2.1 + 1) (-1) → FM [] jP σ τ → ∃ Q', EvM (k + 1) M_X12_sum [.ref 52, .int d] τ Q' ∧ ∀ v τ', Q' v τ' → ∃ y, v = some (.int y) ∧ MQ1 a t cs σ T (some (.int (joinS c x y))) τ' := by
      intro c hc hm τ hPR hf
      have hlt : r.2.1 < 40 := cs_lt hcs (fun e => by rw [← hc, e] at hm; exact absurd hm (by decide))
      refine ⟨_, hsub τ _ hPR (ha.go hf) (by omega), ?_⟩
      rintro v τ' ⟨f2, y, rfl, h2⟩
      refine ⟨y, rfl, hf.tr f2, _, rfl, ?_⟩
      rw [chainP, if_pos (by rw [hr, hc, hm]; rfl), chainP] at hT
      subst hT
      simp only
      by_cases e : (sub (r.2.1 + 1)).1 = true
      · rw [if_pos e] at h2 ⊢
        exact ⟨by rw [hc, hx, h2.1], h2.2⟩
      · rw [if_neg e] at h2 ⊢
        exact h2
    refine ⟨_, ev_passes _ _ hR 60 (by decide), ?_⟩
    rintro v σ2 ⟨rfl, h2, f2⟩
    refine ⟨fun c => ?_, fun c => ?_⟩
    rotate_left
    · rw [bI_ne, decide_eq_true_eq] at c
      rw [if_pos c] at h2
      obtain ⟨Q', e1, e2⟩ := hnx 60 c.2 (by decide) σ2 h2 (f1.tr f2)
      refine ⟨Q', e1, fun v τ' hq => ?_⟩
      obtain ⟨y, rfl, e3⟩ := e2 v τ' hq
      refine ⟨fun e => ?_, fun e => ?_⟩
      · rw [show joinS 60 x y = 0 from if_pos e] at e3; exact e3
      · rw [show joinS 60 x y = 1 from if_neg e] at e3; exact e3
    rw [bI_eq, decide_eq_false_iff_not] at c
    rw [if_neg c] at h2
    have c1 : ¬ cs r.2.1 = 60 := fun q => c ⟨rfl, q⟩
    refine ⟨_, ev_passes _ _ h2 62 (by decide), ?_⟩
    rintro v σ3 ⟨rfl, h3, f3⟩
    refine ⟨fun c => ?_, fun c => ?_⟩
    rotate_left
    · rw [bI_ne, decide_eq_true_eq] at c
      rw [if_pos c] at h3
      obtain ⟨Q', e1, e2⟩ := hnx 62 c.2 (by decide) σ3 h3 ((f1.tr f2).tr f3)
      refine ⟨Q', e1, fun v τ' hq => ?_⟩
      obtain ⟨y, rfl, e3⟩ := e2 v τ' hq
      refine ⟨fun e => ?_, fun e => ?_⟩
      · rw [show joinS 62 x y = 0 from if_pos e] at e3; exact e3
      · rw [show joinS 62 x y = 1 from if_neg e] at e3; exact e3
    rw [bI_eq, decide_eq_false_iff_not] at c
    rw [if_neg c] at h3
    have c2 : ¬ cs r.2.1 = 62 := fun q => c ⟨rfl, q⟩
    refine ⟨_, ev_passes _ _ h3 61 (by decide), ?_⟩
    rintro v σ4 ⟨rfl, h4, f4⟩
    refine ⟨fun c => ?_, fun c => ?_⟩
    rotate_left
    · rw [bI_ne, decide_eq_true_eq] at c
      rw [if_pos c] at h4
      obtain ⟨Q', e1, e2⟩ := hnx 61 c.2 (by decide) σ4 h4 (((f1.tr f2).tr f3).tr f4)
      refine ⟨Q', e1, fun v τ' hq => ?_⟩
      obtain ⟨y, rfl, e3⟩ := e2 v τ' hq
      refine ⟨fun e => ?_, fun e => ?_⟩
      · rw [show joinS 61 x y = 0 from if_neg e] at e3; exact e3
      · rw [show joinS 61 x y = 1 from if_pos e] at e3; exact e3
    rw [bI_eq, decide_eq_false_iff_not] at c
    rw [if_neg c] at h4
    have c3 : ¬ cs r.2.1 = 61 := fun q => c ⟨rfl, q⟩
    rw [chainP, if_neg (by rw [cmpO]; simp [c1, c2, c3])] at hT
    subst hT
    exact ⟨((f1.tr f2).tr f3).tr f4, x, rfl, by rw [if_pos hr]; exact ⟨hx, h4⟩⟩
  · rw [chainP, if_neg (by simp [hr])] at hT
    subst hT
    rw [if_neg hr] at h1
    obtain ⟨p', hR⟩ := h1
    have hw : ¬ nI r.2.1 = -1 := ne_m1 (by omega)
    refine ⟨_, ev_passes _ _ hR 60 (by decide), ?_⟩
    rintro v σ2 ⟨rfl, h2, f2⟩
    rw [if_neg (fun q => hw q.1)] at h2
    rw [decide_eq_false (fun q => hw q.1)]
    refine ⟨fun _ => ⟨_, ev_passes _ _ h2 62 (by decide), ?_⟩, fun e => absurd rfl e⟩
    rintro v σ3 ⟨rfl, h3, f3⟩
    rw [if_neg (fun q => hw q.1)] at h3
    rw [decide_eq_false (fun q => hw q.1)]
    refine ⟨fun _ => ⟨_, ev_passes _ _ h3 61 (by decide), ?_⟩, fun e => absurd rfl e⟩
    rintro v σ4 ⟨rfl, h4, f4⟩
    rw [if_neg (fun q => hw q.1)] at h4
    rw [decide_eq_false (fun q => hw q.1)]
    exact ⟨fun _ => ⟨((f1.tr f2).tr f3).tr f4, x, rfl, by rw [if_neg hr]; exact ⟨p', h4⟩⟩, fun e => absurd rfl e⟩
theorem deep_nI {l : Nat} (hl : l + 1 ≤ 4) : nI (4 - (l + 1)) + 1 = nI (4 - l) := by rw [nI_1, show 4 - (l + 1) + 1 = 4 - l by omega]
theorem ev_mthing (a t : Nat) (cs as : Nat → Int32) (l : Nat) (hl : l ≤ 4) (hin : ∀ k l', l = l' + 1 → MPt a t cs as (k + 50 * l' + 60) M_X12_held [.ref 52, .int (nI (4 - l'))] (ruleP cs as l')) (k : Nat) : ∀ n σ p, p + n = 40 → PR σ a t 40 cs p (-1) → AQ σ as → EvM (k + n + 50 * l + 11) M_X12_thing [.ref 52, .int (nI (4 - l))] σ (MQ1 a t cs σ (signP cs (thingP cs as (deepP cs as l)) p)) := by
  intro n
  induction n with
  | zero =>
    intro σ p hpn hp ha
    have hcs := hp.cse
    have e1 : cs p = -1 := hcs p (by omega)
    refine EvM.of mk_X12_thing (Nat.le_of_ble_eq_true rfl) ?_
    refine wpW K_X12_thing [] 60 ?_
    refine ⟨_, ev_passes _ _ hp 45 (by decide), ?_⟩
    rintro v σ2 ⟨rfl, h2, f2⟩
    rw [e1] at h2 ⊢
    rw [if_neg (by decide)] at h2
    refine ⟨fun _ => ⟨_, ev_fine _ _ h2.wr, ?_⟩, fun e => absurd (by decide) e⟩
    rintro v τ' ⟨h9, rfl⟩
    obtain rfl := h9.symm
    refine ⟨fun _ => ⟨_, ev_here _ _ h2, ?_⟩, fun e => absurd e (by decide)⟩
    rintro v τ' ⟨h9, rfl⟩
    obtain rfl := h9.symm
    rw [e1]
    refine ⟨fun _ => ⟨_, ev_in _ _ _ _ _, ?_⟩, fun e => absurd e (by decide)⟩
    rintro v τ' ⟨h9, rfl⟩
    obtain rfl := h9.symm
    refine ⟨fun _ => ⟨_, ev_letterOf _ _ _, ?_⟩, fun e => absurd (by decide) e⟩
    rintro v τ' ⟨h9, rfl⟩
    obtain rfl := h9.symm
    refine ⟨fun e => absurd (by decide) e, fun _ => ⟨_, ev_fault _ _ h2 _, ?_⟩⟩
    rintro v σ3 ⟨rfl, h3, f3⟩
    rw [if_pos rfl, h2.at] at h3
    have hth : thingP cs as (deepP cs as l) p = (false, p, [0], 0) := by
      have hn : numS cs 3 p 0 0 = (0, 0) := by rw [numS, e1, if_neg (by decide)]
      rw [thingP.eq_def, e1, if_neg (by decide), if_neg (by decide), hn]
      rfl
    rw [sign_no _ (by rw [e1]; decide), hth]
    exact ⟨f2.tr f3, 0, rfl, ⟨p, h3⟩⟩
  | succ n ih =>
    intro σ p hpn hp ha
    have hcs := hp.cse
    refine EvM.of mk_X12_thing (Nat.le_of_ble_eq_true rfl) ?_
    refine wpW K_X12_thing [67] 60 ?_
    refine ⟨_, ev_passes _ _ hp 45 (by decide), ?_⟩
    rintro v σ2 ⟨rfl, h2, f2⟩
    refine ⟨fun c => ?_, fun c => ?_⟩
    rotate_left
    · rw [bI_ne, decide_eq_true_eq] at c
      rw [if_pos c] at h2
      have hih := ih σ2 (p + 1) (by omega) h2 (ha.go f2)
      rw [show k + n + 50 * l + 11 = k + (n + 1) + 50 * l + 10 by omega] at hih
      refine ⟨_, hih, ?_⟩
      rintro v σ3 ⟨f3, x, rfl, h3⟩
      obtain ⟨s1, s2, s3⟩ := sign_45 hcs (thingP cs as (deepP cs as l)) c.2
      refine ⟨f2.tr f3, _, rfl, ?_⟩
      rw [s1, s2, s3]
      split
      · next e => rw [if_pos e] at h3; exact ⟨by rw [h3.1], h3.2⟩
      · next e => rw [if_neg e] at h3; exact h3
    rw [bI_eq, decide_eq_false_iff_not] at c
    rw [if_neg c] at h2
    have c45 : ¬ cs p = 45 := fun q => c ⟨rfl, q⟩
    rw [sign_no _ c45]
    refine ⟨_, ev_fine _ _ h2.wr, ?_⟩
    rintro v τ' ⟨h9, rfl⟩
    obtain rfl := h9.symm
    refine ⟨fun _ => ⟨_, ev_here _ _ h2, ?_⟩, fun e => absurd e (by decide)⟩
    rintro v τ' ⟨h9, rfl⟩
    obtain rfl := h9.symm
    obtain ⟨g1, g2⟩ := h2.inc (by omega)
    have rest : ∀ (hc : ¬ cs p = 40 ∨ (cs p = 40 ∧ l = 0)), WW M_X12_thing (k + (n + 1) + 50 * l + 11) (MQ1 a t cs σ (thingP cs as (deepP cs as l) p)) 67 [some (.ref 52), some (.int (nI (4 - l))), some (.int (cs p)), none] [] σ2 := by
      intro hc
      refine wpW K_X12_thing [] 60 ?_
      refine ⟨_, ev_in _ _ _ _ _, ?_⟩
      rintro v τ' ⟨h9, rfl⟩
      obtain rfl := h9.symm
      rw [dg_iff]
      refine ⟨fun e => ⟨_, ev_letterOf _ _ _, ?_⟩, fun e => ⟨_, ev_number _ _ h2 ((bI_ne _).mp e), ?_⟩⟩
      · rw [bI_eq] at e
        have hn : numS cs 3 p 0 0 = (0, 0) := by rw [numS, if_neg (by rw [e]; decide)]
        rintro v τ' ⟨h9, rfl⟩
        obtain rfl := h9.symm
        refine ⟨fun e2 => ?_, fun e2 => ⟨_, ev_fault _ _ h2 _, ?_⟩⟩
        · have hL : isLet (cs p) = true := by
            cases hb : isLet (cs p) with
            | true => rfl
            | false => exact absurd ((let_m1 _).mpr hb) e2
          have hc' : ¬ cs p = 40 := fun q => by rw [q] at hL; exact absurd hL (by decide)
          obtain ⟨i, i1, i2, i3⟩ := let_th as hL
          have hth : thingP cs as (deepP cs as l) p = (true, p + 1, [1000 + cs p], as i) := by rw [thingP.eq_def, if_neg hc', if_pos hL, i3]
          have hq := (ha.go f2).go g2
          rw [hth]
          refine ⟨fun e3 => ?_, fun e3 => ⟨_, ev_letterOf _ _ _, ?_⟩⟩
          · refine ⟨f2.tr g2, 0, rfl, ?_, g1⟩
            rcases hq with ⟨q1, q2⟩ | ⟨q1, q2⟩
            · rw [q2]
            · exact absurd (show (1 : Int32) = 0 from q1.symm.trans e3) (by decide)
          · rintro v τ' ⟨h9, rfl⟩
            obtain rfl := h9.symm
            refine ⟨by rw [i2]; exact in7 i1, f2.tr g2, _, rfl, ?_, g1⟩
            rcases hq with ⟨q1, q2⟩ | ⟨q1, q2⟩
            · exact absurd q1 e3
            · rw [← q2 i i1, i2, nI_clamp (by omega)]
        · rintro v σ3 ⟨rfl, h3, f3⟩
          rw [if_pos rfl, h2.at] at h3
          have hL : isLet (cs p) = false := (let_m1 _).mp e2
          have hth : (thingP cs as (deepP cs as l) p).1 = false ∧ (thingP cs as (deepP cs as l) p).2.1 = p := by
            rw [thingP.eq_def]
            rcases hc with hc | ⟨hc, rfl⟩
            · rw [if_neg hc, if_neg (by rw [hL]; decide), hn]
              exact ⟨rfl, rfl⟩
            · rw [if_pos hc]
              exact ⟨rfl, rfl⟩
          refine ⟨f2.tr f3, 0, rfl, ?_⟩
          rw [hth.1, hth.2, if_neg (by decide)]
          exact ⟨p, h3⟩
      · rw [bI_ne] at e
        rintro v σ3 ⟨rfl, h3, f3⟩
        obtain ⟨d1, d2, d3⟩ := dg_let e
        have hth : thingP cs as (deepP cs as l) p = (true, p + (numS cs 3 p 0 0).1, [(numS cs 3 p 0 0).2], (numS cs 3 p 0 0).2) := by
          rw [thingP.eq_def, if_neg d2, if_neg (by rw [d1]; decide), decide_eq_true (num_pos e)]
        rw [hth]
        exact ⟨f2.tr f3, _, rfl, rfl, h3⟩
    refine ⟨fun e => rest (Or.inl e), fun e => ⟨fun e2 => ?_, fun e2 => ?_⟩⟩
    · refine rest (Or.inr ⟨e, ?_⟩)
      rw [show (4 : Int32) = nI 4 from rfl, le_of_nI (by omega) (by omega)] at e2
      omega
    · rw [show (4 : Int32) = nI 4 from rfl, le_of_nI (by omega) (by omega)] at e2
      obtain ⟨l', rfl⟩ : ∃ l', l = l' + 1 := ⟨l - 1, by omega⟩
      have hH := hin (k + (n + 1)) l' rfl _ (p + 1) g1 ((ha.go f2).go g2) (by omega)
      rw [show k + (n + 1) + 50 * l' + 60 = k + (n + 1) + 50 * (l' + 1) + 10 by omega, ← deep_nI hl] at hH
      refine ⟨_, hH, ?_⟩
      rintro v σ3 ⟨f3, x, rfl, h3⟩
      have hth : thingP cs as (deepP cs as (l' + 1)) p = if (ruleP cs as l' (p + 1)).1 && decide (cs (ruleP cs as l' (p + 1)).2.1 = 41) then (true, (ruleP cs as l' (p + 1)).2.1 + 1, (ruleP cs as l' (p + 1)).2.2.1, (ruleP cs as l' (p + 1)).2.2.2) else (false, (ruleP cs as l' (p + 1)).2.1, [], 0) := by
        rw [thingP.eq_def, if_pos e]
        rfl
      rw [hth]
      have hok := rule_ok (as := as) hcs l' (p + 1) (by omega)
      generalize ruleP cs as l' (p + 1) = r at h3 hok ⊢
      by_cases hr : r.1 = true
      · rw [if_pos hr] at h3
        refine ⟨_, ev_need _ _ h3.2 41 (by decide), ?_⟩
        rintro v σ4 ⟨rfl, h4, f4⟩
        refine ⟨((f2.tr g2).tr f3).tr f4, x, rfl, ?_⟩
        by_cases hq : cs r.2.1 = 41
        · rw [if_pos ⟨rfl, hq⟩, if_neg (fun q => q.2 hq)] at h4
          rw [if_pos (show (r.1 && decide (cs r.2.1 = 41)) = true by rw [hr, decide_eq_true hq]; rfl), if_pos rfl]
          exact ⟨h3.1, h4⟩
        · rw [if_neg (fun q => hq q.2), if_pos ⟨rfl, hq⟩] at h4
          rw [if_neg (show ¬ (r.1 && decide (cs r.2.1 = 41)) = true by rw [decide_eq_false hq]; simp), if_neg (by simp)]
          exact ⟨_, h4⟩
      · rw [if_neg hr] at h3
        obtain ⟨p', h3⟩ := h3
        have hw : ¬ nI r.2.1 = -1 := ne_m1 (by omega)
        refine ⟨_, ev_need _ _ h3 41 (by decide), ?_⟩
        rintro v σ4 ⟨rfl, h4, f4⟩
        rw [if_neg (fun q => hw q.1), if_neg (fun q => hw q.1)] at h4
        refine ⟨((f2.tr g2).tr f3).tr f4, x, rfl, ?_⟩
        rw [if_neg (show ¬ (r.1 && decide (cs r.2.1 = 41)) = true by simp [hr]), if_neg (by simp)]
        exact ⟨_, h4⟩
theorem ev_mreading (a t : Nat) (cs as : Nat → Int32) : ∀ l, l ≤ 4 → ∀ k, MPt a t cs as (k + 50 * l + 60) M_X12_held [.ref 52, .int (nI (4 - l))] (ruleP cs as l) := by
  intro l
  induction l with
  | zero =>
    intro _ k
    have h1 : MPt a t cs as (k + 57) M_X12_thing [.ref 52, .int (nI (4 - 0))] (signP cs (thingP cs as (deepP cs as 0))) := by
      intro σ p hp ha h40
      have := ev_mthing a t cs as 0 (by omega) (fun k l' e => absurd e (by omega)) (k + 6 + p) (40 - p) σ p (by omega) hp ha
      rw [show k + 6 + p + (40 - p) + 50 * 0 + 11 = k + 57 by omega] at this
      exact this
    have hok : csEnd cs → PrOK (thingP cs as (deepP cs as 0)) := fun hc => thing_ok hc (deep_ok hc 0)
    rw [ruleP_eq]
    exact ev_mheld a t cs as (k + 58) _ _ (fun hc => sum_ok hc (hok hc)) (ev_msum a t cs as (k + 57) _ _ (fun hc => prod_ok hc (hok hc)) (ev_product a t cs as (k + 56) _ _ (fun hc => sign_ok hc (hok hc)) h1))
  | succ l ih =>
    intro hl k
    have h1 : MPt a t cs as (k + 50 * (l + 1) + 57) M_X12_thing [.ref 52, .int (nI (4 - (l + 1)))] (signP cs (thingP cs as (deepP cs as (l + 1)))) := by
      intro σ p hp ha h40
      have := ev_mthing a t cs as (l + 1) hl (fun k l' e => by obtain rfl : l' = l := by omega
                                                               exact ih (by omega) k) (k + 6 + p) (40 - p) σ p (by omega) hp ha
      rw [show k + 6 + p + (40 - p) + 50 * (l + 1) + 11 = k + 50 * (l + 1) + 57 by omega] at this
      exact this
    have hok : csEnd cs → PrOK (thingP cs as (deepP cs as (l + 1))) := fun hc => thing_ok hc (deep_ok hc (l + 1))
    rw [ruleP_eq]
    exact ev_mheld a t cs as (k + 50 * (l + 1) + 58) _ _ (fun hc => sum_ok hc (hok hc)) (ev_msum a t cs as (k + 50 * (l + 1) + 57) _ _ (fun hc => prod_ok hc (hok hc)) (ev_product a t cs as (k + 50 * (l + 1) + 56) _ _ (fun hc => sign_ok hc (hok hc)) h1))
theorem ev_mread (a t : Nat) (cs as : Nat → Int32) (k : Nat) : MPt a t cs as (k + 260) M_X12_held [.ref 52, .int 0] (ruleP cs as 4) := ev_mreading a t cs as 4 (Nat.le_refl _) k
