/-! the model reads a rule -/
def AQ (σ : Sto) (as : Nat → Int32) : Prop := (gI σ 52 17 = 0 ∧ as = fun _ => 0) ∨ (gI σ 52 17 = 1 ∧ ∀ i, i < 7 → gA σ 60 i = as i)
theorem AQ.go {σ τ : Sto} {as : Nat → Int32} (h : AQ σ as) (hf : FM [] jP σ τ) : AQ τ as := by
  unfold AQ
  rw [hf.i 17 (by decide), hf.a 60 (by decide)]
  exact h
def MQ1 (a t : Nat) (cs : Nat → Int32) (σ : Sto) (r : RR) : Option Value → Sto → Prop := fun v τ => FM [] jP σ τ ∧ ∃ x, v = some (.int x) ∧ if r.1 = true then x = r.2.2.2 ∧ PR τ a t 40 cs r.2.1 (-1) else ∃ p', PR τ a t 40 cs p' (nI r.2.1)
def MPt (a t : Nat) (cs as : Nat → Int32) (k : Nat) (M : Mt) (args : List Value) (f : Nat → RR) : Prop := ∀ σ p, PR σ a t 40 cs p (-1) → AQ σ as → p ≤ 40 → EvM k M args σ (MQ1 a t cs σ (f p))
theorem PR.cse {σ : Sto} {a t : Nat} {cs : Nat → Int32} {p : Nat} {w : Int32} (h : PR σ a t 40 cs p w) : csEnd cs := fun q hq => by
  rw [h.2.2.2.2.2.2.2.2.2.1 q, if_neg (by omega)]
theorem PR.inc {σ : Sto} {a t m : Nat} {cs : Nat → Int32} {p : Nat} {w : Int32} (h : PR σ a t m cs p w) (hp : p < 80) : PR (sI σ 52 11 (gI σ 52 11 + 1)) a t m cs (p + 1) w ∧ FM [] jP σ (sI σ 52 11 (gI σ 52 11 + 1)) := by
  have hf : FM [] jP σ (sI σ 52 11 (gI σ 52 11 + 1)) := FM.rf.sI (by decide)
  refine ⟨h.go hf (by decide) (by decide) ?_ h.wr (by omega), hf⟩
  rw [gI_sI, if_pos ⟨rfl, rfl⟩, h.at, nI_1]
theorem ev_product (a t : Nat) (cs as : Nat → Int32) (k : Nat) (d : Int32) (sub : Nat → RR) (hok : csEnd cs → PrOK sub) (hsub : MPt a t cs as (k + 1) M_X12_thing [.ref 52, .int d] sub) : MPt a t cs as (k + 2) M_X12_product [.ref 52, .int d] (fun p => chainP cs mulO sub 40 (sub p)) := by
  intro σ p hp ha h40
  have hcs := hp.cse
  replace hok := hok hcs
  refine EvM.of mk_X12_product (Nat.le_of_ble_eq_true rfl) ?_
  refine wpW K_X12_product [6] 40 ?_
  refine ⟨_, hsub σ p hp ha h40, ?_⟩
  rintro v σ1 ⟨f1, x, rfl, h1⟩
  simp only
  generalize hT : chainP cs mulO sub 40 (sub p) = T
  have hp1 := hok p h40
  have key : ∀ c (r : RR) x τ o3 o4, FM [] jP σ τ → (if r.1 = true then x = r.2.2.2 ∧ PR τ a t 40 cs r.2.1 (-1) else ∃ p', PR τ a t 40 cs p' (nI r.2.1)) → r.2.1 ≤ 40 → (r.1 = true → 40 ≤ c + r.2.1) → chainP cs mulO sub c r = T → WW M_X12_product (k + 2) (MQ1 a t cs σ T) 6 [some (.ref 52), some (.int d), some (.int x), o3, o4] [] τ := by
    intro c
    induction c with
    | zero =>
      intro r x τ o3 o4 hf hR h40 hc hI
      rw [chainP] at hI
      subst hI
      by_cases hr : r.1 = true
      · rw [if_pos hr] at hR
        have := hc hr
        refine wpW K_X12_product [] 40 ?_
        refine ⟨_, ev_fine _ _ hR.2.wr, ?_⟩
        rintro v τ' ⟨h9, rfl⟩
        obtain rfl := h9.symm
        have hm : cs r.2.1 = -1 := hcs _ (by omega)
        refine ⟨fun e => absurd e (by decide), fun _ => ⟨_, ev_here _ _ hR.2, ?_⟩⟩
        rintro v τ' ⟨h9, rfl⟩
        obtain rfl := h9.symm
        rw [hm]
        refine ⟨fun e => absurd e (by decide), fun _ => ⟨_, ev_here _ _ hR.2, ?_⟩⟩
        rintro v τ' ⟨h9, rfl⟩
        obtain rfl := h9.symm
        rw [hm]
        refine ⟨fun _ => ⟨hf, x, rfl, by rw [if_pos hr]; exact hR⟩, fun e => absurd e (by decide)⟩
      · rw [if_neg hr] at hR
        obtain ⟨p', hR'⟩ := hR
        refine wpW K_X12_product [] 40 ?_
        refine ⟨_, ev_fine _ _ hR'.wr, ?_⟩
        rintro v τ' ⟨h9, rfl⟩
        obtain rfl := h9.symm
        rw [decide_eq_false (ne_m1 (by omega))]
        exact ⟨fun _ => ⟨hf, x, rfl, by rw [if_neg hr]; exact ⟨p', hR'⟩⟩, fun e => absurd rfl e⟩
    | succ c ih =>
      intro r x τ o3 o4 hf hR h40 hc hI
      rw [chainP] at hI
      by_cases hr : r.1 = true
      · rw [if_pos hr] at hR
        obtain ⟨hx, hR⟩ := hR
        have hc' := hc hr
        refine wpW K_X12_product [31] 40 ?_
        refine ⟨_, ev_fine _ _ hR.wr, ?_⟩
        rintro v τ' ⟨h9, rfl⟩
        obtain rfl := h9.symm
        have go : mulO (cs r.2.1) = true → WW M_X12_product (k + 2) (MQ1 a t cs σ T) 31 [some (.ref 52), some (.int d), some (.int x), o3, o4] [] τ := by
          intro hm
          rw [if_pos (by rw [hr, hm]; rfl)] at hI
          have hlt : r.2.1 < 40 := cs_lt hcs (fun e => by rw [e] at hm; exact absurd hm (by decide))
          have hq := hok (r.2.1 + 1) (by omega)
          obtain ⟨g1, g2⟩ := hR.inc (by omega)
          refine wpW K_X12_product [6, 45] 40 ?_
          refine ⟨_, ev_here _ _ hR, ?_⟩
          rintro v τ' ⟨h9, rfl⟩
          obtain rfl := h9.symm
          have step : ∀ b : Int32, (b = 1 ∧ cs r.2.1 = 42 ∨ b = 0 ∧ cs r.2.1 = 47) → WW M_X12_product (k + 2) (MQ1 a t cs σ T) 45 [some (.ref 52), some (.int d), some (.int x), o3, o4] [.int b] τ := by
            intro b hb
            refine wpW K_X12_product [6] 40 ?_
            refine ⟨_, hsub _ _ g1 ((ha.go hf).go g2) (by omega), ?_⟩
            rintro v τ' ⟨f2, y, rfl, h2⟩
            have hJ : (sub (r.2.1 + 1)).1 = true → joinS (cs r.2.1) x y = joinS (cs r.2.1) r.2.2.2 (sub (r.2.1 + 1)).2.2.2 := fun e => by rw [if_pos e] at h2; rw [hx, h2.1]
            have nx : ∀ o3 o4, WW M_X12_product (k + 2) (MQ1 a t cs σ T) 6 [some (.ref 52), some (.int d), some (.int (joinS (cs r.2.1) x y)), o3, o4] [] τ' := fun o3 o4 => by
              refine ih _ (joinS (cs r.2.1) x y) τ' o3 o4 ((hf.tr g2).tr f2) ?_ (by exact hq.2.1) (fun e => by have := hq.1; simp only; omega) hI
              simp only
              by_cases e : (sub (r.2.1 + 1)).1 = true
              · rw [if_pos e] at h2 ⊢
                exact ⟨hJ e, h2.2⟩
              · rw [if_neg e] at h2 ⊢
                exact h2
            rcases hb with ⟨rfl, hb⟩ | ⟨rfl, hb⟩
            · refine ⟨fun e => absurd e (by decide), fun _ => ?_⟩
              have := nx (some (.int 1)) (some (.int y))
              rw [hb] at this
              exact this
            · refine ⟨fun _ => ⟨fun e => ⟨e, ?_⟩, fun e => ?_⟩, fun e => absurd rfl e⟩
              · have := nx (some (.int 0)) (some (.int y))
                rw [hb, show joinS 47 x y = x / y from if_neg e] at this
                exact this
              · have := nx (some (.int 0)) (some (.int y))
                rw [hb, show joinS 47 x y = 0 from if_pos e] at this
                exact this
          refine ⟨fun e => ?_, fun e => ?_⟩
          · refine step 0 (Or.inr ⟨rfl, ?_⟩)
            rw [mulO, Bool.or_eq_true, decide_eq_true_eq, decide_eq_true_eq] at hm
            exact hm.resolve_left e
          · exact step 1 (Or.inl ⟨rfl, e⟩)
        refine ⟨fun e => absurd e (by decide), fun _ => ⟨_, ev_here _ _ hR, ?_⟩⟩
        rintro v τ' ⟨h9, rfl⟩
        obtain rfl := h9.symm
        refine ⟨fun e => go (by rw [mulO, Bool.or_eq_true, decide_eq_true_eq]; exact Or.inl e), fun e1 => ⟨_, ev_here _ _ hR, ?_⟩⟩
        rintro v τ' ⟨h9, rfl⟩
        obtain rfl := h9.symm
        refine ⟨fun e => ?_, fun e => go (by rw [mulO, Bool.or_eq_true, decide_eq_true_eq, decide_eq_true_eq]; exact Or.inr e)⟩
        rw [if_neg (by rw [mulO]; simp [e1, e])] at hI
        subst hI
        exact ⟨hf, x, rfl, by rw [if_pos hr]; exact ⟨hx, hR⟩⟩
      · rw [if_neg (by simp [hr])] at hI
        subst hI
        rw [if_neg hr] at hR
        obtain ⟨p', hR'⟩ := hR
        refine wpW K_X12_product [] 40 ?_
        refine ⟨_, ev_fine _ _ hR'.wr, ?_⟩
        rintro v τ' ⟨h9, rfl⟩
        obtain rfl := h9.symm
        rw [decide_eq_false (ne_m1 (by omega))]
        exact ⟨fun _ => ⟨hf, x, rfl, by rw [if_neg hr]; exact ⟨p', hR'⟩⟩, fun e => absurd rfl e⟩
  exact key 40 (sub p) x σ1 none none f1 h1 hp1.2.1 (fun _ => by omega) hT
theorem ev_msum (a t : Nat) (cs as : Nat → Int32) (k : Nat) (d : Int32) (sub : Nat → RR) (hok : csEnd cs → PrOK sub) (hsub : MPt a t cs as (k + 1) M_X12_product [.ref 52, .int d] sub) : MPt a t cs as (k + 2) M_X12_sum [.ref 52, .int d] (fun p => chainP cs addO sub 40 (sub p)) := by
  intro σ p hp ha h40
  have hcs := hp.cse
  replace hok := hok hcs
  refine EvM.of mk_X12_sum (Nat.le_of_ble_eq_true rfl) ?_
  refine wpW K_X12_sum [6] 40 ?_
  refine ⟨_, hsub σ p hp ha h40, ?_⟩
  rintro v σ1 ⟨f1, x, rfl, h1⟩
  simp only
  generalize hT : chainP cs addO sub 40 (sub p) = T
  have hp1 := hok p h40
  have key : ∀ c (r : RR) x τ o3 o4, FM [] jP σ τ → (if r.1 = true then x = r.2.2.2 ∧ PR τ a t 40 cs r.2.1 (-1) else ∃ p', PR τ a t 40 cs p' (nI r.2.1)) → r.2.1 ≤ 40 → (r.1 = true → 40 ≤ c + r.2.1) → chainP cs addO sub c r = T → WW M_X12_sum (k + 2) (MQ1 a t cs σ T) 6 [some (.ref 52), some (.int d), some (.int x), o3, o4] [] τ := by
    intro c
    induction c with
    | zero =>
      intro r x τ o3 o4 hf hR h40 hc hI
      rw [chainP] at hI
      subst hI
      by_cases hr : r.1 = true
      · rw [if_pos hr] at hR
        have := hc hr
        refine wpW K_X12_sum [] 40 ?_
        refine ⟨_, ev_fine _ _ hR.2.wr, ?_⟩
        rintro v τ' ⟨h9, rfl⟩
        obtain rfl := h9.symm
        have hm : cs r.2.1 = -1 := hcs _ (by omega)
        refine ⟨fun e => absurd e (by decide), fun _ => ⟨_, ev_here _ _ hR.2, ?_⟩⟩
        rintro v τ' ⟨h9, rfl⟩
        obtain rfl := h9.symm
        rw [hm]
        refine ⟨fun e => absurd e (by decide), fun _ => ⟨_, ev_here _ _ hR.2, ?_⟩⟩
        rintro v τ' ⟨h9, rfl⟩
        obtain rfl := h9.symm
        rw [hm]
        refine ⟨fun _ => ⟨hf, x, rfl, by rw [if_pos hr]; exact hR⟩, fun e => absurd e (by decide)⟩
      · rw [if_neg hr] at hR
        obtain ⟨p', hR'⟩ := hR
        refine wpW K_X12_sum [] 40 ?_
        refine ⟨_, ev_fine _ _ hR'.wr, ?_⟩
        rintro v τ' ⟨h9, rfl⟩
        obtain rfl := h9.symm
        rw [decide_eq_false (ne_m1 (by omega))]
        exact ⟨fun _ => ⟨hf, x, rfl, by rw [if_neg hr]; exact ⟨p', hR'⟩⟩, fun e => absurd rfl e⟩
    | succ c ih =>
      intro r x τ o3 o4 hf hR h40 hc hI
      rw [chainP] at hI
      by_cases hr : r.1 = true
      · rw [if_pos hr] at hR
        obtain ⟨hx, hR⟩ := hR
        have hc' := hc hr
        refine wpW K_X12_sum [31] 40 ?_
        refine ⟨_, ev_fine _ _ hR.wr, ?_⟩
        rintro v τ' ⟨h9, rfl⟩
        obtain rfl := h9.symm
        have go : addO (cs r.2.1) = true → WW M_X12_sum (k + 2) (MQ1 a t cs σ T) 31 [some (.ref 52), some (.int d), some (.int x), o3, o4] [] τ := by
          intro hm
          rw [if_pos (by rw [hr, hm]; rfl)] at hI
          have hlt : r.2.1 < 40 := cs_lt hcs (fun e => by rw [e] at hm; exact absurd hm (by decide))
          have hq := hok (r.2.1 + 1) (by omega)
          obtain ⟨g1, g2⟩ := hR.inc (by omega)
          refine wpW K_X12_sum [6, 45] 40 ?_
          refine ⟨_, ev_here _ _ hR, ?_⟩
          rintro v τ' ⟨h9, rfl⟩
          obtain rfl := h9.symm
          have step : ∀ b : Int32, (b = 1 ∧ cs r.2.1 = 43 ∨ b = 0 ∧ cs r.2.1 = 45) → WW M_X12_sum (k + 2) (MQ1 a t cs σ T) 45 [some (.ref 52), some (.int d), some (.int x), o3, o4] [.int b] τ := by
            intro b hb
            refine wpW K_X12_sum [6] 40 ?_
            refine ⟨_, hsub _ _ g1 ((ha.go hf).go g2) (by omega), ?_⟩
            rintro v τ' ⟨f2, y, rfl, h2⟩
            have hJ : (sub (r.2.1 + 1)).1 = true → joinS (cs r.2.1) x y = joinS (cs r.2.1) r.2.2.2 (sub (r.2.1 + 1)).2.2.2 := fun e => by rw [if_pos e] at h2; rw [hx, h2.1]
            have nx : ∀ o3 o4, WW M_X12_sum (k + 2) (MQ1 a t cs σ T) 6 [some (.ref 52), some (.int d), some (.int (joinS (cs r.2.1) x y)), o3, o4] [] τ' := fun o3 o4 => by
              refine ih _ (joinS (cs r.2.1) x y) τ' o3 o4 ((hf.tr g2).tr f2) ?_ (by exact hq.2.1) (fun e => by have := hq.1; simp only; omega) hI
              simp only
              by_cases e : (sub (r.2.1 + 1)).1 = true
              · rw [if_pos e] at h2 ⊢
                exact ⟨hJ e, h2.2⟩
              · rw [if_neg e] at h2 ⊢
                exact h2
            rcases hb with ⟨rfl, hb⟩ | ⟨rfl, hb⟩
            · refine ⟨fun e => absurd e (by decide), fun _ => ?_⟩
              have := nx (some (.int 1)) (some (.int y))
              rw [hb] at this
              exact this
            · refine ⟨fun _ => ?_, fun e => absurd rfl e⟩
              have := nx (some (.int 0)) (some (.int y))
              rw [hb] at this
              exact this
          refine ⟨fun e => ?_, fun e => ?_⟩
          · refine step 0 (Or.inr ⟨rfl, ?_⟩)
            rw [addO, Bool.or_eq_true, decide_eq_true_eq, decide_eq_true_eq] at hm
            exact hm.resolve_left e
          · exact step 1 (Or.inl ⟨rfl, e⟩)
        refine ⟨fun e => absurd e (by decide), fun _ => ⟨_, ev_here _ _ hR, ?_⟩⟩
        rintro v τ' ⟨h9, rfl⟩
        obtain rfl := h9.symm
        refine ⟨fun e => go (by rw [addO, Bool.or_eq_true, decide_eq_true_eq]; exact Or.inl e), fun e1 => ⟨_, ev_here _ _ hR, ?_⟩⟩
        rintro v τ' ⟨h9, rfl⟩
        obtain rfl := h9.symm
        refine ⟨fun e => ?_, fun e => go (by rw [addO, Bool.or_eq_true, decide_eq_true_eq, decide_eq_true_eq]; exact Or.inr e)⟩
        rw [if_neg (by rw [addO]; simp [e1, e])] at hI
        subst hI
        exact ⟨hf, x, rfl, by rw [if_pos hr]; exact ⟨hx, hR⟩⟩
      · rw [if_neg (by simp [hr])] at hI
        subst hI
        rw [if_neg hr] at hR
        obtain ⟨p', hR'⟩ := hR
        refine wpW K_X12_sum [] 40 ?_
        refine ⟨_, ev_fine _ _ hR'.wr, ?_⟩
        rintro v τ' ⟨h9, rfl⟩
        obtain rfl := h9.symm
        rw [decide_eq_false (ne_m1 (by omega))]
        exact ⟨fun _ => ⟨hf, x, rfl, by rw [if_neg hr]; exact ⟨p', hR'⟩⟩, fun e => absurd rfl e⟩
  exact key 40 (sub p) x σ1 none none f1 h1 hp1.2.1 (fun _ => by omega) hT
def letS (c : Int32) : Int32 := if c = 118 then 0 else if c = 117 then 1 else if c = 102 then 2 else if c = 104 then 3 else if c = 97 then 4 else if c = 111 then 5 else if c = 110 then 6 else -1
theorem ev_letterOf (k : Nat) (σ : Sto) (c : Int32) : EvM k M_X12_letterOf [.int c] σ (fun v τ => τ = σ ∧ v = some (.int (letS c))) := by
  refine EvM.of mk_X12_letterOf (Nat.le_of_ble_eq_true rfl) ?_
  refine wpW K_X12_letterOf [] 60 ?_
  refine ⟨fun h1 => ⟨fun h2 => ⟨fun h3 => ⟨fun h4 => ⟨fun h5 => ⟨fun h6 => ⟨fun h7 => ?_, fun h => ?_⟩, fun h => ?_⟩, fun h => ?_⟩, fun h => ?_⟩, fun h => ?_⟩, fun h => ?_⟩, fun h => ?_⟩
  · exact ⟨rfl, by simp [letS, h1, h2, h3, h4, h5, h6, h7]⟩
  · exact ⟨rfl, by simp [letS, h]⟩
  · exact ⟨rfl, by simp [letS, h]⟩
  · exact ⟨rfl, by simp [letS, h]⟩
  · exact ⟨rfl, by simp [letS, h]⟩
  · exact ⟨rfl, by simp [letS, h]⟩
  · exact ⟨rfl, by simp [letS, h]⟩
  · exact ⟨rfl, by simp [letS, h]⟩
theorem let_m1 (c : Int32) : letS c = -1 ↔ isLet c = false := by
  unfold letS isLet
  by_cases h1 : c = 118
  · subst h1; decide
  by_cases h2 : c = 117
  · subst h2; decide
  by_cases h3 : c = 102
  · subst h3; decide
  by_cases h4 : c = 104
  · subst h4; decide
  by_cases h5 : c = 97
  · subst h5; decide
  by_cases h6 : c = 111
  · subst h6; decide
  by_cases h7 : c = 110
  · subst h7; decide
  simp [h1, h2, h3, h4, h5, h6, h7]
theorem let_th (as : Nat → Int32) {c : Int32} (h : isLet c = true) : ∃ i, i < 7 ∧ letS c = nI i ∧ thS as c = as i := by
  unfold isLet at h
  simp only [Bool.or_eq_true, decide_eq_true_eq] at h
  rcases h with (((((h | h) | h) | h) | h) | h) | h <;> subst h
  · exact ⟨4, by decide, by decide, rfl⟩
  · exact ⟨2, by decide, by decide, rfl⟩
  · exact ⟨3, by decide, by decide, rfl⟩
  · exact ⟨6, by decide, by decide, rfl⟩
  · exact ⟨5, by decide, by decide, rfl⟩
  · exact ⟨1, by decide, by decide, rfl⟩
  · exact ⟨0, by decide, by decide, rfl⟩
theorem lead_fuel {cs : Nat → Int32} (hc : csEnd cs) : ∀ n p, 40 ≤ n + p → leadS cs (n + 1) p = leadS cs n p := by
  intro n
  induction n with
  | zero => intro p h; rw [leadS, leadS, hc p (by omega), if_neg (by decide)]
  | succ n ih =>
    intro p h
    rw [leadS, ih (p + 1) (by omega), leadS.eq_def cs (n + 1)]
theorem lead_45 {cs : Nat → Int32} (hc : csEnd cs) {p : Nat} (h : cs p = 45) : leadS cs 40 p = leadS cs 40 (p + 1) + 1 := by
  rw [leadS, if_pos h, ← lead_fuel hc 39 (p + 1) (by omega)]
theorem sign_45 {cs : Nat → Int32} (hc : csEnd cs) (th : Nat → RR) {p : Nat} (h : cs p = 45) : (signP cs th p).1 = (signP cs th (p + 1)).1 ∧ (signP cs th p).2.1 = (signP cs th (p + 1)).2.1 ∧ (signP cs th p).2.2.2 = -(signP cs th (p + 1)).2.2.2 := by
  rw [signP, signP, lead_45 hc h, show p + (leadS cs 40 (p + 1) + 1) = p + 1 + leadS cs 40 (p + 1) by omega]
  rcases Nat.mod_two_eq_zero_or_one (leadS cs 40 (p + 1)) with e | e
  · rw [if_pos (by omega), if_neg (by omega)]
    exact ⟨rfl, rfl, rfl⟩
  · rw [if_neg (by omega), if_pos (by omega)]
    exact ⟨rfl, rfl, (Int32.neg_neg).symm⟩
theorem sign_no {cs : Nat → Int32} (th : Nat → RR) {p : Nat} (h : ¬ cs p = 45) : signP cs th p = th p := by
  have : leadS cs 40 p = 0 := by rw [leadS, if_neg h]
  rw [signP, this, if_neg (by decide)]
  rfl
theorem num_pos {cs : Nat → Int32} {p : Nat} (h : isDg (cs p) = true) : 0 < (numS cs 3 p 0 0).1 := by
  rw [numS, if_pos h]
  have : ∀ n p x k, k ≤ (numS cs n p x k).1 := by
    intro n
    induction n with
    | zero => intro p x k; exact Nat.le_refl _
    | succ n ih =>
      intro p x k
      rw [numS]
      split
      · exact Nat.le_trans (Nat.le_succ k) (ih _ _ _)
      · exact Nat.le_refl _
  exact this 2 _ _ 1
theorem dg_let {c : Int32} (h : isDg c = true) : isLet c = false ∧ ¬ c = 40 ∧ ¬ c = 45 := by
  obtain ⟨n, h1, rfl⟩ := dg_c h
  revert h
  exact (show ∀ n, n < 128 → isDg (nI n) = true → isLet (nI n) = false ∧ ¬ nI n = 40 ∧ ¬ nI n = 45 by decide +kernel) n h1
