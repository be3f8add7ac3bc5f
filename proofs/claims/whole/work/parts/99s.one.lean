/-! the class's one, name, row: their answers, and where they throw -/
def TX_one : List (Nat × Op) := [(0, op_ald 0 1), (1, op_gf 11 2 5), (4, op_ild 1 1), (5, op_cv M_X2_has 2 1), (8, op_ifne 19), (19, op_ild 2 1), (20, op_sw 108 [(0, 56), (1, 66), (2, 76), (3, 86), (4, 95)])]
set_option maxRecDepth 20000 in
theorem KX_one {R : Room} {E : XE} {Z : XZ} {kc ks : Nat} : ∀ r ∈ TX_one, XOK M_X11_one R E Z kc ks r.1 r.2 :=
  xfc (xok_aldn (q := 0) (by decide +kernel) rfl) <|
  xfc (xok_gf mk_X11_one (fo_RX11_26 rfl) rfl (by decide +kernel)) <|
  xfc (xok_ildn (q := 1) (by decide +kernel) rfl) <|
  xfc (xok_cv mk_X11_one.wU mk_X2_has ⟨uw396, uw397, uw398, uw23, by decide +kernel⟩ (T := TX2) (N := 8) rfl (by decide +kernel)) <|
  xfc (xok_ifne (off := 11) (by decide +kernel) (by decide)) <|
  xfc (xok_ildn (q := 2) (by decide +kernel) rfl) <|
  xfc (xok_tsw (dflt := 88) (lo := 0) (hi := 4) (offs := #[36, 46, 56, 66, 75]) (len := 36) (by decide +kernel) (by decide +kernel) (by decide +kernel) (by decide) (by decide)) <| xfn
def TX_name : List (Nat × Op) := [(0, op_ald 0 1), (1, op_gf 11 2 5), (4, op_ild 1 1), (5, op_cv M_X2_has 2 1), (8, op_ifne 19), (19, op_ild 2 1), (20, op_sw 103 [(0, 52), (1, 62), (2, 72), (3, 85)])]
set_option maxRecDepth 20000 in
theorem KX_name {R : Room} {E : XE} {Z : XZ} {kc ks : Nat} : ∀ r ∈ TX_name, XOK M_X11_name R E Z kc ks r.1 r.2 :=
  xfc (xok_aldn (q := 0) (by decide +kernel) rfl) <|
  xfc (xok_gf mk_X11_name (fo_RX11_26 rfl) rfl (by decide +kernel)) <|
  xfc (xok_ildn (q := 1) (by decide +kernel) rfl) <|
  xfc (xok_cv mk_X11_name.wU mk_X2_has ⟨uw396, uw397, uw398, uw23, by decide +kernel⟩ (T := TX2) (N := 8) rfl (by decide +kernel)) <|
  xfc (xok_ifne (off := 11) (by decide +kernel) (by decide)) <|
  xfc (xok_ildn (q := 2) (by decide +kernel) rfl) <|
  xfc (xok_tsw (dflt := 83) (lo := 0) (hi := 3) (offs := #[32, 42, 52, 65]) (len := 32) (by decide +kernel) (by decide +kernel) (by decide +kernel) (by decide) (by decide)) <| xfn
def TX_row : List (Nat × Op) := [(0, op_ild 1 1), (1, op_iflt 15), (4, op_ild 1 1), (5, op_ald 0 1), (6, op_gf 11 1 3), (9, op_gi 9 1), (12, op_iclt 23)]
set_option maxRecDepth 20000 in
theorem KX_row {R : Room} {E : XE} {Z : XZ} {kc ks : Nat} : ∀ r ∈ TX_row, XOK M_X11_row R E Z kc ks r.1 r.2 :=
  xfc (xok_ildn (q := 1) (by decide +kernel) rfl) <|
  xfc (xok_iflt (off := 14) (by decide +kernel) (by decide)) <|
  xfc (xok_ildn (q := 1) (by decide +kernel) rfl) <|
  xfc (xok_aldn (q := 0) (by decide +kernel) rfl) <|
  xfc (xok_gf mk_X11_row (fo_RX11_19 rfl) rfl (by decide +kernel)) <|
  xfc (xok_gi mk_X11_row (fo_RX11_383 rfl) rfl (by decide +kernel)) <|
  xfc (xok_iclt (off := 11) (by decide +kernel) (by decide)) <| xfn
theorem cc_oneS (k : Nat) (A : AS) (x w v : Int32) (h : oneC A x w = some v) : CC (k + 6) M_X11_one [.int x, .int w] A (.int v) A := by
  intro σ hv
  obtain ⟨r, s, hb⟩ := hv.b
  have h7 := hb.n7
  refine EvM.of mk_X11_one (Nat.le_of_ble_eq_true rfl) ?_
  refine wpW K_X11_one [] 40 ?_
  refine ⟨_, ev_has5 _ σ hb x, ?_⟩
  rintro u τ ⟨h9, rfl⟩
  obtain rfl := h9.symm
  unfold oneC at h
  by_cases hx : inS (fN A.F) x = true
  · rw [if_pos hx] at h
    obtain ⟨e1, e2⟩ := in_of hb.n7 hx
    generalize x.toNatClampNeg = q at e1 e2 h
    subst e2
    obtain ⟨rd1, rd2, rd3, rd4, rd5⟩ := hb.rd
    refine ⟨fun _ => ⟨fun e => ?_, fun n0 => ⟨fun e => ?_, fun n1 => ⟨fun e => ?_, fun n2 => ⟨fun e => ?_, fun n3 => ⟨fun e => ?_, fun n4 => ?_⟩⟩⟩⟩⟩, fun c => absurd ((bI_eq _).mp c) (by rw [hx]; decide)⟩
    · rw [if_pos e] at h
      cases h
      exact ⟨vp_in_nI (by omega) (by omega), by rw [rd1 q (by omega)], hv, Fr.rf⟩
    · rw [if_neg n0, if_pos e] at h
      cases h
      exact ⟨vp_in_nI (by omega) (by omega), by rw [rd2 q (by omega)], hv, Fr.rf⟩
    · rw [if_neg n0, if_neg n1, if_pos e] at h
      cases h
      exact ⟨vp_in_nI (by omega) (by omega), by rw [rd3 q (by omega)], hv, Fr.rf⟩
    · rw [if_neg n0, if_neg n1, if_neg n2, if_pos e] at h
      cases h
      refine ⟨_, ev_held _ σ 5 (Or.inl rfl) hb.f (nI q), ?_⟩
      rintro u υ ⟨g1, g2⟩
      subst g1
      subst g2
      exact ⟨by rw [hb.F], hv, Fr.rf⟩
    · rw [if_neg n0, if_neg n1, if_neg n2, if_neg n3, if_pos e] at h
      cases h
      refine ⟨r, hb.r1, ?_⟩
      have hr := hb.r
      have h1 := ev_sayable (k + 1) σ r 5 hr (Or.inl rfl) hb.f A.ev hb.rc q (by rw [hb.F]; exact e1)
      rw [hb.F] at h1
      rcases hr with rfl | rfl
      all_goals
        refine ⟨_, h1, ?_⟩
        rintro u υ ⟨g1, f⟩
        obtain ⟨c1, f1⟩ := cv_same hb hv.t hv.R f (by decide) (by decide) (by decide)
        subst g1
        exact ⟨rfl, c1, f1⟩
    · rw [if_neg n0, if_neg n1, if_neg n2, if_neg n3, if_neg n4] at h
      cases h
  · rw [if_neg hx] at h
    cases h
theorem cc_nameS (k : Nat) (A : AS) (x w v : Int32) (h : nameC A x w = some v) : CC (k + 6) M_X11_name [.int x, .int w] A (.int v) A := by
  intro σ hv
  obtain ⟨r, s, hb⟩ := hv.b
  have h7 := hb.n7
  refine EvM.of mk_X11_name (Nat.le_of_ble_eq_true rfl) ?_
  refine wpW K_X11_name [] 40 ?_
  refine ⟨_, ev_has5 _ σ hb x, ?_⟩
  rintro u τ ⟨h9, rfl⟩
  obtain rfl := h9.symm
  unfold nameC at h
  by_cases hx : inS (fN A.F) x = true
  · rw [if_pos hx] at h
    obtain ⟨e1, e2⟩ := in_of hb.n7 hx
    generalize x.toNatClampNeg = q at e1 e2 h
    subst e2
    obtain ⟨rd1, rd2, rd3, rd4, rd5⟩ := hb.rd
    refine ⟨fun _ => ⟨fun e => ?_, fun n0 => ⟨fun e => ?_, fun n1 => ⟨fun e => ?_, fun n2 => ⟨fun e => ?_, fun n3 => ?_⟩⟩⟩⟩, fun c => absurd ((bI_eq _).mp c) (by rw [hx]; decide)⟩
    · rw [if_pos e] at h
      cases h
      exact ⟨vp_in_nI (by omega) (by omega), by rw [rd4 q (by omega)], hv, Fr.rf⟩
    · rw [if_neg n0, if_pos e] at h
      cases h
      exact ⟨vp_in_nI (by omega) (by omega), by rw [rd5 q (by omega)], hv, Fr.rf⟩
    · rw [if_neg n0, if_neg n1, if_pos e] at h
      cases h
      refine ⟨r, hb.r1, ?_⟩
      have hr := hb.r
      have h1 := ev_sayers (k + 1) σ r 5 hr (Or.inl rfl) hb.f A.ev hb.rc q (by rw [hb.F]; exact e1)
      rw [hb.F] at h1
      rcases hr with rfl | rfl
      all_goals
        refine ⟨_, h1, ?_⟩
        rintro u υ ⟨g1, f⟩
        obtain ⟨c1, f1⟩ := cv_same hb hv.t hv.R f (by decide) (by decide) (by decide)
        subst g1
        exact ⟨rfl, c1, f1⟩
    · rw [if_neg n0, if_neg n1, if_neg n2, if_pos e] at h
      cases h
      obtain ⟨p, p1, p2⟩ := hb.fs.2 q e1
      have e5 : hoN A.F q = p := by unfold hoN; rw [p2, nI_clamp (by omega)]
      have h1 := ev_far (k + 4) σ 5 (Or.inl rfl) p q (by omega) (by omega)
      rw [hb.F] at h1
      refine ⟨vp_in_nI (by omega) (by omega), _, by rw [rd4 q (by omega), p2]; exact h1, ?_⟩
      rintro u υ ⟨g1, g2⟩
      subst g1
      subst g2
      exact ⟨by rw [e5], hv, Fr.rf⟩
    · rw [if_neg n0, if_neg n1, if_neg n2, if_neg n3] at h
      cases h
  · rw [if_neg hx] at h
    cases h
theorem row_at {σ : Sto} {A : AS} (hv : CV σ A) : gI σ 3 1 = nI A.R.length ∧ A.R.length ≤ 9 ∧ ∀ i, i < A.R.length → A.R[i]? = some (gJ σ 4 i) := by
  have ht := hv.t
  have hR := hv.R
  refine ⟨by rw [ht.1, hR], by rw [← hR]; exact ht.2, fun i hi => ?_⟩
  rw [← hR] at hi ⊢
  have hi' : i < (gI σ 3 1).toNatClampNeg := by rw [← tR_len]; exact hi
  unfold tR
  rw [List.getElem?_map, List.getElem?_range hi']
  rfl
theorem cc_rowS (k : Nat) (A : AS) (x : Int32) (v : Int64) (h : rowC A x = some v) : CC (k + 1) M_X11_row [.int x] A (.long v) A := by
  intro σ hv
  obtain ⟨h1, h2, h3⟩ := row_at hv
  unfold rowC at h
  by_cases hx : inS A.R.length x = true
  · rw [if_pos hx] at h
    obtain ⟨e1, e2⟩ := inS_80 (by omega) hx
    generalize x.toNatClampNeg = q at e1 e2 h
    subst e2
    rw [h3 q e1] at h
    cases h
    refine EvM.of mk_X11_row (Nat.le_of_ble_eq_true rfl) ?_
    refine wpW K_X11_row [] 40 ?_
    refine ⟨fun c => absurd c ?_, fun _ => ⟨fun _ => ?_, fun c => absurd ?_ c⟩⟩
    · rw [Int32.lt_iff_toInt_lt, nI_toInt (by omega)]
      show ¬ (q : Int) < 0
      omega
    · exact ⟨vp_in_nI (by omega) (by omega), by rw [nI_clamp (by omega)], hv, Fr.rf⟩
    · rw [h1, Int32.lt_iff_toInt_lt, nI_toInt (by omega), nI_toInt (by omega)]
      omega
  · rw [if_neg hx] at h
    cases h
theorem rmx_ok (k j : Nat) (h : j ≤ k) : (j ≤ (rmx k).frames ∧ 64 * j ≤ (rmx k).locals) ∧ (0 ≤ (rmx k).cells ∧ 0 ≤ (rmx k).slots) := by
  refine ⟨⟨?_, ?_⟩, Nat.zero_le _, Nat.zero_le _⟩
  · show j ≤ k + 8
    omega
  · show 64 * j ≤ 64 * k + 128
    omega
theorem cx_one (k : Nat) (A : AS) (x w : Int32) (h : oneC A x w = none) {σ : Sto} (hv : CV σ A) : EvX (k + 2) M_X11_one [.ref 0, .int x, .int w] σ (fun τ => τ = σ) := by
  obtain ⟨r, s, hb⟩ := hv.b
  refine EvX.of mk_X11_one (Nat.le_of_ble_eq_true rfl) ?_
  refine xwpW KX_one [11, 56, 66, 76, 86, 95, 108] 40 (k := k + 2) (rmx_ok (k + 2) _ (Nat.le_refl _)) ?_
  refine ⟨_, ev_has5 _ σ hb x, ?_⟩
  rintro u τ ⟨h9, rfl⟩
  obtain rfl := h9.symm
  unfold oneC at h
  refine ⟨fun c => ?_, fun _ => ?_⟩
  · rw [if_pos ((bI_ne _).mp c)] at h
    have z : ∀ {α : Type} {a b : Option α} {p : Prop} [Decidable p], (if p then a else b) = none → a ≠ none → ¬ p := fun q1 q2 q3 => q2 (by rw [if_pos q3] at q1; exact q1)
    have n0 := z h (by simp)
    rw [if_neg n0] at h
    have n1 := z h (by simp)
    rw [if_neg n1] at h
    have n2 := z h (by simp)
    rw [if_neg n2] at h
    have n3 := z h (by simp)
    rw [if_neg n3] at h
    have n4 := z h (by simp)
    exact ⟨fun e => absurd e n0, fun _ => ⟨fun e => absurd e n1, fun _ => ⟨fun e => absurd e n2, fun _ => ⟨fun e => absurd e n3, fun _ => ⟨fun e => absurd e n4, fun _ => xw_throw rfl (by decide +kernel) (by decide +kernel) (by decide +kernel) (by decide +kernel) (by decide) rfl⟩⟩⟩⟩⟩
  · exact xw_throw rfl (by decide +kernel) (by decide +kernel) (by decide +kernel) (by decide +kernel) (by decide) rfl
theorem cx_name (k : Nat) (A : AS) (x w : Int32) (h : nameC A x w = none) {σ : Sto} (hv : CV σ A) : EvX (k + 2) M_X11_name [.ref 0, .int x, .int w] σ (fun τ => τ = σ) := by
  obtain ⟨r, s, hb⟩ := hv.b
  refine EvX.of mk_X11_name (Nat.le_of_ble_eq_true rfl) ?_
  refine xwpW KX_name [11, 52, 62, 72, 85, 103] 40 (k := k + 2) (rmx_ok (k + 2) _ (Nat.le_refl _)) ?_
  refine ⟨_, ev_has5 _ σ hb x, ?_⟩
  rintro u τ ⟨h9, rfl⟩
  obtain rfl := h9.symm
  unfold nameC at h
  refine ⟨fun c => ?_, fun _ => ?_⟩
  · rw [if_pos ((bI_ne _).mp c)] at h
    have z : ∀ {α : Type} {a b : Option α} {p : Prop} [Decidable p], (if p then a else b) = none → a ≠ none → ¬ p := fun q1 q2 q3 => q2 (by rw [if_pos q3] at q1; exact q1)
    have n0 := z h (by simp)
    rw [if_neg n0] at h
    have n1 := z h (by simp)
    rw [if_neg n1] at h
    have n2 := z h (by simp)
    rw [if_neg n2] at h
    have n3 := z h (by simp)
    exact ⟨fun e => absurd e n0, fun _ => ⟨fun e => absurd e n1, fun _ => ⟨fun e => absurd e n2, fun _ => ⟨fun e => absurd e n3, fun _ => xw_throw rfl (by decide +kernel) (by decide +kernel) (by decide +kernel) (by decide +kernel) (by decide) rfl⟩⟩⟩⟩
  · exact xw_throw rfl (by decide +kernel) (by decide +kernel) (by decide +kernel) (by decide +kernel) (by decide) rfl
theorem cx_row (k : Nat) (A : AS) (x : Int32) (h : rowC A x = none) {σ : Sto} (hv : CV σ A) : EvX (k + 2) M_X11_row [.ref 0, .int x] σ (fun τ => τ = σ) := by
  obtain ⟨h1, h2, h3⟩ := row_at hv
  refine EvX.of mk_X11_row (Nat.le_of_ble_eq_true rfl) ?_
  refine xwpW KX_row [15, 23] 40 (k := k + 2) (rmx_ok (k + 2) _ (Nat.le_refl _)) ?_
  refine ⟨fun _ => ?_, fun c => ⟨fun c2 => ?_, fun _ => ?_⟩⟩
  · exact xw_throw rfl (by decide +kernel) (by decide +kernel) (by decide +kernel) (by decide +kernel) (by decide) rfl
  · exfalso
    have hx : inS A.R.length x = true := by
      rw [h1, Int32.lt_iff_toInt_lt, nI_toInt (by omega)] at c2
      rw [Int32.lt_iff_toInt_lt] at c
      have c' : ¬ x.toInt < 0 := c
      unfold inS
      exact decide_eq_true (by omega)
    obtain ⟨e1, e2⟩ := inS_80 (by omega) hx
    unfold rowC at h
    rw [if_pos hx, h3 _ e1] at h
    cases h
  · exact xw_throw rfl (by decide +kernel) (by decide +kernel) (by decide +kernel) (by decide +kernel) (by decide) rfl

