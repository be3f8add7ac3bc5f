/-! the cases: both sides called, the same answer, both go on with the same -/
def LLo (i : Nat) (o5 o6 o7 : Option Value) : List (Option Value) := [some (.ref 998), some (.ref 0), some (.ref 52), some (.ref 83), some (.int (nI i)), o5, o6, o7]
def hIn (X : LX) (i : Nat) : Prop := vp_in (nI i + 1) X.1 ∧ vp_in (nI i + 2) X.1 ∧ vp_in (nI i + 3) X.1 ∧ vp_in (nI i + 4) X.1
theorem cs_0 {X : LX} {kc ks i : Nat} (hc : kc ≤ 601024 ∧ ks ≤ 7293034) (h : hIn X i) {σ : Sto} {A : AS} (hs : LI σ A) (o5 o6 o7 : Option Value) (go : ∀ τ B, LI τ B → LW X kc ks 1524 (LLo i o5 o6 o7) [] τ) : LW X kc ks 244 (LLo i o5 o6 o7) [] σ := by
  refine lwpW (K_c0 X) [1524] 60 (k := 300) (by decide) hc ?_
  refine ⟨h.1, _, cc_use (cc_sign _ A _) hs.1 hs.2.1, ?_⟩
  rintro _ τ ⟨rfl, c1, m1⟩
  refine ⟨h.1, _, mc_use (mc_sign _ A _) c1 m1, ?_⟩
  rintro _ υ ⟨rfl, c2, m2⟩
  exact ⟨fun _ => go υ _ ⟨c2, m2, ac_sign hs.2.2 hs.ok _⟩, fun q => absurd rfl q⟩
theorem cs_1 {X : LX} {kc ks i : Nat} (hc : kc ≤ 601024 ∧ ks ≤ 7293034) (h : hIn X i) {σ : Sto} {A : AS} (hs : LI σ A) (o5 o6 o7 : Option Value) (go : ∀ τ B, LI τ B → LW X kc ks 1524 (LLo i o5 o6 o7) [] τ) : LW X kc ks 269 (LLo i o5 o6 o7) [] σ := by
  refine lwpW (K_c1 X) [1524] 60 (k := 300) (by decide) hc ?_
  refine ⟨h.1, _, cc_use (cc_end _ A _) hs.1 hs.2.1, ?_⟩
  rintro _ τ ⟨rfl, c1, m1⟩
  refine ⟨h.1, _, mc_use (mc_end _ A _) c1 m1, ?_⟩
  rintro _ υ ⟨rfl, c2, m2⟩
  exact ⟨fun _ => go υ _ ⟨c2, m2, ac_end hs.2.2 hs.ok _⟩, fun q => absurd rfl q⟩
theorem cs_2 {X : LX} {kc ks i : Nat} (hc : kc ≤ 601024 ∧ ks ≤ 7293034) (h : hIn X i) {σ : Sto} {A : AS} (hs : LI σ A) (o5 o6 o7 : Option Value) (go : ∀ τ B, LI τ B → LW X kc ks 1524 (LLo i o5 o6 o7) [] τ) : LW X kc ks 294 (LLo i o5 o6 o7) [] σ := by
  refine lwpW (K_c2 X) [1524] 60 (k := 300) (by decide) hc ?_
  refine ⟨_, cc_use (cc_people _ A) hs.1 hs.2.1, ?_⟩
  rintro _ τ ⟨rfl, c1, m1⟩
  refine ⟨_, mc_use (mc_people _ A) c1 m1, ?_⟩
  rintro _ υ ⟨rfl, c2, m2⟩
  exact ⟨fun _ => go υ _ ⟨c2, m2, ac_people hs.2.2 hs.ok⟩, fun q => absurd rfl q⟩
theorem cs_3 {X : LX} {kc ks i : Nat} (hc : kc ≤ 601024 ∧ ks ≤ 7293034) (h : hIn X i) {σ : Sto} {A : AS} (hs : LI σ A) (o5 o6 o7 : Option Value) (go : ∀ τ B, LI τ B → LW X kc ks 1524 (LLo i o5 o6 o7) [] τ) : LW X kc ks 307 (LLo i o5 o6 o7) [] σ := by
  refine lwpW (K_c3 X) [1524] 60 (k := 300) (by decide) hc ?_
  refine ⟨_, cc_use (cc_rule _ A) hs.1 hs.2.1, ?_⟩
  rintro _ τ ⟨rfl, c1, m1⟩
  refine ⟨_, mc_use (mc_rule _ A) c1 m1, ?_⟩
  rintro _ υ ⟨rfl, c2, m2⟩
  exact ⟨fun _ => go υ _ ⟨c2, m2, ac_rule hs.2.2 hs.ok⟩, fun q => absurd rfl q⟩
theorem cs_6 {X : LX} {kc ks i : Nat} (hc : kc ≤ 601024 ∧ ks ≤ 7293034) (h : hIn X i) {σ : Sto} {A : AS} (hs : LI σ A) (o5 o6 o7 : Option Value) (go : ∀ τ B, LI τ B → LW X kc ks 1524 (LLo i o5 o6 o7) [] τ) : LW X kc ks 456 (LLo i o5 o6 o7) [] σ := by
  refine lwpW (K_c6 X) [1524] 60 (k := 300) (by decide) hc ?_
  refine ⟨h.1, h.2.1, h.2.2.1, h.2.2.2, _, cc_use (cc_sheet _ A _ _ _ _) hs.1 hs.2.1, ?_⟩
  rintro _ τ ⟨rfl, c1, m1⟩
  refine ⟨h.1, h.2.1, h.2.2.1, h.2.2.2, _, mc_use (mc_sheet _ A _ _ _ _) c1 m1, ?_⟩
  rintro _ υ ⟨rfl, c2, m2⟩
  exact ⟨fun _ => go υ _ ⟨c2, m2, ac_sheet hs.2.2 hs.ok _ _ _ _⟩, fun q => absurd rfl q⟩
theorem cs_7 {X : LX} {kc ks i : Nat} (hc : kc ≤ 601024 ∧ ks ≤ 7293034) (h : hIn X i) {σ : Sto} {A : AS} (hs : LI σ A) (o5 o6 o7 : Option Value) (go : ∀ τ B, LI τ B → LW X kc ks 1524 (LLo i o5 o6 o7) [] τ) : LW X kc ks 517 (LLo i o5 o6 o7) [] σ := by
  refine lwpW (K_c7 X) [1524] 60 (k := 300) (by decide) hc ?_
  refine ⟨h.1, h.2.1, _, cc_use (cc_says _ A _ _) hs.1 hs.2.1, ?_⟩
  rintro _ τ ⟨rfl, c1, m1⟩
  refine ⟨h.1, h.2.1, _, mc_use (mc_says _ A _ _) c1 m1, ?_⟩
  rintro _ υ ⟨rfl, c2, m2⟩
  exact ⟨fun _ => go υ _ ⟨c2, m2, ac_says hs.2.2 hs.ok _ _⟩, fun q => absurd rfl q⟩
theorem cs_8 {X : LX} {kc ks i : Nat} (hc : kc ≤ 601024 ∧ ks ≤ 7293034) (h : hIn X i) {σ : Sto} {A : AS} (hs : LI σ A) (o5 o6 o7 : Option Value) (go : ∀ τ B, LI τ B → LW X kc ks 1524 (LLo i o5 o6 o7) [] τ) : LW X kc ks 554 (LLo i o5 o6 o7) [] σ := by
  refine lwpW (K_c8 X) [1524] 60 (k := 300) (by decide) hc ?_
  refine ⟨h.1, h.2.1, _, cc_use (cc_signs _ A hs.ok _ _) hs.1 hs.2.1, ?_⟩
  rintro _ τ ⟨rfl, c1, m1⟩
  refine ⟨h.1, h.2.1, _, mc_use (mc_signs _ A _ _) c1 m1, ?_⟩
  rintro _ υ ⟨rfl, c2, m2⟩
  exact ⟨fun _ => go υ _ ⟨c2, m2, ac_signs hs.2.2 hs.ok _ _⟩, fun q => absurd rfl q⟩
theorem cs_9 {X : LX} {kc ks i : Nat} (hc : kc ≤ 601024 ∧ ks ≤ 7293034) (h : hIn X i) {σ : Sto} {A : AS} (hs : LI σ A) (o5 o6 o7 : Option Value) (go : ∀ τ B, LI τ B → LW X kc ks 1524 (LLo i o5 o6 o7) [] τ) : LW X kc ks 591 (LLo i o5 o6 o7) [] σ := by
  refine lwpW (K_c9 X) [1524] 60 (k := 300) (by decide) hc ?_
  refine ⟨h.1, h.2.1, _, cc_use (cc_moves _ A hs.ok _ _) hs.1 hs.2.1, ?_⟩
  rintro _ τ ⟨rfl, c1, m1⟩
  refine ⟨h.1, h.2.1, _, mc_use (mc_moves _ A _ _) c1 m1, ?_⟩
  rintro _ υ ⟨rfl, c2, m2⟩
  exact ⟨fun _ => go υ _ ⟨c2, m2, ac_moves hs.2.2 hs.ok _ _⟩, fun q => absurd rfl q⟩
theorem cs_10 {X : LX} {kc ks i : Nat} (hc : kc ≤ 601024 ∧ ks ≤ 7293034) (h : hIn X i) {σ : Sto} {A : AS} (hs : LI σ A) (o5 o6 o7 : Option Value) (go : ∀ τ B, LI τ B → LW X kc ks 1524 (LLo i o5 o6 o7) [] τ) : LW X kc ks 628 (LLo i o5 o6 o7) [] σ := by
  refine lwpW (K_c10 X) [1524] 60 (k := 300) (by decide) hc ?_
  refine ⟨h.1, _, cc_use (cc_calls _ A _) hs.1 hs.2.1, ?_⟩
  rintro _ τ ⟨rfl, c1, m1⟩
  refine ⟨h.1, _, mc_use (mc_calls _ A _) c1 m1, ?_⟩
  rintro _ υ ⟨rfl, c2, m2⟩
  exact ⟨fun _ => go υ _ ⟨c2, m2, ac_calls hs.2.2 hs.ok _⟩, fun q => absurd rfl q⟩
theorem cs_11 {X : LX} {kc ks i : Nat} (hc : kc ≤ 601024 ∧ ks ≤ 7293034) (h : hIn X i) {σ : Sto} {A : AS} (hs : LI σ A) (o5 o6 o7 : Option Value) (go : ∀ τ B, LI τ B → LW X kc ks 1524 (LLo i o5 o6 o7) [] τ) : LW X kc ks 653 (LLo i o5 o6 o7) [] σ := by
  refine lwpW (K_c11 X) [1524] 60 (k := 300) (by decide) hc ?_
  refine ⟨h.1, _, cc_use (cc_days _ A _) hs.1 hs.2.1, ?_⟩
  rintro _ τ ⟨rfl, c1, m1⟩
  refine ⟨h.1, _, mc_use (mc_days _ A _) c1 m1, ?_⟩
  rintro _ υ ⟨rfl, c2, m2⟩
  exact ⟨fun _ => go υ _ ⟨c2, m2, ac_days hs.2.2 hs.ok _⟩, fun q => absurd rfl q⟩
theorem cs_12 {X : LX} {kc ks i : Nat} (hc : kc ≤ 601024 ∧ ks ≤ 7293034) (h : hIn X i) {σ : Sto} {A : AS} (hs : LI σ A) (o5 o6 o7 : Option Value) (go : ∀ τ B, LI τ B → LW X kc ks 1524 (LLo i o5 o6 o7) [] τ) : LW X kc ks 678 (LLo i o5 o6 o7) [] σ := by
  refine lwpW (K_c12 X) [1524] 60 (k := 300) (by decide) hc ?_
  refine ⟨_, cc_use (cc_week _ A) hs.1 hs.2.1, ?_⟩
  rintro _ τ ⟨rfl, c1, m1⟩
  refine ⟨_, mc_use (mc_week _ A) c1 m1, ?_⟩
  rintro _ υ ⟨rfl, c2, m2⟩
  exact ⟨fun _ => go υ _ ⟨c2, m2, ac_week hs.2.2 hs.ok⟩, fun q => absurd rfl q⟩
theorem cs_13 {X : LX} {kc ks i : Nat} (hc : kc ≤ 601024 ∧ ks ≤ 7293034) (h : hIn X i) {σ : Sto} {A : AS} (hs : LI σ A) (o5 o6 o7 : Option Value) (go : ∀ τ B, LI τ B → LW X kc ks 1524 (LLo i o5 o6 o7) [] τ) : LW X kc ks 691 (LLo i o5 o6 o7) [] σ := by
  refine lwpW (K_c13 X) [1524] 60 (k := 300) (by decide) hc ?_
  refine ⟨_, cc_use (cc_undo _ A (fun S hS => (hs.2.2.1 S hS).1)) hs.1 hs.2.1, ?_⟩
  rintro _ τ ⟨rfl, c1, m1⟩
  refine ⟨_, mc_use (mc_undo _ A hs.2.2.1) c1 m1, ?_⟩
  rintro _ υ ⟨rfl, c2, m2⟩
  exact ⟨fun _ => go υ _ ⟨c2, m2, ac_undo hs.2.2 hs.ok⟩, fun q => absurd rfl q⟩
theorem cs_14 {X : LX} {kc ks i : Nat} (hc : kc ≤ 601024 ∧ ks ≤ 7293034) (h : hIn X i) {σ : Sto} {A : AS} (hs : LI σ A) (o5 o6 o7 : Option Value) (go : ∀ τ B, LI τ B → LW X kc ks 1524 (LLo i o5 o6 o7) [] τ) : LW X kc ks 704 (LLo i o5 o6 o7) [] σ := by
  refine lwpW (K_c14 X) [1524] 60 (k := 300) (by decide) hc ?_
  refine ⟨h.1, h.2.1, _, cc_use (cc_brings _ A _ _) hs.1 hs.2.1, ?_⟩
  rintro _ τ ⟨rfl, c1, m1⟩
  refine ⟨h.1, h.2.1, _, mc_use (mc_brings _ A _ _) c1 m1, ?_⟩
  rintro _ υ ⟨rfl, c2, m2⟩
  exact ⟨fun _ => go υ _ ⟨c2, m2, ac_brings hs.2.2 hs.ok _ _⟩, fun q => absurd rfl q⟩
theorem cs_15 {X : LX} {kc ks i : Nat} (hc : kc ≤ 601024 ∧ ks ≤ 7293034) (h : hIn X i) {σ : Sto} {A : AS} (hs : LI σ A) (o5 o6 o7 : Option Value) (go : ∀ τ B, LI τ B → LW X kc ks 1524 (LLo i o5 o6 o7) [] τ) : LW X kc ks 741 (LLo i o5 o6 o7) [] σ := by
  refine lwpW (K_c15 X) [1524] 60 (k := 300) (by decide) hc ?_
  refine ⟨h.1, h.2.1, _, cc_use (cc_later _ A _ _) hs.1 hs.2.1, ?_⟩
  rintro _ τ ⟨rfl, c1, m1⟩
  refine ⟨h.1, h.2.1, _, mc_use (mc_later _ A _ _) c1 m1, ?_⟩
  rintro _ υ ⟨rfl, c2, m2⟩
  exact ⟨fun _ => go υ _ ⟨c2, m2, ac_later hs.2.2 hs.ok _ _⟩, fun q => absurd rfl q⟩
theorem cs_16 {X : LX} {kc ks i : Nat} (hc : kc ≤ 601024 ∧ ks ≤ 7293034) (h : hIn X i) {σ : Sto} {A : AS} (hs : LI σ A) (o5 o6 o7 : Option Value) (go : ∀ τ B, LI τ B → LW X kc ks 1524 (LLo i o5 o6 o7) [] τ) : LW X kc ks 778 (LLo i o5 o6 o7) [] σ := by
  refine lwpW (K_c16 X) [1524] 60 (k := 300) (by decide) hc ?_
  refine ⟨h.1, _, cc_use (cc_home _ A _) hs.1 hs.2.1, ?_⟩
  rintro _ τ ⟨rfl, c1, m1⟩
  refine ⟨h.1, _, mc_use (mc_home _ A _) c1 m1, ?_⟩
  rintro _ υ ⟨rfl, c2, m2⟩
  exact ⟨fun _ => go υ _ ⟨c2, m2, ac_home hs.2.2 hs.ok _⟩, fun q => absurd rfl q⟩
theorem cs_17 {X : LX} {kc ks i : Nat} (hc : kc ≤ 601024 ∧ ks ≤ 7293034) (h : hIn X i) {σ : Sto} {A : AS} (hs : LI σ A) (o5 o6 o7 : Option Value) (go : ∀ τ B, LI τ B → LW X kc ks 1524 (LLo i o5 o6 o7) [] τ) : LW X kc ks 803 (LLo i o5 o6 o7) [] σ := by
  refine lwpW (K_c17 X) [1524] 60 (k := 300) (by decide) hc ?_
  refine ⟨h.1, _, cc_use (cc_poor _ A _) hs.1 hs.2.1, ?_⟩
  rintro _ τ ⟨rfl, c1, m1⟩
  refine ⟨h.1, _, mc_use (mc_poor _ A _) c1 m1, ?_⟩
  rintro _ υ ⟨rfl, c2, m2⟩
  exact ⟨fun _ => go υ _ ⟨c2, m2, ac_poor hs.2.2 hs.ok _⟩, fun q => absurd rfl q⟩
theorem cs_18 {X : LX} {kc ks i : Nat} (hc : kc ≤ 601024 ∧ ks ≤ 7293034) (h : hIn X i) {σ : Sto} {A : AS} (hs : LI σ A) (o5 o6 o7 : Option Value) (go : ∀ τ B, LI τ B → LW X kc ks 1524 (LLo i o5 o6 o7) [] τ) : LW X kc ks 828 (LLo i o5 o6 o7) [] σ := by
  refine lwpW (K_c18 X) [1524] 60 (k := 300) (by decide) hc ?_
  refine ⟨h.1, _, cc_use (cc_leads _ A _) hs.1 hs.2.1, ?_⟩
  rintro _ τ ⟨rfl, c1, m1⟩
  refine ⟨h.1, _, mc_use (mc_leads _ A _) c1 m1, ?_⟩
  rintro _ υ ⟨rfl, c2, m2⟩
  exact ⟨fun _ => go υ _ ⟨c2, m2, ac_leads hs.2.2 hs.ok _⟩, fun q => absurd rfl q⟩
theorem cs_19 {X : LX} {kc ks i : Nat} (hc : kc ≤ 601024 ∧ ks ≤ 7293034) (h : hIn X i) {σ : Sto} {A : AS} (hs : LI σ A) (o5 o6 o7 : Option Value) (go : ∀ τ B, LI τ B → LW X kc ks 1524 (LLo i o5 o6 o7) [] τ) : LW X kc ks 853 (LLo i o5 o6 o7) [] σ := by
  refine lwpW (K_c19 X) [1524] 60 (k := 300) (by decide) hc ?_
  refine ⟨_, cc_use (cc_rings _ A) hs.1 hs.2.1, ?_⟩
  rintro _ τ ⟨rfl, c1, m1⟩
  refine ⟨_, mc_use (mc_rings _ A) c1 m1, ?_⟩
  rintro _ υ ⟨rfl, c2, m2⟩
  exact ⟨fun _ => go υ _ ⟨c2, m2, ac_rings hs.2.2 hs.ok⟩, fun q => absurd rfl q⟩
theorem cs_20 {X : LX} {kc ks i : Nat} (hc : kc ≤ 601024 ∧ ks ≤ 7293034) (h : hIn X i) {σ : Sto} {A : AS} (hs : LI σ A) (o5 o6 o7 : Option Value) (go : ∀ τ B, LI τ B → LW X kc ks 1524 (LLo i o5 o6 o7) [] τ) : LW X kc ks 866 (LLo i o5 o6 o7) [] σ := by
  refine lwpW (K_c20 X) [1524] 60 (k := 300) (by decide) hc ?_
  refine ⟨h.1, _, cc_use (cc_robs _ A _) hs.1 hs.2.1, ?_⟩
  rintro _ τ ⟨rfl, c1, m1⟩
  refine ⟨h.1, _, mc_use (mc_robs _ A _) c1 m1, ?_⟩
  rintro _ υ ⟨rfl, c2, m2⟩
  exact ⟨fun _ => go υ _ ⟨c2, m2, ac_robs hs.2.2 hs.ok _⟩, fun q => absurd rfl q⟩
theorem cs_21 {X : LX} {kc ks i : Nat} (hc : kc ≤ 601024 ∧ ks ≤ 7293034) (h : hIn X i) {σ : Sto} {A : AS} (hs : LI σ A) (o5 o6 o7 : Option Value) (go : ∀ τ B, LI τ B → LW X kc ks 1524 (LLo i o5 o6 o7) [] τ) : LW X kc ks 891 (LLo i o5 o6 o7) [] σ := by
  refine lwpW (K_c21 X) [1524] 60 (k := 300) (by decide) hc ?_
  refine ⟨_, cc_use (cc_order _ A) hs.1 hs.2.1, ?_⟩
  rintro _ τ ⟨rfl, c1, m1⟩
  refine ⟨_, mc_use (mc_order _ A) c1 m1, ?_⟩
  rintro _ υ ⟨rfl, c2, m2⟩
  exact ⟨fun _ => go υ _ ⟨c2, m2, ac_order hs.2.2 hs.ok⟩, fun q => absurd rfl q⟩
theorem cs_22 {X : LX} {kc ks i : Nat} (hc : kc ≤ 601024 ∧ ks ≤ 7293034) (h : hIn X i) {σ : Sto} {A : AS} (hs : LI σ A) (o5 o6 o7 : Option Value) (go : ∀ τ B, LI τ B → LW X kc ks 1524 (LLo i o5 o6 o7) [] τ) : LW X kc ks 904 (LLo i o5 o6 o7) [] σ := by
  refine lwpW (K_c22 X) [1524] 60 (k := 300) (by decide) hc ?_
  refine ⟨h.1, _, cc_use (cc_silences _ A _) hs.1 hs.2.1, ?_⟩
  rintro _ τ ⟨rfl, c1, m1⟩
  refine ⟨h.1, _, mc_use (mc_silences _ A _) c1 m1, ?_⟩
  rintro _ υ ⟨rfl, c2, m2⟩
  exact ⟨fun _ => go υ _ ⟨c2, m2, ac_silences hs.2.2 hs.ok _⟩, fun q => absurd rfl q⟩
theorem cs_23 {X : LX} {kc ks i : Nat} (hc : kc ≤ 601024 ∧ ks ≤ 7293034) (h : hIn X i) {σ : Sto} {A : AS} (hs : LI σ A) (o5 o6 o7 : Option Value) (go : ∀ τ B, LI τ B → LW X kc ks 1524 (LLo i o5 o6 o7) [] τ) : LW X kc ks 929 (LLo i o5 o6 o7) [] σ := by
  refine lwpW (K_c23 X) [1524] 60 (k := 300) (by decide) hc ?_
  refine ⟨h.1, _, cc_use (cc_goes _ A _) hs.1 hs.2.1, ?_⟩
  rintro _ τ ⟨rfl, c1, m1⟩
  refine ⟨h.1, _, mc_use (mc_goes _ A _) c1 m1, ?_⟩
  rintro _ υ ⟨rfl, c2, m2⟩
  exact ⟨fun _ => go υ _ ⟨c2, m2, ac_goes hs.2.2 hs.ok _⟩, fun q => absurd rfl q⟩
theorem cs_24 {X : LX} {kc ks i : Nat} (hc : kc ≤ 601024 ∧ ks ≤ 7293034) (h : hIn X i) {σ : Sto} {A : AS} (hs : LI σ A) (o5 o6 o7 : Option Value) (go : ∀ τ B, LI τ B → LW X kc ks 1524 (LLo i o5 o6 o7) [] τ) : LW X kc ks 954 (LLo i o5 o6 o7) [] σ := by
  refine lwpW (K_c24 X) [1524] 60 (k := 300) (by decide) hc ?_
  refine ⟨_, cc_use (cc_peace _ A) hs.1 hs.2.1, ?_⟩
  rintro _ τ ⟨rfl, c1, m1⟩
  refine ⟨_, mc_use (mc_peace _ A) c1 m1, ?_⟩
  rintro _ υ ⟨rfl, c2, m2⟩
  exact ⟨fun _ => go υ _ ⟨c2, m2, ac_peace hs.2.2 hs.ok⟩, fun q => absurd rfl q⟩
theorem cs_25 {X : LX} {kc ks i : Nat} (hc : kc ≤ 601024 ∧ ks ≤ 7293034) (h : hIn X i) {σ : Sto} {A : AS} (hs : LI σ A) (o5 o6 o7 : Option Value) (go : ∀ τ B, LI τ B → LW X kc ks 1524 (LLo i o5 o6 o7) [] τ) : LW X kc ks 967 (LLo i o5 o6 o7) [] σ := by
  refine lwpW (K_c25 X) [1524] 60 (k := 300) (by decide) hc ?_
  refine ⟨_, cc_use (cc_wed _ A) hs.1 hs.2.1, ?_⟩
  rintro _ τ ⟨rfl, c1, m1⟩
  refine ⟨_, mc_use (mc_wed _ A) c1 m1, ?_⟩
  rintro _ υ ⟨rfl, c2, m2⟩
  exact ⟨fun _ => go υ _ ⟨c2, m2, ac_wed hs.2.2 hs.ok⟩, fun q => absurd rfl q⟩
theorem cs_26 {X : LX} {kc ks i : Nat} (hc : kc ≤ 601024 ∧ ks ≤ 7293034) (h : hIn X i) {σ : Sto} {A : AS} (hs : LI σ A) (o5 o6 o7 : Option Value) (go : ∀ τ B, LI τ B → LW X kc ks 1524 (LLo i o5 o6 o7) [] τ) : LW X kc ks 980 (LLo i o5 o6 o7) [] σ := by
  refine lwpW (K_c26 X) [1524] 60 (k := 300) (by decide) hc ?_
  refine ⟨_, cc_use (cc_loud _ A) hs.1 hs.2.1, ?_⟩
  rintro _ τ ⟨rfl, c1, m1⟩
  refine ⟨_, mc_use (mc_loud _ A) c1 m1, ?_⟩
  rintro _ υ ⟨rfl, c2, m2⟩
  exact ⟨fun _ => go υ _ ⟨c2, m2, ac_loud hs.2.2 hs.ok⟩, fun q => absurd rfl q⟩
theorem cs_27 {X : LX} {kc ks i : Nat} (hc : kc ≤ 601024 ∧ ks ≤ 7293034) (h : hIn X i) {σ : Sto} {A : AS} (hs : LI σ A) (o5 o6 o7 : Option Value) (go : ∀ τ B, LI τ B → LW X kc ks 1524 (LLo i o5 o6 o7) [] τ) : LW X kc ks 993 (LLo i o5 o6 o7) [] σ := by
  refine lwpW (K_c27 X) [1524] 60 (k := 300) (by decide) hc ?_
  refine ⟨_, cc_use (cc_mouths _ A) hs.1 hs.2.1, ?_⟩
  rintro _ τ ⟨rfl, c1, m1⟩
  refine ⟨_, mc_use (mc_mouths _ A) c1 m1, ?_⟩
  rintro _ υ ⟨rfl, c2, m2⟩
  exact ⟨fun _ => go υ _ ⟨c2, m2, ac_mouths hs.2.2 hs.ok⟩, fun q => absurd rfl q⟩
theorem cs_28 {X : LX} {kc ks i : Nat} (hc : kc ≤ 601024 ∧ ks ≤ 7293034) (h : hIn X i) {σ : Sto} {A : AS} (hs : LI σ A) (o5 o6 o7 : Option Value) (go : ∀ τ B, LI τ B → LW X kc ks 1524 (LLo i o5 o6 o7) [] τ) : LW X kc ks 1006 (LLo i o5 o6 o7) [] σ := by
  refine lwpW (K_c28 X) [1524] 60 (k := 300) (by decide) hc ?_
  refine ⟨h.1, _, cc_use (cc_criers _ A _) hs.1 hs.2.1, ?_⟩
  rintro _ τ ⟨rfl, c1, m1⟩
  refine ⟨h.1, _, mc_use (mc_criers _ A _) c1 m1, ?_⟩
  rintro _ υ ⟨rfl, c2, m2⟩
  exact ⟨fun _ => go υ _ ⟨c2, m2, ac_criers hs.2.2 hs.ok _⟩, fun q => absurd rfl q⟩
theorem cs_29 {X : LX} {kc ks i : Nat} (hc : kc ≤ 601024 ∧ ks ≤ 7293034) (h : hIn X i) {σ : Sto} {A : AS} (hs : LI σ A) (o5 o6 o7 : Option Value) (go : ∀ τ B, LI τ B → LW X kc ks 1524 (LLo i o5 o6 o7) [] τ) : LW X kc ks 1031 (LLo i o5 o6 o7) [] σ := by
  refine lwpW (K_c29 X) [1524] 60 (k := 300) (by decide) hc ?_
  refine ⟨_, cc_use (cc_line _ A hs.ok) hs.1 hs.2.1, ?_⟩
  rintro _ τ ⟨rfl, c1, m1⟩
  refine ⟨_, mc_use (mc_line _ A) c1 m1, ?_⟩
  rintro _ υ ⟨rfl, c2, m2⟩
  exact ⟨fun _ => go υ _ ⟨c2, m2, ac_line hs.2.2 hs.ok⟩, fun q => absurd rfl q⟩
theorem cs_30 {X : LX} {kc ks i : Nat} (hc : kc ≤ 601024 ∧ ks ≤ 7293034) (h : hIn X i) {σ : Sto} {A : AS} (hs : LI σ A) (o5 o6 o7 : Option Value) (go : ∀ τ B, LI τ B → LW X kc ks 1524 (LLo i o5 o6 o7) [] τ) : LW X kc ks 1044 (LLo i o5 o6 o7) [] σ := by
  refine lwpW (K_c30 X) [1524] 60 (k := 300) (by decide) hc ?_
  refine ⟨_, cc_use (cc_rich _ A hs.ok) hs.1 hs.2.1, ?_⟩
  rintro _ τ ⟨rfl, c1, m1⟩
  refine ⟨_, mc_use (mc_rich _ A) c1 m1, ?_⟩
  rintro _ υ ⟨rfl, c2, m2⟩
  exact ⟨fun _ => go υ _ ⟨c2, m2, ac_rich hs.2.2 hs.ok⟩, fun q => absurd rfl q⟩
theorem cs_31 {X : LX} {kc ks i : Nat} (hc : kc ≤ 601024 ∧ ks ≤ 7293034) (h : hIn X i) {σ : Sto} {A : AS} (hs : LI σ A) (o5 o6 o7 : Option Value) (go : ∀ τ B, LI τ B → LW X kc ks 1524 (LLo i o5 o6 o7) [] τ) : LW X kc ks 1057 (LLo i o5 o6 o7) [] σ := by
  refine lwpW (K_c31 X) [1524] 60 (k := 300) (by decide) hc ?_
  refine ⟨h.1, h.2.1, _, cc_use (cc_heard _ A _ _) hs.1 hs.2.1, ?_⟩
  rintro _ τ ⟨rfl, c1, m1⟩
  refine ⟨h.1, h.2.1, _, mc_use (mc_heard _ A _ _) c1 m1, ?_⟩
  rintro _ υ ⟨rfl, c2, m2⟩
  exact ⟨fun _ => go υ _ ⟨c2, m2, ac_heard hs.2.2 hs.ok _ _⟩, fun q => absurd rfl q⟩
theorem cs_32 {X : LX} {kc ks i : Nat} (hc : kc ≤ 601024 ∧ ks ≤ 7293034) (h : hIn X i) {σ : Sto} {A : AS} (hs : LI σ A) (o5 o6 o7 : Option Value) (go : ∀ τ B, LI τ B → LW X kc ks 1524 (LLo i o5 o6 o7) [] τ) : LW X kc ks 1094 (LLo i o5 o6 o7) [] σ := by
  refine lwpW (K_c32 X) [1524] 60 (k := 300) (by decide) hc ?_
  refine ⟨_, cc_use (cc_forget _ A) hs.1 hs.2.1, ?_⟩
  rintro _ τ ⟨rfl, c1, m1⟩
  refine ⟨_, mc_use (mc_forget _ A) c1 m1, ?_⟩
  rintro _ υ ⟨rfl, c2, m2⟩
  exact ⟨fun _ => go υ _ ⟨c2, m2, ac_forget hs.2.2 hs.ok⟩, fun q => absurd rfl q⟩
theorem cs_33 {X : LX} {kc ks i : Nat} (hc : kc ≤ 601024 ∧ ks ≤ 7293034) (h : hIn X i) {σ : Sto} {A : AS} (hs : LI σ A) (o5 o6 o7 : Option Value) (go : ∀ τ B, LI τ B → LW X kc ks 1524 (LLo i o5 o6 o7) [] τ) : LW X kc ks 1107 (LLo i o5 o6 o7) [] σ := by
  refine lwpW (K_c33 X) [1524] 60 (k := 300) (by decide) hc ?_
  refine ⟨_, cc_use (cc_fits _ A) hs.1 hs.2.1, ?_⟩
  rintro _ τ ⟨rfl, c1, m1⟩
  refine ⟨_, mc_use (mc_fits _ A hs.2.2.2.2) c1 m1, ?_⟩
  rintro _ υ ⟨rfl, c2, m2⟩
  exact ⟨fun _ => go υ _ ⟨c2, m2, ac_fits hs.2.2 hs.ok⟩, fun q => absurd rfl q⟩
theorem cs_34 {X : LX} {kc ks i : Nat} (hc : kc ≤ 601024 ∧ ks ≤ 7293034) (h : hIn X i) {σ : Sto} {A : AS} (hs : LI σ A) (o5 o6 o7 : Option Value) (go : ∀ τ B, LI τ B → LW X kc ks 1524 (LLo i o5 o6 o7) [] τ) : LW X kc ks 1120 (LLo i o5 o6 o7) [] σ := by
  refine lwpW (K_c34 X) [1524] 60 (k := 300) (by decide) hc ?_
  refine ⟨_, cc_use (cc_asks _ A) hs.1 hs.2.1, ?_⟩
  rintro _ τ ⟨rfl, c1, m1⟩
  refine ⟨_, mc_use (mc_asks _ A hs.2.2.2.2) c1 m1, ?_⟩
  rintro _ υ ⟨rfl, c2, m2⟩
  exact ⟨fun _ => go υ _ ⟨c2, m2, ac_asks hs.2.2 hs.ok⟩, fun q => absurd rfl q⟩
theorem cs_35 {X : LX} {kc ks i : Nat} (hc : kc ≤ 601024 ∧ ks ≤ 7293034) (h : hIn X i) {σ : Sto} {A : AS} (hs : LI σ A) (o5 o6 o7 : Option Value) (go : ∀ τ B, LI τ B → LW X kc ks 1524 (LLo i o5 o6 o7) [] τ) : LW X kc ks 1133 (LLo i o5 o6 o7) [] σ := by
  refine lwpW (K_c35 X) [1524] 60 (k := 300) (by decide) hc ?_
  refine ⟨h.1, h.2.1, h.2.2.1, _, cc_use (cc_saw _ A _ _ _) hs.1 hs.2.1, ?_⟩
  rintro _ τ ⟨rfl, c1, m1⟩
  refine ⟨h.1, h.2.1, h.2.2.1, _, mc_use (mc_saw _ A _ _ _) c1 m1, ?_⟩
  rintro _ υ ⟨rfl, c2, m2⟩
  exact ⟨fun _ => go υ _ ⟨c2, m2, ac_saw hs.2.2 hs.ok _ _ _⟩, fun q => absurd rfl q⟩
theorem cs_36 {X : LX} {kc ks i : Nat} (hc : kc ≤ 601024 ∧ ks ≤ 7293034) (h : hIn X i) {σ : Sto} {A : AS} (hs : LI σ A) (o5 o6 o7 : Option Value) (go : ∀ τ B, LI τ B → LW X kc ks 1524 (LLo i o5 o6 o7) [] τ) : LW X kc ks 1182 (LLo i o5 o6 o7) [] σ := by
  refine lwpW (K_c36 X) [1524] 60 (k := 300) (by decide) hc ?_
  refine ⟨_, cc_use (cc_denies _ A) hs.1 hs.2.1, ?_⟩
  rintro _ τ ⟨rfl, c1, m1⟩
  refine ⟨_, mc_use (mc_denies _ A) c1 m1, ?_⟩
  rintro _ υ ⟨rfl, c2, m2⟩
  exact ⟨fun _ => go υ _ ⟨c2, m2, ac_denies hs.2.2 hs.ok⟩, fun q => absurd rfl q⟩
theorem cs_37 {X : LX} {kc ks i : Nat} (hc : kc ≤ 601024 ∧ ks ≤ 7293034) (h : hIn X i) {σ : Sto} {A : AS} (hs : LI σ A) (o5 o6 o7 : Option Value) (go : ∀ τ B, LI τ B → LW X kc ks 1524 (LLo i o5 o6 o7) [] τ) : LW X kc ks 1195 (LLo i o5 o6 o7) [] σ := by
  refine lwpW (K_c37 X) [1524] 60 (k := 300) (by decide) hc ?_
  refine ⟨_, cc_use (cc_laws _ A) hs.1 hs.2.1, ?_⟩
  rintro _ τ ⟨rfl, c1, m1⟩
  refine ⟨_, mc_use (mc_laws _ A) c1 m1, ?_⟩
  rintro _ υ ⟨rfl, c2, m2⟩
  exact ⟨fun _ => go υ _ ⟨c2, m2, ac_laws hs.2.2 hs.ok⟩, fun q => absurd rfl q⟩
theorem cs_38 {X : LX} {kc ks i : Nat} (hc : kc ≤ 601024 ∧ ks ≤ 7293034) (h : hIn X i) {σ : Sto} {A : AS} (hs : LI σ A) (o5 o6 o7 : Option Value) (go : ∀ τ B, LI τ B → LW X kc ks 1524 (LLo i o5 o6 o7) [] τ) : LW X kc ks 1208 (LLo i o5 o6 o7) [] σ := by
  refine lwpW (K_c38 X) [1524] 60 (k := 300) (by decide) hc ?_
  refine ⟨_, cc_use (cc_tries _ A) hs.1 hs.2.1, ?_⟩
  rintro _ τ ⟨rfl, c1, m1⟩
  refine ⟨_, mc_use (mc_tries _ A) c1 m1, ?_⟩
  rintro _ υ ⟨rfl, c2, m2⟩
  exact ⟨fun _ => go υ _ ⟨c2, m2, ac_tries hs.2.2 hs.ok⟩, fun q => absurd rfl q⟩
theorem cs_39 {X : LX} {kc ks i : Nat} (hc : kc ≤ 601024 ∧ ks ≤ 7293034) (h : hIn X i) {σ : Sto} {A : AS} (hs : LI σ A) (o5 o6 o7 : Option Value) (go : ∀ τ B, LI τ B → LW X kc ks 1524 (LLo i o5 o6 o7) [] τ) : LW X kc ks 1221 (LLo i o5 o6 o7) [] σ := by
  refine lwpW (K_c39 X) [1524] 60 (k := 300) (by decide) hc ?_
  refine ⟨h.1, h.2.1, h.2.2.1, h.2.2.2, _, cc_use (cc_walks _ A _ _ _ _) hs.1 hs.2.1, ?_⟩
  rintro _ τ ⟨rfl, c1, m1⟩
  refine ⟨h.1, h.2.1, h.2.2.1, h.2.2.2, _, mc_use (mc_walks _ A _ _ _ _) c1 m1, ?_⟩
  rintro _ υ ⟨rfl, c2, m2⟩
  exact ⟨fun _ => go υ _ ⟨c2, m2, ac_walks hs.2.2 hs.ok _ _ _ _⟩, fun q => absurd rfl q⟩
theorem cs_40 {X : LX} {kc ks i : Nat} (hc : kc ≤ 601024 ∧ ks ≤ 7293034) (h : hIn X i) {σ : Sto} {A : AS} (hs : LI σ A) (o5 o6 o7 : Option Value) (go : ∀ τ B, LI τ B → LW X kc ks 1524 (LLo i o5 o6 o7) [] τ) : LW X kc ks 1282 (LLo i o5 o6 o7) [] σ := by
  refine lwpW (K_c40 X) [1524] 60 (k := 300) (by decide) hc ?_
  refine ⟨h.1, h.2.1, _, cc_use (cc_hush _ A _ _) hs.1 hs.2.1, ?_⟩
  rintro _ τ ⟨rfl, c1, m1⟩
  refine ⟨h.1, h.2.1, _, mc_use (mc_hush _ A _ _) c1 m1, ?_⟩
  rintro _ υ ⟨rfl, c2, m2⟩
  exact ⟨fun _ => go υ _ ⟨c2, m2, ac_hush hs.2.2 hs.ok _ _⟩, fun q => absurd rfl q⟩
theorem cs_41 {X : LX} {kc ks i : Nat} (hc : kc ≤ 601024 ∧ ks ≤ 7293034) (h : hIn X i) {σ : Sto} {A : AS} (hs : LI σ A) (o5 o6 o7 : Option Value) (go : ∀ τ B, LI τ B → LW X kc ks 1524 (LLo i o5 o6 o7) [] τ) : LW X kc ks 1319 (LLo i o5 o6 o7) [] σ := by
  refine lwpW (K_c41 X) [1524] 60 (k := 300) (by decide) hc ?_
  refine ⟨h.1, _, cc_use (cc_rests _ A _) hs.1 hs.2.1, ?_⟩
  rintro _ τ ⟨rfl, c1, m1⟩
  refine ⟨h.1, _, mc_use (mc_rests _ A _) c1 m1, ?_⟩
  rintro _ υ ⟨rfl, c2, m2⟩
  exact ⟨fun _ => go υ _ ⟨c2, m2, ac_rests hs.2.2 hs.ok _⟩, fun q => absurd rfl q⟩
theorem cs_42 {X : LX} {kc ks i : Nat} (hc : kc ≤ 601024 ∧ ks ≤ 7293034) (h : hIn X i) {σ : Sto} {A : AS} (hs : LI σ A) (o5 o6 o7 : Option Value) (go : ∀ τ B, LI τ B → LW X kc ks 1524 (LLo i o5 o6 o7) [] τ) : LW X kc ks 1344 (LLo i o5 o6 o7) [] σ := by
  refine lwpW (K_c42 X) [1524] 60 (k := 300) (by decide) hc ?_
  refine ⟨_, cc_use (cc_law _ A) hs.1 hs.2.1, ?_⟩
  rintro _ τ ⟨rfl, c1, m1⟩
  refine ⟨_, mc_use (mc_law _ A) c1 m1, ?_⟩
  rintro _ υ ⟨rfl, c2, m2⟩
  exact ⟨fun _ => go υ _ ⟨c2, m2, ac_law hs.2.2 hs.ok⟩, fun q => absurd rfl q⟩
theorem cs_43 {X : LX} {kc ks i : Nat} (hc : kc ≤ 601024 ∧ ks ≤ 7293034) (h : hIn X i) {σ : Sto} {A : AS} (hs : LI σ A) (o5 o6 o7 : Option Value) (go : ∀ τ B, LI τ B → LW X kc ks 1524 (LLo i o5 o6 o7) [] τ) : LW X kc ks 1357 (LLo i o5 o6 o7) [] σ := by
  refine lwpW (K_c43 X) [1524] 60 (k := 300) (by decide) hc ?_
  refine ⟨h.1, h.2.1, _, cc_use (cc_years _ A _ _) hs.1 hs.2.1, ?_⟩
  rintro _ τ ⟨rfl, c1, m1⟩
  refine ⟨h.1, h.2.1, _, mc_use (mc_years _ A _ _) c1 m1, ?_⟩
  rintro _ υ ⟨rfl, c2, m2⟩
  exact ⟨fun _ => go υ _ ⟨c2, m2, ac_years hs.2.2 hs.ok _ _⟩, fun q => absurd rfl q⟩
theorem cs_44 {X : LX} {kc ks i : Nat} (hc : kc ≤ 601024 ∧ ks ≤ 7293034) (h : hIn X i) {σ : Sto} {A : AS} (hs : LI σ A) (o5 o6 o7 : Option Value) (go : ∀ τ B, LI τ B → LW X kc ks 1524 (LLo i o5 o6 o7) [] τ) : LW X kc ks 1394 (LLo i o5 o6 o7) [] σ := by
  refine lwpW (K_c44 X) [1524] 60 (k := 300) (by decide) hc ?_
  refine ⟨h.1, _, cc_use (cc_keep _ A _) hs.1 hs.2.1, ?_⟩
  rintro _ τ ⟨rfl, c1, m1⟩
  refine ⟨h.1, _, mc_use (mc_keep _ A _) c1 m1, ?_⟩
  rintro _ υ ⟨rfl, c2, m2⟩
  exact ⟨fun _ => go υ _ ⟨c2, m2, ac_keep hs.2.2 hs.ok _⟩, fun q => absurd rfl q⟩
theorem cs_45 {X : LX} {kc ks i : Nat} (hc : kc ≤ 601024 ∧ ks ≤ 7293034) (h : hIn X i) {σ : Sto} {A : AS} (hs : LI σ A) (o5 o6 o7 : Option Value) (go : ∀ τ B, LI τ B → LW X kc ks 1524 (LLo i o5 o6 o7) [] τ) : LW X kc ks 1419 (LLo i o5 o6 o7) [] σ := by
  refine lwpW (K_c45 X) [1524] 60 (k := 300) (by decide) hc ?_
  refine ⟨h.1, _, cc_use (cc_again _ A _ (fun j S hS => (hs.2.2.2.1 j S hS).1)) hs.1 hs.2.1, ?_⟩
  rintro _ τ ⟨rfl, c1, m1⟩
  refine ⟨h.1, _, mc_use (mc_again _ A _ hs.2.2.2.1) c1 m1, ?_⟩
  rintro _ υ ⟨rfl, c2, m2⟩
  exact ⟨fun _ => go υ _ ⟨c2, m2, ac_again hs.2.2 hs.ok _⟩, fun q => absurd rfl q⟩
theorem cs_46 {X : LX} {kc ks i : Nat} (hc : kc ≤ 601024 ∧ ks ≤ 7293034) (h : hIn X i) {σ : Sto} {A : AS} (hs : LI σ A) (o5 o6 o7 : Option Value) (go : ∀ τ B, LI τ B → LW X kc ks 1524 (LLo i o5 o6 o7) [] τ) : LW X kc ks 1444 (LLo i o5 o6 o7) [] σ := by
  refine lwpW (K_c46 X) [1524] 60 (k := 300) (by decide) hc ?_
  refine ⟨h.1, _, cc_use (cc_count _ A _) hs.1 hs.2.1, ?_⟩
  rintro _ τ ⟨rfl, c1, m1⟩
  refine ⟨h.1, _, mc_use (mc_count _ A _) c1 m1, ?_⟩
  rintro _ υ ⟨rfl, c2, m2⟩
  exact ⟨fun _ => go υ _ ⟨c2, m2, hs.2.2⟩, fun q => absurd rfl q⟩
