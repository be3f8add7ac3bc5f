/-! from one on by holders; the model's call: leads -/
def itH (h : Nat → Nat) (q : Nat) : Nat → Nat
  | 0 => q
  | i + 1 => h (itH h q i)
theorem it_add (h : Nat → Nat) (q a : Nat) : ∀ b, itH h q (a + b) = itH h (itH h q a) b := by
  intro b
  induction b with
  | zero => rfl
  | succ b ih =>
    show h (itH h q (a + b)) = h _
    rw [ih]
theorem it_lt {h : Nat → Nat} {n : Nat} (hh : ∀ a, a < n → h a < n) {q : Nat} (hq : q < n) : ∀ i, itH h q i < n := by
  intro i
  induction i with
  | zero => exact hq
  | succ i ih => exact hh _ ih
def mkH (h : Nat → Nat) (q : Nat) (i : Nat) : Nat := fo (fun j m => m ||| 2 ^ itH h q j) 0 i
theorem mkH_s (h : Nat → Nat) (q i : Nat) : mkH h q (i + 1) = mkH h q i ||| 2 ^ itH h q i := rfl
theorem b1_iff : ∀ m, m < 128 → ∀ q, q < 7 → (bit1 (nI m) q = true ↔ m / 2 ^ q % 2 = 1) := by decide +kernel
theorem mk_lt {h : Nat → Nat} {n : Nat} (h7 : n ≤ 7) (hh : ∀ a, a < n → h a < n) {q : Nat} (hq : q < n) : ∀ i, mkH h q i < 2 ^ n := by
  intro i
  induction i with
  | zero => have := pow7 h7; show 0 < _; omega
  | succ i ih => rw [mkH_s]; exact or_lt n h7 _ ih _ (it_lt hh hq i)
theorem mk_bit {h : Nat → Nat} {n : Nat} (h7 : n ≤ 7) (hh : ∀ a, a < n → h a < n) {q : Nat} (hq : q < n) (v : Nat) (hv : v < 7) : ∀ i, mkH h q i / 2 ^ v % 2 = 1 ↔ ∃ j, j < i ∧ itH h q j = v := by
  have hp := pow7 h7
  intro i
  induction i with
  | zero =>
    constructor
    · intro e
      have : mkH h q 0 = 0 := rfl
      rw [this, Nat.zero_div] at e
      exact absurd e (by decide)
    · rintro ⟨j, hj, -⟩; omega
  | succ i ih =>
    rw [mkH_s, or_bit, ih]
    constructor
    · rintro (⟨j, h1, h2⟩ | e)
      · exact ⟨j, by omega, h2⟩
      · exact ⟨i, by omega, e⟩
    · rintro ⟨j, h1, h2⟩
      by_cases c : j = i
      · subst c; exact Or.inr h2
      · exact Or.inl ⟨j, by omega, h2⟩
def Dst (h : Nat → Nat) (q k : Nat) : Prop := ∀ a b, a < b → b < k → ¬ itH h q a = itH h q b
theorem mk_pc {h : Nat → Nat} {n : Nat} (h7 : n ≤ 7) (hh : ∀ a, a < n → h a < n) {q : Nat} (hq : q < n) : ∀ i, Dst h q i → pcN (mkH h q i) = i := by
  have hp := pow7 h7
  intro i
  induction i with
  | zero =>
    intro _
    have : mkH h q 0 = 0 := rfl
    rw [this]
    decide
  | succ i ih =>
    intro hd
    have h1 := mk_lt h7 hh hq i
    have h2 := it_lt hh hq i
    have hb := mk_bit h7 hh hq (itH h q i) (by omega) i
    rw [mkH_s, pc_or _ (by omega) _ (by omega), ih (fun a b h1 h2 => hd a b h1 (by omega))]
    have : ¬ mkH h q i / 2 ^ itH h q i % 2 = 1 := fun e => by
      obtain ⟨j, j1, j2⟩ := hb.mp e
      exact hd j i j1 (by omega) j2
    omega
theorem pc_le : ∀ n, n ≤ 7 → ∀ m, m < 2 ^ n → pcN m ≤ n := by decide +kernel
def Lead (h : Nat → Nat) (q k j : Nat) : Prop := j < k ∧ itH h q k = itH h q j ∧ Dst h q k
theorem lead_uq {h : Nat → Nat} {q k j k' j' : Nat} (l : Lead h q k j) (l' : Lead h q k' j') : k = k' ∧ j = j' := by
  obtain ⟨l1, l2, l3⟩ := l
  obtain ⟨m1, m2, m3⟩ := l'
  have hk : k = k' := by
    rcases Nat.lt_trichotomy k k' with c | c | c
    · exact absurd l2.symm (m3 j k l1 c)
    · exact c
    · exact absurd m2.symm (l3 j' k' m1 c)
  subst hk
  refine ⟨rfl, ?_⟩
  rcases Nat.lt_trichotomy j j' with c | c | c
  · exact absurd (l2.symm.trans m2) (l3 j j' c m1)
  · exact c
  · exact absurd (m2.symm.trans l2) (l3 j' j c l1)
theorem ld_lead {F : FS} (hF : fsOK F) {q : Nat} (hq : q < fN F) : ∃ k j, Lead (hoN F) q k j ∧ k ≤ 7 ∧ ldS F 8 0 q 0 = (itH (hoN F) q k, k) := by
  have h7 := hF.1
  have hp := pow7 h7
  have hh : ∀ a, a < fN F → hoN F a < fN F := fun a ha => (fs_ho hF ha).1
  have key : ∀ c i, i + c = 8 → Dst (hoN F) q i → ∃ k j, Lead (hoN F) q k j ∧ k ≤ 7 ∧ ldS F c (mkH (hoN F) q i) (itH (hoN F) q i) i = (itH (hoN F) q k, k) := by
    intro c
    induction c with
    | zero =>
      intro i hi hd
      have h1 := mk_pc h7 hh hq i hd
      have h2 := pc_7 (mkH (hoN F) q i) (by have := mk_lt h7 hh hq i; omega)
      omega
    | succ c ih =>
      intro i hi hd
      have hl := mk_lt h7 hh hq i
      have h2 := it_lt hh hq i
      have hb := mk_bit h7 hh hq (itH (hoN F) q i) (by omega) i
      rw [ldS]
      by_cases e : mkH (hoN F) q i / 2 ^ itH (hoN F) q i % 2 = 0
      · rw [if_pos e]
        refine ih (i + 1) (by omega) (fun a b hab hb1 => ?_)
        by_cases eb : b = i
        · subst eb
          intro z
          have := hb.mpr ⟨a, hab, z⟩
          omega
        · exact hd a b hab (by omega)
      · rw [if_neg e]
        obtain ⟨j, j1, j2⟩ := hb.mp (by omega)
        have h1 := mk_pc h7 hh hq i hd
        have h3 := pc_7 (mkH (hoN F) q i) (by omega)
        exact ⟨i, j, ⟨j1, j2.symm, hd⟩, by omega, rfl⟩
  exact key 8 0 rfl (fun a b _ hb => by omega)
def Cyc (h : Nat → Nat) (v p : Nat) : Prop := 0 < p ∧ itH h v p = v ∧ Dst h v p
theorem lead_cyc {h : Nat → Nat} {q k j : Nat} (l : Lead h q k j) : Cyc h (itH h q k) (k - j) := by
  obtain ⟨l1, l2, l3⟩ := l
  refine ⟨by omega, ?_, fun a b hab hb => ?_⟩
  · rw [l2, ← it_add, show j + (k - j) = k by omega, l2]
  · rw [l2, ← it_add, ← it_add]
    exact l3 _ _ (by omega) (by omega)
theorem cyc_mul {h : Nat → Nat} {v p : Nat} (hc : Cyc h v p) : ∀ c, itH h v (p * c) = v := by
  intro c
  induction c with
  | zero => rfl
  | succ c ih => rw [Nat.mul_succ, it_add, ih, hc.2.1]
theorem cyc_md {h : Nat → Nat} {v p : Nat} (hc : Cyc h v p) (i : Nat) : itH h v i = itH h v (i % p) := by
  conv => lhs; rw [← Nat.div_add_mod i p, it_add, cyc_mul hc]
theorem cyc_rot {h : Nat → Nat} {v p : Nat} (hc : Cyc h v p) (i : Nat) : Cyc h (itH h v i) p := by
  refine ⟨hc.1, ?_, fun a b hab hb e => ?_⟩
  · rw [← it_add, Nat.add_comm, it_add, hc.2.1]
  · have hle : i ≤ p * i := Nat.le_mul_of_pos_left i hc.1
    have e2 : ∀ a, itH h (itH h (itH h v i) a) (p * i - i) = itH h v a := by
      intro a
      rw [← it_add, ← it_add, show i + (a + (p * i - i)) = p * i + a by omega, it_add, cyc_mul hc]
    have := e2 a
    rw [e, e2 b] at this
    exact hc.2.2 a b hab hb this.symm
theorem bits_eq {m m' : Nat} (hm : m < 128) (hm' : m' < 128) (hb : ∀ v, v < 7 → (m / 2 ^ v % 2 = 1 ↔ m' / 2 ^ v % 2 = 1)) : m = m' := by
  refine Nat.eq_of_testBit_eq (fun i => ?_)
  rw [Nat.testBit_eq_decide_div_mod_eq, Nat.testBit_eq_decide_div_mod_eq]
  by_cases hi : i < 7
  · exact decide_eq_decide.mpr (hb i hi)
  · have h128 : 2 ^ 7 ≤ 2 ^ i := Nat.pow_le_pow_right (by omega) (by omega)
    rw [Nat.div_eq_of_lt (by omega), Nat.div_eq_of_lt (by omega)]
theorem cyc_mk {h : Nat → Nat} {n v p : Nat} (h7 : n ≤ 7) (hh : ∀ a, a < n → h a < n) (hv : v < n) (hc : Cyc h v p) (i : Nat) : mkH h (itH h v i) p = mkH h v p := by
  have hp := pow7 h7
  have hi := it_lt hh hv i
  have l1 := mk_lt h7 hh hi p
  have l2 := mk_lt h7 hh hv p
  refine bits_eq (by omega) (by omega) (fun w hw => ?_)
  rw [mk_bit h7 hh hi w hw, mk_bit h7 hh hv w hw]
  constructor
  · rintro ⟨j, -, e⟩
    rw [← it_add, cyc_md hc] at e
    exact ⟨_, Nat.mod_lt _ hc.1, e⟩
  · rintro ⟨j, -, e⟩
    have hle : i ≤ p * i := Nat.le_mul_of_pos_left i hc.1
    have : itH h (itH h v i) (p * i - i + j) = w := by
      rw [← it_add, show i + (p * i - i + j) = p * i + j by omega, it_add, cyc_mul hc, e]
    rw [cyc_md (cyc_rot hc i)] at this
    exact ⟨_, Nat.mod_lt _ hc.1, this⟩
theorem ring_cyc {F : FS} (hF : fsOK F) {v p : Nat} (hv : v < fN F) (hc : Cyc (hoN F) v p) : ringS F v = nI (mkH (hoN F) v p) ∧ p ≤ fN F ∧ pcN (mkH (hoN F) v p) = p := by
  have h7 := hF.1
  have hp := pow7 h7
  have hh : ∀ a, a < fN F → hoN F a < fN F := fun a ha => (fs_ho hF ha).1
  have e1 := mk_pc h7 hh hv p hc.2.2
  have e2 := pc_le _ h7 _ (mk_lt h7 hh hv p)
  have hpn : p ≤ fN F := by omega
  refine ⟨?_, hpn, e1⟩
  have key : ∀ d i, i + d + 1 = p → rgS F v (fN F - i) (nI (mkH (hoN F) v i)) (itH (hoN F) v i) = nI (mkH (hoN F) v p) := by
    intro d
    induction d with
    | zero =>
      intro i hi
      have l := mk_lt h7 hh hv i
      have l2 := it_lt hh hv i
      rw [show fN F - i = (fN F - i - 1) + 1 by omega, rgS, if_pos (show hoN F (itH (hoN F) v i) = v by
        have := hc.2.1
        rw [show p = i + 1 by omega] at this
        exact this)]
      rw [show p = i + 1 by omega, mkH_s]
      exact (or_nI _ (by omega) _ (by omega)).1
    | succ d ih =>
      intro i hi
      have l := mk_lt h7 hh hv i
      have l2 := it_lt hh hv i
      rw [show fN F - i = (fN F - (i + 1)) + 1 by omega, rgS, if_neg (show ¬ hoN F (itH (hoN F) v i) = v from fun e => hc.2.2 0 (i + 1) (by omega) (by omega) e.symm)]
      rw [show nI (mkH (hoN F) v i) ||| bt (itH (hoN F) v i) = nI (mkH (hoN F) v (i + 1)) from (or_nI _ (by omega) _ (by omega)).1]
      exact ih (i + 1) (by omega)
  have := key (p - 1) 0 (by have := hc.1; omega)
  exact this
theorem ring_0 {F : FS} {v : Nat} (hn : ∀ i, 1 ≤ i → i ≤ fN F → ¬ itH (hoN F) v i = v) : ringS F v = 0 := by
  have key : ∀ c i b, i + c = fN F → rgS F v c b (itH (hoN F) v i) = 0 := by
    intro c
    induction c with
    | zero => intro i b _; rfl
    | succ c ih =>
      intro i b hi
      rw [rgS, if_neg (show ¬ hoN F (itH (hoN F) v i) = v from hn (i + 1) (by omega) (by omega))]
      exact ih (i + 1) _ (by omega)
  exact key (fN F) 0 0 (by omega)
theorem reach {h : Nat → Nat} {q k i : Nat} (hi : 1 ≤ i) (e : itH h q i = q) : ∃ c, itH h (itH h q k) c = q := by
  have e2 : ∀ t, itH h q (i * t) = q := by
    intro t
    induction t with
    | zero => rfl
    | succ t ih => rw [Nat.mul_succ, it_add, ih, e]
  have hle : k ≤ i * k := Nat.le_mul_of_pos_left k hi
  exact ⟨i * k - k, by rw [← it_add, show k + (i * k - k) = i * k by omega]; exact e2 k⟩
theorem ev_goLead (k0 : Nat) (σ : Sto) (ho : mOK σ 53) (q k j : Nat) (hq : q < fN (mF σ 53)) (hl : Lead (hoN (mF σ 53)) q k j) (hk : k ≤ 7) : EvM k0 M_X12_goLead [.ref 52, .int (nI q)] σ (fun v τ => v = some (.int (nI k)) ∧ gA τ 57 0 = nI (itH (hoN (mF σ 53)) q k) ∧ gA τ 67 (itH (hoN (mF σ 53)) q k) = nI j ∧ FM [57, 67] [] σ τ) := by
  obtain ⟨hn, hF⟩ := id ho
  have h7 := hF.1
  have rHo : ∀ τ, FM [57, 67] [] σ τ → ∀ i, i < 7 → gA τ 53 (14 + nI i).toNatClampNeg = fHo (mF σ 53) i := fun τ f i hi => by
    rw [f.a 53 (by decide)]
    exact (mF_rd σ 53).2.2.2.1 i hi
  generalize mF σ 53 = F at *
  have hh : ∀ a, a < fN F → hoN F a < fN F := fun a ha => (fs_ho hF ha).1
  obtain ⟨l1, l2, l3⟩ := hl
  refine EvM.of mk_X12_goLead (Nat.le_of_ble_eq_true rfl) ?_
  have L2 : ∀ τ, FM [57, 67] [] σ τ → (∀ v, v < fN F → gA τ 67 v = -1) → WW M_X12_goLead k0 (fun v τ => v = some (.int (nI k)) ∧ gA τ 57 0 = nI (itH (hoN F) q k) ∧ gA τ 67 (itH (hoN F) q k) = nI j ∧ FM [57, 67] [] σ τ) 27 [some (.ref 52), some (.int (nI q)), some (.int (nI q)), some (.int (nI 0))] [] τ := by
    intro τ f hm
    refine loopI (α := Sto) 27 (fun i _ => [some (.ref 52), some (.int (nI q)), some (.int (nI (itH (hoN F) q i))), some (.int (nI i))]) (fun a => a) (fun i a => FM [57, 67] [] σ a ∧ (∀ i', i' < i → gA a 67 (itH (hoN F) q i') = nI i') ∧ ∀ v, v < fN F → (∀ i', i' < i → ¬ itH (hoN F) q i' = v) → gA a 67 v = -1) k ?_ ?_ 0 τ (Nat.zero_le _) ⟨f, fun i' h => by omega, fun v hv _ => hm v hv⟩
    · rintro i τ hi ⟨f, h1, h2⟩ go
      have hit := it_lt hh hq i
      have ci : (nI (itH (hoN F) q i)).toNatClampNeg = itH (hoN F) q i := nI_clamp (by omega)
      have hs : gA τ 67 (nI (itH (hoN F) q i)).toNatClampNeg = -1 := by rw [ci]; exact h2 _ hit (fun i' hi' => l3 i' i hi' hi)
      obtain ⟨o1, o2⟩ := fs_ho hF hit
      refine wpW K_X12_goLead [27] 40 ?_
      refine ⟨in7 (by omega), fun e => absurd hs e, fun _ => ⟨in7 (by omega), i14_30 (by omega), ?_⟩⟩
      refine go (sA τ 67 (upd (gA τ 67) (itH (hoN F) q i) (nI i))) _ _ ?_ (by rw [ci]) ⟨f.sA (by decide), fun i' hi' => ?_, fun v hv hne => ?_⟩
      · have := rHo τ f (itH (hoN F) q i) (by omega)
        rw [o2] at this
        show _ = [some (Value.ref 52), some (Value.int (nI q)), some (Value.int (nI (hoN F (itH (hoN F) q i)))), some (Value.int (nI (i + 1)))]
        rw [← this, ← nI_1 i]
        rfl
      · rw [gA_eq]
        by_cases c : i' = i
        · subst c; exact pk_us
        · rw [pk_un (l3 i' i (by omega) hi)]; exact h1 i' (by omega)
      · rw [gA_eq, pk_un (fun z => hne i (by omega) z.symm)]
        exact h2 v hv (fun i' hi' => hne i' (by omega))
    · rintro τ ⟨f, h1, h2⟩
      have hit := it_lt hh hq k
      have hs : gA τ 67 (itH (hoN F) q k) = nI j := by rw [l2]; exact h1 j l1
      refine wpW K_X12_goLead [] 40 ?_
      refine ⟨in7 (by omega), fun _ => ⟨inN (i := 0) (n := 21) (by decide) (by decide), rfl, ?_, hs, f.sA (by decide)⟩, fun e => ?_⟩
      · rfl
      · exfalso
        have e' : gA τ 67 (nI (itH (hoN F) q k)).toNatClampNeg = -1 := e
        rw [nI_clamp (by omega), hs] at e'
        exact nI_pos (n := j) (by omega) (by rw [e']; decide)
  refine wpW K_X12_goLead [2] 20 ?_
  refine loopI (α := Sto) 2 (fun i _ => [some (.ref 52), some (.int (nI q)), some (.int (nI i)), none]) (fun a => a) (fun i a => FM [57, 67] [] σ a ∧ ∀ v, v < i → gA a 67 v = -1) (fN F) ?_ ?_ 0 σ (Nat.zero_le _) ⟨FM.rf, fun v hv => by omega⟩
  · rintro i τ hi ⟨f, h1⟩ go
    refine wpW K_X12_goLead [2] 40 ?_
    refine ⟨fun e => ?_, fun _ => ⟨in7 (by omega), ?_⟩⟩
    · rw [f.i 1 (by decide), hn, le_of_nI (by omega) (by omega)] at e; omega
    refine go (sA τ 67 (upd (gA τ 67) i (-1))) _ _ (by rw [← nI_1 i]; rfl) (by rw [nI_clamp (by omega)]) ⟨f.sA (by decide), fun v hv => ?_⟩
    rw [gA_eq]
    by_cases c : v = i
    · subst c; exact pk_us
    · rw [pk_un c]; exact h1 v (by omega)
  · rintro τ ⟨f, h1⟩
    refine wpW K_X12_goLead [27] 40 ?_
    refine ⟨fun _ => L2 τ f h1, fun e => ?_⟩
    rw [f.i 1 (by decide), hn, le_of_nI (by omega) (by omega)] at e; omega
theorem mc_leads (k : Nat) (A : AS) (x : Int32) : MC (k + 2) M_X12_leads [.int x] A (.int (leadsC A x).1) (leadsC A x).2 := by
  intro σ0 hv0
  refine EvM.of mk_X12_leads (Nat.le_of_ble_eq_true rfl) ?_
  refine wpW K_X12_leads [5] 10 ?_
  obtain ⟨hv, f0⟩ := mv_t0 hv0
  show WW _ _ _ 5 [some (.ref 52), some (.int x), none] _ (t0S σ0)
  generalize t0S σ0 = σ at hv f0 ⊢
  have hb := hv.1
  have h7 := hb.n7
  unfold leadsC
  refine wpW K_X12_leads [26] 60 ?_
  refine ⟨_, ev_isOne _ σ (fN A.F) hb.n h7 x, ?_⟩
  rintro v τ ⟨h9, rfl⟩
  obtain rfl := h9.symm
  refine ⟨fun c => ?_, fun c => ?_⟩
  rotate_left
  · rw [bI_eq] at c
    rw [if_neg (by rw [c]; decide)]
    exact ⟨rfl, hv, f0⟩
  rw [bI_ne] at c
  rw [if_pos c]
  obtain ⟨x1, x2⟩ := in_of h7 c
  generalize x.toNatClampNeg = q at *
  subst x2
  have hF := hb.ok.1
  have hh : ∀ a, a < fN A.F → hoN A.F a < fN A.F := fun a ha => (fs_ho hF ha).1
  obtain ⟨n, j, hl, hn7, hld⟩ := ld_lead hF x1
  have hc := lead_cyc hl
  have hr := it_lt hh x1 n
  obtain ⟨c1, c2, c3⟩ := ring_cyc hF hr hc
  have hm := mk_lt h7 hh hr (n - j)
  have hp := pow7 h7
  rw [hld]
  simp only
  rw [c1, bc_nI _ (by omega), c3]
  refine ⟨_, ev_goLead _ σ hb.mok q n j (by rw [hb.F]; exact x1) (by rw [hb.F]; exact hl) hn7, ?_⟩
  rintro v σ1 ⟨rfl, g1, g2, f1⟩
  rw [hb.F] at g1 g2
  generalize itH (hoN A.F) q n = r at *
  obtain ⟨r1, r2⟩ := row_0 σ1
  have f3 : FM [] [6] σ1 (sI σ1 52 6 0) := FM.rf.sI (by decide)
  show WW _ _ _ 26 [some (.ref 52), some (.int (nI q)), some (.int (nI n))] [] (sI σ1 52 6 0)
  generalize sI σ1 52 6 0 = σ3 at r1 r2 f3 ⊢
  have g3 : gA σ3 57 0 = nI r := by rw [f3.a 57 (by decide)]; exact g1
  refine wpW K_X12_leads [] 60 ?_
  refine ⟨inN (i := 0) (n := 21) (by decide) (by decide), _, ev_tellL _ r1 r2 (by simp) _, ?_⟩
  rintro v σ4 ⟨rfl, r4, e4, f4⟩
  have g4 : gA σ4 57 0 = nI r := by rw [f4.a 57 (by decide)]; exact g3
  have g5 : gA σ4 67 (gA σ4 57 0).toNatClampNeg = nI j := by rw [g4, nI_clamp (by omega), f4.a 67 (by decide), f3.a 67 (by decide)]; exact g2
  have gv : vp_in (gA σ4 57 0) 7 := by rw [g4]; exact in7 (by omega)
  have hjn : j < n := hl.1
  refine ⟨inN (i := 0) (n := 21) (by decide) (by decide), gv, _, ev_tellL _ r4 e4 (by simp) _, ?_⟩
  rintro v σ5 ⟨rfl, r5, e5, f5⟩
  have e5' : mRw σ5 = [(nI r).toInt64, (nI (n - j)).toInt64] := by rw [e5, ← sub_nI (Nat.le_of_lt hjn), ← g5, ← g3]; rfl
  have := mv_end hb ((f1.up _ _ (by decide) (by decide)).tr ((f3.up _ _ (by decide) (by decide)).tr ((f4.up _ _ (by decide) (by decide)).tr (f5.up _ _ (by decide) (by decide))))) r5 e5'
  exact ⟨rfl, this.1, f0.tr this.2⟩
