/-! the model's call: walks -/
def gcN : Nat → Nat → Nat → Nat
  | 0, a, _ => a
  | c + 1, a, b => if b = 0 then a else gcN c b (a % b)
def gcT : Nat → Nat → Nat → Prop
  | 0, _, _ => False
  | c + 1, a, b => b = 0 ∨ gcT c b (a % b)
theorem gcT_up : ∀ c d a b, gcT c a b → gcT (c + d) a b := by
  intro c
  induction c with
  | zero => intro d a b h; exact h.elim
  | succ c ih =>
    intro d a b h
    rw [show c + 1 + d = (c + d) + 1 by omega]
    rcases h with h | h
    · exact Or.inl h
    · exact Or.inr (ih d _ _ h)
theorem gcT_pow : ∀ m a b, b < 2 ^ m → gcT (2 * m + 1) a b := by
  intro m
  induction m with
  | zero => intro a b h; exact Or.inl (by simpa using h)
  | succ m ih =>
    intro a b h
    rw [show 2 * (m + 1) + 1 = (2 * m + 1 + 1) + 1 by omega]
    by_cases hb : b = 0
    · exact Or.inl hb
    refine Or.inr ?_
    have r1 : a % b < b := Nat.mod_lt _ (by omega)
    generalize a % b = r at r1 ⊢
    by_cases hr : r = 0
    · exact Or.inl hr
    refine Or.inr (ih _ _ ?_)
    rw [Nat.pow_succ] at h
    by_cases q : r ≤ 2 ^ m
    · exact Nat.lt_of_lt_of_le (Nat.mod_lt _ (by omega)) q
    · rw [Nat.mod_eq_sub_mod (by omega), Nat.mod_eq_of_lt (by omega)]
      omega
theorem gcN_lt : ∀ c a b, a < 2 ^ 63 → b < 2 ^ 63 → gcN c a b < 2 ^ 63 := by
  intro c
  induction c with
  | zero => intro a b h _; exact h
  | succ c ih =>
    intro a b ha hb
    rw [gcN]
    split
    · exact ha
    · next h => exact ih _ _ hb (Nat.lt_trans (Nat.mod_lt _ (by omega)) hb)
theorem gcN_pos : ∀ c a b, gcT c a b → 0 < a ∨ 0 < b → 0 < gcN c a b := by
  intro c
  induction c with
  | zero => intro a b h; exact h.elim
  | succ c ih =>
    intro a b h hp
    rw [gcN]
    by_cases hb : b = 0
    · rw [if_pos hb]; omega
    · rw [if_neg hb]
      exact ih _ _ (h.resolve_left hb) (Or.inl (by omega))
theorem lN_z {b : Nat} (h : b < 2 ^ 63) : lN b = 0 ↔ b = 0 := pk_lEQ (b := 0) h (by decide)
theorem gc_lN : ∀ c a b, a < 2 ^ 63 → b < 2 ^ 63 → gcS c (lN a) (lN b) = lN (gcN c a b) := by
  intro c
  induction c with
  | zero => intro a b _ _; rfl
  | succ c ih =>
    intro a b ha hb
    rw [gcS, gcN]
    by_cases h : b = 0
    · rw [if_pos ((lN_z hb).mpr h), if_pos h]
    · rw [if_neg (fun z => h ((lN_z hb).mp z)), if_neg h, pk_lRem ha (by omega) hb]
      exact ih _ _ hb (Nat.lt_trans (Nat.mod_lt _ (by omega)) hb)
theorem ev_common (k : Nat) (σ : Sto) : ∀ c a b, a < 2 ^ 63 → b < 2 ^ 63 → gcT c a b → EvM (k + c) M_X12_common [.long (lN a), .long (lN b)] σ (fun r τ => τ = σ ∧ r = some (.long (lN (gcN c a b)))) := by
  intro c
  induction c with
  | zero => intro a b _ _ h; exact h.elim
  | succ c ih =>
    intro a b ha hb h
    refine EvM.of mk_X12_common (Nat.le_of_ble_eq_true rfl) ?_
    refine wpW K_X12_common [] 30 ?_
    refine ⟨fun e => ?_, fun e => ?_⟩
    · have e' : ¬ b = 0 := fun z => e ((cmp0 _ _).mpr ((lN_z hb).mpr z))
      refine ⟨fun z => e' ((lN_z hb).mp z), ?_⟩
      have := ih b (a % b) hb (Nat.lt_trans (Nat.mod_lt _ (by omega)) hb) (h.resolve_left e')
      rw [← pk_lRem ha (by omega) hb] at this
      refine ⟨_, this, ?_⟩
      rintro v τ ⟨h9, rfl⟩
      obtain rfl := h9.symm
      exact ⟨rfl, by rw [gcN, if_neg e']⟩
    · have e' : b = 0 := (lN_z hb).mp ((cmp0 _ _).mp e)
      exact ⟨rfl, by rw [gcN, if_pos e']⟩
def cntW (i j : Nat) : Nat := fo (fun i c => c + (if j = min 9 (i + 1) then 1 else 0) + (if j = i - 1 then 1 else 0)) 0 i
theorem cnt_2 : ∀ j, j < 10 → cntW 10 j ≤ 2 := by decide +kernel
theorem updL_lN (g : Nat → Nat) (a v : Nat) : vp_updL (fun j => lN (g j)) a (lN v) = fun j => lN (if j = a then v else g j) := by
  funext j
  unfold vp_updL
  by_cases h : j = a
  · rw [if_pos h, if_pos h]
  · rw [if_neg h, if_neg h]
theorem wst_lN {pn M : Nat} (hp : pn ≤ 10) (f : Nat → Nat) (hf : ∀ i, i < 10 → f i ≤ M) : ∀ i, i ≤ 10 → ∃ g : Nat → Nat, fo (wstS (nI pn) (fun i => lN (f i))) (fun _ => 0) i = (fun j => lN (g j)) ∧ ∀ j, j < 10 → g j ≤ 10 * M * cntW i j := by
  intro i
  induction i with
  | zero => intro _; exact ⟨fun _ => 0, rfl, fun j _ => Nat.zero_le _⟩
  | succ i ih =>
    intro hi
    obtain ⟨g, e, hg⟩ := ih (by omega)
    have hc : ∀ j, cntW (i + 1) j = cntW i j + (if j = min 9 (i + 1) then 1 else 0) + (if j = i - 1 then 1 else 0) := fun _ => rfl
    have m1 : f i * pn ≤ 10 * M := by rw [Nat.mul_comm 10]; exact Nat.mul_le_mul (hf i (by omega)) hp
    have m2 : f i * (10 - pn) ≤ 10 * M := by rw [Nat.mul_comm 10]; exact Nat.mul_le_mul (hf i (by omega)) (by omega)
    refine ⟨fun j => if j = i - 1 then (if i - 1 = min 9 (i + 1) then g (min 9 (i + 1)) + f i * pn else g (i - 1)) + f i * (10 - pn) else if j = min 9 (i + 1) then g (min 9 (i + 1)) + f i * pn else g j, ?_, fun j hj => ?_⟩
    · rw [fo, e, wstS, show (10 : Int32) - nI pn = nI (10 - pn) from sub_nI (a := 10) hp, nI_l (by omega), nI_l (by omega)]
      simp only
      rw [lN_mul, lN_mul, lN_add, updL_lN]
      simp only
      rw [lN_add, updL_lN]
    · have h1 := hg j hj
      have h2 := hg (min 9 (i + 1)) (by omega)
      have h3 := hg (i - 1) (by omega)
      rw [hc]
      simp only
      generalize hX : 10 * M = X at *
      by_cases c1 : j = i - 1
      · rw [if_pos c1, if_pos c1]
        by_cases c2 : j = min 9 (i + 1)
        · rw [if_pos (by omega), if_pos c2, Nat.mul_add, Nat.mul_add, Nat.mul_one]
          rw [← c2] at h2 ⊢
          omega
        · rw [if_neg (by omega), if_neg c2, Nat.mul_add, Nat.mul_add, Nat.mul_one, Nat.mul_zero]
          rw [← c1] at h3 ⊢
          omega
      · rw [if_neg c1, if_neg c1]
        by_cases c2 : j = min 9 (i + 1)
        · rw [if_pos c2, if_pos c2, Nat.mul_add, Nat.mul_add, Nat.mul_one, Nat.mul_zero]
          rw [← c2] at h2 ⊢
          omega
        · rw [if_neg c2, if_neg c2]
          exact h1
theorem walk_lN (x : Int32) {pn : Nat} (hp : pn ≤ 10) : ∀ n, ∃ g : Nat → Nat, walkS x (nI pn) n = (fun j => lN (g j)) ∧ ∀ j, j < 10 → g j ≤ 20 ^ n := by
  intro n
  induction n with
  | zero =>
    refine ⟨fun i => if i < 10 then (if nI i = x then 1 else 0) else 0, ?_, fun j _ => ?_⟩
    · funext j
      show (if j < 10 then (if nI j = x then 1 else 0) else 0) = _
      simp only
      split
      · split <;> rfl
      · rfl
    · show (if j < 10 then (if nI j = x then 1 else 0) else 0) ≤ 1
      by_cases a : j < 10
      · rw [if_pos a]
        by_cases b : nI j = x
        · rw [if_pos b]
          exact Nat.le_refl _
        · rw [if_neg b]
          exact Nat.zero_le _
      · rw [if_neg a]
        exact Nat.zero_le _
  | succ n ih =>
    obtain ⟨f, e, hf⟩ := ih
    obtain ⟨g, e2, hg⟩ := wst_lN hp f hf 10 (Nat.le_refl _)
    refine ⟨g, ?_, fun j hj => ?_⟩
    · rw [walkS, fo, ← walkS, e, wnxS, e2]
    · refine Nat.le_trans (hg j hj) ?_
      rw [Nat.pow_succ, Nat.mul_comm (20 ^ n) 20, show 20 * 20 ^ n = 10 * 20 ^ n * 2 by omega]
      exact Nat.mul_le_mul (Nat.le_refl _) (cnt_2 j hj)
theorem ten_lN : ∀ n, tenS n = lN (10 ^ n) := by
  intro n
  induction n with
  | zero => rfl
  | succ n ih => rw [tenS, fo, ← tenS, ih, Nat.pow_succ, show (10 : Int64) = lN 10 from rfl, lN_mul]
theorem mc_walks (k : Nat) (A : AS) (x n p y : Int32) : MC (k + 101) M_X12_walks [.int x, .int n, .int p, .int y] A (.int (walksC A x n p y).1) (walksC A x n p y).2 := by
  intro σ0 hv0
  refine EvM.of mk_X12_walks (Nat.le_of_ble_eq_true rfl) ?_
  refine wpW K_X12_walks [5] 10 ?_
  obtain ⟨hv, f0⟩ := mv_t0 hv0
  show WW _ _ _ 5 [some (.ref 52), some (.int x), some (.int n), some (.int p), some (.int y), none, none, none, none] _ (t0S σ0)
  generalize t0S σ0 = σ at hv f0 ⊢
  have hb := hv.1
  generalize hC : walksC A x n p y = C
  have no : (inS 10 x && inS 13 n && inS 11 p && inS 10 y) = false → WW M_X12_walks (k + 101) (fun w τ => w = some (.int C.1) ∧ MV τ C.2 ∧ Fr lM σ0 τ) 46 [some (.ref 52), some (.int x), some (.int n), some (.int p), some (.int y), none, none, none, none] [] σ := by
    intro c
    rw [← hC]
    unfold walksC
    rw [if_neg (by rw [c]; decide)]
    refine wpW K_X12_walks [] 10 ?_
    exact ⟨rfl, hv, f0⟩
  refine wpW K_X12_walks [46, 48] 60 ?_
  refine ⟨_, ev_in _ _ _ _ _, ?_⟩
  rintro v τ ⟨h9, rfl⟩
  obtain rfl := h9.symm
  rw [show (9 : Int32) = nI 9 from rfl, in_S (by omega)]
  refine ⟨fun c => no (by rw [(bI_eq _).mp c]; rfl), fun c1 => ⟨_, ev_in _ _ _ _ _, ?_⟩⟩
  rw [bI_ne] at c1
  rintro v τ ⟨h9, rfl⟩
  obtain rfl := h9.symm
  rw [show (12 : Int32) = nI 12 from rfl, in_S (by omega)]
  refine ⟨fun c => no (by rw [(bI_eq _).mp c, Bool.and_false]; rfl), fun c2 => ⟨_, ev_in _ _ _ _ _, ?_⟩⟩
  rw [bI_ne] at c2
  rintro v τ ⟨h9, rfl⟩
  obtain rfl := h9.symm
  rw [show (10 : Int32) = nI 10 from rfl, in_S (by omega)]
  refine ⟨fun c => no (by rw [(bI_eq _).mp c, Bool.and_false]; rfl), fun c3 => ⟨_, ev_in _ _ _ _ _, ?_⟩⟩
  rw [bI_ne] at c3
  rintro v τ ⟨h9, rfl⟩
  obtain rfl := h9.symm
  rw [show (9 : Int32) = nI 9 from rfl, in_S (by omega)]
  refine ⟨fun c4 => ?_, fun c => no (by rw [(bI_eq _).mp c, Bool.and_false])⟩
  rw [bI_ne] at c4
  unfold walksC at hC
  rw [if_pos (by rw [c1, c2, c3, c4]; rfl)] at hC
  obtain ⟨d1, d2⟩ := inS_80 (by omega) c2
  obtain ⟨e1, e2⟩ := inS_80 (by omega) c3
  obtain ⟨z1, z2⟩ := inS_80 (by omega) c4
  generalize n.toNatClampNeg = d at *
  generalize p.toNatClampNeg = pn at *
  generalize y.toNatClampNeg = z at *
  subst d2 e2 z2
  obtain ⟨g, hg, hgb⟩ := walk_lN x (pn := pn) (by omega) d
  have hu : walkS x (nI pn) d z = lN (g z) := by rw [hg]
  have p20 : 20 ^ d ≤ 20 ^ 12 := Nat.pow_le_pow_right (by omega) (by omega)
  have p10 : 10 ^ d ≤ 10 ^ 12 := Nat.pow_le_pow_right (by omega) (by omega)
  have p1 : 0 < 10 ^ d := Nat.pow_pos (by omega)
  have ub : g z < 2 ^ 63 := Nat.lt_of_le_of_lt (Nat.le_trans (hgb z z1) p20) (by decide)
  have tb : 10 ^ d < 2 ^ 63 := Nat.lt_of_le_of_lt p10 (by decide)
  have gt : gcT 100 (g z) (10 ^ d) := gcT_up 81 19 _ _ (gcT_pow 40 _ _ (Nat.lt_of_le_of_lt p10 (by decide)))
  have gp := gcN_pos 100 _ _ gt (Or.inr p1)
  have gl := gcN_lt 100 _ _ ub tb
  rw [hu, ten_lN, gc_lN 100 _ _ ub tb] at hC
  have hev := fun υ => ev_common k υ 100 _ _ ub tb gt
  generalize gcN 100 (g z) (10 ^ d) = G at *
  have gn : ¬ lN G = 0 := fun q => by rw [lN_z gl] at q; omega
  rw [dvS, dvS, if_neg gn, if_neg gn] at hC
  have L2 : ∀ τ o, rL (gJ τ 77) = walkS x (nI pn) 0 → FM [77, 78] [] σ τ → WW M_X12_walks (k + 101) (fun w τ => w = some (.int C.1) ∧ MV τ C.2 ∧ Fr lM σ0 τ) 88 [some (.ref 52), some (.int x), some (.int (nI d)), some (.int (nI pn)), some (.int (nI z)), some (.long (tenS 0)), none, some (.int (nI 0)), o] [] τ := by
    intro τ o h77 hf
    refine loopI (α := Sto × Option Value) 88 (fun i a => [some (.ref 52), some (.int x), some (.int (nI d)), some (.int (nI pn)), some (.int (nI z)), some (.long (tenS i)), none, some (.int (nI i)), a.2]) (fun a => a.1) (fun i a => rL (gJ a.1 77) = walkS x (nI pn) i ∧ FM [77, 78] [] σ a.1) d ?_ ?_ 0 (τ, o) (Nat.zero_le _) ⟨h77, hf⟩
    · rintro i ⟨υ, o⟩ hi ⟨hI, hfr⟩ go
      simp only at hI hfr ⊢
      generalize hF : walkS x (nI pn) i = F at hI
      have LC : ∀ ω, rL (gJ ω 78) = wnxS (nI pn) F → FM [77, 78] [] σ ω → WW M_X12_walks (k + 101) (fun w τ => w = some (.int C.1) ∧ MV τ C.2 ∧ Fr lM σ0 τ) 193 [some (.ref 52), some (.int x), some (.int (nI d)), some (.int (nI pn)), some (.int (nI z)), some (.long (tenS i)), none, some (.int (nI i)), some (.int (nI 0))] [] ω := by
        intro ω h1 h2
        refine loopI (α := Sto) 193 (fun j a => [some (.ref 52), some (.int x), some (.int (nI d)), some (.int (nI pn)), some (.int (nI z)), some (.long (tenS i)), none, some (.int (nI i)), some (.int (nI j))]) (fun a => a) (fun j a => (∀ q, q < j → gJ a 77 q = gJ ω 78 q) ∧ gJ a 78 = gJ ω 78 ∧ FM [77, 78] [] σ a) 10 ?_ ?_ 0 ω (Nat.zero_le _) ⟨fun q hq => by omega, rfl, h2⟩
        · intro j ζ hj hII go2
          obtain ⟨q1, q2, q3⟩ := hII
          have cj : (nI j).toNatClampNeg = j := nI_clamp (by omega)
          refine wpW K_X12_walks [193] 40 ?_
          refine ⟨fun h => ?_, fun _ => ⟨in10 hj, in10 hj, ?_⟩⟩
          · rw [show (10 : Int32) = nI 10 from rfl, le_of_nI (by omega) (by omega)] at h; omega
          refine go2 _ _ _ (by rw [← nI_1 j]; rfl) rfl ⟨fun q hq => ?_, ?_, FM.sJ q3 (by decide)⟩
          · rw [cj]
            show vp_updL (gJ ζ 77) j (gJ ζ 78 j) q = _
            by_cases e : q = j
            · subst e; rw [pk_uLs, q2]
            · rw [pk_uLn e]; exact q1 q (by omega)
          · exact q2
        · intro ζ hII
          obtain ⟨q1, q2, q3⟩ := hII
          refine wpW K_X12_walks [88] 40 ?_
          refine ⟨fun h => ?_, fun h => absurd (by decide) h⟩
          refine go (ζ, some (.int (nI 10))) _ _ (by rw [← nI_1 i]; rfl) rfl ⟨?_, q3⟩
          show rL (gJ ζ 77) = wnxS (nI pn) (walkS x (nI pn) i)
          rw [hF, ← h1]
          funext q
          by_cases e : q < 10
          · rw [rL_lt e, rL_lt e]; exact q1 q e
          · unfold rL; rw [if_neg e, if_neg e]
      have LB : ∀ ω, rL (gJ ω 77) = F → rL (gJ ω 78) = (fun _ => 0) → FM [77, 78] [] σ ω → WW M_X12_walks (k + 101) (fun w τ => w = some (.int C.1) ∧ MV τ C.2 ∧ Fr lM σ0 τ) 121 [some (.ref 52), some (.int x), some (.int (nI d)), some (.int (nI pn)), some (.int (nI z)), some (.long (tenS i)), none, some (.int (nI i)), some (.int (nI 0))] [] ω := by
        intro ω h1 h2 h3
        refine loopI (α := Sto) 121 (fun j a => [some (.ref 52), some (.int x), some (.int (nI d)), some (.int (nI pn)), some (.int (nI z)), some (.long (tenS i)), none, some (.int (nI i)), some (.int (nI j))]) (fun a => a) (fun j a => rL (gJ a 77) = F ∧ rL (gJ a 78) = fo (wstS (nI pn) F) (fun _ => 0) j ∧ FM [77, 78] [] σ a) 10 ?_ ?_ 0 ω (Nat.zero_le _) ⟨h1, h2, h3⟩
        · intro j ζ hj hII go2
          obtain ⟨q1, q2, q3⟩ := hII
          have cj : (nI j).toNatClampNeg = j := nI_clamp (by omega)
          have cm : (nI (min 9 (j + 1))).toNatClampNeg = min 9 (j + 1) := nI_clamp (by omega)
          have cp : (nI (j - 1)).toNatClampNeg = j - 1 := nI_clamp (by omega)
          refine wpW K_X12_walks [141] 40 ?_
          refine ⟨fun h => ?_, fun _ => ?_⟩
          · rw [show (10 : Int32) = nI 10 from rfl, le_of_nI (by omega) (by omega)] at h; omega
          show WW M_X12_walks _ _ 141 _ _ _
          rw [min9 hj]
          refine wpW K_X12_walks [167] 40 ?_
          refine ⟨in10 (by omega), in10 hj, in10 (by omega), ?_⟩
          show WW M_X12_walks _ _ 167 _ _ _
          rw [max0 hj]
          refine wpW K_X12_walks [121] 40 ?_
          refine ⟨in10 (by omega), in10 hj, in10 (by omega), ?_⟩
          rw [cj, cm, cp, show (52 : Nat) + 25 = 77 from rfl, show (52 : Nat) + 26 = 78 from rfl]
          refine go2 _ _ _ (by rw [← nI_1]; rfl) rfl ⟨?_, ?_, (FM.sJ q3 (by decide)).sJ (by decide)⟩
          · rw [gJ_ne (by decide), gJ_ne (by decide)]; exact q1
          · rw [gJ_eq, gJ_eq, gJ_ne (by decide), rL_upd (by omega), rL_upd (by omega), fo, ← q2, ← q1, wstS, rL_lt (f := gJ ζ 77) (by omega), rL_lt (f := gJ ζ 78) (by omega), ← rL_upd (f := gJ ζ 78) (by omega), rL_lt (f := vp_updL _ _ _) (by omega)]
        · intro ζ hII
          obtain ⟨q1, q2, q3⟩ := hII
          refine wpW K_X12_walks [193] 40 ?_
          refine ⟨fun h => LC ζ q2 q3, fun h => absurd (by decide) h⟩
      refine wpW K_X12_walks [97] 40 ?_
      refine ⟨fun h => ?_, fun _ => ?_⟩
      · rw [le_of_nI (by omega) (by omega)] at h; omega
      refine loopI (α := Sto) 97 (fun j a => [some (.ref 52), some (.int x), some (.int (nI d)), some (.int (nI pn)), some (.int (nI z)), some (.long (tenS i)), none, some (.int (nI i)), some (.int (nI j))]) (fun a => a) (fun j a => rL (gJ a 77) = F ∧ (∀ q, q < j → gJ a 78 q = 0) ∧ FM [77, 78] [] σ a) 10 ?_ ?_ 0 υ (Nat.zero_le _) ⟨hI, fun q hq => by omega, hfr⟩
      · intro j ζ hj hII go2
        obtain ⟨q1, q2, q3⟩ := hII
        refine wpW K_X12_walks [97] 40 ?_
        refine ⟨fun h => ?_, fun _ => ⟨in10 hj, ?_⟩⟩
        · rw [show (10 : Int32) = nI 10 from rfl, le_of_nI (by omega) (by omega)] at h; omega
        · refine go2 _ _ _ (by rw [← nI_1 j]; rfl) rfl ⟨q1, fun q hq => ?_, FM.sJ q3 (by decide)⟩
          show vp_updL (gJ ζ 78) (nI j).toNatClampNeg 0 q = 0
          rw [nI_clamp (by omega)]
          by_cases e : q = j
          · subst e; exact pk_uLs
          · rw [pk_uLn e]; exact q2 q (by omega)
      · intro ζ hII
        obtain ⟨q1, q2, q3⟩ := hII
        refine wpW K_X12_walks [121] 40 ?_
        refine ⟨fun h => LB ζ q1 ?_ q3, fun h => absurd (by decide) h⟩
        funext q
        unfold rL
        by_cases e : q < 10
        · rw [if_pos e]; exact q2 q e
        · rw [if_neg e]
    · rintro ⟨υ, o⟩ ⟨hI, hfr⟩
      simp only at hI hfr ⊢
      have h77 : ∀ τ, gJ τ 77 = gJ υ 77 → gJ τ 77 (nI z).toNatClampNeg = lN (g z) := fun τ h => by rw [nI_clamp (by omega), h, ← rL_lt (f := gJ υ 77) z1, hI, hu]
      refine wpW K_X12_walks [253] 40 ?_
      refine ⟨fun h => ⟨in10 z1, ?_⟩, fun h => ?_⟩
      rotate_left
      · exfalso; apply h; exact Int32.le_refl _
      show ∃ Q', EvM _ M_X12_common [.long (gJ υ 77 (nI z).toNatClampNeg), .long (tenS d)] υ Q' ∧ _
      rw [h77 υ rfl, ten_lN]
      refine ⟨_, hev υ, ?_⟩
      rintro v τ ⟨h9, rfl⟩
      obtain rfl := h9.symm
      obtain ⟨r1, r2⟩ := row_0 υ
      have f3 : FM [] [6] υ (sI υ 52 6 0) := FM.rf.sI (by decide)
      show WW _ _ _ 253 [some (.ref 52), some (.int x), some (.int (nI d)), some (.int (nI pn)), some (.int (nI z)), some (.long (lN (10 ^ d))), none, some (.long (lN G)), none] [] (sI υ 52 6 0)
      generalize sI υ 52 6 0 = σ3 at r1 r2 f3 ⊢
      refine wpW K_X12_walks [] 60 ?_
      refine ⟨in10 z1, gn, ?_⟩
      show ∃ Q', EvM _ M_X12_tell [.ref 52, .long (gJ σ3 77 (nI z).toNatClampNeg / lN G)] σ3 Q' ∧ _
      rw [h77 σ3 (f3.j 77 (by decide))]
      refine ⟨_, ev_tellL _ r1 r2 (by simp) _, ?_⟩
      rintro v σ4 ⟨rfl, r4, e4, f4⟩
      refine ⟨gn, _, ev_tellL _ r4 e4 (by simp) _, ?_⟩
      rintro v σ5 ⟨rfl, r5, e5, f5⟩
      have := mv_end hb (((hfr.up _ _ (by decide) (by decide)).tr (f3.up _ _ (by decide) (by decide))).tr ((f4.up _ _ (by decide) (by decide)).tr (f5.up _ _ (by decide) (by decide)))) r5 e5
      rw [← hC]
      exact ⟨rfl, this.1, f0.tr this.2⟩
  refine wpW K_X12_walks [51] 20 ?_
  refine loopI (α := Sto) 51 (fun j a => [some (.ref 52), some (.int x), some (.int (nI d)), some (.int (nI pn)), some (.int (nI z)), some (.int (nI j)), none, none, none]) (fun a => a) (fun j a => (∀ q, q < j → gJ a 77 q = w0S x q) ∧ FM [77, 78] [] σ a) 10 ?_ ?_ 0 σ (Nat.zero_le _) ⟨fun q hq => by omega, FM.rf⟩
  · intro j ζ hj hII go2
    obtain ⟨q2, q3⟩ := hII
    have cj : (nI j).toNatClampNeg = j := nI_clamp (by omega)
    refine wpW K_X12_walks [51] 40 ?_
    refine ⟨fun h => ?_, fun _ => ⟨fun c => ⟨in10 hj, ?_⟩, fun c => ⟨in10 hj, ?_⟩⟩⟩
    · rw [show (10 : Int32) = nI 10 from rfl, le_of_nI (by omega) (by omega)] at h; omega
    · refine go2 _ _ _ (by rw [← nI_1 j]; rfl) rfl ⟨fun q hq => ?_, FM.sJ q3 (by decide)⟩
      show vp_updL (gJ ζ 77) (nI j).toNatClampNeg 0 q = _
      rw [cj]
      by_cases e : q = j
      · subst e; rw [pk_uLs, w0S, rL_lt hj, if_neg c]
      · rw [pk_uLn e]; exact q2 q (by omega)
    · refine go2 _ _ _ (by rw [← nI_1 j]; rfl) rfl ⟨fun q hq => ?_, FM.sJ q3 (by decide)⟩
      show vp_updL (gJ ζ 77) (nI j).toNatClampNeg 1 q = _
      rw [cj]
      by_cases e : q = j
      · subst e; rw [pk_uLs, w0S, rL_lt hj, if_pos c]
      · rw [pk_uLn e]; exact q2 q (by omega)
  · intro ζ hII
    obtain ⟨q2, q3⟩ := hII
    refine wpW K_X12_walks [88] 40 ?_
    refine ⟨fun h => L2 ζ _ ?_ q3, fun h => absurd (by decide) h⟩
    show _ = w0S x
    funext q
    by_cases e : q < 10
    · rw [rL_lt e]; exact q2 q e
    · unfold w0S rL; rw [if_neg e, if_neg e]
