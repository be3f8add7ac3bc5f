/-! rests, draws, hush, walks -/
def gainS (x y w : Int32) : Int32 := (if x ≤ y then 0 else w) - 2 * maxS 0 (x + y - 6) - x
theorem ev_gain (k : Nat) (σ : Sto) (x y w : Int32) : EvM (k + 1) M_X4_gain [.int x, .int y, .int w] σ (fun r τ => τ = σ ∧ r = some (.int (gainS x y w))) := by
  refine EvM.of mk_X4_gain (Nat.le_of_ble_eq_true rfl) ?_
  refine wpW K_X4_gain [] 40 ?_
  exact ⟨fun h => ⟨rfl, by rw [gainS, if_pos h]; rfl⟩, fun h => ⟨rfl, by rw [gainS, if_neg h]; rfl⟩⟩
def bestS (w : Int32) (y : Nat) : Int32 := fo (fun x m => maxS m (gainS (nI (x + 1)) (nI y) w)) (gainS 0 (nI y) w) 9
theorem in10 {i : Nat} (h : i < 10) : vp_in (nI i) 10 := vp_in_nI h (by decide)
theorem ev_readiesRests (k : Nat) (σ : Sto) (w : Int32) : EvM (k + 2) M_X4_readiesRests [.ref 41, .int w] σ (fun r τ => r = none ∧ (∀ y, y < 10 → gA τ 45 y = bestS w y) ∧ Fr [45] σ τ) := by
  refine EvM.of mk_X4_readiesRests (Nat.le_of_ble_eq_true rfl) ?_
  refine wpW K_X4_readiesRests [2] 10 ?_
  refine loopI (α := Sto × Option Value) 2 (fun i a => [some (.ref 41), some (.int w), some (.int (nI i)), a.2]) (fun a => a.1) (fun i a => (∀ y, y < i → gA a.1 45 y = bestS w y) ∧ Fr [45] σ a.1) 10 ?_ ?_ 0 (σ, none) (Nat.zero_le _) ⟨fun y hy => by omega, Fr.rf⟩
  · rintro y ⟨τ, y3⟩ hy ⟨hI, hfr⟩ go
    simp only at hI hfr
    have cl : (nI y).toNatClampNeg = y := nI_clamp (by omega)
    refine wpW K_X4_readiesRests [2, 22] 40 ?_
    refine ⟨fun h => ?_, fun _ => ⟨_, ev_gain _ _ _ _ _, ?_⟩⟩
    · rw [show (10 : Int32) = nI 10 from rfl, le_of_nI (by omega) (by omega)] at h; omega
    · rintro z ω ⟨h9, rfl⟩
      obtain rfl := h9.symm
      refine ⟨in10 hy, ?_⟩
      refine loopI (α := Sto) 22 (fun i a => [some (.ref 41), some (.int w), some (.int (nI y)), some (.int (nI (i + 1)))]) (fun a => a) (fun i a => (∀ q, q < y → gA a 45 q = bestS w q) ∧ gA a 45 y = fo (fun x m => maxS m (gainS (nI (x + 1)) (nI y) w)) (gainS 0 (nI y) w) i ∧ Fr [45] σ a) 9 ?_ ?_ 0 _ (Nat.zero_le _) ?_
      · intro i υ hi hII go2
        obtain ⟨k1, k2, k3⟩ := hII
        refine wpW K_X4_readiesRests [2, 22] 40 ?_
        refine ⟨fun h => ?_, fun _ => ⟨in10 hy, ⟨_, ev_gain _ _ _ _ _, ?_⟩⟩⟩
        · rw [show (10 : Int32) = nI 10 from rfl, le_of_nI (by omega) (by omega)] at h; omega
        · rintro z ω ⟨h9, rfl⟩
          obtain rfl := h9.symm
          refine ⟨in10 hy, go2 _ _ _ (by rw [← nI_1 (i + 1)]; rfl) rfl ⟨fun q hq => ?_, ?_, Fr.sA k3 (by simp)⟩⟩
          · show upd (gA υ 45) (nI y).toNatClampNeg _ q = _
            rw [cl, pk_un (by omega)]; exact k1 q hq
          · show upd (gA υ 45) (nI y).toNatClampNeg (maxS (gA υ 45 (nI y).toNatClampNeg) _) y = _
            rw [cl, pk_us, k2]; rfl
      · intro υ hII
        obtain ⟨k1, k2, k3⟩ := hII
        refine wpW K_X4_readiesRests [2, 22] 40 ?_
        refine ⟨fun _ => go (υ, some (.int (nI 10))) _ _ (by rw [← nI_1 y]; rfl) rfl ⟨fun q hq => ?_, k3⟩, fun h => absurd (by decide) h⟩
        by_cases e : q = y
        · subst e; exact k2
        · exact k1 q (by omega)
      · refine ⟨fun q hq => ?_, ?_, Fr.sA hfr (by simp)⟩
        · show upd (gA τ 45) (nI y).toNatClampNeg _ q = _
          rw [cl, pk_un (by omega)]; exact hI q hq
        · show upd (gA τ 45) (nI y).toNatClampNeg _ y = _
          rw [cl, pk_us]; rfl
  · rintro ⟨τ, y3⟩ ⟨hI, hfr⟩
    refine wpW K_X4_readiesRests [2] 40 ?_
    exact ⟨fun h => ⟨rfl, hI, hfr⟩, fun h => absurd (by decide) h⟩
def restS (w : Int32) (x y : Nat) : Bool := decide (gainS (nI x) (nI y) w = bestS w y) && decide (gainS (nI y) (nI x) w = bestS w x)
theorem ev_isRest (k : Nat) (σ : Sto) (w : Int32) (hb : ∀ y, y < 10 → gA σ 45 y = bestS w y) (x y : Nat) (hx : x < 10) (hy : y < 10) : EvM (k + 2) M_X4_isRest [.ref 41, .int (nI x), .int (nI y), .int w] σ (fun r τ => τ = σ ∧ r = some (.int (bI (restS w x y)))) := by
  refine EvM.of mk_X4_isRest (Nat.le_of_ble_eq_true rfl) ?_
  refine wpW K_X4_isRest [] 40 ?_
  refine ⟨_, ev_gain _ _ _ _ _, ?_⟩
  rintro z ω ⟨h9, rfl⟩
  obtain rfl := h9.symm
  refine ⟨in10 hy, ?_⟩
  rw [nI_clamp (by omega), show (41 : Nat) + 4 = 45 from rfl, hb y hy]
  refine ⟨fun c => ⟨Or.inl rfl, rfl, by simp [restS, c, bI]⟩, fun c => ⟨_, ev_gain _ _ _ _ _, ?_⟩⟩
  rintro z ω ⟨h9, rfl⟩
  obtain rfl := h9.symm
  refine ⟨in10 hx, ?_⟩
  rw [nI_clamp (by omega), show (41 : Nat) + 4 = 45 from rfl, hb x hx]
  exact ⟨fun c2 => ⟨Or.inl rfl, rfl, by simp [restS, c2, bI]⟩, fun c2 => ⟨Or.inr rfl, rfl, by simp [restS, c, c2, bI]⟩⟩
def lotS (x : Int32) : Int32 := x * 1103515245 + 12345
def drawS (x n : Int32) : Int32 := ush (lotS x) 16 - ush (lotS x) 16 / n * n
theorem ev_draw (k : Nat) (σ : Sto) (n : Int32) (hn : 0 < n) : EvM k M_X4_draw [.ref 41, .int n] σ (fun r τ => τ = sI σ 41 5 (lotS (gI σ 41 5)) ∧ r = some (.int (drawS (gI σ 41 5) n))) := by
  refine EvM.of mk_X4_draw (Nat.le_of_ble_eq_true rfl) ?_
  refine wpW K_X4_draw [] 40 ?_
  refine ⟨fun h => absurd hn (Int32.not_lt.mpr h), fun h => ⟨?_, rfl, rfl⟩⟩
  intro e
  rw [e] at hn
  exact absurd hn (by decide)
/-! hush -/
def winS (g : Nat → Int32) (a b : Nat) : Bool := bit1 (g a) b
theorem in21 {i : Nat} (h : i < 21) : vp_in (nI i) 21 := vp_in_nI h (by decide)
theorem ev_wins (k : Nat) (σ : Sto) (a b : Nat) (ha : a < 21) : EvM k M_X4_wins [.ref 41, .int (nI a), .int (nI b)] σ (fun r τ => τ = σ ∧ r = some (.int (bI (winS (gA σ 44) a b)))) := by
  refine EvM.of mk_X4_wins (Nat.le_of_ble_eq_true rfl) ?_
  refine wpW K_X4_wins [] 40 ?_
  refine ⟨in21 ha, ?_⟩
  rw [nI_clamp (by omega), show (41 : Nat) + 3 = 44 from rfl]
  exact ⟨fun c => ⟨Or.inl rfl, rfl, by simp [winS, bit1, c, bI]⟩, fun c => ⟨Or.inr rfl, rfl, by simp [winS, bit1, c, bI]⟩⟩
def takeS (g : Nat → Int32) (a b : Nat) : Nat → Nat → Int32
  | 0, _ => 0
  | m + 1, t => if winS g a (b - t) then takeS g a b m (t + 1) else nI t
def wtS (g : Nat → Int32) (a b : Nat) : Int32 := takeS g a b (min a b) 1
theorem ev_winningTake (k : Nat) (σ : Sto) (a b : Nat) (ha : a < 21) (hb : b < 21) : EvM (k + 1) M_X4_winningTake [.ref 41, .int (nI a), .int (nI b)] σ (fun r τ => τ = σ ∧ r = some (.int (wtS (gA σ 44) a b))) := by
  refine EvM.of mk_X4_winningTake (Nat.le_of_ble_eq_true rfl) ?_
  have em : (if nI b < nI a then nI b else nI a) = nI (min a b) := by
    by_cases h : b < a
    · rw [if_pos ((lt_of_nI (by omega) (by omega)).mpr h), Nat.min_eq_right (by omega)]
    · rw [if_neg (fun q => h ((lt_of_nI (by omega) (by omega)).mp q)), Nat.min_eq_left (by omega)]
  generalize hm : min a b = n at em
  have hn : n < 21 := by omega
  suffices hL : WW M_X4_winningTake (k + 1) (fun r τ => τ = σ ∧ r = some (.int (wtS (gA σ 44) a b))) 9 [some (.ref 41), some (.int (nI a)), some (.int (nI b)), some (.int (nI n)), some (.int (nI (0 + 1)))] [] σ by
    rw [← em] at hL
    exact wpW K_X4_winningTake [9] 20 hL
  refine loopI (α := Unit) 9 (fun i _ => [some (.ref 41), some (.int (nI a)), some (.int (nI b)), some (.int (nI n)), some (.int (nI (i + 1)))]) (fun _ => σ) (fun i _ => takeS (gA σ 44) a b (n - i) (i + 1) = wtS (gA σ 44) a b) n ?_ ?_ 0 () (Nat.zero_le _) (by rw [wtS, hm]; rfl)
  · rintro i - hi hI go
    obtain ⟨m, hm1⟩ : ∃ m, n - i = m + 1 := ⟨n - i - 1, by omega⟩
    have hm2 : n - (i + 1) = m := by omega
    rw [hm1, takeS] at hI
    refine wpW K_X4_winningTake [9] 40 ?_
    refine ⟨fun h => ?_, fun _ => ⟨_, by rw [pk_sub (show i + 1 ≤ b by omega)]; exact ev_wins _ _ a (b - (i + 1)) ha, ?_⟩⟩
    · rw [lt_of_nI (by omega) (by omega)] at h; omega
    · rintro z ω ⟨h9, rfl⟩
      obtain rfl := h9.symm
      refine ⟨fun c => ?_, fun c => ⟨rfl, ?_⟩⟩
      · rw [if_pos ((bI_ne _).mp c)] at hI
        exact go () _ _ (by rw [← nI_1 (i + 1)]; rfl) rfl (by rw [hm2]; exact hI)
      · rw [(bI_eq _).mp c] at hI
        rw [← hI]; rfl
  · rintro - hI
    rw [Nat.sub_self, takeS] at hI
    refine wpW K_X4_winningTake [9] 40 ?_
    refine ⟨fun h => ⟨rfl, by rw [← hI]⟩, fun h => ?_⟩
    exfalso; apply h
    rw [lt_of_nI (by omega) (by omega)]; omega
def hstS (a b : Nat) (g : Nat → Int32) : Nat → Int32 := if a = 0 ∨ b = 0 ∨ 0 < wtS g a b ∨ 0 < wtS g b a then upd (upd g a (g a ||| bt b)) b (upd g a (g a ||| bt b) b ||| bt a) else g
def hrowS (g : Nat → Int32) (a : Nat) : Nat → Int32 := fo (fun b g => hstS a b g) g 21
def hushT (g : Nat → Int32) : Nat → Int32 := fo (fun a g => hrowS g a) g 21
theorem ev_readiesHush (k : Nat) (σ : Sto) : EvM (k + 2) M_X4_readiesHush [.ref 41] σ (fun r τ => r = none ∧ (if gI σ 41 3 = 0 then gA τ 44 = hushT (gA σ 44) ∧ gI τ 41 3 = 1 ∧ gI τ 41 5 = gI σ 41 5 ∧ Fr [41, 44] σ τ else τ = σ)) := by
  refine EvM.of mk_X4_readiesHush (Nat.le_of_ble_eq_true rfl) ?_
  by_cases h0 : gI σ 41 3 = 0
  · simp only [h0, if_true]
    refine wpW K_X4_readiesHush [10] 20 ?_
    refine ⟨fun _ => ?_, fun h => absurd h0 h⟩
    refine loopI (α := (Nat → Int32) × Option Value × Option Value) 10 (fun i a => [some (.ref 41), some (.int (nI i)), a.2.1, a.2.2]) (fun a => sA σ 44 a.1) (fun i a => a.1 = fo (fun a g => hrowS g a) (gA σ 44) i) 21 ?_ ?_ 0 (gA σ 44, none, none) (Nat.zero_le _) rfl |> fun h => by
      have := h
      simp only [sA_id] at this
      exact this
    · rintro a ⟨g, y2, y3⟩ ha hI go
      simp only at hI
      refine wpW K_X4_readiesHush [10, 18] 20 ?_
      refine ⟨fun h => ?_, fun _ => ?_⟩
      · rw [show (20 : Int32) = nI 20 from rfl, lt_of_nI (by omega) (by omega)] at h; omega
      · refine loopI (α := (Nat → Int32) × Option Value) 18 (fun i c => [some (.ref 41), some (.int (nI a)), some (.int (nI i)), c.2]) (fun c => sA σ 44 c.1) (fun i c => c.1 = fo (fun b g => hstS a b g) g i) 21 ?_ ?_ 0 (g, y3) (Nat.zero_le _) rfl
        · rintro b ⟨f, z3⟩ hb hII go2
          simp only at hII
          have ca : (nI a).toNatClampNeg = a := nI_clamp (by omega)
          have cb : (nI b).toNatClampNeg = b := nI_clamp (by omega)
          have eg : gA (sA σ 44 f) 44 = f := gA_eq
          have w1 := ev_winningTake k (sA σ 44 f) a b ha hb
          have w2 := ev_winningTake k (sA σ 44 f) b a hb ha
          rw [eg] at w1 w2
          have skip : ¬ (a = 0 ∨ b = 0 ∨ 0 < wtS f a b ∨ 0 < wtS f b a) → ∀ z L', L' = [some (.ref 41), some (.int (nI a)), some (.int (nI b + 1)), z] → WW M_X4_readiesHush (k + 2) (fun r τ => r = none ∧ gA τ 44 = hushT (gA σ 44) ∧ gI τ 41 3 = 1 ∧ gI τ 41 5 = gI σ 41 5 ∧ Fr [41, 44] σ τ) 18 L' [] (sA σ 44 f) := by
            intro hc z L' hL
            exact go2 (f, z) _ _ (by rw [hL, nI_1]) rfl (by rw [fo, ← hII, hstS, if_neg hc])
          have hit : (a = 0 ∨ b = 0 ∨ 0 < wtS f a b ∨ 0 < wtS f b a) → ∀ z, WW M_X4_readiesHush (k + 2) (fun r τ => r = none ∧ gA τ 44 = hushT (gA σ 44) ∧ gI τ 41 3 = 1 ∧ gI τ 41 5 = gI σ 41 5 ∧ Fr [41, 44] σ τ) 60 [some (.ref 41), some (.int (nI a)), some (.int (nI b)), z] [] (sA σ 44 f) := by
            intro hc z
            refine wpW K_X4_readiesHush [18] 60 ?_
            refine ⟨in21 ha, in21 ha, in21 hb, in21 hb, ?_⟩
            rw [ca, cb, show (41 : Nat) + 3 = 44 from rfl, sA_sA, gA_eq, gA_eq, sA_sA]
            exact go2 (hstS a b f, z) _ _ (by rw [← nI_1]; rfl) (by rw [hstS, if_pos hc]; rfl) (by rw [fo, ← hII])
          refine wpW K_X4_readiesHush [10, 18, 60] 40 ?_
          refine ⟨fun h => ?_, fun _ => ⟨fun h => ?_, fun h => ⟨fun h2 => ?_, fun h2 => ?_⟩⟩⟩
          · rw [show (20 : Int32) = nI 20 from rfl, lt_of_nI (by omega) (by omega)] at h; omega
          · refine ⟨fun _ => hit (Or.inl ?_) _, fun h => absurd h (by decide)⟩
            rw [show (0 : Int32) = nI 0 from rfl, eq_of_nI (by omega) (by omega)] at h; exact h
          · refine ⟨fun h => absurd rfl h, fun _ => ⟨_, w1, ?_⟩⟩
            have ha0 : ¬ a = 0 := fun e => h (by rw [e]; rfl)
            have hb0 : ¬ b = 0 := fun e => h2 (by rw [e]; rfl)
            rintro z ω ⟨h9, rfl⟩
            obtain rfl := h9.symm
            refine ⟨fun h3 => hit (Or.inr (Or.inr (Or.inl h3))) _, fun h3 => ⟨_, w2, ?_⟩⟩
            rintro z ω ⟨h9, rfl⟩
            obtain rfl := h9.symm
            refine ⟨fun h4 => skip ?_ _ _ rfl, fun h4 => hit (Or.inr (Or.inr (Or.inr (Int32.not_le.mp h4)))) _⟩
            rintro (q | q | q | q)
            · exact ha0 q
            · exact hb0 q
            · exact h3 q
            · exact absurd q (Int32.not_lt.mpr h4)
          · refine ⟨fun _ => hit (Or.inr (Or.inl ?_)) _, fun h => absurd h (by decide)⟩
            rw [show (0 : Int32) = nI 0 from rfl, eq_of_nI (by omega) (by omega)] at h2; exact h2
        · rintro ⟨f, z3⟩ hII
          simp only at hII
          refine wpW K_X4_readiesHush [10, 18] 40 ?_
          refine ⟨fun h => go (f, some (.int (nI 21)), z3) _ _ (by rw [← nI_1 a]; rfl) rfl (by rw [fo, ← hI]; exact hII), fun h => absurd (by decide) h⟩
    · rintro ⟨g, y2, y3⟩ hI
      simp only at hI
      refine wpW K_X4_readiesHush [10] 40 ?_
      refine ⟨fun h => ⟨Or.inr rfl, rfl, ?_, rfl, rfl, (Fr.rf.sA (by simp)).sI (by simp)⟩, fun h => absurd (by decide) h⟩
      show gA (sA σ 44 g) 44 = _
      rw [gA_eq, hI]; rfl
  · simp only [h0, if_false]
    refine wpW K_X4_readiesHush [10] 20 ?_
    exact ⟨fun h => absurd h h0, fun _ => ⟨rfl, rfl⟩⟩
