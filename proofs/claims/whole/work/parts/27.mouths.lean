/-! rich rows; mouths -/
def runsI (P : Nat → Int32) (i : Nat) (g : Nat → Int32) (d : Nat) : Nat → Int32 := if P (i + 1 + d) ≤ P i then g else upd g i (maxS (g i) (g (i + 1 + d) + 1))
def runsO (P : Nat → Int32) (n i : Nat) (g : Nat → Int32) : Nat → Int32 := fo (fun d g => runsI P i g d) (upd g i 1) (n - (i + 1))
/-- t rows from the last on -/
def runsS (P : Nat → Int32) (n : Nat) (g : Nat → Int32) (t : Nat) : (Nat → Int32) × Int32 := fo (fun t a => (runsO P n (n - t - 1) a.1, maxS a.2 (runsO P n (n - t - 1) a.1 (n - t - 1)))) (g, 0) t
theorem dn_lit (x : Int32) : x + -1 = x - 1 := by rw [Int32.sub_eq_add_neg]
theorem ev_longestFrom (k : Nat) (σ : Sto) (hc : cOK σ 5) (row : Nat → Nat) (hrow : ∀ j, j < fN (cF σ 5) → gA σ 29 j = nI (row j) ∧ row j < 7) : EvM (k + 1) M_X0_longestFrom [.ref 28, .ref 5] σ (fun r τ => r = some (.int (runsS (fun j => fPu (cF σ 5) (row j)) (fN (cF σ 5)) (gA σ 31) (fN (cF σ 5))).2) ∧ gA τ 31 = (runsS (fun j => fPu (cF σ 5) (row j)) (fN (cF σ 5)) (gA σ 31) (fN (cF σ 5))).1 ∧ Fr [31] σ τ) := by
  have hsz : ∀ g, gI (sA σ 31 g) 5 5 = nI (fN (cF σ 5)) := fun g => hc.1
  have hs0 : gI σ 5 5 = nI (fN (cF σ 5)) := hc.1
  have h7 := hc.2.1
  have hpu : ∀ g j, j < fN (cF σ 5) → gA (sA σ 31 g) (5 + 3) (gA (sA σ 31 g) (28 + 1) (nI j).toNatClampNeg).toNatClampNeg = fPu (cF σ 5) (row j) := fun g j hj => by
    rw [gA_ne (by decide), gA_ne (by decide), nI_clamp (by omega), show (28 : Nat) + 1 = 29 from rfl, (hrow j hj).1]
    exact (cF_rd σ 5).2.2.1 _ (hrow j hj).2
  have hri : ∀ g j, j < fN (cF σ 5) → vp_in (gA (sA σ 31 g) (28 + 1) (nI j).toNatClampNeg) 7 := fun g j hj => by
    rw [gA_ne (by decide), nI_clamp (by omega), show (28 : Nat) + 1 = 29 from rfl, (hrow j hj).1]
    exact in7 (hrow j hj).2
  generalize hP : (fun j => fPu (cF σ 5) (row j)) = P at *
  have hpu' : ∀ g j, j < fN (cF σ 5) → gA (sA σ 31 g) (5 + 3) (gA (sA σ 31 g) (28 + 1) (nI j).toNatClampNeg).toNatClampNeg = P j := fun g j hj => by rw [hpu g j hj, ← hP]
  generalize fN (cF σ 5) = n at *
  refine EvM.of mk_X0_longestFrom (Nat.le_of_ble_eq_true rfl) ?_
  have start : WW M_X0_longestFrom (k + 1) (fun r τ => r = some (.int (runsS P n (gA σ 31) n).2) ∧ gA τ 31 = (runsS P n (gA σ 31) n).1 ∧ Fr [31] σ τ) 9 [some (.ref 28), some (.ref 5), some (.int 0), some (.int (nI (n - 0) - 1)), none] [] (sA σ 31 (gA σ 31)) := by
    refine loopI (α := ((Nat → Int32) × Int32) × Option Value) 9 (fun t a => [some (.ref 28), some (.ref 5), some (.int a.1.2), some (.int (nI (n - t) - 1)), a.2]) (fun a => sA σ 31 a.1.1) (fun t a => a.1 = runsS P n (gA σ 31) t) n ?_ ?_ 0 ((gA σ 31, 0), none) (Nat.zero_le _) rfl
    · rintro t ⟨⟨g, b⟩, y4⟩ ht hI go
      simp only at hI
      obtain ⟨i, hi⟩ : ∃ i, n - t = i + 1 := ⟨n - t - 1, by omega⟩
      have hin : i < n := by omega
      have hnt : n - (t + 1) = i := by omega
      have ci : (nI i).toNatClampNeg = i := nI_clamp (by omega)
      have estep : runsS P n (gA σ 31) (t + 1) = (runsO P n i g, maxS b (runsO P n i g i)) := by
        show (runsO P n (n - t - 1) (runsS P n (gA σ 31) t).1, maxS (runsS P n (gA σ 31) t).2 (runsO P n (n - t - 1) (runsS P n (gA σ 31) t).1 (n - t - 1))) = _
        rw [← hI, hi]; rfl
      simp only [hi, nI_pred]
      -- the inner loop
      have LI : WW M_X0_longestFrom (k + 1) (fun r τ => r = some (.int (runsS P n (gA σ 31) n).2) ∧ gA τ 31 = (runsS P n (gA σ 31) n).1 ∧ Fr [31] σ τ) 25 [some (.ref 28), some (.ref 5), some (.int b), some (.int (nI i)), some (.int (nI (i + 1 + 0)))] [] (sA σ 31 (upd g i 1)) := by
        refine loopI (α := Nat → Int32) 25 (fun d a => [some (.ref 28), some (.ref 5), some (.int b), some (.int (nI i)), some (.int (nI (i + 1 + d)))]) (fun a => sA σ 31 a) (fun d a => a = fo (fun d g => runsI P i g d) (upd g i 1) d) (n - (i + 1)) ?_ ?_ 0 (upd g i 1) (Nat.zero_le _) rfl
        · intro d f hd hII go2
          have cd : (nI (i + 1 + d)).toNatClampNeg = i + 1 + d := nI_clamp (by omega)
          refine wpW K_X0_longestFrom [9, 25] 60 ?_
          refine ⟨fun h => ?_, fun _ => ⟨in7 (by omega), hri f _ (by omega), in7 (by omega), hri f _ (by omega), ?_⟩⟩
          · rw [hsz, le_of_nI (by omega) (by omega)] at h; omega
          · rw [hpu' f _ (by omega), hpu' f _ (by omega)]
            refine ⟨fun c => ?_, fun c => ⟨in7 (by omega), in7 (by omega), in7 (by omega), ?_⟩⟩
            · exact go2 f _ _ (by rw [show i + 1 + (d + 1) = i + 1 + d + 1 from rfl, ← nI_1 (i + 1 + d)]; rfl) rfl (by rw [fo, ← hII, runsI, if_pos c])
            · rw [ci, cd, show (28 : Nat) + 3 = 31 from rfl, gA_eq, sA_sA]
              exact go2 (upd f i (maxS (f i) (f (i + 1 + d) + 1))) _ _ (by rw [show i + 1 + (d + 1) = i + 1 + d + 1 from rfl, ← nI_1 (i + 1 + d)]; rfl) rfl (by rw [fo, ← hII, runsI, if_neg c])
        · intro f hII
          have hf : f = runsO P n i g := hII
          have e1 : i + 1 + (n - (i + 1)) = n := by omega
          simp only [e1]
          refine wpW K_X0_longestFrom [9, 25] 60 ?_
          refine ⟨fun h => ⟨in7 (by omega), ?_⟩, fun h => ?_⟩
          · rw [ci, show (28 : Nat) + 3 = 31 from rfl, gA_eq]
            refine go ((f, maxS b (f i)), some (.int (nI n))) _ _ ?_ rfl (by rw [estep, hf])
            rw [hnt, ← dn_lit]
            rfl
          · exfalso; apply h
            rw [hsz, le_of_nI (by omega) (by omega)]
            omega
      refine wpW K_X0_longestFrom [9, 25] 60 ?_
      refine ⟨fun h => absurd h (nI_pos (by omega)), fun _ => ⟨in7 (by omega), ?_⟩⟩
      rw [ci, show (28 : Nat) + 3 = 31 from rfl, gA_eq, sA_sA]
      rw [Nat.add_zero, ← nI_1 i] at LI
      exact LI
    · rintro ⟨⟨g, b⟩, y4⟩ hI
      simp only at hI
      simp only [Nat.sub_self]
      refine wpW K_X0_longestFrom [9] 60 ?_
      refine ⟨fun h => ⟨by rw [← hI], by show gA (sA σ 31 g) 31 = _; rw [gA_eq, ← hI], fr_one⟩, fun h => absurd (by decide) h⟩
  rw [sA_id, Nat.sub_zero, ← hs0] at start
  exact wpW K_X0_longestFrom [9] 20 start
/-! sets as numbers below 128 -/
def pcN (m : Nat) : Nat := m % 2 + m / 2 % 2 + m / 4 % 2 + m / 8 % 2 + m / 16 % 2 + m / 32 % 2 + m / 64 % 2
theorem bc_nI : ∀ m, m < 128 → bcS (nI m) = nI (pcN m) := by decide +kernel
theorem pc_lt : ∀ n, n ≤ 7 → ∀ m, m < 2 ^ n - 1 → pcN m < n := by decide +kernel
theorem or_nI : ∀ m, m < 128 → ∀ q, q < 7 → nI m ||| (1 : Int32) <<< (nI q &&& 31) = nI (m ||| 2 ^ q) ∧ m ||| 2 ^ q < 128 := by decide +kernel
theorem bt_nI : ∀ m, m < 128 → ∀ q, q < 7 → (nI m >>> (nI q &&& 31)) &&& 1 = nI (m / 2 ^ q % 2) := by decide +kernel
theorem or_lt : ∀ n, n ≤ 7 → ∀ m, m < 2 ^ n → ∀ q, q < n → m ||| 2 ^ q < 2 ^ n := by decide +kernel
theorem in128 {i : Nat} (h : i < 128) : vp_in (nI i) 128 := vp_in_nI h (by decide)
def costS (F : FS) (g : Nat → Int32) (nm q m : Nat) : Int32 := if ¬ q = nm ∧ m / 2 ^ q % 2 = 0 then absS (fPl F q - fPl F nm) + g (m ||| 2 ^ q) else 1000
theorem ev_costs (k : Nat) (σ : Sto) (nm q m : Nat) (hnm : nm < 7) (hq : q < 7) (hm : m < 128) : EvM (k + 2) M_X0_costs [.ref 28, .ref 5, .int (nI nm), .int (nI q), .int (nI m)] σ (fun r τ => τ = σ ∧ r = some (.int (costS (cF σ 5) (gA σ 30) nm q m))) := by
  have hfar := ev_far k σ 5 (Or.inl rfl) q nm hq hnm
  obtain ⟨o1, o2⟩ := or_nI m hm q hq
  have hb := bt_nI m hm q hq
  generalize cF σ 5 = F at *
  refine EvM.of mk_X0_costs (Nat.le_of_ble_eq_true rfl) ?_
  refine wpW K_X0_costs [] 40 ?_
  have no : ¬ (¬ q = nm ∧ m / 2 ^ q % 2 = 0) → costS F (gA σ 30) nm q m = 1000 := fun h => by rw [costS, if_neg h]
  refine ⟨fun h => ⟨fun _ => ⟨rfl, ?_⟩, fun h2 => absurd rfl h2⟩, fun h => ⟨fun h2 => ⟨fun _ => ⟨rfl, ?_⟩, fun h3 => absurd rfl h3⟩, fun h2 => ⟨fun h3 => absurd h3 (by decide), fun _ => ⟨_, hfar, ?_⟩⟩⟩⟩
  · rw [eq_of_nI (by omega) (by omega)] at h
    rw [no (fun c => c.1 h)]
  · rw [hb] at h2
    rw [no (fun c => h2 (by rw [c.2]; rfl))]
  · rw [eq_of_nI (by omega) (by omega)] at h
    rw [hb, show (0 : Int32) = nI 0 from rfl, eq_of_nI (by omega) (by omega)] at h2
    rintro z ω ⟨h9, rfl⟩
    obtain rfl := h9.symm
    refine ⟨by rw [o1]; exact in128 o2, rfl, ?_⟩
    rw [o1, nI_clamp (by omega), costS, if_pos ⟨h, h2⟩]
def cheapS (F : FS) (g : Nat → Int32) (nm m : Nat) : Nat → Nat → Nat
  | 0, _ => 0
  | c + 1, q => if costS F g nm q m = g m then q else cheapS F g nm m c (q + 1)
theorem ev_cheapest (k : Nat) (σ : Sto) (hc : cOK σ 5) (nm m : Nat) (hnm : nm < 7) (hm : m < 128) : EvM (k + 3) M_X0_cheapest [.ref 28, .ref 5, .int (nI nm), .int (nI m)] σ (fun r τ => τ = σ ∧ r = some (.int (nI (cheapS (cF σ 5) (gA σ 30) nm m (fN (cF σ 5)) 0)))) := by
  have hcost := fun q hq => ev_costs k σ nm q m hnm hq hm
  obtain ⟨hn, h7, -⟩ := hc
  generalize cF σ 5 = F at *
  refine EvM.of mk_X0_cheapest (Nat.le_of_ble_eq_true rfl) ?_
  refine wpW K_X0_cheapest [3] 10 ?_
  refine loopI (α := Unit) 3 (fun q _ => [some (.ref 28), some (.ref 5), some (.int (nI nm)), some (.int (nI m)), some (.int (nI q))]) (fun _ => σ) (fun q _ => cheapS F (gA σ 30) nm m (fN F - q) q = cheapS F (gA σ 30) nm m (fN F) 0) (fN F) ?_ ?_ 0 () (Nat.zero_le _) rfl
  · rintro q - hq hI go
    obtain ⟨c, hc1⟩ : ∃ c, fN F - q = c + 1 := ⟨fN F - q - 1, by omega⟩
    have hc2 : fN F - (q + 1) = c := by omega
    rw [hc1, cheapS] at hI
    refine wpW K_X0_cheapest [3] 40 ?_
    refine ⟨fun h => ?_, fun _ => ⟨_, hcost q (by omega), ?_⟩⟩
    · rw [hn, le_of_nI (by omega) (by omega)] at h; omega
    · rintro z ω ⟨h9, rfl⟩
      obtain rfl := h9.symm
      refine ⟨in128 hm, ?_⟩
      rw [nI_clamp (by omega), show (28 : Nat) + 2 = 30 from rfl]
      refine ⟨fun e => ?_, fun e => ⟨rfl, ?_⟩⟩
      · rw [if_neg e] at hI
        exact go () _ _ (by rw [← nI_1 q]; rfl) rfl (by rw [hc2]; exact hI)
      · rw [if_pos e] at hI
        rw [← hI]
  · rintro - hI
    rw [Nat.sub_self, cheapS] at hI
    refine wpW K_X0_cheapest [3] 40 ?_
    refine ⟨fun h => ⟨rfl, by rw [← hI]; rfl⟩, fun h => ?_⟩
    rw [hn, le_of_nI (by omega) (by omega)] at h; omega
def lstI (F : FS) (m : Nat) (g : Nat → Int32) (q : Nat) : Nat → Int32 := upd g m (minS (g m) (costS F g (pcN m) q m))
def lstO (F : FS) (m : Nat) (g : Nat → Int32) : Nat → Int32 := fo (fun q g => lstI F m g q) (upd g m 1000) (fN F)
def lstS (F : FS) (g : Nat → Int32) (t : Nat) : Nat → Int32 := fo (fun t g => lstO F (2 ^ fN F - 1 - t - 1) g) (upd g (2 ^ fN F - 1) 0) t
def pickS (F : FS) (g : Nat → Int32) (a : (Nat → Int32) × Nat) (nm : Nat) : (Nat → Int32) × Nat := (upd a.1 nm (nI (cheapS F g nm a.2 (fN F) 0)), a.2 ||| 2 ^ cheapS F g nm a.2 (fN F) 0)
theorem cheap_lt (F : FS) (g : Nat → Int32) (nm m : Nat) : ∀ c q, c + q ≤ 7 → 0 < 7 → cheapS F g nm m c q < 7 := by
  intro c
  induction c with
  | zero => intro q _ h; exact h
  | succ c ih =>
    intro q h1 h2
    unfold cheapS
    split
    · omega
    · exact ih (q + 1) (by omega) h2
def picksS (F : FS) (g r : Nat → Int32) (t : Nat) : (Nat → Int32) × Nat := fo (fun nm a => pickS F g a nm) (r, 0) t
theorem ev_sharesMouths (k : Nat) (σ : Sto) (hc : cOK σ 5) : EvM (k + 4) M_X0_sharesMouths [.ref 28, .ref 5] σ (fun r τ => r = some (.int (lstS (cF σ 5) (gA σ 30) (2 ^ fN (cF σ 5) - 1) 0)) ∧ gA τ 29 = (picksS (cF σ 5) (lstS (cF σ 5) (gA σ 30) (2 ^ fN (cF σ 5) - 1)) (gA σ 29) (fN (cF σ 5))).1 ∧ Fr [29, 30] σ τ) := by
  have hcost : ∀ τ nm q m, Fr [29, 30] σ τ → nm < 7 → q < 7 → m < 128 → EvM (k + 3) M_X0_costs [.ref 28, .ref 5, .int (nI nm), .int (nI q), .int (nI m)] τ (fun r υ => υ = τ ∧ r = some (.int (costS (cF σ 5) (gA τ 30) nm q m))) := by
    intro τ nm q m h h1 h2 h3
    have := ev_costs (k + 1) τ nm q m h1 h2 h3
    rw [cF_fr (f := 5) h (by decide)] at this
    exact this
  have hcheap : ∀ τ nm m, Fr [29, 30] σ τ → nm < 7 → m < 128 → EvM (k + 3) M_X0_cheapest [.ref 28, .ref 5, .int (nI nm), .int (nI m)] τ (fun r υ => υ = τ ∧ r = some (.int (nI (cheapS (cF σ 5) (gA τ 30) nm m (fN (cF σ 5)) 0)))) := by
    intro τ nm m h h1 h3
    have := ev_cheapest k τ (cOK_fr h (by decide) hc) nm m h1 h3
    rw [cF_fr (f := 5) h (by decide)] at this
    exact this
  have hsz : ∀ τ, Fr [29, 30] σ τ → gI τ 5 5 = nI (fN (cF σ 5)) := fun τ h => by rw [h.I (by decide)]; exact hc.1
  have h7 := hc.2.1
  generalize cF σ 5 = F at *
  generalize hn : fN F = n at *
  have hp := pow7 h7
  have ha := all_nI n h7
  generalize hN : 2 ^ n - 1 = N at *
  have hN128 : N < 128 := by omega
  refine EvM.of mk_X0_sharesMouths (Nat.le_of_ble_eq_true rfl) ?_
  -- the picks
  have L3 : ∀ τ x5, gA τ 30 = lstS F (gA σ 30) N → gA τ 29 = gA σ 29 → Fr [29, 30] σ τ → WW M_X0_sharesMouths (k + 4) (fun r τ => r = some (.int (lstS F (gA σ 30) N 0)) ∧ gA τ 29 = (picksS F (lstS F (gA σ 30) N) (gA σ 29) n).1 ∧ Fr [29, 30] σ τ) 93 [some (.ref 28), some (.ref 5), some (.int (nI N)), some (.int (nI 0)), some (.int (nI 0)), x5] [] τ := by
    intro τ x5 hg hr hfr
    generalize lstS F (gA σ 30) N = G at *
    refine loopI (α := Sto × Nat) 93 (fun nm a => [some (.ref 28), some (.ref 5), some (.int (nI N)), some (.int (nI a.2)), some (.int (nI nm)), x5]) (fun a => a.1) (fun nm a => gA a.1 30 = G ∧ (gA a.1 29, a.2) = picksS F G (gA σ 29) nm ∧ a.2 < 128 ∧ Fr [29, 30] σ a.1) n ?_ ?_ 0 (τ, 0) (Nat.zero_le _) ⟨hg, by rw [hr]; rfl, by omega, hfr⟩
    · rintro nm ⟨υ, m⟩ hnm ⟨k1, k2, k3, k4⟩ go
      simp only at k1 k2 k3 k4
      have hq : cheapS F G nm m n 0 < 7 := cheap_lt F G nm m n 0 (by omega) (by omega)
      obtain ⟨o1, o2⟩ := or_nI m k3 _ hq
      refine wpW K_X0_sharesMouths [93] 40 ?_
      refine ⟨fun h => ?_, fun _ => ⟨_, hcheap υ nm m k4 (by omega) k3, ?_⟩⟩
      · rw [hsz υ k4, le_of_nI (by omega) (by omega)] at h; omega
      · rw [k1]
        rintro z ω ⟨h9, rfl⟩
        obtain rfl := h9.symm
        refine ⟨in7 (by omega), in7 (by omega), ?_⟩
        rw [show (28 : Nat) + 1 = 29 from rfl, gA_eq, nI_clamp (by omega), pk_us]
        refine go (_, m ||| 2 ^ cheapS F G nm m n 0) _ _ (by rw [← nI_1 nm, ← o1]; rfl) rfl ⟨k1, ?_, o2, Fr.sA k4 (by simp)⟩
        show (gA (sA υ 29 _) 29, _) = pickS F G (picksS F G (gA σ 29) nm) nm
        rw [← k2, gA_eq, pickS, hn]
    · rintro ⟨υ, m⟩ ⟨k1, k2, k3, k4⟩
      simp only at k1 k2 k3 k4
      refine wpW K_X0_sharesMouths [93] 40 ?_
      refine ⟨fun h => ⟨in128 (i := 0) (by decide), ?_, by rw [← k2], k4⟩, fun h => ?_⟩
      · show some (Value.int (gA υ 30 0)) = _
        rw [k1]
      · rw [hsz υ k4, le_of_nI (by omega) (by omega)] at h; omega
  -- the sets
  have L1 : WW M_X0_sharesMouths (k + 4) (fun r τ => r = some (.int (lstS F (gA σ 30) N 0)) ∧ gA τ 29 = (picksS F (lstS F (gA σ 30) N) (gA σ 29) n).1 ∧ Fr [29, 30] σ τ) 20 [some (.ref 28), some (.ref 5), some (.int (nI N)), some (.int (nI (N - 0) - 1)), none, none] [] (sA σ 30 (upd (gA σ 30) N 0)) := by
    refine loopI (α := (Nat → Int32) × Option Value × Option Value) 20 (fun t a => [some (.ref 28), some (.ref 5), some (.int (nI N)), some (.int (nI (N - t) - 1)), a.2.1, a.2.2]) (fun a => sA σ 30 a.1) (fun t a => a.1 = lstS F (gA σ 30) t) N ?_ ?_ 0 (upd (gA σ 30) N 0, none, none) (Nat.zero_le _) (by rw [lstS, fo, hn, hN])
    · rintro t ⟨g, y4, y5⟩ ht hI go
      simp only at hI
      obtain ⟨m, hm⟩ : ∃ m, N - t = m + 1 := ⟨N - t - 1, by omega⟩
      have hmN : m < N := by omega
      have hnt : N - (t + 1) = m := by omega
      have cm : (nI m).toNatClampNeg = m := nI_clamp (by omega)
      have estep : lstS F (gA σ 30) (t + 1) = lstO F m g := by
        show lstO F (2 ^ fN F - 1 - t - 1) (lstS F (gA σ 30) t) = _
        rw [← hI, hn, hN, hm]; rfl
      have hpc : pcN m < n := pc_lt n h7 m (by rw [hN]; exact hmN)
      simp only [hm, nI_pred]
      have LI : WW M_X0_sharesMouths (k + 4) (fun r τ => r = some (.int (lstS F (gA σ 30) N 0)) ∧ gA τ 29 = (picksS F (lstS F (gA σ 30) N) (gA σ 29) n).1 ∧ Fr [29, 30] σ τ) 42 [some (.ref 28), some (.ref 5), some (.int (nI N)), some (.int (nI m)), some (.int (nI (pcN m))), some (.int (nI 0))] [] (sA σ 30 (upd g m 1000)) := by
        refine loopI (α := Nat → Int32) 42 (fun q a => [some (.ref 28), some (.ref 5), some (.int (nI N)), some (.int (nI m)), some (.int (nI (pcN m))), some (.int (nI q))]) (fun a => sA σ 30 a) (fun q a => a = fo (fun q g => lstI F m g q) (upd g m 1000) q) n ?_ ?_ 0 (upd g m 1000) (Nat.zero_le _) rfl
        · intro q f hq hII go2
          have hfr : Fr [29, 30] σ (sA σ 30 f) := Fr.rf.sA (by simp)
          refine wpW K_X0_sharesMouths [20, 42] 60 ?_
          refine ⟨fun h => ?_, fun _ => ⟨in128 (by omega), ⟨_, hcost _ (pcN m) q m hfr (by omega) (by omega) (by omega), ?_⟩⟩⟩
          · rw [hsz _ hfr, le_of_nI (by omega) (by omega)] at h; omega
          · rintro z ω ⟨h9, rfl⟩
            obtain rfl := h9.symm
            refine ⟨in128 (by omega), ?_⟩
            rw [show (28 : Nat) + 2 = 30 from rfl, gA_eq, sA_sA, cm]
            exact go2 (lstI F m f q) _ _ (by rw [← nI_1 q]; rfl) rfl (by rw [fo, ← hII])
        · intro f hII
          have hf : f = lstO F m g := by rw [lstO, hn]; exact hII
          have hfr : Fr [29, 30] σ (sA σ 30 f) := Fr.rf.sA (by simp)
          refine wpW K_X0_sharesMouths [20, 42] 60 ?_
          refine ⟨fun h => ?_, fun h => ?_⟩
          · refine go (f, some (.int (nI (pcN m))), some (.int (nI n))) _ _ ?_ rfl (by rw [estep, hf])
            rw [hnt, ← dn_lit]; rfl
          · rw [hsz _ hfr, le_of_nI (by omega) (by omega)] at h; omega
      refine wpW K_X0_sharesMouths [20, 42] 60 ?_
      refine ⟨fun h => absurd h (nI_pos (by omega)), fun _ => ⟨in128 (by omega), ⟨_, ev_bc _ _ _, ?_⟩⟩⟩
      rw [bc_nI m (by omega), show (28 : Nat) + 2 = 30 from rfl, gA_eq, sA_sA, cm]
      rintro z ω ⟨h9, rfl⟩
      obtain rfl := h9.symm
      exact LI
    · rintro ⟨g, y4, y5⟩ hI
      simp only at hI
      simp only [Nat.sub_self]
      refine wpW K_X0_sharesMouths [20, 93] 60 ?_
      refine ⟨fun h => L3 _ _ ?_ rfl (Fr.rf.sA (by simp)), fun h => absurd (by decide) h⟩
      rw [gA_eq, hI]
  have e0 : (1 : Int32) <<< (gI σ 5 5 &&& 31) - 1 = nI N := by rw [hsz σ Fr.rf]; exact ha
  refine wpW K_X0_sharesMouths [20] 40 ?_
  rw [Nat.sub_zero] at L1
  refine ⟨by rw [e0]; exact in128 hN128, ?_⟩
  show WW M_X0_sharesMouths _ _ 20 _ _ _
  rw [e0, nI_clamp (by omega)]
  exact L1
