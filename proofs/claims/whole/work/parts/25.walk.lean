/-! walks -/
def rL (f : Nat → Int64) : Nat → Int64 := fun i => if i < 10 then f i else 0
theorem rL_lt {f : Nat → Int64} {i : Nat} (h : i < 10) : rL f i = f i := if_pos h
theorem rL_upd {f : Nat → Int64} {i : Nat} {x : Int64} (h : i < 10) : rL (vp_updL f i x) = vp_updL (rL f) i x := by
  funext j
  unfold rL vp_updL
  by_cases hj : j = i
  · subst hj; simp [h]
  · simp [hj]
def w0S (x : Int32) : Nat → Int64 := rL (fun i => if nI i = x then 1 else 0)
def wstS (p : Int32) (f : Nat → Int64) (i : Nat) (g : Nat → Int64) : Nat → Int64 := vp_updL (vp_updL g (min 9 (i + 1)) (g (min 9 (i + 1)) + f i * p.toInt64)) (i - 1) (vp_updL g (min 9 (i + 1)) (g (min 9 (i + 1)) + f i * p.toInt64) (i - 1) + f i * (10 - p).toInt64)
def wnxS (p : Int32) (f : Nat → Int64) : Nat → Int64 := fo (wstS p f) (fun _ => 0) 10
def walkS (x p : Int32) (n : Nat) : Nat → Int64 := fo (fun _ f => wnxS p f) (w0S x) n
theorem gJ_eq {σ : Sto} {a : Nat} {f : Nat → Int64} : gJ (sJ σ a f) a = f := if_pos rfl
theorem gJ_ne {σ : Sto} {a x : Nat} {f : Nat → Int64} (h : x ≠ a) : gJ (sJ σ a f) x = gJ σ x := if_neg h
theorem min9 {i : Nat} (h : i < 10) : (if nI i + 1 < 9 then nI i + 1 else 9) = nI (min 9 (i + 1)) := by
  rw [nI_1, show (9 : Int32) = nI 9 from rfl]
  by_cases q : i + 1 < 9
  · rw [if_pos ((lt_of_nI (by omega) (by omega)).mpr q), Nat.min_eq_right (by omega)]
  · rw [if_neg (fun z => q ((lt_of_nI (by omega) (by omega)).mp z)), Nat.min_eq_left (by omega)]
theorem max0 {i : Nat} (h : i < 10) : (if 0 < nI i - 1 then nI i - 1 else 0) = nI (i - 1) := by
  cases i with
  | zero => decide
  | succ i =>
    rw [nI_pred, show (0 : Int32) = nI 0 from rfl]
    by_cases q : 0 < i
    · rw [if_pos ((lt_of_nI (by omega) (by omega)).mpr q)]; rfl
    · rw [if_neg (fun z => q ((lt_of_nI (by omega) (by omega)).mp z))]
      congr 1; omega
theorem cpyL (f g : Nat → Int64) : rL (va_cpy f g (0 : Int32).toNatClampNeg (0 : Int32).toNatClampNeg (10 : Int32).toNatClampNeg) = rL f := by
  funext i
  unfold rL
  by_cases h : i < 10
  · rw [if_pos h, if_pos h]
    show va_cpy f g 0 0 10 i = f i
    rw [pk_cpy_in (by omega) (by omega)]
    congr 1
    omega
  · rw [if_neg h, if_neg h]
theorem ev_walked (k : Nat) (σ : Sto) (x p : Int32) (n y : Nat) (hn : n ≤ 12) (hy : y < 10) : EvM (k + 1) M_X4_walked [.ref 41, .int x, .int (nI n), .int p, .int (nI y)] σ (fun r τ => r = some (.long (walkS x p n y)) ∧ Fr [42, 43] σ τ) := by
  refine EvM.of mk_X4_walked (Nat.le_of_ble_eq_true rfl) ?_
  -- the outer loop
  have L2 : ∀ τ y6, rL (gJ τ 42) = w0S x → Fr [42, 43] σ τ → WW M_X4_walked (k + 1) (fun r τ => r = some (.long (walkS x p n y)) ∧ Fr [42, 43] σ τ) 37 [some (.ref 41), some (.int x), some (.int (nI n)), some (.int p), some (.int (nI y)), some (.int (nI 0)), y6] [] τ := by
    intro τ y6 hf hfr
    refine loopI (α := Sto × Option Value) 37 (fun i a => [some (.ref 41), some (.int x), some (.int (nI n)), some (.int p), some (.int (nI y)), some (.int (nI i)), a.2]) (fun a => a.1) (fun i a => rL (gJ a.1 42) = walkS x p i ∧ Fr [42, 43] σ a.1) n ?_ ?_ 0 (τ, y6) (Nat.zero_le _) ⟨hf, hfr⟩
    · rintro i ⟨υ, z6⟩ hi ⟨hI, hfr2⟩ go
      simp only at hI hfr2
      generalize hF : walkS x p i = F at hI
      -- the sums
      have LB : ∀ ω, rL (gJ ω 42) = F → rL (gJ ω 43) = (fun _ => 0) → Fr [42, 43] σ ω → WW M_X4_walked (k + 1) (fun r τ => r = some (.long (walkS x p n y)) ∧ Fr [42, 43] σ τ) 70 [some (.ref 41), some (.int x), some (.int (nI n)), some (.int p), some (.int (nI y)), some (.int (nI i)), some (.int (nI 0))] [] ω := by
        intro ω h1 h2 h3
        refine loopI (α := Sto) 70 (fun j a => [some (.ref 41), some (.int x), some (.int (nI n)), some (.int p), some (.int (nI y)), some (.int (nI i)), some (.int (nI j))]) (fun a => a) (fun j a => rL (gJ a 42) = F ∧ rL (gJ a 43) = fo (wstS p F) (fun _ => 0) j ∧ Fr [42, 43] σ a) 10 ?_ ?_ 0 ω (Nat.zero_le _) ⟨h1, h2, h3⟩
        · intro j ζ hj hII go2
          obtain ⟨q1, q2, q3⟩ := hII
          have cj : (nI j).toNatClampNeg = j := nI_clamp (by omega)
          have cm : (nI (min 9 (j + 1))).toNatClampNeg = min 9 (j + 1) := nI_clamp (by omega)
          have cp : (nI (j - 1)).toNatClampNeg = j - 1 := nI_clamp (by omega)
          refine wpW K_X4_walked [37, 70, 90] 40 ?_
          refine ⟨fun h => ?_, fun _ => ?_⟩
          · rw [show (10 : Int32) = nI 10 from rfl, le_of_nI (by omega) (by omega)] at h; omega
          · show WW M_X4_walked _ _ 90 _ _ _
            rw [min9 hj]
            refine wpW K_X4_walked [37, 70, 116] 40 ?_
            refine ⟨in10 (by omega), in10 hj, in10 (by omega), ?_⟩
            show WW M_X4_walked _ _ 116 _ _ _
            rw [max0 hj]
            refine wpW K_X4_walked [37, 70] 40 ?_
            refine ⟨in10 (by omega), in10 hj, in10 (by omega), ?_⟩
            rw [cj, cm, cp, show (41 : Nat) + 1 = 42 from rfl, show (41 : Nat) + 2 = 43 from rfl]
            refine go2 _ _ _ (by rw [← nI_1]; rfl) rfl ⟨?_, ?_, (Fr.sJ q3 (by simp)).sJ (by simp)⟩
            · rw [gJ_ne (by decide), gJ_ne (by decide)]; exact q1
            · rw [gJ_eq, gJ_eq, gJ_ne (by decide), rL_upd (by omega), rL_upd (by omega), fo, ← q2, ← q1, wstS, rL_lt (f := gJ ζ 42) (by omega), rL_lt (f := gJ ζ 43) (by omega), ← rL_upd (f := gJ ζ 43) (by omega), rL_lt (f := vp_updL _ _ _) (by omega)]
        · intro ζ hII
          obtain ⟨q1, q2, q3⟩ := hII
          refine wpW K_X4_walked [37, 70] 40 ?_
          refine ⟨fun h => ⟨⟨by decide, by decide, by decide, by decide, by decide⟩, ?_⟩, fun h => absurd (by decide) h⟩
          refine go (_, some (.int (nI 10))) _ _ (by rw [← nI_1 i]; rfl) rfl ⟨?_, Fr.sJ q3 (by simp)⟩
          show rL (gJ (sJ ζ 42 _) 42) = _
          rw [gJ_eq, cpyL]
          show rL (gJ ζ 43) = _
          rw [q2]
          show _ = wnxS p (walkS x p i)
          rw [hF]; rfl
      -- zeros
      refine wpW K_X4_walked [37, 46] 40 ?_
      refine ⟨fun h => ?_, fun _ => ?_⟩
      · rw [le_of_nI (by omega) (by omega)] at h; omega
      · refine loopI (α := Sto) 46 (fun j a => [some (.ref 41), some (.int x), some (.int (nI n)), some (.int p), some (.int (nI y)), some (.int (nI i)), some (.int (nI j))]) (fun a => a) (fun j a => rL (gJ a 42) = F ∧ (∀ q, q < j → gJ a 43 q = 0) ∧ Fr [42, 43] σ a) 10 ?_ ?_ 0 υ (Nat.zero_le _) ⟨hI, fun q hq => by omega, hfr2⟩
        · intro j ζ hj hII go2
          obtain ⟨q1, q2, q3⟩ := hII
          refine wpW K_X4_walked [37, 46] 40 ?_
          refine ⟨fun h => ?_, fun _ => ⟨in10 hj, ?_⟩⟩
          · rw [show (10 : Int32) = nI 10 from rfl, le_of_nI (by omega) (by omega)] at h; omega
          · refine go2 _ _ _ (by rw [← nI_1]; rfl) rfl ⟨q1, fun q hq => ?_, Fr.sJ q3 (by simp)⟩
            show vp_updL (gJ ζ 43) (nI j).toNatClampNeg 0 q = 0
            rw [nI_clamp (by omega)]
            by_cases e : q = j
            · subst e; exact pk_uLs
            · rw [pk_uLn e]; exact q2 q (by omega)
        · intro ζ hII
          obtain ⟨q1, q2, q3⟩ := hII
          refine wpW K_X4_walked [37, 46, 70] 40 ?_
          refine ⟨fun h => LB ζ q1 ?_ q3, fun h => absurd (by decide) h⟩
          funext q
          unfold rL
          by_cases e : q < 10
          · rw [if_pos e]; exact q2 q e
          · rw [if_neg e]
    · rintro ⟨υ, z6⟩ ⟨hI, hfr2⟩
      simp only at hI hfr2
      refine wpW K_X4_walked [37] 40 ?_
      refine ⟨fun h => ⟨fun h2 => absurd h2 (nI_pos (by omega)), fun _ => ⟨fun h2 => ?_, fun _ => ⟨in10 hy, ?_, hfr2⟩⟩⟩, fun h => ?_⟩
      · rw [show (10 : Int32) = nI 10 from rfl, le_of_nI (by omega) (by omega)] at h2; omega
      · show some (Value.long (gJ υ 42 (nI y).toNatClampNeg)) = _
        rw [nI_clamp (by omega), ← hI, rL_lt hy]
      · exfalso; apply h
        rw [le_of_nI (by omega) (by omega)]; omega
  -- the start
  refine wpW K_X4_walked [3] 10 ?_
  refine loopI (α := Sto) 3 (fun j a => [some (.ref 41), some (.int x), some (.int (nI n)), some (.int p), some (.int (nI y)), some (.int (nI j)), none]) (fun a => a) (fun j a => (∀ q, q < j → gJ a 42 q = w0S x q) ∧ Fr [42, 43] σ a) 10 ?_ ?_ 0 σ (Nat.zero_le _) ⟨fun q hq => by omega, Fr.rf⟩
  · intro j ζ hj hII go2
    obtain ⟨q2, q3⟩ := hII
    have cj : (nI j).toNatClampNeg = j := nI_clamp (by omega)
    refine wpW K_X4_walked [3] 40 ?_
    refine ⟨fun h => ?_, fun _ => ⟨fun c => ⟨in10 hj, ?_⟩, fun c => ⟨in10 hj, ?_⟩⟩⟩
    · rw [show (10 : Int32) = nI 10 from rfl, le_of_nI (by omega) (by omega)] at h; omega
    · refine go2 _ _ _ (by rw [← nI_1]; rfl) rfl ⟨fun q hq => ?_, Fr.sJ q3 (by simp)⟩
      show vp_updL (gJ ζ 42) (nI j).toNatClampNeg 0 q = _
      rw [cj]
      by_cases e : q = j
      · subst e; rw [pk_uLs, w0S, rL_lt hj, if_neg c]
      · rw [pk_uLn e]; exact q2 q (by omega)
    · refine go2 _ _ _ (by rw [← nI_1]; rfl) rfl ⟨fun q hq => ?_, Fr.sJ q3 (by simp)⟩
      show vp_updL (gJ ζ 42) (nI j).toNatClampNeg 1 q = _
      rw [cj]
      by_cases e : q = j
      · subst e; rw [pk_uLs, w0S, rL_lt hj, if_pos c]
      · rw [pk_uLn e]; exact q2 q (by omega)
  · intro ζ hII
    obtain ⟨q2, q3⟩ := hII
    refine wpW K_X4_walked [3, 37] 40 ?_
    refine ⟨fun h => L2 ζ _ ?_ q3, fun h => absurd (by decide) h⟩
    funext q
    by_cases e : q < 10
    · rw [rL_lt e]; exact q2 q e
    · unfold w0S rL; rw [if_neg e, if_neg e]
