/-! the model's call: brings -/
def tF (τ : Sto) (n : Nat) : FS := mG (gI τ 52 1).toNatClampNeg (r7 (gA τ 54)) (fun i => gA τ 65 (30 * n + i))
def lBr : List Nat := [60, 63, 65, 66]
theorem eg_can (ev : (Nat → Int32) → Int32) (F : FS) (nm : Nat) (h : Option Nat) (s : Int32) (q : Nat) : canS ev (wSd (egW F nm h) s) q nm = egS ev F nm h q := rfl
theorem eg_n (F : FS) (nm : Nat) (h : Option Nat) (s : Int32) : fN (wSd (egW F nm h) s) = fN F := by cases h <;> rfl
theorem eg_say (F : FS) (nm : Nat) (h : Option Nat) (s : Int32) (q : Nat) : sayF (wSd (egW F nm h) s) q nm = wSd (egW F nm (some q)) (minS 9999 (s + 1)) := by
  obtain ⟨n, pl, vo, pu, ho, ag, dy, sd⟩ := F
  cases h with
  | none => rfl
  | some h =>
    show ((n, pl, vo, pu, upd (upd ho nm (nI h)) nm (nI q), upd (upd ag nm 0) nm 0, dy, minS 9999 (s + 1)) : FS) = (n, pl, vo, pu, upd ho nm (nI q), upd ag nm 0, dy, minS 9999 (s + 1))
    rw [upd2, upd2]
theorem eg_ok {F : FS} (hF : fsOK F) {nm : Nat} {h : Option Nat} (hh : ∀ h', h = some h' → h' < fN F) (s : Int32) : fsOK (wSd (egW F nm h) s) := by
  cases h with
  | none => exact hF
  | some h => exact fs_ho2 (F := wAg F (upd (fAg F) nm 0)) hF (hh h rfl)
theorem eg_tg (F : FS) {nm one : Nat} (h1 : one ≤ 1024) {h : Option Nat} (hh : ∀ h', h = some h' → h' ≤ 1024) (s : Int32) : fHo (wSd (egW F nm h) s) nm = nI one ↔ tgS F nm one h = true := by
  cases h with
  | none => exact decide_eq_true_iff.symm
  | some h =>
    show upd (fHo F) nm (nI h) nm = nI one ↔ decide (h = one) = true
    rw [pk_us, eq_of_nI (hh h rfl) h1, decide_eq_true_eq]
theorem tF_cg {τ υ : Sto} {n : Nat} (h1 : gI υ 52 1 = gI τ 52 1) (h2 : gA υ 54 = gA τ 54) (h3 : ∀ i, i < 30 * (n + 1) → gA υ 65 i = gA τ 65 i) : tF υ n = tF τ n := by
  unfold tF
  rw [h1, h2]
  exact mG_cg (fun j hj => h3 _ (by omega))
theorem ev_canBring (k : Nat) {σ : Sto} {A : AS} (hb : MVc σ A) (nm one : Nat) (hnm : nm < fN A.F) (hone : one < fN A.F) : ∀ l n h s τ, n + l ≤ 4 → (∀ h', h = some h' → h' < fN A.F) → FM lBr jQ σ τ → tF τ n = wSd (egW A.F nm h) s → EvM (k + 262 + l) M_X12_canBring [.ref 52, .int (nI n), .int (nI l), .int (nI nm), .int (nI one)] τ (fun v υ => FM lBr jQ σ υ ∧ (∀ i, i < 30 * (n + 1) → gA υ 65 i = gA τ 65 i) ∧ (∀ i, i < n → gA υ 66 i = gA τ 66 i) ∧ v = some (.int (bI (dfS A.ev A.F nm one l h).isSome)) ∧ ∀ p, dfS A.ev A.F nm one l h = some p → ∀ i, i < l → gA υ 66 (n + i) = nI (p.getD i 0)) := by
  have h7 := hb.n7
  intro l
  induction l with
  | zero =>
    intro n h s τ hnl hh f ht
    have e14 : gA τ 65 (30 * nI n + 14 + nI nm).toNatClampNeg = fHo (tF τ n) nm := by
      rw [show (30 : Int32) = nI 30 from rfl, mul_nI, show (14 : Int32) = nI 14 from rfl, add_nI, add_nI, nI_clamp (by omega)]
      have : fHo (tF τ n) nm = gA τ 65 (30 * n + (14 + nm)) := (r7_lt (by omega) : r7 (fun i => gA τ 65 (30 * n + (14 + i))) nm = _)
      rw [this]
      congr 1
      omega
    have v14 : vp_in (30 * nI n + 14 + nI nm) 150 := by
      rw [show (30 : Int32) = nI 30 from rfl, mul_nI, show (14 : Int32) = nI 14 from rfl, add_nI, add_nI]
      exact inN (by omega) (by omega)
    have htg := eg_tg A.F (nm := nm) (one := one) (by omega) (fun h' e => by have := hh h' e; omega) s (h := h)
    rw [← ht, ← e14] at htg
    have hdf : dfS A.ev A.F nm one 0 h = if tgS A.F nm one h then some [] else none := rfl
    refine EvM.of mk_X12_canBring (Nat.le_of_ble_eq_true rfl) ?_
    refine wpW K_X12_canBring [] 30 ?_
    refine ⟨fun e => absurd rfl e, fun _ => ⟨v14, fun e => ⟨Or.inl rfl, f, fun _ _ => rfl, fun _ _ => rfl, ?_, fun p _ i hi => by omega⟩, fun e => ⟨Or.inr rfl, f, fun _ _ => rfl, fun _ _ => rfl, ?_, fun p _ i hi => by omega⟩⟩⟩
    · rw [hdf, if_neg (fun z => e (htg.mpr z))]; rfl
    · rw [hdf, if_pos (htg.mp e)]; rfl
  | succ l ih =>
    intro n h s τ hnl hh f ht
    refine EvM.of mk_X12_canBring (Nat.le_of_ble_eq_true rfl) ?_
    generalize hT : dfS A.ev A.F nm one (l + 1) h = T
    have hT' : T = fstS (fun q => if egS A.ev A.F nm h q then (dfS A.ev A.F nm one l (some q)).map (fun p => q :: p) else none) (fN A.F) 0 := hT.symm
    refine wpW K_X12_canBring [29] 20 ?_
    refine ⟨fun _ => ?_, fun e => absurd e (nI_ne0 (by omega) (by omega))⟩
    show WW _ _ _ 29 [some (.ref 52), some (.int (nI n)), some (.int (nI (l + 1))), some (.int (nI nm)), some (.int (nI one)), none, none] [] τ
    refine wpW K_X12_canBring [32] 20 ?_
    show WW _ _ _ 32 [some (.ref 52), some (.int (nI n)), some (.int (nI (l + 1))), some (.int (nI nm)), some (.int (nI one)), some (.int (nI 0)), none] [] τ
    refine loopI (α := Sto × Option Value) 32 (fun q a => [some (.ref 52), some (.int (nI n)), some (.int (nI (l + 1))), some (.int (nI nm)), some (.int (nI one)), some (.int (nI q)), a.2]) (fun a => a.1) (fun q a => FM lBr jQ σ a.1 ∧ (∀ i, i < 30 * (n + 1) → gA a.1 65 i = gA τ 65 i) ∧ (∀ i, i < n → gA a.1 66 i = gA τ 66 i) ∧ T = fstS (fun q => if egS A.ev A.F nm h q then (dfS A.ev A.F nm one l (some q)).map (fun p => q :: p) else none) (fN A.F - q) q) (fN A.F) ?_ ?_ 0 (τ, none) (Nat.zero_le _) ⟨f, fun _ _ => rfl, fun _ _ => rfl, hT'⟩
    · rintro q ⟨υ, o⟩ hq ⟨fu, k65, k66, hI⟩ go
      simp only at fu k65 k66 hI ⊢
      have hn : gI υ 52 1 = nI (fN A.F) := (fu.i 1 (by decide)).trans hb.n
      have htu : tF υ n = wSd (egW A.F nm h) s := by
        rw [tF_cg ((fu.i 1 (by decide)).trans (f.i 1 (by decide)).symm) ((fu.a 54 (by decide)).trans (f.a 54 (by decide)).symm) k65]
        exact ht
      rw [show fN A.F - q = (fN A.F - (q + 1)) + 1 by omega, fstS] at hI
      -- behind the copy
      have main : ∀ g : Nat → Int32, (∀ i, i < 30 → g i = gA υ 65 (30 * n + i)) → WW M_X12_canBring (k + 262 + (l + 1)) (fun v υ => FM lBr jQ σ υ ∧ (∀ i, i < 30 * (n + 1) → gA υ 65 i = gA τ 65 i) ∧ (∀ i, i < n → gA υ 66 i = gA τ 66 i) ∧ v = some (.int (bI T.isSome)) ∧ ∀ p, T = some p → ∀ i, i < l + 1 → gA υ 66 (n + i) = nI (p.getD i 0)) 76 [some (.ref 52), some (.int (nI n)), some (.int (nI (l + 1))), some (.int (nI nm)), some (.int (nI one)), some (.int (nI q)), some (.int (nI 30))] [] (sA υ 63 g) := by
        intro g hg
        have fg : FM lBr jQ σ (sA υ 63 g) := fu.sA (by decide)
        have m65 : gA (sA υ 63 g) 65 = gA υ 65 := rfl
        have m66 : gA (sA υ 63 g) 66 = gA υ 66 := rfl
        have hmF : mF (sA υ 63 g) 63 = wSd (egW A.F nm h) s := by
          rw [mF_sA (Or.inr rfl), ← htu]
          exact mG_cg hg
        have hng : gI (sA υ 63 g) 52 1 = nI (fN A.F) := hn
        generalize sA υ 63 g = υ1 at fg m65 m66 hmF hng ⊢
        have hGn := eg_n A.F nm h s
        have hJ : FJ 63 υ1 υ1 (fN A.F) (wSd (egW A.F nm h) s) := ⟨hmF, ⟨by rw [hmF, hGn]; exact hng, by rw [hmF]; exact eg_ok hb.ok.1 hh s⟩, hGn, FM.rf⟩
        have hru := hb.ru.go fg (by decide) (by decide)
        have hcan := hJ.can (k + 1 + l) (Or.inr rfl) hru q nm hq hnm
        rw [show k + 1 + l + 261 = k + 262 + l by omega, eg_can] at hcan
        refine wpW K_X12_canBring [32, 128] 60 ?_
        refine ⟨_, hcan, ?_⟩
        rintro v υ2 ⟨rfl, hJ2⟩
        refine ⟨fun e => ?_, fun e => ?_⟩
        rotate_left
        · rw [bI_eq] at e
          rw [if_neg (by rw [e]; decide)] at hI
          refine go (υ2, some (.int (nI 30))) _ _ (by rw [← nI_1 q]; rfl) rfl ⟨fg.tr (hJ2.2.2.2.up _ _ (by decide) (by decide)), fun i hi => ?_, fun i hi => ?_, hI⟩
          · rw [hJ2.2.2.2.a 65 (by decide), m65]; exact k65 i hi
          · rw [hJ2.2.2.2.a 66 (by decide), m66]; exact k66 i hi
        rw [bI_ne] at e
        rw [if_pos e] at hI
        have hsay := hJ2.say (k + 261 + l) (Or.inr rfl) q nm hq hnm
        rw [show k + 261 + l + 1 = k + 262 + l by omega, eg_say] at hsay
        refine ⟨_, hsay, ?_⟩
        rintro v υ3 ⟨rfl, hJ3⟩
        have e30 : 30 * (nI n + 1) = nI (30 * (n + 1)) := by rw [nI_1 n, show (30 : Int32) = nI 30 from rfl, mul_nI]
        have hlay := ev_lay (k + 262 + l) υ3 63 65 (30 * (n + 1)) 150 (by omega) (by omega)
        rw [← e30] at hlay
        refine ⟨_, hlay, ?_⟩
        rintro v υ4 ⟨rfl, e4⟩
        have f3 : FM lBr jQ σ υ3 := fg.tr (hJ3.2.2.2.up _ _ (by decide) (by decide))
        have f4 : FM lBr jQ σ υ4 := by rw [e4]; exact f3.sA (by decide)
        have g65 : gA υ4 65 = layF (gA υ3 63) (gA υ3 65) (30 * (n + 1)) := by rw [e4, gA_eq]
        have g66 : gA υ4 66 = gA υ 66 := by
          rw [e4]
          show gA υ3 66 = _
          rw [hJ3.2.2.2.a 66 (by decide), m66]
        have g65' : gA υ3 65 = gA υ 65 := by rw [hJ3.2.2.2.a 65 (by decide), m65]
        have g63 : mG (gI υ4 52 1).toNatClampNeg (r7 (gA υ4 54)) (gA υ3 63) = wSd (egW A.F nm (some q)) (minS 9999 (s + 1)) := by
          rw [← hJ3.1, f4.i 1 (by decide), f4.a 54 (by decide)]
          unfold mF
          rw [f3.i 1 (by decide), f3.a 54 (by decide)]
        clear e4
        refine ⟨in7 (by omega), ?_⟩
        have f5 : FM lBr jQ σ (sA υ4 66 (upd (gA υ4 66) n (nI q))) := f4.sA (by decide)
        have p65 : gA (sA υ4 66 (upd (gA υ4 66) n (nI q))) 65 = layF (gA υ3 63) (gA υ3 65) (30 * (n + 1)) := g65
        have p66 : gA (sA υ4 66 (upd (gA υ4 66) n (nI q))) 66 = upd (gA υ 66) n (nI q) := by rw [gA_eq, g66]
        have t5 : tF (sA υ4 66 (upd (gA υ4 66) n (nI q))) (n + 1) = wSd (egW A.F nm (some q)) (minS 9999 (s + 1)) := by
          rw [← g63]
          unfold tF
          rw [p65]
          refine mG_cg (fun j hj => ?_)
          rw [layF, if_pos (by omega)]
          congr 1
          omega
        rw [nI_clamp (by omega)]
        show WW _ _ _ 128 [some (.ref 52), some (.int (nI n)), some (.int (nI (l + 1))), some (.int (nI nm)), some (.int (nI one)), some (.int (nI q)), some (.int (nI 30))] [] (sA υ4 66 (upd (gA υ4 66) n (nI q)))
        generalize sA υ4 66 (upd (gA υ4 66) n (nI q)) = υ5 at f5 p65 p66 t5 ⊢
        have hrec := ih (n + 1) (some q) (minS 9999 (s + 1)) υ5 (by omega) (fun h' e => by cases e; exact hq) f5 t5
        rw [← nI_1 n, ← nI_pred l] at hrec
        refine wpW K_X12_canBring [32] 60 ?_
        refine ⟨_, hrec, ?_⟩
        rintro v υ6 ⟨f6, b65, b66, rfl, b6⟩
        have c65 : ∀ i, i < 30 * (n + 1) → gA υ6 65 i = gA τ 65 i := fun i hi => by
          rw [b65 i (by omega), p65, layF, if_neg (by omega), g65']
          exact k65 i hi
        have c66 : ∀ i, i < n → gA υ6 66 i = gA τ 66 i := fun i hi => by
          rw [b66 i (by omega), p66, pk_un (by omega)]
          exact k66 i hi
        match hd : dfS A.ev A.F nm one l (some q) with
        | none =>
          rw [hd] at hI
          refine ⟨fun _ => ?_, fun e => absurd rfl e⟩
          exact go (υ6, some (.int (nI 30))) _ _ (by rw [← nI_1 q]; rfl) rfl ⟨f6, c65, c66, hI⟩
        | some p =>
          rw [hd] at hI
          have hI' : T = some (q :: p) := hI
          refine ⟨fun e => absurd (show (1 : Int32) = 0 from e) (by decide), fun _ => ⟨Or.inr rfl, f6, c65, c66, by rw [hI']; rfl, fun p' hp' i hi => ?_⟩⟩
          rw [hI'] at hp'
          cases hp'
          cases i with
          | zero =>
            show gA υ6 66 n = nI q
            rw [b66 n (by omega), p66, pk_us]
          | succ i =>
            have := b6 p hd i (by omega)
            rw [show n + (i + 1) = n + 1 + i by omega]
            exact this
      refine wpW K_X12_canBring [44] 20 ?_
      refine ⟨fun e => ?_, fun _ => ?_⟩
      · rw [hn, le_of_nI (by omega) (by omega)] at e; omega
      have start : WW M_X12_canBring (k + 262 + (l + 1)) (fun v υ => FM lBr jQ σ υ ∧ (∀ i, i < 30 * (n + 1) → gA υ 65 i = gA τ 65 i) ∧ (∀ i, i < n → gA υ 66 i = gA τ 66 i) ∧ v = some (.int (bI T.isSome)) ∧ ∀ p, T = some p → ∀ i, i < l + 1 → gA υ 66 (n + i) = nI (p.getD i 0)) 44 [some (.ref 52), some (.int (nI n)), some (.int (nI (l + 1))), some (.int (nI nm)), some (.int (nI one)), some (.int (nI q)), some (.int (nI 0))] [] (sA υ 63 (gA υ 63)) := by
        refine loopI (α := Nat → Int32) 44 (fun j _ => [some (.ref 52), some (.int (nI n)), some (.int (nI (l + 1))), some (.int (nI nm)), some (.int (nI one)), some (.int (nI q)), some (.int (nI j))]) (fun g => sA υ 63 g) (fun j g => ∀ i, i < j → g i = gA υ 65 (30 * n + i)) 30 ?_ ?_ 0 (gA υ 63) (Nat.zero_le _) (fun i hi => by omega)
        · intro j g hj hg go2
          have ej : 30 * nI n + nI j = nI (30 * n + j) := by rw [show (30 : Int32) = nI 30 from rfl, mul_nI, add_nI]
          have vj : vp_in (30 * nI n + nI j) 150 := by rw [ej]; exact inN (by omega) (by omega)
          refine wpW K_X12_canBring [44] 40 ?_
          refine ⟨fun e => ?_, fun _ => ⟨vj, inN (n := 30) hj (by omega), ?_⟩⟩
          · rw [show (30 : Int32) = nI 30 from rfl, le_of_nI (by omega) (by omega)] at e; omega
          refine go2 (upd g j (gA υ 65 (30 * n + j))) _ _ (by rw [← nI_1 j]; rfl) ?_ (fun i hi => ?_)
          · show sA (sA υ 63 g) 63 (upd (gA (sA υ 63 g) 63) (nI j).toNatClampNeg (gA (sA υ 63 g) 65 (30 * nI n + nI j).toNatClampNeg)) = _
            rw [ej, nI_clamp (by omega), nI_clamp (by omega), sA_sA, gA_eq]
            rfl
          · by_cases c : i = j
            · subst c; exact pk_us
            · rw [pk_un c]; exact hg i (by omega)
        · intro g hg
          refine wpW K_X12_canBring [76] 40 ?_
          exact ⟨fun _ => main g hg, fun e => absurd (by decide) e⟩
      rw [sA_id] at start
      exact start
    · rintro ⟨υ, o⟩ ⟨fu, k65, k66, hI⟩
      simp only at fu k65 k66 hI ⊢
      have hn : gI υ 52 1 = nI (fN A.F) := (fu.i 1 (by decide)).trans hb.n
      rw [Nat.sub_self] at hI
      have hI' : T = none := hI
      refine wpW K_X12_canBring [] 40 ?_
      refine ⟨fun _ => ⟨Or.inl rfl, fu, k65, k66, by rw [hI']; rfl, fun p hp => ?_⟩, fun e => ?_⟩
      · rw [hI'] at hp; cases hp
      · rw [hn, le_of_nI (by omega) (by omega)] at e; omega
theorem mc_brings (k : Nat) (A : AS) (x y : Int32) : MC (k + 268) M_X12_brings [.int x, .int y] A (.int (bringsC A x y).1) (bringsC A x y).2 := by
  intro σ0 hv0
  refine EvM.of mk_X12_brings (Nat.le_of_ble_eq_true rfl) ?_
  refine wpW K_X12_brings [5] 10 ?_
  obtain ⟨hv, f0⟩ := mv_t0 hv0
  show WW _ _ _ 5 [some (.ref 52), some (.int x), some (.int y), none, none] _ (t0S σ0)
  generalize t0S σ0 = σ at hv f0 ⊢
  have hb := hv.1
  have h7 := hb.n7
  generalize hC : bringsC A x y = C
  have no : (inS (fN A.F) x && inS (fN A.F) y) = false → WW M_X12_brings (k + 268) (fun w τ => w = some (.int C.1) ∧ MV τ C.2 ∧ Fr lM σ0 τ) 21 [some (.ref 52), some (.int x), some (.int y), none, none] [] σ := by
    intro c
    rw [← hC, bringsC, if_neg (by rw [c]; decide)]
    refine wpW K_X12_brings [] 10 ?_
    exact ⟨rfl, hv, f0⟩
  refine wpW K_X12_brings [21, 23] 60 ?_
  refine ⟨_, ev_isOne _ σ (fN A.F) hb.n h7 x, ?_⟩
  rintro v τ ⟨h9, rfl⟩
  obtain rfl := h9.symm
  refine ⟨fun c => no (by rw [(bI_eq _).mp c]; rfl), fun c1 => ⟨_, ev_isOne _ σ (fN A.F) hb.n h7 y, ?_⟩⟩
  rw [bI_ne] at c1
  rintro v τ ⟨h9, rfl⟩
  obtain rfl := h9.symm
  refine ⟨fun c2 => ?_, fun c => no (by rw [(bI_eq _).mp c, Bool.and_false])⟩
  rw [bI_ne] at c2
  rw [bringsC, if_pos (by rw [c1, c2]; rfl)] at hC
  obtain ⟨x1, x2⟩ := in_of h7 c1
  obtain ⟨y1, y2⟩ := in_of h7 c2
  generalize x.toNatClampNeg = nm at *
  generalize y.toNatClampNeg = one at *
  subst x2 y2
  generalize hT : brS A.ev A.F nm one = T at hC
  have hT' : T = fstS (fun l => dfS A.ev A.F nm one l none) 5 0 := hT.symm
  refine wpW K_X12_brings [37] 20 ?_
  refine ⟨_, ev_lay _ σ 53 65 0 150 (by omega) (by omega), ?_⟩
  rintro v σ1 ⟨rfl, e1⟩
  have f1 : FM lBr jQ σ σ1 := by rw [e1]; exact FM.rf.sA (by decide)
  have t1 : tF σ1 0 = A.F := by
    rw [← hb.F, e1]
    unfold tF mF
    refine mG_cg (fun j hj => ?_)
    rw [gA_eq, layF, if_pos (by omega)]
    congr 1
    omega
  clear e1
  show WW _ _ _ 37 [some (.ref 52), some (.int (nI nm)), some (.int (nI one)), some (.int (nI 0)), none] [] σ1
  refine loopI (α := Sto) 37 (fun l _ => [some (.ref 52), some (.int (nI nm)), some (.int (nI one)), some (.int (nI l)), none]) (fun a => a) (fun l a => FM lBr jQ σ a ∧ tF a 0 = A.F ∧ T = fstS (fun l => dfS A.ev A.F nm one l none) (5 - l) l) 5 ?_ ?_ 0 σ1 (Nat.zero_le _) ⟨f1, t1, hT'⟩
  · rintro l τ hl ⟨f, ht, hI⟩ go
    rw [show 5 - l = (5 - (l + 1)) + 1 by omega, fstS] at hI
    have hrec := ev_canBring (k + 5 - l) hb nm one x1 y1 l 0 none (fSd A.F) τ (by omega) (fun h' e => by cases e) f ht
    rw [show k + 5 - l + 262 + l = k + 267 by omega] at hrec
    refine wpW K_X12_brings [37, 61] 40 ?_
    refine ⟨fun e => ?_, fun _ => ⟨_, hrec, ?_⟩⟩
    · rw [show (4 : Int32) = nI 4 from rfl, lt_of_nI (by omega) (by omega)] at e; omega
    rintro v τ1 ⟨fa, b65, -, rfl, b6⟩
    match hd : dfS A.ev A.F nm one l none with
    | none =>
      rw [hd] at hI
      refine ⟨fun e => absurd rfl e, fun _ => ?_⟩
      refine go τ1 _ _ (by rw [← nI_1 l]; rfl) rfl ⟨fa, ?_, hI⟩
      rw [tF_cg ((fa.i 1 (by decide)).trans (f.i 1 (by decide)).symm) ((fa.a 54 (by decide)).trans (f.a 54 (by decide)).symm) b65]
      exact ht
    | some p =>
      rw [hd] at hI
      have hI' : T = some p := hI
      have hlen : p.length = l := ((df_sp h7 l none).1 p hd).1
      rw [hI'] at hC
      refine ⟨fun _ => ?_, fun e => absurd (show (1 : Int32) = 0 from e) (by decide)⟩
      obtain ⟨r1, r2⟩ := row_0 τ1
      have f3 : FM [] [6] τ1 (sI τ1 52 6 0) := FM.rf.sI (by decide)
      have g66 : ∀ i, i < l → gA (sI τ1 52 6 0) 66 i = nI (p.getD i 0) := fun i hi => by
        have := b6 p hd i hi
        rw [Nat.zero_add] at this
        exact this
      show WW _ _ _ 61 [some (.ref 52), some (.int (nI nm)), some (.int (nI one)), some (.int (nI l)), none] [] (sI τ1 52 6 0)
      generalize sI τ1 52 6 0 = σ3 at r1 r2 f3 g66 ⊢
      have ff : FM lMs jMs σ σ3 := (fa.up _ _ (by decide) (by decide)).tr (f3.up _ _ (by decide) (by decide))
      refine wpW K_X12_brings [64] 20 ?_
      show WW _ _ _ 64 [some (.ref 52), some (.int (nI nm)), some (.int (nI one)), some (.int (nI l)), some (.int (nI 0))] [] σ3
      refine loopI (α := Sto) 64 (fun i _ => [some (.ref 52), some (.int (nI nm)), some (.int (nI one)), some (.int (nI l)), some (.int (nI i))]) (fun a => a) (fun i a => FM [56] [6] σ3 a ∧ rOK a ∧ mRw a = rngL i (fun j => (nI (p.getD j 0)).toInt64)) l ?_ ?_ 0 σ3 (Nat.zero_le _) ⟨FM.rf, r1, r2⟩
      · rintro i υ hi ⟨fu, hr, hR⟩ go2
        have ei : gA υ 66 (nI i).toNatClampNeg = nI (p.getD i 0) := by rw [nI_clamp (by omega), fu.a 66 (by decide)]; exact g66 i hi
        refine wpW K_X12_brings [64] 40 ?_
        refine ⟨fun e => ?_, fun _ => ⟨in7 (by omega), _, ev_tellL _ hr hR (by rw [rngL_l]; omega) _, ?_⟩⟩
        · rw [le_of_nI (by omega) (by omega)] at e; omega
        rintro v υ' ⟨rfl, r4, e4, f4⟩
        refine go2 υ' _ _ (by rw [← nI_1 i]; rfl) rfl ⟨fu.tr f4, r4, ?_⟩
        rw [e4, rngL_s, ← ei]
      · rintro υ ⟨fu, hr, hR⟩
        refine wpW K_X12_brings [] 40 ?_
        refine ⟨fun _ => ?_, fun e => absurd (Int32.le_refl _) e⟩
        have := mv_end hb (ff.tr (fu.up _ _ (by decide) (by decide))) hr hR
        rw [← hC]
        simp only
        rw [hlen]
        exact ⟨rfl, this.1, f0.tr this.2⟩
  · rintro τ ⟨f, ht, hI⟩
    rw [Nat.sub_self] at hI
    have hI' : T = none := hI
    rw [hI'] at hC
    refine wpW K_X12_brings [] 40 ?_
    refine ⟨fun _ => ?_, fun e => absurd (by decide) e⟩
    have := mv_same hv f (by decide) (by decide) (by decide) (by decide)
    rw [← hC]
    exact ⟨rfl, this.1, f0.tr this.2⟩
