/-! the model's call: hush -/
def RTl : List (List Nat) := [[0, 0, 0, 0, 0, 0, 0, 0, 0, 0, 0, 0, 0, 0, 0, 0, 0, 0, 0, 0, 0], [2097151, 1, 1, 1, 1, 1, 1, 1, 1, 1, 1, 1, 1, 1, 1, 1, 1, 1, 1, 1, 1], [2097151, 1398101, 3, 1, 3, 1, 3, 1, 3, 1, 3, 1, 3, 1, 3, 1, 3, 1, 3, 1, 3], [2097151, 1398101, 1817531, 5, 7, 5, 3, 5, 7, 5, 3, 5, 7, 5, 3, 5, 7, 5, 3, 5, 7], [2097151, 1398101, 1817531, 978685, 15, 13, 11, 13, 7, 13, 11, 13, 7, 13, 11, 13, 7, 13, 11, 13, 7], [2097151, 1398101, 1817531, 978685, 2097135, 29, 27, 29, 23, 29, 27, 29, 23, 29, 27, 29, 23, 29, 27, 29, 23], [2097151, 1398101, 1817531, 978685, 2097135, 2097149, 59, 61, 55, 61, 59, 61, 55, 61, 59, 61, 55, 61, 59, 61, 55], [2097151, 1398101, 1817531, 978685, 2097135, 2097149, 2097147, 125, 119, 125, 123, 125, 119, 125, 123, 125, 119, 125, 123, 125, 119], [2097151, 1398101, 1817531, 978685, 2097135, 2097149, 2097147, 2097149, 247, 253, 251, 253, 247, 253, 251, 253, 247, 253, 251, 253, 247], [2097151, 1398101, 1817531, 978685, 2097135, 2097149, 2097147, 2097149, 2097143, 509, 507, 509, 503, 509, 507, 509, 503, 509, 507, 509, 503], [2097151, 1398101, 1817531, 978685, 2097135, 2097149, 2097147, 2097149, 2097143, 2097149, 1019, 1021, 1015, 1021, 1019, 1021, 1015, 1021, 1019, 1021, 1015], [2097151, 1398101, 1817531, 978685, 2097135, 2097149, 2097147, 2097149, 2097143, 2097149, 2097147, 2045, 2039, 2045, 2043, 2045, 2039, 2045, 2043, 2045, 2039], [2097151, 1398101, 1817531, 978685, 2097135, 2097149, 2097147, 2097149, 2097143, 2097149, 2097147, 2097149, 4087, 4093, 4091, 4093, 4087, 4093, 4091, 4093, 4087], [2097151, 1398101, 1817531, 978685, 2097135, 2097149, 2097147, 2097149, 2097143, 2097149, 2097147, 2097149, 2097143, 8189, 8187, 8189, 8183, 8189, 8187, 8189, 8183], [2097151, 1398101, 1817531, 978685, 2097135, 2097149, 2097147, 2097149, 2097143, 2097149, 2097147, 2097149, 2097143, 2097149, 16379, 16381, 16375, 16381, 16379, 16381, 16375], [2097151, 1398101, 1817531, 978685, 2097135, 2097149, 2097147, 2097149, 2097143, 2097149, 2097147, 2097149, 2097143, 2097149, 2097147, 32765, 32759, 32765, 32763, 32765, 32759], [2097151, 1398101, 1817531, 978685, 2097135, 2097149, 2097147, 2097149, 2097143, 2097149, 2097147, 2097149, 2097143, 2097149, 2097147, 2097149, 65527, 65533, 65531, 65533, 65527], [2097151, 1398101, 1817531, 978685, 2097135, 2097149, 2097147, 2097149, 2097143, 2097149, 2097147, 2097149, 2097143, 2097149, 2097147, 2097149, 2097143, 131069, 131067, 131069, 131063], [2097151, 1398101, 1817531, 978685, 2097135, 2097149, 2097147, 2097149, 2097143, 2097149, 2097147, 2097149, 2097143, 2097149, 2097147, 2097149, 2097143, 2097149, 262139, 262141, 262135], [2097151, 1398101, 1817531, 978685, 2097135, 2097149, 2097147, 2097149, 2097143, 2097149, 2097147, 2097149, 2097143, 2097149, 2097147, 2097149, 2097143, 2097149, 2097147, 524285, 524279], [2097151, 1398101, 1817531, 978685, 2097135, 2097149, 2097147, 2097149, 2097143, 2097149, 2097147, 2097149, 2097143, 2097149, 2097147, 2097149, 2097143, 2097149, 2097147, 2097149, 1048567], [2097151, 1398101, 1817531, 978685, 2097135, 2097149, 2097147, 2097149, 2097143, 2097149, 2097147, 2097149, 2097143, 2097149, 2097147, 2097149, 2097143, 2097149, 2097147, 2097149, 2097143]]
def rtF (a : Nat) : Nat → Int32 := fun j => nI ((RTl.getD a []).getD j 0)
theorem rt_row : ∀ a, a < 21 → ∀ i, i < 21 → hrowS (rtF a) a i = rtF (a + 1) i := by decide +kernel
theorem rt_0 : ∀ i, i < 21 → rtF 0 i = 0 := by decide +kernel
theorem wt_cg {g g' : Nat → Int32} {a b : Nat} (h : g a = g' a) : wtS g a b = wtS g' a b := by
  have key : ∀ m t, takeS g a b m t = takeS g' a b m t := by
    intro m
    induction m with
    | zero => intro t; rfl
    | succ m ih => intro t; rw [takeS, takeS, ih, winS, winS, h]
  exact key _ _
theorem hst_cg {g g' : Nat → Int32} (h : ∀ i, i < 21 → g i = g' i) {a b : Nat} (ha : a < 21) (hb : b < 21) : ∀ i, i < 21 → hstS a b g i = hstS a b g' i := by
  intro i hi
  have e : ∀ j, j < 21 → upd g a (g a ||| bt b) j = upd g' a (g' a ||| bt b) j := by
    intro j hj
    unfold upd
    by_cases c : j = a
    · rw [if_pos c, if_pos c, h a ha]
    · rw [if_neg c, if_neg c, h j hj]
  unfold hstS
  rw [wt_cg (h a ha), wt_cg (h b hb)]
  split
  · rw [e b hb]
    by_cases c : i = b
    · subst c; rw [pk_us, pk_us]
    · rw [pk_un c, pk_un c]; exact e i hi
  · exact h i hi
theorem hrow_cg {g g' : Nat → Int32} (h : ∀ i, i < 21 → g i = g' i) {a : Nat} (ha : a < 21) : ∀ i, i < 21 → hrowS g a i = hrowS g' a i := by
  have key : ∀ n, n ≤ 21 → ∀ i, i < 21 → fo (fun b g => hstS a b g) g n i = fo (fun b g => hstS a b g) g' n i := by
    intro n
    induction n with
    | zero => intro _; exact h
    | succ n ih => intro hn; exact hst_cg (ih (by omega)) ha (by omega)
  exact key 21 (Nat.le_refl _)
theorem hush_rt : ∀ a, a ≤ 21 → ∀ i, i < 21 → fo (fun a g => hrowS g a) (fun _ => 0) a i = rtF a i := by
  intro a
  induction a with
  | zero => intro _ i hi; exact (rt_0 i hi).symm
  | succ a ih =>
    intro ha i hi
    rw [fo, hrow_cg (ih (by omega)) (by omega) i hi]
    exact rt_row a (by omega) i hi
theorem won_rt {i : Nat} (hi : i < 21) : wonT i = rtF 21 i := hush_rt 21 (Nat.le_refl _) i hi
def WLl : List Nat := [2097151, 1398101, 1817531, 978685, 2097135, 2097149, 2097147, 2097149, 2097143, 2097149, 2097147, 2097149, 2097143, 2097149, 2097147, 2097149, 2097143, 2097149, 2097147, 2097149, 2097143]
def Lc (x y : Nat) : Bool := decide (WLl.getD x 0 / 2 ^ y % 2 = 0)
def mvB (P : Nat → Nat → Bool) (x y : Nat) : Nat → Nat → Nat
  | 0, _ => 0
  | c + 1, t => if P (x - t) y then 21 * t else mvB P x y c (t + 1)
def mvA (P : Nat → Nat → Bool) (x y : Nat) : Nat → Nat → Nat
  | 0, _ => mvB P x y (min x y) 1
  | c + 1, t => if P x (y - t) then t else mvA P x y c (t + 1)
def mvS (P : Nat → Nat → Bool) (x y : Nat) : Nat := mvA P x y (min x y) 1
theorem lc_ok : ∀ x, x < 21 → ∀ y, y < 21 → Lc x y = (decide (0 < x) && decide (0 < y) && decide (mvS Lc x y = 0)) := by decide +kernel
theorem mv_lt : ∀ x, x < 21 → ∀ y, y < 21 → mvS Lc x y < 441 := by decide +kernel
theorem hush_ok : ∀ a, a < 21 → ∀ b, b < 21 → bI (winS (rtF 21) a b) = (if Lc a b then 0 else 1) ∧ (if 0 < wtS (rtF 21) a b then [0, (wtS (rtF 21) a b).toInt64] else if 0 < wtS (rtF 21) b a then [(wtS (rtF 21) b a).toInt64, 0] else []) = (if 0 < mvS Lc a b then [(nI (mvS Lc a b / 21)).toInt64, (nI (mvS Lc a b % 21)).toInt64] else []) := by decide +kernel
theorem d21 : ∀ m, m < 441 → nI m / 21 = nI (m / 21) ∧ nI m - nI m / 21 * 21 = nI (m % 21) := by decide +kernel
theorem min_if {a b : Nat} (ha : a ≤ 1024) (hb : b ≤ 1024) : (if nI b < nI a then nI b else nI a) = nI (min a b) := by
  by_cases h : b < a
  · rw [if_pos ((lt_of_nI (by omega) (by omega)).mpr h), Nat.min_eq_right (by omega)]
  · rw [if_neg (fun q => h ((lt_of_nI (by omega) (by omega)).mp q)), Nat.min_eq_left (by omega)]
def LT (σ : Sto) (x y : Nat) : Prop := gA σ 79 (21 * x + y) = bI (Lc x y)
theorem ev_moveOf (k : Nat) (σ : Sto) (x y : Nat) (hx : x < 21) (hy : y < 21) (h1 : ∀ t, 1 ≤ t → t ≤ min x y → LT σ x (y - t)) (h2 : ∀ t, 1 ≤ t → t ≤ min x y → LT σ (x - t) y) : EvM (k + 1) M_X12_moveOf [.ref 52, .int (nI x), .int (nI y)] σ (fun r τ => τ = σ ∧ r = some (.int (nI (mvS Lc x y)))) := by
  refine EvM.of mk_X12_moveOf (Nat.le_of_ble_eq_true rfl) ?_
  have em := min_if (a := x) (b := y) (by omega) (by omega)
  generalize hT : mvS Lc x y = T
  unfold mvS at hT
  generalize hm : min x y = m at *
  have hml : m ≤ x ∧ m ≤ y := by omega
  have L2 : T = mvB Lc x y m 1 → WW M_X12_moveOf (k + 1) (fun r τ => τ = σ ∧ r = some (.int (nI T))) 44 [some (.ref 52), some (.int (nI x)), some (.int (nI y)), some (.int (nI m)), some (.int (nI (0 + 1)))] [] σ := by
    intro hT
    refine loopI (α := Unit) 44 (fun i _ => [some (.ref 52), some (.int (nI x)), some (.int (nI y)), some (.int (nI m)), some (.int (nI (i + 1)))]) (fun _ => σ) (fun i _ => T = mvB Lc x y (m - i) (i + 1)) m ?_ ?_ 0 () (Nat.zero_le _) hT
    · rintro i - hi hI go
      rw [show m - i = (m - (i + 1)) + 1 by omega, mvB] at hI
      have hl := h2 (i + 1) (by omega) (by omega)
      have ei : 21 * (nI x - nI (i + 1)) + nI y = nI (21 * (x - (i + 1)) + y) := by rw [pk_sub (by omega), show (21 : Int32) = nI 21 from rfl, mul_nI, add_nI]
      have vi : vp_in (21 * (nI x - nI (i + 1)) + nI y) 441 := by rw [ei]; exact inN (by omega) (by omega)
      have vl : gA σ 79 (21 * (nI x - nI (i + 1)) + nI y).toNatClampNeg = bI (Lc (x - (i + 1)) y) := by rw [ei, nI_clamp (by omega)]; exact hl
      refine wpW K_X12_moveOf [44] 40 ?_
      refine ⟨fun h => ?_, fun _ => ⟨vi, fun e => ?_, fun e => ⟨rfl, ?_⟩⟩⟩
      · rw [lt_of_nI (by omega) (by omega)] at h; omega
      · have e' := (bI_eq _).mp (vl.symm.trans e)
        rw [if_neg (by rw [e']; decide)] at hI
        exact go () _ _ (by rw [← nI_1 (i + 1)]; rfl) rfl hI
      · have e' := (bI_ne _).mp (fun z => e (vl.trans z))
        rw [if_pos e'] at hI
        rw [hI, ← mul_nI]
        rfl
    · rintro - hI
      rw [Nat.sub_self, mvB] at hI
      refine wpW K_X12_moveOf [] 40 ?_
      refine ⟨fun _ => ⟨rfl, by rw [hI]; rfl⟩, fun h => ?_⟩
      rw [lt_of_nI (by omega) (by omega)] at h; omega
  suffices L1 : WW M_X12_moveOf (k + 1) (fun r τ => τ = σ ∧ r = some (.int (nI T))) 9 [some (.ref 52), some (.int (nI x)), some (.int (nI y)), some (.int (nI m)), some (.int (nI (0 + 1)))] [] σ by
    rw [← em] at L1
    exact wpW K_X12_moveOf [9] 20 L1
  refine loopI (α := Unit) 9 (fun i _ => [some (.ref 52), some (.int (nI x)), some (.int (nI y)), some (.int (nI m)), some (.int (nI (i + 1)))]) (fun _ => σ) (fun i _ => T = mvA Lc x y (m - i) (i + 1)) m ?_ ?_ 0 () (Nat.zero_le _) hT.symm
  · rintro i - hi hI go
    rw [show m - i = (m - (i + 1)) + 1 by omega, mvA] at hI
    have hl := h1 (i + 1) (by omega) (by omega)
    have ei : 21 * nI x + nI y - nI (i + 1) = nI (21 * x + (y - (i + 1))) := by rw [show (21 : Int32) = nI 21 from rfl, mul_nI, add_nI, pk_sub (by omega)]; congr 1; omega
    have vi : vp_in (21 * nI x + nI y - nI (i + 1)) 441 := by rw [ei]; exact inN (by omega) (by omega)
    have vl : gA σ 79 (21 * nI x + nI y - nI (i + 1)).toNatClampNeg = bI (Lc x (y - (i + 1))) := by rw [ei, nI_clamp (by omega)]; exact hl
    refine wpW K_X12_moveOf [9] 40 ?_
    refine ⟨fun h => ?_, fun _ => ⟨vi, fun e => ?_, fun e => ⟨rfl, ?_⟩⟩⟩
    · rw [lt_of_nI (by omega) (by omega)] at h; omega
    · have e' := (bI_eq _).mp (vl.symm.trans e)
      rw [if_neg (by rw [e']; decide)] at hI
      exact go () _ _ (by rw [← nI_1 (i + 1)]; rfl) rfl hI
    · have e' := (bI_ne _).mp (fun z => e (vl.trans z))
      rw [if_pos e'] at hI
      rw [hI]
  · rintro - hI
    rw [Nat.sub_self, mvA, hm] at hI
    refine wpW K_X12_moveOf [44] 40 ?_
    refine ⟨fun _ => L2 hI, fun h => ?_⟩
    rw [lt_of_nI (by omega) (by omega)] at h; omega
theorem mc_hush (k : Nat) (A : AS) (x y : Int32) : MC (k + 2) M_X12_hush [.int x, .int y] A (.int (hushC A x y).1) (hushC A x y).2 := by
  intro σ0 hv0
  refine EvM.of mk_X12_hush (Nat.le_of_ble_eq_true rfl) ?_
  refine wpW K_X12_hush [5] 10 ?_
  obtain ⟨hv, f0⟩ := mv_t0 hv0
  show WW _ _ _ 5 [some (.ref 52), some (.int x), some (.int y), none, none] _ (t0S σ0)
  generalize t0S σ0 = σ at hv f0 ⊢
  have hb := hv.1
  unfold hushC
  refine wpW K_X12_hush [27] 60 ?_
  refine ⟨_, ev_in _ _ _ _ _, ?_⟩
  rintro v τ ⟨h9, rfl⟩
  obtain rfl := h9.symm
  rw [show (20 : Int32) = nI 20 from rfl, in_S (by omega)]
  refine ⟨fun c => ?_, fun c1 => ⟨_, ev_in _ _ _ _ _, ?_⟩⟩
  · rw [bI_eq] at c
    rw [if_neg (by rw [c, Bool.false_and]; decide)]
    exact ⟨rfl, hv, f0⟩
  rw [bI_ne] at c1
  rintro v τ ⟨h9, rfl⟩
  obtain rfl := h9.symm
  rw [show (20 : Int32) = nI 20 from rfl, in_S (by omega)]
  refine ⟨fun c2 => ?_, fun c => ?_⟩
  rotate_left
  · rw [bI_eq] at c
    rw [if_neg (by rw [c, Bool.and_false]; decide)]
    exact ⟨rfl, hv, f0⟩
  rw [bI_ne] at c2
  rw [if_pos (by rw [c1, c2]; rfl)]
  obtain ⟨a1, a2⟩ := inS_80 (by omega) c1
  obtain ⟨b1, b2⟩ := inS_80 (by omega) c2
  generalize x.toNatClampNeg = a at *
  generalize y.toNatClampNeg = b at *
  subst a2 b2
  obtain ⟨o1, o2⟩ := hush_ok a a1 b b1
  rw [show winS wonT a b = winS (rtF 21) a b by rw [winS, winS, won_rt a1], wt_cg (won_rt a1), wt_cg (won_rt b1), o1, o2]
  have hmv := mv_lt a a1 b b1
  obtain ⟨q1, q2⟩ := d21 _ hmv
  have tail : ∀ τ o, (∀ x', x' < a + 1 → ∀ y', y' ≤ b → LT τ x' y') → FM [79] [] σ τ → WW M_X12_hush (k + 2) (fun w τ => w = some (.int (if Lc a b then 0 else 1)) ∧ MV τ (A.wR (if 0 < mvS Lc a b then [(nI (mvS Lc a b / 21)).toInt64, (nI (mvS Lc a b % 21)).toInt64] else [])) ∧ Fr lM σ0 τ) 91 [some (.ref 52), some (.int (nI a)), some (.int (nI b)), some (.int (nI (a + 1))), o] [] τ := by
    intro τ o hT hf
    refine wpW K_X12_hush [103] 40 ?_
    refine ⟨_, ev_moveOf _ τ a b a1 b1 (fun t h1 h2 => hT a (by omega) _ (by omega)) (fun t h1 h2 => hT _ (by omega) b (Nat.le_refl _)), ?_⟩
    rintro v τ' ⟨h9, rfl⟩
    obtain rfl := h9.symm
    obtain ⟨r1, r2⟩ := row_0 τ
    have f3 : FM [] [6] τ (sI τ 52 6 0) := FM.rf.sI (by decide)
    have hab : LT (sI τ 52 6 0) a b := hT a (by omega) b (Nat.le_refl _)
    show WW _ _ _ 103 [some (.ref 52), some (.int (nI a)), some (.int (nI b)), some (.int (nI (mvS Lc a b))), o] [] (sI τ 52 6 0)
    generalize sI τ 52 6 0 = σ3 at r1 r2 f3 hab ⊢
    generalize mvS Lc a b = mv at *
    have fin : ∀ R υ, rOK υ → mRw υ = R → FM [56] [6] σ3 υ → WW M_X12_hush (k + 2) (fun w τ => w = some (.int (if Lc a b then 0 else 1)) ∧ MV τ (A.wR R) ∧ Fr lM σ0 τ) 125 [some (.ref 52), some (.int (nI a)), some (.int (nI b)), some (.int (nI mv)), o] [] υ := by
      intro R υ hr hR fu
      have ei : 21 * nI a + nI b = nI (21 * a + b) := by rw [show (21 : Int32) = nI 21 from rfl, mul_nI, add_nI]
      have vi : vp_in (21 * nI a + nI b) 441 := by rw [ei]; exact inN (by omega) (by omega)
      have vl : gA υ 79 (21 * nI a + nI b).toNatClampNeg = bI (Lc a b) := by rw [ei, nI_clamp (by omega), fu.a 79 (by decide)]; exact hab
      have := mv_end hb (((hf.up _ _ (by decide) (by decide)).tr (f3.up _ _ (by decide) (by decide))).tr (fu.up _ _ (by decide) (by decide))) hr hR
      refine wpW K_X12_hush [] 40 ?_
      refine ⟨vi, fun e => ⟨?_, this.1, f0.tr this.2⟩, fun e => ⟨?_, this.1, f0.tr this.2⟩⟩
      · rw [(bI_eq _).mp (vl.symm.trans e)]; rfl
      · rw [(bI_ne _).mp (fun z => e (vl.trans z))]; rfl
    refine wpW K_X12_hush [125] 40 ?_
    refine ⟨fun e => ?_, fun e => ⟨by decide, _, ev_tellL _ r1 r2 (by simp) _, ?_⟩⟩
    · have e' : nI mv ≤ nI 0 := e
      rw [le_of_nI (by omega) (by omega)] at e'
      rw [if_neg (show ¬ 0 < mv by omega)]
      exact fin _ σ3 r1 r2 FM.rf
    · have e' : ¬ nI mv ≤ nI 0 := e
      rw [le_of_nI (by omega) (by omega)] at e'
      rw [if_pos (show 0 < mv by omega)]
      rintro v σ4 ⟨rfl, r4, e4, f4⟩
      refine ⟨by decide, _, ev_tellL _ r4 e4 (by simp) _, ?_⟩
      rintro v σ5 ⟨rfl, r5, e5, f5⟩
      refine fin _ σ5 r5 ?_ (f4.tr f5)
      rw [e5, ← q1, ← q2]
      rfl
  refine wpW K_X12_hush [29] 20 ?_
  show WW _ _ _ 29 [some (.ref 52), some (.int (nI a)), some (.int (nI b)), some (.int (nI 0)), none] [] σ
  refine loopI (α := Sto × Option Value) 29 (fun x c => [some (.ref 52), some (.int (nI a)), some (.int (nI b)), some (.int (nI x)), c.2]) (fun c => c.1) (fun x c => (∀ x', x' < x → ∀ y', y' ≤ b → LT c.1 x' y') ∧ FM [79] [] σ c.1) (a + 1) ?_ ?_ 0 (σ, none) (Nat.zero_le _) ⟨fun x' h => by omega, FM.rf⟩
  · rintro x ⟨τ, o⟩ hx ⟨hI, hf⟩ go
    simp only at hI hf ⊢
    refine wpW K_X12_hush [37] 20 ?_
    refine ⟨fun e => ?_, fun _ => ?_⟩
    · rw [lt_of_nI (by omega) (by omega)] at e; omega
    show WW _ _ _ 37 [some (.ref 52), some (.int (nI a)), some (.int (nI b)), some (.int (nI x)), some (.int (nI 0))] [] τ
    refine loopI (α := Sto) 37 (fun y c => [some (.ref 52), some (.int (nI a)), some (.int (nI b)), some (.int (nI x)), some (.int (nI y))]) (fun c => c) (fun y c => (∀ x', x' < x → ∀ y', y' ≤ b → LT c x' y') ∧ (∀ y', y' < y → LT c x y') ∧ FM [79] [] σ c) (b + 1) ?_ ?_ 0 τ (Nat.zero_le _) ⟨hI, fun y' h => by omega, hf⟩
    · rintro y τ hy ⟨hJ, hK, hg⟩ go2
      have ei : 21 * nI x + nI y = nI (21 * x + y) := by rw [show (21 : Int32) = nI 21 from rfl, mul_nI, add_nI]
      have vi : vp_in (21 * nI x + nI y) 441 := by rw [ei]; exact inN (by omega) (by omega)
      have ec : (21 * nI x + nI y).toNatClampNeg = 21 * x + y := by rw [ei, nI_clamp (by omega)]
      have nx : ∀ (v : Int32), v = bI (Lc x y) → (∀ x', x' < x → ∀ y', y' ≤ b → LT (sA τ 79 (upd (gA τ 79) (21 * nI x + nI y).toNatClampNeg v)) x' y') ∧ (∀ y', y' < y + 1 → LT (sA τ 79 (upd (gA τ 79) (21 * nI x + nI y).toNatClampNeg v)) x y') ∧ FM [79] [] σ (sA τ 79 (upd (gA τ 79) (21 * nI x + nI y).toNatClampNeg v)) := by
        intro v hv
        rw [ec]
        refine ⟨fun x' h1 y' h2 => ?_, fun y' h => ?_, hg.sA (by decide)⟩
        · unfold LT
          rw [gA_eq, pk_un (by omega)]
          exact hJ x' h1 y' h2
        · unfold LT
          rw [gA_eq]
          by_cases c : y' = y
          · subst c; rw [pk_us, hv]
          · rw [pk_un (by omega)]; exact hK y' (by omega)
      have hlc := lc_ok x (by omega) y (by omega)
      refine wpW K_X12_hush [37] 40 ?_
      refine ⟨fun e => ?_, fun _ => ⟨fun e => ⟨vi, ?_⟩, fun e1 => ⟨fun e => ⟨vi, ?_⟩, fun e2 => ⟨_, ev_moveOf _ τ x y (by omega) (by omega) (fun t h1 h2 => hK _ (by omega)) (fun t h1 h2 => hJ _ (by omega) _ (by omega)), ?_⟩⟩⟩⟩
      · rw [lt_of_nI (by omega) (by omega)] at e; omega
      · have e' : nI x ≤ nI 0 := e
        rw [le_of_nI (by omega) (by omega)] at e'
        rw [decide_eq_false (show ¬ 0 < x by omega), Bool.false_and, Bool.false_and] at hlc
        exact go2 _ _ _ (by rw [← nI_1 y]; rfl) rfl (nx (vp_nar .boolean 0) (by rw [hlc]; decide))
      · have e' : nI y ≤ nI 0 := e
        rw [le_of_nI (by omega) (by omega)] at e'
        rw [decide_eq_false (show ¬ 0 < y by omega), Bool.and_false, Bool.false_and] at hlc
        exact go2 _ _ _ (by rw [← nI_1 y]; rfl) rfl (nx (vp_nar .boolean 0) (by rw [hlc]; decide))
      · have e1' : ¬ nI x ≤ nI 0 := e1
        have e2' : ¬ nI y ≤ nI 0 := e2
        rw [le_of_nI (by omega) (by omega)] at e1' e2'
        have hm := mv_lt x (by omega) y (by omega)
        rw [decide_eq_true (show 0 < x by omega), decide_eq_true (show 0 < y by omega)] at hlc
        rintro v τ' ⟨h9, rfl⟩
        obtain rfl := h9.symm
        refine ⟨fun e => ⟨vi, ?_⟩, fun e => ⟨vi, ?_⟩⟩
        · have : ¬ mvS Lc x y = 0 := fun z => e (by rw [z]; rfl)
          rw [decide_eq_false this] at hlc
          exact go2 _ _ _ (by rw [← nI_1 y]; rfl) rfl (nx (vp_nar .boolean 0) (by rw [hlc]; decide))
        · have e' : nI (mvS Lc x y) = nI 0 := e
          rw [eq_of_nI (by omega) (by omega)] at e'
          rw [decide_eq_true e'] at hlc
          exact go2 _ _ _ (by rw [← nI_1 y]; rfl) rfl (nx (vp_nar .boolean 1) (by rw [hlc]; decide))
    · rintro τ ⟨hJ, hK, hg⟩
      refine wpW K_X12_hush [29] 20 ?_
      refine ⟨fun _ => ?_, fun e => ?_⟩
      · refine go (τ, some (.int (nI (b + 1)))) _ _ (by rw [← nI_1 x]; rfl) rfl ⟨fun x' h1 y' h2 => ?_, hg⟩
        by_cases c : x' = x
        · subst c; exact hK y' (by omega)
        · exact hJ x' (by omega) y' h2
      · rw [lt_of_nI (by omega) (by omega)] at e; omega
  · rintro ⟨τ, o⟩ ⟨hI, hf⟩
    simp only at hI hf ⊢
    refine wpW K_X12_hush [91] 20 ?_
    refine ⟨fun _ => tail τ o hI hf, fun e => ?_⟩
    rw [lt_of_nI (by omega) (by omega)] at e; omega
