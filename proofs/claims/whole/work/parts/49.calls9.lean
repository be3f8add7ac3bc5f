/-! the class's calls: asks, walks, hush, rests -/
def valN (i : Nat) : Nat := if i = 1 then 10 else 7
theorem val_ask : ∀ i, i < 3 → valS (askN (nI i)) = nI (valN i) := by decide
def askK (i : Nat) : Int32 := askN (nI i)
def askT (ev : (Nat → Int32) → Int32) (F : FS) (b : Int32) (i v : Nat) (st : Int32 × Int32) : Int32 × Int32 := if st.2 ≤ leftS ev F b (askK i) (nI v) then st else (10 * askK i + nI v, leftS ev F b (askK i) (nI v))
def asksS (ev : (Nat → Int32) → Int32) (F : FS) (b : Int32) : Int32 × Int32 := fo (fun i st => fo (fun v st => askT ev F b i v st) st (valN i)) (0, 8) 3
def asksC (A : AS) : Int32 × AS := if fitS A.ev A.F A.H = 0 then (-2, A) else ((asksS A.ev A.F (fitS A.ev A.F A.H)).1, A.wR [(asksS A.ev A.F (fitS A.ev A.F A.H)).2.toInt64])
theorem ev_mostLeft5 (k : Nat) {σ0 σ : Sto} {A : AS} {r s : Nat} (hb : CB σ0 A r s) (h : Fr lS σ0 σ) (b w v : Int32) : EvM (k + 5) M_X1_mostLeft [.ref 32, .ref 5, .ref r, .int b, .int w, .int v] σ (fun z τ => z = some (.int (leftS A.ev A.F b w v)) ∧ Fr [48, 51] σ τ) := by
  have hb' := hb.sS h
  have h1 := ev_mostLeft k σ r hb.r hb'.f A.ev hb'.rc b w v
  rw [hb'.F] at h1
  refine h1.post ?_
  rintro v τ ⟨rfl, f⟩
  exact ⟨rfl, r2_lS hb.r f⟩
theorem cc_asks (k : Nat) (A : AS) : CC (k + 6) M_X11_asks [] A (.int (asksC A).1) (asksC A).2 := by
  intro σ hv
  obtain ⟨r, s, hb⟩ := hv.b
  refine EvM.of mk_X11_asks (Nat.le_of_ble_eq_true rfl) ?_
  refine wpW K_X11_asks [41] 60 ?_
  refine ⟨r, hb.r1, _, ev_fitting5 _ hb Fr.rf, ?_⟩
  rintro w σ1 ⟨rfl, f1⟩
  unfold asksC
  generalize fitS A.ev A.F A.H = b
  refine ⟨fun h => ?_, fun h => ?_⟩
  rotate_left
  · rw [if_pos h]
    exact ⟨rfl, cv_same hb hv.t hv.R f1 (by decide) rfl rfl⟩
  rw [if_neg h]
  refine loopI (α := Sto × (Int32 × Int32) × Option Value × Option Value × Option Value) 41 (fun i a => [some (.ref 0), some (.int b), some (.int a.2.1.1), some (.int a.2.1.2), some (.ref 999), some (.int 3), some (.int (nI i)), a.2.2.1, a.2.2.2.1, a.2.2.2.2]) (fun a => a.1) (fun i a => Fr lS σ a.1 ∧ a.2.1 = fo (fun i st => fo (fun v st => askT A.ev A.F b i v st) st (valN i)) (0, 8) i) 3 ?_ ?_ 0 (σ1, (0, 8), none, none, none) (Nat.zero_le _) ⟨f1.up _ (by decide), rfl⟩
  · rintro i ⟨τ, ⟨c, m⟩, o1, o2, o3⟩ hi ⟨f, hI⟩ go
    simp only at f hI ⊢
    refine wpW K_X11_asks [53] 60 ?_
    refine ⟨fun h => ?_, fun _ => ⟨inN hi (by omega), ?_⟩⟩
    · rw [show (3 : Int32) = nI 3 from rfl, le_of_nI (by omega) (by omega)] at h; omega
    have hval := val_ask i hi
    rw [show askN (nI i) = askK i from rfl] at hval ⊢
    refine wpW K_X11_asks [58] 60 ?_
    have hvn : valN i ≤ 10 := by unfold valN; split <;> omega
    refine loopI (α := Sto × (Int32 × Int32) × Option Value) 58 (fun j a => [some (.ref 0), some (.int b), some (.int a.2.1.1), some (.int a.2.1.2), some (.ref 999), some (.int 3), some (.int (nI i)), some (.int (askK i)), some (.int (nI j)), a.2.2]) (fun a => a.1) (fun j a => Fr lS σ a.1 ∧ a.2.1 = fo (fun v st => askT A.ev A.F b i v st) (c, m) j) (valN i) ?_ ?_ 0 (τ, (c, m), o3) (Nat.zero_le _) ⟨f, rfl⟩
    · rintro j ⟨τ', ⟨c', m'⟩, p3⟩ hj ⟨f', hJ⟩ go'
      simp only at f' hJ ⊢
      refine wpW K_X11_asks [58] 60 ?_
      refine ⟨_, ev_values _ _ _, ?_⟩
      rintro w τ'' ⟨h9, rfl⟩
      obtain rfl := h9.symm
      rw [hval]
      refine ⟨fun h => ?_, fun _ => ⟨r, (hb.sS f').r1, _, ev_mostLeft5 _ hb f' _ _ _, ?_⟩⟩
      · rw [le_of_nI (by omega) (by omega)] at h; omega
      rintro w τ2 ⟨rfl, f2⟩
      have f3 : Fr lS σ τ2 := f'.tr (f2.up _ (by decide))
      refine ⟨fun h => ?_, fun h => ?_⟩
      · exact go' (τ2, (c', m'), _) _ _ (by rw [← nI_1 j]; rfl) rfl ⟨f3, by rw [fo, ← hJ]; exact (if_pos h).symm⟩
      · exact go' (τ2, (_, _), _) _ _ (by rw [← nI_1 j]; rfl) rfl ⟨f3, by rw [fo, ← hJ]; exact (if_neg h).symm⟩
    · rintro ⟨τ', ⟨c', m'⟩, p3⟩ ⟨f', hJ⟩
      simp only at f' hJ ⊢
      refine wpW K_X11_asks [41] 60 ?_
      refine ⟨_, ev_values _ _ _, ?_⟩
      rintro w τ'' ⟨h9, rfl⟩
      obtain rfl := h9.symm
      rw [hval]
      refine ⟨fun h => ?_, fun h => ?_⟩
      · exact go (τ', (c', m'), _, _, _) _ _ (by rw [← nI_1 i]; rfl) rfl ⟨f', by rw [fo, ← hI]; exact hJ⟩
      · rw [le_of_nI (by omega) (by omega)] at h; omega
  · rintro ⟨τ, ⟨c, m⟩, o1, o2, o3⟩ ⟨f, hI⟩
    simp only at f hI ⊢
    refine wpW K_X11_asks [41] 60 ?_
    refine ⟨fun h => ⟨_, ev_rtell _ _ _, ?_⟩, fun h => absurd (show (3 : Int32) ≤ nI 3 by decide) h⟩
    rintro w σ3 ⟨rfl, e3, k3, f3⟩
    have e : asksS A.ev A.F b = (c, m) := hI.symm
    rw [e]
    exact ⟨rfl, cv_end hb (f.tr (f3.up _ (by decide))) k3 e3⟩
def gcS : Nat → Int64 → Int64 → Int64
  | 0, a, _ => a
  | c + 1, a, b => if b = 0 then a else gcS c b (a - a / b * b)
theorem ev_gc (k : Nat) (σ : Sto) (a b : Int64) : EvM k M_X11_greatestCommon [.long a, .long b] σ (fun v τ => τ = σ ∧ v = some (.long (gcS 100 a b))) := by
  refine EvM.of mk_X11_greatestCommon (Nat.le_of_ble_eq_true rfl) ?_
  refine wpW K_X11_greatestCommon [9] 60 ?_
  generalize hT : gcS 100 a b = T
  refine loopI (α := Int64 × Int64 × Option Value) 9 (fun i x => [some (.long a), none, some (.long b), none, some (.long x.1), none, some (.long x.2.1), none, some (.int (nI i)), x.2.2, none]) (fun _ => σ) (fun i x => T = gcS (100 - i) x.1 x.2.1) 100 ?_ ?_ 0 (a, b, none) (Nat.zero_le _) hT.symm
  · rintro i ⟨x, y, o⟩ hi hI go
    simp only at hI ⊢
    rw [show 100 - i = (100 - (i + 1)) + 1 by omega, gcS] at hI
    refine wpW K_X11_greatestCommon [9] 60 ?_
    refine ⟨fun h => ?_, fun _ => ⟨fun h => ?_, fun h => ?_⟩⟩
    · rw [show (100 : Int32) = nI 100 from rfl, le_of_nI (by omega) (by omega)] at h; omega
    · rw [cmp0] at h
      rw [if_pos h] at hI
      exact ⟨rfl, by rw [hI]⟩
    · rw [cmp0] at h
      rw [if_neg h] at hI
      refine ⟨h, ?_⟩
      exact go (y, x - x / y * y, _) _ _ (by rw [← nI_1 i]; rfl) rfl hI
  · rintro ⟨x, y, o⟩ hI
    simp only at hI ⊢
    refine wpW K_X11_greatestCommon [9] 60 ?_
    refine ⟨fun h => ⟨rfl, by rw [hI]; rfl⟩, fun h => absurd (show (100 : Int32) ≤ nI 100 by decide) h⟩
def tenS (n : Nat) : Int64 := fo (fun _ l => l * 10) 1 n
def dvS (u g : Int64) : Int64 := if g = 0 then u else u / g
def walksC (A : AS) (x n p y : Int32) : Int32 × AS := if inS 10 x && inS 13 n && inS 11 p && inS 10 y then
    (0, A.wR [dvS (walkS x p n.toNatClampNeg y.toNatClampNeg) (gcS 100 (walkS x p n.toNatClampNeg y.toNatClampNeg) (tenS n.toNatClampNeg)), dvS (tenS n.toNatClampNeg) (gcS 100 (walkS x p n.toNatClampNeg y.toNatClampNeg) (tenS n.toNatClampNeg))]) else (-1, A)
theorem cc_walks (k : Nat) (A : AS) (x n p y : Int32) : CC (k + 2) M_X11_walks [.int x, .int n, .int p, .int y] A (.int (walksC A x n p y).1) (walksC A x n p y).2 := by
  intro σ hv
  obtain ⟨r, s, hb⟩ := hv.b
  have hno : ¬ (inS 10 x = true ∧ inS 13 n = true ∧ inS 11 p = true ∧ inS 10 y = true) → some (Value.int (-1)) = some (Value.int (walksC A x n p y).1) ∧ CV σ (walksC A x n p y).2 ∧ Fr lC σ σ := by
    intro c
    unfold walksC
    rw [if_neg (by simpa [and_assoc] using c)]
    exact ⟨rfl, hv, Fr.rf⟩
  refine EvM.of mk_X11_walks (Nat.le_of_ble_eq_true rfl) ?_
  refine wpW K_X11_walks [44] 60 ?_
  have lx := cnd2 (x := x) (n := 10) (by omega)
  have ly := cnd2 (x := y) (n := 10) (by omega)
  have ln := cnd (x := n) (n := 12) (by omega)
  have lp := cnd (x := p) (n := 10) (by omega)
  refine ⟨fun h => hno (fun q => (lx.mp q.1).1 h), fun h1 => ⟨fun h => hno (fun q => Int32.not_lt.mpr h (lx.mp q.1).2), fun h2 => ⟨fun h => hno (fun q => (ly.mp q.2.2.2).1 h), fun h3 => ⟨fun h => hno (fun q => Int32.not_lt.mpr h (ly.mp q.2.2.2).2), fun h4 => ⟨fun h => hno (fun q => (ln.mp q.2.1).1 h), fun h5 => ⟨fun h => hno (fun q => (ln.mp q.2.1).2 h), fun h6 => ⟨fun h => hno (fun q => (lp.mp q.2.2.1).1 h), fun h7 => ⟨fun h8 => ?_, fun h => hno (fun q => (lp.mp q.2.2.1).2 (Int32.not_le.mp h))⟩⟩⟩⟩⟩⟩⟩⟩
  have a1 : inS 10 x = true := lx.mpr ⟨h1, Int32.not_le.mp h2⟩
  have a2 : inS 10 y = true := ly.mpr ⟨h3, Int32.not_le.mp h4⟩
  have a3 : inS 13 n = true := ln.mpr ⟨h5, h6⟩
  have a4 : inS 11 p = true := lp.mpr ⟨h7, Int32.not_lt.mpr h8⟩
  unfold walksC
  rw [if_pos (by rw [a1, a2, a3, a4]; rfl)]
  obtain ⟨d1, d2⟩ := inS_80 (by omega) a3
  obtain ⟨e1, e2⟩ := inS_80 (by omega) a2
  generalize n.toNatClampNeg = d at d1 d2
  generalize y.toNatClampNeg = z at e1 e2
  subst d2 e2
  refine wpW K_X11_walks [64] 60 ?_
  refine ⟨_, ev_walked _ σ x p d z (by omega) e1, ?_⟩
  rintro w σ1 ⟨rfl, f1⟩
  generalize walkS x p d z = u
  refine loopI (α := Int64) 64 (fun i l => [some (.ref 0), some (.int x), some (.int (nI d)), some (.int p), some (.int (nI z)), some (.long u), none, some (.long l), none, some (.int (nI i)), none]) (fun _ => σ1) (fun i l => l = tenS i) d ?_ ?_ 0 1 (Nat.zero_le _) rfl
  · intro i l hi hI go
    refine wpW K_X11_walks [64] 60 ?_
    refine ⟨fun h => ?_, fun _ => ?_⟩
    · rw [le_of_nI (by omega) (by omega)] at h; omega
    exact go (l * 10) _ _ (by rw [← nI_1 i]; rfl) rfl (by rw [tenS, fo, ← tenS, ← hI])
  · intro l hI
    subst hI
    refine wpW K_X11_walks [] 60 ?_
    refine ⟨fun h => ⟨_, ev_gc _ _ _ _, ?_⟩, fun h => ?_⟩
    rotate_left
    · rw [le_of_nI (by omega) (by omega)] at h; omega
    rintro w τ'' ⟨h9, rfl⟩
    obtain rfl := h9.symm
    generalize gcS 100 u (tenS d) = g
    refine ⟨_, ev_rclears _ _, ?_⟩
    rintro w σ2 ⟨rfl, e2, k2, f2⟩
    have fin : ∀ σ3, tR σ3 = [dvS u g] → tOK σ3 → Fr [3, 4] σ2 σ3 → ∀ σ4, (tR σ4 = tR σ3 ++ [dvS (tenS d) g] ∧ tOK σ4 ∧ Fr [3, 4] σ3 σ4) → some (Value.int 0) = some (Value.int 0) ∧ CV σ4 (A.wR [dvS u g, dvS (tenS d) g]) ∧ Fr lC σ σ4 := by
      rintro σ3 e3 k3 f3 σ4 ⟨e4, k4, f4⟩
      refine ⟨rfl, cv_end hb ((f1.up _ (by decide)).tr ((f2.tr (f3.tr f4)).up _ (by decide))) k4 ?_⟩
      rw [e4, e3]; rfl
    refine ⟨fun h => ⟨fun e => h ((cmp0 _ _).mpr e), _, ev_radds _ _ k2 _ (by rw [e2]; simp), ?_⟩, fun h => ⟨_, ev_radds _ _ k2 _ (by rw [e2]; simp), ?_⟩⟩
    · have hg : ¬ g = 0 := fun e => h ((cmp0 _ _).mpr e)
      rintro w σ3 ⟨rfl, e3, k3, f3⟩
      rw [e2, List.nil_append, show u / g = dvS u g from (if_neg hg).symm] at e3
      refine ⟨fun _ => ⟨hg, _, ev_radds _ _ k3 _ (by rw [e3]; simp), ?_⟩, fun h' => absurd h' h⟩
      rintro w σ4 ⟨rfl, e4, k4, f4⟩
      exact fin σ3 e3 k3 f3 σ4 ⟨by rw [e4, dvS, if_neg hg], k4, f4⟩
    · have hg : g = 0 := (cmp0 _ _).mp h
      rintro w σ3 ⟨rfl, e3, k3, f3⟩
      rw [e2, List.nil_append, show [u] = [dvS u g] from by rw [dvS, if_pos hg]] at e3
      refine ⟨fun h' => absurd h h', fun _ => ⟨_, ev_radds _ _ k3 _ (by rw [e3]; simp), ?_⟩⟩
      rintro w σ4 ⟨rfl, e4, k4, f4⟩
      exact fin σ3 e3 k3 f3 σ4 ⟨by rw [e4, dvS, if_pos hg], k4, f4⟩
