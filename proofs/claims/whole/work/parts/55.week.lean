/-! the class's calls: week -/
def adN (c : Int32) : Nat := if c = 99 then 1 else if c = 103 then 3 else if c = 109 then 2 else if c = 110 then 1 else if c = 115 then 2 else 0
theorem ev_actDigits (k : Nat) (σ : Sto) (c : Int32) : EvM k M_X11_actDigits [.int c] σ (fun v τ => τ = σ ∧ v = some (.int (nI (adN c)))) := by
  refine EvM.of mk_X11_actDigits (Nat.le_of_ble_eq_true rfl) ?_
  refine wpW K_X11_actDigits [] 20 ?_
  refine ⟨fun h => ?_, fun h1 => ⟨fun h => ?_, fun h2 => ⟨fun h => ?_, fun h3 => ⟨fun h => ?_, fun h4 => ⟨fun h => ?_, fun h5 => ?_⟩⟩⟩⟩⟩
  · exact ⟨rfl, by simp [adN, h]; rfl⟩
  · exact ⟨rfl, by simp [adN, h]; rfl⟩
  · exact ⟨rfl, by simp [adN, h]; rfl⟩
  · exact ⟨rfl, by simp [adN, h]; rfl⟩
  · exact ⟨rfl, by simp [adN, h]; rfl⟩
  · exact ⟨rfl, by simp [adN, h1, h2, h3, h4, h5]; rfl⟩
theorem ad_le (c : Int32) : adN c ≤ 3 := by unfold adN; (repeat' split) <;> omega
/-- where it is wrong, and how many digits are due -/
def wkS (c : Nat → Int32) : Nat → Nat → Nat → Option Nat × Nat
  | 0, _, due => (none, due)
  | m + 1, p, due => if 0 < due then (if isDg (c p) then wkS c m (p + 1) (due - 1) else (some p, due)) else if adN (c p) = 0 then (some p, 0) else wkS c m (p + 1) (adN (c p))
def weekW (t : Nat) (c : Nat → Int32) : Option Nat := match wkS c (min t 60) 0 0 with
  | (some p, _) => some p
  | (none, due) => if due = 0 ∧ t ≤ 60 then none else some (min t 60)
theorem ev_weekW (k : Nat) (σ : Sto) {A : AS} {r s : Nat} (hb : CB σ A r s) : EvM (k + 3) M_X11_weekWrongAt [.ref 0] σ (fun v τ => τ = σ ∧ v = some (.int (wrI (weekW A.X.1 A.X.2)))) := by
  obtain ⟨t80, -, et⟩ := hb.t80
  refine EvM.of mk_X11_weekWrongAt (Nat.le_of_ble_eq_true rfl) ?_
  refine wpW K_X11_weekWrongAt [12] 60 ?_
  show WW M_X11_weekWrongAt _ _ 12 _ [Value.int (if (60 : Int32) < gI σ 1 1 then 60 else gI σ 1 1)] _
  rw [et, show (60 : Int32) = nI 60 from rfl, min_nI (by omega) (by omega)]
  refine wpW K_X11_weekWrongAt [17] 60 ?_
  refine loopI (α := Nat) 17 (fun i a => [some (.ref 0), some (.int (nI (min A.X.1 60))), some (.int (nI a)), some (.int (nI i))]) (fun _ => σ) (fun i a => a ≤ 3 ∧ wkS A.X.2 (min A.X.1 60) 0 0 = wkS A.X.2 (min A.X.1 60 - i) i a) (min A.X.1 60) ?_ ?_ 0 0 (Nat.zero_le _) ⟨Nat.zero_le _, rfl⟩
  · rintro i a hi ⟨ha, hI⟩ go
    have ea : atX A.X (nI i) = A.X.2 i := at_X2 t80 (by omega)
    rw [show min A.X.1 60 - i = (min A.X.1 60 - (i + 1)) + 1 by omega, wkS] at hI
    refine wpW K_X11_weekWrongAt [17] 60 ?_
    refine ⟨fun h => ?_, fun _ => ⟨fun h => ⟨_, ev_atX _ σ hb _, ?_⟩, fun h => ⟨_, ev_isDigitX _ σ hb _, ?_⟩⟩⟩
    · rw [le_of_nI (by omega) (by omega)] at h; omega
    · rw [show (0 : Int32) = nI 0 from rfl, le_of_nI (by omega) (by omega)] at h
      rw [if_neg (by omega)] at hI
      rintro w τ'' ⟨h9, rfl⟩
      obtain rfl := h9.symm
      rw [ea]
      refine ⟨_, ev_actDigits _ _ _, ?_⟩
      rintro w τ'' ⟨h9, rfl⟩
      obtain rfl := h9.symm
      have hal := ad_le (A.X.2 i)
      refine ⟨fun h2 => ?_, fun h2 => ⟨rfl, ?_⟩⟩
      · rw [show (0 : Int32) = nI 0 from rfl, eq_of_nI (by omega) (by omega)] at h2
        rw [if_neg h2] at hI
        exact go (adN (A.X.2 i)) _ _ (by rw [← nI_1 i]; rfl) rfl ⟨hal, hI⟩
      · rw [show (0 : Int32) = nI 0 from rfl, eq_of_nI (by omega) (by omega)] at h2
        rw [if_pos h2] at hI
        unfold weekW
        rw [hI]
        rfl
    · rw [show (0 : Int32) = nI 0 from rfl, le_of_nI (by omega) (by omega)] at h
      rw [if_pos (by omega)] at hI
      rintro w τ'' ⟨h9, rfl⟩
      obtain rfl := h9.symm
      rw [ea]
      refine ⟨fun h2 => ?_, fun h2 => ⟨rfl, ?_⟩⟩
      · rw [if_pos ((bI_ne _).mp h2)] at hI
        refine go (a - 1) _ _ ?_ rfl ⟨by omega, hI⟩
        rw [← nI_1 i]
        have e : nI a + (-1) = nI (a - 1) := by
          rw [show nI a = nI ((a - 1) + 1) by rw [Nat.sub_add_cancel (by omega)], ← nI_1, dn_lit, Int32.add_sub_cancel]
        show [some (Value.ref 0), some (.int (nI (min A.X.1 60))), some (.int (nI a + (-1))), some (.int (nI i + 1))] = _
        rw [e]
      · rw [if_neg (by rw [(bI_eq _).mp h2]; decide)] at hI
        unfold weekW
        rw [hI]
        rfl
  · rintro a ⟨ha, hI⟩
    rw [Nat.sub_self, wkS] at hI
    refine wpW K_X11_weekWrongAt [] 60 ?_
    unfold weekW
    rw [hI]
    simp only
    refine ⟨fun _ => ⟨fun h1 => ⟨fun _ => ?_, fun q => absurd rfl q⟩, fun h1 => ⟨fun h2 => ⟨fun _ => ?_, fun q => absurd rfl q⟩, fun h2 => ⟨fun q => absurd q (by decide), fun _ => ?_⟩⟩⟩, fun h => absurd (Int32.le_refl _) h⟩
    all_goals rw [show (0 : Int32) = nI 0 from rfl, eq_of_nI (by omega) (by omega)] at h1
    · rw [if_neg (fun q => h1 q.1)]
      exact ⟨rfl, rfl⟩
    · rw [et, show (60 : Int32) = nI 60 from rfl, lt_of_nI (by omega) (by omega)] at h2
      rw [if_neg (fun q => by omega)]
      exact ⟨rfl, rfl⟩
    · rw [et, show (60 : Int32) = nI 60 from rfl, lt_of_nI (by omega) (by omega)] at h2
      rw [if_pos ⟨h1, by omega⟩]
      exact ⟨rfl, rfl⟩
/-- an act at p -/
def actS (ev : (Nat → Int32) → Int32) (F : FS) (c : Nat → Int32) (p : Nat) : Int32 × FS :=
  if c p = 99 then rcallS ev F (digS (c (p + 1))) else if c p = 103 then signS F (digS (c (p + 1))) (10 * digS (c (p + 2)) + digS (c (p + 3))) else if c p = 109 then moveS F (digS (c (p + 1))) (digS (c (p + 2))) else if c p = 110 then (digS (c (p + 1)), daysS ev (-1) (fN F) F (digS (c (p + 1))).toNatClampNeg) else if c p = 115 then saidS ev F (digS (c (p + 1))) (digS (c (p + 2))) else (-1, F)
theorem dig_in (c : Int32) : ∃ d, d < 10 ∧ digS c = nI d := by
  unfold digS
  by_cases h : isDg c = true
  · rw [if_pos h]
    unfold isDg at h
    rw [Bool.and_eq_true] at h
    obtain ⟨h1, h2⟩ := h
    rw [Bool.not_eq_true', decide_eq_false_iff_not, Int32.lt_iff_toInt_lt] at h1 h2
    simp at h1 h2
    have : (c - 48).toInt = c.toInt - 48 := by
      rw [Int32.toInt_sub]
      simp
      rw [Int.bmod_eq_of_le (by omega) (by omega)]
    obtain ⟨n, hn, e⟩ := nI_ex (x := c - 48) (m := 9) (by omega) (by omega) (by omega)
    exact ⟨n, by omega, e⟩
  · rw [if_neg h]; exact ⟨0, by omega, rfl⟩
/-- beyond its end a text has no sign -/
def xEnd (X : Nat × (Nat → Int32)) : Prop := ∀ p, X.1 ≤ p → X.2 p = -1
theorem CB.xe {σ : Sto} {A : AS} {r s : Nat} (hb : CB σ A r s) : xEnd A.X := by
  rw [← hb.X]
  intro p hp
  exact if_neg (by have : xT σ ≤ p := hp; omega)
theorem at_X3 {A : AS} (ht : A.X.1 ≤ 80) (hx : xEnd A.X) (p : Nat) (hp : p ≤ 1024) : atX A.X (nI p) = A.X.2 p := by
  by_cases h : p < A.X.1
  · exact at_X2 ht h
  · unfold atX
    have : ¬ inS A.X.1 (nI p) = true := by
      unfold inS
      rw [nI_toInt (by omega), decide_eq_true_eq]
      omega
    rw [if_neg this, hx p (by omega)]
theorem ev_act (k : Nat) (σ : Sto) {A : AS} {r s : Nat} (hb : CB σ A r s) (p : Nat) (hp : p < 100) : EvM (k + 6) M_X11_act [.ref 0, .int (nI p)] σ (fun v τ => v = some (.int (actS A.ev A.F A.X.2 p).1) ∧ cF τ 5 = (actS A.ev A.F A.X.2 p).2 ∧ cOK τ 5 ∧ Fr [5, 6, 8, 9, 10, 48, 51] σ τ) := by
  obtain ⟨t80, -, et⟩ := hb.t80
  have hx := hb.xe
  have a0 : atX A.X (nI p) = A.X.2 p := at_X3 t80 hx p (by omega)
  have a1 : atX A.X (nI p + 1) = A.X.2 (p + 1) := by rw [nI_1]; exact at_X3 t80 hx _ (by omega)
  have a2 : atX A.X (nI p + 2) = A.X.2 (p + 2) := by rw [show (2 : Int32) = nI 2 from rfl, add_nI]; exact at_X3 t80 hx _ (by omega)
  have a3 : atX A.X (nI p + 2 + 1) = A.X.2 (p + 3) := by rw [show (2 : Int32) = nI 2 from rfl, add_nI, nI_1]; exact at_X3 t80 hx _ (by omega)
  refine EvM.of mk_X11_act (Nat.le_of_ble_eq_true rfl) ?_
  refine wpW K_X11_act [] 60 ?_
  refine ⟨_, ev_digitX _ σ hb _, ?_⟩
  rintro w τ'' ⟨h9, rfl⟩
  obtain rfl := h9.symm
  refine ⟨_, ev_atX _ σ hb _, ?_⟩
  rintro w τ'' ⟨h9, rfl⟩
  obtain rfl := h9.symm
  rw [a0, a1]
  obtain ⟨d, hd, ed⟩ := dig_in (A.X.2 (p + 1))
  unfold actS
  refine ⟨fun h => ?_, fun h1 => ⟨fun h => ?_, fun h2 => ⟨fun h => ?_, fun h3 => ⟨fun h => ?_, fun h4 => ⟨fun h => ?_, fun h5 => ?_⟩⟩⟩⟩⟩
  · rw [if_pos h]
    refine ⟨r, hb.r1, _, ev_rollCalled _ σ r 5 hb.r (Or.inl rfl) hb.f A.ev hb.rc _, ?_⟩
    rintro w τ ⟨rfl, c1, o1, -, f1⟩
    rw [hb.F] at c1 ⊢
    exact ⟨rfl, c1, o1, (lD5 hb.r f1).up _ (by decide)⟩
  · rw [if_neg h1, if_pos h]
    refine ⟨_, ev_twoDigitsX _ σ hb _, ?_⟩
    rintro w τ'' ⟨h9, rfl⟩
    obtain rfl := h9.symm
    rw [a2, a3]
    refine ⟨_, ev_signedFor _ σ 5 (Or.inl rfl) hb.f _ _, ?_⟩
    rintro w τ ⟨rfl, c1, o1, f1⟩
    rw [hb.F] at c1 ⊢
    exact ⟨rfl, c1, o1, f1.up _ (by decide)⟩
  · rw [if_neg h1, if_neg h2, if_pos h]
    refine ⟨_, ev_digitX _ σ hb _, ?_⟩
    rintro w τ'' ⟨h9, rfl⟩
    obtain rfl := h9.symm
    rw [a2]
    refine ⟨_, ev_movedTo _ σ 5 (Or.inl rfl) hb.f _ _, ?_⟩
    rintro w τ ⟨rfl, c1, o1, f1⟩
    rw [hb.F] at c1 ⊢
    exact ⟨rfl, c1, o1, f1.up _ (by decide)⟩
  · rw [if_neg h1, if_neg h2, if_neg h3, if_pos h]
    rw [ed, nI_clamp (by omega)]
    refine ⟨r, hb.r1, _, ev_passDays _ σ r 5 hb.r (Or.inl rfl) hb.f A.ev hb.rc d (by omega) _, ?_⟩
    rintro w τ ⟨rfl, c1, o1, -, f1⟩
    rw [hb.F] at c1
    exact ⟨rfl, c1, o1, (lD5 hb.r f1).up _ (by decide)⟩
  · rw [if_neg h1, if_neg h2, if_neg h3, if_neg h4, if_pos h]
    refine ⟨r, hb.r1, _, ev_digitX _ σ hb _, ?_⟩
    rintro w τ'' ⟨h9, rfl⟩
    obtain rfl := h9.symm
    rw [a2]
    refine ⟨_, ev_saidBy _ σ r 5 hb.r (Or.inl rfl) hb.f A.ev hb.rc _ _, ?_⟩
    rintro w τ ⟨rfl, c1, o1, f1⟩
    rw [hb.F] at c1 ⊢
    refine ⟨rfl, c1, o1, ?_⟩
    rcases hb.r with rfl | rfl <;> exact f1.up _ (by decide)
  · rw [if_neg h1, if_neg h2, if_neg h3, if_neg h4, if_neg h5]
    exact ⟨rfl, hb.F, hb.f, Fr.rf⟩
/-- acts from p on: how many are done, the fen, whether one was refused -/
def wkX (ev : (Nat → Int32) → Int32) (c : Nat → Int32) (t : Nat) : Nat → Nat → Nat → FS → Nat × FS × Bool
  | 0, _, d, F => (d, F, false)
  | m + 1, p, d, F => if p < t then (if (actS ev F c p).1 < 0 then (d, (actS ev F c p).2, true) else wkX ev c t m (p + 1 + adN (c p)) (d + 1) (actS ev F c p).2) else (d, F, false)
def weekE (A : AS) : Nat × FS × Bool := wkX A.ev A.X.2 A.X.1 81 0 0 A.F
def weekC (A : AS) : Int32 × AS := match weekW A.X.1 A.X.2 with
  | some p => (-1 - nI p, A.wX (cutX A.X 0))
  | none => (nI (weekE A).1, (((A.wX (cutX A.X 0)).wF (weekE A).2.1).wU (if (weekE A).1 = 0 then A.U else (snapF A.F :: A.U).take 12)).wR [(bI (weekE A).2.2).toInt64, (fSd (weekE A).2.1).toInt64])
theorem week_le {t : Nat} {c : Nat → Int32} {p : Nat} (h : weekW t c = some p) : p ≤ 60 := by
  have hb : ∀ m p d q e, wkS c m p d = (some q, e) → q < p + m := by
    intro m
    induction m with
    | zero => intro p d q e h; exact absurd h (by simp [wkS])
    | succ m ih =>
      intro p d q e h
      rw [wkS] at h
      split at h
      · split at h
        · have := ih _ _ _ _ h; omega
        · injection h with h; injection h with h; omega
      · split at h
        · injection h with h; injection h with h; omega
        · have := ih _ _ _ _ h; omega
  unfold weekW at h
  split at h
  · rename_i q e hq
    have := hb _ _ _ _ _ hq
    injection h with h; omega
  · split at h
    · exact absurd h (by simp)
    · injection h with h; omega
theorem cb_wk {σ τ : Sto} {A : AS} {r s : Nat} (hb : CB σ A r s) (h : Fr [5, 6, 8, 9, 10, 19, 48, 51] σ τ) {G : FS} (hG : cOK τ 5 ∧ cF τ 5 = G) (hP : PP τ A.U A.K) : CB τ (A.wF G) r s :=
  hb.gen h hG (hb.kX h (by decide) (by decide)) hP rfl (hb.kH h (by decide) (by decide) (by decide)) (hb.kS h (by decide) (by decide) (by decide) (by decide)) (by decide)
theorem cc_week (k : Nat) (A : AS) : CC (k + 7) M_X11_week [] A (.int (weekC A).1) (weekC A).2 := by
  intro σ hv
  obtain ⟨r, s, hb⟩ := hv.b
  obtain ⟨t80, -, et⟩ := hb.t80
  refine EvM.of mk_X11_week (Nat.le_of_ble_eq_true rfl) ?_
  refine wpW K_X11_week [40] 60 ?_
  refine ⟨_, ev_weekW _ σ hb, ?_⟩
  rintro w τ'' ⟨h9, rfl⟩
  obtain rfl := h9.symm
  unfold weekC
  generalize hT : weekW A.X.1 A.X.2 = T
  match T, hT with
  | some p, hT =>
    have hp : ¬ nI p = -1 := ne_m1 (by have := week_le hT; omega)
    refine ⟨fun q => absurd q hp, fun _ => ?_⟩
    obtain ⟨b1, f1⟩ := cb_cut hb
    exact ⟨rfl, ⟨⟨r, s, b1⟩, tOK_fr f1 (by decide) (by decide) hv.t, (tR_fr f1 (by decide) (by decide)).trans hv.R⟩, f1.C (by decide)⟩
  | none, hT =>
    refine ⟨fun _ => ⟨_, ev_marks _ σ hb.P, ?_⟩, fun q => absurd rfl q⟩
    rintro w σ1 ⟨rfl, p1, f1⟩
    rw [hb.F] at p1
    have fin : ∀ τ G d (p : Nat) (b : Bool), d ≤ 1000 → CB τ (A.wF G) r s → PM τ A.U A.K (snapF A.F) → Fr [5, 6, 8, 9, 10, 19, 48, 51] σ τ → weekE A = (d, G, b) → WW M_X11_week (k + 7) (fun w τ => w = some (.int (nI (weekE A).1)) ∧ CV τ ((((A.wX (cutX A.X 0)).wF (weekE A).2.1).wU (if (weekE A).1 = 0 then A.U else (snapF A.F :: A.U).take 12)).wR [(bI (weekE A).2.2).toInt64, (fSd (weekE A).2.1).toInt64]) ∧ Fr lC σ τ) 105 [some (.ref 0), some (.int (-1)), some (.int (nI d)), some (.int (bI b)), some (.int (nI p))] [] τ := by
      intro τ G d p b hd hbt hP hf hE
      rw [hE]
      refine wpW K_X11_week [113] 60 ?_
      show WW M_X11_week _ _ 113 _ _ (sI τ 1 1 0)
      obtain ⟨b2, f2⟩ := cb_cut hbt
      have P2 : PM (sI τ 1 1 0) A.U A.K (snapF A.F) := PM_fr f2 (by decide) (by decide) hP
      generalize sI τ 1 1 0 = τ2 at b2 f2 P2 ⊢
      have fin2 : ∀ τ3, Fr [18] τ2 τ3 → PP τ3 (if d = 0 then A.U else (snapF A.F :: A.U).take 12) A.K → WW M_X11_week (k + 7) (fun w τ => w = some (.int (nI d)) ∧ CV τ ((((A.wX (cutX A.X 0)).wF G).wU (if d = 0 then A.U else (snapF A.F :: A.U).take 12)).wR [(bI b).toInt64, (fSd G).toInt64]) ∧ Fr lC σ τ) 124 [some (.ref 0), some (.int (-1)), some (.int (nI d)), some (.int (bI b)), some (.int (nI p))] [] τ3 := by
        intro τ3 f3 P3
        have b3 : CB τ3 ((((A.wX (cutX A.X 0)).wF G).wU (if d = 0 then A.U else (snapF A.F :: A.U).take 12))) r s :=
          b2.gen f3 (b2.kF f3 (by decide)) (b2.kX f3 (by decide) (by decide)) P3 rfl (b2.kH f3 (by decide) (by decide) (by decide)) (b2.kS f3 (by decide) (by decide) (by decide) (by decide)) (by decide)
        have ff : Fr lC σ τ3 := ((hf.C (by decide)).tr (f2.C (by decide))).tr (f3.C (by decide))
        have sd : gI τ3 5 7 = fSd G := by
          have := b3.F
          rw [show fSd G = fSd (cF τ3 5) by rw [this]; rfl]; rfl
        refine wpW K_X11_week [] 60 ?_
        refine ⟨fun h => ⟨_, ev_rtell2 _ _ _ _, ?_⟩, fun h => ⟨_, ev_rtell2 _ _ _ _, ?_⟩⟩
        · rintro w τ4 ⟨rfl, e4, k4, f4⟩
          rw [sd] at e4
          have c := cv_end b3 (f4.up _ (by decide)) k4 e4
          rw [(bI_eq _).mp h]
          exact ⟨rfl, c.1, ff.tr c.2⟩
        · rintro w τ4 ⟨rfl, e4, k4, f4⟩
          rw [sd] at e4
          have c := cv_end b3 (f4.up _ (by decide)) k4 e4
          rw [(bI_ne _).mp h]
          exact ⟨rfl, c.1, ff.tr c.2⟩
      refine wpW K_X11_week [124] 60 ?_
      refine ⟨fun h => ?_, fun h => ⟨_, ev_keepMarked _ τ2 P2, ?_⟩⟩
      · rw [show (0 : Int32) = nI 0 from rfl, le_of_nI (by omega) (by omega)] at h
        refine fin2 τ2 Fr.rf ?_
        rw [if_pos (by omega)]
        exact ⟨_, P2⟩
      · rw [show (0 : Int32) = nI 0 from rfl, le_of_nI (by omega) (by omega)] at h
        rintro w τ3 ⟨rfl, P3, f3⟩
        refine fin2 τ3 f3 ?_
        rw [if_neg (by omega)]
        exact P3
    refine loopI (α := Sto × FS × Nat × Nat) 40 (fun i a => [some (.ref 0), some (.int (-1)), some (.int (nI a.2.2.1)), some (.int 0), some (.int (nI a.2.2.2))]) (fun a => a.1) (fun i a => CB a.1 (A.wF a.2.1) r s ∧ PM a.1 A.U A.K (snapF A.F) ∧ Fr [5, 6, 8, 9, 10, 19, 48, 51] σ a.1 ∧ a.2.2.1 ≤ i ∧ i ≤ a.2.2.2 ∧ a.2.2.2 ≤ A.X.1 + 3 ∧ weekE A = wkX A.ev A.X.2 A.X.1 (81 - i) a.2.2.2 a.2.2.1 a.2.1) A.X.1 ?_ ?_ 0 (σ1, A.F, 0, 0) (Nat.zero_le _) ⟨cb_wk hb (f1.up _ (by decide)) (hb.kF f1 (by decide)) ⟨_, p1⟩, p1, f1.up _ (by decide), Nat.le_refl _, Nat.le_refl _, by simp only; omega, rfl⟩
    · rintro i ⟨τ, G, d, p⟩ hi ⟨b, P, f, hd, hp1, hp2, hE⟩ go
      simp only at b P f hd hp1 hp2 hE ⊢
      have et' : gI τ 1 1 = nI A.X.1 := b.t80.2.2
      rw [show 81 - i = (81 - (i + 1)) + 1 by omega, wkX] at hE
      refine wpW K_X11_week [40, 105] 60 ?_
      refine ⟨fun h => ?_, fun h => ⟨fun q => absurd rfl q, fun _ => ⟨_, ev_act _ τ b p (by omega), ?_⟩⟩⟩
      · rw [et', le_of_nI (by omega) (by omega)] at h
        rw [if_neg (by omega)] at hE
        exact fin τ G d p false (by omega) b P f hE
      rw [et', le_of_nI (by omega) (by omega)] at h
      rw [if_pos (by omega)] at hE
      rintro w τ2 ⟨rfl, c2, o2, f2⟩
      have c2 : cF τ2 5 = (actS A.ev G A.X.2 p).2 := c2
      have P2 : PM τ2 A.U A.K (snapF A.F) := PM_fr f2 (by decide) (by decide) P
      have ff := f.tr (f2.up _ (by decide))
      have b2 : CB τ2 (A.wF (actS A.ev G A.X.2 p).2) r s := cb_wk hb ff ⟨o2, c2⟩ ⟨_, P2⟩
      have hal := ad_le (A.X.2 p)
      have ep : nI p + (1 + nI (adN (A.X.2 p))) = nI (p + 1 + adN (A.X.2 p)) := by rw [show (1 : Int32) = nI 1 from rfl, add_nI, add_nI, Nat.add_assoc]
      have a0 : atX A.X (nI p) = A.X.2 p := at_X2 t80 (by omega)
      refine ⟨fun h3 => ⟨fun _ => ⟨_, ev_atX _ τ2 b2 _, ?_⟩, fun q => absurd rfl q⟩, fun h3 => ⟨fun q => absurd q (by decide), fun _ => ⟨_, ev_atX _ τ2 b2 _, ?_⟩⟩⟩
      · replace h3 : (0 : Int32) ≤ (actS A.ev G A.X.2 p).1 := h3
        rw [if_neg (Int32.not_lt.mpr h3)] at hE
        rintro w τ'' ⟨h9, rfl⟩
        obtain rfl := h9.symm
        rw [show (A.wF (actS A.ev G A.X.2 p).2).X = A.X from rfl, a0]
        refine ⟨_, ev_actDigits _ _ _, ?_⟩
        rintro w τ'' ⟨h9, rfl⟩
        obtain rfl := h9.symm
        refine go (τ2, (actS A.ev G A.X.2 p).2, d + 1, p + 1 + adN (A.X.2 p)) _ _ ?_ rfl ⟨b2, P2, ff, by simp only; omega, by simp only; omega, by simp only; omega, hE⟩
        simp only
        rw [← ep, ← nI_1 d]
        rfl
      · replace h3 : ¬ (0 : Int32) ≤ (actS A.ev G A.X.2 p).1 := h3
        rw [if_pos (Int32.not_le.mp h3)] at hE
        rintro w τ'' ⟨h9, rfl⟩
        obtain rfl := h9.symm
        rw [show (A.wF (actS A.ev G A.X.2 p).2).X = A.X from rfl, a0]
        refine ⟨_, ev_actDigits _ _ _, ?_⟩
        rintro w τ'' ⟨h9, rfl⟩
        obtain rfl := h9.symm
        have q := fin τ2 _ d (p + 1 + adN (A.X.2 p)) true (by omega) b2 P2 ff hE
        rw [← ep, show nI d = nI d + 0 from (Int32.add_zero _).symm] at q
        show WW M_X11_week _ _ 40 [some (.ref 0), some (.int (-1)), some (.int (nI d + 0)), some (.int 1), some (.int (nI p + (1 + nI (adN (A.X.2 p)))))] [] τ2
        refine wpW K_X11_week [105] 60 ?_
        exact ⟨fun _ => q, fun _ => ⟨fun _ => q, fun q => absurd q (by decide)⟩⟩
    · rintro ⟨τ, G, d, p⟩ ⟨b, P, f, hd, hp1, hp2, hE⟩
      simp only at b P f hd hp1 hp2 hE ⊢
      have et' : gI τ 1 1 = nI A.X.1 := b.t80.2.2
      refine wpW K_X11_week [105] 60 ?_
      have hE' : weekE A = (d, G, false) := by
        rw [hE, show 81 - A.X.1 = (81 - A.X.1 - 1) + 1 by omega, wkX, if_neg (by omega)]
      refine ⟨fun h => fin τ G d p false (by omega) b P f hE', fun h => ?_⟩
      rw [et', le_of_nI (by omega) (by omega)] at h; omega
