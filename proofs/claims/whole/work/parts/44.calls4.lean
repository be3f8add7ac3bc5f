/-! the class's calls: days, what comes later -/
theorem cnd {x : Int32} {n : Nat} (hn : n ≤ 1000) : inS (n + 1) x = true ↔ ¬ x < 0 ∧ ¬ nI n < x := by
  unfold inS
  rw [decide_eq_true_eq, Int32.lt_iff_toInt_lt, Int32.lt_iff_toInt_lt, nI_toInt (by omega)]
  simp
  omega
def daysC (A : AS) (x : Int32) : Int32 × AS := if inS 61 x then
    (homesS (daysS A.ev (-1) (fN A.F) A.F x.toNatClampNeg), ((A.wF (daysS A.ev (-1) (fN A.F) A.F x.toNatClampNeg)).wU (if x.toNatClampNeg = 0 then A.U else (snapF A.F :: A.U).take 12)).wR [(fSd (daysS A.ev (-1) (fN A.F) A.F x.toNatClampNeg) - fSd A.F).toInt64, (sumS (fN A.F) (fPu (daysS A.ev (-1) (fN A.F) A.F x.toNatClampNeg))).toInt64])
  else (-1, A)
theorem CB.rk {l : List Nat} {σ τ : Sto} {A : AS} {r s : Nat} (hb : CB σ A r s) (h : Fr l σ τ) (hl : [0, 46, 47, 49, 50].all (fun a => !l.contains a) = true) : gR τ 0 11 = r + 1 ∧ RC τ r A.ev := by
  have n := fun a (ha : a ∈ [0, 46, 47, 49, 50]) => nmem (List.all_eq_true.mp hl a ha)
  refine ⟨(h.R (n 0 (by simp)) 11).trans hb.r1, ?_⟩
  rcases hb.r with rfl | rfl
  · exact RC_fr h (n 46 (by simp)) (n 47 (by simp)) hb.rc
  · exact RC_fr h (n 49 (by simp)) (n 50 (by simp)) hb.rc
theorem lD5 {r : Nat} (hr : r = 46 ∨ r = 49) {σ τ : Sto} (h : Fr (lD r 5) σ τ) : Fr [5, 8, 9, 10, 48, 51] σ τ := by
  rcases hr with rfl | rfl
  · exact h.up _ (by decide)
  · exact h.up _ (by decide)
theorem lD11 {r : Nat} (hr : r = 46 ∨ r = 49) {σ τ : Sto} (h : Fr (lD r 11) σ τ) : Fr [11, 14, 15, 16, 48, 51] σ τ := by
  rcases hr with rfl | rfl
  · exact h.up _ (by decide)
  · exact h.up _ (by decide)
theorem cc_days (k : Nat) (A : AS) (x : Int32) : CC (k + 6) M_X11_days [.int x] A (.int (daysC A x).1) (daysC A x).2 := by
  intro σ hv
  obtain ⟨r, s, hb⟩ := hv.b
  have hno : ¬ inS 61 x = true → some (Value.int (-1)) = some (Value.int (daysC A x).1) ∧ CV σ (daysC A x).2 ∧ Fr lC σ σ := by
    intro c
    unfold daysC
    rw [if_neg c]
    exact ⟨rfl, hv, Fr.rf⟩
  rw [cnd (n := 60) (by omega)] at hno
  refine EvM.of mk_X11_days (Nat.le_of_ble_eq_true rfl) ?_
  refine wpW K_X11_days [55] 60 ?_
  refine ⟨fun h => hno (fun q => q.1 h), fun h1 => ⟨fun h2 => ?_, fun h => hno (fun q => q.2 ?_)⟩⟩
  rotate_left
  · rw [Int32.lt_iff_toInt_lt]; rw [Int32.le_iff_toInt_le] at h; exact Int.lt_of_not_ge h
  have hin : inS 61 x = true := (cnd (n := 60) (by omega)).mpr ⟨h1, by rw [Int32.lt_iff_toInt_lt]; rw [Int32.le_iff_toInt_le] at h2; exact Int.not_lt.mpr h2⟩
  obtain ⟨d1, d2⟩ := inS_80 (by omega) hin
  unfold daysC
  rw [if_pos hin]
  generalize x.toNatClampNeg = d at d1 d2
  subst d2
  refine ⟨_, ev_marks _ σ hb.P, ?_⟩
  rintro w σ1 ⟨rfl, p1, f1⟩
  have b1 := hb.kF f1 (by decide)
  have r1 := hb.rk f1 (by decide)
  refine ⟨r, r1.1, ?_⟩
  refine ⟨_, ev_passDays _ σ1 r 5 hb.r (Or.inl rfl) b1.1 A.ev r1.2 d (by omega) _, ?_⟩
  rintro w σ2 ⟨rfl, c2, o2, n2, f2⟩
  have f2 := lD5 hb.r f2
  rw [b1.2] at c2 n2
  have sd : gI σ1 5 7 = fSd A.F := by rw [← b1.2]; rfl
  have sd2 : gI σ2 5 7 = fSd (daysS A.ev (-1) (fN A.F) A.F d) := by rw [← c2]; rfl
  have p2 : PM σ2 A.U A.K (snapF A.F) := by rw [← hb.F]; exact PM_fr f2 (by decide) (by decide) p1
  have n2' : fN (cF σ2 5) = fN A.F := by rw [c2]; exact n2
  have fin : ∀ σ3, Fr [18] σ2 σ3 → PP σ3 (if d = 0 then A.U else (snapF A.F :: A.U).take 12) A.K → WW M_X11_days (k + 6) (fun w τ => w = some (.int (homesS (daysS A.ev (-1) (fN A.F) A.F d))) ∧ CV τ (((A.wF (daysS A.ev (-1) (fN A.F) A.F d)).wU (if d = 0 then A.U else (snapF A.F :: A.U).take 12)).wR [(fSd (daysS A.ev (-1) (fN A.F) A.F d) - fSd A.F).toInt64, (sumS (fN A.F) (fPu (daysS A.ev (-1) (fN A.F) A.F d))).toInt64]) ∧ Fr lC σ τ) 55 [some (.ref 0), some (.int (nI d)), some (.int (fSd A.F))] [] σ3 := by
    intro σ3 f3 hp
    have f5 : ∀ j, j < 6 → 5 + j ∉ [18] := by decide
    have c3 := cF_fr f3 f5
    have o3 := cOK_fr f3 f5 o2
    refine wpW K_X11_days [] 60 ?_
    refine ⟨_, ev_purses _ σ3 5 (Or.inl rfl) o3, ?_⟩
    rintro v τ ⟨h9, rfl⟩
    obtain rfl := h9.symm
    refine ⟨_, ev_rtell2 _ _ _ _, ?_⟩
    rintro v σ4 ⟨rfl, t4, k4, f4⟩
    have f5' : ∀ j, j < 6 → 5 + j ∉ [3, 4] := by decide
    refine ⟨_, ev_homes _ σ4 5 (Or.inl rfl) (cOK_fr f4 f5' o3), ?_⟩
    rintro v τ' ⟨h9, rfl⟩
    obtain rfl := h9.symm
    rw [c3, n2', c2, show gI σ3 5 7 = gI σ2 5 7 from f3.I (by decide) 7, sd2] at t4
    refine ⟨by rw [cF_fr f4 f5', c3, c2], ?_⟩
    have ff : Fr [3, 4, 5, 8, 9, 10, 18, 19, 48, 51] σ σ4 := ((f1.up _ (by decide)).tr (f2.up _ (by decide))).tr ((f3.up _ (by decide)).tr (f4.up _ (by decide)))
    refine ⟨⟨⟨r, s, hb.gen ff ⟨cOK_fr f4 f5' o3, by rw [cF_fr f4 f5', c3]; exact c2⟩ (hb.kX ff (by decide) (by decide)) (PP_fr f4 (by decide) (by decide) hp) rfl (hb.kH ff (by decide) (by decide) (by decide)) (hb.kS ff (by decide) (by decide) (by decide) (by decide)) (by decide)⟩, k4, t4⟩, ff.C (by decide)⟩
  rw [sd]
  refine ⟨fun h => ?_, fun h => ?_⟩
  · have d0 : d = 0 := by
      rw [show (0 : Int32) = nI 0 from rfl, le_of_nI (by omega) (by omega)] at h; omega
    refine fin σ2 Fr.rf ?_
    rw [if_pos d0]
    exact ⟨_, p2⟩
  · have d0 : ¬ d = 0 := by
      rw [show (0 : Int32) = nI 0 from rfl, le_of_nI (by omega) (by omega)] at h; omega
    refine ⟨_, ev_keepMarked _ σ2 p2, ?_⟩
    rintro v σ3 ⟨rfl, p3, f3⟩
    refine fin σ3 f3 ?_
    rw [if_neg d0]
    exact p3
