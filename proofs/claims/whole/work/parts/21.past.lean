/-! fens as they were -/
def seg (g : Nat → Int32) (a : Nat) : Nat → Int32 := fun i => if i < 30 then g (30 * a + i) else 0
def snapF (F : FS) : Nat → Int32 := fun i => if i < 7 then fPl F i else if i < 14 then fPu F (i - 7) else if i < 21 then fHo F (i - 14) else if i < 28 then fAg F (i - 21) else if i = 28 then fDy F else if i = 29 then fSd F else 0
def backF (F : FS) (S : Nat → Int32) : FS := mkF (fN F) (r7 S) (fVo F) (r7 (fun i => S (7 + i))) (r7 (fun i => S (14 + i))) (r7 (fun i => S (21 + i))) (S 28) (S 29)
theorem seg_wr (F : FS) (a b : Nat) (g : Nat → Int32) : seg (wrF F (30 * a) g) b = if b = a then snapF F else seg g b := by
  funext i
  by_cases hb : b = a
  · subst hb
    rw [if_pos rfl]
    unfold seg snapF wrF
    by_cases hi : i < 30
    · rw [if_pos hi]
      repeat' split
      all_goals first | omega | rfl | (congr 1; omega)
    · rw [if_neg hi]
      repeat' split
      all_goals first | omega | rfl
  · rw [if_neg hb]
    unfold seg wrF
    by_cases hi : i < 30
    · rw [if_pos hi, if_pos hi, if_neg (by omega), if_neg (by omega), if_neg (by omega), if_neg (by omega), if_neg (by omega), if_neg (by omega)]
    · rw [if_neg hi, if_neg hi]
theorem rd_seg (F : FS) (g : Nat → Int32) (a : Nat) : rdF F g (30 * a) = backF F (seg g a) := by
  unfold rdF backF
  have e : ∀ c, c + 7 ≤ 30 → r7 (fun i => g (30 * a + c + i)) = r7 (fun i => seg g a (c + i)) := by
    intro c hc
    funext i
    unfold r7 seg
    by_cases hi : i < 7
    · rw [if_pos hi, if_pos hi]
      show g _ = ite (c + i < 30) (g (30 * a + (c + i))) 0
      rw [if_pos (by omega)]
      congr 1; omega
    · rw [if_neg hi, if_neg hi]
  have e0 : r7 (fun i => g (30 * a + i)) = r7 (seg g a) := by
    funext i
    unfold r7 seg
    by_cases hi : i < 7
    · rw [if_pos hi, if_pos hi, if_pos (by omega)]
    · rw [if_neg hi, if_neg hi]
  rw [e 7 (by omega), e 14 (by omega), e 21 (by omega), e0]
  rfl
theorem back_snap {F G : FS} (hn : fN G = fN F) (hv : fVo G = fVo F) (h1 : fPl F = r7 (fPl F)) (h2 : fPu F = r7 (fPu F)) (h3 : fHo F = r7 (fHo F)) (h4 : fAg F = r7 (fAg F)) : backF G (snapF F) = F := by
  have e : ∀ (c : Nat) (P : Nat → Int32), P = r7 P → (∀ i, i < 7 → snapF F (c + i) = P i) → r7 (fun i => snapF F (c + i)) = P := by
    intro c P hP h
    rw [hP]
    funext i
    unfold r7
    by_cases hi : i < 7
    · rw [if_pos hi, if_pos hi]; exact h i hi
    · rw [if_neg hi, if_neg hi]
  have e0 : r7 (snapF F) = fPl F := by
    have := e 0 (fPl F) h1 (fun i hi => by rw [Nat.zero_add]; simp [snapF, hi])
    simpa using this
  unfold backF
  rw [hn, hv, e0, e 7 (fPu F) h2 (fun i hi => by unfold snapF; rw [if_neg (by omega), if_pos (by omega)]; congr 1; omega), e 14 (fHo F) h3 (fun i hi => by unfold snapF; rw [if_neg (by omega), if_neg (by omega), if_pos (by omega)]; congr 1; omega), e 21 (fAg F) h4 (fun i hi => by unfold snapF; rw [if_neg (by omega), if_neg (by omega), if_neg (by omega), if_pos (by omega)]; congr 1; omega)]
  rfl
/-- what can be undone (the latest first), what is kept, and what lies marked -/
def PM (σ : Sto) (u : List (Nat → Int32)) (kp : Nat → Option (Nat → Int32)) (S : Nat → Int32) : Prop := ∃ a z s, gI σ 18 1 = nI a ∧ a < 13 ∧ gI σ 18 3 = nI z ∧ z ≤ 12 ∧ gI σ 18 2 = nI s ∧ s < 4 ∧ u = (List.range z).map (fun j => seg (gA σ 19) ((a + 12 - j) % 13)) ∧ (∀ i, kp i = if i < 2 ∧ s / 2 ^ i % 2 = 1 then some (seg (gA σ 19) (13 + i)) else none) ∧ seg (gA σ 19) a = S
def PP (σ : Sto) (u : List (Nat → Int32)) (kp : Nat → Option (Nat → Int32)) : Prop := ∃ S, PM σ u kp S
theorem PM_fr {l : List Nat} {σ τ : Sto} {u : List (Nat → Int32)} {kp : Nat → Option (Nat → Int32)} {S : Nat → Int32} (h : Fr l σ τ) (h1 : 18 ∉ l) (h2 : 19 ∉ l) (hP : PM σ u kp S) : PM τ u kp S := by
  unfold PM at hP ⊢
  simp only [h.I h1, h.A h2]
  exact hP
theorem PP_fr {l : List Nat} {σ τ : Sto} {u : List (Nat → Int32)} {kp : Nat → Option (Nat → Int32)} (h : Fr l σ τ) (h1 : 18 ∉ l) (h2 : 19 ∉ l) (hP : PP σ u kp) : PP τ u kp := by
  obtain ⟨S, hS⟩ := hP
  exact ⟨S, PM_fr h h1 h2 hS⟩
theorem mul30 (a : Nat) : nI a * 30 = nI (30 * a) := by
  rw [show (30 : Int32) = nI 30 from rfl, pk_mul, Nat.mul_comm]
theorem ev_marks (k : Nat) (σ : Sto) {u : List (Nat → Int32)} {kp : Nat → Option (Nat → Int32)} (hP : PP σ u kp) : EvM (k + 2) M_X3_marks [.ref 18, .ref 5] σ (fun v τ => v = none ∧ PM τ u kp (snapF (cF σ 5)) ∧ Fr [19] σ τ) := by
  obtain ⟨S, a, z, s, h1, h2, h3, h4, h5, h6, h7, h8, h9⟩ := hP
  refine EvM.of mk_X3_marks (Nat.le_of_ble_eq_true rfl) ?_
  refine wpW K_X3_marks [] 20 ?_
  refine ⟨_, by rw [h1, mul30]; exact ev_writes k σ (30 * a) (by omega), ?_⟩
  rintro v τ ⟨rfl, rfl⟩
  refine ⟨rfl, ⟨a, z, s, h1, h2, h3, h4, h5, h6, ?_, fun i => ?_, ?_⟩, fr_one⟩
  · rw [h7]
    apply List.map_congr_left
    intro j hj
    have := List.mem_range.mp hj
    rw [gA_eq, seg_wr, if_neg (by omega)]
  · rw [h8 i, gA_eq, seg_wr, if_neg (c := 13 + i = a) (by omega)]
  · rw [gA_eq, seg_wr, if_pos rfl]
theorem push_u (g : Nat → Int32) (a z : Nat) (ha : a < 13) (hz : z ≤ 12) : (List.range (min 12 (z + 1))).map (fun j => seg g (((a + 1) % 13 + 12 - j) % 13)) = (seg g a :: (List.range z).map (fun j => seg g ((a + 12 - j) % 13))).take 12 := by
  apply List.ext_getElem?
  intro i
  rw [List.getElem?_take, List.getElem?_map]
  by_cases h12 : i < 12
  · rw [if_pos h12]
    cases i with
    | zero =>
      rw [List.getElem?_cons_zero, List.getElem?_range (by omega)]
      simp only [Option.map_some]
      congr 2; omega
    | succ i =>
      rw [List.getElem?_cons_succ, List.getElem?_map]
      by_cases hi : i < z
      · rw [List.getElem?_range (by omega), List.getElem?_range hi]
        simp only [Option.map_some]
        congr 2; omega
      · rw [List.getElem?_eq_none (by simp; omega), List.getElem?_eq_none (by simp; omega)]
        rfl
  · rw [if_neg h12, List.getElem?_eq_none (by simp; omega)]
    rfl
theorem ev_keepMarked (k : Nat) (σ : Sto) {u : List (Nat → Int32)} {kp : Nat → Option (Nat → Int32)} {S : Nat → Int32} (hP : PM σ u kp S) : EvM (k + 1) M_X3_keepMarked [.ref 18] σ (fun v τ => v = none ∧ PP τ ((S :: u).take 12) kp ∧ Fr [18] σ τ) := by
  obtain ⟨a, z, s, h1, h2, h3, h4, h5, h6, h7, h8, h9⟩ := hP
  refine EvM.of mk_X3_keepMarked (Nat.le_of_ble_eq_true rfl) ?_
  refine wpW K_X3_keepMarked [] 40 ?_
  refine ⟨by decide, rfl, ?_⟩
  have e1 : gI σ 18 1 + 1 - (gI σ 18 1 + 1) / 13 * 13 = nI ((a + 1) % 13) := by
    rw [h1, nI_1, show (13 : Int32) = nI 13 from rfl, pk_rem (by omega) (by omega) (by omega)]
  have e2 : minS 12 (gI σ 18 3 + 1) = nI (min 12 (z + 1)) := by
    rw [h3, nI_1, minS, show (12 : Int32) = nI 12 from rfl]
    by_cases hz : z + 1 < 12
    · rw [if_pos ((lt_of_nI (by omega) (by omega)).mpr hz), Nat.min_eq_right (by omega)]
    · rw [if_neg (fun h => hz ((lt_of_nI (by omega) (by omega)).mp h)), Nat.min_eq_left (by omega)]
  refine ⟨⟨_, (a + 1) % 13, min 12 (z + 1), s, ?_, by omega, ?_, by omega, h5, h6, ?_, h8, rfl⟩, (Fr.rf.sI (by simp)).sI (by simp)⟩
  · exact e1
  · exact e2
  · rw [h7, ← h9]
    exact (push_u (gA σ 19) a z h2 h4).symm
theorem ev_bringsBack (k : Nat) (σ : Sto) {u : List (Nat → Int32)} {kp : Nat → Option (Nat → Int32)} (hP : PP σ u kp) : EvM (k + 2) M_X3_bringsBack [.ref 18, .ref 5] σ (fun v τ => match u with
    | [] => v = some (.int 0) ∧ τ = σ
    | S :: u' => v = some (.int 1) ∧ cF τ 5 = backF (cF σ 5) S ∧ gI τ 5 5 = gI σ 5 5 ∧ PP τ u' kp ∧ Fr [18, 5, 6, 8, 9, 10] σ τ) := by
  obtain ⟨S, a, z, s, h1, h2, h3, h4, h5, h6, h7, h8, h9⟩ := hP
  refine EvM.of mk_X3_bringsBack (Nat.le_of_ble_eq_true rfl) ?_
  cases z with
  | zero =>
    have hu : u = [] := by rw [h7]; rfl
    subst hu
    refine wpW K_X3_bringsBack [] 40 ?_
    refine ⟨fun h => ?_, fun h => ⟨Or.inl rfl, rfl, rfl⟩⟩
    rw [h3] at h
    exact absurd h (by decide)
  | succ z =>
    have hu : u = seg (gA σ 19) ((a + 12) % 13) :: (List.range z).map (fun j => seg (gA σ 19) (((a + 12) % 13 + 12 - j) % 13)) := by
      rw [h7, List.range_succ_eq_map, List.map_cons, List.map_map]
      congr 1
      apply List.map_congr_left
      intro j hj
      have := List.mem_range.mp hj
      show seg _ _ = seg _ _
      congr 1
      omega
    subst hu
    have e1 : gI σ 18 1 + 13 - 1 - (gI σ 18 1 + 13 - 1) / 13 * 13 = nI ((a + 12) % 13) := by
      rw [h1, show nI a + 13 - 1 = nI (a + 12) from by rw [show (13 : Int32) = nI 13 from rfl, nI_add]; exact nI_pred (a + 12), show (13 : Int32) = nI 13 from rfl, pk_rem (by omega) (by omega) (by omega)]
    have e2 : gI σ 18 3 - 1 = nI z := by rw [h3]; exact nI_pred z
    refine wpW K_X3_bringsBack [35] 40 ?_
    refine ⟨fun h => ⟨by decide, ?_⟩, fun h => ?_⟩
    · generalize hτ : sI (sI σ 18 3 (gI σ 18 3 - 1)) 18 1 (gI σ 18 1 + 13 - 1 - (gI σ 18 1 + 13 - 1) / 13 * 13) = τ
      have hw : WW M_X3_bringsBack (k + 2) (fun v τ => v = some (.int 1) ∧ cF τ 5 = backF (cF σ 5) (seg (gA σ 19) ((a + 12) % 13)) ∧ gI τ 5 5 = gI σ 5 5 ∧ PP τ ((List.range z).map (fun j => seg (gA σ 19) (((a + 12) % 13 + 12 - j) % 13))) kp ∧ Fr [18, 5, 6, 8, 9, 10] σ τ) 35 [some (.ref 18), some (.ref 5)] [] τ := by
        have t1 : gI τ 18 1 = nI ((a + 12) % 13) := by rw [← hτ]; exact e1
        have t3 : gI τ 18 3 = nI z := by rw [← hτ]; exact e2
        have t2 : gI τ 18 2 = nI s := by rw [← hτ]; exact h5
        have tA : gA τ 19 = gA σ 19 := by rw [← hτ]; rfl
        have tF : cF τ 5 = cF σ 5 := by rw [← hτ]; rfl
        have t5 : gI τ 5 5 = gI σ 5 5 := by rw [← hτ]; rfl
        have tfr : Fr [18, 5, 6, 8, 9, 10] σ τ := by rw [← hτ]; exact (Fr.rf.sI (by simp)).sI (by simp)
        refine wpW K_X3_bringsBack [] 40 ?_
        refine ⟨_, by rw [t1, mul30]; exact ev_readsBack k τ (30 * ((a + 12) % 13)) (by omega), ?_⟩
        rintro v υ ⟨rfl, b1, b2, b3⟩
        refine ⟨Or.inr rfl, rfl, ?_, by rw [b2, t5], ?_, tfr.tr (b3.mono (by simp))⟩
        · rw [b1, tA, tF, rd_seg]
        · refine ⟨_, (a + 12) % 13, z, s, by rw [b3.I (by decide)]; exact t1, by omega, by rw [b3.I (by decide)]; exact t3, by omega, by rw [b3.I (by decide)]; exact t2, h6, ?_, ?_, rfl⟩
          · rw [b3.A (by decide), tA]
          · intro i; rw [b3.A (by decide), tA]; exact h8 i
      rw [← hτ] at hw
      exact hw
    · exfalso; apply h
      rw [h3, show (0 : Int32) = nI 0 from rfl, lt_of_nI (by omega) (by omega)]
      omega
theorem ev_forgetsAll (k : Nat) (σ : Sto) {u : List (Nat → Int32)} {kp : Nat → Option (Nat → Int32)} (hP : PP σ u kp) : EvM k M_X3_forgetsAll [.ref 18] σ (fun v τ => v = none ∧ PP τ [] (fun _ => none) ∧ Fr [18] σ τ) := by
  obtain ⟨S, a, z, s, h1, h2, h3, h4, h5, h6, h7, h8, h9⟩ := hP
  refine EvM.of mk_X3_forgetsAll (Nat.le_of_ble_eq_true rfl) ?_
  refine wpW K_X3_forgetsAll [] 40 ?_
  exact ⟨rfl, ⟨_, a, 0, 0, h1, h2, rfl, by omega, rfl, by omega, rfl, fun i => by simp, rfl⟩, (Fr.rf.sI (by simp)).sI (by simp)⟩
theorem sh_or : ∀ s, s < 4 → ∀ i, i < 2 → nI s ||| (1 : Int32) <<< (nI i &&& 31) = nI (s ||| 2 ^ i) ∧ (s ||| 2 ^ i) < 4 ∧ ∀ j, j < 2 → ((s ||| 2 ^ i) / 2 ^ j % 2 = 1 ↔ (j = i ∨ s / 2 ^ j % 2 = 1)) := by decide
theorem sh_bit : ∀ s, s < 4 → ∀ i, i < 2 → (nI s >>> (nI i &&& 31)) &&& 1 = nI (s / 2 ^ i % 2) := by decide
def putK (kp : Nat → Option (Nat → Int32)) (i : Nat) (S : Nat → Int32) : Nat → Option (Nat → Int32) := fun j => if j = i then some S else kp j
theorem lt2_in {x : Int32} (h1 : ¬ x < 0) (h2 : x < 2) : ∃ i, i < 2 ∧ x = nI i := by
  rw [Int32.lt_iff_toInt_lt] at h1 h2
  simp at h1
  have h2' : x.toInt < 2 := h2
  obtain ⟨j, q1, q2⟩ := vp_in_of (x := x) (n := 2) (vp_in_iff.mpr ⟨by omega, h2'⟩) (by omega)
  exact ⟨j, q1, q2⟩
theorem ev_shelves (k : Nat) (σ : Sto) {u : List (Nat → Int32)} {kp : Nat → Option (Nat → Int32)} (hP : PP σ u kp) (x : Int32) : EvM (k + 2) M_X3_shelves [.ref 18, .int x, .ref 5] σ (fun v τ => if inS 2 x then v = some (.int 1) ∧ PP τ u (putK kp x.toNatClampNeg (snapF (cF σ 5))) ∧ Fr [18, 19] σ τ else v = some (.int 0) ∧ τ = σ) := by
  obtain ⟨S, a, z, s, h1, h2, h3, h4, h5, h6, h7, h8, h9⟩ := hP
  refine EvM.of mk_X3_shelves (Nat.le_of_ble_eq_true rfl) ?_
  have out : (x < 0 ∨ ¬ x < 2) → inS 2 x = false := by
    intro h
    apply decide_eq_false
    rw [Int32.lt_iff_toInt_lt, Int32.lt_iff_toInt_lt] at h
    have e0 : (0 : Int32).toInt = 0 := rfl
    have e2 : (2 : Int32).toInt = 2 := rfl
    rw [e0, e2] at h
    omega
  refine wpW K_X3_shelves [] 40 ?_
  refine ⟨fun h => ⟨Or.inl rfl, ?_⟩, fun h => ⟨fun h' => ?_, fun h' => ⟨Or.inl rfl, ?_⟩⟩⟩
  · rw [out (Or.inl h)]; exact ⟨rfl, rfl⟩
  · obtain ⟨i, hi, rfl⟩ := lt2_in h h'
    have hin : inS 2 (nI i) = true := decide_eq_true (by rw [nI_toInt (by omega)]; omega)
    rw [hin, nI_clamp (by omega)]
    have e1 : (13 + nI i) * 30 = nI (30 * (13 + i)) := by rw [show (13 : Int32) = nI 13 from rfl, nI_add, mul30]
    refine ⟨_, by rw [e1]; exact ev_writes k σ (30 * (13 + i)) (by omega), ?_⟩
    rintro v τ ⟨rfl, rfl⟩
    obtain ⟨q1, q2, q3⟩ := sh_or s h6 i hi
    refine ⟨Or.inr rfl, rfl, ⟨_, a, z, s ||| 2 ^ i, h1, h2, h3, h4, ?_, q2, ?_, fun j => ?_, rfl⟩, (Fr.rf.sA (by simp)).sI (by simp)⟩
    · show gI σ 18 2 ||| (1 : Int32) <<< (nI i &&& 31) = _
      rw [h5, q1]
    · rw [h7]
      apply List.map_congr_left
      intro j hj
      have := List.mem_range.mp hj
      show _ = seg (wrF (cF σ 5) (30 * (13 + i)) (gA σ 19)) _
      rw [seg_wr, if_neg (by omega)]
    · show putK kp i _ j = if j < 2 ∧ _ then some (seg (wrF (cF σ 5) (30 * (13 + i)) (gA σ 19)) (13 + j)) else none
      unfold putK
      by_cases hj : j = i
      · subst hj
        rw [if_pos rfl, seg_wr, if_pos rfl, if_pos ⟨hi, (q3 j hi).mpr (Or.inl rfl)⟩]
      · rw [if_neg hj, seg_wr, if_neg (c := 13 + j = 13 + i) (by omega), h8 j]
        by_cases hj2 : j < 2
        · have := q3 j hj2
          by_cases hb : s / 2 ^ j % 2 = 1
          · rw [if_pos ⟨hj2, hb⟩, if_pos ⟨hj2, this.mpr (Or.inr hb)⟩]
          · rw [if_neg (fun c => hb c.2), if_neg (fun c => (this.mp c.2).elim hj hb)]
        · rw [if_neg (fun c => hj2 c.1), if_neg (fun c => hj2 c.1)]
  · rw [out (Or.inr h')]; exact ⟨rfl, rfl⟩
theorem ev_unshelves (k : Nat) (σ : Sto) {u : List (Nat → Int32)} {kp : Nat → Option (Nat → Int32)} (hP : PP σ u kp) (x : Int32) : EvM (k + 2) M_X3_unshelves [.ref 18, .int x, .ref 5] σ (fun v τ => match (if inS 2 x then kp x.toNatClampNeg else none) with
    | some S => v = some (.int 1) ∧ cF τ 5 = backF (cF σ 5) S ∧ gI τ 5 5 = gI σ 5 5 ∧ PP τ [] kp ∧ Fr [18, 5, 6, 8, 9, 10] σ τ
    | none => v = some (.int 0) ∧ τ = σ) := by
  obtain ⟨S, a, z, s, h1, h2, h3, h4, h5, h6, h7, h8, h9⟩ := hP
  refine EvM.of mk_X3_unshelves (Nat.le_of_ble_eq_true rfl) ?_
  have out : (x < 0 ∨ 2 ≤ x) → inS 2 x = false := by
    intro h
    apply decide_eq_false
    rw [Int32.lt_iff_toInt_lt, Int32.le_iff_toInt_le] at h
    have e0 : (0 : Int32).toInt = 0 := rfl
    have e2 : (2 : Int32).toInt = 2 := rfl
    rw [e0, e2] at h
    omega
  refine wpW K_X3_unshelves [] 40 ?_
  refine ⟨fun h => ⟨Or.inl rfl, ?_⟩, fun h => ⟨fun h' => ⟨Or.inl rfl, ?_⟩, fun h' => ?_⟩⟩
  · rw [out (Or.inl h)]; exact ⟨rfl, rfl⟩
  · rw [out (Or.inr h')]; exact ⟨rfl, rfl⟩
  · obtain ⟨i, hi, rfl⟩ := lt2_in h (Int32.not_le.mp h')
    have hin : inS 2 (nI i) = true := decide_eq_true (by rw [nI_toInt (by omega)]; omega)
    rw [hin, nI_clamp (by omega)]
    simp only [if_true]
    have hb := sh_bit s h6 i hi
    have e1 : (13 + nI i) * 30 = nI (30 * (13 + i)) := by rw [show (13 : Int32) = nI 13 from rfl, nI_add, mul30]
    refine ⟨fun c => ⟨_, by rw [e1]; exact ev_readsBack k σ (30 * (13 + i)) (by omega), ?_⟩, fun c => ⟨Or.inl rfl, ?_⟩⟩
    · rw [h5, hb] at c
      have hs : s / 2 ^ i % 2 = 1 := by
        rcases Nat.mod_two_eq_zero_or_one (s / 2 ^ i) with e | e
        · rw [e] at c; exact absurd rfl c
        · exact e
      rw [h8 i, if_pos ⟨hi, hs⟩]
      rintro v υ ⟨rfl, b1, b2, b3⟩
      refine ⟨Or.inr rfl, rfl, ?_, b2, ⟨_, a, 0, s, ?_, h2, rfl, by omega, ?_, h6, rfl, fun j => ?_, rfl⟩, (b3.mono (by simp)).sI (by simp)⟩
      · show cF υ 5 = _
        rw [b1, rd_seg]
      · show gI υ 18 1 = _
        rw [b3.I (by decide)]; exact h1
      · show gI υ 18 2 = _
        rw [b3.I (by decide)]; exact h5
      · show kp j = if _ then some (seg (gA υ 19) _) else none
        rw [b3.A (by decide)]; exact h8 j
    · rw [h5, hb] at c
      have hs : ¬ s / 2 ^ i % 2 = 1 := fun e => by rw [e] at c; exact absurd c (by decide)
      rw [h8 i, if_neg (fun q => hs q.2)]
      exact ⟨rfl, rfl⟩
