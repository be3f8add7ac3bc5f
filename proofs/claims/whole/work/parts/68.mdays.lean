/-! the model: sayings, roll calls, days -/
theorem ev_sayableM (k : Nat) (σ : Sto) (a : Nat) (ha : a = 53 ∨ a = 63) (ho : mOK σ a) (ev : (Nat → Int32) → Int32) (hR : MRu σ ev) (q : Nat) (hq : q < fN (mF σ a)) : EvM (k + 262) M_X12_sayable [.ref 52, .ref a, .int (nI q)] σ (fun v τ => v = some (.int (sayableS ev (mF σ a) q)) ∧ FM [60] jQ σ τ) := by
  obtain ⟨hn, hF⟩ := id ho
  have h7 := hF.1
  have hcan : ∀ τ, FM [60] jQ σ τ → ∀ i, i < fN (mF σ a) → EvM (k + 261) M_X12_canSay [.ref 52, .ref a, .int (nI q), .int (nI i)] τ (fun v τ' => v = some (.int (bI (canS ev (mF σ a) q i))) ∧ FM [60] jQ τ τ') := by
    intro τ f i hi
    have e : mF τ a = mF σ a := by rcases ha with rfl | rfl <;> exact mF_fr f (by decide) (by decide) (by decide)
    have o : mOK τ a := by rcases ha with rfl | rfl <;> exact mOK_fr f (by decide) (by decide) (by decide) ho
    have := ev_canSay k τ a ha o ev (hR.go f (by decide) (by decide)) q i (by rw [e]; exact hq) (by rw [e]; exact hi)
    rw [e] at this
    exact this
  generalize mF σ a = F at *
  refine EvM.of mk_X12_sayable (Nat.le_of_ble_eq_true rfl) ?_
  rcases ha with rfl | rfl
  all_goals
    refine wpW K_X12_sayable [5] 20 ?_
    refine loopI (α := Sto × Int32) 5 (fun i x => [some (.ref 52), some (.ref _), some (.int (nI q)), some (.int x.2), some (.int (nI i))]) (fun x => x.1) (fun i x => FM [60] jQ σ x.1 ∧ x.2 = fo (fun i b => if canS ev F q i then b ||| bt i else b) 0 i) (fN F) ?_ ?_ 0 (σ, 0) (Nat.zero_le _) ⟨FM.rf, rfl⟩
    · rintro i ⟨τ, b⟩ hi ⟨f, hI⟩ go
      simp only at f hI ⊢
      refine wpW K_X12_sayable [5] 30 ?_
      refine ⟨fun h => ?_, fun h => ⟨_, hcan τ f i hi, ?_⟩⟩
      · rw [f.i 1 (by decide), hn, le_of_nI (by omega) (by omega)] at h; omega
      rintro w τ' ⟨rfl, f'⟩
      refine ⟨fun h2 => ?_, fun h2 => ?_⟩
      · rw [bI_eq] at h2
        exact go (τ', b) _ _ (by rw [← nI_1]; show st1 (st1 _ _ _) _ _ = _; rw [or_0]; rfl) rfl ⟨f.tr f', by rw [fo, ← hI]; exact (if_neg (by rw [h2]; decide)).symm⟩
      · rw [bI_ne] at h2
        exact go (τ', b ||| bt i) _ _ (by rw [← nI_1]; rfl) rfl ⟨f.tr f', by rw [fo, ← hI]; exact (if_pos h2).symm⟩
    · rintro ⟨τ, b⟩ ⟨f, hI⟩
      simp only at f hI ⊢
      refine wpW K_X12_sayable [5] 30 ?_
      refine ⟨fun h => ?_, fun h => ?_⟩
      · exact ⟨by rw [hI]; rfl, f⟩
      · rw [f.i 1 (by decide), hn, le_of_nI (by omega) (by omega)] at h; omega
theorem ev_sayersM (k : Nat) (σ : Sto) (ho : mOK σ 53) (ev : (Nat → Int32) → Int32) (hR : MRu σ ev) (nm : Nat) (hnm : nm < fN (mF σ 53)) : EvM (k + 262) M_X12_sayers [.ref 52, .int (nI nm)] σ (fun v τ => v = some (.int (sayersS ev (mF σ 53) nm)) ∧ FM [60] jQ σ τ) := by
  obtain ⟨hn, hF⟩ := id ho
  have h7 := hF.1
  have hcan : ∀ τ, FM [60] jQ σ τ → ∀ i, i < fN (mF σ 53) → EvM (k + 261) M_X12_canSay [.ref 52, .ref 53, .int (nI i), .int (nI nm)] τ (fun v τ' => v = some (.int (bI (canS ev (mF σ 53) i nm))) ∧ FM [60] jQ τ τ') := by
    intro τ f i hi
    have e : mF τ 53 = mF σ 53 := mF_fr f (by decide) (by decide) (by decide)
    have := ev_canSay k τ 53 (Or.inl rfl) (mOK_fr f (by decide) (by decide) (by decide) ho) ev (hR.go f (by decide) (by decide)) i nm (by rw [e]; exact hi) (by rw [e]; exact hnm)
    rw [e] at this
    exact this
  generalize mF σ 53 = F at *
  refine EvM.of mk_X12_sayers (Nat.le_of_ble_eq_true rfl) ?_
  refine wpW K_X12_sayers [4] 20 ?_
  refine loopI (α := Sto × Int32) 4 (fun i x => [some (.ref 52), some (.int (nI nm)), some (.int x.2), some (.int (nI i))]) (fun x => x.1) (fun i x => FM [60] jQ σ x.1 ∧ x.2 = fo (fun q b => if canS ev F q nm then b ||| bt q else b) 0 i) (fN F) ?_ ?_ 0 (σ, 0) (Nat.zero_le _) ⟨FM.rf, rfl⟩
  · rintro i ⟨τ, b⟩ hi ⟨f, hI⟩ go
    simp only at f hI ⊢
    refine wpW K_X12_sayers [4] 30 ?_
    refine ⟨fun h => ?_, fun h => ⟨_, hcan τ f i hi, ?_⟩⟩
    · rw [f.i 1 (by decide), hn, le_of_nI (by omega) (by omega)] at h; omega
    rintro w τ' ⟨rfl, f'⟩
    refine ⟨fun h2 => ?_, fun h2 => ?_⟩
    · rw [bI_eq] at h2
      exact go (τ', b) _ _ (by rw [← nI_1]; show st1 (st1 _ _ _) _ _ = _; rw [or_0]; rfl) rfl ⟨f.tr f', by rw [fo, ← hI]; exact (if_neg (by rw [h2]; decide)).symm⟩
    · rw [bI_ne] at h2
      exact go (τ', b ||| bt i) _ _ (by rw [← nI_1]; rfl) rfl ⟨f.tr f', by rw [fo, ← hI]; exact (if_pos h2).symm⟩
  · rintro ⟨τ, b⟩ ⟨f, hI⟩
    simp only at f hI ⊢
    refine wpW K_X12_sayers [4] 30 ?_
    refine ⟨fun h => ?_, fun h => ?_⟩
    · exact ⟨by rw [hI]; rfl, f⟩
    · rw [f.i 1 (by decide), hn, le_of_nI (by omega) (by omega)] at h; omega
theorem mF_sA {σ : Sto} {a : Nat} (ha : a = 53 ∨ a = 63) (g : Nat → Int32) : mF (sA σ a g) a = mG (gI σ 52 1).toNatClampNeg (r7 (gA σ 54)) g := by rcases ha with rfl | rfl <;> rfl
theorem ev_goSaying (k : Nat) (σ : Sto) (a : Nat) (ha : a = 53 ∨ a = 63) (q nm : Nat) (hnm : nm < 7) : EvM (k + 1) M_X12_goSaying [.ref a, .int (nI q), .int (nI nm)] σ (fun v τ => v = none ∧ mF τ a = sayF (mF σ a) q nm ∧ FM [a] [] σ τ) := by
  have e1 : ∀ g : Nat → Int32, mG (gI σ 52 1).toNatClampNeg (r7 (gA σ 54)) (upd (upd (upd g (14 + nm) (nI q)) (21 + nm) 0) 29 (minS 9999 (g 29 + 1))) = sayF (mG (gI σ 52 1).toNatClampNeg (r7 (gA σ 54)) g) q nm := by
    intro g
    rw [mG_Sd, mG_Ag _ _ _ hnm, mG_Ho _ _ _ hnm]
    rfl
  refine EvM.of mk_X12_goSaying (Nat.le_of_ble_eq_true rfl) ?_
  rcases ha with rfl | rfl
  all_goals
    refine wpW K_X12_goSaying [] 60 ?_
    refine ⟨i14_30 hnm, i21_30 hnm, inN (i := 29) (n := 30) (by decide) (by decide), inN (i := 29) (n := 30) (by decide) (by decide), rfl, ?_, FM.sA (FM.sA (FM.sA FM.rf (by decide)) (by decide)) (by decide)⟩
    rw [c14 hnm, c21 hnm]
    refine Eq.trans ?_ (e1 _)
    unfold mF
    congr 1
    show upd (upd (upd _ _ _) _ _) _ (minS 9999 (upd (upd _ _ _) _ _ 29 + 1)) = _
    rw [upd, upd, if_neg (by omega), if_neg (by omega)]
    rfl
def FJ (a : Nat) (σ τ : Sto) (n : Nat) (F : FS) : Prop := mF τ a = F ∧ mOK τ a ∧ fN F = n ∧ FM [60, a] jQ σ τ
theorem FJ.n {a : Nat} {σ τ : Sto} {n : Nat} {F : FS} (h : FJ a σ τ n F) : gI τ 52 1 = nI n := by rw [h.2.1.1, h.1, h.2.2.1]
theorem FJ.ok {a : Nat} {σ τ : Sto} {n : Nat} {F : FS} (h : FJ a σ τ n F) : fsOK F := h.1 ▸ h.2.1.2
theorem FJ.rule {a : Nat} (ha : a = 53 ∨ a = 63) {σ τ : Sto} {n : Nat} {F : FS} (h : FJ a σ τ n F) {ev : (Nat → Int32) → Int32} (hR : MRu σ ev) : MRu τ ev := by
  rcases ha with rfl | rfl <;> exact hR.go h.2.2.2 (by decide) (by decide)
theorem FJ.q {a : Nat} (ha : a = 53 ∨ a = 63) {σ τ υ : Sto} {n : Nat} {F : FS} (h : FJ a σ τ n F) (f : FM [60] jQ τ υ) : FJ a σ υ n F := by
  rcases ha with rfl | rfl <;> exact ⟨(mF_fr f (by decide) (by decide) (by decide)).trans h.1, mOK_fr f (by decide) (by decide) (by decide) h.2.1, h.2.2.1, h.2.2.2.tr (f.up _ _ (by decide) (by decide))⟩
theorem FJ.w {a : Nat} (ha : a = 53 ∨ a = 63) {σ τ υ : Sto} {n : Nat} {F G : FS} (h : FJ a σ τ n F) (f : FM [a] [] τ υ) (e : mF υ a = G) (hn : fN G = n) (ho : fsOK G) : FJ a σ υ n G := by
  refine ⟨e, ⟨?_, by rw [e]; exact ho⟩, hn, ?_⟩
  · rw [f.i 1 (by decide), h.n, e, hn]
  · rcases ha with rfl | rfl <;> exact h.2.2.2.tr (f.up _ _ (by decide) (by decide))
theorem FJ.say (k : Nat) {a : Nat} (ha : a = 53 ∨ a = 63) {σ τ : Sto} {n : Nat} {F : FS} (h : FJ a σ τ n F) (q nm : Nat) (hq : q < n) (hnm : nm < n) : EvM (k + 1) M_X12_goSaying [.ref a, .int (nI q), .int (nI nm)] τ (fun v υ => v = none ∧ FJ a σ υ n (sayF F q nm)) := by
  have h7 := h.ok.1
  rw [h.2.2.1] at h7
  refine (ev_goSaying k τ a ha q nm (by omega)).post ?_
  rintro v υ ⟨rfl, e, f⟩
  rw [h.1] at e
  exact ⟨rfl, h.w ha f e h.2.2.1 (fs_say h.ok (by rw [h.2.2.1]; exact hq))⟩
theorem FJ.can (k : Nat) {a : Nat} (ha : a = 53 ∨ a = 63) {σ τ : Sto} {n : Nat} {F : FS} (h : FJ a σ τ n F) {ev : (Nat → Int32) → Int32} (hR : MRu σ ev) (q nm : Nat) (hq : q < n) (hnm : nm < n) : EvM (k + 261) M_X12_canSay [.ref 52, .ref a, .int (nI q), .int (nI nm)] τ (fun v υ => v = some (.int (bI (canS ev F q nm))) ∧ FJ a σ υ n F) := by
  have := ev_canSay k τ a ha h.2.1 ev (h.rule ha hR) q nm (by rw [h.1, h.2.2.1]; exact hq) (by rw [h.1, h.2.2.1]; exact hnm)
  rw [h.1] at this
  refine this.post ?_
  rintro v υ ⟨rfl, f⟩
  exact ⟨rfl, h.q ha f⟩
theorem FJ.refl {a : Nat} {σ : Sto} (ho : mOK σ a) : FJ a σ σ (fN (mF σ a)) (mF σ a) := ⟨rfl, ho, rfl, FM.rf⟩
theorem ev_goRoll (k : Nat) (σ : Sto) (a : Nat) (ha : a = 53 ∨ a = 63) (ho : mOK σ a) (ev : (Nat → Int32) → Int32) (hR : MRu σ ev) (q : Nat) (hq : q < fN (mF σ a)) : EvM (k + 262) M_X12_goRoll [.ref 52, .ref a, .int (nI q)] σ (fun v τ => v = some (.int (rollS ev (mF σ a) q (fN (mF σ a))).1) ∧ FJ a σ τ (fN (mF σ a)) (rollS ev (mF σ a) q (fN (mF σ a))).2) := by
  have h0 := FJ.refl ho
  have h7 := ho.2.1
  generalize mF σ a = F at *
  refine EvM.of mk_X12_goRoll (Nat.le_of_ble_eq_true rfl) ?_
  have key : ∀ i τ c, i ≤ fN F → FJ a σ τ (fN F) (rollS ev F q i).2 → c = (rollS ev F q i).1 → WW M_X12_goRoll (k + 262) (fun v τ => v = some (.int (rollS ev F q (fN F)).1) ∧ FJ a σ τ (fN F) (rollS ev F q (fN F)).2) 5 [some (.ref 52), some (.ref a), some (.int (nI q)), some (.int c), some (.int (nI i))] [] τ := by
    intro i τ c hi hJ hc
    refine loopI (α := Sto × Int32) 5 (fun i x => [some (.ref 52), some (.ref a), some (.int (nI q)), some (.int x.2), some (.int (nI i))]) (fun x => x.1) (fun i x => FJ a σ x.1 (fN F) (rollS ev F q i).2 ∧ x.2 = (rollS ev F q i).1) (fN F) ?_ ?_ i (τ, c) hi ⟨hJ, hc⟩
    · rintro i ⟨τ, c⟩ hi ⟨hJ, hc⟩ go
      simp only at hJ hc ⊢
      have hs : rollS ev F q (i + 1) = if canS ev (rollS ev F q i).2 q i then ((rollS ev F q i).1 + 1, sayF (rollS ev F q i).2 q i) else rollS ev F q i := rfl
      rcases ha with rfl | rfl
      all_goals
        refine wpW K_X12_goRoll [5] 30 ?_
        refine ⟨fun h => ?_, fun h => ⟨_, hJ.can k (by decide) hR q i hq hi, ?_⟩⟩
        · rw [hJ.n, le_of_nI (by omega) (by omega)] at h; omega
        rintro w τ' ⟨rfl, hJ'⟩
        refine ⟨fun h2 => ⟨_, hJ'.say _ (by decide) q i hq hi, ?_⟩, fun h2 => ?_⟩
        · rw [bI_ne] at h2
          rintro w τ'' ⟨rfl, hJ2⟩
          refine go (τ'', c + 1) _ _ (by rw [← nI_1]; rfl) rfl ?_
          simp only [hs, if_pos h2]
          exact ⟨hJ2, by rw [hc]⟩
        · rw [bI_eq] at h2
          refine go (τ', c) _ _ (by rw [← nI_1]; rfl) rfl ?_
          simp only [hs, if_neg (show ¬ canS ev (rollS ev F q i).2 q i = true by rw [h2]; decide)]
          exact ⟨hJ', hc⟩
    · rintro ⟨τ, c⟩ ⟨hJ, hc⟩
      simp only at hJ hc ⊢
      rcases ha with rfl | rfl
      all_goals
        refine wpW K_X12_goRoll [5] 30 ?_
        refine ⟨fun h => ?_, fun h => ?_⟩
        · exact ⟨by rw [hc], hJ⟩
        · rw [hJ.n, le_of_nI (by omega) (by omega)] at h; omega
  rcases ha with rfl | rfl
  all_goals
    refine wpW K_X12_goRoll [5] 30 ?_
    exact key 0 σ 0 (Nat.zero_le _) h0 rfl
