/-! the model: days; rows laid into rows; what is remembered; what is refused -/
theorem FJ.day (k : Nat) {a : Nat} (ha : a = 53 ∨ a = 63) {σ τ : Sto} {n : Nat} {F : FS} (h : FJ a σ τ n F) (hf : fOK F) {ev : (Nat → Int32) → Int32} (hR : MRu σ ev) (sil : Int32) : EvM (k + 262) M_X12_goDay [.ref 52, .ref a, .int sil] τ (fun v υ => v = none ∧ FJ a σ υ n (dayS ev sil n F)) := by
  have := ev_goDay k τ a ha h.2.1 (by rw [h.1]; exact hf) ev (h.rule ha hR) sil
  rw [h.1, h.2.2.1] at this
  refine this.post ?_
  rintro v υ ⟨rfl, e1, e2, e3, e4⟩
  exact ⟨rfl, e1, e2, e3, h.2.2.2.tr e4⟩
theorem ev_goDays (k : Nat) (σ : Sto) (a : Nat) (ha : a = 53 ∨ a = 63) {σ0 : Sto} {n : Nat} {F : FS} (h : FJ a σ0 σ n F) (hf : fOK F) (ev : (Nat → Int32) → Int32) (hR : MRu σ0 ev) (d : Nat) (hd : d ≤ 1024) (sil : Int32) : EvM (k + 263) M_X12_goDays [.ref 52, .ref a, .int (nI d), .int sil] σ (fun v τ => v = none ∧ FJ a σ0 τ n (daysS ev sil n F d)) := by
  have hn : fN F = n := h.2.2.1
  refine EvM.of mk_X12_goDays (Nat.le_of_ble_eq_true rfl) ?_
  have key : WW M_X12_goDays (k + 263) (fun v τ => v = none ∧ FJ a σ0 τ n (daysS ev sil n F d)) 3 [some (.ref 52), some (.ref a), some (.int (nI d)), some (.int sil), some (.int (nI 0))] [] σ := by
    refine loopI (α := Sto) 3 (fun i x => [some (.ref 52), some (.ref a), some (.int (nI d)), some (.int sil), some (.int (nI i))]) (fun x => x) (fun i x => FJ a σ0 x n (daysS ev sil n F i)) d ?_ ?_ 0 σ (Nat.zero_le _) h
    · intro i τ hi hJ go
      have ho := (fok_days (ev := ev) (sil := sil) hf i).1
      rw [hn] at ho
      have hdy := hJ.day k ha ho hR sil
      rcases ha with rfl | rfl
      all_goals
        refine wpW K_X12_goDays [3] 30 ?_
        refine ⟨fun c => ?_, fun _ => ⟨_, hdy, ?_⟩⟩
        · rw [le_of_nI (by omega) (by omega)] at c; omega
        rintro w τ' ⟨rfl, hJ'⟩
        exact go τ' _ _ (by rw [← nI_1]; rfl) rfl hJ'
    · intro τ hJ
      rcases ha with rfl | rfl
      all_goals
        refine wpW K_X12_goDays [3] 30 ?_
        refine ⟨fun c => ⟨rfl, hJ⟩, fun c => ?_⟩
        rw [le_of_nI (by omega) (by omega)] at c; omega
  rcases ha with rfl | rfl
  all_goals
    refine wpW K_X12_goDays [3] 30 ?_
    exact key
def layF (g h : Nat → Int32) (m : Nat) : Nat → Int32 := fun j => if m ≤ j ∧ j < m + 30 then g (j - m) else h j
theorem ev_lay (k : Nat) (σ : Sto) (a b m N : Nat) (hab : (a = 53 ∧ b = 62 ∧ N = 30) ∨ (a = 53 ∧ b = 63 ∧ N = 30) ∨ (a = 53 ∧ b = 61 ∧ N = 360) ∨ (a = 62 ∧ b = 61 ∧ N = 360) ∨ (a = 53 ∧ b = 65 ∧ N = 150) ∨ (a = 63 ∧ b = 65 ∧ N = 150) ∨ (a = 53 ∧ b = 80 ∧ N = 60)) (hm : m + 30 ≤ N) : EvM k M_X12_lay [.ref a, .ref b, .int (nI m)] σ (fun v τ => v = none ∧ τ = sA σ b (layF (gA σ a) (gA σ b) m)) := by
  refine EvM.of mk_X12_lay (Nat.le_of_ble_eq_true rfl) ?_
  have hN : N ≤ 360 := by omega
  have hne : a ≠ b := by omega
  have e0 : σ = sA σ b (fun j => if m ≤ j ∧ j < m + 0 then gA σ a (j - m) else gA σ b j) := by
    rw [show (fun j => if m ≤ j ∧ j < m + 0 then gA σ a (j - m) else gA σ b j) = gA σ b from funext (fun j => if_neg (by omega)), sA_id]
  have es : ∀ i, i < 30 → sA (sA σ b (fun j => if m ≤ j ∧ j < m + i then gA σ a (j - m) else gA σ b j)) b (upd (gA (sA σ b (fun j => if m ≤ j ∧ j < m + i then gA σ a (j - m) else gA σ b j)) b) (m + i) (gA (sA σ b (fun j => if m ≤ j ∧ j < m + i then gA σ a (j - m) else gA σ b j)) a i)) = sA σ b (fun j => if m ≤ j ∧ j < m + (i + 1) then gA σ a (j - m) else gA σ b j) := by
    intro i hi
    rw [sA_sA, gA_eq, gA_ne hne]
    congr 1
    funext j
    unfold upd
    by_cases c : j = m + i
    · rw [if_pos c, if_pos (by omega), c, show m + i - m = i by omega]
    · rw [if_neg c]
      show (if m ≤ j ∧ j < m + i then gA σ a (j - m) else gA σ b j) = _
      by_cases d : m ≤ j ∧ j < m + i
      · rw [if_pos d, if_pos (by omega)]
      · rw [if_neg d, if_neg (by omega)]
  have key : WW M_X12_lay k (fun v τ => v = none ∧ τ = sA σ b (layF (gA σ a) (gA σ b) m)) 2 [some (.ref a), some (.ref b), some (.int (nI m)), some (.int (nI 0))] [] (sA σ b (fun j => if m ≤ j ∧ j < m + 0 then gA σ a (j - m) else gA σ b j)) := by
    refine loopI (α := Nat) 2 (fun i _ => [some (.ref a), some (.ref b), some (.int (nI m)), some (.int (nI i))]) (fun x => sA σ b (fun j => if m ≤ j ∧ j < m + x then gA σ a (j - m) else gA σ b j)) (fun i x => x = i) 30 ?_ ?_ 0 0 (Nat.zero_le _) rfl
    · rintro i x hi rfl go
      have ex := es x hi
      have hv : vp_in (nI m + nI x) N := by rw [add_nI]; exact vp_in_nI (by omega) (by omega)
      have hx : vp_in (nI x) 30 := vp_in_nI hi (by omega)
      have nx := go (x + 1) [some (.ref a), some (.ref b), some (.int (nI m)), some (.int (nI (x + 1)))] _ rfl rfl rfl
      rw [← ex, ← nI_1] at nx
      rw [show m + x = (nI m + nI x).toNatClampNeg by rw [add_nI, nI_clamp (by omega)], show (gA (sA σ b (fun j => if m ≤ j ∧ j < (nI m + nI x).toNatClampNeg then gA σ a (j - m) else gA σ b j)) a x) = (gA (sA σ b (fun j => if m ≤ j ∧ j < (nI m + nI x).toNatClampNeg then gA σ a (j - m) else gA σ b j)) a (nI x).toNatClampNeg) by rw [nI_clamp (n := x) (by omega)]] at nx
      rw [show m + x = (nI m + nI x).toNatClampNeg by rw [add_nI, nI_clamp (by omega)]]
      rcases hab with ⟨rfl, rfl, rfl⟩ | ⟨rfl, rfl, rfl⟩ | ⟨rfl, rfl, rfl⟩ | ⟨rfl, rfl, rfl⟩ | ⟨rfl, rfl, rfl⟩ | ⟨rfl, rfl, rfl⟩ | ⟨rfl, rfl, rfl⟩
      all_goals
        refine wpW K_X12_lay [2] 30 ?_
        refine ⟨fun c => ?_, fun _ => ⟨hx, hv, nx⟩⟩
        rw [show (30 : Int32) = nI 30 from rfl, le_of_nI (by omega) (by omega)] at c; omega
    · rintro x rfl
      rcases hab with ⟨rfl, rfl, rfl⟩ | ⟨rfl, rfl, rfl⟩ | ⟨rfl, rfl, rfl⟩ | ⟨rfl, rfl, rfl⟩ | ⟨rfl, rfl, rfl⟩ | ⟨rfl, rfl, rfl⟩ | ⟨rfl, rfl, rfl⟩
      all_goals
        refine wpW K_X12_lay [2] 30 ?_
        refine ⟨fun _ => ⟨rfl, rfl⟩, fun c => absurd (show (30 : Int32) ≤ nI 30 by decide) c⟩
  rw [← e0] at key
  rcases hab with ⟨rfl, rfl, rfl⟩ | ⟨rfl, rfl, rfl⟩ | ⟨rfl, rfl, rfl⟩ | ⟨rfl, rfl, rfl⟩ | ⟨rfl, rfl, rfl⟩ | ⟨rfl, rfl, rfl⟩ | ⟨rfl, rfl, rfl⟩
  all_goals
    refine wpW K_X12_lay [2] 30 ?_
    exact key
theorem snap_seg (σ : Sto) (a : Nat) : snapF (mF σ a) = seg (gA σ a) 0 := by
  funext i
  unfold snapF seg
  by_cases h0 : i < 30
  · rw [if_pos h0]
    by_cases h1 : i < 7
    · rw [if_pos h1]; show r7 (gA σ a) i = _; rw [r7_lt h1]; congr 1; omega
    rw [if_neg h1]
    by_cases h2 : i < 14
    · rw [if_pos h2]; show r7 (fun i => gA σ a (7 + i)) (i - 7) = _; rw [r7_lt (by omega)]; congr 1; omega
    rw [if_neg h2]
    by_cases h3 : i < 21
    · rw [if_pos h3]; show r7 (fun i => gA σ a (14 + i)) (i - 14) = _; rw [r7_lt (by omega)]; congr 1; omega
    rw [if_neg h3]
    by_cases h4 : i < 28
    · rw [if_pos h4]; show r7 (fun i => gA σ a (21 + i)) (i - 21) = _; rw [r7_lt (by omega)]; congr 1; omega
    rw [if_neg h4]
    by_cases h5 : i = 28
    · subst h5; rfl
    · have h6 : i = 29 := by omega
      subst h6; rfl
  · rw [if_neg h0, if_neg (by omega), if_neg (by omega), if_neg (by omega), if_neg (by omega), if_neg (by omega), if_neg (by omega)]
theorem seg_lay (g h : Nat → Int32) (m b : Nat) : seg (layF g h (30 * m)) b = if b = m then seg g 0 else seg h b := by
  funext i
  by_cases c : b = m
  · subst c
    rw [if_pos rfl]
    unfold seg layF
    by_cases hi : i < 30
    · rw [if_pos hi, if_pos hi, if_pos (by omega)]; congr 1; omega
    · rw [if_neg hi, if_neg hi]
  · rw [if_neg c]
    unfold seg layF
    by_cases hi : i < 30
    · rw [if_pos hi, if_pos hi, if_neg (by omega)]
    · rw [if_neg hi, if_neg hi]
def UV (σ : Sto) (U : List (Nat → Int32)) : Prop := gI σ 52 20 = nI U.length ∧ U.length ≤ 12 ∧ ∀ j, j < U.length → U[j]? = some (seg (gA σ 61) (U.length - 1 - j))
theorem UV.go {σ τ : Sto} {U : List (Nat → Int32)} (h : UV σ U) {l js : List Nat} (hf : FM l js σ τ) (hj : (!js.contains 20) = true) (hl : (!(52 :: l).contains 61) = true) : UV τ U := by
  unfold UV
  rw [hf.i 20 hj, hf.a 61 hl]
  exact h
theorem ev_remember (k : Nat) (σ : Sto) (a : Nat) (ha : a = 53 ∨ a = 62) {U : List (Nat → Int32)} (hU : UV σ U) : EvM (k + 1) M_X12_remember [.ref 52, .ref a] σ (fun v τ => v = none ∧ UV τ ((seg (gA σ a) 0 :: U).take 12) ∧ FM [61] [20] σ τ) := by
  obtain ⟨h1, h2, h3⟩ := hU
  refine EvM.of mk_X12_remember (Nat.le_of_ble_eq_true rfl) ?_
  have tail : ∀ (z : Nat) (τ : Sto) o, z ≤ 11 → gI τ 52 20 = nI z → FM [61] [20] σ τ → (∀ j, j < z → U[j]? = some (seg (gA τ 61) (z - 1 - j))) → z = min 11 U.length → WW M_X12_remember (k + 1) (fun v τ => v = none ∧ UV τ ((seg (gA σ a) 0 :: U).take 12) ∧ FM [61] [20] σ τ) 49 [some (.ref 52), some (.ref a), o] [] τ := by
    intro z τ o hz h20 hf hs hzm
    have ea : gA τ a = gA σ a := by rcases ha with rfl | rfl <;> exact hf.a _ (by decide)
    have hl := ev_lay k τ a 61 (30 * z) 360 (by omega) (by omega)
    have e30 : (30 : Int32) * gI τ 52 20 = nI (30 * z) := by rw [h20, ← mul30, Int32.mul_comm]
    rw [← e30] at hl
    have g2' : ∀ τ', τ' = sA τ 61 (layF (gA τ a) (gA τ 61) (30 * z)) → gA τ' 61 = layF (gA σ a) (gA τ 61) (30 * z) := fun τ' e => by rw [e, gA_eq, ea]
    rcases ha with rfl | rfl
    all_goals
      refine wpW K_X12_remember [] 30 ?_
      refine ⟨_, hl, ?_⟩
      rintro w τ' ⟨rfl, e⟩
      have f2 : FM [61] [20] σ τ' := by rw [e]; exact hf.sA (by decide)
      have g2 := g2' τ' e
      have i2 : gI τ' 52 20 = nI z := by rw [e]; exact h20
      refine ⟨rfl, ⟨?_, ?_, ?_⟩, f2.sI (by decide)⟩
      · show gI τ' 52 20 + 1 = _
        rw [i2, nI_1, List.length_take, List.length_cons]
        congr 1
        omega
      · rw [List.length_take, List.length_cons]; omega
      · intro j hj
        show _ = some (seg (gA τ' 61) _)
        rw [List.length_take, List.length_cons] at hj ⊢
        rw [List.getElem?_take_of_lt (by omega), g2, seg_lay]
        match j with
        | 0 => rw [if_pos (by omega)]; rfl
        | j + 1 =>
          rw [if_neg (by omega), List.getElem?_cons_succ, hs j (by omega)]
          congr 2
          omega
  have shift : U.length = 12 → WW M_X12_remember (k + 1) (fun v τ => v = none ∧ UV τ ((seg (gA σ a) 0 :: U).take 12) ∧ FM [61] [20] σ τ) 11 [some (.ref 52), some (.ref a), some (.int (nI 0))] [] σ := by
    intro h12
    refine loopI (α := Sto) 11 (fun i _ => [some (.ref 52), some (.ref a), some (.int (nI i))]) (fun x => x) (fun i x => FM [61] [20] σ x ∧ gI x 52 20 = gI σ 52 20 ∧ ∀ j, gA x 61 j = if j < i then gA σ 61 (j + 30) else gA σ 61 j) 330 ?_ ?_ 0 σ (Nat.zero_le _) ⟨FM.rf, rfl, fun j => (if_neg (by omega)).symm⟩
    · rintro i τ hi ⟨f, h20, hg⟩ go
      have c1 : (nI i + 30).toNatClampNeg = i + 30 := by rw [show (30 : Int32) = nI 30 from rfl, add_nI, nI_clamp (by omega)]
      have v1 : vp_in (nI i + 30) 360 := by rw [show (30 : Int32) = nI 30 from rfl, add_nI]; exact vp_in_nI (by omega) (by omega)
      have hgi : gA τ 61 (i + 30) = gA σ 61 (i + 30) := by rw [hg, if_neg (by omega)]
      rcases ha with rfl | rfl
      all_goals
        refine wpW K_X12_remember [11] 30 ?_
        refine ⟨fun c => ?_, fun _ => ⟨v1, vp_in_nI (show i < 360 by omega) (by omega), ?_⟩⟩
        · rw [show (330 : Int32) = nI 330 from rfl, le_of_nI (by omega) (by omega)] at c; omega
        refine go _ _ _ (by rw [← nI_1]; rfl) rfl ⟨f.sA (by decide), h20, fun j => ?_⟩
        show upd (gA τ 61) (nI i).toNatClampNeg (gA τ 61 (nI i + 30).toNatClampNeg) j = _
        rw [c1, nI_clamp (by omega), upd, hgi, hg j]
        by_cases cj : j = i
        · rw [if_pos cj, if_pos (by omega), cj]
        · rw [if_neg cj]
          by_cases d : j < i
          · rw [if_pos d, if_pos (by omega)]
          · rw [if_neg d, if_neg (by omega)]
    · rintro τ ⟨f, h20, hg⟩
      have t := tail 11 (sI τ 52 20 (gI τ 52 20 - 1)) (some (.int (nI 330))) (by omega) (by rw [gI_sI, if_pos ⟨rfl, rfl⟩, h20, h1, h12]; decide) (f.sI (by decide)) (by
        intro j hj
        show U[j]? = some (seg (gA τ 61) (11 - 1 - j))
        rw [h3 j (by omega), h12]
        congr 1
        funext i
        unfold seg
        by_cases hi : i < 30
        · rw [if_pos hi, if_pos hi, hg, if_pos (by omega)]; congr 1; omega
        · rw [if_neg hi, if_neg hi]) (by omega)
      rcases ha with rfl | rfl
      all_goals
        refine wpW K_X12_remember [49] 30 ?_
        refine ⟨fun _ => t, fun c => absurd (show (330 : Int32) ≤ nI 330 by decide) c⟩
  have t0 : U.length ≤ 11 → WW M_X12_remember (k + 1) (fun v τ => v = none ∧ UV τ ((seg (gA σ a) 0 :: U).take 12) ∧ FM [61] [20] σ τ) 49 [some (.ref 52), some (.ref a), none] [] σ := fun hz => tail U.length σ none hz h1 FM.rf h3 (by omega)
  rcases ha with rfl | rfl
  all_goals
    refine wpW K_X12_remember [11, 49] 30 ?_
    refine ⟨fun c => t0 ?_, fun c => shift ?_⟩
    · rw [h1, show (12 : Int32) = nI 12 from rfl, eq_of_nI (by omega) (by omega)] at c
      omega
    · rw [h1, show (12 : Int32) = nI 12 from rfl, eq_of_nI (by omega) (by omega)] at c
      exact c
