/-! THE LAW'S LOOP -/
theorem swc_all {x : Int32} {K : Nat → Prop} {d : Nat} {ps : List (Int32 × Nat)} (h : ∀ q ∈ ps, K q.2) (hd : K d) : swc x K d ps := by
  induction ps with
  | nil => exact hd
  | cons q ps ih => exact ⟨fun _ => h q List.mem_cons_self, fun _ => ih (fun r hr => h r (List.mem_cons_of_mem _ hr))⟩
theorem nI_5 (i : Nat) : nI i + 5 = nI (i + 5) := by rw [← add_nI]; rfl
theorem h_in {X : LX} {i : Nat} (hX : X.1 ≤ 2560) (hi : i + 5 ≤ X.1) : hIn X i := by
  refine ⟨?_, ?_, ?_, ?_⟩
  · rw [show nI i + 1 = nI (i + 1) by rw [← add_nI]; rfl]; exact vp_in_nI (by omega) (by omega)
  · rw [show nI i + 2 = nI (i + 2) by rw [← add_nI]; rfl]; exact vp_in_nI (by omega) (by omega)
  · rw [show nI i + 3 = nI (i + 3) by rw [← add_nI]; rfl]; exact vp_in_nI (by omega) (by omega)
  · rw [show nI i + 4 = nI (i + 4) by rw [← add_nI]; rfl]; exact vp_in_nI (by omega) (by omega)
theorem gt_5 {n i : Nat} (hn : n ≤ 2560) (hi : i ≤ 2600) : (nI n - 5 < nI i) ↔ n < i + 5 := by
  rw [Int32.lt_iff_toInt_lt, nI_toInt (by omega)]
  have e : (nI n - 5).toInt = (n : Int) - 5 := by
    rw [Int32.toInt_sub, nI_toInt (by omega)]
    show Int.bmod ((n : Int) - 5) (2 ^ 32) = _
    rw [Int.bmod_def]
    omega
  rw [e]
  omega
theorem lw_exit {X : LX} {kc ks : Nat} {L : List (Option Value)} {σ : Sto} (hc : kc ≤ 601024 ∧ ks ≤ 7293034) : LW X kc ks 1530 L [] σ := by
  intro l p e s m b below meth c D cy ad hfl C H locs ls hl hW
  refine lv_iconst (v := 1) C.1 C.2.1 (show decode cL_law 1530 = .ok (.iconst 1, 1) by decide +kernel) (by decide) ?_
  refine va_forget (fun q hq => hW.2.2.2.2 q hq) ?_
  refine W.widen (k := 601024) (n := 7293034) hc.1 hc.2 ?_
  exact lw_ret C.1 C.2.1 C.2.2.2.1 C.2.2.2.2.1 (by decide +kernel)
theorem lw_body {X : LX} {kc ks i : Nat} (hX : X.1 ≤ 2560) (hi : i + 5 ≤ X.1) (hc : kc + 1 ≤ 601024 ∧ ks + 6 ≤ 7293034) {σ : Sto} {A : AS} (hs : LI σ A) (o5 o6 o7 : Option Value) (go : ∀ p5 p6 p7 τ B, LI τ B → LW X (kc + 1) (ks + 6) 1524 (LLo i p5 p6 p7) [] τ) : LW X kc ks 23 (LLo i o5 o6 o7) [] σ := by
  have h := h_in hX hi
  have hc0 : kc ≤ 601024 ∧ ks ≤ 7293034 := ⟨by omega, by omega⟩
  have g0 : ∀ τ B, LI τ B → LW X kc ks 1524 (LLo i o5 o6 o7) [] τ := fun τ B q => (go o5 o6 o7 τ B q).widen (by omega) (by omega)
  have g1 : ∀ p5 p6 p7 τ, LI τ A → LW X (kc + 1) (ks + 6) 1524 (LLo i p5 p6 p7) [] τ := fun p5 p6 p7 τ q => go p5 p6 p7 τ A q
  refine lwpW (K_hd X) [1530, 244, 269, 294, 307, 320, 388, 456, 517, 554, 591, 628, 653, 678, 691, 704, 741, 778, 803, 828, 853, 866, 891, 904, 929, 954, 967, 980, 993, 1006, 1031, 1044, 1057, 1094, 1107, 1120, 1133, 1182, 1195, 1208, 1221, 1282, 1319, 1344, 1357, 1394, 1419, 1444, 1469, 1524] 40 (k := 300) (by decide) hc0 ?_
  refine ⟨fun c => absurd ((gt_5 hX (by omega)).mp c) (by omega), fun _ => ⟨vp_in_nI (by omega) (by omega), swc_all ?_ (g0 σ A hs)⟩⟩
  exact (List.forall_mem_cons.mpr ⟨cs_0 hc0 h hs o5 o6 o7 g0, (List.forall_mem_cons.mpr ⟨cs_1 hc0 h hs o5 o6 o7 g0, (List.forall_mem_cons.mpr ⟨cs_2 hc0 h hs o5 o6 o7 g0, (List.forall_mem_cons.mpr ⟨cs_3 hc0 h hs o5 o6 o7 g0, (List.forall_mem_cons.mpr ⟨cs_4 hc h hs o5 o6 o7 g1, (List.forall_mem_cons.mpr ⟨cs_5 hc h hs o5 o6 o7 g1, (List.forall_mem_cons.mpr ⟨cs_6 hc0 h hs o5 o6 o7 g0, (List.forall_mem_cons.mpr ⟨cs_7 hc0 h hs o5 o6 o7 g0, (List.forall_mem_cons.mpr ⟨cs_8 hc0 h hs o5 o6 o7 g0, (List.forall_mem_cons.mpr ⟨cs_9 hc0 h hs o5 o6 o7 g0, (List.forall_mem_cons.mpr ⟨cs_10 hc0 h hs o5 o6 o7 g0, (List.forall_mem_cons.mpr ⟨cs_11 hc0 h hs o5 o6 o7 g0, (List.forall_mem_cons.mpr ⟨cs_12 hc0 h hs o5 o6 o7 g0, (List.forall_mem_cons.mpr ⟨cs_13 hc0 h hs o5 o6 o7 g0, (List.forall_mem_cons.mpr ⟨cs_14 hc0 h hs o5 o6 o7 g0, (List.forall_mem_cons.mpr ⟨cs_15 hc0 h hs o5 o6 o7 g0, (List.forall_mem_cons.mpr ⟨cs_16 hc0 h hs o5 o6 o7 g0, (List.forall_mem_cons.mpr ⟨cs_17 hc0 h hs o5 o6 o7 g0, (List.forall_mem_cons.mpr ⟨cs_18 hc0 h hs o5 o6 o7 g0, (List.forall_mem_cons.mpr ⟨cs_19 hc0 h hs o5 o6 o7 g0, (List.forall_mem_cons.mpr ⟨cs_20 hc0 h hs o5 o6 o7 g0, (List.forall_mem_cons.mpr ⟨cs_21 hc0 h hs o5 o6 o7 g0, (List.forall_mem_cons.mpr ⟨cs_22 hc0 h hs o5 o6 o7 g0, (List.forall_mem_cons.mpr ⟨cs_23 hc0 h hs o5 o6 o7 g0, (List.forall_mem_cons.mpr ⟨cs_24 hc0 h hs o5 o6 o7 g0, (List.forall_mem_cons.mpr ⟨cs_25 hc0 h hs o5 o6 o7 g0, (List.forall_mem_cons.mpr ⟨cs_26 hc0 h hs o5 o6 o7 g0, (List.forall_mem_cons.mpr ⟨cs_27 hc0 h hs o5 o6 o7 g0, (List.forall_mem_cons.mpr ⟨cs_28 hc0 h hs o5 o6 o7 g0, (List.forall_mem_cons.mpr ⟨cs_29 hc0 h hs o5 o6 o7 g0, (List.forall_mem_cons.mpr ⟨cs_30 hc0 h hs o5 o6 o7 g0, (List.forall_mem_cons.mpr ⟨cs_31 hc0 h hs o5 o6 o7 g0, (List.forall_mem_cons.mpr ⟨cs_32 hc0 h hs o5 o6 o7 g0, (List.forall_mem_cons.mpr ⟨cs_33 hc0 h hs o5 o6 o7 g0, (List.forall_mem_cons.mpr ⟨cs_34 hc0 h hs o5 o6 o7 g0, (List.forall_mem_cons.mpr ⟨cs_35 hc0 h hs o5 o6 o7 g0, (List.forall_mem_cons.mpr ⟨cs_36 hc0 h hs o5 o6 o7 g0, (List.forall_mem_cons.mpr ⟨cs_37 hc0 h hs o5 o6 o7 g0, (List.forall_mem_cons.mpr ⟨cs_38 hc0 h hs o5 o6 o7 g0, (List.forall_mem_cons.mpr ⟨cs_39 hc0 h hs o5 o6 o7 g0, (List.forall_mem_cons.mpr ⟨cs_40 hc0 h hs o5 o6 o7 g0, (List.forall_mem_cons.mpr ⟨cs_41 hc0 h hs o5 o6 o7 g0, (List.forall_mem_cons.mpr ⟨cs_42 hc0 h hs o5 o6 o7 g0, (List.forall_mem_cons.mpr ⟨cs_43 hc0 h hs o5 o6 o7 g0, (List.forall_mem_cons.mpr ⟨cs_44 hc0 h hs o5 o6 o7 g0, (List.forall_mem_cons.mpr ⟨cs_45 hc0 h hs o5 o6 o7 g0, (List.forall_mem_cons.mpr ⟨cs_46 hc0 h hs o5 o6 o7 g0, (List.forall_mem_cons.mpr ⟨cs_47 hc h hs o5 o6 o7 g1, (fun _ q => nomatch q)⟩)⟩)⟩)⟩)⟩)⟩)⟩)⟩)⟩)⟩)⟩)⟩)⟩)⟩)⟩)⟩)⟩)⟩)⟩)⟩)⟩)⟩)⟩)⟩)⟩)⟩)⟩)⟩)⟩)⟩)⟩)⟩)⟩)⟩)⟩)⟩)⟩)⟩)⟩)⟩)⟩)⟩)⟩)⟩)⟩)⟩)⟩)⟩)
theorem lw_tail {X : LX} {kc ks i : Nat} (hc : kc ≤ 601024 ∧ ks ≤ 7293034) {σ : Sto} (o5 o6 o7 : Option Value) (go : LW X kc ks 23 (LLo (i + 5) o5 o6 o7) [] σ) : LW X kc ks 1524 (LLo i o5 o6 o7) [] σ := by
  refine lwpW (K_tl X) [23] 5 (k := 300) (by decide) hc ?_
  show LW X kc ks 23 [some (.ref 998), some (.ref 0), some (.ref 52), some (.ref 83), some (.int (nI i + 5)), o5, o6, o7] [] σ
  rw [nI_5]
  exact go
theorem law_loop {X : LX} (hX : X.1 ≤ 2560) : ∀ (n i kc ks : Nat), X.1 + 1 ≤ i + n → i ≤ X.1 + 4 → kc + n ≤ 601024 → ks + 6 * n ≤ 7293034 → ∀ (σ : Sto) (A : AS), LI σ A → ∀ o5 o6 o7, LW X kc ks 23 (LLo i o5 o6 o7) [] σ := by
  intro n
  induction n with
  | zero =>
    intro i kc ks h1 h2 h3 h4 σ A hs o5 o6 o7
    refine lwpW (K_hd X) [1530] 40 (k := 300) (by decide) ⟨by omega, by omega⟩ ?_
    exact ⟨fun _ => lw_exit ⟨by omega, by omega⟩, fun c => absurd ((gt_5 hX (by omega)).mpr (by omega)) c⟩
  | succ n ih =>
    intro i kc ks h1 h2 h3 h4 σ A hs o5 o6 o7
    by_cases hi : i + 5 ≤ X.1
    · refine lw_body hX hi ⟨by omega, by omega⟩ hs o5 o6 o7 (fun p5 p6 p7 τ B q => ?_)
      exact lw_tail ⟨by omega, by omega⟩ p5 p6 p7 (ih (i + 5) (kc + 1) (ks + 6) (by omega) (by omega) (by omega) (by omega) τ B q p5 p6 p7)
    · refine lwpW (K_hd X) [1530] 40 (k := 300) (by decide) ⟨by omega, by omega⟩ ?_
      exact ⟨fun _ => lw_exit ⟨by omega, by omega⟩, fun c => absurd ((gt_5 hX (by omega)).mpr (by omega)) c⟩
