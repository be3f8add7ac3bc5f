/-! Ways.sayBack -/
def thoI (F : FS) (i : Nat) : List Nat := fo (fun q L => if fHo F q = nI q ∨ 6 ≤ L.length then L else L ++ [q]) [] i
theorem tho_stop (F : FS) {i : Nat} (h : 6 ≤ (thoI F i).length) : ∀ d, thoI F (i + d) = thoI F i := by
  intro d
  induction d with
  | zero => rfl
  | succ d ih =>
    show (if fHo F (i + d) = nI (i + d) ∨ 6 ≤ (thoI F (i + d)).length then thoI F (i + d) else thoI F (i + d) ++ [i + d]) = thoI F i
    rw [ih, if_pos (Or.inr h)]
def wOf (F : FS) : Nat → Nat := fun i => (thoS F).getD i 0
theorem wo_of {F : FS} (hF : fsOK F) : WO F (wOf F) (thoS F).length := by
  obtain ⟨h1, h2, h3⟩ := tho_sp F (fN F)
  have hget : ∀ i, i < (thoS F).length → (thoS F)[i]? = some (wOf F i) := fun i hi => by
    rw [List.getElem?_eq_getElem hi]
    unfold wOf
    rw [List.getD_eq_getElem?_getD, List.getElem?_eq_getElem hi]; rfl
  refine ⟨h1, fun i hi => h2 _ (List.mem_of_getElem? (hget i hi)), fun i hi j hj e => ?_, hF⟩
  have q1 := hget i hi
  have q2 := hget j hj
  rw [e] at q1
  exact (List.getElem?_inj hi h3).mp (q1.trans q2.symm)
def lB (r : Nat) : List Nat := [20, 24, 25, 26, 27, 15, 16, r + 2]
theorem ev_sayBack (k : Nat) (σ : Sto) (r : Nat) (hr : r = 46 ∨ r = 49) (hc : cOK σ 11) (ev : (Nat → Int32) → Int32) (hR : RC σ r ev) :
    EvM (k + 16) M_X10_sayBack [.ref 20, .ref 11, .ref r] σ (fun v τ => (∃ z : Nat → Int64, (∀ h, h < 64 → z h = 0) ∧ v = some (.int (ttS ev (cF σ 11) (wOf (cF σ 11)) (thoS (cF σ 11)).length (bcS (homesS (cF σ 11))) (thoS (cF σ 11)).length 0 0 (-1, gA σ 27, gA σ 25, z)).1) ∧ gA τ 27 = (ttS ev (cF σ 11) (wOf (cF σ 11)) (thoS (cF σ 11)).length (bcS (homesS (cF σ 11))) (thoS (cF σ 11)).length 0 0 (-1, gA σ 27, gA σ 25, z)).2.1) ∧ gI τ 20 9 = nI (thoS (cF σ 11)).length ∧ Fr (lB r) σ τ) := by
  have hF := hc.2
  have h7 := hF.1
  have hn := hc.1
  have hwo := wo_of hF
  have hho := fun τ (h : Fr [20, 24, 26] σ τ) => ev_homes (k + 15) τ 11 (Or.inr rfl) (cOK_fr (f := 11) h (by decide) hc)
  have htt := ev_takesTurn ev (cF σ 11) (wOf (cF σ 11)) (thoS (cF σ 11)).length (bcS (homesS (cF σ 11))) r hr hwo
  have hcf : ∀ τ, Fr [20, 24, 26] σ τ → cF τ 11 = cF σ 11 := fun τ h => cF_fr (f := 11) h (by decide)
  obtain ⟨-, -, -, rHo, -⟩ := cF_rd σ 11
  generalize hFF : cF σ 11 = F at *
  have hm6 := hwo.1
  refine EvM.of mk_X10_sayBack (Nat.le_of_ble_eq_true rfl) ?_
  have hrows : ∀ i, i < (thoS F).length → (thoS F)[i]? = some (wOf F i) := fun i hi => by
    rw [List.getElem?_eq_getElem hi]
    unfold wOf
    rw [List.getD_eq_getElem?_getD, List.getElem?_eq_getElem hi]; rfl
  -- the end
  have L3 : ∀ τ x3, Fr [20, 24, 26] σ τ → gR τ 20 12 = 12 → gR τ 20 13 = r + 1 → gI τ 20 9 = nI (thoS F).length → qIs (gA τ 24) (thoS F) → (∀ h, h < 64 → gJ τ 26 h = 0) → WW M_X10_sayBack (k + 16) (fun v τ => (∃ z : Nat → Int64, (∀ h, h < 64 → z h = 0) ∧ v = some (.int (ttS ev F (wOf F) (thoS F).length (bcS (homesS F)) (thoS F).length 0 0 (-1, gA σ 27, gA σ 25, z)).1) ∧ gA τ 27 = (ttS ev F (wOf F) (thoS F).length (bcS (homesS F)) (thoS F).length 0 0 (-1, gA σ 27, gA σ 25, z)).2.1) ∧ gI τ 20 9 = nI (thoS F).length ∧ Fr (lB r) σ τ) 97 [some (.ref 20), some (.ref 11), some (.ref r), x3] [] τ := by
    intro τ x3 hfr g1 g2 g3 g4 g5
    have hh := hho τ hfr
    rw [hcf τ hfr] at hh
    refine wpW K_X10_sayBack [111] 40 ?_
    refine ⟨11, g1, ⟨_, hh, ?_⟩⟩
    rintro v ω ⟨h9, rfl⟩
    obtain rfl := h9.symm
    refine ⟨_, ev_bc _ _ _, ?_⟩
    rintro v ω ⟨h9, rfl⟩
    obtain rfl := h9.symm
    show WW M_X10_sayBack _ _ 111 _ _ _
    generalize hω : sI τ 20 11 (bcS (homesS F)) = ω
    have hfr2 : Fr [20, 24, 26] σ (sI ω 20 10 (-1)) := by rw [← hω]; exact (Fr.sI hfr (by simp)).sI (by simp)
    have hos : OS ev F (wOf F) (thoS F).length (bcS (homesS F)) r (sI ω 20 10 (-1)) 0 (-1, gA σ 27, gA σ 25, gJ τ 26) := by
      refine ⟨?_, ?_, ?_, ?_, ?_, ?_, ?_, rfl, ?_, ?_, ?_, ?_⟩
      · rw [hcf _ hfr2]
        have key : ∀ m, cameF F (wOf F) m 0 = F := by
          intro m
          induction m with
          | zero => rfl
          | succ m ih =>
            show (if 0 / 2 ^ m % 2 = 1 then _ else cameF F (wOf F) m 0) = F
            rw [if_neg (by rw [Nat.zero_div]; decide)]; exact ih
        exact (key _).symm
      · rw [hfr2.I (by decide)]; exact hn
      · exact RC_fr hfr2 (by rcases hr with rfl | rfl <;> decide) (by rcases hr with rfl | rfl <;> decide) hR
      · rw [← hω]; exact g1
      · rw [← hω]; exact g2
      · rw [← hω]; exact g3
      · rw [← hω]; rfl
      · exact hfr2.A (by decide)
      · exact hfr2.A (by decide)
      · rw [← hω]; rfl
      · intro i hi
        rw [← hω]
        exact g4 i _ (hrows i hi)
    have hev := htt (k + 15 - 2 * (thoS F).length - 3) (thoS F).length (Nat.le_refl _) (sI ω 20 10 (-1)) 0 0 _ (by omega) (by omega) hos
    rw [show k + 15 - 2 * (thoS F).length - 3 + 2 * (thoS F).length + 3 = k + 15 by omega, Nat.sub_self] at hev
    refine wpW K_X10_sayBack [] 40 ?_
    refine ⟨_, hev, ?_⟩
    rintro v ζ ⟨rfl, z1, z2⟩
    refine ⟨⟨gJ τ 26, g5, ?_, z1.2.2.2.2.2.2.2.2.1⟩, z1.2.2.2.2.2.1, (hfr2.mono (by simp [lB])).tr (z2.mono (by simp [lO, lB]))⟩
    show some (Value.int (gI ζ 20 10)) = _
    rw [z1.2.2.2.2.2.2.2.1]
  -- nothing tried yet
  have L2 : ∀ τ, Fr [20, 24, 26] σ τ → gR τ 20 12 = 12 → gR τ 20 13 = r + 1 → gI τ 20 9 = nI (thoS F).length → qIs (gA τ 24) (thoS F) → WW M_X10_sayBack (k + 16) (fun v τ => (∃ z : Nat → Int64, (∀ h, h < 64 → z h = 0) ∧ v = some (.int (ttS ev F (wOf F) (thoS F).length (bcS (homesS F)) (thoS F).length 0 0 (-1, gA σ 27, gA σ 25, z)).1) ∧ gA τ 27 = (ttS ev F (wOf F) (thoS F).length (bcS (homesS F)) (thoS F).length 0 0 (-1, gA σ 27, gA σ 25, z)).2.1) ∧ gI τ 20 9 = nI (thoS F).length ∧ Fr (lB r) σ τ) 78 [some (.ref 20), some (.ref 11), some (.ref r), some (.int (nI 0))] [] τ := by
    intro τ hfr g1 g2 g3 g4
    refine loopI (α := Sto) 78 (fun i a => [some (.ref 20), some (.ref 11), some (.ref r), some (.int (nI i))]) (fun a => a) (fun i a => Fr [20, 24, 26] σ a ∧ gR a 20 12 = 12 ∧ gR a 20 13 = r + 1 ∧ gI a 20 9 = nI (thoS F).length ∧ qIs (gA a 24) (thoS F) ∧ ∀ h, h < i → gJ a 26 h = 0) 64 ?_ ?_ 0 τ (Nat.zero_le _) ⟨hfr, g1, g2, g3, g4, fun h hh => by omega⟩
    · intro i υ hi hII go
      obtain ⟨e1, e2, e3, e4, e5, e6⟩ := hII
      refine wpW K_X10_sayBack [78] 40 ?_
      refine ⟨fun c => ?_, fun _ => ⟨in64 hi, ?_⟩⟩
      · rw [show (64 : Int32) = nI 64 from rfl, le_of_nI (by omega) (by omega)] at c; omega
      · refine go _ _ _ (by rw [← nI_1 i]; rfl) rfl ⟨Fr.sJ e1 (by simp), e2, e3, e4, e5, fun h hh => ?_⟩
        show vp_updL (gJ υ 26) (nI i).toNatClampNeg 0 h = 0
        rw [nI_clamp (by omega)]
        by_cases ez : h = i
        · subst ez; exact pk_uLs
        · rw [pk_uLn ez]; exact e6 h (by omega)
    · intro υ hII
      obtain ⟨e1, e2, e3, e4, e5, e6⟩ := hII
      refine wpW K_X10_sayBack [78, 97] 40 ?_
      exact ⟨fun c => L3 υ _ e1 e2 e3 e4 e5 e6, fun c => absurd (by decide) c⟩
  -- those
  have L1 : ∀ τ, Fr [20, 24, 26] σ τ → gR τ 20 12 = 12 → gR τ 20 13 = r + 1 → gI τ 20 9 = nI 0 → WW M_X10_sayBack (k + 16) (fun v τ => (∃ z : Nat → Int64, (∀ h, h < 64 → z h = 0) ∧ v = some (.int (ttS ev F (wOf F) (thoS F).length (bcS (homesS F)) (thoS F).length 0 0 (-1, gA σ 27, gA σ 25, z)).1) ∧ gA τ 27 = (ttS ev F (wOf F) (thoS F).length (bcS (homesS F)) (thoS F).length 0 0 (-1, gA σ 27, gA σ 25, z)).2.1) ∧ gI τ 20 9 = nI (thoS F).length ∧ Fr (lB r) σ τ) 17 [some (.ref 20), some (.ref 11), some (.ref r), some (.int (nI 0))] [] τ := by
    intro τ hfr g1 g2 g3
    refine loopI (α := Sto) 17 (fun i a => [some (.ref 20), some (.ref 11), some (.ref r), some (.int (nI i))]) (fun a => a) (fun i a => Fr [20, 24, 26] σ a ∧ gR a 20 12 = 12 ∧ gR a 20 13 = r + 1 ∧ gI a 20 9 = nI (thoI F i).length ∧ (thoI F i).length ≤ 6 ∧ qIs (gA a 24) (thoI F i)) (fN F) ?_ ?_ 0 τ (Nat.zero_le _) ⟨hfr, g1, g2, g3, by simp [thoI, fo], fun j x h => by simp [thoI, fo] at h⟩
    · intro i υ hi hII go
      obtain ⟨e1, e2, e3, e4, e5, e6⟩ := hII
      have hsz : gI υ 11 5 = nI (fN F) := by rw [e1.I (by decide)]; exact hn
      have eho : gA υ (11 + 4) (nI i).toNatClampNeg = fHo F i := by rw [e1.A (by decide)]; exact rHo i (by omega)
      have estep : thoI F (i + 1) = if fHo F i = nI i ∨ 6 ≤ (thoI F i).length then thoI F i else thoI F i ++ [i] := rfl
      refine wpW K_X10_sayBack [17, 78] 40 ?_
      refine ⟨11, e2, fun c => ?_, fun _ => ⟨fun c => ?_, fun c => ⟨11, e2, in7 (by omega), fun d => ?_, fun d => ?_⟩⟩⟩
      · rw [hsz, le_of_nI (by omega) (by omega)] at c; omega
      · rw [e4, show (6 : Int32) = nI 6 from rfl, le_of_nI (by omega) (by omega)] at c
        have hst := tho_stop F c (fN F - i)
        rw [show i + (fN F - i) = fN F by omega] at hst
        have hst' : thoS F = thoI F i := hst
        exact L2 υ e1 e2 e3 (by rw [hst']; exact e4) (by rw [hst']; exact e6)
      · rw [eho] at d
        refine go υ _ _ (by rw [← nI_1 i]; rfl) rfl ⟨e1, e2, e3, ?_⟩
        rw [estep, if_pos (Or.inl d)]; exact ⟨e4, e5, e6⟩
      · rw [eho] at d
        rw [e4, show (6 : Int32) = nI 6 from rfl, le_of_nI (by omega) (by omega)] at c
        refine ⟨by rw [e4]; exact in6 (by omega), go _ _ _ (by rw [← nI_1 i]; rfl) rfl ⟨Fr.sI (Fr.sA e1 (by simp)) (by simp), e2, e3, ?_⟩⟩
        rw [estep, if_neg (fun z => z.elim d c)]
        refine ⟨?_, by rw [List.length_append]; simp; omega, ?_⟩
        · show gI υ 20 9 + 1 = _
          rw [e4, nI_1, List.length_append]; rfl
        · show qIs (upd (gA υ 24) (gI υ 20 9).toNatClampNeg (nI i)) _
          rw [e4, nI_clamp (by omega)]
          exact qIs_push e6
    · intro υ hII
      obtain ⟨e1, e2, e3, e4, e5, e6⟩ := hII
      have hsz : gI υ 11 5 = nI (fN F) := by rw [e1.I (by decide)]; exact hn
      refine wpW K_X10_sayBack [17, 78] 40 ?_
      refine ⟨11, e2, fun c => L2 υ e1 e2 e3 e4 e6, fun c => ?_⟩
      rw [hsz, le_of_nI (by omega) (by omega)] at c; omega
  have hend := L1 (sI (sR (sR σ 20 12 12) 20 13 (r + 1)) 20 9 0) (((Fr.rf.sR (by simp)).sR (by simp)).sI (by simp)) rfl rfl rfl
  rcases hr with rfl | rfl
  all_goals exact wpW K_X10_sayBack [17] 40 hend
