/-! the model: what is left alone, its fens, its small methods -/
/-- of place 52 all but the fields js, and all but the places l, is as it was -/
def FM (l js : List Nat) (σ τ : Sto) : Prop := Fr (52 :: l) σ τ ∧ ∀ j, j ∉ js → gI τ 52 j = gI σ 52 j ∧ gR τ 52 j = gR σ 52 j
theorem FM.rf {l js : List Nat} {σ : Sto} : FM l js σ σ := ⟨Fr.rf, fun _ _ => ⟨rfl, rfl⟩⟩
theorem FM.tr {l js : List Nat} {σ τ υ : Sto} (h : FM l js σ τ) (h' : FM l js τ υ) : FM l js σ υ := ⟨h.1.tr h'.1, fun j hj => ⟨(h'.2 j hj).1.trans (h.2 j hj).1, (h'.2 j hj).2.trans (h.2 j hj).2⟩⟩
theorem FM.up {l js : List Nat} {σ τ : Sto} (l' js' : List Nat) (h : FM l js σ τ) (hl : l.all (fun a => l'.contains a) = true) (hj : js.all (fun a => js'.contains a) = true) : FM l' js' σ τ := by
  refine ⟨h.1.mono (fun a ha => ?_), fun j hn => h.2 j (fun q => hn ?_)⟩
  · rcases List.mem_cons.mp ha with rfl | ha
    · exact List.mem_cons_self ..
    · exact List.mem_cons_of_mem _ (List.contains_iff_mem.mp (List.all_eq_true.mp hl a ha))
  · exact List.contains_iff_mem.mp (List.all_eq_true.mp hj j q)
theorem FM.i {l js : List Nat} {σ τ : Sto} (h : FM l js σ τ) (j : Nat) (hj : (!js.contains j) = true) : gI τ 52 j = gI σ 52 j := (h.2 j (nmem hj)).1
theorem FM.r {l js : List Nat} {σ τ : Sto} (h : FM l js σ τ) (j : Nat) (hj : (!js.contains j) = true) : gR τ 52 j = gR σ 52 j := (h.2 j (nmem hj)).2
theorem FM.a {l js : List Nat} {σ τ : Sto} (h : FM l js σ τ) (a : Nat) (ha : (!(52 :: l).contains a) = true) : gA τ a = gA σ a := h.1.A (nmem ha)
theorem FM.j {l js : List Nat} {σ τ : Sto} (h : FM l js σ τ) (a : Nat) (ha : (!(52 :: l).contains a) = true) : gJ τ a = gJ σ a := h.1.J (nmem ha)
theorem FM.sI {l js : List Nat} {σ τ : Sto} {j : Nat} {v : Int32} (h : FM l js σ τ) (hj : js.contains j = true) : FM l js σ (sI τ 52 j v) := ⟨h.1.sI (List.mem_cons_self ..), fun i hi => by
  refine ⟨?_, (h.2 i hi).2⟩
  rw [gI_sI, if_neg (fun (q : 52 = 52 ∧ i = j) => hi (q.2 ▸ List.contains_iff_mem.mp hj))]
  exact (h.2 i hi).1⟩
theorem FM.sR {l js : List Nat} {σ τ : Sto} {j v : Nat} (h : FM l js σ τ) (hj : js.contains j = true) : FM l js σ (sR τ 52 j v) := ⟨h.1.sR (List.mem_cons_self ..), fun i hi => by
  refine ⟨(h.2 i hi).1, ?_⟩
  rw [gR_sR, if_neg (fun (q : 52 = 52 ∧ i = j) => hi (q.2 ▸ List.contains_iff_mem.mp hj))]
  exact (h.2 i hi).2⟩
theorem FM.sA {l js : List Nat} {σ τ : Sto} {a : Nat} {f : Nat → Int32} (h : FM l js σ τ) (ha : l.contains a = true) : FM l js σ (sA τ a f) := ⟨h.1.sA (List.mem_cons_of_mem _ (List.contains_iff_mem.mp ha)), h.2⟩
theorem FM.sJ {l js : List Nat} {σ τ : Sto} {a : Nat} {f : Nat → Int64} (h : FM l js σ τ) (ha : l.contains a = true) : FM l js σ (sJ τ a f) := ⟨h.1.sJ (List.mem_cons_of_mem _ (List.contains_iff_mem.mp ha)), h.2⟩
/-- a fen of the model: n PEOPLE, their voices, a row of 30 -/
def mG (n : Nat) (vo g : Nat → Int32) : FS := mkF n (r7 g) vo (r7 (fun i => g (7 + i))) (r7 (fun i => g (14 + i))) (r7 (fun i => g (21 + i))) (g 28) (g 29)
def mF (σ : Sto) (a : Nat) : FS := mG (gI σ 52 1).toNatClampNeg (r7 (gA σ 54)) (gA σ a)
def mOK (σ : Sto) (a : Nat) : Prop := gI σ 52 1 = nI (fN (mF σ a)) ∧ fsOK (mF σ a)
theorem r7_at {f : Nat → Int32} {b i : Nat} (h : i < 7) (hb : b ≤ 100) : f (nI b + nI i).toNatClampNeg = r7 (fun j => f (b + j)) i := by rw [add_nI, nI_clamp (by omega), r7_lt h]
theorem mF_rd (σ : Sto) (a : Nat) : (∀ i, i < 7 → gA σ a (nI i).toNatClampNeg = fPl (mF σ a) i) ∧ (∀ i, i < 7 → gA σ 54 (nI i).toNatClampNeg = fVo (mF σ a) i) ∧ (∀ i, i < 7 → gA σ a (7 + nI i).toNatClampNeg = fPu (mF σ a) i) ∧ (∀ i, i < 7 → gA σ a (14 + nI i).toNatClampNeg = fHo (mF σ a) i) ∧ (∀ i, i < 7 → gA σ a (21 + nI i).toNatClampNeg = fAg (mF σ a) i) ∧ gA σ a 28 = fDy (mF σ a) ∧ gA σ a 29 = fSd (mF σ a) :=
  ⟨fun _ h => rd7 h, fun _ h => rd7 h, fun _ h => r7_at (b := 7) h (by omega), fun _ h => r7_at (b := 14) h (by omega), fun _ h => r7_at (b := 21) h (by omega), rfl, rfl⟩
theorem in30 {b i : Nat} (h : i < 7) (hb : b ≤ 23) : vp_in (nI b + nI i) 30 := by rw [add_nI]; exact vp_in_nI (by omega) (by omega)
theorem i30 {i : Nat} (h : i < 7) : vp_in (nI i) 30 := vp_in_nI (by omega) (by omega)
theorem i7_30 {i : Nat} (h : i < 7) : vp_in (7 + nI i) 30 := in30 (b := 7) h (by omega)
theorem i14_30 {i : Nat} (h : i < 7) : vp_in (14 + nI i) 30 := in30 (b := 14) h (by omega)
theorem i21_30 {i : Nat} (h : i < 7) : vp_in (21 + nI i) 30 := in30 (b := 21) h (by omega)
theorem c7 {i : Nat} (h : i < 7) : ((7 : Int32) + nI i).toNatClampNeg = 7 + i := by rw [show (7 : Int32) = nI 7 from rfl, add_nI, nI_clamp (by omega)]
theorem c14 {i : Nat} (h : i < 7) : ((14 : Int32) + nI i).toNatClampNeg = 14 + i := by rw [show (14 : Int32) = nI 14 from rfl, add_nI, nI_clamp (by omega)]
theorem c21 {i : Nat} (h : i < 7) : ((21 : Int32) + nI i).toNatClampNeg = 21 + i := by rw [show (21 : Int32) = nI 21 from rfl, add_nI, nI_clamp (by omega)]
theorem mF_fr {l js : List Nat} {σ τ : Sto} {a : Nat} (h : FM l js σ τ) (h1 : (!js.contains 1) = true) (h2 : (!(52 :: l).contains 54) = true) (h3 : (!(52 :: l).contains a) = true) : mF τ a = mF σ a := by
  unfold mF
  rw [h.i 1 h1, h.a 54 h2, h.a a h3]
theorem mOK_fr {l js : List Nat} {σ τ : Sto} {a : Nat} (h : FM l js σ τ) (h1 : (!js.contains 1) = true) (h2 : (!(52 :: l).contains 54) = true) (h3 : (!(52 :: l).contains a) = true) (ho : mOK σ a) : mOK τ a := by
  unfold mOK
  rw [mF_fr h h1 h2 h3, h.i 1 h1]
  exact ho
/-! writing into a fen of the model -/
theorem r7_sh (g : Nat → Int32) {b k : Nat} (hk : k < 7) (x : Int32) : r7 (fun i => upd g (b + k) x (b + i)) = upd (r7 (fun i => g (b + i))) k x := by
  funext j
  show (if j < 7 then (if b + j = b + k then x else g (b + j)) else 0) = if j = k then x else (if j < 7 then g (b + j) else 0)
  by_cases c : j = k
  · subst c; simp [hk]
  · rw [if_neg (show ¬ b + j = b + k by omega), if_neg c]
theorem r7_no (g : Nat → Int32) {b c : Nat} (h : ∀ i, i < 7 → ¬ b + i = c) (x : Int32) : r7 (fun i => upd g c x (b + i)) = r7 (fun i => g (b + i)) := by
  funext j
  show (if j < 7 then (if b + j = c then x else g (b + j)) else 0) = if j < 7 then g (b + j) else 0
  split
  · next hj => rw [if_neg (h j hj)]
  · rfl
theorem r7_no0 (g : Nat → Int32) {c : Nat} (h : ∀ i, i < 7 → ¬ i = c) (x : Int32) : r7 (upd g c x) = r7 g := by
  funext j
  unfold r7 upd
  split
  · next hj => rw [if_neg (h j hj)]
  · rfl
theorem mG_Pl (n : Nat) (vo g : Nat → Int32) {k : Nat} (hk : k < 7) (x : Int32) : mG n vo (upd g k x) = wPl (mG n vo g) (upd (fPl (mG n vo g)) k x) :=
  FS_ext rfl (r7_upd hk) rfl (r7_no g (fun i hi => by omega) x) (r7_no g (fun i hi => by omega) x) (r7_no g (fun i hi => by omega) x) (if_neg (by omega)) (if_neg (by omega))
theorem mG_Pu (n : Nat) (vo g : Nat → Int32) {k : Nat} (hk : k < 7) (x : Int32) : mG n vo (upd g (7 + k) x) = wPu (mG n vo g) (upd (fPu (mG n vo g)) k x) :=
  FS_ext rfl (r7_no0 g (fun i hi => by omega) x) rfl (r7_sh g hk x) (r7_no g (fun i hi => by omega) x) (r7_no g (fun i hi => by omega) x) (if_neg (by omega)) (if_neg (by omega))
theorem mG_Ho (n : Nat) (vo g : Nat → Int32) {k : Nat} (hk : k < 7) (x : Int32) : mG n vo (upd g (14 + k) x) = wHo (mG n vo g) (upd (fHo (mG n vo g)) k x) :=
  FS_ext rfl (r7_no0 g (fun i hi => by omega) x) rfl (r7_no g (fun i hi => by omega) x) (r7_sh g hk x) (r7_no g (fun i hi => by omega) x) (if_neg (by omega)) (if_neg (by omega))
theorem mG_Ag (n : Nat) (vo g : Nat → Int32) {k : Nat} (hk : k < 7) (x : Int32) : mG n vo (upd g (21 + k) x) = wAg (mG n vo g) (upd (fAg (mG n vo g)) k x) :=
  FS_ext rfl (r7_no0 g (fun i hi => by omega) x) rfl (r7_no g (fun i hi => by omega) x) (r7_no g (fun i hi => by omega) x) (r7_sh g hk x) (if_neg (by omega)) (if_neg (by omega))
theorem mG_Dy (n : Nat) (vo g : Nat → Int32) (x : Int32) : mG n vo (upd g 28 x) = wDy (mG n vo g) x :=
  FS_ext rfl (r7_no0 g (fun i hi => by omega) x) rfl (r7_no g (fun i hi => by omega) x) (r7_no g (fun i hi => by omega) x) (r7_no g (fun i hi => by omega) x) rfl rfl
theorem mG_Sd (n : Nat) (vo g : Nat → Int32) (x : Int32) : mG n vo (upd g 29 x) = wSd (mG n vo g) x :=
  FS_ext rfl (r7_no0 g (fun i hi => by omega) x) rfl (r7_no g (fun i hi => by omega) x) (r7_no g (fun i hi => by omega) x) (r7_no g (fun i hi => by omega) x) rfl rfl
/-! small methods -/
theorem ev_in (k : Nat) (σ : Sto) (v lo hi : Int32) : EvM k M_X12_in [.int v, .int lo, .int hi] σ (fun r τ => τ = σ ∧ r = some (.int (bI (!decide (v < lo) && !decide (hi < v))))) := by
  refine EvM.of mk_X12_in (Nat.le_of_ble_eq_true rfl) ?_
  refine wpW K_X12_in [] 20 ?_
  refine ⟨fun h => ⟨Or.inl rfl, rfl, ?_⟩, fun h => ⟨fun h2 => ⟨Or.inl rfl, rfl, ?_⟩, fun h2 => ⟨Or.inr rfl, rfl, ?_⟩⟩⟩
  · simp [bI, h]
  · simp [bI, h2]
  · simp [bI, h, h2]
theorem in_S {x : Int32} {n : Nat} (hn : n ≤ 1000) : (!decide (x < 0) && !decide (nI n < x)) = inS (n + 1) x := by
  rw [Bool.eq_iff_iff, cnd hn]
  simp
theorem ev_isOne (k : Nat) (σ : Sto) (n : Nat) (hn : gI σ 52 1 = nI n) (h7 : n ≤ 7) (x : Int32) : EvM (k + 1) M_X12_isOne [.ref 52, .int x] σ (fun r τ => τ = σ ∧ r = some (.int (bI (inS n x)))) := by
  refine EvM.of mk_X12_isOne (Nat.le_of_ble_eq_true rfl) ?_
  refine wpW K_X12_isOne [] 20 ?_
  refine ⟨_, ev_in _ _ _ _ _, ?_⟩
  rintro w τ ⟨h9, rfl⟩
  obtain rfl := h9.symm
  refine ⟨bI_or _, rfl, ?_⟩
  congr 3
  rw [hn]
  match n, h7 with
  | 0, _ =>
    rw [Bool.eq_iff_iff, inS]
    simp only [Bool.and_eq_true, Bool.not_eq_true', decide_eq_false_iff_not, decide_eq_true_eq, Int32.lt_iff_toInt_lt]
    rw [show (nI 0 - 1).toInt = -1 from by decide, show (0 : Int32).toInt = 0 from rfl]
    omega
  | n + 1, h => rw [show nI (n + 1) - 1 = nI n by rw [← add_nI]; exact Int32.add_sub_cancel _ _]; exact in_S (by omega)
theorem ev_mhas (k : Nat) (σ : Sto) (m q : Nat) : EvM k M_X12_has [.int (nI m), .int (nI q)] σ (fun r τ => τ = σ ∧ r = some (.int (bI (bit1 (nI m) q)))) := by
  refine EvM.of mk_X12_has (Nat.le_of_ble_eq_true rfl) ?_
  refine wpW K_X12_has [] 20 ?_
  refine ⟨fun h => ⟨Or.inl rfl, rfl, ?_⟩, fun h => ⟨Or.inr rfl, rfl, ?_⟩⟩
  · rw [bit1, decide_eq_false h]; rfl
  · rw [bit1, decide_eq_true h]; rfl
theorem ev_all (k : Nat) (σ : Sto) (n : Nat) (hn : gI σ 52 1 = nI n) : EvM k M_X12_all [.ref 52] σ (fun r τ => τ = σ ∧ r = some (.int (allS n))) := by
  refine EvM.of mk_X12_all (Nat.le_of_ble_eq_true rfl) ?_
  refine wpW K_X12_all [] 20 ?_
  exact ⟨rfl, by rw [hn]; rfl⟩
theorem ev_lost (k : Nat) (σ : Sto) : EvM k M_X12_lost [.ref 52] σ (fun r τ => τ = sI σ 52 7 1 ∧ r = some (.int 0)) := by
  refine EvM.of mk_X12_lost (Nat.le_of_ble_eq_true rfl) ?_
  refine wpW K_X12_lost [] 20 ?_
  exact ⟨rfl, rfl⟩
theorem ev_thrown (k : Nat) (σ : Sto) : EvM k M_X12_thrown [.ref 52] σ (fun r τ => τ = σ ∧ r = some (.int (gI σ 52 7))) := by
  refine EvM.of mk_X12_thrown (Nat.le_of_ble_eq_true rfl) ?_
  refine wpW K_X12_thrown [] 20 ?_
  exact ⟨rfl, rfl⟩
def mRw (σ : Sto) : List Int64 := (List.range (gI σ 52 6).toNatClampNeg).map (gJ σ 56)
def rOK (σ : Sto) : Prop := gI σ 52 6 = nI (mRw σ).length ∧ (mRw σ).length ≤ 16
theorem mRw_len (σ : Sto) : (mRw σ).length = (gI σ 52 6).toNatClampNeg := by simp [mRw]
theorem ev_tell (k : Nat) (σ : Sto) (hr : rOK σ) (h16 : (mRw σ).length < 16) (x : Int64) : EvM k M_X12_tell [.ref 52, .long x] σ (fun v τ => v = none ∧ mRw τ = mRw σ ++ [x] ∧ rOK τ ∧ FM [56] [6] σ τ) := by
  have h1 := hr.1
  refine EvM.of mk_X12_tell (Nat.le_of_ble_eq_true rfl) ?_
  refine wpW K_X12_tell [] 30 ?_
  generalize hs : (mRw σ).length = s at *
  refine ⟨by rw [h1]; exact vp_in_nI h16 (by omega), rfl, ?_⟩
  have e6 : ∀ (τ : Sto), gI (sI (sJ σ 56 (vp_updL (gJ σ 56) (gI σ 52 6).toNatClampNeg x)) 52 6 (gI σ 52 6 + 1)) 52 6 = nI (s + 1) := fun _ => by
    rw [gI_sI, if_pos ⟨rfl, rfl⟩, h1, nI_1]
  have e := e6 σ
  have hmr : mRw (sI (sJ σ 56 (vp_updL (gJ σ 56) (gI σ 52 6).toNatClampNeg x)) 52 6 (gI σ 52 6 + 1)) = mRw σ ++ [x] := by
    unfold mRw
    rw [e, h1, nI_clamp (by omega), nI_clamp (by omega), List.range_succ, List.map_append]
    congr 1
    · refine List.map_congr_left (fun i hi => ?_)
      have hi' := List.mem_range.mp hi
      show gJ (sJ σ 56 _) 56 i = _
      rw [gJ_eq, vp_updL, if_neg (by omega)]
    · show [gJ (sJ σ 56 _) 56 s] = [x]
      rw [gJ_eq, vp_updL, if_pos rfl]
  have hok : rOK (sI (sJ σ 56 (vp_updL (gJ σ 56) (gI σ 52 6).toNatClampNeg x)) 52 6 (gI σ 52 6 + 1)) := by
    refine ⟨?_, ?_⟩
    · rw [hmr, List.length_append, List.length_singleton, hs]; exact e
    · rw [hmr, List.length_append, List.length_singleton, hs]; omega
  exact ⟨hmr, hok, (FM.sJ FM.rf (by decide)).sI (by decide)⟩
theorem ev_farOf (k : Nat) (σ : Sto) (a : Nat) (ha : a = 53 ∨ a = 63) (p q : Nat) (hp : p < 7) (hq : q < 7) : EvM (k + 1) M_X12_farOf [.ref a, .int (nI p), .int (nI q)] σ (fun v τ => τ = σ ∧ v = some (.int (absS (fPl (mF σ a) p - fPl (mF σ a) q)))) := by
  obtain ⟨rPl, -⟩ := mF_rd σ a
  refine EvM.of mk_X12_farOf (Nat.le_of_ble_eq_true rfl) ?_
  rcases ha with rfl | rfl
  all_goals
    refine wpW K_X12_farOf [] 20 ?_
    refine ⟨i30 hp, i30 hq, rfl, ?_⟩
    rw [rPl p hp, rPl q hq]
    rfl
theorem or_0 (x : Int32) : x ||| 0 = x := by
  rw [← Int32.toBitVec_inj, Int32.toBitVec_or]
  exact BitVec.or_zero
theorem ev_heldBy (k : Nat) (σ : Sto) (a : Nat) (ha : a = 53 ∨ a = 63) (ho : mOK σ a) (q : Int32) : EvM k M_X12_heldBy [.ref 52, .ref a, .int q] σ (fun v τ => τ = σ ∧ v = some (.int (heldS (mF σ a) q))) := by
  obtain ⟨hn, h7, -⟩ := ho
  obtain ⟨-, -, -, rHo, -⟩ := mF_rd σ a
  generalize mF σ a = F at *
  refine EvM.of mk_X12_heldBy (Nat.le_of_ble_eq_true rfl) ?_
  rcases ha with rfl | rfl
  all_goals
    refine wpW K_X12_heldBy [5] 20 ?_
    refine loopI (α := Int32) 5 (fun i b => [some (.ref 52), some (.ref _), some (.int q), some (.int b), some (.int (nI i))]) (fun _ => σ) (fun i b => b = fo (fun i b => if fHo F i = q then b ||| bt i else b) 0 i) (fN F) ?_ ?_ 0 0 (Nat.zero_le _) rfl
    · intro i b hi hI go
      refine wpW K_X12_heldBy [5] 30 ?_
      refine ⟨fun h => ?_, fun h => ⟨i14_30 (by omega), fun h2 => ?_, fun h2 => ?_⟩⟩
      · rw [hn, le_of_nI (by omega) (by omega)] at h; omega
      · rw [rHo i (by omega)] at h2
        exact go b _ _ (by rw [← nI_1]; show st1 (st1 _ _ _) _ _ = _; rw [or_0]; rfl) rfl (by rw [fo, ← hI]; exact (if_neg h2).symm)
      · rw [rHo i (by omega)] at h2
        exact go (b ||| bt i) _ _ (by rw [← nI_1]; rfl) rfl (by rw [fo, ← hI]; exact (if_pos h2).symm)
    · intro b hI
      refine wpW K_X12_heldBy [5] 30 ?_
      refine ⟨fun h => ?_, fun h => ?_⟩
      · exact ⟨rfl, by rw [hI]; rfl⟩
      · rw [hn, le_of_nI (by omega) (by omega)] at h; omega
theorem ev_atHome (k : Nat) (σ : Sto) (a : Nat) (ha : a = 53 ∨ a = 63) (ho : mOK σ a) : EvM k M_X12_atHome [.ref 52, .ref a] σ (fun v τ => τ = σ ∧ v = some (.int (homesS (mF σ a)))) := by
  obtain ⟨hn, h7, -⟩ := ho
  obtain ⟨-, -, -, rHo, -⟩ := mF_rd σ a
  generalize mF σ a = F at *
  refine EvM.of mk_X12_atHome (Nat.le_of_ble_eq_true rfl) ?_
  rcases ha with rfl | rfl
  all_goals
    refine wpW K_X12_atHome [4] 20 ?_
    refine loopI (α := Int32) 4 (fun i b => [some (.ref 52), some (.ref _), some (.int b), some (.int (nI i))]) (fun _ => σ) (fun i b => b = fo (fun i b => if fHo F i = nI i then b ||| bt i else b) 0 i) (fN F) ?_ ?_ 0 0 (Nat.zero_le _) rfl
    · intro i b hi hI go
      refine wpW K_X12_atHome [4] 30 ?_
      refine ⟨fun h => ?_, fun h => ⟨i14_30 (by omega), fun h2 => ?_, fun h2 => ?_⟩⟩
      · rw [hn, le_of_nI (by omega) (by omega)] at h; omega
      · rw [rHo i (by omega)] at h2
        exact go b _ _ (by rw [← nI_1]; show st1 (st1 _ _ _) _ _ = _; rw [or_0]; rfl) rfl (by rw [fo, ← hI]; exact (if_neg h2).symm)
      · rw [rHo i (by omega)] at h2
        exact go (b ||| bt i) _ _ (by rw [← nI_1]; rfl) rfl (by rw [fo, ← hI]; exact (if_pos h2).symm)
    · intro b hI
      refine wpW K_X12_atHome [4] 30 ?_
      refine ⟨fun h => ?_, fun h => ?_⟩
      · exact ⟨rfl, by rw [hI]; rfl⟩
      · rw [hn, le_of_nI (by omega) (by omega)] at h; omega
theorem ev_sumOf (k : Nat) (σ : Sto) (a : Nat) (ha : a = 53 ∨ a = 63) (ho : mOK σ a) (b : Nat) (hb : b ≤ 23) : EvM k M_X12_sumOf [.ref 52, .ref a, .int (nI b)] σ (fun v τ => τ = σ ∧ v = some (.int (sumS (fN (mF σ a)) (r7 (fun i => gA σ a (b + i)))))) := by
  obtain ⟨hn, h7, -⟩ := ho
  generalize hF : fN (mF σ a) = n at *
  have rP : ∀ i, i < 7 → gA σ a (nI b + nI i).toNatClampNeg = r7 (fun i => gA σ a (b + i)) i := fun i hi => r7_at hi (by omega)
  generalize r7 (fun i => gA σ a (b + i)) = P at *
  refine EvM.of mk_X12_sumOf (Nat.le_of_ble_eq_true rfl) ?_
  rcases ha with rfl | rfl
  all_goals
    refine wpW K_X12_sumOf [5] 20 ?_
    refine loopI (α := Int32) 5 (fun i x => [some (.ref 52), some (.ref _), some (.int (nI b)), some (.int x), some (.int (nI i))]) (fun _ => σ) (fun i x => x = sumS i P) n ?_ ?_ 0 0 (Nat.zero_le _) rfl
    · intro i x hi hI go
      refine wpW K_X12_sumOf [5] 30 ?_
      refine ⟨fun h => ?_, fun h => ⟨in30 (by omega) hb, ?_⟩⟩
      · rw [hn, le_of_nI (by omega) (by omega)] at h; omega
      · exact go _ _ _ (by rw [← nI_1]; rfl) rfl (by rw [sumS, fo, ← sumS, ← hI, rP i (by omega)])
    · intro x hI
      refine wpW K_X12_sumOf [5] 30 ?_
      refine ⟨fun h => ?_, fun h => ?_⟩
      · exact ⟨rfl, by rw [hI]⟩
      · rw [hn, le_of_nI (by omega) (by omega)] at h; omega
