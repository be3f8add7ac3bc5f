/-! switches -/
def swc (x : Int32) (K : Nat → Prop) (d : Nat) : List (Int32 × Nat) → Prop
  | [] => K d
  | q :: ps => (x = q.1 → K q.2) ∧ (¬ x = q.1 → swc x K d ps)
def swt (x : Int32) (d : Nat) : List (Int32 × Nat) → Nat
  | [] => d
  | q :: ps => if x = q.1 then q.2 else swt x d ps
theorem swc_ok {x : Int32} {K : Nat → Prop} {d : Nat} {ps : List (Int32 × Nat)} (h : swc x K d ps) : K (swt x d ps) := by
  induction ps with
  | nil => exact h
  | cons q ps ih =>
    unfold swt
    by_cases hx : x = q.1
    · rw [if_pos hx]; exact h.1 hx
    · rw [if_neg hx]; exact ih (h.2 hx)
def op_sw (d : Nat) (ps : List (Int32 × Nat)) : Op := fun _ _ K _ L S σ => match S with
  | .int x :: S => swc x (fun t => K t L S σ) d ps
  | _ => False
theorem lsw_off {pc d : Nat} {x : Int32} (ps : List (Int32 × Nat)) : Op.lookupswitch.offset (ps.map (fun q => (q.1.toInt, (q.2 : Int) - pc))) ((d : Int) - pc) x.toInt = (swt x d ps : Int) - pc := by
  induction ps with
  | nil => rfl
  | cons q ps ih =>
    rw [List.map_cons, Op.lookupswitch.offset_cons, swt]
    by_cases hx : x = q.1
    · rw [if_pos hx, if_pos (by rw [hx])]
    · rw [if_neg hx, if_neg (fun e => hx (Int32.toInt_inj.mp e).symm), ih]
theorem ok_lsw {M : Mt} {pc d len : Nat} {dflt : Int} {pp : Array (Int × Int)} {ps : List (Int32 × Nat)} (hd : decode (mB M) pc = .ok (.lookupswitch dflt pp, len)) (hp : (pp.toList.zip (pp.toList.drop 1)).all (fun (a, next) => a.1 < next.1) = true) (he : pp.toList = ps.map (fun q => (q.1.toInt, (q.2 : Int) - pc))) (hdf : dflt = (d : Int) - pc) : OpOK M pc (op_sw d ps) := by
  intro k Q K L S σ h hk
  unfold op_sw at h
  split at h
  · rename_i x S
    intro l p e s m args below meth c D cy ad C H locs ls hl hW
    refine lv_lookup (tgt := swt x d ps) C.1 C.2.1 hd hp rfl ?_ (hk _ _ _ _ (swc_ok h) l p e s m args below meth c D cy ad C H locs ls hl hW)
    rw [he, hdf, lsw_off]
    omega
  · exact h.elim
theorem tsw_in {x v : Int32} {d t : Nat} : ∀ (ps : List (Int32 × Nat)) (lo : Int) (j : Nat), (∀ (i : Nat) q, ps[i]? = some q → q.1.toInt = lo + i) → ps[j]? = some (v, t) → x.toInt = lo + j → swt x d ps = t := by
  intro ps
  induction ps with
  | nil => intro lo j _ h; simp at h
  | cons q ps ih =>
    intro lo j hk hj hx
    unfold swt
    have h0 := hk 0 q rfl
    cases j with
    | zero =>
      rw [List.getElem?_cons_zero] at hj
      cases hj
      rw [if_pos (Int32.toInt_inj.mp (by rw [hx, h0]))]
    | succ j =>
      rw [List.getElem?_cons_succ] at hj
      rw [if_neg (fun e => by rw [e, h0] at hx; omega)]
      exact ih (lo + 1) j (fun i q hq => by rw [hk (i + 1) q (by rw [List.getElem?_cons_succ]; exact hq)]; omega) hj (by rw [hx]; omega)
theorem tsw_out {x : Int32} {d : Nat} : ∀ (ps : List (Int32 × Nat)) (lo : Int), (∀ (i : Nat) q, ps[i]? = some q → q.1.toInt = lo + i) → (x.toInt < lo ∨ lo + ps.length ≤ x.toInt) → swt x d ps = d := by
  intro ps
  induction ps with
  | nil => intro lo _ _; rfl
  | cons q ps ih =>
    intro lo hk hx
    unfold swt
    have h0 := hk 0 q rfl
    rw [List.length_cons] at hx
    rw [if_neg (fun e => by rw [e, h0] at hx; omega)]
    exact ih (lo + 1) (fun i q hq => by rw [hk (i + 1) q (by rw [List.getElem?_cons_succ]; exact hq)]; omega) (by omega)
theorem ok_tsw {M : Mt} {pc d len : Nat} {dflt lo hi : Int} {offs : Array Int} {ps : List (Int32 × Nat)} (hd : decode (mB M) pc = .ok (.tableswitch dflt lo hi offs, len)) (he : offs.toList = ps.map (fun q => (q.2 : Int) - pc)) (hkey : ps.map (fun q => q.1.toInt) = (List.range ps.length).map (fun (i : Nat) => lo + (i : Int))) (hhi : hi = lo + ps.length - 1) (hdf : dflt = (d : Int) - pc) : OpOK M pc (op_sw d ps) := by
  have key : ∀ (i : Nat) q, ps[i]? = some q → q.1.toInt = lo + i := by
    intro i q hq
    have h1 : (ps.map (fun q => q.1.toInt))[i]? = some q.1.toInt := by rw [List.getElem?_map, hq]; rfl
    rw [hkey, List.getElem?_map, List.getElem?_range (List.getElem?_eq_some_iff.mp hq).1] at h1
    exact (Option.some.inj h1).symm
  intro k Q K L S σ h hk
  unfold op_sw at h
  split at h
  · rename_i x S
    intro l p e s m args below meth c D cy ad C H locs ls hl hW
    have go := hk _ _ _ _ (swc_ok h) l p e s m args below meth c D cy ad C H locs ls hl hW
    by_cases ho : x.toInt < lo ∨ hi < x.toInt
    · rw [tsw_out ps lo key (by omega)] at go
      exact lv_tableOut (tgt := d) C.1 C.2.1 hd ho (by omega) go
    · have hlt : (x.toInt - lo).toNat < ps.length := by omega
      obtain ⟨q, hq⟩ : ∃ q, ps[(x.toInt - lo).toNat]? = some q := ⟨_, List.getElem?_eq_getElem hlt⟩
      rw [tsw_in (t := q.2) (v := q.1) ps lo (x.toInt - lo).toNat key hq (by omega)] at go
      refine lv_tableIn (tgt := q.2) (off := (q.2 : Int) - pc) C.1 C.2.1 hd (by omega) (by omega) ?_ (by omega) go
      rw [← Array.getElem?_toList, he, List.getElem?_map, hq]
      rfl
  · exact h.elim
/-! calls -/
section CL
variable {p : Program} {l : Launch} {e : Env} {R : Room} {s : State} {m : MethodId} {args : Array Value} {below : List Frame} {meth : Method} {c : Code} {H : Heap} {locs : List Loc} {cells slots : Nat} {Q : State → Prop}
theorem va_go {D : va_G} {cy : Nat → ClassId} {ad : Nat → Nat} {Q' : Option Value → Sto → Prop} {a' : Array Value} {A0 : Nat → Prop} {H0 : Heap} {free : Addr → Prop} {mc ms pc : Nat} {ls : Array Slot} {st0 rest : List Value} (hr : va_Run p l e R s m args below meth c H locs cells slots mc ms (F0 m pc ls st0) rest (QM D cy ad Q' a') free) (hS : va_S A0 H0 H locs) (hA : ∀ q, q < H.size → Aad ad q → A0 q) (hf : ∀ q, free q → A0 q)
    (kk : ∀ (v : Option Value) (σ' : Sto) (H1 : Heap) (locs1 : List Loc), Q' v σ' → va_P D vwCl (wsOf cy ad σ') H1 → va_D (Aad ad) (wsOf cy ad σ') → H.size ≤ H1.size → (∀ q : Nat, q < H.size → ¬ Aad ad q → H1[q]? = H[q]?) → va_S A0 H0 H1 locs1 → W p l e R s m args below meth c H1 locs1 (cells + mc) (slots + ms) Q (F0 m (pc + 3) ls ((v.map (rv ad)).toList ++ rest))) : W p l e R s m args below meth c H locs cells slots Q (F0 m pc ls st0) := by
  intro T hT X
  obtain ⟨v, st₀, t, T', L, h0, X', hL, e1, e2, ⟨⟨v', σ', hv, hq, hP, hD⟩, hz, hk⟩, st⟩ := hr T hT X
  cases hv
  rw [h0] at hz hk
  obtain ⟨t2, a1, b1⟩ := kk v' σ' T'.heap (locs ++ L) hq (by rw [e1]; exact hP) hD (by rw [e1]; exact hz) (fun q h1 h2 => by rw [e1]; exact hk q h1 h2)
    ⟨Nat.le_trans hS.1 (by rw [e1]; exact hz), fun q h1 h2 => by rw [e1, hk q (Nat.lt_of_lt_of_le h1 hS.1) (fun z => h2 (hA q (Nat.lt_of_lt_of_le h1 hS.1) z))]; exact hS.2.1 q h1 h2, fun q hq => by
      rcases List.mem_append.mp hq with h | h
      · exact hS.2.2 q h
      · exact hf _ (hL q h)⟩ T' rfl X'
  exact ⟨t2, st t2 a1, b1⟩
end CL
theorem PreM.blind {D : va_G} {cy : Nat → ClassId} {ad : Nat → Nat} {as : List Value} {σ : Sto} : FrameBlind (PreM D cy ad as σ) := fun a U g mk q => by
  obtain ⟨q0, q1, q2, q3, q4⟩ := q
  exact ⟨q0, q1, va_K.moved (u := U) (U := U.calling g mk a) (Vm.Alike.refl U.vm) q2, q3, Zf.moved (u := U) (U := U.calling g mk a) (Vm.Alike.refl U.vm) q4⟩
def CVok (M M' : Mt) (idx n : Nat) : Prop := Cond.methodLink (mO M) idx (mY M') ∈ UW ∧ Cond.instanceMethod (mY M') ∈ UW ∧ Cond.selects (mO M') (mY M') (mY M') ∈ UW ∧ Cond.initialized (mO M') ∈ UW ∧ ((mY M').cls ≠ "java/lang/invoke/MethodHandle" ∧ (mY M').cls ≠ "java/lang/invoke/VarHandle" ∧ (parseMethodDescriptor (mY M').desc).map (fun d => d.parameters.length) = some n)
def CSok (M M' : Mt) (idx n : Nat) : Prop := Cond.methodLink (mO M) idx (mY M') ∈ UW ∧ Cond.static (mY M') ∈ UW ∧ Cond.initialized (mY M').cls ∈ UW ∧ ((mY M').cls ≠ "java/lang/invoke/MethodHandle" ∧ (mY M').cls ≠ "java/lang/invoke/VarHandle" ∧ (parseMethodDescriptor (mY M').desc).map (fun d => d.parameters.length) = some n)
def cats (S : List Value) : Nat := match S with
  | [] => 0
  | v :: S => match c1 v with
    | true => cats S + 1
    | false => cats S + 2
theorem cats_ok (ad : Nat → Nat) (S : List Value) : ((S.map (rv ad)).map fun v => v.category).sum = cats S := by
  induction S with
  | nil => rfl
  | cons v S ih =>
    rw [List.map_cons, List.map_cons, List.sum_cons, ih]
    cases v <;> simp [cats, c1, rv, Value.category] <;> omega
def op_cv (M' : Mt) (ci n : Nat) : Op := fun k _ K pc L S σ => match k with
  | 0 => False
  | j + 1 => match S.drop n with
    | .ref a :: S' => match isC a ci && Nat.ble (cats S') 8 with
      | true => ∃ Q', EvM j M' (.ref a :: (S.take n).reverse) σ Q' ∧ ∀ v σ', Q' v σ' → K (pc + 3) L (v.toList ++ S') σ'
      | false => False
    | _ => False
def op_cs (M' : Mt) (n : Nat) : Op := fun k _ K pc L S σ => match k with
  | 0 => False
  | j + 1 => match Nat.ble n S.length && Nat.ble (cats (S.drop n)) 8 with
    | true => ∃ Q', EvM j M' (S.take n).reverse σ Q' ∧ ∀ v σ', Q' v σ' → K (pc + 3) L (v.toList ++ S.drop n) σ'
    | false => False
theorem lo_ok {M' : Mt} (h' : MOK M') (j : Nat) : (rmk j).frames + 1 ≤ (rmk (j + 1)).frames ∧ 8 + (mL M' + 11) + (rmk j).locals ≤ (rmk (j + 1)).locals := by
  have := h'.2.2.2.2
  refine ⟨Nat.le_refl _, ?_⟩
  show 8 + (mL M' + 11) + 64 * j ≤ 64 * (j + 1)
  omega
theorem Cx.pre {M : Mt} {p : Program} {s : State} {m : MethodId} {args : Array Value} {meth : Method} {c : Code} {D : va_G} {cy : Nat → ClassId} {ad : Nat → Nat} (C : Cx M p s m args meth c D cy ad) {σ : Sto} {H : Heap} {locs : List Loc} (hW : Wd D cy ad s.heap σ H locs) {as : List Value} {U : State} (hU : U.heap = H) (hw : s.WarmedH U.vm) : PreM D cy ad as σ (as.map (rv ad)).toArray U :=
  ⟨rfl, by rw [hU]; exact hW.1, va_K.moved hw.alike C.2.2.2.2.2.2.2.1, hW.2.1, by rw [hU]; exact (C.2.2.2.2.2.2.2.2.moved hw.alike).kept (fun a h1 h2 => hW.2.2.2.1 a h1 h2)⟩
theorem ok_cv {M M' : Mt} {pc idx ci n : Nat} {T : u_T} {N : Nat} (hM : MOK M) (hM' : MOK M') (hc : CVok M M' idx n) (hci : vwCl[ci]? = some (mO M', T, N)) (hd : decode (mB M) pc = .ok (.invokevirtual idx, 3)) : OpOK M pc (op_cv M' ci n) := by
  intro k Q K L S σ h hk
  unfold op_cv at h
  split at h
  · exact h.elim
  rename_i j
  split at h
  · rename_i a S' hS
    split at h
    · rename_i hb
      rw [Bool.and_eq_true] at hb
      obtain ⟨Q', hev, hgo⟩ := h
      intro l p e s m args below meth c D cy ad C H locs ls hl hW
      have hlen : (S.take n).length = n := by
        rw [List.length_take]
        have : (S.drop n).length = S'.length + 1 := by rw [hS]; rfl
        rw [List.length_drop] at this
        omega
      have hst : S.map (rv ad) = (((S.take n).reverse).map (rv ad)).reverse ++ .ref (ad a) :: S'.map (rv ad) := by
        conv => lhs; rw [← List.take_append_drop n S]
        rw [List.map_append, hS, List.map_reverse, List.reverse_reverse]
        rfl
      have hG : GoodIn (mW M) (wsV (mO M) idx (mO M') (mY M') (mW M')) := by
        intro w hw
        rcases List.mem_append.mp hw with hw | hw
        · have hu : w ∈ UW := by
            rcases List.mem_cons.mp hw with rfl | hw
            · exact hc.1
            rcases List.mem_cons.mp hw with rfl | hw
            · exact hc.2.1
            rcases List.mem_cons.mp hw with rfl | hw
            · exact hc.2.2.1
            rcases List.mem_cons.mp hw with rfl | hw
            · exact hc.2.2.2.1
            · cases hw
          exact ⟨hM.wU w hu, UW_good hu⟩
        · exact hM.good hM' w hw
      rw [hst]
      refine va_go (va_runV (As := ((S.take n).reverse).map (rv ad)) (rest := S'.map (rv ad)) ⟨C.1, C.2.1, C.2.2.1, C.2.2.2.2.2.1, C.2.2.2.2.2.2.1⟩ (hev l D cy ad) (cwV n C.2.2.2.2.2.2.1 hG hM'.2.1 rfl rfl ⟨hM'.2.2.1, hc.2.2.2.2⟩ (lo_ok hM' j)) ⟨PreM.blind, va_recv C.2.2.2.2.2.2.2.1 hW.1 hci (ws_ob (isC_ok hb.1)), fun U hU hw => C.pre hW hU hw⟩ rfl (by rw [List.length_map, List.length_reverse, hlen]) hl.1 rfl (lv_room (by rw [cats_ok]; exact Nat.le_of_ble_eq_true hb.2)) hd ⟨Nat.le_refl 0, Nat.le_refl 0⟩) hW.2.2 (fun _ _ h => h) (fun _ h => h) (fun v σ' H1 locs1 hq hP hD _ _ hS1 => ?_)
      have := hk _ _ _ _ (hgo v σ' hq) l p e s m args below meth c D cy ad C H1 locs1 ls hl ⟨hP, hD, hS1⟩
      rw [List.map_append] at this
      cases v <;> exact this
    · exact h.elim
  · exact h.elim
theorem ok_cs {M M' : Mt} {pc idx n : Nat} (hM : MOK M) (hM' : MOK M') (hc : CSok M M' idx n) (hd : decode (mB M) pc = .ok (.invokestatic idx, 3)) : OpOK M pc (op_cs M' n) := by
  intro k Q K L S σ h hk
  unfold op_cs at h
  split at h
  · exact h.elim
  rename_i j
  split at h
  · rename_i hb
    rw [Bool.and_eq_true] at hb
    obtain ⟨Q', hev, hgo⟩ := h
    intro l p e s m args below meth c D cy ad C H locs ls hl hW
    have hlen : (S.take n).length = n := by
      rw [List.length_take]
      have := Nat.le_of_ble_eq_true hb.1
      omega
    have hst : S.map (rv ad) = (((S.take n).reverse).map (rv ad)).reverse ++ (S.drop n).map (rv ad) := by
      conv => lhs; rw [← List.take_append_drop n S]
      rw [List.map_append, List.map_reverse, List.reverse_reverse]
    have hG : GoodIn (mW M) (va_wsS (mO M) idx (mY M') (mW M')) := by
      intro w hw
      rcases List.mem_append.mp hw with hw | hw
      · have hu : w ∈ UW := by
          rcases List.mem_cons.mp hw with rfl | hw
          · exact hc.1
          rcases List.mem_cons.mp hw with rfl | hw
          · exact hc.2.1
          rcases List.mem_cons.mp hw with rfl | hw
          · exact hc.2.2.1
          · cases hw
        exact ⟨hM.wU w hu, UW_good hu⟩
      · exact hM.good hM' w hw
    rw [hst]
    refine va_go (va_runS (As := ((S.take n).reverse).map (rv ad)) (rest := (S.drop n).map (rv ad)) ⟨C.1, C.2.1, C.2.2.1, C.2.2.2.2.2.1, C.2.2.2.2.2.2.1⟩ (hev l D cy ad) (va_cwS n C.2.2.2.2.2.2.1 hG hM'.2.1 rfl rfl hc.2.2.2 (lo_ok hM' j)) ⟨PreM.blind, fun U hU hw => C.pre hW hU hw⟩ rfl (by rw [List.length_map, List.length_reverse, hlen]) hl.1 rfl (lv_room (by rw [cats_ok]; exact Nat.le_of_ble_eq_true hb.2)) hd ⟨Nat.le_refl 0, Nat.le_refl 0⟩) hW.2.2 (fun _ _ h => h) (fun _ h => h) (fun v σ' H1 locs1 hq hP hD _ _ hS1 => ?_)
    have := hk _ _ _ _ (hgo v σ' hq) l p e s m args below meth c D cy ad C H1 locs1 ls hl ⟨hP, hD, hS1⟩
    rw [List.map_append] at this
    cases v <;> exact this
  · exact h.elim
/-! Math, arraycopy -/
def op_max : Op := fun k _ K pc L S σ => match k with
  | 0 => False
  | _ + 1 => match S with
    | .int y :: .int x :: S => match Nat.ble (cats S) 8 with
      | true => K (pc + 3) L (.int (if x < y then y else x) :: S) σ
      | false => False
    | _ => False
def op_min : Op := fun k _ K pc L S σ => match k with
  | 0 => False
  | _ + 1 => match S with
    | .int y :: .int x :: S => match Nat.ble (cats S) 8 with
      | true => K (pc + 3) L (.int (if y < x then y else x) :: S) σ
      | false => False
    | _ => False
def op_abs : Op := fun k _ K pc L S σ => match k with
  | 0 => False
  | _ + 1 => match S with
    | .int x :: S => match Nat.ble (cats S) 8 with
      | true => K (pc + 3) L (.int (if 0 ≤ x then x else 0 - x) :: S) σ
      | false => False
    | _ => False
theorem ok_max {M : Mt} {pc idx : Nat} (hM : MOK M) (h1 : Cond.methodLink (mO M) idx Lib.Math.max.name ∈ UW) (h2 : Cond.static Lib.Math.max.name ∈ UW) (h3 : Cond.initialized "java/lang/Math" ∈ UW) (h4 : Cond.code Lib.Math.max.name Lib.Math.max.code 2 (some .int) ∈ UW) (hd : decode (mB M) pc = .ok (.invokestatic idx, 3)) : OpOK M pc op_max := by
  intro k Q K L S σ h hk
  unfold op_max at h
  split at h
  · exact h.elim
  split at h
  · split at h
    · rename_i hb
      intro l p e s m args below meth c D cy ad C H locs ls hl hW
      have hts := C.2.2.2.2.2.2.1
      exact va_mmax C.1 C.2.1 (C.2.2.1.trans hl.1.symm) C.2.2.2.2.2.1 (hM.w hts h1) (hM.w hts h2) (hM.w hts h3) (hM.w hts h4) (Nat.succ_le_succ (Nat.zero_le _)) (by rw [cats_ok]; have := Nat.le_of_ble_eq_true hb; show _ ≤ 64 * (_ + 1); omega) (Nat.le_refl 0) (Nat.le_refl 0) hd (hk _ _ _ _ h l p e s m args below meth c D cy ad C H locs ls hl hW)
    · exact h.elim
  · exact h.elim
theorem ok_min {M : Mt} {pc idx : Nat} (hM : MOK M) (h1 : Cond.methodLink (mO M) idx Lib.Math.min.name ∈ UW) (h2 : Cond.static Lib.Math.min.name ∈ UW) (h3 : Cond.initialized "java/lang/Math" ∈ UW) (h4 : Cond.code Lib.Math.min.name Lib.Math.min.code 2 (some .int) ∈ UW) (hd : decode (mB M) pc = .ok (.invokestatic idx, 3)) : OpOK M pc op_min := by
  intro k Q K L S σ h hk
  unfold op_min at h
  split at h
  · exact h.elim
  split at h
  · split at h
    · rename_i hb
      intro l p e s m args below meth c D cy ad C H locs ls hl hW
      have hts := C.2.2.2.2.2.2.1
      exact va_mmin C.1 C.2.1 (C.2.2.1.trans hl.1.symm) C.2.2.2.2.2.1 (hM.w hts h1) (hM.w hts h2) (hM.w hts h3) (hM.w hts h4) (Nat.succ_le_succ (Nat.zero_le _)) (by rw [cats_ok]; have := Nat.le_of_ble_eq_true hb; show _ ≤ 64 * (_ + 1); omega) (Nat.le_refl 0) (Nat.le_refl 0) hd (hk _ _ _ _ h l p e s m args below meth c D cy ad C H locs ls hl hW)
    · exact h.elim
  · exact h.elim
theorem ok_abs {M : Mt} {pc idx : Nat} (hM : MOK M) (h1 : Cond.methodLink (mO M) idx Lib.Math.abs.name ∈ UW) (h2 : Cond.static Lib.Math.abs.name ∈ UW) (h3 : Cond.initialized "java/lang/Math" ∈ UW) (h4 : Cond.code Lib.Math.abs.name Lib.Math.abs.code 1 (some .int) ∈ UW) (hd : decode (mB M) pc = .ok (.invokestatic idx, 3)) : OpOK M pc op_abs := by
  intro k Q K L S σ h hk
  unfold op_abs at h
  split at h
  · exact h.elim
  split at h
  · split at h
    · rename_i hb
      intro l p e s m args below meth c D cy ad C H locs ls hl hW
      have hts := C.2.2.2.2.2.2.1
      exact va_mabs C.1 C.2.1 (C.2.2.1.trans hl.1.symm) C.2.2.2.2.2.1 (hM.w hts h1) (hM.w hts h2) (hM.w hts h3) (hM.w hts h4) (Nat.succ_le_succ (Nat.zero_le _)) (by rw [cats_ok]; have := Nat.le_of_ble_eq_true hb; show _ ≤ 64 * (_ + 1); omega) (Nat.le_refl 0) (Nat.le_refl 0) hd (hk _ _ _ _ h l p e s m args below meth c D cy ad C H locs ls hl hW)
    · exact h.elim
  · exact h.elim
def op_cpi : Op := fun k _ K pc L S σ => match k with
  | 0 => False
  | _ + 1 => match S with
    | .int n :: .int dp :: .ref a :: .int sp :: .ref b :: S => match arr a 1, arr b 1, Nat.ble (cats S) 8 with
      | some na, some nb, true => (¬ sp < 0 ∧ ¬ dp < 0 ∧ ¬ n < 0 ∧ sp.toNatClampNeg + n.toNatClampNeg ≤ nb ∧ dp.toNatClampNeg + n.toNatClampNeg ≤ na) ∧ K (pc + 3) L S (sA σ a (va_cpy (gA σ b) (gA σ a) sp.toNatClampNeg dp.toNatClampNeg n.toNatClampNeg))
      | _, _, _ => False
    | _ => False
theorem ok_cpi {M : Mt} {pc idx : Nat} (hM : MOK M) (h1 : Cond.methodLink (mO M) idx arraycopyName ∈ UW) (h2 : Cond.native arraycopyName ∈ UW) (h3 : Cond.static arraycopyName ∈ UW) (h4 : Cond.initialized "java/lang/System" ∈ UW) (hd : decode (mB M) pc = .ok (.invokestatic idx, 3)) : OpOK M pc op_cpi := by
  intro k Q K L S σ h hk
  unfold op_cpi at h
  split at h
  · exact h.elim
  split at h
  · split at h
    · rename_i na nb ha hb hs
      obtain ⟨⟨c1, c2, c3, c4, c5⟩, h⟩ := h
      intro l p e s m args below meth c D cy ad C H locs ls hl hW
      have hts := C.2.2.2.2.2.2.1
      refine va_copyi C.1 C.2.1 (C.2.2.1.trans hl.1.symm) C.2.2.2.2.2.1 (hM.w hts h1) (hM.w hts h2) (hM.w hts h3) (hM.w hts h4) C.2.2.2.2.2.2.2.1 hW.1 hW.2.1 hW.2.2 _ _ 0 0 (ty := .int) (ws_in (t := 0) (by decide) (arr_ok hb)) (ws_in (t := 0) (by decide) (arr_ok ha)) rfl rfl rfl c1 c2 c3 c4 c5 (fun _ _ => rfl) (Nat.succ_le_succ (Nat.zero_le _)) (by rw [cats_ok]; have := Nat.le_of_ble_eq_true hs; show _ + (nativeFrameWords "java/lang/System" "arraycopy" 5 + 11) ≤ 64 * (_ + 1); rw [show nativeFrameWords "java/lang/System" "arraycopy" 5 = 7 from by decide +kernel]; omega) hd (fun H1 locs1 hP1 hD1 hS1 => ?_)
      rw [ws_sA (t := 0) (by decide) (arr_ok ha)] at hP1 hD1
      exact hk _ _ _ _ h l p e s m args below meth c D cy ad C H1 locs1 ls hl ⟨hP1, hD1, hS1⟩
    · exact h.elim
  · exact h.elim
def op_cpl : Op := fun k _ K pc L S σ => match k with
  | 0 => False
  | _ + 1 => match S with
    | .int n :: .int dp :: .ref a :: .int sp :: .ref b :: S => match arr a 5, arr b 5, Nat.ble (cats S) 8 with
      | some na, some nb, true => (¬ sp < 0 ∧ ¬ dp < 0 ∧ ¬ n < 0 ∧ sp.toNatClampNeg + n.toNatClampNeg ≤ nb ∧ dp.toNatClampNeg + n.toNatClampNeg ≤ na) ∧ K (pc + 3) L S (sJ σ a (va_cpy (gJ σ b) (gJ σ a) sp.toNatClampNeg dp.toNatClampNeg n.toNatClampNeg))
      | _, _, _ => False
    | _ => False
theorem ok_cpl {M : Mt} {pc idx : Nat} (hM : MOK M) (h1 : Cond.methodLink (mO M) idx arraycopyName ∈ UW) (h2 : Cond.native arraycopyName ∈ UW) (h3 : Cond.static arraycopyName ∈ UW) (h4 : Cond.initialized "java/lang/System" ∈ UW) (hd : decode (mB M) pc = .ok (.invokestatic idx, 3)) : OpOK M pc op_cpl := by
  intro k Q K L S σ h hk
  unfold op_cpl at h
  split at h
  · exact h.elim
  split at h
  · split at h
    · rename_i na nb ha hb hs
      obtain ⟨⟨c1, c2, c3, c4, c5⟩, h⟩ := h
      intro l p e s m args below meth c D cy ad C H locs ls hl hW
      have hts := C.2.2.2.2.2.2.1
      refine va_copyl C.1 C.2.1 (C.2.2.1.trans hl.1.symm) C.2.2.2.2.2.1 (hM.w hts h1) (hM.w hts h2) (hM.w hts h3) (hM.w hts h4) C.2.2.2.2.2.2.2.1 hW.1 hW.2.1 hW.2.2 _ _ 4 4 (ty := .long) (ws_lo (arr_ok hb)) (ws_lo (arr_ok ha)) rfl rfl rfl c1 c2 c3 c4 c5 (fun _ _ => rfl) (Nat.succ_le_succ (Nat.zero_le _)) (by rw [cats_ok]; have := Nat.le_of_ble_eq_true hs; show _ + (nativeFrameWords "java/lang/System" "arraycopy" 5 + 11) ≤ 64 * (_ + 1); rw [show nativeFrameWords "java/lang/System" "arraycopy" 5 = 7 from by decide +kernel]; omega) hd (fun H1 locs1 hP1 hD1 hS1 => ?_)
      rw [ws_sJ (arr_ok ha)] at hP1 hD1
      exact hk _ _ _ _ h l p e s m args below meth c D cy ad C H1 locs1 ls hl ⟨hP1, hD1, hS1⟩
    · exact h.elim
  · exact h.elim
/-! the one static field: a row of three numbers outside the world -/
def op_gs : Op := fun _ _ K pc L S σ => K (pc + 3) L (.ref 999 :: S) σ
theorem ok_gs {M : Mt} {pc idx : Nat} (hM : MOK M) (h1 : Cond.fieldLink (mO M) idx "NamesInMouths$Ear" "ASKED" "[I" ∈ UW) (hd : decode (mB M) pc = .ok (.getstatic idx, 3)) : OpOK M pc op_gs := by
  intro k Q K L S σ h hk
  intro l p e s m args below meth c D cy ad C H locs ls hl hW
  exact va_gets C.1 C.2.1 C.2.2.2.2.2.2.2.2.1 hW.2.2 C.2.2.2.2.2.1 (hM.w C.2.2.2.2.2.2.1 h1) (fun _ h9 => h9) hd (hk _ _ _ _ h l p e s m args below meth c D cy ad C H locs ls hl hW)
def op_tlen : Op := fun _ _ K pc L S σ => match S with
  | .ref 999 :: S => K (pc + 1) L (.int 3 :: S) σ
  | _ => False
theorem ok_tlen {M : Mt} {pc : Nat} (hd : decode (mB M) pc = .ok (.arraylength, 1)) : OpOK M pc op_tlen := by
  intro k Q K L S σ h hk
  unfold op_tlen at h
  split at h
  · intro l p e s m args below meth c D cy ad C H locs ls hl hW
    exact va_tlen C.1 C.2.1 C.2.2.2.2.2.2.2.2.2 hW.2.2 rfl hd (hk _ _ _ _ h l p e s m args below meth c D cy ad C H locs ls hl hW)
  · exact h.elim
def askN (i : Int32) : Int32 := match i.toNatClampNeg with | 0 => 0 | 1 => 3 | _ => 4
def op_tald : Op := fun _ _ K pc L S σ => match S with
  | .int i :: .ref 999 :: S => vp_in i 3 ∧ K (pc + 1) L (.int (askN i) :: S) σ
  | _ => False
theorem ok_tald {M : Mt} {pc : Nat} (hd : decode (mB M) pc = .ok (.iaload, 1)) : OpOK M pc op_tald := by
  intro k Q K L S σ h hk
  unfold op_tald at h
  split at h
  · intro l p e s m args below meth c D cy ad C H locs ls hl hW
    exact va_ti C.1 C.2.1 C.2.2.2.2.2.2.2.2.2 hW.2.2 h.1 rfl hd (hk _ _ _ _ h.2 l p e s m args below meth c D cy ad C H locs ls hl hW)
  · exact h.elim
