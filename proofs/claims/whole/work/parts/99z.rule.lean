/-! the rule's constructor: it calls becomesNone -/
section BP
variable {M : Mt} {I : Bool} {R : Room} {Z : BZ} {h0 kc ks pc : Nat} {lv : List (Nat × Value)} {w : List bA} {S : List Value}
theorem bv_get (k : Nat) {i ci j : Nat} {C : String} {T : u_T} {N : Nat} {fs : List Value} {v : Value} (hF : FOK M i ci j C T N) (hw : w[k]? = some (.inr (ci, fs))) (hv : fs[j]? = some v) (hd : decode (mB M) pc = .ok (.getfield i, 3)) (go : BV M I R Z h0 kc ks (pc + 3) lv w (v :: S)) : BV M I R Z h0 kc ks pc lv w (.ref (h0 + k) :: S) := fun l p e s m args below meth c D cy C hG H locs ls hz hl hB hS =>
  va_get C.1 C.2.1 C.2.2.2.2.2.2.1 hF.2.2.2 C.2.2.2.2.2.1 C.2.2.2.2.2.2.2.1 hB.1 k (by rw [wz_at, hw]; rfl) hF.1 j hF.2.1 (C.2.2.2.2.2.2.1 _ hF.2.2.1) (fun _ h9 => h9) hv hd (go l p e s m args below meth c D cy C hG H locs ls hz hl hB hS)
theorem bv_ild (k : Nat) {q : Fin 4} {i : Nat} {x : Int32} (hd : decode (mB M) pc = .ok (.iload_n q, 1)) (hi : (q : Nat) = i) (hk : lv[k]? = some (i, .int x)) (go : BV M I R Z h0 kc ks (pc + 1) lv w (.int x :: S)) : BV M I R Z h0 kc ks pc lv w S := fun l p e s m args below meth c D cy C hG H locs ls hz hl hB hS =>
  lv_iload_n C.1 C.2.1 hd hi (lv_at hl k hk) (go l p e s m args below meth c D cy C hG H locs ls hz hl hB hS)
theorem bv_iflt {x : Int32} {t : Nat} {off : Int} (hx : ¬ x < 0) (hd : decode (mB M) pc = .ok (.ifCond .lt off, 3)) (ht : (pc : Int) + off = (t : Int)) (go : BV M I R Z h0 kc ks (pc + 3) lv w S) : BV M I R Z h0 kc ks pc lv w (.int x :: S) := fun l p e s m args below meth c D cy C hG H locs ls hz hl hB hS =>
  lv_if_lt C.1 C.2.1 hd ht (fun q => absurd q hx) (fun _ => go l p e s m args below meth c D cy C hG H locs ls hz hl hB hS)
theorem bv_icge {x y : Int32} {t : Nat} {off : Int} (hx : ¬ y ≤ x) (hd : decode (mB M) pc = .ok (.if_icmp .ge off, 3)) (ht : (pc : Int) + off = (t : Int)) (go : BV M I R Z h0 kc ks (pc + 3) lv w S) : BV M I R Z h0 kc ks pc lv w (.int y :: .int x :: S) := fun l p e s m args below meth c D cy C hG H locs ls hz hl hB hS =>
  lv_icmp_ge C.1 C.2.1 hd ht (fun q => absurd q hx) (fun _ => go l p e s m args below meth c D cy C hG H locs ls hz hl hB hS)
theorem bv_iadd {x y : Int32} (hd : decode (mB M) pc = .ok (.iadd, 1)) (go : BV M I R Z h0 kc ks (pc + 1) lv w (.int (x + y) :: S)) : BV M I R Z h0 kc ks pc lv w (.int y :: .int x :: S) := fun l p e s m args below meth c D cy C hG H locs ls hz hl hB hS =>
  lv_iadd C.1 C.2.1 hd (go l p e s m args below meth c D cy C hG H locs ls hz hl hB hS)
theorem bv_iast (k : Nat) {n : Nat} {f : Nat → Int32} {i x : Int32} (hw : w[k]? = some (.inl (0, n, f))) (hi : vp_in i n) (hd : decode (mB M) pc = .ok (.iastore, 1)) (go : BV M I R Z h0 kc ks (pc + 1) lv (w.set k (.inl (0, n, upd f i.toNatClampNeg x))) S) : BV M I R Z h0 kc ks pc lv w (.int x :: .int i :: .ref (h0 + k) :: S) := fun l p e s m args below meth c D cy C hG H locs ls hz hl hB hS => by
  have hlen : 0 < w.length := by have := (List.getElem?_eq_some_iff.mp hw).1; omega
  refine va_iast C.1 C.2.1 C.2.2.2.2.2.2.2.1 hB.1 (wz_D (fun _ h => h)) hS k 0 (by rw [wz_at, hw]; rfl) rfl hi hd (fun H1 locs1 hP1 hD1 hS1 => ?_)
  refine W.sized (fun hsz => ?_)
  have hP2 : va_P D vwCl (wz cy h0 (w.set k (.inl (0, n, upd f i.toNatClampNeg x)))) H1 := by rw [← wz_set]; exact hP1
  have hlow := bw_low hP2 (by rw [List.length_set]; exact hlen)
  rw [List.length_set] at hlow
  exact go l p e s m args below meth c D cy C hG H1 locs1 ls (by rw [List.length_set]; exact hz) hl ⟨hP2, by rw [List.length_set]; omega⟩ hS1
theorem bv_puti (k : Nat) {i ci j : Nat} {x : Int32} {C : String} {T : u_T} {N : Nat} {ty0 : Nat → FieldType} {fs : List Value} (hF : FOK M i ci j C T N) (hT : TOK T N j ty0 .int) (hw : w[k]? = some (.inr (ci, fs))) (hl : j < fs.length) (hd : decode (mB M) pc = .ok (.putfield i, 3)) (go : BV M I R Z h0 kc ks (pc + 3) lv (w.set k (.inr (ci, fs.set j (.int x)))) S) : BV M I R Z h0 kc ks pc lv w (.int x :: .ref (h0 + k) :: S) := fun l p e s m args below meth c D cy C hG H locs ls hz hls hB hS => by
  refine va_put C.1 C.2.1 C.2.2.2.2.2.2.1 hF.2.2.2 ty0 hT.1 hT.2.1 C.2.2.2.2.2.1 C.2.2.2.2.2.2.2.1 hB.1 (wz_D (fun _ h => h)) hS k (by rw [wz_at, hw]; rfl) hF.1 j hF.2.1 (C.2.2.2.2.2.2.1 _ hF.2.2.1) (fun _ h9 => h9) hT.2.2.1 hT.2.2.2 rfl rfl hl hd (fun H1 locs1 hP1 hD1 hS1 => ?_)
  have hlen : 0 < w.length := by have := (List.getElem?_eq_some_iff.mp hw).1; omega
  refine W.sized (fun hsz => ?_)
  have hP2 : va_P D vwCl (wz cy h0 (w.set k (.inr (ci, fs.set j (.int x))))) H1 := by rw [← wz_set]; exact hP1
  have hlow := bw_low hP2 (by rw [List.length_set]; exact hlen)
  rw [List.length_set] at hlow
  exact go l p e s m args below meth c D cy C hG H1 locs1 ls (by rw [List.length_set]; exact hz) hls ⟨hP2, by rw [List.length_set]; omega⟩ hS1
/-- a call on the block itself -/
def EvW (M : Mt) (args : List Value) (h0 : Nat) (w w' : List bA) (kf : Nat) : Prop := ∀ (l : Launch) (D : va_G) (cy : Nat → ClassId), Met l (mY M) (mW M) (rmb kf 0 0) (va_Pc args (fun U => BW D cy h0 w U.heap ∧ va_K D vwCl (tysOf cy) U ∧ ∀ w ∈ nL, va_Nw w U)) (QB D cy h0 w') 0 0 (fun q => h0 ≤ q)
theorem EvW.of {M : Mt} {args : List Value} {h0 : Nat} {w w' : List bA} {kf : Nat} (hM : MOK M) (hlen : (lg_sl args).length ≤ mL M) (h : BV M false (rmb kf 0 0) (bZ h0 0 0 w') h0 0 0 0 (lv_args 0 args) w []) : EvW M args h0 w w' kf := by
  intro l D cy
  refine Met.ofW (cc := mB M) (maxL := mL M) (ret := mR M) hM.1 hM.2.1 ?_
  intro p e s m args' below meth c s₁ B hml hv
  obtain ⟨rfl, hB, hK, hN⟩ := hv
  have hown : s.vm.findClass (mO M) = some m.cls := hM.2.2.1 ▸ findClass_of_methodNamed B.named
  have hts := atoms_spec (ws := mW M) B.pre
  have hl := lv_entry args (n := mL M) hlen
  rw [lg_entry_eq]
  exact h l p e s m _ below meth c D cy ⟨B.exec, B.bytes, hml, B.returns, B.notSynchronized, hown, fun w hw => hts w (by rw [hM.2.1]; exact List.mem_cons_of_mem _ hw), hK, (fun q => nomatch q), hN⟩ trivial s.heap [] _ (by rw [hB.2]; rfl) hl hB va_S.rf
theorem bv_callW {M' : Mt} {ci idx n kf : Nat} {fs : List Value} {T : u_T} {N : Nat} {w' : List bA} {As : List Value} (hM' : MOK M') (hc : CVok M M' idx n) (hci : vwCl[ci]? = some (mO M', T, N)) (hd : decode (mB M) pc = .ok (.invokevirtual idx, 3)) (hw : w[0]? = some (.inr (ci, fs))) (hev : EvW M' (.ref h0 :: As) h0 w w' kf) (hlen : w'.length = w.length) (hn : As.length = n) (hR : kf + 1 ≤ R.frames ∧ 64 * (kf + 1) ≤ R.locals) (hcs : kc ≤ R.cells ∧ ks ≤ R.slots) (hS8 : (S.map fun v => v.category).sum ≤ 8) (go : BV M I R Z h0 kc ks (pc + 3) lv w' S) : BV M I R Z h0 kc ks pc lv w (As.reverse ++ .ref h0 :: S) := fun l p e s m args below meth c D cy C hG H locs ls hz hl hB hS => by
  have h45 := hM'.2.2.2.2
  have hGd : GoodIn UW (wsV (mO M) idx (mO M') (mY M') (mW M')) := by
    intro w hw
    rcases List.mem_append.mp hw with hw | hw
    · have hu : w ∈ UW := by
        rcases List.mem_cons.mp hw with rfl | hw
        · exact hc.1
        rcases List.mem_cons.mp hw with rfl | hw
        · exact hc.2.1
        rcases List.mem_cons.mp hw with rfl | hw
        · exact hc.2.2.1
        rcases List.mem_cons.mp hw with rfl | hw
        · exact hc.2.2.2.1
        · cases hw
      exact ⟨hu, UW_good hu⟩
    · exact hM'.goodL w hw
  have hrun := va_runV (H := H) (locs := locs) (cells := kc) (slots := ks) (below := below) (As := As) (b := h0) (rest := S) (g := F0 m pc ls (As.reverse ++ .ref h0 :: S)) (meth := meth) (e := e) (R := R) ⟨C.1, C.2.1, C.2.2.1, C.2.2.2.2.2.1, C.2.2.2.2.2.2.1⟩ (hev l D cy) (cwV n C.2.2.2.2.2.2.1 hGd hM'.2.1 rfl rfl ⟨hM'.2.2.1, hc.2.2.2.2⟩ ⟨hR.1, by show 8 + (mL M' + 11) + 64 * kf ≤ R.locals; omega⟩) ⟨fun a U g mk q => by obtain ⟨q0, q1, q2, q3⟩ := q; exact ⟨q0, q1, va_K.moved (u := U) (U := U.calling g mk a) (Vm.Alike.refl U.vm) q2, nN_warm (s := U) (U := U.calling g mk a) (State.WarmedH.refl U) q3⟩, va_recv C.2.2.2.2.2.2.2.1 hB.1 hci (q0 := 0) (fs := fs) (by rw [wz_at, hw]; rfl), fun U hU hw => ⟨rfl, by rw [hU]; exact hB, va_K.moved hw.alike C.2.2.2.2.2.2.2.1, nN_warm hw C.2.2.2.2.2.2.2.2.2⟩⟩ rfl hn hl.1 rfl (lv_room hS8) hd hcs
  intro U hU X
  obtain ⟨v, st₀, t, T', Lo, e0, X', hL, e1, e2, ⟨⟨hv, hBt⟩, hF⟩, st⟩ := hrun U hU X
  cases hv
  have hF1 := hF.1
  have hF2 := hF.2
  rw [e0] at hF1 hF2
  rw [← e1] at hBt hF1 hF2
  have hS' : va_S (fun q => h0 ≤ q) s.heap T'.heap (locs ++ Lo) := by
    refine ⟨Nat.le_trans hS.1 hF1, fun q g1 g2 => ?_, fun q hq => ?_⟩
    · rw [hF2 q (Nat.lt_of_lt_of_le g1 hS.1) g2]
      exact hS.2.1 q g1 g2
    · rcases List.mem_append.mp hq with g | g
      · exact hS.2.2 q g
      · exact hL q g
  obtain ⟨t2, a1, b1⟩ := go l p e s m args below meth c D cy C hG T'.heap (locs ++ Lo) ls (by rw [hlen]; exact hz) hl hBt hS' T' rfl X'
  exact ⟨t2, st t2 a1, b1⟩
end BP
theorem uw122 : (Cond.code yX5_init cX5_init 1 none) ∈ UW := inR6 _ (List.mem_of_getElem? (i := 2) rfl)
theorem uw123 : (Cond.methodLink RX5 3 objectInit) ∈ UW := inR6 _ (List.mem_of_getElem? (i := 3) rfl)
theorem uw126 : (Cond.methodLink RX5 18 yX5_becomesNone) ∈ UW := inR6 _ (List.mem_of_getElem? (i := 6) rfl)
def rB (h0 : Nat) (n : Int32) (f : Nat → Int32) : List bA := [.inr (5, [.ref (h0 + 1), .ref (h0 + 2), .int n]), .inl (0, 40, f), .inl (0, 40, fun _ => 0)]
set_option maxRecDepth 20000 in
theorem eb_puts (h0 : Nat) (n n' v : Int32) (k : Nat) (f : Nat → Int32) (h1 : ¬ n < 0) (h2 : ¬ 40 ≤ n) (h3 : vp_in n 40) (hn : n + 1 = n') (hk : n.toNatClampNeg = k) : EvW M_X5_puts [.ref h0, .int v] h0 (rB h0 n f) (rB h0 n' (upd f k v)) 1 := by
  subst hn
  subst hk
  refine EvW.of mk_X5_puts (Nat.le_of_ble_eq_true rfl) ?_
  refine bv_ald 0 (q := 0) (by decide +kernel) rfl rfl ?_
  refine bv_get (M := M_X5_puts) 0 (i := 21) (ci := 5) (T := TX5) (N := 3) (j := 2) ⟨rfl, by decide, uw130, inU5⟩ rfl rfl (by decide +kernel) ?_
  refine bv_iflt h1 (off := 32) (t := 36) (by decide +kernel) (by decide) ?_
  refine bv_ald 0 (q := 0) (by decide +kernel) rfl rfl ?_
  refine bv_get (M := M_X5_puts) 0 (i := 21) (ci := 5) (T := TX5) (N := 3) (j := 2) ⟨rfl, by decide, uw130, inU5⟩ rfl rfl (by decide +kernel) ?_
  refine bv_bi (n := 40) (v := 40) (by decide +kernel) (by decide +kernel) ?_
  refine bv_icge h2 (off := 23) (t := 36) (by decide +kernel) (by decide) ?_
  refine bv_ald 0 (q := 0) (by decide +kernel) rfl rfl ?_
  refine bv_get (M := M_X5_puts) 0 (i := 9) (ci := 5) (T := TX5) (N := 3) (j := 0) ⟨rfl, by decide, uw124, inU5⟩ rfl rfl (by decide +kernel) ?_
  refine bv_ald 0 (q := 0) (by decide +kernel) rfl rfl ?_
  refine bv_get (M := M_X5_puts) 0 (i := 21) (ci := 5) (T := TX5) (N := 3) (j := 2) ⟨rfl, by decide, uw130, inU5⟩ rfl rfl (by decide +kernel) ?_
  refine bv_ild 1 (q := 1) (by decide +kernel) rfl rfl ?_
  refine bv_iast 1 rfl h3 (by decide +kernel) ?_
  refine bv_ald 0 (q := 0) (by decide +kernel) rfl rfl ?_
  refine bv_dup (by decide +kernel) ?_
  refine bv_get (M := M_X5_puts) 0 (i := 21) (ci := 5) (T := TX5) (N := 3) (j := 2) ⟨rfl, by decide, uw130, inU5⟩ rfl rfl (by decide +kernel) ?_
  refine bv_ic (n := 1) (v := 1) (by decide +kernel) (by decide +kernel) ?_
  refine bv_iadd (by decide +kernel) ?_
  refine bv_puti (M := M_X5_puts) 0 (i := 21) (ci := 5) (T := TX5) (N := 3) (j := 2) (ty0 := tyX5) ⟨rfl, by decide, uw130, inU5⟩ ⟨tyX5_ok, nmX5, rfl, by decide +kernel⟩ rfl (Nat.lt_of_lt_of_eq (show 2 < 3 by decide) rfl) (by decide +kernel) ?_
  exact bv_ret rfl (by decide +kernel) (Nat.le_refl _) (Nat.le_refl _)
def rF (f : Nat → Int32) : Nat → Int32 := upd (upd (upd f 0 1118) 1 1102) 2 1045
theorem v40 (n : Nat) (h : n < 40) : vp_in (nI n) 40 := vp_in_nI h (by decide)
set_option maxRecDepth 20000 in
theorem eb_none (h0 : Nat) (n : Int32) (f : Nat → Int32) : EvW M_X5_becomesNone [.ref h0] h0 (rB h0 n f) (rB h0 3 (rF f)) 2 := by
  have p0 := eb_puts h0 0 1 1118 0 f (by decide) (by decide) (v40 0 (by decide)) (by decide) (by decide)
  have p1 := eb_puts h0 1 2 1102 1 (upd f 0 1118) (by decide) (by decide) (v40 1 (by decide)) (by decide) (by decide)
  have p2 := eb_puts h0 2 3 1045 2 (upd (upd f 0 1118) 1 1102) (by decide) (by decide) (v40 2 (by decide)) (by decide) (by decide)
  refine EvW.of mk_X5_becomesNone (Nat.le_of_ble_eq_true rfl) ?_
  refine bv_ald 0 (q := 0) (by decide +kernel) rfl rfl ?_
  refine bv_ic (n := 0) (v := 0) (by decide +kernel) (by decide +kernel) ?_
  refine bv_puti (M := M_X5_becomesNone) 0 (i := 21) (ci := 5) (T := TX5) (N := 3) (j := 2) (ty0 := tyX5) ⟨rfl, by decide, uw130, inU5⟩ ⟨tyX5_ok, nmX5, rfl, by decide +kernel⟩ rfl (Nat.lt_of_lt_of_eq (show 2 < 3 by decide) rfl) (by decide +kernel) ?_
  refine bv_ald 0 (q := 0) (by decide +kernel) rfl rfl ?_
  refine bv_si (n := 1118) (v := 1118) (by decide +kernel) (by decide +kernel) ?_
  refine bv_callW (M := M_X5_becomesNone) (M' := M_X5_puts) (ci := 5) (T := TX5) (N := 3) (n := 1) (idx := 25) (kf := 1) (As := [.int 1118]) mk_X5_puts ⟨uw131, uw132, uw133, uw56, by decide +kernel⟩ rfl (by decide +kernel) rfl p0 rfl rfl ⟨(Nat.le_of_ble_eq_true rfl), (Nat.le_of_ble_eq_true rfl)⟩ ⟨(Nat.le_of_ble_eq_true rfl), (Nat.le_of_ble_eq_true rfl)⟩ (Nat.le_of_ble_eq_true rfl) ?_
  refine bv_ald 0 (q := 0) (by decide +kernel) rfl rfl ?_
  refine bv_si (n := 1102) (v := 1102) (by decide +kernel) (by decide +kernel) ?_
  refine bv_callW (M := M_X5_becomesNone) (M' := M_X5_puts) (ci := 5) (T := TX5) (N := 3) (n := 1) (idx := 25) (kf := 1) (As := [.int 1102]) mk_X5_puts ⟨uw131, uw132, uw133, uw56, by decide +kernel⟩ rfl (by decide +kernel) rfl p1 rfl rfl ⟨(Nat.le_of_ble_eq_true rfl), (Nat.le_of_ble_eq_true rfl)⟩ ⟨(Nat.le_of_ble_eq_true rfl), (Nat.le_of_ble_eq_true rfl)⟩ (Nat.le_of_ble_eq_true rfl) ?_
  refine bv_ald 0 (q := 0) (by decide +kernel) rfl rfl ?_
  refine bv_si (n := 1045) (v := 1045) (by decide +kernel) (by decide +kernel) ?_
  refine bv_callW (M := M_X5_becomesNone) (M' := M_X5_puts) (ci := 5) (T := TX5) (N := 3) (n := 1) (idx := 25) (kf := 1) (As := [.int 1045]) mk_X5_puts ⟨uw131, uw132, uw133, uw56, by decide +kernel⟩ rfl (by decide +kernel) rfl p2 rfl rfl ⟨(Nat.le_of_ble_eq_true rfl), (Nat.le_of_ble_eq_true rfl)⟩ ⟨(Nat.le_of_ble_eq_true rfl), (Nat.le_of_ble_eq_true rfl)⟩ (Nat.le_of_ble_eq_true rfl) ?_
  exact bv_ret rfl (by decide +kernel) (Nat.le_refl _) (Nat.le_refl _)
def M_X5_init : Mt := (RX5, yX5_init, Cond.code yX5_init cX5_init 1 none :: UW, cX5_init, 1, none)
theorem mk_X5_init : MOK M_X5_init := ⟨by decide +kernel, rfl, rfl, uw122, by decide⟩
def blkX5 (h0 : Nat) : List bA := rB h0 3 (rF (fun _ => 0))
def dfX5 : List Value := [.null, .null, .int 0]
set_option maxRecDepth 20000 in
theorem eb_X5 : EvB M_X5_init 5 dfX5 blkX5 3 2 80 := by
  refine EvB.of mk_X5_init rfl rfl (fun h0 => ?_)
  refine bv_ald 0 (q := 0) (by decide +kernel) rfl rfl ?_
  refine bv_oinit (M := M_X5_init) (idx := 3) uw123 uw11 uw12 (by decide +kernel) (Nat.le_of_ble_eq_true rfl) (Nat.le_of_ble_eq_true rfl) ?_
  refine bv_ald 0 (q := 0) (by decide +kernel) rfl rfl ?_
  refine bv_bi (n := 40) (v := 40) (by decide +kernel) (by decide +kernel) ?_
  refine bv_newa (atype := .int) (t := 0) (N := 40) (by decide) rfl uw71 (by decide) (by decide) (by decide) (Nat.le_of_ble_eq_true rfl) (Nat.le_of_ble_eq_true rfl) (by decide +kernel) ?_
  refine bv_putF (M := M_X5_init) 0 (i := 9) (ci := 5) (T := TX5) (N := 3) (j := 0) (ty := .array (.int)) (ty0 := tyX5) rfl ⟨rfl, by decide, uw124, inU5⟩ tyX5_ok nmX5 rfl rfl (by decide +kernel) rfl rfl rfl (Nat.lt_of_lt_of_eq (show 0 < 3 by decide) rfl) (by decide +kernel) ?_
  refine bv_ald 0 (q := 0) (by decide +kernel) rfl rfl ?_
  refine bv_bi (n := 40) (v := 40) (by decide +kernel) (by decide +kernel) ?_
  refine bv_newa (atype := .int) (t := 0) (N := 40) (by decide) rfl uw71 (by decide) (by decide) (by decide) (Nat.le_of_ble_eq_true rfl) (Nat.le_of_ble_eq_true rfl) (by decide +kernel) ?_
  refine bv_putF (M := M_X5_init) 0 (i := 15) (ci := 5) (T := TX5) (N := 3) (j := 1) (ty := .array (.int)) (ty0 := tyX5) rfl ⟨rfl, by decide, uw125, inU5⟩ tyX5_ok nmX5 rfl rfl (by decide +kernel) rfl rfl rfl (Nat.lt_of_lt_of_eq (show 1 < 3 by decide) rfl) (by decide +kernel) ?_
  refine bv_ald 0 (q := 0) (by decide +kernel) rfl rfl ?_
  refine bv_callW (M := M_X5_init) (M' := M_X5_becomesNone) (ci := 5) (T := TX5) (N := 3) (n := 0) (idx := 18) (kf := 2) (As := []) mk_X5_becomesNone ⟨uw126, uw127, uw128, uw56, by decide +kernel⟩ rfl (by decide +kernel) rfl (eb_none h0 0 (fun _ => 0)) rfl rfl ⟨(Nat.le_of_ble_eq_true rfl), (Nat.le_of_ble_eq_true rfl)⟩ ⟨(Nat.le_of_ble_eq_true rfl), (Nat.le_of_ble_eq_true rfl)⟩ (Nat.le_of_ble_eq_true rfl) ?_
  exact bv_ret rfl (by decide +kernel) (Nat.le_refl _) (Nat.le_refl _)
