/-! the law's wrappers: they hand out what the class answers, or say that it threw -/
theorem uw382 : (Cond.methodLink RL 45 yL_one) ∈ UW := inR16 _ (List.mem_of_getElem? (i := 22) rfl)
theorem uw383 : (Cond.static yL_one) ∈ UW := inR16 _ (List.mem_of_getElem? (i := 23) rfl)
theorem uw384 : (Cond.initialized RL) ∈ UW := inR17 _ (List.mem_of_getElem? (i := 0) rfl)
theorem uw385 : (Cond.codeWith yL_one cL_one 5 (some .int) [(0, 10, 13, 13)]) ∈ UW := inR17 _ (List.mem_of_getElem? (i := 1) rfl)
theorem uw386 : (Cond.classLink RL 13 "java/util/NoSuchElementException") ∈ UW := inR17 _ (List.mem_of_getElem? (i := 2) rfl)
theorem uw387 : (Cond.methodLink RL 7 yX11_one) ∈ UW := inR17 _ (List.mem_of_getElem? (i := 3) rfl)
theorem uw388 : (Cond.instanceMethod yX11_one) ∈ UW := inR17 _ (List.mem_of_getElem? (i := 4) rfl)
theorem uw389 : (Cond.selects RX11 yX11_one yX11_one) ∈ UW := inR17 _ (List.mem_of_getElem? (i := 5) rfl)
theorem uw471 : (Cond.methodLink RL 54 yL_name) ∈ UW := inR20 _ (List.mem_of_getElem? (i := 15) rfl)
theorem uw472 : (Cond.static yL_name) ∈ UW := inR20 _ (List.mem_of_getElem? (i := 16) rfl)
theorem uw473 : (Cond.codeWith yL_name cL_name 5 (some .int) [(0, 10, 13, 13)]) ∈ UW := inR20 _ (List.mem_of_getElem? (i := 17) rfl)
theorem uw474 : (Cond.methodLink RL 15 yX11_name) ∈ UW := inR20 _ (List.mem_of_getElem? (i := 18) rfl)
theorem uw475 : (Cond.instanceMethod yX11_name) ∈ UW := inR20 _ (List.mem_of_getElem? (i := 19) rfl)
theorem uw476 : (Cond.selects RX11 yX11_name yX11_name) ∈ UW := inR20 _ (List.mem_of_getElem? (i := 20) rfl)
theorem uw1313 : (Cond.methodLink RL 223 yL_row) ∈ UW := inR55 _ (List.mem_of_getElem? (i := 17) rfl)
theorem uw1314 : (Cond.static yL_row) ∈ UW := inR55 _ (List.mem_of_getElem? (i := 18) rfl)
theorem uw1315 : (Cond.codeWith yL_row cL_row 4 (some .int) [(0, 8, 11, 13)]) ∈ UW := inR55 _ (List.mem_of_getElem? (i := 19) rfl)
theorem uw1316 : (Cond.methodLink RL 18 yX11_row) ∈ UW := inR55 _ (List.mem_of_getElem? (i := 20) rfl)
theorem uw1317 : (Cond.instanceMethod yX11_row) ∈ UW := inR55 _ (List.mem_of_getElem? (i := 21) rfl)
theorem uw1318 : (Cond.selects RX11 yX11_row yX11_row) ∈ UW := inR55 _ (List.mem_of_getElem? (i := 22) rfl)
def hhO : List (Nat × Nat × Nat × Nat) := [(0, 10, 13, 13)]
def hhR : List (Nat × Nat × Nat × Nat) := [(0, 8, 11, 13)]
def M_L_one : Mt := (RL, yL_one, Cond.codeWith yL_one cL_one 5 (some .int) hhO :: (UW ++ xwL), cL_one, 5, some .int)
def M_L_name : Mt := (RL, yL_name, Cond.codeWith yL_name cL_name 5 (some .int) hhO :: (UW ++ xwL), cL_name, 5, some .int)
def M_L_row : Mt := (RL, yL_row, Cond.codeWith yL_row cL_row 4 (some .int) hhR :: (UW ++ xwL), cL_row, 4, some .int)
def rmc (k : Nat) : Room := { frames := k + 10, cells := 1, slots := 6, locals := 64 * k + 300 }
def yE (hh : List (Nat × Nat × Nat × Nat)) : XE := fun l s args c ad => l.stackTraces = false ∧ c.exceptionTable.toList = tableOf hh ∧ xZq ad s s.heap
def yZ (Q : Option Value → Sto → Prop) : XZ := fun below args s D cy ad => MQ below (QM D cy ad Q) args s 1 6 (Aad ad)
def EvC (k : Nat) (M : Mt) (args : List Value) (σ : Sto) (Q : Option Value → Sto → Prop) : Prop := ∀ (l : Launch), l.stackTraces = false → ∀ (D : va_G) (cy : Nat → ClassId) (ad : Nat → Nat), Met l (mY M) (mW M) (rmc k) (PreX D cy ad args σ) (QM D cy ad Q) 1 6 (Aad ad)
theorem EvC.of {M : Mt} {k : Nat} {args : List Value} {σ : Sto} {Q : Option Value → Sto → Prop} (hh : List (Nat × Nat × Nat × Nat)) (hy : plainName (mY M).cls = true) (hw : mW M = Cond.codeWith (mY M) (mB M) (mL M) (mR M) hh :: (UW ++ xwL)) (ho : (mY M).cls = mO M) (hlen : (entA args).length ≤ mL M) (h : XW M (rmc k) (yE hh) (yZ Q) 0 0 0 (entL (mL M) args) [] σ) : EvC k M args σ Q := by
  intro l hst D cy ad
  refine va_MetW (cc := mB M) (maxL := mL M) (ret := mR M) (hh := hh) hy hw ?_
  intro p e s m args' below meth c s₁ B hml hv
  obtain ⟨⟨rfl, hP, hK, hD, hZ⟩, hX⟩ := hv
  have hown : s.vm.findClass (mO M) = some m.cls := ho ▸ findClass_of_methodNamed B.named
  have hts := atoms_spec (ws := mW M) B.pre
  have htb : c.exceptionTable.toList = tableOf hh := vx_table (x := mY M) B (hts _ (by rw [hw]; exact List.mem_cons_self))
  rw [lg_entry_eq]
  exact h l p e s m _ below meth c D cy ad ⟨B.exec, B.bytes, hml, B.returns, B.notSynchronized, hown, hts, hK, hZ⟩ ⟨hst, htb, hX⟩ s.heap [] _ (VL.ent ad hlen) ⟨hP, hD, va_S.rf⟩
theorem yw_iret {M : Mt} {hh : List (Nat × Nat × Nat × Nat)} {k kc ks pc : Nat} {Q : Option Value → Sto → Prop} {L : List (Option Value)} {v : Int32} {σ : Sto} (hr : mR M = some .int) (hd : decode (mB M) pc = .ok (.ireturn, 1)) (hc : kc ≤ 1) (hs : ks ≤ 6) (hq : Q (some (.int v)) σ) : XW M (rmc k) (yE hh) (yZ Q) kc ks pc L [.int v] σ := by
  intro l p e s m args below meth c D cy ad C hE H locs ls hl hW
  refine W.widen hc hs ?_
  have hlk : meth.locks = false := C.2.2.2.2.1
  exact W.iret (v := v) C.1 C.2.1 (C.2.2.2.1.trans hr) (fun t ht hWt => ⟨⟨some (.int v), σ, rfl, hq, by rw [ht]; exact hW.1, hW.2.1⟩, hW.2.2.F ht⟩) hW.2.2.2.2 hd hlk
/-- a call that throws, caught by the wrapper's only row -/
theorem yw_catch {M M' : Mt} {hh : List (Nat × Nat × Nat × Nat)} {x : ExceptionTableEntry} {k j pc idx n ci a : Nat} {T : u_T} {N : Nat} {Q : Option Value → Sto → Prop} {L : List (Option Value)} {S' As : List Value} {σ : Sto}
    (ho : mO M = RL) (hw : mW M = Cond.codeWith (mY M) (mB M) (mL M) (mR M) hh :: (UW ++ xwL)) (hM' : MOK M') (hc : CVok M M' idx n) (hci : vwCl[ci]? = some (mO M', T, N)) (hd : decode (mB M) pc = .ok (.invokevirtual idx, 3)) (hev : EvX j M' (.ref a :: As) σ (fun τ => τ = σ)) (ha : isC a ci = true) (hcat : cats S' ≤ 8) (hlen : As.length = n) (hj : j ≤ k) (hcl : Cond.classLink RL 13 nse ∈ UW)
    (hx : tableOf hh = [x]) (hcov : covers x pc = true) (hct : x.catchType = 13)
    (hgo : ∀ (l : Launch) (p : Program) (e : Env) (s : State) (m : MethodId) (args : Array Value) (below : List Frame) (meth : Method) (c : Code) (D : va_G) (cy : Nat → ClassId) (ad : Nat → Nat), Cx M p s m args meth c D cy ad → ∀ (H : Heap) (locs : List Loc) (ls : Array Slot) (q : Nat), VL ad L ls (mL M) → Wd D cy ad s.heap σ H locs → W p l e (rmc k) s m args below meth c H locs 1 6 (yZ Q below args s D cy ad) (F0 m x.handlerPc ls [.ref q])) : XW M (rmc k) (yE hh) (yZ Q) 0 0 pc L (As.reverse ++ .ref a :: S') σ := by
  intro l p e s m args below meth c D cy ad C hE H locs ls hl hW
  have hUW : ∀ w ∈ UW, w ∈ mW M := fun w h => by rw [hw]; exact List.mem_cons_of_mem _ (List.mem_append_left _ h)
  have hXW : ∀ w ∈ xwL, w ∈ mW M := fun w h => by rw [hw]; exact List.mem_cons_of_mem _ (List.mem_append_right _ h)
  have hG : GoodIn (mW M) (wsV (mO M) idx (mO M') (mY M') (mWX M')) := by
    intro w hw
    rcases List.mem_append.mp hw with hw | hw
    · have hu : w ∈ UW := by
        rcases List.mem_cons.mp hw with rfl | hw
        · exact hc.1
        rcases List.mem_cons.mp hw with rfl | hw
        · exact hc.2.1
        rcases List.mem_cons.mp hw with rfl | hw
        · exact hc.2.2.1
        rcases List.mem_cons.mp hw with rfl | hw
        · exact hc.2.2.2.1
        · cases hw
      exact ⟨hUW w hu, UW_good hu⟩
    · rcases List.mem_cons.mp hw with rfl | hw
      · exact ⟨hUW _ hM'.2.2.2.1, UW_good hM'.2.2.2.1⟩
      rcases List.mem_append.mp hw with hw | hw
      · exact ⟨hUW w hw, UW_good hw⟩
      · exact ⟨hXW w hw, xwL_good hw⟩
  have hst : (As.reverse ++ .ref a :: S').map (rv ad) = (As.map (rv ad)).reverse ++ .ref (ad a) :: S'.map (rv ad) := by
    rw [List.map_append, List.map_reverse]
    rfl
  have h45 := hM'.2.2.2.2
  rw [hst]
  have hrun := vx_runV (H := H) (locs := locs) (cells := 0) (slots := 0) (below := below) (As := As.map (rv ad)) (rest := S'.map (rv ad)) (g := F0 m pc ls ((As.map (rv ad)).reverse ++ .ref (ad a) :: S'.map (rv ad))) (meth := meth) (e := e) (R := rmc k) ⟨C.1, C.2.1, C.2.2.1, C.2.2.2.2.2.1, C.2.2.2.2.2.2.1⟩ (hev l hE.1 D cy ad) (cwV n C.2.2.2.2.2.2.1 hG rfl rfl rfl ⟨hM'.2.2.1, hc.2.2.2.2⟩ ⟨show j + 8 + 1 ≤ k + 10 by omega, show 8 + (mL M' + 11) + (64 * j + 128) ≤ 64 * k + 300 by omega⟩) ⟨PreX.blind, va_recv C.2.2.2.2.2.2.2.1 hW.1 hci (ws_ob (isC_ok ha)), fun U hU hw => ⟨C.pre hW hU hw, by rw [hU]; exact (hE.2.2.moved hw.alike).kept (fun a h1 h2 => hW.2.2.2.1 a h1 h2)⟩⟩ rfl (by rw [List.length_map, hlen]) hl.1 rfl (lv_room (by rw [cats_ok]; exact hcat)) hd ⟨Nat.le_refl 1, Nat.le_refl 6⟩
  intro U hU X
  rcases hrun U hU X with ⟨v, st₀, t, T', Lo, h0, X', hL, e1, e2, hF, st⟩ | ⟨q, st₀, t, T', Lo, E, ce, h0, X', hL, e1, e2, ⟨rfl, ⟨σ', rfl, hP, hD⟩, hF⟩, hce, hcv, hcl2, st⟩
  · exact hF.elim
  · obtain ⟨k1, k2, k3⟩ := vx_keep (A0 := Aad ad) (A1 := Aad ad) (free := Aad ad) h0 e1 hW.2.2 (fun _ _ h => h) (fun _ h => h) hL hF
    have hown : s.vm.findClass RL = some m.cls := ho ▸ C.2.2.2.2.2.1
    have hlk : (Cond.classLink RL x.catchType nse).before args s = true := by rw [hct]; exact C.2.2.2.2.2.2.1 _ (hUW _ hcl)
    obtain ⟨t2, a1, b1⟩ := vx_catch (p := p) (l := l) (e := e) (R := rmc k) (below := below) (meth := meth) (cells := 0 + 1) (slots := 0 + 6) (locs := locs ++ Lo) (H := T'.heap) (Q := yZ Q below args s D cy ad) (pc := pc) (ls := ls) (rest := S'.map (rv ad)) (E := nse) (name := nse) hown [] x [] (by rw [hE.2.1, hx]; rfl) (fun z hz => nomatch hz) hcov (by rw [hct]; decide) hlk (va_Nw.use rfl (hE.2.2.2.2 _ List.mem_cons_self)) (by rw [e1]; exact hce) hcv hcl2 (hgo l p e s m args below meth c D cy ad C T'.heap (locs ++ Lo) ls q hl ⟨by rw [e1]; exact hP, hD, k3⟩) T' rfl X'
    exact ⟨t2, st.trans a1, b1⟩
def TX_Lone : List (Nat × Op) := [(0, op_ald 3 1), (1, op_ic 0 1), (2, op_ald 0 1), (3, op_ild 1 1), (4, op_ild 2 1), (5, op_cv M_X11_one 11 2), (8, op_i2l), (9, op_last), (10, op_goto 17), (17, op_ic 0 1)]
set_option maxRecDepth 20000 in
theorem KX_Lone {R : Room} {E : XE} {Z : XZ} {kc ks : Nat} : ∀ r ∈ TX_Lone, XOK M_L_one R E Z kc ks r.1 r.2 :=
  xfc (xok_aldn (q := 3) (by decide +kernel) rfl) <|
  xfc (xok_iconst (n := 0) (by decide +kernel) (by decide +kernel)) <|
  xfc (xok_aldn (q := 0) (by decide +kernel) rfl) <|
  xfc (xok_ildn (q := 1) (by decide +kernel) rfl) <|
  xfc (xok_ildn (q := 2) (by decide +kernel) rfl) <|
  xfc (xok_cv (fun w h => List.mem_cons_of_mem _ (List.mem_append_left _ h)) mk_X11_one ⟨uw387, uw388, uw389, uw2, by decide +kernel⟩ (T := TX11) (N := 13) rfl (by decide +kernel)) <|
  xfc (xok_i2l (by decide +kernel)) <|
  xfc (xok_last (by decide +kernel)) <|
  xfc (xok_goto (off := 7) (by decide +kernel) (by decide)) <|
  xfc (xok_iconst (n := 0) (by decide +kernel) (by decide +kernel)) <| xfn
def TX_Lname : List (Nat × Op) := [(0, op_ald 3 1), (1, op_ic 0 1), (2, op_ald 0 1), (3, op_ild 1 1), (4, op_ild 2 1), (5, op_cv M_X11_name 11 2), (8, op_i2l), (9, op_last), (10, op_goto 17), (17, op_ic 0 1)]
set_option maxRecDepth 20000 in
theorem KX_Lname {R : Room} {E : XE} {Z : XZ} {kc ks : Nat} : ∀ r ∈ TX_Lname, XOK M_L_name R E Z kc ks r.1 r.2 :=
  xfc (xok_aldn (q := 3) (by decide +kernel) rfl) <|
  xfc (xok_iconst (n := 0) (by decide +kernel) (by decide +kernel)) <|
  xfc (xok_aldn (q := 0) (by decide +kernel) rfl) <|
  xfc (xok_ildn (q := 1) (by decide +kernel) rfl) <|
  xfc (xok_ildn (q := 2) (by decide +kernel) rfl) <|
  xfc (xok_cv (fun w h => List.mem_cons_of_mem _ (List.mem_append_left _ h)) mk_X11_name ⟨uw474, uw475, uw476, uw2, by decide +kernel⟩ (T := TX11) (N := 13) rfl (by decide +kernel)) <|
  xfc (xok_i2l (by decide +kernel)) <|
  xfc (xok_last (by decide +kernel)) <|
  xfc (xok_goto (off := 7) (by decide +kernel) (by decide)) <|
  xfc (xok_iconst (n := 0) (by decide +kernel) (by decide +kernel)) <| xfn
def TX_Lrow : List (Nat × Op) := [(0, op_ald 2 1), (1, op_ic 0 1), (2, op_ald 0 1), (3, op_ild 1 1), (4, op_cv M_X11_row 11 1), (7, op_last), (8, op_goto 14), (14, op_ic 0 1)]
set_option maxRecDepth 20000 in
theorem KX_Lrow {R : Room} {E : XE} {Z : XZ} {kc ks : Nat} : ∀ r ∈ TX_Lrow, XOK M_L_row R E Z kc ks r.1 r.2 :=
  xfc (xok_aldn (q := 2) (by decide +kernel) rfl) <|
  xfc (xok_iconst (n := 0) (by decide +kernel) (by decide +kernel)) <|
  xfc (xok_aldn (q := 0) (by decide +kernel) rfl) <|
  xfc (xok_ildn (q := 1) (by decide +kernel) rfl) <|
  xfc (xok_cv (fun w h => List.mem_cons_of_mem _ (List.mem_append_left _ h)) mk_X11_row ⟨uw1316, uw1317, uw1318, uw2, by decide +kernel⟩ (T := TX11) (N := 13) rfl (by decide +kernel)) <|
  xfc (xok_last (by decide +kernel)) <|
  xfc (xok_goto (off := 6) (by decide +kernel) (by decide)) <|
  xfc (xok_iconst (n := 0) (by decide +kernel) (by decide +kernel)) <| xfn
theorem v01 : vp_in 0 1 := vp_in_nI (n := 0) (by decide) (by decide)
theorem rmc_ok (k j : Nat) (h : j ≤ k) : (j ≤ (rmc k).frames ∧ 64 * j ≤ (rmc k).locals) ∧ (0 ≤ (rmc k).cells ∧ 0 ≤ (rmc k).slots) := by
  refine ⟨⟨?_, ?_⟩, Nat.zero_le _, Nat.zero_le _⟩
  · show j ≤ k + 10
    omega
  · show 64 * j ≤ 64 * k + 300
    omega
theorem yw_hand4 {M : Mt} {k hp : Nat} {Q : Option Value → Sto → Prop} {L : List (Option Value)} {σ : Sto} (hr : mR M = some .int) (h4 : 4 < mL M) (d0 : decode (mB M) hp = .ok (.astore 4, 2)) (d2 : decode (mB M) (hp + 2) = .ok (.iconst 1, 1)) (d3 : decode (mB M) (hp + 3) = .ok (.ireturn, 1)) (hq : Q (some (.int 1)) σ) : ∀ (l : Launch) (p : Program) (e : Env) (s : State) (m : MethodId) (args : Array Value) (below : List Frame) (meth : Method) (c : Code) (D : va_G) (cy : Nat → ClassId) (ad : Nat → Nat), Cx M p s m args meth c D cy ad → ∀ (H : Heap) (locs : List Loc) (ls : Array Slot) (q : Nat), VL ad L ls (mL M) → Wd D cy ad s.heap σ H locs → W p l e (rmc k) s m args below meth c H locs 1 6 (yZ Q below args s D cy ad) (F0 m hp ls [.ref q]) := by
  intro l p e s m args below meth c D cy ad C H locs ls q hl hW
  have hlk : meth.locks = false := C.2.2.2.2.1
  refine lv_astore C.1 C.2.1 d0 hl.has h4 rfl (fun ls2 _ => ?_)
  refine lv_iconst (v := 1) C.1 C.2.1 d2 (by decide) ?_
  exact W.iret (v := 1) C.1 C.2.1 (C.2.2.2.1.trans hr) (fun t ht hWt => ⟨⟨some (.int 1), σ, rfl, hq, by rw [ht]; exact hW.1, hW.2.1⟩, hW.2.2.F ht⟩) hW.2.2.2.2 d3 hlk
theorem yw_hand3 {M : Mt} {k hp : Nat} {Q : Option Value → Sto → Prop} {L : List (Option Value)} {σ : Sto} (hr : mR M = some .int) (h3 : 3 < mL M) (d0 : decode (mB M) hp = .ok (.astore_n 3, 1)) (d2 : decode (mB M) (hp + 1) = .ok (.iconst 1, 1)) (d3 : decode (mB M) (hp + 2) = .ok (.ireturn, 1)) (hq : Q (some (.int 1)) σ) : ∀ (l : Launch) (p : Program) (e : Env) (s : State) (m : MethodId) (args : Array Value) (below : List Frame) (meth : Method) (c : Code) (D : va_G) (cy : Nat → ClassId) (ad : Nat → Nat), Cx M p s m args meth c D cy ad → ∀ (H : Heap) (locs : List Loc) (ls : Array Slot) (q : Nat), VL ad L ls (mL M) → Wd D cy ad s.heap σ H locs → W p l e (rmc k) s m args below meth c H locs 1 6 (yZ Q below args s D cy ad) (F0 m hp ls [.ref q]) := by
  intro l p e s m args below meth c D cy ad C H locs ls q hl hW
  have hlk : meth.locks = false := C.2.2.2.2.1
  refine lv_astore_n C.1 C.2.1 d0 rfl hl.has h3 rfl (fun ls2 _ => ?_)
  refine lv_iconst (v := 1) C.1 C.2.1 d2 (by decide) ?_
  exact W.iret (v := 1) C.1 C.2.1 (C.2.2.2.1.trans hr) (fun t ht hWt => ⟨⟨some (.int 1), σ, rfl, hq, by rw [ht]; exact hW.1, hW.2.1⟩, hW.2.2.F ht⟩) hW.2.2.2.2 d3 hlk
/-- what a wrapper gives: 0 and the answer in out[0], or 1 -/
def yQ (σ : Sto) (A : AS) (O : Option Int64) (v : Option Value) (τ : Sto) : Prop := CV τ A ∧ Fr lCo σ τ ∧ ((∃ r, O = some r ∧ v = some (.int 0) ∧ gJ τ 83 0 = r) ∨ (O = none ∧ v = some (.int 1)))
theorem y_some {σ τ : Sto} {A : AS} {r : Int64} (c1 : CV τ A) (f1 : Fr lC σ τ) : yQ σ A (some r) (some (.int 0)) (sJ τ 83 (vp_updL (gJ τ 83) (0 : Int32).toNatClampNeg r)) := by
  refine ⟨cv_fr c1 (Fr.rf.sJ (by decide)), (f1.mono (fun a ha => List.mem_append_left _ ha)).sJ (by decide), Or.inl ⟨r, rfl, rfl, ?_⟩⟩
  rw [gJ_sJ, if_pos rfl]
  rfl
theorem y_none {σ : Sto} {A : AS} (c1 : CV σ A) : yQ σ A none (some (.int 1)) σ := ⟨c1, Fr.rf, Or.inr ⟨rfl, rfl⟩⟩
theorem yc_one (k : Nat) (A : AS) (x w : Int32) {σ : Sto} (hv : CV σ A) : EvC (k + 8) M_L_one [.ref 0, .int x, .int w, .ref 83] σ (yQ σ A ((oneC A x w).map Int32.toInt64)) := by
  generalize hO : oneC A x w = O
  cases O with
  | some r =>
    refine EvC.of hhO (by decide +kernel) rfl rfl (Nat.le_of_ble_eq_true rfl) ?_
    refine xwpW KX_Lone [18] 40 (k := k + 8) (rmc_ok (k + 8) _ (Nat.le_refl _)) ?_
    refine ⟨_, cc_oneS _ A x w r hO σ hv, ?_⟩
    rintro _ τ ⟨rfl, c1, f1⟩
    exact ⟨v01, yw_iret rfl (by decide +kernel) (Nat.zero_le _) (Nat.zero_le _) (y_some c1 f1)⟩
  | none =>
    refine EvC.of hhO (by decide +kernel) rfl rfl (Nat.le_of_ble_eq_true rfl) ?_
    refine xwpW KX_Lone [5] 40 (k := k + 8) (rmc_ok (k + 8) _ (Nat.le_refl _)) ?_
    exact yw_catch (M := M_L_one) (M' := M_X11_one) (As := [.int x, .int w]) (S' := [.int 0, .ref 83]) (a := 0) (x := ⟨0, 10, 13, 13⟩) (idx := 7) (n := 2) (ci := 11) (T := TX11) (N := 13) (j := 2) rfl rfl mk_X11_one ⟨uw387, uw388, uw389, uw2, by decide +kernel⟩ rfl (by decide +kernel) (cx_one 0 A x w hO hv) rfl (by decide) rfl (by omega) uw386 rfl (by decide) rfl (yw_hand4 rfl (by decide) (by decide +kernel) (by decide +kernel) (by decide +kernel) (y_none hv))
theorem yc_name (k : Nat) (A : AS) (x w : Int32) {σ : Sto} (hv : CV σ A) : EvC (k + 8) M_L_name [.ref 0, .int x, .int w, .ref 83] σ (yQ σ A ((nameC A x w).map Int32.toInt64)) := by
  generalize hO : nameC A x w = O
  cases O with
  | some r =>
    refine EvC.of hhO (by decide +kernel) rfl rfl (Nat.le_of_ble_eq_true rfl) ?_
    refine xwpW KX_Lname [18] 40 (k := k + 8) (rmc_ok (k + 8) _ (Nat.le_refl _)) ?_
    refine ⟨_, cc_nameS _ A x w r hO σ hv, ?_⟩
    rintro _ τ ⟨rfl, c1, f1⟩
    exact ⟨v01, yw_iret rfl (by decide +kernel) (Nat.zero_le _) (Nat.zero_le _) (y_some c1 f1)⟩
  | none =>
    refine EvC.of hhO (by decide +kernel) rfl rfl (Nat.le_of_ble_eq_true rfl) ?_
    refine xwpW KX_Lname [5] 40 (k := k + 8) (rmc_ok (k + 8) _ (Nat.le_refl _)) ?_
    exact yw_catch (M := M_L_name) (M' := M_X11_name) (As := [.int x, .int w]) (S' := [.int 0, .ref 83]) (a := 0) (x := ⟨0, 10, 13, 13⟩) (idx := 15) (n := 2) (ci := 11) (T := TX11) (N := 13) (j := 2) rfl rfl mk_X11_name ⟨uw474, uw475, uw476, uw2, by decide +kernel⟩ rfl (by decide +kernel) (cx_name 0 A x w hO hv) rfl (by decide) rfl (by omega) uw386 rfl (by decide) rfl (yw_hand4 rfl (by decide) (by decide +kernel) (by decide +kernel) (by decide +kernel) (y_none hv))
theorem yc_row (k : Nat) (A : AS) (x : Int32) {σ : Sto} (hv : CV σ A) : EvC (k + 8) M_L_row [.ref 0, .int x, .ref 83] σ (yQ σ A (rowC A x)) := by
  generalize hO : rowC A x = O
  cases O with
  | some r =>
    refine EvC.of hhR (by decide +kernel) rfl rfl (Nat.le_of_ble_eq_true rfl) ?_
    refine xwpW KX_Lrow [15] 40 (k := k + 8) (rmc_ok (k + 8) _ (Nat.le_refl _)) ?_
    refine ⟨_, cc_rowS _ A x r hO σ hv, ?_⟩
    rintro _ τ ⟨rfl, c1, f1⟩
    exact ⟨v01, yw_iret rfl (by decide +kernel) (Nat.zero_le _) (Nat.zero_le _) (y_some c1 f1)⟩
  | none =>
    refine EvC.of hhR (by decide +kernel) rfl rfl (Nat.le_of_ble_eq_true rfl) ?_
    refine xwpW KX_Lrow [4] 40 (k := k + 8) (rmc_ok (k + 8) _ (Nat.le_refl _)) ?_
    exact yw_catch (M := M_L_row) (M' := M_X11_row) (As := [.int x]) (S' := [.int 0, .ref 83]) (a := 0) (x := ⟨0, 8, 11, 13⟩) (idx := 18) (n := 1) (ci := 11) (T := TX11) (N := 13) (j := 2) rfl rfl mk_X11_row ⟨uw1316, uw1317, uw1318, uw2, by decide +kernel⟩ rfl (by decide +kernel) (cx_row 0 A x hO hv) rfl (by decide) rfl (by omega) uw386 rfl (by decide) rfl (yw_hand3 rfl (by decide) (by decide +kernel) (by decide +kernel) (by decide +kernel) (y_none hv))
/-- the law calls a wrapper -/
theorem lw_wrap {X : LX} {M : Mt} {hh : List (Nat × Nat × Nat × Nat)} {kc ks pc idx n j : Nat} {L : List (Option Value)} {S' args : List Value} {σ : Sto} {Q' : Option Value → Sto → Prop} (hw : mW M = Cond.codeWith (mY M) (mB M) (mL M) (mR M) hh :: (UW ++ xwL)) (hcl : (mY M).cls = RL) (h1 : Cond.methodLink RL idx (mY M) ∈ UW) (h2 : Cond.static (mY M) ∈ UW) (h3 : Cond.initialized RL ∈ UW) (h4 : Cond.codeWith (mY M) (mB M) (mL M) (mR M) hh ∈ UW) (hdesc : (mY M).cls ≠ "java/lang/invoke/MethodHandle" ∧ (mY M).cls ≠ "java/lang/invoke/VarHandle" ∧ (parseMethodDescriptor (mY M).desc).map (fun d => d.parameters.length) = some n) (hL : mL M ≤ 45) (hlen : args.length = n) (hd : decode cL_law pc = .ok (.invokestatic idx, 3)) (hc : kc + 1 ≤ 601024 ∧ ks + 6 ≤ 7293034) (hj : j ≤ 1200) (hev : EvC j M args σ Q') (hcat : cats S' ≤ 8) (go : ∀ v τ, Q' v τ → LW X (kc + 1) (ks + 6) (pc + 3) L (v.toList ++ S') τ) : LW X kc ks pc L (args.reverse ++ S') σ := by
  intro l p e s m b below meth c D cy ad hfl C H locs ls hl hW
  have hst0 : l.stackTraces = false := by
    unfold Launch.stackTraces
    rw [hfl]
    decide +kernel
  obtain ⟨hX, hb, had, hAd, hxw, hxZ⟩ := C.2.2.2.2.2.2.2.2.2
  have hts : ∀ w ∈ UW ++ xwL, w.before #[Value.ref b] s = true := List.forall_mem_append.mpr ⟨C.2.2.2.2.2.2.1, hxw⟩
  have gU : ∀ w ∈ UW, w ∈ UW ++ xwL ∧ ((w.onTables && w.keeps) = true ∨ ∃ ty, w = .arrayClass ty) := fun w h => ⟨List.mem_append_left _ h, UW_good h⟩
  have hG : GoodIn (UW ++ xwL) (va_wsS RL idx (mY M) (mW M)) := by
    intro w hw'
    rcases List.mem_append.mp hw' with hw' | hw'
    · rcases List.mem_cons.mp hw' with rfl | hw'
      · exact gU _ h1
      rcases List.mem_cons.mp hw' with rfl | hw'
      · exact gU _ h2
      rcases List.mem_cons.mp hw' with rfl | hw'
      · rw [hcl]; exact gU _ h3
      · cases hw'
    · rw [hw] at hw'
      rcases List.mem_cons.mp hw' with rfl | hw'
      · exact gU _ h4
      rcases List.mem_append.mp hw' with hw' | hw'
      · exact gU _ hw'
      · exact ⟨List.mem_append_right _ hw', xwL_good hw'⟩
  have hst : (args.reverse ++ S').map (rv ad) = (args.map (rv ad)).reverse ++ S'.map (rv ad) := by rw [List.map_append, List.map_reverse]
  rw [hst]
  refine va_go (A0 := fun q => s.heap.size ≤ q) (vx_runSW (hh := hh) (As := args.map (rv ad)) (rest := S'.map (rv ad)) ⟨C.1, C.2.1, C.2.2.1, C.2.2.2.2.2.1, hts⟩ (hev l hst0 D cy ad) (vx_cwSW n hts hG hw rfl rfl hdesc ⟨show j + 10 + 1 ≤ 2048 by omega, show 8 + (mL M + 11) + (64 * j + 300) ≤ 84000 by omega⟩) ⟨PreX.blind, fun U hU hwm => ⟨C.pre hW hU hwm, by rw [hU]; exact (hxZ.moved hwm.alike).kept (fun a h1 _ => hW.2.2.2.1 a h1 (Nat.not_le.mpr h1))⟩⟩ rfl (by rw [List.length_map, hlen]) hl.1 rfl (lv_room (by rw [cats_ok]; exact hcat)) hd hc) hW.2.2 (fun q _ h => hAd q h) (fun q h => hAd q h) (fun v σ' H1 locs1 hq hP hD _ _ hS1 => ?_)
  have := go v σ' hq l p e s m b below meth c D cy ad hfl C H1 locs1 ls hl ⟨hP, hD, hS1⟩
  rw [List.map_append] at this
  cases v <;> exact this
theorem cs_4 {X : LX} {kc ks i : Nat} (hc : kc + 1 ≤ 601024 ∧ ks + 6 ≤ 7293034) (h : hIn X i) {σ : Sto} {A : AS} (hs : LI σ A) (o5 o6 o7 : Option Value) (go : ∀ p5 p6 p7 τ, LI τ A → LW X (kc + 1) (ks + 6) 1524 (LLo i p5 p6 p7) [] τ) : LW X kc ks 320 (LLo i o5 o6 o7) [] σ := by
  refine lwpW (K_c4 X) [334] 60 (k := 300) (by decide) ⟨by omega, by omega⟩ ?_
  refine ⟨h.1, h.2.1, ?_⟩
  refine lw_wrap (M := M_L_one) (hh := hhO) (n := 4) (args := [.ref 0, .int (X.2 (nI i + 1).toNatClampNeg), .int (X.2 (nI i + 2).toNatClampNeg), .ref 83]) (S' := []) rfl rfl uw382 uw383 uw384 uw385 (by decide +kernel) (by decide) rfl (by decide +kernel) hc (by decide) (yc_one 0 A _ _ hs.1) (by decide) ?_
  rintro v τ ⟨c1, f1, hO⟩
  have m1 := mv_fr hs.2.1 f1
  have hm := mt_use (mc_one 36 A (X.2 (nI i + 1).toNatClampNeg) (X.2 (nI i + 2).toNatClampNeg)) c1 m1
  generalize oneC A (X.2 (nI i + 1).toNatClampNeg) (X.2 (nI i + 2).toNatClampNeg) = O at hO hm
  rcases hO with ⟨r, e1, rfl, e3⟩ | ⟨e1, rfl⟩
  · cases O with
    | none => cases e1
    | some z =>
      cases e1
      refine lwpW (K_c4 X) [1524] 60 (k := 300) (by decide) hc ?_
      refine ⟨h.1, h.2.1, _, hm, ?_⟩
      rintro _ υ ⟨rfl, t7, c2, m2, f2⟩
      have e4 : gJ υ 83 0 = z.toInt64 := by rw [(f2 83 (by decide)).2.2.1]; exact e3
      refine ⟨_, ev_thrown _ υ, ?_⟩
      rintro _ _ ⟨rfl, rfl⟩
      exact ⟨fun _ => ⟨fun q => absurd rfl q, fun _ => ⟨v01, fun _ => go _ _ _ _ ⟨c2, m2, hs.2.2⟩, fun q => absurd ((cmp0 _ _).mpr e4) q⟩⟩, fun q => absurd t7 q⟩
  · cases O with
    | some z => cases e1
    | none =>
      refine lwpW (K_c4 X) [1524] 60 (k := 300) (by decide) hc ?_
      refine ⟨h.1, h.2.1, _, hm, ?_⟩
      rintro _ υ ⟨rfl, t7, c2, m2, f2⟩
      refine ⟨_, ev_thrown _ υ, ?_⟩
      rintro _ _ ⟨rfl, rfl⟩
      exact ⟨fun _ => ⟨fun _ => go _ _ _ _ ⟨c2, m2, hs.2.2⟩, fun q => absurd q (by decide)⟩, fun q => absurd t7 q⟩
theorem cs_5 {X : LX} {kc ks i : Nat} (hc : kc + 1 ≤ 601024 ∧ ks + 6 ≤ 7293034) (h : hIn X i) {σ : Sto} {A : AS} (hs : LI σ A) (o5 o6 o7 : Option Value) (go : ∀ p5 p6 p7 τ, LI τ A → LW X (kc + 1) (ks + 6) 1524 (LLo i p5 p6 p7) [] τ) : LW X kc ks 388 (LLo i o5 o6 o7) [] σ := by
  refine lwpW (K_c5 X) [402] 60 (k := 300) (by decide) ⟨by omega, by omega⟩ ?_
  refine ⟨h.1, h.2.1, ?_⟩
  refine lw_wrap (M := M_L_name) (hh := hhO) (n := 4) (args := [.ref 0, .int (X.2 (nI i + 1).toNatClampNeg), .int (X.2 (nI i + 2).toNatClampNeg), .ref 83]) (S' := []) rfl rfl uw471 uw472 uw384 uw473 (by decide +kernel) (by decide) rfl (by decide +kernel) hc (by decide) (yc_name 0 A _ _ hs.1) (by decide) ?_
  rintro v τ ⟨c1, f1, hO⟩
  have m1 := mv_fr hs.2.1 f1
  have hm := mt_use (mc_name 36 A (X.2 (nI i + 1).toNatClampNeg) (X.2 (nI i + 2).toNatClampNeg)) c1 m1
  generalize nameC A (X.2 (nI i + 1).toNatClampNeg) (X.2 (nI i + 2).toNatClampNeg) = O at hO hm
  rcases hO with ⟨r, e1, rfl, e3⟩ | ⟨e1, rfl⟩
  · cases O with
    | none => cases e1
    | some z =>
      cases e1
      refine lwpW (K_c5 X) [1524] 60 (k := 300) (by decide) hc ?_
      refine ⟨h.1, h.2.1, _, hm, ?_⟩
      rintro _ υ ⟨rfl, t7, c2, m2, f2⟩
      have e4 : gJ υ 83 0 = z.toInt64 := by rw [(f2 83 (by decide)).2.2.1]; exact e3
      refine ⟨_, ev_thrown _ υ, ?_⟩
      rintro _ _ ⟨rfl, rfl⟩
      exact ⟨fun _ => ⟨fun q => absurd rfl q, fun _ => ⟨v01, fun _ => go _ _ _ _ ⟨c2, m2, hs.2.2⟩, fun q => absurd ((cmp0 _ _).mpr e4) q⟩⟩, fun q => absurd t7 q⟩
  · cases O with
    | some z => cases e1
    | none =>
      refine lwpW (K_c5 X) [1524] 60 (k := 300) (by decide) hc ?_
      refine ⟨h.1, h.2.1, _, hm, ?_⟩
      rintro _ υ ⟨rfl, t7, c2, m2, f2⟩
      refine ⟨_, ev_thrown _ υ, ?_⟩
      rintro _ _ ⟨rfl, rfl⟩
      exact ⟨fun _ => ⟨fun _ => go _ _ _ _ ⟨c2, m2, hs.2.2⟩, fun q => absurd q (by decide)⟩, fun q => absurd t7 q⟩
theorem cs_47 {X : LX} {kc ks i : Nat} (hc : kc + 1 ≤ 601024 ∧ ks + 6 ≤ 7293034) (h : hIn X i) {σ : Sto} {A : AS} (hs : LI σ A) (o5 o6 o7 : Option Value) (go : ∀ p5 p6 p7 τ, LI τ A → LW X (kc + 1) (ks + 6) 1524 (LLo i p5 p6 p7) [] τ) : LW X kc ks 1469 (LLo i o5 o6 o7) [] σ := by
  refine lwpW (K_c47 X) [1477] 60 (k := 300) (by decide) ⟨by omega, by omega⟩ ?_
  refine ⟨h.1, ?_⟩
  refine lw_wrap (M := M_L_row) (hh := hhR) (n := 3) (args := [.ref 0, .int (X.2 (nI i + 1).toNatClampNeg), .ref 83]) (S' := []) rfl rfl uw1313 uw1314 uw384 uw1315 (by decide +kernel) (by decide) rfl (by decide +kernel) hc (by decide) (yc_row 0 A _ hs.1) (by decide) ?_
  rintro v τ ⟨c1, f1, hO⟩
  have m1 := mv_fr hs.2.1 f1
  have hm := mt_use (mc_row 298 A (X.2 (nI i + 1).toNatClampNeg)) c1 m1
  generalize rowC A (X.2 (nI i + 1).toNatClampNeg) = O at hO hm
  rcases hO with ⟨r, e1, rfl, e3⟩ | ⟨e1, rfl⟩
  · subst e1
    refine lwpW (K_c47 X) [1524] 60 (k := 300) (by decide) hc ?_
    refine ⟨h.1, _, hm, ?_⟩
    rintro _ υ ⟨rfl, t7, c2, m2, f2⟩
    have e4 : gJ υ 83 0 = r := by rw [(f2 83 (by decide)).2.2.1]; exact e3
    refine ⟨_, ev_thrown _ υ, ?_⟩
    rintro _ _ ⟨rfl, rfl⟩
    exact ⟨fun _ => ⟨fun q => absurd rfl q, fun _ => ⟨v01, fun _ => go _ _ _ _ ⟨c2, m2, hs.2.2⟩, fun q => absurd ((cmp0 _ _).mpr e4) q⟩⟩, fun q => absurd t7 q⟩
  · subst e1
    refine lwpW (K_c47 X) [1524] 60 (k := 300) (by decide) hc ?_
    refine ⟨h.1, _, hm, ?_⟩
    rintro _ υ ⟨rfl, t7, c2, m2, f2⟩
    refine ⟨_, ev_thrown _ υ, ?_⟩
    rintro _ _ ⟨rfl, rfl⟩
    exact ⟨fun _ => ⟨fun _ => go _ _ _ _ ⟨c2, m2, hs.2.2⟩, fun q => absurd q (by decide)⟩, fun q => absurd t7 q⟩
