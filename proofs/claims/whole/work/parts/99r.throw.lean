/-! METHODS THAT THROW, AND THE LAW'S WRAPPERS THAT CATCH -/
abbrev XE : Type := Launch → State → Array Value → Code → (Nat → Nat) → Prop
abbrev XZ : Type := List Frame → Array Value → State → va_G → (Nat → ClassId) → (Nat → Nat) → State → Prop
def XW (M : Mt) (R : Room) (E : XE) (Z : XZ) (kc ks pc : Nat) (L : List (Option Value)) (S : List Value) (σ : Sto) : Prop :=
  ∀ (l : Launch) (p : Program) (e : Env) (s : State) (m : MethodId) (args : Array Value) (below : List Frame) (meth : Method) (c : Code) (D : va_G) (cy : Nat → ClassId) (ad : Nat → Nat), Cx M p s m args meth c D cy ad → E l s args c ad →
    ∀ (H : Heap) (locs : List Loc) (ls : Array Slot), VL ad L ls (mL M) → Wd D cy ad s.heap σ H locs →
      W p l e R s m args below meth c H locs kc ks (Z below args s D cy ad) (F0 m pc ls (S.map (rv ad)))
def XOK (M : Mt) (R : Room) (E : XE) (Z : XZ) (kc ks pc : Nat) (op : Op) : Prop := ∀ (k : Nat) (Q : Option Value → Sto → Prop) (K : Nat → List (Option Value) → List Value → Sto → Prop) (L : List (Option Value)) (S : List Value) (σ : Sto), (k ≤ R.frames ∧ 64 * k ≤ R.locals) ∧ (kc ≤ R.cells ∧ ks ≤ R.slots) →
  op k Q K pc L S σ → (∀ pc' L' S' σ', K pc' L' S' σ' → XW M R E Z kc ks pc' L' S' σ') → XW M R E Z kc ks pc L S σ
section XS
variable {R : Room} {E : XE} {Z : XZ} {kc ks : Nat}
theorem xwp_ok {M : Mt} {T : List (Nat × Op)} (hT : ∀ r ∈ T, XOK M R E Z kc ks r.1 r.2) {cut : List Nat} {k : Nat} (hR : (k ≤ R.frames ∧ 64 * k ≤ R.locals) ∧ (kc ≤ R.cells ∧ ks ≤ R.slots)) {Q : Option Value → Sto → Prop} {K : Nat → List (Option Value) → List Value → Sto → Prop} (hK : ∀ pc L S σ, K pc L S σ → XW M R E Z kc ks pc L S σ) : ∀ n pc L S σ, wp T cut k Q K n pc L S σ → XW M R E Z kc ks pc L S σ := by
  intro n
  induction n with
  | zero => intro pc L S σ h; exact h.elim
  | succ n ih =>
    intro pc L S σ h
    unfold wp at h
    split at h
    · exact h.elim
    · rename_i op hop
      refine hT _ (fnd_ok hop) k Q _ L S σ hR h (fun pc' L' S' σ' h' => ?_)
      split at h'
      · exact hK _ _ _ _ h'
      · exact ih _ _ _ _ h'
theorem xwpW {M : Mt} {T : List (Nat × Op)} (hT : ∀ r ∈ T, XOK M R E Z kc ks r.1 r.2) (cut : List Nat) (n : Nat) {k : Nat} (hR : (k ≤ R.frames ∧ 64 * k ≤ R.locals) ∧ (kc ≤ R.cells ∧ ks ≤ R.slots)) {pc : Nat} {L : List (Option Value)} {S : List Value} {σ : Sto} (h : wp T cut k (fun _ _ => False) (fun pc L S σ => XW M R E Z kc ks pc L S σ) n pc L S σ) : XW M R E Z kc ks pc L S σ := xwp_ok hT hR (fun _ _ _ _ h => h) n pc L S σ h
theorem xfn {M : Mt} : ∀ r ∈ ([] : List (Nat × Op)), XOK M R E Z kc ks r.1 r.2 := fun _ h => nomatch h
theorem xfc {M : Mt} {pc : Nat} {op : Op} {T : List (Nat × Op)} (h : XOK M R E Z kc ks pc op) (ht : ∀ r ∈ T, XOK M R E Z kc ks r.1 r.2) : ∀ r ∈ (pc, op) :: T, XOK M R E Z kc ks r.1 r.2 := List.forall_mem_cons.mpr ⟨h, ht⟩
theorem xok_aldn {M : Mt} {pc i : Nat} {q : Fin 4} (hd : decode (mB M) pc = .ok (.aload_n q, 1)) (hi : (q : Nat) = i) : XOK M R E Z kc ks pc (op_ald i 1) := by
  intro k Q K L S σ hR h hk
  unfold op_ald at h
  split at h
  · rename_i x hx
    intro l p e s m args below meth c D cy ad C hE H locs ls hl hW
    exact lv_aload_n C.1 C.2.1 hd hi (hl.2.2 _ _ hx) (hk _ _ _ _ h l p e s m args below meth c D cy ad C hE H locs ls hl hW)
  · exact h.elim
theorem xok_ildn {M : Mt} {pc i : Nat} {q : Fin 4} (hd : decode (mB M) pc = .ok (.iload_n q, 1)) (hi : (q : Nat) = i) : XOK M R E Z kc ks pc (op_ild i 1) := by
  intro k Q K L S σ hR h hk
  unfold op_ild at h
  split at h
  · rename_i x hx
    intro l p e s m args below meth c D cy ad C hE H locs ls hl hW
    exact lv_iload_n C.1 C.2.1 hd hi (hl.2.2 _ _ hx) (hk _ _ _ _ h l p e s m args below meth c D cy ad C hE H locs ls hl hW)
  · exact h.elim
theorem xok_iconst {M : Mt} {pc : Nat} {n : Int} {v : Int32} (hd : decode (mB M) pc = .ok (.iconst n, 1)) (hv : Int32.ofInt n = v) : XOK M R E Z kc ks pc (op_ic v 1) := by
  intro k Q K L S σ hR h hk
  intro l p e s m args below meth c D cy ad C hE H locs ls hl hW
  exact lv_iconst C.1 C.2.1 hd hv (hk _ _ _ _ h l p e s m args below meth c D cy ad C hE H locs ls hl hW)
theorem xok_i2l {M : Mt} {pc : Nat} (hd : decode (mB M) pc = .ok (.i2l, 1)) : XOK M R E Z kc ks pc (op_i2l) := by
  intro k Q K L S σ hR h hk
  unfold op_i2l at h
  split at h
  · intro l p e s m args below meth c D cy ad C hE H locs ls hl hW
    exact lv_i2l C.1 C.2.1 hd rfl (hk _ _ _ _ h l p e s m args below meth c D cy ad C hE H locs ls hl hW)
  · exact h.elim
theorem xok_goto {M : Mt} {pc t : Nat} {off : Int} (hd : decode (mB M) pc = .ok (.goto off, 3)) (ht : (pc : Int) + off = (t : Int)) : XOK M R E Z kc ks pc (op_goto t) := by
  intro k Q K L S σ hR h hk
  intro l p e s m args below meth c D cy ad C hE H locs ls hl hW
  exact lv_goto C.1 C.2.1 hd ht (hk _ _ _ _ h l p e s m args below meth c D cy ad C hE H locs ls hl hW)
theorem xok_ifne {M : Mt} {pc t : Nat} {off : Int} (hd : decode (mB M) pc = .ok (.ifCond .ne off, 3)) (ht : (pc : Int) + off = (t : Int)) : XOK M R E Z kc ks pc (op_ifne t) := by
  intro k Q K L S σ hR h hk
  unfold op_ifne at h
  split at h
  · intro l p e s m args below meth c D cy ad C hE H locs ls hl hW
    exact lv_if_ne C.1 C.2.1 hd ht (fun q => hk _ _ _ _ (h.1 q) l p e s m args below meth c D cy ad C hE H locs ls hl hW) (fun q => hk _ _ _ _ (h.2 q) l p e s m args below meth c D cy ad C hE H locs ls hl hW)
  · exact h.elim
theorem xok_iflt {M : Mt} {pc t : Nat} {off : Int} (hd : decode (mB M) pc = .ok (.ifCond .lt off, 3)) (ht : (pc : Int) + off = (t : Int)) : XOK M R E Z kc ks pc (op_iflt t) := by
  intro k Q K L S σ hR h hk
  unfold op_iflt at h
  split at h
  · intro l p e s m args below meth c D cy ad C hE H locs ls hl hW
    exact lv_if_lt C.1 C.2.1 hd ht (fun q => hk _ _ _ _ (h.1 q) l p e s m args below meth c D cy ad C hE H locs ls hl hW) (fun q => hk _ _ _ _ (h.2 q) l p e s m args below meth c D cy ad C hE H locs ls hl hW)
  · exact h.elim
theorem xok_iclt {M : Mt} {pc t : Nat} {off : Int} (hd : decode (mB M) pc = .ok (.if_icmp .lt off, 3)) (ht : (pc : Int) + off = (t : Int)) : XOK M R E Z kc ks pc (op_iclt t) := by
  intro k Q K L S σ hR h hk
  unfold op_iclt at h
  split at h
  · intro l p e s m args below meth c D cy ad C hE H locs ls hl hW
    exact lv_icmp_lt C.1 C.2.1 hd ht (fun q => hk _ _ _ _ (h.1 q) l p e s m args below meth c D cy ad C hE H locs ls hl hW) (fun q => hk _ _ _ _ (h.2 q) l p e s m args below meth c D cy ad C hE H locs ls hl hW)
  · exact h.elim
theorem xok_gf {M : Mt} {pc i ci j d : Nat} {C : String} {T : u_T} {N : Nat} (hM : MOK M) (hF : FOK M i ci j C T N) (hkd : (kdOf ci)[j]? = some (d + 2)) (hd : decode (mB M) pc = .ok (.getfield i, 3)) : XOK M R E Z kc ks pc (op_gf ci j d) := by
  intro k Q K L S σ hR h hk
  unfold op_gf at h
  split at h
  · rename_i a S
    split at h
    · rename_i hc
      intro l p e s m args below meth c D cy ad C hE H locs ls hl hW
      exact va_get C.1 C.2.1 C.2.2.2.2.2.2.1 (fun w hw => hM.wU w (hF.2.2.2 w hw)) C.2.2.2.2.2.1 C.2.2.2.2.2.2.2.1 hW.1 a (ws_ob (isC_ok hc)) hF.1 j hF.2.1 (hM.w C.2.2.2.2.2.2.1 hF.2.2.1) (fun _ h9 => h9) (fl_at hkd) hd (hk _ _ _ _ h l p e s m args below meth c D cy ad C hE H locs ls hl hW)
    · exact h.elim
  · exact h.elim
theorem xok_gi {M : Mt} {pc i ci j : Nat} {C : String} {T : u_T} {N : Nat} (hM : MOK M) (hF : FOK M i ci j C T N) (hkd : (kdOf ci)[j]? = some 0) (hd : decode (mB M) pc = .ok (.getfield i, 3)) : XOK M R E Z kc ks pc (op_gi ci j) := by
  intro k Q K L S σ hR h hk
  unfold op_gi at h
  split at h
  · rename_i a S
    split at h
    · rename_i hc
      intro l p e s m args below meth c D cy ad C hE H locs ls hl hW
      exact va_get C.1 C.2.1 C.2.2.2.2.2.2.1 (fun w hw => hM.wU w (hF.2.2.2 w hw)) C.2.2.2.2.2.1 C.2.2.2.2.2.2.2.1 hW.1 a (ws_ob (isC_ok hc)) hF.1 j hF.2.1 (hM.w C.2.2.2.2.2.2.1 hF.2.2.1) (fun _ h9 => h9) (fl_at hkd) hd (hk _ _ _ _ h l p e s m args below meth c D cy ad C hE H locs ls hl hW)
    · exact h.elim
  · exact h.elim
theorem xok_last {M : Mt} {pc : Nat} (hd : decode (mB M) pc = .ok (.lastore, 1)) : XOK M R E Z kc ks pc op_last := by
  intro k Q K L S σ hR h hk
  unfold op_last at h
  split at h
  · split at h
    · rename_i hc
      obtain ⟨hi, h⟩ := h
      intro l p e s m args below meth c D cy ad C hE H locs ls hl hW
      refine va_last C.1 C.2.1 C.2.2.2.2.2.2.2.1 hW.1 hW.2.1 hW.2.2 _ 4 (ws_lo (arr_ok hc)) rfl hi hd (fun H1 locs1 hP1 hD1 hS1 => ?_)
      rw [ws_sJ (arr_ok hc)] at hP1 hD1
      exact hk _ _ _ _ h l p e s m args below meth c D cy ad C hE H1 locs1 ls hl ⟨hP1, hD1, hS1⟩
    · exact h.elim
  · exact h.elim
theorem xok_tsw {M : Mt} {pc d len : Nat} {dflt lo hi : Int} {offs : Array Int} {ps : List (Int32 × Nat)} (hd : decode (mB M) pc = .ok (.tableswitch dflt lo hi offs, len)) (he : offs.toList = ps.map (fun q => (q.2 : Int) - pc)) (hkey : ps.map (fun q => q.1.toInt) = (List.range ps.length).map (fun (i : Nat) => lo + (i : Int))) (hhi : hi = lo + ps.length - 1) (hdf : dflt = (d : Int) - pc) : XOK M R E Z kc ks pc (op_sw d ps) := by
  have key : ∀ (i : Nat) q, ps[i]? = some q → q.1.toInt = lo + i := by
    intro i q hq
    have h1 : (ps.map (fun q => q.1.toInt))[i]? = some q.1.toInt := by rw [List.getElem?_map, hq]; rfl
    rw [hkey, List.getElem?_map, List.getElem?_range (List.getElem?_eq_some_iff.mp hq).1] at h1
    exact (Option.some.inj h1).symm
  intro k Q K L S σ hR h hk
  unfold op_sw at h
  split at h
  · rename_i x S
    intro l p e s m args below meth c D cy ad C hE H locs ls hl hW
    have go := hk _ _ _ _ (swc_ok h) l p e s m args below meth c D cy ad C hE H locs ls hl hW
    by_cases ho : x.toInt < lo ∨ hi < x.toInt
    · rw [tsw_out ps lo key (by omega)] at go
      exact lv_tableOut (tgt := d) C.1 C.2.1 hd ho (by omega) go
    · have hlt : (x.toInt - lo).toNat < ps.length := by omega
      obtain ⟨q, hq⟩ : ∃ q, ps[(x.toInt - lo).toNat]? = some q := ⟨_, List.getElem?_eq_getElem hlt⟩
      rw [tsw_in (t := q.2) (v := q.1) ps lo (x.toInt - lo).toNat key hq (by omega)] at go
      refine lv_tableIn (tgt := q.2) (off := (q.2 : Int) - pc) C.1 C.2.1 hd (by omega) (by omega) ?_ (by omega) go
      rw [← Array.getElem?_toList, he, List.getElem?_map, hq]
      rfl
  · exact h.elim
theorem xok_ast {M : Mt} {pc i : Nat} (hd : decode (mB M) pc = .ok (.astore i, 2)) (hb : i < mL M) : XOK M R E Z kc ks pc (op_ast i 2) := by
  intro k Q K L S σ hR h hk
  unfold op_ast at h
  split at h
  · rename_i x S
    intro l p e s m args below meth c D cy ad C hE H locs ls hl hW
    exact lv_astore C.1 C.2.1 hd hl.has hb rfl (fun ls2 hl2 => hk _ _ _ _ h l p e s m args below meth c D cy ad C hE H locs ls2 (VL.s1 (v := .ref x) hb hl hl2) hW)
  · exact h.elim
theorem xok_astn {M : Mt} {pc i : Nat} {q : Fin 4} (hd : decode (mB M) pc = .ok (.astore_n q, 1)) (hi : (q : Nat) = i) (hb : i < mL M) : XOK M R E Z kc ks pc (op_ast i 1) := by
  intro k Q K L S σ hR h hk
  unfold op_ast at h
  split at h
  · rename_i x S
    intro l p e s m args below meth c D cy ad C hE H locs ls hl hW
    exact lv_astore_n C.1 C.2.1 hd hi hl.has hb rfl (fun ls2 hl2 => hk _ _ _ _ h l p e s m args below meth c D cy ad C hE H locs ls2 (VL.s1 (v := .ref x) hb hl hl2) hW)
  · exact h.elim
theorem xlo_ok {M' : Mt} (h' : MOK M') {j : Nat} (hR : j + 1 ≤ R.frames ∧ 64 * (j + 1) ≤ R.locals) : (rmk j).frames + 1 ≤ R.frames ∧ 8 + (mL M' + 11) + (rmk j).locals ≤ R.locals := by
  have := h'.2.2.2.2
  refine ⟨hR.1, ?_⟩
  show 8 + (mL M' + 11) + 64 * j ≤ R.locals
  omega
theorem xok_cv {M M' : Mt} {pc idx ci n : Nat} {T : u_T} {N : Nat} (hU : ∀ w ∈ UW, w ∈ mW M) (hM' : MOK M') (hc : CVok M M' idx n) (hci : vwCl[ci]? = some (mO M', T, N)) (hd : decode (mB M) pc = .ok (.invokevirtual idx, 3)) : XOK M R E Z kc ks pc (op_cv M' ci n) := by
  intro k Q K L S σ hR h hk
  unfold op_cv at h
  split at h
  · exact h.elim
  rename_i j
  split at h
  · rename_i a S' hS
    split at h
    · rename_i hb
      rw [Bool.and_eq_true] at hb
      obtain ⟨Q', hev, hgo⟩ := h
      intro l p e s m args below meth c D cy ad C hE H locs ls hl hW
      have hlen : (S.take n).length = n := by
        rw [List.length_take]
        have : (S.drop n).length = S'.length + 1 := by rw [hS]; rfl
        rw [List.length_drop] at this
        omega
      have hst : S.map (rv ad) = (((S.take n).reverse).map (rv ad)).reverse ++ .ref (ad a) :: S'.map (rv ad) := by
        conv => lhs; rw [← List.take_append_drop n S]
        rw [List.map_append, hS, List.map_reverse, List.reverse_reverse]
        rfl
      have hG : GoodIn (mW M) (wsV (mO M) idx (mO M') (mY M') (mW M')) := by
        intro w hw
        rcases List.mem_append.mp hw with hw | hw
        · have hu : w ∈ UW := by
            rcases List.mem_cons.mp hw with rfl | hw
            · exact hc.1
            rcases List.mem_cons.mp hw with rfl | hw
            · exact hc.2.1
            rcases List.mem_cons.mp hw with rfl | hw
            · exact hc.2.2.1
            rcases List.mem_cons.mp hw with rfl | hw
            · exact hc.2.2.2.1
            · cases hw
          exact ⟨hU w hu, UW_good hu⟩
        · exact ⟨hU w (hM'.goodL w hw).1, (hM'.goodL w hw).2⟩
      rw [hst]
      refine va_go (va_runV (As := ((S.take n).reverse).map (rv ad)) (rest := S'.map (rv ad)) ⟨C.1, C.2.1, C.2.2.1, C.2.2.2.2.2.1, C.2.2.2.2.2.2.1⟩ (hev l D cy ad) (cwV n C.2.2.2.2.2.2.1 hG hM'.2.1 rfl rfl ⟨hM'.2.2.1, hc.2.2.2.2⟩ (xlo_ok hM' hR.1)) ⟨PreM.blind, va_recv C.2.2.2.2.2.2.2.1 hW.1 hci (ws_ob (isC_ok hb.1)), fun U hU hw => C.pre hW hU hw⟩ rfl (by rw [List.length_map, List.length_reverse, hlen]) hl.1 rfl (lv_room (by rw [cats_ok]; exact Nat.le_of_ble_eq_true hb.2)) hd hR.2) hW.2.2 (fun _ _ h => h) (fun _ h => h) (fun v σ' H1 locs1 hq hP hD _ _ hS1 => ?_)
      have := hk _ _ _ _ (hgo v σ' hq) l p e s m args below meth c D cy ad C hE H1 locs1 ls hl ⟨hP, hD, hS1⟩
      rw [List.map_append] at this
      cases v <;> exact this
    · exact h.elim
  · exact h.elim
end XS
def rmx (k : Nat) : Room := { frames := k + 8, cells := 1, slots := 6, locals := 64 * k + 128 }
/-- what a throw needs of the start: no traces kept, no rows of its own, the words, the two statics of Throwable -/
def xE : XE := fun l s args c ad => l.stackTraces = false ∧ (∀ x ∈ c.exceptionTable.toList, False) ∧ (∀ w ∈ Cond.classLink RX11 120 nse :: Cond.initialized nse :: vx_at0 RX11 122 nse nsu, w.before args s = true) ∧ xZq ad s s.heap
def xC (D : va_G) (cy : Nat → ClassId) (ad : Nat → Nat) (Q : Sto → Prop) : String → State → State → Prop := fun E st t => E = nse ∧ (∃ σ', Q σ' ∧ va_P D vwCl (wsOf cy ad σ') t.heap ∧ va_D (Aad ad) (wsOf cy ad σ')) ∧ va_F (Aad ad) st t
def xZ (Q : Sto → Prop) : XZ := fun below args s D cy ad => vx_MQ below (fun _ _ _ _ => False) (xC D cy ad Q) args s 1 6 (Aad ad)
theorem x_good : ∀ w ∈ Cond.classLink RX11 120 nse :: Cond.initialized nse :: vx_at0 RX11 122 nse nsu, vx_ot w = true := List.all_eq_true.mp (by decide +kernel)
theorem va_P.keep {D : va_G} {cl : List vw_C} {ws : va_W} {H H' : Heap} (h : va_P D cl ws H) (hk : ∀ q : Nat, q < H.size → H'[q]? = H[q]?) : va_P D cl ws H' := h.kept (fun k q hq => hk q.1 (h k q hq).lt)
/-- throw new NoSuchElementException() -/
theorem xw_throw {M : Mt} {k pc : Nat} {Q : Sto → Prop} {L : List (Option Value)} {S : List Value} {σ : Sto} (ho : mO M = RX11) (d0 : decode (mB M) pc = .ok (.new 120, 3)) (d3 : decode (mB M) (pc + 3) = .ok (.dup, 1)) (d4 : decode (mB M) (pc + 4) = .ok (.invokespecial 122, 3)) (d7 : decode (mB M) (pc + 7) = .ok (.athrow, 1)) (hS : cats S ≤ 8) (hq : Q σ) : XW M (rmx k) xE (xZ Q) 0 0 pc L S σ := by
  intro l p e s m args below meth c D cy ad C hE H locs ls hl hW
  obtain ⟨hst, htb, hw, hU, hN, -⟩ := hE
  have hown : s.vm.findClass RX11 = some m.cls := ho ▸ C.2.2.2.2.2.1
  refine vx_throw0 (names := nsu) (cls := nse) C.1 C.2.1 hst hown (by decide +kernel) (by decide +kernel) (hw _ List.mem_cons_self) (hw _ (List.mem_cons_of_mem _ List.mem_cons_self)) (fun w h => hw w (List.mem_cons_of_mem _ (List.mem_cons_of_mem _ h))) x_good hU hN hW.2.2 (hl.1.trans C.2.2.1.symm) d0 d3 d4 d7 (fun x hx => (htb x hx).elim) ?_ ?_ (Nat.le_refl 1) (Nat.le_refl 6) C.2.2.2.2.1 ?_ hW.2.2.2.2 (Nat.le_refl 1) (Nat.le_refl 6)
  · show 2 + 3 < k + 8
    omega
  · rw [cats_ok]
    show cats S + (13 * (2 + 1) + 42) ≤ 64 * k + 128
    omega
  · intro t ht hz hk
    refine ⟨rfl, ⟨σ, hq, hW.1.keep hk, hW.2.1⟩, Nat.le_trans hW.2.2.1 hz, fun q h1 h2 => ?_⟩
    rw [hk q (Nat.lt_of_lt_of_le h1 hW.2.2.1)]
    exact hW.2.2.2.1 q h1 h2
theorem x_non : ∀ w ∈ (vx_at0 RX11 122 nse nsu).filter (fun w => !goodWord w), w ∈ xB := by decide +kernel
theorem xwL_good {w : Cond} (h : w ∈ xwL) : (w.onTables && w.keeps) = true ∨ ∃ ty, w = .arrayClass ty := good_of_word (List.mem_filter.mp h).2
def mWX (M : Mt) : List Cond := Cond.code (mY M) (mB M) (mL M) (mR M) :: (UW ++ xwL)
def PreX (D : va_G) (cy : Nat → ClassId) (ad : Nat → Nat) (args : List Value) (σ : Sto) : Array Value → State → Prop := fun a U => PreM D cy ad args σ a U ∧ xZq ad U U.heap
theorem xB_tab : ∀ w ∈ xB, w.onTables = true := by decide +kernel
theorem xB_moved {u U : State} (hvm : u.vm.Alike U.vm) (h : ∀ w ∈ xB, va_Nw w u) : ∀ w ∈ xB, va_Nw w U := by
  have dec : ∀ y : MethodName, va_Nw (.declares y) u → va_Nw (.declares y) U := fun y hy => va_tabs rfl (rfl : (u.setVm U.vm).vm = U.vm) (by rw [Cond.declares_setVm hvm]; exact hy)
  refine List.forall_mem_cons.mpr ⟨va_tabs rfl (rfl : (u.setVm U.vm).vm = U.vm) (by rw [Cond.castable_setVm hvm]; exact h _ List.mem_cons_self), ?_⟩
  refine List.forall_mem_cons.mpr ⟨dec _ (h _ (List.mem_cons_of_mem _ List.mem_cons_self)), ?_⟩
  refine List.forall_mem_cons.mpr ⟨dec _ (h _ (List.mem_cons_of_mem _ (List.mem_cons_of_mem _ List.mem_cons_self))), ?_⟩
  exact List.forall_mem_cons.mpr ⟨dec _ (h _ (List.mem_cons_of_mem _ (List.mem_cons_of_mem _ (List.mem_cons_of_mem _ List.mem_cons_self)))), fun _ q => nomatch q⟩
theorem xZq.moved {ad : Nat → Nat} {u U : State} {H : Heap} (hvm : u.vm.Alike U.vm) (h : xZq ad u H) : xZq ad U H := ⟨h.1.moved hvm, h.2.1.moved hvm, xB_moved hvm h.2.2⟩
theorem xZq.kept {ad : Nat → Nat} {U : State} {H H1 : Heap} (h : xZq ad U H) (hq : ∀ a : Nat, a < H.size → ¬ Aad ad a → H1[a]? = H[a]?) : xZq ad U H1 := ⟨h.1.kept hq, h.2.1.kept hq, h.2.2⟩
theorem PreX.blind {D : va_G} {cy : Nat → ClassId} {ad : Nat → Nat} {as : List Value} {σ : Sto} : FrameBlind (PreX D cy ad as σ) := fun a U g mk q => ⟨PreM.blind a U g mk q.1, xZq.moved (u := U) (U := U.calling g mk a) (Vm.Alike.refl U.vm) q.2⟩
/-- THE CONTRACT of a method that throws NoSuchElementException from σ -/
def EvX (k : Nat) (M : Mt) (args : List Value) (σ : Sto) (Q : Sto → Prop) : Prop := ∀ (l : Launch), l.stackTraces = false → ∀ (D : va_G) (cy : Nat → ClassId) (ad : Nat → Nat), vx_Met l (mY M) (mWX M) (rmx k) (PreX D cy ad args σ) (fun _ _ _ _ => False) (xC D cy ad Q) 1 6 (Aad ad)
theorem uwcl : Cond.classLink RX11 120 nse ∈ UW := inR17 _ (List.mem_of_getElem? (i := 7) rfl)
theorem uwin : Cond.initialized nse ∈ UW := inR17 _ (List.mem_of_getElem? (i := 8) rfl)
theorem x_words {args : Array Value} {s : State} (h1 : ∀ w ∈ UW, w.before args s = true) (h2 : ∀ w ∈ xwL, w.before args s = true) (h3 : ∀ w ∈ xB, va_Nw w s) : ∀ w ∈ Cond.classLink RX11 120 nse :: Cond.initialized nse :: vx_at0 RX11 122 nse nsu, w.before args s = true := by
  refine List.forall_mem_cons.mpr ⟨h1 _ uwcl, List.forall_mem_cons.mpr ⟨h1 _ uwin, vx_hat h2 x_non (fun w hw => va_Nw.use (xB_tab w hw) (h3 w hw))⟩⟩
theorem EvX.of {M : Mt} {k : Nat} {args : List Value} {σ : Sto} {Q : Sto → Prop} (hM : MOK M) (hlen : (entA args).length ≤ mL M) (h : XW M (rmx k) xE (xZ Q) 0 0 0 (entL (mL M) args) [] σ) : EvX k M args σ Q := by
  intro l hst D cy ad
  refine vx_ofW (cc := mB M) (maxL := mL M) (ret := mR M) hM.1 rfl ?_
  intro p e s m args' below meth c s₁ B hml htb hv
  obtain ⟨⟨rfl, hP, hK, hD, hZ⟩, hX⟩ := hv
  have hown : s.vm.findClass (mO M) = some m.cls := hM.2.2.1 ▸ findClass_of_methodNamed B.named
  have hts := atoms_spec (ws := mWX M) B.pre
  have hU : ∀ w ∈ UW, w.before ((args.map (rv ad)).toArray) s = true := fun w hw => hts w (List.mem_cons_of_mem _ (List.mem_append_left _ hw))
  have hX2 : ∀ w ∈ xwL, w.before ((args.map (rv ad)).toArray) s = true := fun w hw => hts w (List.mem_cons_of_mem _ (List.mem_append_right _ hw))
  rw [lg_entry_eq]
  exact h l p e s m _ below meth c D cy ad ⟨B.exec, B.bytes, hml, B.returns, B.notSynchronized, hown, by rw [hM.2.1]; exact List.forall_mem_cons.mpr ⟨hts _ List.mem_cons_self, hU⟩, hK, hZ⟩ ⟨hst, htb, x_words hU hX2 hX.2.2, hX⟩ s.heap [] _ (VL.ent ad hlen) ⟨hP, hD, va_S.rf⟩
