/-! THE LAW'S OWN WALK -/
def nse : String := "java/util/NoSuchElementException"
def nsu : List String := ["java/lang/RuntimeException", "java/lang/Exception"]
def xwL : List Cond := (vx_at0 RX11 122 nse nsu).filter goodWord
def xB : List Cond := [.castable nse nse, .declares (Bundle.init0 "java/lang/RuntimeException"), .declares (Bundle.init0 "java/lang/Exception"), .declares (Bundle.init0 Bundle.tN)]
/-- what a throw needs of the heap: the two statics of Throwable -/
def xZq (ad : Nat → Nat) (U : State) (H : Heap) : Prop := vx_Zq Bundle.tN "UNASSIGNED_STACK" Bundle.steD (Aad ad) U H ∧ vx_Zq Bundle.tN "SUPPRESSED_SENTINEL" Bundle.listD (Aad ad) U H ∧ ∀ w ∈ xB, va_Nw w U
abbrev LX : Type := Nat × (Nat → Int32)
def Lx (X : LX) (p : Program) (s : State) (m : MethodId) (b : Nat) (meth : Method) (c : Code) (D : va_G) (cy : Nat → ClassId) (ad : Nat → Nat) : Prop :=
  p.tables.exec = Jvm.exec ∧ c.code = cL_law ∧ c.maxLocals = 8 ∧ meth.sig.returnType = ret ∧ meth.locks = false ∧ s.vm.findClass RL = some m.cls ∧ (∀ w ∈ UW, w.before #[Value.ref b] s = true) ∧ va_K D vwCl (tysOf cy) s ∧ Zf ad s s.heap ∧ va_X b X.1 X.2 s s.heap ∧ b < s.heap.size ∧ ad 998 = b ∧ (∀ q, Aad ad q → s.heap.size ≤ q) ∧ (∀ w ∈ xwL, w.before #[Value.ref b] s = true) ∧ xZq ad s s.heap
def Wl (D : va_G) (cy : Nat → ClassId) (ad : Nat → Nat) (H0 : Heap) (σ : Sto) (H : Heap) (locs : List Loc) : Prop := va_P D vwCl (wsOf cy ad σ) H ∧ va_D (Aad ad) (wsOf cy ad σ) ∧ va_S (fun q => H0.size ≤ q) H0 H locs
def LW (X : LX) (kc ks pc : Nat) (L : List (Option Value)) (S : List Value) (σ : Sto) : Prop :=
  ∀ (l : Launch) (p : Program) (e : Env) (s : State) (m : MethodId) (b : Nat) (below : List Frame) (meth : Method) (c : Code) (D : va_G) (cy : Nat → ClassId) (ad : Nat → Nat), l.flags = flags0 → Lx X p s m b meth c D cy ad →
    ∀ (H : Heap) (locs : List Loc) (ls : Array Slot), VL ad L ls 8 → Wl D cy ad s.heap σ H locs →
      W p l e room_1 s m #[Value.ref b] below meth c H locs kc ks (lw_Z below #[Value.ref b] s) (F0 m pc ls (S.map (rv ad)))
def LOK (X : LX) (pc : Nat) (op : Op) : Prop := ∀ (kc ks k : Nat) (Q : Option Value → Sto → Prop) (K : Nat → List (Option Value) → List Value → Sto → Prop) (L : List (Option Value)) (S : List Value) (σ : Sto), k ≤ 1300 → kc ≤ 601024 ∧ ks ≤ 7293034 →
  op k Q K pc L S σ → (∀ pc' L' S' σ', K pc' L' S' σ' → LW X kc ks pc' L' S' σ') → LW X kc ks pc L S σ
theorem LW.widen {X : LX} {kc ks kc' ks' pc : Nat} {L : List (Option Value)} {S : List Value} {σ : Sto} (h1 : kc ≤ kc') (h2 : ks ≤ ks') (h : LW X kc' ks' pc L S σ) : LW X kc ks pc L S σ := fun l p e s m b below meth c D cy ad hfl C H locs ls hl hW => W.widen h1 h2 (h l p e s m b below meth c D cy ad hfl C H locs ls hl hW)
theorem lwp_ok {X : LX} {T : List (Nat × Op)} (hT : ∀ r ∈ T, LOK X r.1 r.2) {cut : List Nat} {kc ks k : Nat} (hk : k ≤ 1300) (hc : kc ≤ 601024 ∧ ks ≤ 7293034) {Q : Option Value → Sto → Prop} {K : Nat → List (Option Value) → List Value → Sto → Prop} (hK : ∀ pc L S σ, K pc L S σ → LW X kc ks pc L S σ) : ∀ n pc L S σ, wp T cut k Q K n pc L S σ → LW X kc ks pc L S σ := by
  intro n
  induction n with
  | zero => intro pc L S σ h; exact h.elim
  | succ n ih =>
    intro pc L S σ h
    unfold wp at h
    split at h
    · exact h.elim
    · rename_i op hop
      refine hT _ (fnd_ok hop) kc ks k Q _ L S σ hk hc h (fun pc' L' S' σ' h' => ?_)
      split at h'
      · exact hK _ _ _ _ h'
      · exact ih _ _ _ _ h'
theorem lwpW {X : LX} {T : List (Nat × Op)} (hT : ∀ r ∈ T, LOK X r.1 r.2) (cut : List Nat) (n : Nat) {kc ks k : Nat} (hk : k ≤ 1300) (hc : kc ≤ 601024 ∧ ks ≤ 7293034) {pc : Nat} {L : List (Option Value)} {S : List Value} {σ : Sto} (h : wp T cut k (fun _ _ => False) (fun pc L S σ => LW X kc ks pc L S σ) n pc L S σ) : LW X kc ks pc L S σ := lwp_ok hT hk hc (fun _ _ _ _ h => h) n pc L S σ h
theorem lok_aldn {X : LX} {pc i : Nat} {q : Fin 4} (hd : decode cL_law pc = .ok (.aload_n q, 1)) (hi : (q : Nat) = i) : LOK X pc (op_ald i 1) := by
  intro kc ks k Q K L S σ hk1 hk2 h hk
  unfold op_ald at h
  split at h
  · rename_i x hx
    intro l p e s m b below meth c D cy ad hfl C H locs ls hl hW
    exact lv_aload_n C.1 C.2.1 hd hi (hl.2.2 _ _ hx) (hk _ _ _ _ h l p e s m b below meth c D cy ad hfl C H locs ls hl hW)
  · exact h.elim
theorem lok_ildn {X : LX} {pc i : Nat} {q : Fin 4} (hd : decode cL_law pc = .ok (.iload_n q, 1)) (hi : (q : Nat) = i) : LOK X pc (op_ild i 1) := by
  intro kc ks k Q K L S σ hk1 hk2 h hk
  unfold op_ild at h
  split at h
  · rename_i x hx
    intro l p e s m b below meth c D cy ad hfl C H locs ls hl hW
    exact lv_iload_n C.1 C.2.1 hd hi (hl.2.2 _ _ hx) (hk _ _ _ _ h l p e s m b below meth c D cy ad hfl C H locs ls hl hW)
  · exact h.elim
theorem lok_ild {X : LX} {pc i : Nat} (hd : decode cL_law pc = .ok (.iload i, 2)) : LOK X pc (op_ild i 2) := by
  intro kc ks k Q K L S σ hk1 hk2 h hk
  unfold op_ild at h
  split at h
  · rename_i x hx
    intro l p e s m b below meth c D cy ad hfl C H locs ls hl hW
    exact lv_iload C.1 C.2.1 hd (hl.2.2 _ _ hx) (hk _ _ _ _ h l p e s m b below meth c D cy ad hfl C H locs ls hl hW)
  · exact h.elim
theorem lok_iconst {X : LX} {pc : Nat} {n : Int} {v : Int32} (hd : decode cL_law pc = .ok (.iconst n, 1)) (hv : Int32.ofInt n = v) : LOK X pc (op_ic v 1) := by
  intro kc ks k Q K L S σ hk1 hk2 h hk
  intro l p e s m b below meth c D cy ad hfl C H locs ls hl hW
  exact lv_iconst C.1 C.2.1 hd hv (hk _ _ _ _ h l p e s m b below meth c D cy ad hfl C H locs ls hl hW)
theorem lok_bipush {X : LX} {pc : Nat} {n : Int} {v : Int32} (hd : decode cL_law pc = .ok (.bipush n, 2)) (hv : (Int8.ofInt n).toInt32 = v) : LOK X pc (op_ic v 2) := by
  intro kc ks k Q K L S σ hk1 hk2 h hk
  intro l p e s m b below meth c D cy ad hfl C H locs ls hl hW
  exact lv_bipush C.1 C.2.1 hd hv (hk _ _ _ _ h l p e s m b below meth c D cy ad hfl C H locs ls hl hW)
theorem lok_iadd {X : LX} {pc : Nat} (hd : decode cL_law pc = .ok (.iadd, 1)) : LOK X pc (op_iadd) := by
  intro kc ks k Q K L S σ hk1 hk2 h hk
  unfold op_iadd at h
  split at h
  · intro l p e s m b below meth c D cy ad hfl C H locs ls hl hW
    exact lv_iadd C.1 C.2.1 hd (hk _ _ _ _ h l p e s m b below meth c D cy ad hfl C H locs ls hl hW)
  · exact h.elim
theorem lok_isub {X : LX} {pc : Nat} (hd : decode cL_law pc = .ok (.isub, 1)) : LOK X pc (op_isub) := by
  intro kc ks k Q K L S σ hk1 hk2 h hk
  unfold op_isub at h
  split at h
  · intro l p e s m b below meth c D cy ad hfl C H locs ls hl hW
    exact lv_isub C.1 C.2.1 hd (hk _ _ _ _ h l p e s m b below meth c D cy ad hfl C H locs ls hl hW)
  · exact h.elim
theorem lok_iand {X : LX} {pc : Nat} (hd : decode cL_law pc = .ok (.iand, 1)) : LOK X pc (op_iand) := by
  intro kc ks k Q K L S σ hk1 hk2 h hk
  unfold op_iand at h
  split at h
  · intro l p e s m b below meth c D cy ad hfl C H locs ls hl hW
    exact lv_iand C.1 C.2.1 hd (hk _ _ _ _ h l p e s m b below meth c D cy ad hfl C H locs ls hl hW)
  · exact h.elim
theorem lok_icgt {X : LX} {pc t : Nat} {off : Int} (hd : decode cL_law pc = .ok (.if_icmp .gt off, 3)) (ht : (pc : Int) + off = (t : Int)) : LOK X pc (op_icgt t) := by
  intro kc ks k Q K L S σ hk1 hk2 h hk
  unfold op_icgt at h
  split at h
  · intro l p e s m b below meth c D cy ad hfl C H locs ls hl hW
    exact lv_icmp_gt C.1 C.2.1 hd ht (fun q => hk _ _ _ _ (h.1 q) l p e s m b below meth c D cy ad hfl C H locs ls hl hW) (fun q => hk _ _ _ _ (h.2 q) l p e s m b below meth c D cy ad hfl C H locs ls hl hW)
  · exact h.elim
theorem lok_iceq {X : LX} {pc t : Nat} {off : Int} (hd : decode cL_law pc = .ok (.if_icmp .eq off, 3)) (ht : (pc : Int) + off = (t : Int)) : LOK X pc (op_iceq t) := by
  intro kc ks k Q K L S σ hk1 hk2 h hk
  unfold op_iceq at h
  split at h
  · intro l p e s m b below meth c D cy ad hfl C H locs ls hl hW
    exact lv_icmp_eq C.1 C.2.1 hd ht (fun q => hk _ _ _ _ (h.1 q) l p e s m b below meth c D cy ad hfl C H locs ls hl hW) (fun q => hk _ _ _ _ (h.2 q) l p e s m b below meth c D cy ad hfl C H locs ls hl hW)
  · exact h.elim
theorem lok_ifeq {X : LX} {pc t : Nat} {off : Int} (hd : decode cL_law pc = .ok (.ifCond .eq off, 3)) (ht : (pc : Int) + off = (t : Int)) : LOK X pc (op_ifeq t) := by
  intro kc ks k Q K L S σ hk1 hk2 h hk
  unfold op_ifeq at h
  split at h
  · intro l p e s m b below meth c D cy ad hfl C H locs ls hl hW
    exact lv_if_eq C.1 C.2.1 hd ht (fun q => hk _ _ _ _ (h.1 q) l p e s m b below meth c D cy ad hfl C H locs ls hl hW) (fun q => hk _ _ _ _ (h.2 q) l p e s m b below meth c D cy ad hfl C H locs ls hl hW)
  · exact h.elim
theorem lok_ifne {X : LX} {pc t : Nat} {off : Int} (hd : decode cL_law pc = .ok (.ifCond .ne off, 3)) (ht : (pc : Int) + off = (t : Int)) : LOK X pc (op_ifne t) := by
  intro kc ks k Q K L S σ hk1 hk2 h hk
  unfold op_ifne at h
  split at h
  · intro l p e s m b below meth c D cy ad hfl C H locs ls hl hW
    exact lv_if_ne C.1 C.2.1 hd ht (fun q => hk _ _ _ _ (h.1 q) l p e s m b below meth c D cy ad hfl C H locs ls hl hW) (fun q => hk _ _ _ _ (h.2 q) l p e s m b below meth c D cy ad hfl C H locs ls hl hW)
  · exact h.elim
theorem lok_goto {X : LX} {pc t : Nat} {off : Int} (hd : decode cL_law pc = .ok (.goto off, 3)) (ht : (pc : Int) + off = (t : Int)) : LOK X pc (op_goto t) := by
  intro kc ks k Q K L S σ hk1 hk2 h hk
  intro l p e s m b below meth c D cy ad hfl C H locs ls hl hW
  exact lv_goto C.1 C.2.1 hd ht (hk _ _ _ _ h l p e s m b below meth c D cy ad hfl C H locs ls hl hW)
theorem lok_i2l {X : LX} {pc : Nat} (hd : decode cL_law pc = .ok (.i2l, 1)) : LOK X pc (op_i2l) := by
  intro kc ks k Q K L S σ hk1 hk2 h hk
  unfold op_i2l at h
  split at h
  · intro l p e s m b below meth c D cy ad hfl C H locs ls hl hW
    exact lv_i2l C.1 C.2.1 hd rfl (hk _ _ _ _ h l p e s m b below meth c D cy ad hfl C H locs ls hl hW)
  · exact h.elim
theorem lok_lcmp {X : LX} {pc : Nat} (hd : decode cL_law pc = .ok (.lcmp, 1)) : LOK X pc (op_lcmp) := by
  intro kc ks k Q K L S σ hk1 hk2 h hk
  unfold op_lcmp at h
  split at h
  · intro l p e s m b below meth c D cy ad hfl C H locs ls hl hW
    exact W.lcmp C.1 C.2.1 hd (hk _ _ _ _ h l p e s m b below meth c D cy ad hfl C H locs ls hl hW)
  · exact h.elim
theorem lok_lald {X : LX} {pc : Nat} (hd : decode cL_law pc = .ok (.laload, 1)) : LOK X pc op_lald := by
  intro kc ks k Q K L S σ hk1 hk2 h hk
  unfold op_lald at h
  split at h
  · split at h
    · rename_i hc
      obtain ⟨hi, h⟩ := h
      intro l p e s m b below meth c D cy ad hfl C H locs ls hl hW
      exact va_lald C.1 C.2.1 C.2.2.2.2.2.2.2.1 hW.1 _ 4 (ws_lo (arr_ok hc)) rfl hi hd (hk _ _ _ _ h l p e s m b below meth c D cy ad hfl C H locs ls hl hW)
    · exact h.elim
  · exact h.elim
theorem lok_ist {X : LX} {pc i : Nat} (hd : decode cL_law pc = .ok (.istore i, 2)) (hb : i < 8) : LOK X pc (op_ist i 2) := by
  intro kc ks k Q K L S σ hk1 hk2 h hk
  unfold op_ist at h
  split at h
  · rename_i x S
    intro l p e s m b below meth c D cy ad hfl C H locs ls hl hW
    exact lv_istore C.1 C.2.1 hd hl.has hb rfl (fun ls2 hl2 => hk _ _ _ _ h l p e s m b below meth c D cy ad hfl C H locs ls2 (VL.s1 (v := .int x) hb hl hl2) hW)
  · exact h.elim
theorem lok_iinc {X : LX} {pc i : Nat} {n : Int} {d : Int32} (hd : decode cL_law pc = .ok (.iinc i n, 3)) (he : Int32.ofInt n = d) (hb : i < 8) : LOK X pc (op_iinc i d) := by
  intro kc ks k Q K L S σ hk1 hk2 h hk
  unfold op_iinc at h
  split at h
  · rename_i x hx
    intro l p e s m b below meth c D cy ad hfl C H locs ls hl hW
    obtain ⟨j, hj⟩ := List.getElem?_of_mem (toA_mem.mpr ⟨_, hx, rfl⟩ : (i, rv ad (.int x)) ∈ toA ad L)
    exact lv_iinc C.1 C.2.1 hd hl.has (k := j) hj (by rw [he]) hb rfl (fun ls2 hl2 => hk _ _ _ _ h l p e s m b below meth c D cy ad hfl C H locs ls2 (VL.s1 (v := .int (x + d)) hb hl hl2) hW)
  · exact h.elim
theorem lok_lst {X : LX} {pc i : Nat} (hd : decode cL_law pc = .ok (.lstore i, 2)) (hb : i + 1 < 8) : LOK X pc (op_lst i 2) := by
  intro kc ks k Q K L S σ hk1 hk2 h hk
  unfold op_lst at h
  split at h
  · rename_i x S
    intro l p e s m b below meth c D cy ad hfl C H locs ls hl hW
    exact lv_lstore C.1 C.2.1 hd hl.has hb rfl (fun ls2 hl2 => hk _ _ _ _ h l p e s m b below meth c D cy ad hfl C H locs ls2 (VL.s2 (v := .long x) hb hl hl2) hW)
  · exact h.elim
theorem lok_lld {X : LX} {pc i : Nat} (hd : decode cL_law pc = .ok (.lload i, 2)) : LOK X pc (op_lld i 2) := by
  intro kc ks k Q K L S σ hk1 hk2 h hk
  unfold op_lld at h
  split at h
  · rename_i x hx
    intro l p e s m b below meth c D cy ad hfl C H locs ls hl hW
    exact lv_lload C.1 C.2.1 hd (hl.2.2 _ _ hx) (hk _ _ _ _ h l p e s m b below meth c D cy ad hfl C H locs ls hl hW)
  · exact h.elim
def op_sld (X : LX) : Op := fun _ _ K pc L S σ => match S with
  | .int i :: .ref a :: S => match Nat.beq a 998 with
    | true => vp_in i X.1 ∧ K (pc + 1) L (.int (X.2 i.toNatClampNeg) :: S) σ
    | false => False
  | _ => False
def op_slen (X : LX) : Op := fun _ _ K pc L S σ => match S with
  | .ref a :: S => match Nat.beq a 998 with
    | true => K (pc + 1) L (.int (nI X.1) :: S) σ
    | false => False
  | _ => False
theorem lok_sld {X : LX} {pc : Nat} (hd : decode cL_law pc = .ok (.iaload, 1)) : LOK X pc (op_sld X) := by
  intro kc ks k Q K L S σ hk1 hk2 h hk
  unfold op_sld at h
  split at h
  · split at h
    · rename_i ha
      obtain ⟨hi, h⟩ := h
      have ha := Nat.eq_of_beq_eq_true ha
      subst ha
      intro l p e s m b below meth c D cy ad hfl C H locs ls hl hW
      obtain ⟨hX, hb, had, -, -⟩ := C.2.2.2.2.2.2.2.2.2
      show W p l e room_1 s m _ below meth c H locs kc ks _ (F0 m pc ls (.int _ :: .ref (ad 998) :: List.map (rv ad) _))
      rw [had]
      exact va_sld C.1 C.2.1 hX hb (Nat.not_le.mpr hb) hW.2.2 hi hd (hk _ _ _ _ h l p e s m b below meth c D cy ad hfl C H locs ls hl hW)
    · exact h.elim
  · exact h.elim
theorem lok_slen {X : LX} {pc : Nat} (hd : decode cL_law pc = .ok (.arraylength, 1)) : LOK X pc (op_slen X) := by
  intro kc ks k Q K L S σ hk1 hk2 h hk
  unfold op_slen at h
  split at h
  · split at h
    · rename_i ha
      have ha := Nat.eq_of_beq_eq_true ha
      subst ha
      intro l p e s m b below meth c D cy ad hfl C H locs ls hl hW
      obtain ⟨hX, hb, had, -, -⟩ := C.2.2.2.2.2.2.2.2.2
      show W p l e room_1 s m _ below meth c H locs kc ks _ (F0 m pc ls (.ref (ad 998) :: List.map (rv ad) _))
      rw [had]
      exact va_slen C.1 C.2.1 hX hb (Nat.not_le.mpr hb) hW.2.2 hd (hk _ _ _ _ h l p e s m b below meth c D cy ad hfl C H locs ls hl hW)
    · exact h.elim
  · exact h.elim
theorem lok_tsw {X : LX} {pc d len : Nat} {dflt lo hi : Int} {offs : Array Int} {ps : List (Int32 × Nat)} (hd : decode cL_law pc = .ok (.tableswitch dflt lo hi offs, len)) (he : offs.toList = ps.map (fun q => (q.2 : Int) - pc)) (hkey : ps.map (fun q => q.1.toInt) = (List.range ps.length).map (fun (i : Nat) => lo + (i : Int))) (hhi : hi = lo + ps.length - 1) (hdf : dflt = (d : Int) - pc) : LOK X pc (op_sw d ps) := by
  have key : ∀ (i : Nat) q, ps[i]? = some q → q.1.toInt = lo + i := by
    intro i q hq
    have h1 : (ps.map (fun q => q.1.toInt))[i]? = some q.1.toInt := by rw [List.getElem?_map, hq]; rfl
    rw [hkey, List.getElem?_map, List.getElem?_range (List.getElem?_eq_some_iff.mp hq).1] at h1
    exact (Option.some.inj h1).symm
  intro kc ks k Q K L S σ hk1 hk2 h hk
  unfold op_sw at h
  split at h
  · rename_i x S
    intro l p e s m b below meth c D cy ad hfl C H locs ls hl hW
    have go := hk _ _ _ _ (swc_ok h) l p e s m b below meth c D cy ad hfl C H locs ls hl hW
    by_cases ho : x.toInt < lo ∨ hi < x.toInt
    · rw [tsw_out ps lo key (by omega)] at go
      exact lv_tableOut (tgt := d) C.1 C.2.1 hd ho (by omega) go
    · have hlt : (x.toInt - lo).toNat < ps.length := by omega
      obtain ⟨q, hq⟩ : ∃ q, ps[(x.toInt - lo).toNat]? = some q := ⟨_, List.getElem?_eq_getElem hlt⟩
      rw [tsw_in (t := q.2) (v := q.1) ps lo (x.toInt - lo).toNat key hq (by omega)] at go
      refine lv_tableIn (tgt := q.2) (off := (q.2 : Int) - pc) C.1 C.2.1 hd (by omega) (by omega) ?_ (by omega) go
      rw [← Array.getElem?_toList, he, List.getElem?_map, hq]
      rfl
  · exact h.elim
def LVok (M' : Mt) (idx n : Nat) : Prop := Cond.methodLink RL idx (mY M') ∈ UW ∧ Cond.instanceMethod (mY M') ∈ UW ∧ Cond.selects (mO M') (mY M') (mY M') ∈ UW ∧ Cond.initialized (mO M') ∈ UW ∧ ((mY M').cls ≠ "java/lang/invoke/MethodHandle" ∧ (mY M').cls ≠ "java/lang/invoke/VarHandle" ∧ (parseMethodDescriptor (mY M').desc).map (fun d => d.parameters.length) = some n)
theorem llo_ok {M' : Mt} (h' : MOK M') {j : Nat} (hj : j + 1 ≤ 1300) : (rmk j).frames + 1 ≤ room_1.frames ∧ 8 + (mL M' + 11) + (rmk j).locals ≤ room_1.locals := by
  have := h'.2.2.2.2
  refine ⟨?_, ?_⟩
  · show j + 1 ≤ 2048
    omega
  · show 8 + (mL M' + 11) + 64 * j ≤ 84000
    omega
theorem Lx.pre {X : LX} {p : Program} {s : State} {m : MethodId} {b : Nat} {meth : Method} {c : Code} {D : va_G} {cy : Nat → ClassId} {ad : Nat → Nat} (C : Lx X p s m b meth c D cy ad) {σ : Sto} {H : Heap} {locs : List Loc} (hW : Wl D cy ad s.heap σ H locs) {as : List Value} {U : State} (hU : U.heap = H) (hw : s.WarmedH U.vm) : PreM D cy ad as σ (as.map (rv ad)).toArray U :=
  ⟨rfl, by rw [hU]; exact hW.1, va_K.moved hw.alike C.2.2.2.2.2.2.2.1, hW.2.1, by rw [hU]; exact (C.2.2.2.2.2.2.2.2.1.moved hw.alike).kept (fun a h1 h2 => hW.2.2.2.1 a h1 (Nat.not_le.mpr h1))⟩
theorem MOK.goodL {M' : Mt} (h' : MOK M') : GoodIn UW (mW M') := by
  intro w hw
  rw [h'.2.1] at hw
  rcases List.mem_cons.mp hw with rfl | hw
  · exact ⟨h'.2.2.2.1, UW_good h'.2.2.2.1⟩
  · exact ⟨hw, UW_good hw⟩
theorem lok_cv {X : LX} {M' : Mt} {pc idx ci n : Nat} {T : u_T} {N : Nat} (hM' : MOK M') (hc : LVok M' idx n) (hci : vwCl[ci]? = some (mO M', T, N)) (hd : decode cL_law pc = .ok (.invokevirtual idx, 3)) : LOK X pc (op_cv M' ci n) := by
  intro kc ks k Q K L S σ hk1 hk2 h hk
  unfold op_cv at h
  split at h
  · exact h.elim
  rename_i j
  split at h
  · rename_i a S' hS
    split at h
    · rename_i hb
      rw [Bool.and_eq_true] at hb
      obtain ⟨Q', hev, hgo⟩ := h
      intro l p e s m b below meth c D cy ad hfl C H locs ls hl hW
      have hlen : (S.take n).length = n := by
        rw [List.length_take]
        have : (S.drop n).length = S'.length + 1 := by rw [hS]; rfl
        rw [List.length_drop] at this
        omega
      have hst : S.map (rv ad) = (((S.take n).reverse).map (rv ad)).reverse ++ .ref (ad a) :: S'.map (rv ad) := by
        conv => lhs; rw [← List.take_append_drop n S]
        rw [List.map_append, hS, List.map_reverse, List.reverse_reverse]
        rfl
      have hG : GoodIn UW (wsV RL idx (mO M') (mY M') (mW M')) := by
        intro w hw
        rcases List.mem_append.mp hw with hw | hw
        · have hu : w ∈ UW := by
            rcases List.mem_cons.mp hw with rfl | hw
            · exact hc.1
            rcases List.mem_cons.mp hw with rfl | hw
            · exact hc.2.1
            rcases List.mem_cons.mp hw with rfl | hw
            · exact hc.2.2.1
            rcases List.mem_cons.mp hw with rfl | hw
            · exact hc.2.2.2.1
            · cases hw
          exact ⟨hu, UW_good hu⟩
        · exact hM'.goodL w hw
      have hAd : ∀ q, Aad ad q → s.heap.size ≤ q := C.2.2.2.2.2.2.2.2.2.2.2.2.1
      rw [hst]
      refine va_go (A0 := fun q => s.heap.size ≤ q) (va_runV (As := ((S.take n).reverse).map (rv ad)) (rest := S'.map (rv ad)) ⟨C.1, C.2.1, C.2.2.1, C.2.2.2.2.2.1, C.2.2.2.2.2.2.1⟩ (hev l D cy ad) (cwV n C.2.2.2.2.2.2.1 hG hM'.2.1 rfl rfl ⟨hM'.2.2.1, hc.2.2.2.2⟩ (llo_ok hM' hk1)) ⟨PreM.blind, va_recv C.2.2.2.2.2.2.2.1 hW.1 hci (ws_ob (isC_ok hb.1)), fun U hU hw => C.pre hW hU hw⟩ rfl (by rw [List.length_map, List.length_reverse, hlen]) hl.1 rfl (lv_room (by rw [cats_ok]; exact Nat.le_of_ble_eq_true hb.2)) hd hk2) hW.2.2 (fun q _ h => hAd q h) (fun q h => hAd q h) (fun v σ' H1 locs1 hq hP hD _ _ hS1 => ?_)
      have := hk _ _ _ _ (hgo v σ' hq) l p e s m b below meth c D cy ad hfl C H1 locs1 ls hl ⟨hP, hD, hS1⟩
      rw [List.map_append] at this
      cases v <;> exact this
    · exact h.elim
  · exact h.elim
