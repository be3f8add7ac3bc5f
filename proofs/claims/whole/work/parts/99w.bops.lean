/-! the instructions that build -/
abbrev BZ : Type := (Launch → Array Value → State → va_G → (Nat → ClassId) → Prop) × (List Frame → Array Value → State → va_G → (Nat → ClassId) → State → Prop)
def nLi : List (Nat × MethodName) := [(9, yX8_init), (18, yX9_init), (25, yX2_init), (35, yX6_init), (42, yX3_init), (49, yX10_init), (56, yX0_init), (63, yX1_init), (70, yX7_init), (77, yX4_init)]
def nL : List Cond := nLi.map (fun q => Cond.methodLinkNest RX11 q.1 q.2 RX11)
theorem nN_warm {s U : State} (hW : s.WarmedH U.vm) (h : ∀ w ∈ nL, va_Nw w s) : ∀ w ∈ nL, va_Nw w U := by
  intro w hw
  obtain ⟨q, hq, rfl⟩ := List.mem_map.mp hw
  exact va_Nw.warmM hW (h _ hw)
def Bx (M : Mt) (I : Bool) (p : Program) (s : State) (m : MethodId) (args : Array Value) (meth : Method) (c : Code) (D : va_G) (cy : Nat → ClassId) : Prop :=
  p.tables.exec = Jvm.exec ∧ c.code = mB M ∧ c.maxLocals = mL M ∧ meth.sig.returnType = mR M ∧ meth.locks = false ∧ s.vm.findClass (mO M) = some m.cls ∧ (∀ w ∈ UW, w.before args s = true) ∧ va_K D vwCl (tysOf cy) s ∧ (I = true → meth.name = "<init>") ∧ ∀ w ∈ nL, va_Nw w s
def BV (M : Mt) (I : Bool) (R : Room) (Z : BZ) (h0 kc ks pc : Nat) (lv : List (Nat × Value)) (w : List bA) (S : List Value) : Prop :=
  ∀ (l : Launch) (p : Program) (e : Env) (s : State) (m : MethodId) (args : Array Value) (below : List Frame) (meth : Method) (c : Code) (D : va_G) (cy : Nat → ClassId), Bx M I p s m args meth c D cy → Z.1 l args s D cy →
    ∀ (H : Heap) (locs : List Loc) (ls : Array Slot), s.heap.size + kc = h0 + w.length → lv_has ls (mL M) lv → BW D cy h0 w H → va_S (fun q => h0 ≤ q) s.heap H locs →
      W p l e R s m args below meth c H locs kc ks (Z.2 below args s D cy) (F0 m pc ls S)
theorem W.sized {p : Program} {l : Launch} {e : Env} {R : Room} {s : State} {m : MethodId} {args : Array Value} {below : List Frame} {meth : Method} {c : Code} {H : Heap} {locs : List Loc} {cells slots : Nat} {Q : State → Prop} {g : JFrame} (kk : H.size ≤ s.heap.size + cells → W p l e R s m args below meth c H locs cells slots Q g) : W p l e R s m args below meth c H locs cells slots Q g := fun T hT X => kk (by rw [← hT]; exact X.same.2.2.1) T hT X
theorem bw_low {D : va_G} {cy : Nat → ClassId} {h0 : Nat} {w : List bA} {H : Heap} (h : va_P D vwCl (wz cy h0 w) H) (hw : 0 < w.length) : h0 + w.length ≤ H.size := by
  obtain ⟨e, he⟩ : ∃ e, w[w.length - 1]? = some e := ⟨_, List.getElem?_eq_getElem (by omega)⟩
  have := (h (w.length - 1) _ (by rw [wz_at, he]; rfl)).lt
  have h2 : h0 + (w.length - 1) < H.size := this
  omega
section BO
variable {M : Mt} {I : Bool} {R : Room} {Z : BZ} {h0 kc ks pc : Nat} {lv : List (Nat × Value)} {w : List bA} {S : List Value}
theorem bv_ald (k : Nat) {q : Fin 4} {i a : Nat} (hd : decode (mB M) pc = .ok (.aload_n q, 1)) (hi : (q : Nat) = i) (hk : lv[k]? = some (i, .ref a)) (go : BV M I R Z h0 kc ks (pc + 1) lv w (.ref a :: S)) : BV M I R Z h0 kc ks pc lv w S := fun l p e s m args below meth c D cy C hG H locs ls hz hl hB hS =>
  lv_aload_n C.1 C.2.1 hd hi (lv_at hl k hk) (go l p e s m args below meth c D cy C hG H locs ls hz hl hB hS)
theorem bv_bi {n : Int} {v : Int32} (hd : decode (mB M) pc = .ok (.bipush n, 2)) (hv : (Int8.ofInt n).toInt32 = v) (go : BV M I R Z h0 kc ks (pc + 2) lv w (.int v :: S)) : BV M I R Z h0 kc ks pc lv w S := fun l p e s m args below meth c D cy C hG H locs ls hz hl hB hS =>
  lv_bipush C.1 C.2.1 hd hv (go l p e s m args below meth c D cy C hG H locs ls hz hl hB hS)
theorem bv_si {n : Int} {v : Int32} (hd : decode (mB M) pc = .ok (.sipush n, 3)) (hv : (Int16.ofInt n).toInt32 = v) (go : BV M I R Z h0 kc ks (pc + 3) lv w (.int v :: S)) : BV M I R Z h0 kc ks pc lv w S := fun l p e s m args below meth c D cy C hG H locs ls hz hl hB hS =>
  lv_sipush C.1 C.2.1 hd hv (go l p e s m args below meth c D cy C hG H locs ls hz hl hB hS)
theorem bv_ic {n : Int} {v : Int32} (hd : decode (mB M) pc = .ok (.iconst n, 1)) (hv : Int32.ofInt n = v) (go : BV M I R Z h0 kc ks (pc + 1) lv w (.int v :: S)) : BV M I R Z h0 kc ks pc lv w S := fun l p e s m args below meth c D cy C hG H locs ls hz hl hB hS =>
  lv_iconst C.1 C.2.1 hd hv (go l p e s m args below meth c D cy C hG H locs ls hz hl hB hS)
theorem bv_dup {a : Nat} (hd : decode (mB M) pc = .ok (.dup, 1)) (go : BV M I R Z h0 kc ks (pc + 1) lv w (.ref a :: .ref a :: S)) : BV M I R Z h0 kc ks pc lv w (.ref a :: S) := fun l p e s m args below meth c D cy C hG H locs ls hz hl hB hS =>
  lv_dup C.1 C.2.1 hd rfl (go l p e s m args below meth c D cy C hG H locs ls hz hl hB hS)
theorem bv_newa {atype : ArrayType} {t N : Nat} {n : Int32} (ht : t < 5) (hty : newarray.typeOf atype = bT t) (harr : Cond.arrayClass (newarray.typeOf atype) ∈ UW) (hn : ¬ n < 0) (hN : n.toNatClampNeg = N) (hN2 : N ≤ 10000) (hc : kc + 1 ≤ R.cells) (hs : ks + N ≤ R.slots) (hd : decode (mB M) pc = .ok (.newarray atype, 2)) (go : BV M I R Z h0 (kc + 1) (ks + N) (pc + 2) lv (w ++ [.inl (t, N, fun _ => 0)]) (.ref (h0 + w.length) :: S)) : BV M I R Z h0 kc ks pc lv w (.int n :: S) := fun l p e s m args below meth c D cy C hG H locs ls hz hl hB hS =>
  b_newa C.1 C.2.1 ht hty (C.2.2.2.2.2.2.1 _ harr) C.2.2.2.2.2.2.2.1 hB hS hn hN hN2 hc hs hd (fun H1 hB1 hS1 => go l p e s m args below meth c D cy C hG H1 locs ls (by rw [List.length_append]; show s.heap.size + (kc + 1) = h0 + (w.length + 1); omega) hl hB1 hS1)
theorem bv_put (k : Nat) {i ci j a : Nat} {C : String} {T : u_T} {N : Nat} {ty0 : Nat → FieldType} {ty : FieldType} {fs : List Value} (hF : FOK M i ci j C T N) (hT : TOK T N j ty0 ty) (hw : w[k]? = some (.inr (ci, fs))) (hn : narrow ty (.ref a) = .ref a) (hfit : fits ty (.ref a) = true) (hl : j < fs.length) (hd : decode (mB M) pc = .ok (.putfield i, 3)) (go : BV M I R Z h0 kc ks (pc + 3) lv (w.set k (.inr (ci, fs.set j (.ref a)))) S) : BV M I R Z h0 kc ks pc lv w (.ref a :: .ref (h0 + k) :: S) := fun l p e s m args below meth c D cy C hG H locs ls hz hls hB hS => by
  refine va_put C.1 C.2.1 C.2.2.2.2.2.2.1 hF.2.2.2 ty0 hT.1 hT.2.1 C.2.2.2.2.2.1 C.2.2.2.2.2.2.2.1 hB.1 (wz_D (fun _ h => h)) hS k (by rw [wz_at, hw]; rfl) hF.1 j hF.2.1 (C.2.2.2.2.2.2.1 _ hF.2.2.1) (fun _ h9 => h9) hT.2.2.1 hT.2.2.2 hn hfit hl hd (fun H1 locs1 hP1 hD1 hS1 => ?_)
  have hlen : 0 < w.length := by have := (List.getElem?_eq_some_iff.mp hw).1; omega
  refine W.sized (fun hsz => ?_)
  have hP2 : va_P D vwCl (wz cy h0 (w.set k (.inr (ci, fs.set j (.ref a))))) H1 := by rw [← wz_set]; exact hP1
  have hlow := bw_low hP2 (by rw [List.length_set]; exact hlen)
  rw [List.length_set] at hlow
  exact go l p e s m args below meth c D cy C hG H1 locs1 ls (by rw [List.length_set]; exact hz) hls ⟨hP2, by rw [List.length_set]; omega⟩ hS1
theorem bv_putF (k : Nat) {i ci j a : Nat} {C : String} {T : u_T} {N : Nat} {ty0 : Nat → FieldType} {ty : FieldType} {fs : List Value} (hI : I = true) (hF : FOK M i ci j C T N) (hty : ∀ k, k < N → parseFieldDescriptor (T k).2.2.1 = some (ty0 k)) (hnm : ∀ a, a < N → ∀ b, b < N → a ≠ b → (T a).2.1 ≠ (T b).2.1) (hfin : (T j).2.2.2 = true) (hdecl : (T j).1 = mO M) (hpty : parseFieldDescriptor (T j).2.2.1 = some ty) (hw : w[k]? = some (.inr (ci, fs))) (hn : narrow ty (.ref a) = .ref a) (hfit : fits ty (.ref a) = true) (hl : j < fs.length) (hd : decode (mB M) pc = .ok (.putfield i, 3)) (go : BV M I R Z h0 kc ks (pc + 3) lv (w.set k (.inr (ci, fs.set j (.ref a)))) S) : BV M I R Z h0 kc ks pc lv w (.ref a :: .ref (h0 + k) :: S) := fun l p e s m args below meth c D cy C hG H locs ls hz hls hB hS => by
  refine va_putF C.1 C.2.1 C.2.2.2.2.2.2.1 hF.2.2.2 ty0 hty hnm C.2.2.2.2.2.1 C.2.2.2.2.2.2.2.1 hB.1 (wz_D (fun _ h => h)) hS k (by rw [wz_at, hw]; rfl) hF.1 j hF.2.1 (C.2.2.2.2.2.2.1 _ hF.2.2.1) (fun _ h9 => h9) hfin (C.2.2.2.2.2.2.2.2.1 hI) hdecl hpty hn hfit hl hd (fun H1 locs1 hP1 hD1 hS1 => ?_)
  have hlen : 0 < w.length := by have := (List.getElem?_eq_some_iff.mp hw).1; omega
  refine W.sized (fun hsz => ?_)
  have hP2 : va_P D vwCl (wz cy h0 (w.set k (.inr (ci, fs.set j (.ref a))))) H1 := by rw [← wz_set]; exact hP1
  have hlow := bw_low hP2 (by rw [List.length_set]; exact hlen)
  rw [List.length_set] at hlow
  exact go l p e s m args below meth c D cy C hG H1 locs1 ls (by rw [List.length_set]; exact hz) hls ⟨hP2, by rw [List.length_set]; omega⟩ hS1
theorem bv_oinit {idx : Nat} (h1 : Cond.methodLink (mO M) idx objectInit ∈ UW) (h2 : Cond.instanceMethod objectInit ∈ UW) (h3 : Cond.code objectInit ⟨#[0xb1]⟩ 1 none ∈ UW) {a : Nat} (hd : decode (mB M) pc = .ok (.invokespecial idx, 3)) (hf : 1 ≤ R.frames) (hlo : 12 ≤ R.locals) (go : BV M I R Z h0 kc ks (pc + 3) lv w []) : BV M I R Z h0 kc ks pc lv w [.ref a] := fun l p e s m args below meth c D cy C hG H locs ls hz hl hB hS => by
  refine W.objInit C.1 C.2.1 C.2.2.2.2.2.1 (C.2.2.2.2.2.2.1 _ h1) (C.2.2.2.2.2.2.1 _ h2) (C.2.2.2.2.2.2.1 _ h3) rfl (by rw [C.2.2.1]; exact hl.1) rfl hd hf hlo ?_
  exact W.eq (g2 := F0 m (pc + 3) ls []) rfl (go l p e s m args below meth c D cy C hG H locs ls hz hl hB hS)
theorem bv_new {C : String} {T : u_T} {N ci i : Nat} {ty : Nat → FieldType} {fs : List Value} (hw : 0 < w.length ∨ kc = 0 ∧ w = []) (hin : ∀ w ∈ u_ws C T N, w ∈ UW) (hty : ∀ k, k < N → parseFieldDescriptor (T k).2.2.1 = some (ty k)) (h1 : Cond.classLink (mO M) i C ∈ UW) (h2 : Cond.instantiable C N ∈ UW) (h3 : Cond.initialized C ∈ UW) (hci : vwCl[ci]? = some (C, T, N)) (hfs : ∀ j, j < N → defaultValue (ty j) = vp_V fs j) (hc : kc + 1 ≤ R.cells) (hs : ks + N ≤ R.slots) (hd : decode (mB M) pc = .ok (.new i, 3)) (go : BV M I R Z h0 (kc + 1) (ks + N) (pc + 3) lv (w ++ [.inr (ci, fs)]) (.ref (h0 + w.length) :: S)) : BV M I R Z h0 kc ks pc lv w S := fun l p e s m args below meth c D cy B hG H locs ls hz hl hB hS => by
  have hKn := B.2.2.2.2.2.2.2.1.1 ci _ hci
  refine W.newcK B.1 B.2.1 B.2.2.2.2.2.1 (B.2.2.2.2.2.2.1 _ h1) (B.2.2.2.2.2.2.1 _ h2) (B.2.2.2.2.2.2.1 _ h3) rfl hd hc hs hKn.2.1 hB.2 fun H1 kC hkC e1 z1 o1 => ?_
  have hk : ∀ (k : Nat) (x : Nat × va_E), (wz cy h0 w)[k]? = some x → H1[x.1]? = H[x.1]? := fun k x hx => o1 x.1 (by have := (hB.1 k x hx).lt; rw [hB.2] at this; exact this)
  refine go l p e s m args below meth c D cy B hG H1 locs ls (by rw [List.length_append]; show s.heap.size + (kc + 1) = h0 + (w.length + 1); omega) hl ⟨?_, by rw [z1, List.length_append]; rfl⟩ ⟨Nat.le_trans hS.1 (by rw [z1, hB.2]; omega), fun x h1 h2 => (o1 x (by have := Nat.lt_of_lt_of_le h1 hS.1; rw [hB.2] at this; exact this)).trans (hS.2.1 x h1 h2), hS.2.2⟩
  rw [wz_push]
  refine (hB.1.kept hk).app (fun k x hx => ?_)
  have hz : k < 1 := (List.getElem?_eq_some_iff.mp hx).1
  rw [show k = 0 by omega] at hx
  cases hx
  exact ⟨_, hci, (u_born ty B.2.2.2.2.2.2.1 hin hKn hkC e1 hty).to hfs⟩
end BO
