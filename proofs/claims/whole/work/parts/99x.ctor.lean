/-! constructors: the object at h0, the last cell, becomes the block blk h0 -/
def rmb (kf mc ms : Nat) : Room := { frames := kf, cells := mc, slots := ms, locals := 64 * kf }
def PreB (D : va_G) (cy : Nat → ClassId) (h0 ci : Nat) (fs0 : List Value) : Array Value → State → Prop := va_Pc [.ref h0] (fun U => BW D cy h0 [.inr (ci, fs0)] U.heap ∧ va_K D vwCl (tysOf cy) U ∧ ∀ w ∈ nL, va_Nw w U)
def QB (D : va_G) (cy : Nat → ClassId) (h0 : Nat) (w : List bA) : Array Value → State → Outcome → State → Prop := fun _ st o t => (o = .returned none ∧ BW D cy h0 w t.heap) ∧ va_F (fun q => h0 ≤ q) st t
def EvB (M : Mt) (ci : Nat) (fs0 : List Value) (blk : Nat → List bA) (kf mc ms : Nat) : Prop := ∀ (l : Launch) (D : va_G) (cy : Nat → ClassId) (h0 : Nat), Met l (mY M) (mW M) (rmb kf mc ms) (PreB D cy h0 ci fs0) (QB D cy h0 (blk h0)) mc ms (fun q => h0 ≤ q)
def bZ (h0 mc ms : Nat) (w : List bA) : BZ := (fun _ _ _ _ _ => True, fun below args s D cy => MQ below (QB D cy h0 w) args s mc ms (fun q => h0 ≤ q))
theorem PreB.blind {D : va_G} {cy : Nat → ClassId} {h0 ci : Nat} {fs0 : List Value} : FrameBlind (PreB D cy h0 ci fs0) := fun a U g mk q => by
  obtain ⟨q0, q1, q2, q3⟩ := q
  exact ⟨q0, q1, va_K.moved (u := U) (U := U.calling g mk a) (Vm.Alike.refl U.vm) q2, nN_warm (s := U) (U := U.calling g mk a) (State.WarmedH.refl U) q3⟩
theorem EvB.of {M : Mt} {ci : Nat} {fs0 : List Value} {blk : Nat → List bA} {kf mc ms : Nat} (hM : MOK M) (hn : (mY M).name = "<init>") (hL : mL M = 1) (h : ∀ h0, BV M true (rmb kf mc ms) (bZ h0 mc ms (blk h0)) h0 0 0 0 [(0, .ref h0)] [.inr (ci, fs0)] []) : EvB M ci fs0 blk kf mc ms := by
  intro l D cy h0
  refine Met.ofW (cc := mB M) (maxL := mL M) (ret := mR M) hM.1 hM.2.1 ?_
  intro p e s m args' below meth c s₁ B hml hv
  obtain ⟨rfl, hB, hK, hN⟩ := hv
  have hown : s.vm.findClass (mO M) = some m.cls := hM.2.2.1 ▸ findClass_of_methodNamed B.named
  have hin : meth.name = "<init>" := (name_of_methodNamed B.named B.method).1.trans hn
  have hts := atoms_spec (ws := mW M) B.pre
  have hl := lv_entry ([.ref h0]) (n := mL M) (by rw [hL]; exact Nat.le_of_ble_eq_true rfl)
  rw [lg_entry_eq]
  exact h h0 l p e s m _ below meth c D cy ⟨B.exec, B.bytes, hml, B.returns, B.notSynchronized, hown, fun w hw => hts w (by rw [hM.2.1]; exact List.mem_cons_of_mem _ hw), hK, fun _ => hin, hN⟩ trivial s.heap [] _ (by rw [hB.2]; rfl) hl hB va_S.rf
theorem wz_app {cy : Nat → ClassId} {h0 : Nat} {w b : List bA} : wz cy h0 (w ++ b) = wz cy h0 w ++ wz cy (h0 + w.length) b := by
  unfold wz
  rw [List.mapIdx_append]
  congr 1
  congr 1
  funext i e
  rw [show h0 + (i + w.length) = h0 + w.length + i by omega]
section BC
variable {M : Mt} {I : Bool} {R : Room} {Z : BZ} {h0 kc ks pc : Nat} {lv : List (Nat × Value)} {w : List bA} {S : List Value}
theorem bv_ret {mc ms : Nat} (hr : mR M = none) (hd : decode (mB M) pc = .ok (.return_, 1)) (hc : kc ≤ mc) (hs : ks ≤ ms) : BV M I R (bZ h0 mc ms w) h0 kc ks pc lv w [] := fun l p e s m args below meth c D cy C hG H locs ls hz hl hB hS => by
  refine W.widen hc hs ?_
  have hlk : meth.locks = false := C.2.2.2.2.1
  exact W.vret C.1 C.2.1 (C.2.2.2.1.trans hr) (fun t ht hW => ⟨⟨rfl, by rw [ht]; exact hB⟩, hS.F ht⟩) hS.2.2 hd hlk
theorem bv_ctor {M' : Mt} {ci idx kf mc ms : Nat} {fs0 : List Value} {blk : Nat → List bA} (hM' : MOK M') (h1 : Cond.methodLink (mO M) idx (mY M') ∈ UW) (h2 : Cond.instanceMethod (mY M') ∈ UW) (h3 : Cond.initialized (mY M').cls ∈ UW) (hn : (mY M').name = "<init>") (hr : mR M' = none) (hdesc : (mY M').cls ≠ "java/lang/invoke/MethodHandle" ∧ (mY M').cls ≠ "java/lang/invoke/VarHandle" ∧ (parseMethodDescriptor (mY M').desc).map (fun d => d.parameters.length) = some 0) (hd : decode (mB M) pc = .ok (.invokespecial idx, 3)) (hev : EvB M' ci fs0 blk kf mc ms) (hlen : ∀ q, (blk q).length = mc + 1) (hR : kf + 1 ≤ R.frames ∧ 64 * (kf + 1) ≤ R.locals) (hc : kc + mc ≤ R.cells ∧ ks + ms ≤ R.slots) (hS8 : (S.map fun v => v.category).sum ≤ 8) (go : BV M I R Z h0 (kc + mc) (ks + ms) (pc + 3) lv (w ++ blk (h0 + w.length)) S) : BV M I R Z h0 kc ks pc lv (w ++ [.inr (ci, fs0)]) (.ref (h0 + w.length) :: S) := fun l p e s m args below meth c D cy C hG H locs ls hz hl hB hS => by
  have h45 := hM'.2.2.2.2
  have hsz : H.size = h0 + w.length + 1 := by rw [hB.2, List.length_append]; rfl
  have hP := hB.1
  rw [wz_app] at hP
  have hP1 : va_P D vwCl (wz cy h0 w) H := fun k q hk => hP k q (by rw [List.getElem?_append_left (List.getElem?_eq_some_iff.mp hk).1]; exact hk)
  have hP2 : va_P D vwCl (wz cy (h0 + w.length) [.inr (ci, fs0)]) H := fun k q hk => hP ((wz cy h0 w).length + k) q (by rw [List.getElem?_append_right (by omega), Nat.add_sub_cancel_left]; exact hk)
  have hrun := va_runI (H := H) (locs := locs) (cells := kc) (slots := ks) (below := below) (As := []) (b := h0 + w.length) (rest := S) (g := F0 m pc ls (.ref (h0 + w.length) :: S)) (meth := meth) (e := e) (R := R) (y := mY M') (bytes := mB M') (maxL := mL M') (ws := mW M') (rm := rmb kf mc ms) ⟨C.1, C.2.1, C.2.2.1, C.2.2.2.2.2.1, C.2.2.2.2.2.2.1⟩ (hev l D cy (h0 + w.length)) (cwI 0 C.2.2.2.2.2.2.1 hM'.goodL (by rw [hM'.2.1, hr]) rfl rfl (C.2.2.2.2.2.2.1 _ h3) (C.2.2.2.2.2.2.1 _ h1) (C.2.2.2.2.2.2.1 _ h2) hn hdesc ⟨hR.1, by show 8 + (mL M' + 11) + 64 * kf ≤ R.locals; omega⟩) ⟨PreB.blind, fun U hU hw => ⟨rfl, ⟨by rw [hU]; exact hP2, by rw [hU]; exact hsz⟩, va_K.moved hw.alike C.2.2.2.2.2.2.2.1, nN_warm hw C.2.2.2.2.2.2.2.2.2⟩⟩ rfl rfl hl.1 rfl (lv_room hS8) hd hc
  intro T hT X
  obtain ⟨v, st₀, t, T', Lo, e0, X', hL, e1, e2, ⟨⟨hv, hBt⟩, hF⟩, st⟩ := hrun T hT X
  cases hv
  have hF1 := hF.1
  have hF2 := hF.2
  rw [e0] at hF1 hF2
  rw [← e1] at hBt hF1 hF2
  have hk : ∀ (k : Nat) (x : Nat × va_E), (wz cy h0 w)[k]? = some x → T'.heap[x.1]? = H[x.1]? := by
    intro k x hx
    refine hF2 x.1 (hP1 k x hx).lt ?_
    rw [wz_at] at hx
    obtain ⟨a, ha, rfl⟩ := Option.map_eq_some_iff.mp hx
    have := (List.getElem?_eq_some_iff.mp ha).1
    show ¬ h0 + w.length ≤ h0 + k
    omega
  have hB' : BW D cy h0 (w ++ blk (h0 + w.length)) T'.heap := ⟨by rw [wz_app]; exact (hP1.kept hk).app hBt.1, by rw [hBt.2, List.length_append]; omega⟩
  have hS' : va_S (fun q => h0 ≤ q) s.heap T'.heap (locs ++ Lo) := by
    refine ⟨Nat.le_trans hS.1 hF1, fun q g1 g2 => ?_, fun q hq => ?_⟩
    · rw [hF2 q (Nat.lt_of_lt_of_le g1 hS.1) (fun z => g2 (by have z' : h0 + w.length ≤ q := z; show h0 ≤ q; omega))]
      exact hS.2.1 q g1 g2
    · rcases List.mem_append.mp hq with g | g
      · exact hS.2.2 q g
      · have z : h0 + w.length ≤ q.base := hL q g
        show h0 ≤ q.base
        omega
  have hz' : s.heap.size + (kc + mc) = h0 + (w ++ blk (h0 + w.length)).length := by
    rw [List.length_append] at hz ⊢
    rw [hlen]
    have : s.heap.size + kc = h0 + (w.length + 1) := hz
    omega
  obtain ⟨t2, a1, b1⟩ := go l p e s m args below meth c D cy C hG T'.heap (locs ++ Lo) ls hz' hl hB' hS' T' rfl X'
  exact ⟨t2, st t2 a1, b1⟩
theorem bv_ctorN {M' : Mt} {ci idx kf mc ms : Nat} {fs0 : List Value} {blk : Nat → List bA} (hM' : MOK M') (ho : mO M = RX11) (h1 : Cond.methodLinkNest RX11 idx (mY M') RX11 ∈ nL) (h2 : Cond.instanceMethod (mY M') ∈ UW) (h3 : Cond.initialized (mY M').cls ∈ UW) (hn : (mY M').name = "<init>") (hr : mR M' = none) (hdesc : (mY M').cls ≠ "java/lang/invoke/MethodHandle" ∧ (mY M').cls ≠ "java/lang/invoke/VarHandle" ∧ (parseMethodDescriptor (mY M').desc).map (fun d => d.parameters.length) = some 0) (hd : decode (mB M) pc = .ok (.invokespecial idx, 3)) (hev : EvB M' ci fs0 blk kf mc ms) (hlen : ∀ q, (blk q).length = mc + 1) (hR : kf + 1 ≤ R.frames ∧ 64 * (kf + 1) ≤ R.locals) (hc : kc + mc ≤ R.cells ∧ ks + ms ≤ R.slots) (hS8 : (S.map fun v => v.category).sum ≤ 8) (go : BV M I R Z h0 (kc + mc) (ks + ms) (pc + 3) lv (w ++ blk (h0 + w.length)) S) : BV M I R Z h0 kc ks pc lv (w ++ [.inr (ci, fs0)]) (.ref (h0 + w.length) :: S) := fun l p e s m args below meth c D cy C hG H locs ls hz hl hB hS => by
  have h45 := hM'.2.2.2.2
  have hsz : H.size = h0 + w.length + 1 := by rw [hB.2, List.length_append]; rfl
  have hP := hB.1
  rw [wz_app] at hP
  have hP1 : va_P D vwCl (wz cy h0 w) H := fun k q hk => hP k q (by rw [List.getElem?_append_left (List.getElem?_eq_some_iff.mp hk).1]; exact hk)
  have hP2 : va_P D vwCl (wz cy (h0 + w.length) [.inr (ci, fs0)]) H := fun k q hk => hP ((wz cy h0 w).length + k) q (by rw [List.getElem?_append_right (by omega), Nat.add_sub_cancel_left]; exact hk)
  have hrun := va_runIN (host := RX11) (own := RX11) (H := H) (locs := locs) (cells := kc) (slots := ks) (below := below) (As := []) (b := h0 + w.length) (rest := S) (g := F0 m pc ls (.ref (h0 + w.length) :: S)) (meth := meth) (e := e) (R := R) (y := mY M') (bytes := mB M') (maxL := mL M') (ws := mW M') (rm := rmb kf mc ms) ⟨C.1, C.2.1, C.2.2.1, ho ▸ C.2.2.2.2.2.1, C.2.2.2.2.2.2.1⟩ (hev l D cy (h0 + w.length)) ⟨va_cnB 0 C.2.2.2.2.2.2.1 hM'.goodL (by rw [hM'.2.1, hr]) rfl rfl (C.2.2.2.2.2.2.2.2.2 _ h1) (C.2.2.2.2.2.2.1 _ h3) hdesc ⟨hR.1, by show 8 + (mL M' + 11) + 64 * kf ≤ R.locals; omega⟩, hn, C.2.2.2.2.2.2.1 _ h2⟩ ⟨PreB.blind, fun U hU hw => ⟨rfl, ⟨by rw [hU]; exact hP2, by rw [hU]; exact hsz⟩, va_K.moved hw.alike C.2.2.2.2.2.2.2.1, nN_warm hw C.2.2.2.2.2.2.2.2.2⟩⟩ rfl rfl hl.1 rfl (lv_room hS8) hd hc
  intro T hT X
  obtain ⟨v, st₀, t, T', Lo, e0, X', hL, e1, e2, ⟨⟨hv, hBt⟩, hF⟩, st⟩ := hrun T hT X
  cases hv
  have hF1 := hF.1
  have hF2 := hF.2
  rw [e0] at hF1 hF2
  rw [← e1] at hBt hF1 hF2
  have hk : ∀ (k : Nat) (x : Nat × va_E), (wz cy h0 w)[k]? = some x → T'.heap[x.1]? = H[x.1]? := by
    intro k x hx
    refine hF2 x.1 (hP1 k x hx).lt ?_
    rw [wz_at] at hx
    obtain ⟨a, ha, rfl⟩ := Option.map_eq_some_iff.mp hx
    have := (List.getElem?_eq_some_iff.mp ha).1
    show ¬ h0 + w.length ≤ h0 + k
    omega
  have hB' : BW D cy h0 (w ++ blk (h0 + w.length)) T'.heap := ⟨by rw [wz_app]; exact (hP1.kept hk).app hBt.1, by rw [hBt.2, List.length_append]; omega⟩
  have hS' : va_S (fun q => h0 ≤ q) s.heap T'.heap (locs ++ Lo) := by
    refine ⟨Nat.le_trans hS.1 hF1, fun q g1 g2 => ?_, fun q hq => ?_⟩
    · rw [hF2 q (Nat.lt_of_lt_of_le g1 hS.1) (fun z => g2 (by have z' : h0 + w.length ≤ q := z; show h0 ≤ q; omega))]
      exact hS.2.1 q g1 g2
    · rcases List.mem_append.mp hq with g | g
      · exact hS.2.2 q g
      · have z : h0 + w.length ≤ q.base := hL q g
        show h0 ≤ q.base
        omega
  have hz' : s.heap.size + (kc + mc) = h0 + (w ++ blk (h0 + w.length)).length := by
    rw [List.length_append] at hz ⊢
    rw [hlen]
    have : s.heap.size + kc = h0 + (w.length + 1) := hz
    omega
  obtain ⟨t2, a1, b1⟩ := go l p e s m args below meth c D cy C hG T'.heap (locs ++ Lo) ls hz' hl hB' hS' T' rfl X'
  exact ⟨t2, st t2 a1, b1⟩
end BC
