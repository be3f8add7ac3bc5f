/-! THE LAW, from its entry -/
def M_law : Mt := (RL, x, [], cL_law, 8, ret)
def lG (b L : Nat) (xs : Nat → Int32) (q n0 : Nat) : Launch → Array Value → State → va_G → (Nat → ClassId) → Prop := fun l args s D cy => l.flags = flags0 ∧ args = #[Value.ref b] ∧ n0 = s.heap.size ∧ Zf (ad0 n0 b q) s s.heap ∧ va_X b L xs s s.heap ∧ b < s.heap.size ∧ (∀ w ∈ xwL, w.before #[Value.ref b] s = true) ∧ xZq (ad0 n0 b q) s s.heap
def lZ (b L : Nat) (xs : Nat → Int32) (q n0 : Nat) : BZ := (lG b L xs q n0, fun below args s _ _ => lw_Z below args s)
section BL
variable {M : Mt} {I : Bool} {R : Room} {Z : BZ} {h0 kc ks pc : Nat} {lv : List (Nat × Value)} {w : List bA} {S : List Value}
theorem bv_ast {q : Fin 4} {i a : Nat} {lv' : List (Nat × Value)} (hd : decode (mB M) pc = .ok (.astore_n q, 1)) (hi : (q : Nat) = i) (hn : i < mL M) (hl : (i, Value.ref a) :: lv.filter (fun q => !(q.1 == i) && !(q.1 + 1 == i && q.2.category == 2)) = lv') (go : BV M I R Z h0 kc ks (pc + 1) lv' w S) : BV M I R Z h0 kc ks pc lv w (.ref a :: S) := fun l p e s m args below meth c D cy C hG H locs ls hz hls hB hS =>
  lv_astore_n C.1 C.2.1 hd hi hls hn hl (fun ls2 hl2 => go l p e s m args below meth c D cy C hG H locs ls2 hz hl2 hB hS)
theorem bv_ist {i : Nat} {v : Int32} {lv' : List (Nat × Value)} (hd : decode (mB M) pc = .ok (.istore i, 2)) (hn : i < mL M) (hl : (i, Value.int v) :: lv.filter (fun q => !(q.1 == i) && !(q.1 + 1 == i && q.2.category == 2)) = lv') (go : BV M I R Z h0 kc ks (pc + 2) lv' w S) : BV M I R Z h0 kc ks pc lv w (.int v :: S) := fun l p e s m args below meth c D cy C hG H locs ls hz hls hB hS =>
  lv_istore C.1 C.2.1 hd hls hn hl (fun ls2 hl2 => go l p e s m args below meth c D cy C hG H locs ls2 hz hl2 hB hS)
end BL
theorem ad0_lt {n0 b q a : Nat} (h : a < 84) : ad0 n0 b q a = n0 + a := by
  have e1 : Nat.beq a 998 = false := by
    cases h1 : Nat.beq a 998 with
    | false => rfl
    | true => have := Nat.eq_of_beq_eq_true h1; omega
  have e2 : Nat.beq a 999 = false := by
    cases h1 : Nat.beq a 999 with
    | false => rfl
    | true => have := Nat.eq_of_beq_eq_true h1; omega
  unfold ad0
  rw [e1, e2]
theorem bv_end {b L q n0 ks : Nat} {xs : Nat → Int32} (hL : L ≤ 2560) (hks : ks + 6 * 2561 ≤ 7293034) : BV M_law false room_1 (lZ b L xs q n0) n0 84 ks 23 [(4, .int 0), (3, .ref (n0 + 83)), (2, .ref (n0 + 52)), (1, .ref n0), (0, .ref b)] (W0 n0) [] := fun l p e s m args below meth c D cy C hG H locs ls hz hl hB hS => by
  obtain ⟨hfl, rfl, hn0, hZ, hX, hbl, hxw, hxZ⟩ := hG
  subst hn0
  have hAd : ∀ z, Aad (ad0 s.heap.size b q) z → s.heap.size ≤ z := by
    rintro z ⟨a, ha, rfl⟩
    rw [ad0_lt ha]
    omega
  have hLx : Lx (L, xs) p s m b meth c D cy (ad0 s.heap.size b q) := ⟨C.1, C.2.1, C.2.2.1, C.2.2.2.1, C.2.2.2.2.1, C.2.2.2.2.2.1, C.2.2.2.2.2.2.1, C.2.2.2.2.2.2.2.1, hZ, hX, hbl, rfl, hAd, hxw, hxZ⟩
  have hP : va_P D vwCl (wsOf cy (ad0 s.heap.size b q) s0) H := by rw [← w0_eq]; exact hB.1
  have hD1 := (wz_D (cy := cy) (h0 := s.heap.size) (w := W0 s.heap.size) (A := fun _ => True) (fun _ _ => trivial)).1
  rw [w0_eq cy s.heap.size b q] at hD1
  refine law_loop (X := (L, xs)) hL (L + 1) 0 84 ks (by show L + 1 ≤ 0 + (L + 1); omega) (Nat.zero_le _) (by omega) (by omega) s0 A0 li_0 none none none l p e s m b below meth c D cy (ad0 s.heap.size b q) hfl hLx H locs ls ⟨hl.1, hl.2.1, fun i v hv => ?_⟩ ⟨hP, ⟨hD1, fun k z hk => ?_⟩, hS⟩
  · match i, hv with
    | 0, hv => cases hv; exact hl.2.2 (0, .ref b) (by simp)
    | 1, hv => cases hv; exact hl.2.2 (1, .ref s.heap.size) (by simp)
    | 2, hv => cases hv; exact hl.2.2 (2, .ref (s.heap.size + 52)) (by simp)
    | 3, hv => cases hv; exact hl.2.2 (3, .ref (s.heap.size + 83)) (by simp)
    | 4, hv => cases hv; exact hl.2.2 (4, .int 0) (by simp)
    | 5, hv => cases hv
    | 6, hv => cases hv
    | 7, hv => cases hv
    | k + 8, hv => cases hv
  · unfold wsOf at hk
    rw [List.getElem?_mapIdx] at hk
    obtain ⟨sh, hsh, rfl⟩ := Option.map_eq_some_iff.mp hk
    exact ⟨k, (List.getElem?_eq_some_iff.mp hsh).1, rfl⟩
/-! the walk -/
theorem uw0 : (Cond.classLink RL 8 RX11) ∈ UW := inR1 _ (List.mem_of_getElem? (i := 0) rfl)
theorem uw3 : (Cond.classLink RL 23 RX12) ∈ UW := inR1 _ (List.mem_of_getElem? (i := 3) rfl)
theorem uw7 : (Cond.methodLink RL 22 yX11_init) ∈ UW := inR1 _ (List.mem_of_getElem? (i := 7) rfl)
theorem uw8 : (Cond.instanceMethod yX11_init) ∈ UW := inR1 _ (List.mem_of_getElem? (i := 8) rfl)
theorem uw135 : (Cond.methodLink RL 25 yX12_init) ∈ UW := inR6 _ (List.mem_of_getElem? (i := 15) rfl)
theorem uw136 : (Cond.instanceMethod yX12_init) ∈ UW := inR6 _ (List.mem_of_getElem? (i := 16) rfl)
set_option maxRecDepth 40000 in
set_option maxHeartbeats 4000000 in
theorem bv_law {b L q n0 : Nat} {xs : Nat → Int32} (hL : L ≤ 2560) : BV M_law false room_1 (lZ b L xs q n0) n0 0 0 0 [(0, .ref b)] [] [] := by
  refine bv_new (M := M_law) (i := 8) (C := RX11) (T := TX11) (N := 13) (ci := 11) (ty := tyX11) (fs := dfX11) (Or.inr ⟨rfl, rfl⟩) inU11 tyX11_ok uw0 uw1 uw2 rfl (by decide +kernel) (Nat.le_of_ble_eq_true rfl) (Nat.le_of_ble_eq_true rfl) (by decide +kernel) ?_
  refine bv_dup (by decide +kernel) ?_
  refine bv_ctor (M := M_law) (M' := M_X11_init) (idx := 22) mk_X11_init uw7 uw8 uw2 rfl rfl (by decide +kernel) (by decide +kernel) eb_X11 (fun _ => rfl) ⟨(Nat.le_of_ble_eq_true rfl), (Nat.le_of_ble_eq_true rfl)⟩ ⟨(Nat.le_of_ble_eq_true rfl), (Nat.le_of_ble_eq_true rfl)⟩ (Nat.le_of_ble_eq_true rfl) ?_
  refine bv_ast (M := M_law) (q := 1) (i := 1) (by decide +kernel) rfl (by decide) rfl ?_
  refine bv_new (M := M_law) (i := 23) (C := RX12) (T := TX12) (N := 47) (ci := 12) (ty := tyX12) (fs := dfX12) (Or.inl (Nat.le_of_ble_eq_true rfl)) inU12 tyX12_ok uw3 uw4 uw5 rfl (by decide +kernel) (Nat.le_of_ble_eq_true rfl) (Nat.le_of_ble_eq_true rfl) (by decide +kernel) ?_
  refine bv_dup (by decide +kernel) ?_
  refine bv_ctor (M := M_law) (M' := M_X12_init) (idx := 25) mk_X12_init uw135 uw136 uw5 rfl rfl (by decide +kernel) (by decide +kernel) eb_X12 (fun _ => rfl) ⟨(Nat.le_of_ble_eq_true rfl), (Nat.le_of_ble_eq_true rfl)⟩ ⟨(Nat.le_of_ble_eq_true rfl), (Nat.le_of_ble_eq_true rfl)⟩ (Nat.le_of_ble_eq_true rfl) ?_
  refine bv_ast (M := M_law) (q := 2) (i := 2) (by decide +kernel) rfl (by decide) rfl ?_
  refine bv_ic (n := 1) (v := 1) (by decide +kernel) (by decide +kernel) ?_
  refine bv_newa (atype := .long) (t := 4) (N := 1) (by decide) rfl uw6 (by decide) (by decide) (by decide) (Nat.le_of_ble_eq_true rfl) (Nat.le_of_ble_eq_true rfl) (by decide +kernel) ?_
  refine bv_ast (M := M_law) (q := 3) (i := 3) (by decide +kernel) rfl (by decide) rfl ?_
  refine bv_ic (n := 0) (v := 0) (by decide +kernel) (by decide +kernel) ?_
  refine bv_ist (M := M_law) (i := 4) (by decide +kernel) (by decide) rfl ?_
  exact bv_end hL (Nat.le_of_ble_eq_true rfl)
theorem whole_start {p : Program} {e : Env} {s : State} {m : MethodId} {below : List Frame} {meth : Method} {c : Code} (l : Launch) (hflags : l.flags = flags0) {b L : Nat} {xs : Nat → Int32} (hL : L ≤ 2560) (C0 : lw_At p s m meth c b L xs) : W p l e room_1 s m #[Value.ref b] below meth c s.heap [] 0 0 (lw_Z below #[Value.ref b] s) (entryFrame m ([Value.ref b] : List Value).toArray 8) := by
  obtain ⟨hx, hb, hr, hml, hown, hts, hX, hbl, hlocks, hgv⟩ := id C0
  have hU : ∀ w ∈ UW, w.before #[Value.ref b] s = true := fun w hw => hts w (wsL_law_in0 w hw)
  have hxw : ∀ w ∈ xwL, w.before #[Value.ref b] s = true := fun w hw => hts w (wsL_law_x0 w hw)
  obtain ⟨D, cy, hK⟩ := k_all hU
  obtain ⟨q, hq⟩ := z_all hts hgv
  have hA : ∀ a : Nat, a < s.heap.size → ¬ Aad (ad0 s.heap.size b q) a := by
    rintro a ha ⟨k, hk, rfl⟩
    rw [ad0_lt hk] at ha
    omega
  obtain ⟨z1, z2, z3⟩ := hq (Aad (ad0 s.heap.size b q)) hA
  have hl := lv_entry ([.ref b]) (n := 8) (Nat.le_of_ble_eq_true rfl)
  rw [lg_entry_eq]
  exact bv_law (b := b) (L := L) (q := q) (n0 := s.heap.size) (xs := xs) hL l p e s m #[Value.ref b] below meth c D cy ⟨hx, hb, hml, hr, hlocks, hown, hU, hK, (fun z => nomatch z), nL_s hts⟩ ⟨hflags, rfl, rfl, z1, hX, hbl, hxw, z2, z3, xB_s hts⟩ s.heap [] _ rfl hl ⟨fun k z hk => by simp [wz] at hk, rfl⟩ va_S.rf
