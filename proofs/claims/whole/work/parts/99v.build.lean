/-! BUILDING: from the cell h0 on the heap is exactly the world w -/
abbrev bA : Type := (Nat × Nat × (Nat → Int32)) ⊕ (Nat × List Value)
def bE (cy : Nat → ClassId) (e : bA) : va_E := match e with
  | .inl (t, n, f) => if t = 4 then .inl (cy 4, n, .inr (.inl (fun _ => 0))) else .inl (cy t, n, .inl f)
  | .inr (ci, fs) => .inr (ci, fs)
def wz (cy : Nat → ClassId) (h0 : Nat) (w : List bA) : va_W := w.mapIdx (fun k e => (h0 + k, bE cy e))
theorem wz_at {cy : Nat → ClassId} {h0 : Nat} {w : List bA} {k : Nat} : (wz cy h0 w)[k]? = (w[k]?).map (fun e => (h0 + k, bE cy e)) := by
  unfold wz
  rw [List.getElem?_mapIdx]
theorem wz_len {cy : Nat → ClassId} {h0 : Nat} {w : List bA} : (wz cy h0 w).length = w.length := by simp [wz]
theorem wz_push {cy : Nat → ClassId} {h0 : Nat} {w : List bA} {e : bA} : wz cy h0 (w ++ [e]) = wz cy h0 w ++ [(h0 + w.length, bE cy e)] := by
  unfold wz
  rw [List.mapIdx_append]
  simp
theorem wz_set {cy : Nat → ClassId} {h0 : Nat} {w : List bA} {k : Nat} {e : bA} : (wz cy h0 w).set k (h0 + k, bE cy e) = wz cy h0 (w.set k e) := by
  apply List.ext_getElem?
  intro i
  rw [List.getElem?_set, wz_at, wz_at, List.getElem?_set, wz_len]
  by_cases h : k = i
  · subst h
    rw [if_pos rfl, if_pos rfl]
    by_cases hl : k < w.length
    · rw [if_pos hl, if_pos hl]; rfl
    · rw [if_neg hl, if_neg hl]; rfl
  · rw [if_neg h, if_neg h]
theorem wz_D {cy : Nat → ClassId} {h0 : Nat} {w : List bA} {A : Nat → Prop} (hA : ∀ q, h0 ≤ q → A q) : va_D A (wz cy h0 w) := by
  refine ⟨fun i j p q hi hj e => ?_, fun k q hk => ?_⟩
  · rw [wz_at] at hi hj
    obtain ⟨a, -, rfl⟩ := Option.map_eq_some_iff.mp hi
    obtain ⟨b, -, rfl⟩ := Option.map_eq_some_iff.mp hj
    have : h0 + i = h0 + j := e
    omega
  · rw [wz_at] at hk
    obtain ⟨a, -, rfl⟩ := Option.map_eq_some_iff.mp hk
    exact hA _ (Nat.le_add_right _ _)
def BW (D : va_G) (cy : Nat → ClassId) (h0 : Nat) (w : List bA) (H : Heap) : Prop := va_P D vwCl (wz cy h0 w) H ∧ H.size = h0 + w.length
def bT : Nat → FieldType := fun t => match t with
  | 0 => .int
  | 1 => .byte
  | 2 => .char
  | 3 => .boolean
  | _ => .long
section BS
variable {p : Program} {l : Launch} {e : Env} {R : Room} {s : State} {m : MethodId} {args : Array Value} {below : List Frame} {meth : Method} {c : Code} {H H0 : Heap} {locs : List Loc} {cells slots : Nat} {Q : State → Prop} {cc : ByteArray} {pc : Nat} {ls : Array Slot} {rest : List Value}
variable {D : va_G} {cy : Nat → ClassId} {h0 : Nat} {w : List bA}
theorem b_newa (hexec : p.tables.exec = Jvm.exec) (hb : c.code = cc) {atype : ArrayType} {t : Nat} (ht : t < 5) (hty : newarray.typeOf atype = bT t) (harr : (Cond.arrayClass (newarray.typeOf atype)).before args s = true) (hK : va_K D vwCl (tysOf cy) s) (hB : BW D cy h0 w H) (hS : va_S (fun q => h0 ≤ q) H0 H locs) {n : Int32} {N : Nat} (hn : ¬ n < 0) (hN : n.toNatClampNeg = N) (hbytes : N ≤ 10000) (hcells : cells + 1 ≤ R.cells) (hslots : slots + N ≤ R.slots) (hdg : decode cc pc = .ok (.newarray atype, 2))
    (kk : ∀ H1 : Heap, BW D cy h0 (w ++ [.inl (t, N, fun _ => 0)]) H1 → va_S (fun q => h0 ≤ q) H0 H1 locs → W p l e R s m args below meth c H1 locs (cells + 1) (slots + N) Q (F0 m (pc + 2) ls (.ref (h0 + w.length) :: rest))) : W p l e R s m args below meth c H locs cells slots Q (F0 m pc ls (.int n :: rest)) := by
  have hcb : N * componentBytes (newarray.typeOf atype) ≤ 536870912 := by
    have : componentBytes (newarray.typeOf atype) ≤ 8 := by
      rw [hty]
      match t, ht with
      | 0, _ => decide
      | 1, _ => decide
      | 2, _ => decide
      | 3, _ => decide
      | 4, _ => decide
    have := Nat.mul_le_mul hbytes this
    omega
  refine va_newaK hexec hb harr rfl hdg rfl hn hN hcb hcells hslots hB.2 fun H1 cA e1 z1 o1 hAr hNm => ?_
  have hcA : cA = cy t := by
    rw [hty] at hNm
    match t, ht with
    | 0, _ => exact (Option.some.inj ((hK.2 0 _ rfl).2.symm.trans hNm)).symm
    | 1, _ => exact (Option.some.inj ((hK.2 1 _ rfl).2.symm.trans hNm)).symm
    | 2, _ => exact (Option.some.inj ((hK.2 2 _ rfl).2.symm.trans hNm)).symm
    | 3, _ => exact (Option.some.inj ((hK.2 3 _ rfl).2.symm.trans hNm)).symm
    | 4, _ => exact (Option.some.inj ((hK.2 4 _ rfl).2.symm.trans hNm)).symm
  have hk : ∀ (k : Nat) (x : Nat × va_E), (wz cy h0 w)[k]? = some x → H1[x.1]? = H[x.1]? := fun k x hx => o1 x.1 (by have := (hB.1 k x hx).lt; rw [hB.2] at this; exact this)
  refine kk H1 ⟨?_, by rw [z1, List.length_append]; rfl⟩ ⟨Nat.le_trans hS.1 (by rw [z1, hB.2]; omega), fun x h1 h2 => (o1 x (by have := Nat.lt_of_lt_of_le h1 hS.1; rw [hB.2] at this; exact this)).trans (hS.2.1 x h1 h2), hS.2.2⟩
  rw [wz_push]
  refine (hB.1.kept hk).app (fun k x hx => ?_)
  have hz : k < 1 := (List.getElem?_eq_some_iff.mp hx).1
  rw [show k = 0 by omega] at hx
  cases hx
  rw [hty, hcA] at e1
  match t, ht with
  | 0, _ => exact e1
  | 1, _ => exact e1
  | 2, _ => exact e1
  | 3, _ => exact e1
  | 4, _ => exact e1
end BS
