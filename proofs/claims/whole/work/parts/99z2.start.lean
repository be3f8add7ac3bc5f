/-! THE START: what both constructors leave -/
def s0I : Nat → Nat → Int32 := fun a j => match a, j with
  | 46, 2 => 3
  | 49, 2 => 3
  | _, _ => 0
def s0A : Nat → Nat → Int32 := fun a => match a with
  | 47 => rF (fun _ => 0)
  | 50 => rF (fun _ => 0)
  | _ => fun _ => 0
def s0R : Nat → Nat → Nat := fun a j => match a, j with
  | 0, 11 => 47
  | 0, 12 => 50
  | 52, 14 => 59
  | 52, 15 => 60
  | _, _ => 0
def s0 : Sto := (s0I, s0A, fun _ _ => 0, s0R)
def ad0 (n0 b q : Nat) : Nat → Nat := fun a => match Nat.beq a 998 with
  | true => b
  | false => match Nat.beq a 999 with
    | true => q
    | false => n0 + a
def W0 (n0 : Nat) : List bA := (blkX11 n0 ++ blkX12 (n0 + 52)) ++ [.inl (4, 1, fun _ => 0)]
theorem fl_0 (n0 b q : Nat) : fls (ad0 n0 b q) s0 0 11 = [.ref (n0 + 1), .ref (n0 + 3), .ref (n0 + 5), .ref (n0 + 11), .ref (n0 + 17), .ref (n0 + 18), .ref (n0 + 20), .ref (n0 + 28), .ref (n0 + 32), .ref (n0 + 35), .ref (n0 + 41), .ref (n0 + 46), .ref (n0 + 49)] := by
  apply List.ext_getElem?
  intro j
  unfold fls
  rw [List.getElem?_mapIdx]
  match j with
  | 0 => rfl
  | 1 => rfl
  | 2 => rfl
  | 3 => rfl
  | 4 => rfl
  | 5 => rfl
  | 6 => rfl
  | 7 => rfl
  | 8 => rfl
  | 9 => rfl
  | 10 => rfl
  | 11 => rfl
  | 12 => rfl
  | _ + 13 => rfl
theorem fl_1 (n0 b q : Nat) : fls (ad0 n0 b q) s0 1 8 = [.ref (n0 + 2), .int 0] := by
  apply List.ext_getElem?
  intro j
  unfold fls
  rw [List.getElem?_mapIdx]
  match j with
  | 0 => rfl
  | 1 => rfl
  | _ + 2 => rfl
theorem fl_3 (n0 b q : Nat) : fls (ad0 n0 b q) s0 3 9 = [.ref (n0 + 4), .int 0] := by
  apply List.ext_getElem?
  intro j
  unfold fls
  rw [List.getElem?_mapIdx]
  match j with
  | 0 => rfl
  | 1 => rfl
  | _ + 2 => rfl
theorem fl_5 (n0 b q : Nat) : fls (ad0 n0 b q) s0 5 2 = [.ref (n0 + 6), .ref (n0 + 7), .ref (n0 + 8), .ref (n0 + 9), .ref (n0 + 10), .int 0, .int 0, .int 0] := by
  apply List.ext_getElem?
  intro j
  unfold fls
  rw [List.getElem?_mapIdx]
  match j with
  | 0 => rfl
  | 1 => rfl
  | 2 => rfl
  | 3 => rfl
  | 4 => rfl
  | 5 => rfl
  | 6 => rfl
  | 7 => rfl
  | _ + 8 => rfl
theorem fl_11 (n0 b q : Nat) : fls (ad0 n0 b q) s0 11 2 = [.ref (n0 + 12), .ref (n0 + 13), .ref (n0 + 14), .ref (n0 + 15), .ref (n0 + 16), .int 0, .int 0, .int 0] := by
  apply List.ext_getElem?
  intro j
  unfold fls
  rw [List.getElem?_mapIdx]
  match j with
  | 0 => rfl
  | 1 => rfl
  | 2 => rfl
  | 3 => rfl
  | 4 => rfl
  | 5 => rfl
  | 6 => rfl
  | 7 => rfl
  | _ + 8 => rfl
theorem fl_17 (n0 b q : Nat) : fls (ad0 n0 b q) s0 17 6 = [.null, .null, .int 0] := by
  apply List.ext_getElem?
  intro j
  unfold fls
  rw [List.getElem?_mapIdx]
  match j with
  | 0 => rfl
  | 1 => rfl
  | 2 => rfl
  | _ + 3 => rfl
theorem fl_18 (n0 b q : Nat) : fls (ad0 n0 b q) s0 18 3 = [.ref (n0 + 19), .int 0, .int 0, .int 0] := by
  apply List.ext_getElem?
  intro j
  unfold fls
  rw [List.getElem?_mapIdx]
  match j with
  | 0 => rfl
  | 1 => rfl
  | 2 => rfl
  | 3 => rfl
  | _ + 4 => rfl
theorem fl_20 (n0 b q : Nat) : fls (ad0 n0 b q) s0 20 10 = [.ref (n0 + 21), .ref (n0 + 22), .int 0, .int 0, .ref (n0 + 23), .ref (n0 + 24), .ref (n0 + 25), .ref (n0 + 26), .ref (n0 + 27), .int 0, .int 0, .int 0, .null, .null] := by
  apply List.ext_getElem?
  intro j
  unfold fls
  rw [List.getElem?_mapIdx]
  match j with
  | 0 => rfl
  | 1 => rfl
  | 2 => rfl
  | 3 => rfl
  | 4 => rfl
  | 5 => rfl
  | 6 => rfl
  | 7 => rfl
  | 8 => rfl
  | 9 => rfl
  | 10 => rfl
  | 11 => rfl
  | 12 => rfl
  | 13 => rfl
  | _ + 14 => rfl
theorem fl_28 (n0 b q : Nat) : fls (ad0 n0 b q) s0 28 0 = [.ref (n0 + 29), .ref (n0 + 30), .ref (n0 + 31)] := by
  apply List.ext_getElem?
  intro j
  unfold fls
  rw [List.getElem?_mapIdx]
  match j with
  | 0 => rfl
  | 1 => rfl
  | 2 => rfl
  | _ + 3 => rfl
theorem fl_32 (n0 b q : Nat) : fls (ad0 n0 b q) s0 32 1 = [.ref (n0 + 33), .ref (n0 + 34), .int 0] := by
  apply List.ext_getElem?
  intro j
  unfold fls
  rw [List.getElem?_mapIdx]
  match j with
  | 0 => rfl
  | 1 => rfl
  | 2 => rfl
  | _ + 3 => rfl
theorem fl_35 (n0 b q : Nat) : fls (ad0 n0 b q) s0 35 7 = [.ref (n0 + 36), .ref (n0 + 37), .ref (n0 + 38), .ref (n0 + 39), .ref (n0 + 40), .int 0] := by
  apply List.ext_getElem?
  intro j
  unfold fls
  rw [List.getElem?_mapIdx]
  match j with
  | 0 => rfl
  | 1 => rfl
  | 2 => rfl
  | 3 => rfl
  | 4 => rfl
  | 5 => rfl
  | _ + 6 => rfl
theorem fl_41 (n0 b q : Nat) : fls (ad0 n0 b q) s0 41 4 = [.ref (n0 + 42), .ref (n0 + 43), .ref (n0 + 44), .int 0, .ref (n0 + 45), .int 0] := by
  apply List.ext_getElem?
  intro j
  unfold fls
  rw [List.getElem?_mapIdx]
  match j with
  | 0 => rfl
  | 1 => rfl
  | 2 => rfl
  | 3 => rfl
  | 4 => rfl
  | 5 => rfl
  | _ + 6 => rfl
theorem fl_46 (n0 b q : Nat) : fls (ad0 n0 b q) s0 46 5 = [.ref (n0 + 47), .ref (n0 + 48), .int 3] := by
  apply List.ext_getElem?
  intro j
  unfold fls
  rw [List.getElem?_mapIdx]
  match j with
  | 0 => rfl
  | 1 => rfl
  | 2 => rfl
  | _ + 3 => rfl
theorem fl_49 (n0 b q : Nat) : fls (ad0 n0 b q) s0 49 5 = [.ref (n0 + 50), .ref (n0 + 51), .int 3] := by
  apply List.ext_getElem?
  intro j
  unfold fls
  rw [List.getElem?_mapIdx]
  match j with
  | 0 => rfl
  | 1 => rfl
  | 2 => rfl
  | _ + 3 => rfl
theorem fl_52 (n0 b q : Nat) : fls (ad0 n0 b q) s0 52 12 = [.ref (n0 + 53), .int 0, .ref (n0 + 54), .ref (n0 + 55), .int 0, .ref (n0 + 56), .int 0, .int 0, .null, .int 0, .int 0, .int 0, .int 0, .ref (n0 + 57), .ref (n0 + 58), .ref (n0 + 59), .int 0, .int 0, .ref (n0 + 60), .ref (n0 + 61), .int 0, .ref (n0 + 62), .ref (n0 + 63), .ref (n0 + 64), .ref (n0 + 65), .ref (n0 + 66), .ref (n0 + 67), .ref (n0 + 68), .ref (n0 + 69), .int 0, .ref (n0 + 70), .ref (n0 + 71), .ref (n0 + 72), .ref (n0 + 73), .ref (n0 + 74), .int 0, .ref (n0 + 75), .ref (n0 + 76), .int 0, .ref (n0 + 77), .ref (n0 + 78), .ref (n0 + 79), .int 0, .int 0, .ref (n0 + 80), .ref (n0 + 81), .ref (n0 + 82)] := by
  apply List.ext_getElem?
  intro j
  unfold fls
  rw [List.getElem?_mapIdx]
  match j with
  | 0 => rfl
  | 1 => rfl
  | 2 => rfl
  | 3 => rfl
  | 4 => rfl
  | 5 => rfl
  | 6 => rfl
  | 7 => rfl
  | 8 => rfl
  | 9 => rfl
  | 10 => rfl
  | 11 => rfl
  | 12 => rfl
  | 13 => rfl
  | 14 => rfl
  | 15 => rfl
  | 16 => rfl
  | 17 => rfl
  | 18 => rfl
  | 19 => rfl
  | 20 => rfl
  | 21 => rfl
  | 22 => rfl
  | 23 => rfl
  | 24 => rfl
  | 25 => rfl
  | 26 => rfl
  | 27 => rfl
  | 28 => rfl
  | 29 => rfl
  | 30 => rfl
  | 31 => rfl
  | 32 => rfl
  | 33 => rfl
  | 34 => rfl
  | 35 => rfl
  | 36 => rfl
  | 37 => rfl
  | 38 => rfl
  | 39 => rfl
  | 40 => rfl
  | 41 => rfl
  | 42 => rfl
  | 43 => rfl
  | 44 => rfl
  | 45 => rfl
  | 46 => rfl
  | _ + 47 => rfl
def W0x (n0 : Nat) : List bA := [.inr (11, [.ref (n0 + 1), .ref (n0 + 3), .ref (n0 + 5), .ref (n0 + 11), .ref (n0 + 17), .ref (n0 + 18), .ref (n0 + 20), .ref (n0 + 28), .ref (n0 + 32), .ref (n0 + 35), .ref (n0 + 41), .ref (n0 + 46), .ref (n0 + 49)]), .inr (8, [.ref (n0 + 2), .int 0]), .inl (2, 80, fun _ => 0), .inr (9, [.ref (n0 + 4), .int 0]), .inl (4, 9, fun _ => 0), .inr (2, [.ref (n0 + 6), .ref (n0 + 7), .ref (n0 + 8), .ref (n0 + 9), .ref (n0 + 10), .int 0, .int 0, .int 0]), .inl (0, 7, fun _ => 0), .inl (0, 7, fun _ => 0), .inl (0, 7, fun _ => 0), .inl (0, 7, fun _ => 0), .inl (0, 7, fun _ => 0), .inr (2, [.ref (n0 + 12), .ref (n0 + 13), .ref (n0 + 14), .ref (n0 + 15), .ref (n0 + 16), .int 0, .int 0, .int 0]), .inl (0, 7, fun _ => 0), .inl (0, 7, fun _ => 0), .inl (0, 7, fun _ => 0), .inl (0, 7, fun _ => 0), .inl (0, 7, fun _ => 0), .inr (6, [.null, .null, .int 0]), .inr (3, [.ref (n0 + 19), .int 0, .int 0, .int 0]), .inl (0, 450, fun _ => 0), .inr (10, [.ref (n0 + 21), .ref (n0 + 22), .int 0, .int 0, .ref (n0 + 23), .ref (n0 + 24), .ref (n0 + 25), .ref (n0 + 26), .ref (n0 + 27), .int 0, .int 0, .int 0, .null, .null]), .inl (0, 7, fun _ => 0), .inl (0, 7, fun _ => 0), .inl (0, 4, fun _ => 0), .inl (0, 6, fun _ => 0), .inl (0, 6, fun _ => 0), .inl (4, 64, fun _ => 0), .inl (0, 6, fun _ => 0), .inr (0, [.ref (n0 + 29), .ref (n0 + 30), .ref (n0 + 31)]), .inl (0, 7, fun _ => 0), .inl (0, 128, fun _ => 0), .inl (0, 7, fun _ => 0), .inr (1, [.ref (n0 + 33), .ref (n0 + 34), .int 0]), .inl (0, 12, fun _ => 0), .inl (0, 12, fun _ => 0), .inr (7, [.ref (n0 + 36), .ref (n0 + 37), .ref (n0 + 38), .ref (n0 + 39), .ref (n0 + 40), .int 0]), .inl (0, 10, fun _ => 0), .inl (0, 10, fun _ => 0), .inl (0, 10, fun _ => 0), .inl (0, 16, fun _ => 0), .inl (0, 16, fun _ => 0), .inr (4, [.ref (n0 + 42), .ref (n0 + 43), .ref (n0 + 44), .int 0, .ref (n0 + 45), .int 0]), .inl (4, 10, fun _ => 0), .inl (4, 10, fun _ => 0), .inl (0, 21, fun _ => 0), .inl (0, 10, fun _ => 0), .inr (5, [.ref (n0 + 47), .ref (n0 + 48), .int 3]), .inl (0, 40, rF (fun _ => 0)), .inl (0, 40, fun _ => 0), .inr (5, [.ref (n0 + 50), .ref (n0 + 51), .int 3]), .inl (0, 40, rF (fun _ => 0)), .inl (0, 40, fun _ => 0), .inr (12, [.ref (n0 + 53), .int 0, .ref (n0 + 54), .ref (n0 + 55), .int 0, .ref (n0 + 56), .int 0, .int 0, .null, .int 0, .int 0, .int 0, .int 0, .ref (n0 + 57), .ref (n0 + 58), .ref (n0 + 59), .int 0, .int 0, .ref (n0 + 60), .ref (n0 + 61), .int 0, .ref (n0 + 62), .ref (n0 + 63), .ref (n0 + 64), .ref (n0 + 65), .ref (n0 + 66), .ref (n0 + 67), .ref (n0 + 68), .ref (n0 + 69), .int 0, .ref (n0 + 70), .ref (n0 + 71), .ref (n0 + 72), .ref (n0 + 73), .ref (n0 + 74), .int 0, .ref (n0 + 75), .ref (n0 + 76), .int 0, .ref (n0 + 77), .ref (n0 + 78), .ref (n0 + 79), .int 0, .int 0, .ref (n0 + 80), .ref (n0 + 81), .ref (n0 + 82)]), .inl (0, 30, fun _ => 0), .inl (0, 7, fun _ => 0), .inl (1, 80, fun _ => 0), .inl (4, 16, fun _ => 0), .inl (0, 21, fun _ => 0), .inl (1, 40, fun _ => 0), .inl (1, 40, fun _ => 0), .inl (0, 7, fun _ => 0), .inl (0, 360, fun _ => 0), .inl (0, 30, fun _ => 0), .inl (0, 30, fun _ => 0), .inl (0, 240, fun _ => 0), .inl (0, 150, fun _ => 0), .inl (0, 7, fun _ => 0), .inl (0, 7, fun _ => 0), .inl (0, 7, fun _ => 0), .inl (0, 7, fun _ => 0), .inl (0, 1024, fun _ => 0), .inl (0, 7, fun _ => 0), .inl (0, 7, fun _ => 0), .inl (0, 12, fun _ => 0), .inl (0, 12, fun _ => 0), .inl (0, 10, fun _ => 0), .inl (0, 10, fun _ => 0), .inl (4, 10, fun _ => 0), .inl (4, 10, fun _ => 0), .inl (3, 441, fun _ => 0), .inl (0, 60, fun _ => 0), .inl (3, 2, fun _ => 0), .inl (0, 2, fun _ => 0), .inl (4, 1, fun _ => 0)]
set_option maxRecDepth 40000 in
theorem w0_x (n0 : Nat) : W0 n0 = W0x n0 := by
  simp only [W0, W0x, blkX11, blkX12, List.cons_append, List.nil_append, Nat.add_assoc, Nat.reduceAdd]
set_option maxRecDepth 40000 in
set_option maxHeartbeats 4000000 in
theorem w0_at (cy : Nat → ClassId) (n0 b q : Nat) : ∀ k, k < 84 → ((W0x n0)[k]?).map (fun e => (n0 + k, bE cy e)) = (shpL[k]?).map (fun sh => (ad0 n0 b q k, cel cy (ad0 n0 b q) s0 k sh)) := fun k hk => match k, hk with
  | 0, _ => congrArg (fun z => some (n0 + 0, Sum.inr (11, z))) (fl_0 n0 b q).symm
  | 1, _ => congrArg (fun z => some (n0 + 1, Sum.inr (8, z))) (fl_1 n0 b q).symm
  | 2, _ => rfl
  | 3, _ => congrArg (fun z => some (n0 + 3, Sum.inr (9, z))) (fl_3 n0 b q).symm
  | 4, _ => rfl
  | 5, _ => congrArg (fun z => some (n0 + 5, Sum.inr (2, z))) (fl_5 n0 b q).symm
  | 6, _ => rfl
  | 7, _ => rfl
  | 8, _ => rfl
  | 9, _ => rfl
  | 10, _ => rfl
  | 11, _ => congrArg (fun z => some (n0 + 11, Sum.inr (2, z))) (fl_11 n0 b q).symm
  | 12, _ => rfl
  | 13, _ => rfl
  | 14, _ => rfl
  | 15, _ => rfl
  | 16, _ => rfl
  | 17, _ => congrArg (fun z => some (n0 + 17, Sum.inr (6, z))) (fl_17 n0 b q).symm
  | 18, _ => congrArg (fun z => some (n0 + 18, Sum.inr (3, z))) (fl_18 n0 b q).symm
  | 19, _ => rfl
  | 20, _ => congrArg (fun z => some (n0 + 20, Sum.inr (10, z))) (fl_20 n0 b q).symm
  | 21, _ => rfl
  | 22, _ => rfl
  | 23, _ => rfl
  | 24, _ => rfl
  | 25, _ => rfl
  | 26, _ => rfl
  | 27, _ => rfl
  | 28, _ => congrArg (fun z => some (n0 + 28, Sum.inr (0, z))) (fl_28 n0 b q).symm
  | 29, _ => rfl
  | 30, _ => rfl
  | 31, _ => rfl
  | 32, _ => congrArg (fun z => some (n0 + 32, Sum.inr (1, z))) (fl_32 n0 b q).symm
  | 33, _ => rfl
  | 34, _ => rfl
  | 35, _ => congrArg (fun z => some (n0 + 35, Sum.inr (7, z))) (fl_35 n0 b q).symm
  | 36, _ => rfl
  | 37, _ => rfl
  | 38, _ => rfl
  | 39, _ => rfl
  | 40, _ => rfl
  | 41, _ => congrArg (fun z => some (n0 + 41, Sum.inr (4, z))) (fl_41 n0 b q).symm
  | 42, _ => rfl
  | 43, _ => rfl
  | 44, _ => rfl
  | 45, _ => rfl
  | 46, _ => congrArg (fun z => some (n0 + 46, Sum.inr (5, z))) (fl_46 n0 b q).symm
  | 47, _ => rfl
  | 48, _ => rfl
  | 49, _ => congrArg (fun z => some (n0 + 49, Sum.inr (5, z))) (fl_49 n0 b q).symm
  | 50, _ => rfl
  | 51, _ => rfl
  | 52, _ => congrArg (fun z => some (n0 + 52, Sum.inr (12, z))) (fl_52 n0 b q).symm
  | 53, _ => rfl
  | 54, _ => rfl
  | 55, _ => rfl
  | 56, _ => rfl
  | 57, _ => rfl
  | 58, _ => rfl
  | 59, _ => rfl
  | 60, _ => rfl
  | 61, _ => rfl
  | 62, _ => rfl
  | 63, _ => rfl
  | 64, _ => rfl
  | 65, _ => rfl
  | 66, _ => rfl
  | 67, _ => rfl
  | 68, _ => rfl
  | 69, _ => rfl
  | 70, _ => rfl
  | 71, _ => rfl
  | 72, _ => rfl
  | 73, _ => rfl
  | 74, _ => rfl
  | 75, _ => rfl
  | 76, _ => rfl
  | 77, _ => rfl
  | 78, _ => rfl
  | 79, _ => rfl
  | 80, _ => rfl
  | 81, _ => rfl
  | 82, _ => rfl
  | 83, _ => rfl
  | k + 84, h => absurd h (by omega)
theorem w0_eq (cy : Nat → ClassId) (n0 b q : Nat) : wz cy n0 (W0 n0) = wsOf cy (ad0 n0 b q) s0 := by
  rw [w0_x]
  apply List.ext_getElem?
  intro k
  rw [wz_at]
  unfold wsOf
  rw [List.getElem?_mapIdx]
  by_cases hk : k < 84
  · exact w0_at cy n0 b q k hk
  · rw [List.getElem?_eq_none (show (W0x n0).length ≤ k from Nat.not_lt.mp hk), List.getElem?_eq_none (show shpL.length ≤ k from Nat.not_lt.mp hk)]
    rfl
