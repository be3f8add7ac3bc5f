/-! THE STORE: int fields, rows of ints, rows of longs, fields that hold a reference (0: null) -/
abbrev Sto : Type := (Nat → Nat → Int32) × (Nat → Nat → Int32) × (Nat → Nat → Int64) × (Nat → Nat → Nat)
def gI (σ : Sto) (a j : Nat) : Int32 := σ.1 a j
def gA (σ : Sto) (a : Nat) : Nat → Int32 := σ.2.1 a
def gJ (σ : Sto) (a : Nat) : Nat → Int64 := σ.2.2.1 a
def gR (σ : Sto) (a j : Nat) : Nat := σ.2.2.2 a j
def sI (σ : Sto) (a j : Nat) (v : Int32) : Sto := (fun x y => if x = a ∧ y = j then v else σ.1 x y, σ.2)
def sA (σ : Sto) (a : Nat) (f : Nat → Int32) : Sto := (σ.1, fun x => if x = a then f else σ.2.1 x, σ.2.2)
def sJ (σ : Sto) (a : Nat) (f : Nat → Int64) : Sto := (σ.1, σ.2.1, fun x => if x = a then f else σ.2.2.1 x, σ.2.2.2)
def sR (σ : Sto) (a j : Nat) (v : Nat) : Sto := (σ.1, σ.2.1, σ.2.2.1, fun x y => if x = a ∧ y = j then v else σ.2.2.2 x y)
theorem gI_sI (σ : Sto) (a j x y : Nat) (v : Int32) : gI (sI σ a j v) x y = if x = a ∧ y = j then v else gI σ x y := rfl
theorem gI_sA (σ : Sto) (a x y : Nat) (f : Nat → Int32) : gI (sA σ a f) x y = gI σ x y := rfl
theorem gI_sJ (σ : Sto) (a x y : Nat) (f : Nat → Int64) : gI (sJ σ a f) x y = gI σ x y := rfl
theorem gI_sR (σ : Sto) (a j x y v : Nat) : gI (sR σ a j v) x y = gI σ x y := rfl
theorem gA_sI (σ : Sto) (a j x : Nat) (v : Int32) : gA (sI σ a j v) x = gA σ x := rfl
theorem gA_sA (σ : Sto) (a x : Nat) (f : Nat → Int32) : gA (sA σ a f) x = if x = a then f else gA σ x := rfl
theorem gA_sJ (σ : Sto) (a x : Nat) (f : Nat → Int64) : gA (sJ σ a f) x = gA σ x := rfl
theorem gA_sR (σ : Sto) (a j x v : Nat) : gA (sR σ a j v) x = gA σ x := rfl
theorem gJ_sI (σ : Sto) (a j x : Nat) (v : Int32) : gJ (sI σ a j v) x = gJ σ x := rfl
theorem gJ_sA (σ : Sto) (a x : Nat) (f : Nat → Int32) : gJ (sA σ a f) x = gJ σ x := rfl
theorem gJ_sJ (σ : Sto) (a x : Nat) (f : Nat → Int64) : gJ (sJ σ a f) x = if x = a then f else gJ σ x := rfl
theorem gJ_sR (σ : Sto) (a j x v : Nat) : gJ (sR σ a j v) x = gJ σ x := rfl
theorem gR_sI (σ : Sto) (a j x y : Nat) (v : Int32) : gR (sI σ a j v) x y = gR σ x y := rfl
theorem gR_sA (σ : Sto) (a x y : Nat) (f : Nat → Int32) : gR (sA σ a f) x y = gR σ x y := rfl
theorem gR_sJ (σ : Sto) (a x y : Nat) (f : Nat → Int64) : gR (sJ σ a f) x y = gR σ x y := rfl
theorem gR_sR (σ : Sto) (a j x y v : Nat) : gR (sR σ a j v) x y = if x = a ∧ y = j then v else gR σ x y := rfl

/-! THE SHAPE: what lies at each place of the store: (0, number of the class), or (1 int, 2 byte, 3 char, 4 boolean, 5 long; how many); the kinds of fields by classes: 0 a number, 1 a reference that changes, d + 2 the thing d places on -/
def shpL : List (Nat × Nat) := [(0, 11), (0, 8), (3, 80), (0, 9), (5, 9), (0, 2), (1, 7), (1, 7), (1, 7), (1, 7), (1, 7), (0, 2), (1, 7), (1, 7), (1, 7), (1, 7), (1, 7), (0, 6), (0, 3), (1, 450), (0, 10), (1, 7), (1, 7), (1, 4), (1, 6), (1, 6), (5, 64), (1, 6), (0, 0), (1, 7), (1, 128), (1, 7), (0, 1), (1, 12), (1, 12), (0, 7), (1, 10), (1, 10), (1, 10), (1, 16), (1, 16), (0, 4), (5, 10), (5, 10), (1, 21), (1, 10), (0, 5), (1, 40), (1, 40), (0, 5), (1, 40), (1, 40), (0, 12), (1, 30), (1, 7), (2, 80), (5, 16), (1, 21), (2, 40), (2, 40), (1, 7), (1, 360), (1, 30), (1, 30), (1, 240), (1, 150), (1, 7), (1, 7), (1, 7), (1, 7), (1, 1024), (1, 7), (1, 7), (1, 12), (1, 12), (1, 10), (1, 10), (5, 10), (5, 10), (4, 441), (1, 60), (4, 2), (1, 2), (5, 1)]
def kdL : List (List Nat) := [[3, 4, 5], [3, 4, 0], [3, 4, 5, 6, 7, 0, 0, 0], [3, 0, 0, 0], [3, 4, 5, 0, 6, 0], [3, 4, 0], [1, 1, 0], [3, 4, 5, 6, 7, 0], [3, 0], [3, 0], [3, 4, 0, 0, 5, 6, 7, 8, 9, 0, 0, 0, 1, 1], [3, 5, 7, 13, 19, 20, 22, 30, 34, 37, 43, 1, 1], [3, 0, 4, 5, 0, 6, 0, 0, 1, 0, 0, 0, 0, 7, 1, 1, 0, 0, 10, 11, 0, 12, 13, 14, 15, 16, 17, 18, 19, 0, 20, 21, 22, 23, 24, 0, 25, 26, 0, 27, 28, 29, 0, 0, 30, 31, 32]]
def kdOf (ci : Nat) : List Nat := kdL.getD ci []
def rfv (ad : Nat → Nat) (r : Nat) : Value := match r with
  | 0 => .null
  | n + 1 => .ref (ad n)
def fvl (ad : Nat → Nat) (σ : Sto) (a j kd : Nat) : Value := match kd with
  | 0 => .int (gI σ a j)
  | 1 => rfv ad (gR σ a j)
  | d + 2 => .ref (ad (a + d))
def fls (ad : Nat → Nat) (σ : Sto) (a ci : Nat) : List Value := (kdOf ci).mapIdx (fun j kd => fvl ad σ a j kd)
def cel (cy : Nat → ClassId) (ad : Nat → Nat) (σ : Sto) (a : Nat) (sh : Nat × Nat) : va_E :=
  if sh.1 = 0 then .inr (sh.2, fls ad σ a sh.2) else if sh.1 = 5 then .inl (cy 4, sh.2, .inr (.inl (gJ σ a))) else .inl (cy (sh.1 - 1), sh.2, .inl (gA σ a))
def wsOf (cy : Nat → ClassId) (ad : Nat → Nat) (σ : Sto) : va_W := shpL.mapIdx (fun a sh => (ad a, cel cy ad σ a sh))
def tysOf (cy : Nat → ClassId) : List (ClassId × FieldType) := [(cy 0, .int), (cy 1, .byte), (cy 2, .char), (cy 3, .boolean), (cy 4, .long)]
def rv (ad : Nat → Nat) (v : Value) : Value := match v with
  | .ref k => .ref (ad k)
  | w => w
theorem rv_cat (ad : Nat → Nat) (v : Value) : (rv ad v).category = v.category := by cases v <;> rfl
theorem ws_at {cy : Nat → ClassId} {ad : Nat → Nat} {σ : Sto} {a : Nat} {sh : Nat × Nat} (h : shpL[a]? = some sh) : (wsOf cy ad σ)[a]? = some (ad a, cel cy ad σ a sh) := by
  simp [wsOf, List.getElem?_mapIdx, h]
theorem ws_ob {cy : Nat → ClassId} {ad : Nat → Nat} {σ : Sto} {a ci : Nat} (h : shpL[a]? = some (0, ci)) : (wsOf cy ad σ)[a]? = some (ad a, .inr (ci, fls ad σ a ci)) := ws_at h
theorem ws_lo {cy : Nat → ClassId} {ad : Nat → Nat} {σ : Sto} {a n : Nat} (h : shpL[a]? = some (5, n)) : (wsOf cy ad σ)[a]? = some (ad a, .inl (cy 4, n, .inr (.inl (gJ σ a)))) := ws_at h
theorem ws_in {cy : Nat → ClassId} {ad : Nat → Nat} {σ : Sto} {a n t : Nat} (ht : t < 4) (h : shpL[a]? = some (t + 1, n)) : (wsOf cy ad σ)[a]? = some (ad a, .inl (cy t, n, .inl (gA σ a))) := by
  rw [ws_at h]
  have h5 : ¬ t + 1 = 5 := by omega
  simp [cel, h5, show ¬ t = 4 by omega]
theorem fl_at {ad : Nat → Nat} {σ : Sto} {a ci j kd : Nat} (h : (kdOf ci)[j]? = some kd) : (fls ad σ a ci)[j]? = some (fvl ad σ a j kd) := by
  simp [fls, List.getElem?_mapIdx, h]
theorem fl_len {ad : Nat → Nat} {σ : Sto} {a ci : Nat} : (fls ad σ a ci).length = (kdOf ci).length := by simp [fls]
theorem ws_set {cy : Nat → ClassId} {ad : Nat → Nat} {σ σ' : Sto} {a : Nat} {sh : Nat × Nat} {E : va_E} (h : shpL[a]? = some sh) (he : E = cel cy ad σ' a sh) (ho : ∀ b, b ≠ a → ∀ s, cel cy ad σ b s = cel cy ad σ' b s) : (wsOf cy ad σ).set a (ad a, E) = wsOf cy ad σ' := by
  apply List.ext_getElem?
  intro i
  by_cases hi : a = i
  · subst hi
    have hl : a < (wsOf cy ad σ).length := by simp [wsOf]; exact (List.getElem?_eq_some_iff.mp h).1
    rw [List.getElem?_set_self hl, ws_at h, he]
  · rw [List.getElem?_set_ne hi]
    simp only [wsOf, List.getElem?_mapIdx]
    cases shpL[i]? with
    | none => rfl
    | some s => simp [ho i (fun e => hi e.symm) s]
theorem ws_sI {cy : Nat → ClassId} {ad : Nat → Nat} {σ : Sto} {a ci j : Nat} {v : Int32} (h : shpL[a]? = some (0, ci)) (hk : (kdOf ci)[j]? = some 0) : (wsOf cy ad σ).set a (ad a, .inr (ci, (fls ad σ a ci).set j (.int v))) = wsOf cy ad (sI σ a j v) := by
  refine ws_set h ?_ ?_
  · show Sum.inr (ci, _) = Sum.inr (ci, fls ad (sI σ a j v) a ci)
    have e : (fls ad σ a ci).set j (.int v) = fls ad (sI σ a j v) a ci := by
      apply List.ext_getElem?
      intro i
      by_cases hi : j = i
      · subst hi
        rw [List.getElem?_set_self (by rw [fl_len]; exact (List.getElem?_eq_some_iff.mp hk).1), fl_at hk]
        simp [fvl, gI_sI]
      · rw [List.getElem?_set_ne hi]
        simp only [fls, List.getElem?_mapIdx]
        cases (kdOf ci)[i]? with
        | none => rfl
        | some kd =>
          have hn : ¬ (i = j) := fun e => hi e.symm
          simp only [Option.map_some]
          congr 1
          match kd with
          | 0 => simp [fvl, gI_sI, hn]
          | 1 => rfl
          | d + 2 => rfl
    rw [e]
  · intro b hb s
    have : fls ad σ b s.2 = fls ad (sI σ a j v) b s.2 := by
      simp only [fls]
      congr 1
      funext i kd
      match kd with
      | 0 => simp [fvl, gI_sI, hb]
      | 1 => rfl
      | d + 2 => rfl
    simp only [cel, this]
    rfl
theorem ws_sR {cy : Nat → ClassId} {ad : Nat → Nat} {σ : Sto} {a ci j r : Nat} (h : shpL[a]? = some (0, ci)) (hk : (kdOf ci)[j]? = some 1) : (wsOf cy ad σ).set a (ad a, .inr (ci, (fls ad σ a ci).set j (rfv ad r))) = wsOf cy ad (sR σ a j r) := by
  refine ws_set h ?_ ?_
  · show Sum.inr (ci, _) = Sum.inr (ci, fls ad (sR σ a j r) a ci)
    have e : (fls ad σ a ci).set j (rfv ad r) = fls ad (sR σ a j r) a ci := by
      apply List.ext_getElem?
      intro i
      by_cases hi : j = i
      · subst hi
        rw [List.getElem?_set_self (by rw [fl_len]; exact (List.getElem?_eq_some_iff.mp hk).1), fl_at hk]
        simp [fvl, gR_sR]
      · rw [List.getElem?_set_ne hi]
        simp only [fls, List.getElem?_mapIdx]
        cases (kdOf ci)[i]? with
        | none => rfl
        | some kd =>
          have hn : ¬ (i = j) := fun e => hi e.symm
          simp only [Option.map_some]
          congr 1
          match kd with
          | 0 => rfl
          | 1 => simp [fvl, gR_sR, hn]
          | d + 2 => rfl
    rw [e]
  · intro b hb s
    have : fls ad σ b s.2 = fls ad (sR σ a j r) b s.2 := by
      simp only [fls]
      congr 1
      funext i kd
      match kd with
      | 0 => rfl
      | 1 => simp [fvl, gR_sR, hb]
      | d + 2 => rfl
    simp only [cel, this]
    rfl
theorem ws_sA {cy : Nat → ClassId} {ad : Nat → Nat} {σ : Sto} {a n t : Nat} {f : Nat → Int32} (ht : t < 4) (h : shpL[a]? = some (t + 1, n)) : (wsOf cy ad σ).set a (ad a, .inl (cy t, n, .inl f)) = wsOf cy ad (sA σ a f) := by
  refine ws_set h ?_ ?_
  · simp [cel, show ¬ t = 4 by omega, gA_sA]
  · intro b hb s
    simp only [cel, gA_sA, if_neg hb]
    rfl
theorem ws_sJ {cy : Nat → ClassId} {ad : Nat → Nat} {σ : Sto} {a n : Nat} {f : Nat → Int64} (h : shpL[a]? = some (5, n)) : (wsOf cy ad σ).set a (ad a, .inl (cy 4, n, .inr (.inl f))) = wsOf cy ad (sJ σ a f) := by
  refine ws_set h ?_ ?_
  · simp [cel, gJ_sJ]
  · intro b hb s
    simp only [cel, gJ_sJ, if_neg hb]
    rfl

/-! METHODS, CONTEXTS, JUDGEMENTS -/
abbrev UW : List Cond := wsL_law0
abbrev Mt : Type := String × MethodName × List Cond × ByteArray × Nat × Option FieldType
def mO (M : Mt) : String := M.1
def mY (M : Mt) : MethodName := M.2.1
def mW (M : Mt) : List Cond := M.2.2.1
def mB (M : Mt) : ByteArray := M.2.2.2.1
def mL (M : Mt) : Nat := M.2.2.2.2.1
def mR (M : Mt) : Option FieldType := M.2.2.2.2.2
def rmk (k : Nat) : Room := { frames := k, cells := 0, slots := 0, locals := 64 * k }
def Aad (ad : Nat → Nat) : Nat → Prop := fun q => ∃ a, a < shpL.length ∧ q = ad a
def askF : Nat → Value := fun j => .int (match j with | 0 => 0 | 1 => 3 | _ => 4)
def Zf (ad : Nat → Nat) (U : State) (H : Heap) : Prop := va_Z "NamesInMouths$Ear" "ASKED" "[I" (.ref (ad 999)) (Aad ad) U H ∧ va_T .int (ad 999) 3 askF (Aad ad) U H
def Cx (M : Mt) (p : Program) (s : State) (m : MethodId) (args : Array Value) (meth : Method) (c : Code) (D : va_G) (cy : Nat → ClassId) (ad : Nat → Nat) : Prop :=
  p.tables.exec = Jvm.exec ∧ c.code = mB M ∧ c.maxLocals = mL M ∧ meth.sig.returnType = mR M ∧ meth.locks = false ∧ s.vm.findClass (mO M) = some m.cls ∧ (∀ w ∈ mW M, w.before args s = true) ∧ va_K D vwCl (tysOf cy) s ∧ Zf ad s s.heap
def VL (ad : Nat → Nat) (L : List (Option Value)) (ls : Array Slot) (n : Nat) : Prop := ls.size = n ∧ lv_wf ls ∧ ∀ (i : Nat) (v : Value), L[i]? = some (some v) → ls[i]? = some (.val (rv ad v))
def Wd (D : va_G) (cy : Nat → ClassId) (ad : Nat → Nat) (H0 : Heap) (σ : Sto) (H : Heap) (locs : List Loc) : Prop := va_P D vwCl (wsOf cy ad σ) H ∧ va_D (Aad ad) (wsOf cy ad σ) ∧ va_S (Aad ad) H0 H locs
def QM (D : va_G) (cy : Nat → ClassId) (ad : Nat → Nat) (Q : Option Value → Sto → Prop) : Array Value → State → Outcome → State → Prop := fun _ st oc t =>
  (∃ (v : Option Value) (σ' : Sto), oc = .returned (v.map (rv ad)) ∧ Q v σ' ∧ va_P D vwCl (wsOf cy ad σ') t.heap ∧ va_D (Aad ad) (wsOf cy ad σ')) ∧ va_F (Aad ad) st t
def WW (M : Mt) (k : Nat) (Q : Option Value → Sto → Prop) (pc : Nat) (L : List (Option Value)) (S : List Value) (σ : Sto) : Prop :=
  ∀ (l : Launch) (p : Program) (e : Env) (s : State) (m : MethodId) (args : Array Value) (below : List Frame) (meth : Method) (c : Code) (D : va_G) (cy : Nat → ClassId) (ad : Nat → Nat), Cx M p s m args meth c D cy ad →
    ∀ (H : Heap) (locs : List Loc) (ls : Array Slot), VL ad L ls (mL M) → Wd D cy ad s.heap σ H locs →
      W p l e (rmk k) s m args below meth c H locs 0 0 (MQ below (QM D cy ad Q) args s 0 0 (Aad ad)) (F0 m pc ls (S.map (rv ad)))
def PreM (D : va_G) (cy : Nat → ClassId) (ad : Nat → Nat) (args : List Value) (σ : Sto) : Array Value → State → Prop :=
  va_Pc (args.map (rv ad)) (fun U => va_P D vwCl (wsOf cy ad σ) U.heap ∧ va_K D vwCl (tysOf cy) U ∧ va_D (Aad ad) (wsOf cy ad σ) ∧ Zf ad U U.heap)
/-- THE CONTRACT of a method, k frames deep at most: from the store σ and the arguments it returns, and Q says what -/
def EvM (k : Nat) (M : Mt) (args : List Value) (σ : Sto) (Q : Option Value → Sto → Prop) : Prop :=
  ∀ (l : Launch) (D : va_G) (cy : Nat → ClassId) (ad : Nat → Nat), Met l (mY M) (mW M) (rmk k) (PreM D cy ad args σ) (QM D cy ad Q) 0 0 (Aad ad)
/-- the words that a method's own caller needs of it -/
def MOK (M : Mt) : Prop := plainName (mY M).cls = true ∧ mW M = Cond.code (mY M) (mB M) (mL M) (mR M) :: UW ∧ (mY M).cls = mO M ∧ Cond.code (mY M) (mB M) (mL M) (mR M) ∈ UW ∧ mL M ≤ 45
theorem UW_all : UW.all goodWord = true := by decide +kernel
theorem UW_good {w : Cond} (h : w ∈ UW) : (w.onTables && w.keeps) = true ∨ ∃ ty, w = .arrayClass ty := good_of_word (List.all_eq_true.mp UW_all w h)
theorem MOK.good {M M' : Mt} (h : MOK M) (h' : MOK M') : GoodIn (mW M) (mW M') := by
  intro w hw
  rw [h'.2.1] at hw
  rw [h.2.1]
  rcases List.mem_cons.mp hw with rfl | hw
  · exact ⟨List.mem_cons_of_mem _ h'.2.2.2.1, UW_good h'.2.2.2.1⟩
  · exact ⟨List.mem_cons_of_mem _ hw, UW_good hw⟩
theorem MOK.w {M : Mt} (h : MOK M) {args : Array Value} {s : State} (hts : ∀ w ∈ mW M, w.before args s = true) {w : Cond} (hw : w ∈ UW) : w.before args s = true := hts w (by rw [h.2.1]; exact List.mem_cons_of_mem _ hw)
theorem Zf.kept {ad : Nat → Nat} {U : State} {H H1 : Heap} (h : Zf ad U H) (hq : ∀ a : Nat, a < H.size → ¬ Aad ad a → H1[a]? = H[a]?) : Zf ad U H1 := ⟨h.1.kept hq, h.2.kept hq⟩
theorem Zf.moved {ad : Nat → Nat} {u U : State} {H : Heap} (hvm : u.vm.Alike U.vm) (h : Zf ad u H) : Zf ad U H := ⟨h.1.moved hvm, h.2.moved hvm⟩
/-! the locals -/
def entA : List Value → List (Option Value)
  | [] => []
  | .long x :: vs => some (.long x) :: none :: entA vs
  | .double x :: vs => some (.double x) :: none :: entA vs
  | v :: vs => some v :: entA vs
def entL (n : Nat) (vs : List Value) : List (Option Value) := entA vs ++ List.replicate (n - (entA vs).length) none
def clr (L : List (Option Value)) (i : Nat) : List (Option Value) := match i with
  | 0 => L
  | j + 1 => match L[j]? with
    | some (some (.long _)) => L.set j none
    | some (some (.double _)) => L.set j none
    | _ => L
def st1 (L : List (Option Value)) (i : Nat) (v : Value) : List (Option Value) := (clr L i).set i (some v)
def st2 (L : List (Option Value)) (i : Nat) (v : Value) : List (Option Value) := ((clr L i).set i (some v)).set (i + 1) none
def toA (ad : Nat → Nat) (L : List (Option Value)) : List (Nat × Value) := (List.range L.length).filterMap (fun i => match L[i]? with
  | some (some v) => some (i, rv ad v)
  | _ => none)
theorem toA_mem {ad : Nat → Nat} {L : List (Option Value)} {i : Nat} {w : Value} : (i, w) ∈ toA ad L ↔ ∃ v, L[i]? = some (some v) ∧ w = rv ad v := by
  unfold toA
  rw [List.mem_filterMap]
  constructor
  · rintro ⟨j, hj, h⟩
    split at h
    · rename_i v hv
      cases h
      exact ⟨v, hv, rfl⟩
    · cases h
  · rintro ⟨v, hv, rfl⟩
    refine ⟨i, List.mem_range.mpr (List.getElem?_eq_some_iff.mp hv).1, ?_⟩
    rw [hv]
theorem VL.has {ad : Nat → Nat} {L : List (Option Value)} {ls : Array Slot} {n : Nat} (h : VL ad L ls n) : lv_has ls n (toA ad L) := ⟨h.1, h.2.1, fun q hq => by
  obtain ⟨i, w⟩ := q
  obtain ⟨v, hv, rfl⟩ := toA_mem.mp hq
  exact h.2.2 i v hv⟩
theorem clr_get {L : List (Option Value)} {i j : Nat} {v : Value} (h : (clr L i)[j]? = some (some v)) : L[j]? = some (some v) ∧ (j + 1 = i → (∀ x, v ≠ .long x) ∧ ∀ x, v ≠ .double x) := by
  unfold clr at h
  split at h
  · exact ⟨h, fun e => by omega⟩
  · rename_i i
    split at h
    · rename_i x hx
      by_cases hj : i = j
      · subst hj
        rw [List.getElem?_set_self (List.getElem?_eq_some_iff.mp hx).1] at h
        cases h
      · rw [List.getElem?_set_ne hj] at h
        exact ⟨h, fun e => by omega⟩
    · rename_i x hx
      by_cases hj : i = j
      · subst hj
        rw [List.getElem?_set_self (List.getElem?_eq_some_iff.mp hx).1] at h
        cases h
      · rw [List.getElem?_set_ne hj] at h
        exact ⟨h, fun e => by omega⟩
    · rename_i hn1 hn2
      refine ⟨h, fun e => ?_⟩
      have : j = i := by omega
      subst this
      exact ⟨fun x hv => hn1 x (hv ▸ h), fun x hv => hn2 x (hv ▸ h)⟩
theorem cat_long {ad : Nat → Nat} {v : Value} (h : (rv ad v).category = 2) : (∃ x, v = .long x) ∨ ∃ x, v = .double x := by
  cases v with
  | long x => exact Or.inl ⟨x, rfl⟩
  | double x => exact Or.inr ⟨x, rfl⟩
  | _ => cases h
theorem VL.s1 {ad : Nat → Nat} {L : List (Option Value)} {ls ls' : Array Slot} {n i : Nat} {v : Value} (hi : i < n) (h : VL ad L ls n) (h' : lv_has ls' n ((i, rv ad v) :: (toA ad L).filter (fun q => !(q.1 == i) && !(q.1 + 1 == i && q.2.category == 2)))) : VL ad (st1 L i v) ls' n := by
  refine ⟨h'.1, h'.2.1, fun j w hj => ?_⟩
  unfold st1 at hj
  by_cases hji : i = j
  · subst hji
    have hl := (List.getElem?_eq_some_iff.mp hj).1
    rw [List.length_set] at hl
    rw [List.getElem?_set_self hl] at hj
    cases hj
    exact h'.2.2 (i, rv ad v) List.mem_cons_self
  · rw [List.getElem?_set_ne hji] at hj
    obtain ⟨h1, h2⟩ := clr_get hj
    refine h'.2.2 (j, rv ad w) (List.mem_cons_of_mem _ (List.mem_filter.mpr ⟨toA_mem.mpr ⟨w, h1, rfl⟩, ?_⟩))
    have e1 : (j == i) = false := by simpa using fun e => hji e.symm
    simp only [e1, Bool.not_false, Bool.true_and, Bool.not_eq_true', Bool.and_eq_false_iff]
    by_cases hc : j + 1 = i
    · right
      have : (rv ad w).category ≠ 2 := fun hcat => by
        rcases cat_long hcat with ⟨x, rfl⟩ | ⟨x, rfl⟩
        · exact (h2 hc).1 x rfl
        · exact (h2 hc).2 x rfl
      simpa using this
    · left
      simpa using hc
theorem VL.s2 {ad : Nat → Nat} {L : List (Option Value)} {ls ls' : Array Slot} {n i : Nat} {v : Value} (hi : i + 1 < n) (h : VL ad L ls n) (h' : lv_has ls' n ((i, rv ad v) :: (toA ad L).filter (fun q => !(q.1 == i) && (!(q.1 == i + 1) && !(q.1 + 1 == i && q.2.category == 2))))) : VL ad (st2 L i v) ls' n := by
  refine ⟨h'.1, h'.2.1, fun j w hj => ?_⟩
  unfold st2 at hj
  by_cases hj1 : i + 1 = j
  · subst hj1
    have hl := (List.getElem?_eq_some_iff.mp hj).1
    rw [List.length_set] at hl
    rw [List.getElem?_set_self hl] at hj
    cases hj
  rw [List.getElem?_set_ne hj1] at hj
  by_cases hji : i = j
  · subst hji
    have hl := (List.getElem?_eq_some_iff.mp hj).1
    rw [List.length_set] at hl
    rw [List.getElem?_set_self hl] at hj
    cases hj
    exact h'.2.2 (i, rv ad v) List.mem_cons_self
  · rw [List.getElem?_set_ne hji] at hj
    obtain ⟨h1, h2⟩ := clr_get hj
    refine h'.2.2 (j, rv ad w) (List.mem_cons_of_mem _ (List.mem_filter.mpr ⟨toA_mem.mpr ⟨w, h1, rfl⟩, ?_⟩))
    have e1 : (j == i) = false := by simpa using fun e => hji e.symm
    have e2 : (j == i + 1) = false := by simpa using fun e => hj1 e.symm
    simp only [e1, e2, Bool.not_false, Bool.true_and, Bool.not_eq_true', Bool.and_eq_false_iff]
    by_cases hc : j + 1 = i
    · right
      have : (rv ad w).category ≠ 2 := fun hcat => by
        rcases cat_long hcat with ⟨x, rfl⟩ | ⟨x, rfl⟩
        · exact (h2 hc).1 x rfl
        · exact (h2 hc).2 x rfl
      simpa using this
    · left
      simpa using hc

theorem ent_len (ad : Nat → Nat) (vs : List Value) : (lg_sl (vs.map (rv ad))).length = (entA vs).length := by
  induction vs with
  | nil => rfl
  | cons v vs ih =>
    have e : lg_sl ((v :: vs).map (rv ad)) = (if (rv ad v).category = 2 then [.val (rv ad v), .second] else [.val (rv ad v)]) ++ lg_sl (vs.map (rv ad)) := by simp [lg_sl]
    rw [e, List.length_append, ih]
    cases v <;> simp [rv, Value.category, entA] <;> omega
theorem ent_mem (ad : Nat → Nat) : ∀ (vs : List Value) (off i : Nat) (v : Value), (entA vs)[i]? = some (some v) → (off + i, rv ad v) ∈ lv_args off (vs.map (rv ad)) := by
  intro vs
  induction vs with
  | nil => intro off i v h; simp [entA] at h
  | cons w vs ih =>
    intro off i v h
    have one : ∀ (hc : (rv ad w).category ≠ 2) (he : entA (w :: vs) = some w :: entA vs), (off + i, rv ad v) ∈ lv_args off ((w :: vs).map (rv ad)) := by
      intro hc he
      rw [he] at h
      rw [List.map_cons, lv_args, if_neg hc]
      cases i with
      | zero => rw [List.getElem?_cons_zero] at h; cases h; exact List.mem_cons_self
      | succ i =>
        rw [List.getElem?_cons_succ] at h
        have := ih (off + 1) i v h
        rw [show off + 1 + i = off + (i + 1) by omega] at this
        exact List.mem_cons_of_mem _ this
    have two : ∀ (hc : (rv ad w).category = 2) (he : entA (w :: vs) = some w :: none :: entA vs), (off + i, rv ad v) ∈ lv_args off ((w :: vs).map (rv ad)) := by
      intro hc he
      rw [he] at h
      rw [List.map_cons, lv_args, if_pos hc]
      match i, h with
      | 0, h => rw [List.getElem?_cons_zero] at h; cases h; exact List.mem_cons_self
      | 1, h => rw [List.getElem?_cons_succ, List.getElem?_cons_zero] at h; cases h
      | i + 2, h =>
        rw [List.getElem?_cons_succ, List.getElem?_cons_succ] at h
        have := ih (off + 2) i v h
        rw [show off + 2 + i = off + (i + 2) by omega] at this
        exact List.mem_cons_of_mem _ this
    cases w with
    | long x => exact two rfl rfl
    | double x => exact two rfl rfl
    | _ => exact one (by simp [rv, Value.category]) rfl
theorem VL.ent (ad : Nat → Nat) {vs : List Value} {n : Nat} (h : (entA vs).length ≤ n) : VL ad (entL n vs) ((lg_sl (vs.map (rv ad)) ++ List.replicate (n - (lg_sl (vs.map (rv ad))).length) Slot.unset).toArray) n := by
  have h1 := lv_entry (vs.map (rv ad)) (n := n) (by rw [ent_len]; exact h)
  refine ⟨h1.1, h1.2.1, fun i v hv => ?_⟩
  unfold entL at hv
  by_cases hi : i < (entA vs).length
  · rw [List.getElem?_append_left hi] at hv
    have := ent_mem ad vs 0 i v hv
    rw [Nat.zero_add] at this
    exact h1.2.2 (i, rv ad v) this
  · rw [List.getElem?_append_right (by omega)] at hv
    have := List.mem_of_getElem? hv
    simp at this
theorem EvM.of {M : Mt} {k : Nat} {args : List Value} {σ : Sto} {Q : Option Value → Sto → Prop} (hM : MOK M) (hlen : (entA args).length ≤ mL M) (h : WW M k Q 0 (entL (mL M) args) [] σ) : EvM k M args σ Q := by
  intro l D cy ad
  refine Met.ofW (cc := mB M) (maxL := mL M) (ret := mR M) hM.1 hM.2.1 ?_
  intro p e s m args' below meth c s₁ B hml hv
  obtain ⟨rfl, hP, hK, hD, hZ⟩ := hv
  have hown : s.vm.findClass (mO M) = some m.cls := hM.2.2.1 ▸ findClass_of_methodNamed B.named
  rw [lg_entry_eq]
  exact h l p e s m _ below meth c D cy ad ⟨B.exec, B.bytes, hml, B.returns, B.notSynchronized, hown, atoms_spec (ws := mW M) B.pre, hK, hZ⟩ s.heap [] _ (VL.ent ad hlen) ⟨hP, hD, va_S.rf⟩

