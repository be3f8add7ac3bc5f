/-! PREDICATE TRANSFORMERS: k frames left, Q the method's end, K what goes on -/
abbrev Op : Type := Nat → (Option Value → Sto → Prop) → (Nat → List (Option Value) → List Value → Sto → Prop) → Nat → List (Option Value) → List Value → Sto → Prop
def OpOK (M : Mt) (pc : Nat) (op : Op) : Prop := ∀ (k : Nat) (Q : Option Value → Sto → Prop) (K : Nat → List (Option Value) → List Value → Sto → Prop) (L : List (Option Value)) (S : List Value) (σ : Sto),
  op k Q K pc L S σ → (∀ pc' L' S' σ', K pc' L' S' σ' → WW M k Q pc' L' S' σ') → WW M k Q pc L S σ
def isC (a ci : Nat) : Bool := match shpL[a]? with
  | some (0, c) => Nat.beq c ci
  | _ => false
theorem isC_ok {a ci : Nat} (h : isC a ci = true) : shpL[a]? = some (0, ci) := by
  unfold isC at h
  split at h
  · rename_i c hc
    rw [hc, Nat.eq_of_beq_eq_true h]
  · cases h
def arr (a t : Nat) : Option Nat := match shpL[a]? with
  | some (t', n) => match Nat.beq t' t with
    | true => some n
    | false => none
  | none => none
theorem arr_ok {a t n : Nat} (h : arr a t = some n) : shpL[a]? = some (t, n) := by
  unfold arr at h
  split at h
  · rename_i t' n' hc
    split at h
    · rename_i hb
      cases h
      rw [hc, Nat.eq_of_beq_eq_true hb]
    · cases h
  · cases h
def inL (l : List Nat) (x : Nat) : Bool := match l with
  | [] => false
  | y :: l => match Nat.beq y x with
    | true => true
    | false => inL l x
def fnd (T : List (Nat × Op)) (pc : Nat) : Option Op := match T with
  | [] => none
  | r :: T => match Nat.beq r.1 pc with
    | true => some r.2
    | false => fnd T pc
theorem fnd_ok {T : List (Nat × Op)} {pc : Nat} {op : Op} (h : fnd T pc = some op) : (pc, op) ∈ T := by
  induction T with
  | nil => cases h
  | cons r T ih =>
    unfold fnd at h
    split at h
    · rename_i hb
      cases h
      rw [← Nat.eq_of_beq_eq_true hb]
      exact List.mem_cons_self
    · exact List.mem_cons_of_mem _ (ih h)
/-- what must hold for the machine to come from here to Q, or to a place of 'cut' with K; n instructions at most -/
def wp (T : List (Nat × Op)) (cut : List Nat) (k : Nat) (Q : Option Value → Sto → Prop) (K : Nat → List (Option Value) → List Value → Sto → Prop) : Nat → Nat → List (Option Value) → List Value → Sto → Prop
  | 0, _, _, _, _ => False
  | n + 1, pc, L, S, σ => match fnd T pc with
    | none => False
    | some op => op k Q (fun pc' L' S' σ' => match inL cut pc' with
      | true => K pc' L' S' σ'
      | false => wp T cut k Q K n pc' L' S' σ') pc L S σ
theorem wp_ok {M : Mt} {T : List (Nat × Op)} (hT : ∀ r ∈ T, OpOK M r.1 r.2) {cut : List Nat} {k : Nat} {Q : Option Value → Sto → Prop} {K : Nat → List (Option Value) → List Value → Sto → Prop} (hK : ∀ pc L S σ, K pc L S σ → WW M k Q pc L S σ) : ∀ n pc L S σ, wp T cut k Q K n pc L S σ → WW M k Q pc L S σ := by
  intro n
  induction n with
  | zero => intro pc L S σ h; exact h.elim
  | succ n ih =>
    intro pc L S σ h
    unfold wp at h
    split at h
    · exact h.elim
    · rename_i op hop
      refine hT _ (fnd_ok hop) k Q _ L S σ h (fun pc' L' S' σ' h' => ?_)
      split at h'
      · exact hK _ _ _ _ h'
      · exact ih _ _ _ _ h'

def op_iadd : Op := fun _ _ K pc L S σ => match S with
  | .int y :: .int x :: S => K (pc + 1) L (.int (x + y) :: S) σ
  | _ => False
theorem ok_iadd {M : Mt} {pc : Nat} (hd : decode (mB M) pc = .ok (.iadd, 1)) : OpOK M pc (op_iadd) := by
  intro k Q K L S σ h hk
  unfold op_iadd at h
  split at h
  · intro l p e s m args below meth c D cy ad C H locs ls hl hW
    exact lv_iadd C.1 C.2.1 hd (hk _ _ _ _ h l p e s m args below meth c D cy ad C H locs ls hl hW)
  · exact h.elim
def op_isub : Op := fun _ _ K pc L S σ => match S with
  | .int y :: .int x :: S => K (pc + 1) L (.int (x - y) :: S) σ
  | _ => False
theorem ok_isub {M : Mt} {pc : Nat} (hd : decode (mB M) pc = .ok (.isub, 1)) : OpOK M pc (op_isub) := by
  intro k Q K L S σ h hk
  unfold op_isub at h
  split at h
  · intro l p e s m args below meth c D cy ad C H locs ls hl hW
    exact lv_isub C.1 C.2.1 hd (hk _ _ _ _ h l p e s m args below meth c D cy ad C H locs ls hl hW)
  · exact h.elim
def op_imul : Op := fun _ _ K pc L S σ => match S with
  | .int y :: .int x :: S => K (pc + 1) L (.int (x * y) :: S) σ
  | _ => False
theorem ok_imul {M : Mt} {pc : Nat} (hd : decode (mB M) pc = .ok (.imul, 1)) : OpOK M pc (op_imul) := by
  intro k Q K L S σ h hk
  unfold op_imul at h
  split at h
  · intro l p e s m args below meth c D cy ad C H locs ls hl hW
    exact lv_imul C.1 C.2.1 hd (hk _ _ _ _ h l p e s m args below meth c D cy ad C H locs ls hl hW)
  · exact h.elim
def op_iand : Op := fun _ _ K pc L S σ => match S with
  | .int y :: .int x :: S => K (pc + 1) L (.int (x &&& y) :: S) σ
  | _ => False
theorem ok_iand {M : Mt} {pc : Nat} (hd : decode (mB M) pc = .ok (.iand, 1)) : OpOK M pc (op_iand) := by
  intro k Q K L S σ h hk
  unfold op_iand at h
  split at h
  · intro l p e s m args below meth c D cy ad C H locs ls hl hW
    exact lv_iand C.1 C.2.1 hd (hk _ _ _ _ h l p e s m args below meth c D cy ad C H locs ls hl hW)
  · exact h.elim
def op_ior : Op := fun _ _ K pc L S σ => match S with
  | .int y :: .int x :: S => K (pc + 1) L (.int (x ||| y) :: S) σ
  | _ => False
theorem ok_ior {M : Mt} {pc : Nat} (hd : decode (mB M) pc = .ok (.ior, 1)) : OpOK M pc (op_ior) := by
  intro k Q K L S σ h hk
  unfold op_ior at h
  split at h
  · intro l p e s m args below meth c D cy ad C H locs ls hl hW
    exact lv_ior C.1 C.2.1 hd (hk _ _ _ _ h l p e s m args below meth c D cy ad C H locs ls hl hW)
  · exact h.elim
def op_ixor : Op := fun _ _ K pc L S σ => match S with
  | .int y :: .int x :: S => K (pc + 1) L (.int (x ^^^ y) :: S) σ
  | _ => False
theorem ok_ixor {M : Mt} {pc : Nat} (hd : decode (mB M) pc = .ok (.ixor, 1)) : OpOK M pc (op_ixor) := by
  intro k Q K L S σ h hk
  unfold op_ixor at h
  split at h
  · intro l p e s m args below meth c D cy ad C H locs ls hl hW
    exact lv_ixor C.1 C.2.1 hd (hk _ _ _ _ h l p e s m args below meth c D cy ad C H locs ls hl hW)
  · exact h.elim
def op_ishl : Op := fun _ _ K pc L S σ => match S with
  | .int y :: .int x :: S => K (pc + 1) L (.int (x <<< (y &&& 31)) :: S) σ
  | _ => False
theorem ok_ishl {M : Mt} {pc : Nat} (hd : decode (mB M) pc = .ok (.ishl, 1)) : OpOK M pc (op_ishl) := by
  intro k Q K L S σ h hk
  unfold op_ishl at h
  split at h
  · intro l p e s m args below meth c D cy ad C H locs ls hl hW
    exact lv_ishl C.1 C.2.1 hd (hk _ _ _ _ h l p e s m args below meth c D cy ad C H locs ls hl hW)
  · exact h.elim
def op_ishr : Op := fun _ _ K pc L S σ => match S with
  | .int y :: .int x :: S => K (pc + 1) L (.int (x >>> (y &&& 31)) :: S) σ
  | _ => False
theorem ok_ishr {M : Mt} {pc : Nat} (hd : decode (mB M) pc = .ok (.ishr, 1)) : OpOK M pc (op_ishr) := by
  intro k Q K L S σ h hk
  unfold op_ishr at h
  split at h
  · intro l p e s m args below meth c D cy ad C H locs ls hl hW
    exact lv_ishr C.1 C.2.1 hd (hk _ _ _ _ h l p e s m args below meth c D cy ad C H locs ls hl hW)
  · exact h.elim
def op_iushr : Op := fun _ _ K pc L S σ => match S with
  | .int y :: .int x :: S => K (pc + 1) L (.int ((x.toUInt32 >>> (y.toUInt32 &&& Int32.toUInt32 31)).toInt32) :: S) σ
  | _ => False
theorem ok_iushr {M : Mt} {pc : Nat} (hd : decode (mB M) pc = .ok (.iushr, 1)) : OpOK M pc (op_iushr) := by
  intro k Q K L S σ h hk
  unfold op_iushr at h
  split at h
  · intro l p e s m args below meth c D cy ad C H locs ls hl hW
    exact lv_iushr C.1 C.2.1 hd rfl (hk _ _ _ _ h l p e s m args below meth c D cy ad C H locs ls hl hW)
  · exact h.elim
def op_idiv : Op := fun _ _ K pc L S σ => match S with
  | .int y :: .int x :: S => ¬ y = 0 ∧ K (pc + 1) L (.int (x / y) :: S) σ
  | _ => False
theorem ok_idiv {M : Mt} {pc : Nat} (hd : decode (mB M) pc = .ok (.idiv, 1)) : OpOK M pc (op_idiv) := by
  intro k Q K L S σ h hk
  unfold op_idiv at h
  split at h
  · obtain ⟨hc, h⟩ := h
    intro l p e s m args below meth c D cy ad C H locs ls hl hW
    exact lv_idiv C.1 C.2.1 hd hc (hk _ _ _ _ h l p e s m args below meth c D cy ad C H locs ls hl hW)
  · exact h.elim
def op_irem : Op := fun _ _ K pc L S σ => match S with
  | .int y :: .int x :: S => ¬ y = 0 ∧ K (pc + 1) L (.int (x - x / y * y) :: S) σ
  | _ => False
theorem ok_irem {M : Mt} {pc : Nat} (hd : decode (mB M) pc = .ok (.irem, 1)) : OpOK M pc (op_irem) := by
  intro k Q K L S σ h hk
  unfold op_irem at h
  split at h
  · obtain ⟨hc, h⟩ := h
    intro l p e s m args below meth c D cy ad C H locs ls hl hW
    exact lv_irem C.1 C.2.1 hd hc (hk _ _ _ _ h l p e s m args below meth c D cy ad C H locs ls hl hW)
  · exact h.elim
def op_ineg : Op := fun _ _ K pc L S σ => match S with
  | .int x :: S => K (pc + 1) L (.int (-x) :: S) σ
  | _ => False
theorem ok_ineg {M : Mt} {pc : Nat} (hd : decode (mB M) pc = .ok (.ineg, 1)) : OpOK M pc (op_ineg) := by
  intro k Q K L S σ h hk
  unfold op_ineg at h
  split at h
  · intro l p e s m args below meth c D cy ad C H locs ls hl hW
    exact lv_ineg C.1 C.2.1 hd (hk _ _ _ _ h l p e s m args below meth c D cy ad C H locs ls hl hW)
  · exact h.elim
def op_ladd : Op := fun _ _ K pc L S σ => match S with
  | .long y :: .long x :: S => K (pc + 1) L (.long (x + y) :: S) σ
  | _ => False
theorem ok_ladd {M : Mt} {pc : Nat} (hd : decode (mB M) pc = .ok (.ladd, 1)) : OpOK M pc (op_ladd) := by
  intro k Q K L S σ h hk
  unfold op_ladd at h
  split at h
  · intro l p e s m args below meth c D cy ad C H locs ls hl hW
    exact lv_ladd C.1 C.2.1 hd (hk _ _ _ _ h l p e s m args below meth c D cy ad C H locs ls hl hW)
  · exact h.elim
def op_lmul : Op := fun _ _ K pc L S σ => match S with
  | .long y :: .long x :: S => K (pc + 1) L (.long (x * y) :: S) σ
  | _ => False
theorem ok_lmul {M : Mt} {pc : Nat} (hd : decode (mB M) pc = .ok (.lmul, 1)) : OpOK M pc (op_lmul) := by
  intro k Q K L S σ h hk
  unfold op_lmul at h
  split at h
  · intro l p e s m args below meth c D cy ad C H locs ls hl hW
    exact lv_lmul C.1 C.2.1 hd (hk _ _ _ _ h l p e s m args below meth c D cy ad C H locs ls hl hW)
  · exact h.elim
def op_land : Op := fun _ _ K pc L S σ => match S with
  | .long y :: .long x :: S => K (pc + 1) L (.long (x &&& y) :: S) σ
  | _ => False
theorem ok_land {M : Mt} {pc : Nat} (hd : decode (mB M) pc = .ok (.land, 1)) : OpOK M pc (op_land) := by
  intro k Q K L S σ h hk
  unfold op_land at h
  split at h
  · intro l p e s m args below meth c D cy ad C H locs ls hl hW
    exact lv_land C.1 C.2.1 hd (hk _ _ _ _ h l p e s m args below meth c D cy ad C H locs ls hl hW)
  · exact h.elim
def op_lor : Op := fun _ _ K pc L S σ => match S with
  | .long y :: .long x :: S => K (pc + 1) L (.long (x ||| y) :: S) σ
  | _ => False
theorem ok_lor {M : Mt} {pc : Nat} (hd : decode (mB M) pc = .ok (.lor, 1)) : OpOK M pc (op_lor) := by
  intro k Q K L S σ h hk
  unfold op_lor at h
  split at h
  · intro l p e s m args below meth c D cy ad C H locs ls hl hW
    exact lv_lor C.1 C.2.1 hd (hk _ _ _ _ h l p e s m args below meth c D cy ad C H locs ls hl hW)
  · exact h.elim
def op_ldiv : Op := fun _ _ K pc L S σ => match S with
  | .long y :: .long x :: S => ¬ y = 0 ∧ K (pc + 1) L (.long (x / y) :: S) σ
  | _ => False
theorem ok_ldiv {M : Mt} {pc : Nat} (hd : decode (mB M) pc = .ok (.ldiv, 1)) : OpOK M pc (op_ldiv) := by
  intro k Q K L S σ h hk
  unfold op_ldiv at h
  split at h
  · obtain ⟨hc, h⟩ := h
    intro l p e s m args below meth c D cy ad C H locs ls hl hW
    exact lv_ldiv C.1 C.2.1 hd hc (hk _ _ _ _ h l p e s m args below meth c D cy ad C H locs ls hl hW)
  · exact h.elim
def op_lrem : Op := fun _ _ K pc L S σ => match S with
  | .long y :: .long x :: S => ¬ y = 0 ∧ K (pc + 1) L (.long (x - x / y * y) :: S) σ
  | _ => False
theorem ok_lrem {M : Mt} {pc : Nat} (hd : decode (mB M) pc = .ok (.lrem, 1)) : OpOK M pc (op_lrem) := by
  intro k Q K L S σ h hk
  unfold op_lrem at h
  split at h
  · obtain ⟨hc, h⟩ := h
    intro l p e s m args below meth c D cy ad C H locs ls hl hW
    exact lv_lrem C.1 C.2.1 hd hc (hk _ _ _ _ h l p e s m args below meth c D cy ad C H locs ls hl hW)
  · exact h.elim
def op_lshl : Op := fun _ _ K pc L S σ => match S with
  | .int y :: .long x :: S => K (pc + 1) L (.long (x <<< (y.toInt64 &&& 63)) :: S) σ
  | _ => False
theorem ok_lshl {M : Mt} {pc : Nat} (hd : decode (mB M) pc = .ok (.lshl, 1)) : OpOK M pc (op_lshl) := by
  intro k Q K L S σ h hk
  unfold op_lshl at h
  split at h
  · intro l p e s m args below meth c D cy ad C H locs ls hl hW
    exact lv_lshl C.1 C.2.1 hd rfl (hk _ _ _ _ h l p e s m args below meth c D cy ad C H locs ls hl hW)
  · exact h.elim
def op_lshr : Op := fun _ _ K pc L S σ => match S with
  | .int y :: .long x :: S => K (pc + 1) L (.long (x >>> (y.toInt64 &&& 63)) :: S) σ
  | _ => False
theorem ok_lshr {M : Mt} {pc : Nat} (hd : decode (mB M) pc = .ok (.lshr, 1)) : OpOK M pc (op_lshr) := by
  intro k Q K L S σ h hk
  unfold op_lshr at h
  split at h
  · intro l p e s m args below meth c D cy ad C H locs ls hl hW
    exact lv_lshr C.1 C.2.1 hd rfl (hk _ _ _ _ h l p e s m args below meth c D cy ad C H locs ls hl hW)
  · exact h.elim
def op_lcmp : Op := fun _ _ K pc L S σ => match S with
  | .long y :: .long x :: S => K (pc + 1) L (.int (lg_cmp x y) :: S) σ
  | _ => False
theorem ok_lcmp {M : Mt} {pc : Nat} (hd : decode (mB M) pc = .ok (.lcmp, 1)) : OpOK M pc (op_lcmp) := by
  intro k Q K L S σ h hk
  unfold op_lcmp at h
  split at h
  · intro l p e s m args below meth c D cy ad C H locs ls hl hW
    exact W.lcmp C.1 C.2.1 hd (hk _ _ _ _ h l p e s m args below meth c D cy ad C H locs ls hl hW)
  · exact h.elim
def op_i2l : Op := fun _ _ K pc L S σ => match S with
  | .int x :: S => K (pc + 1) L (.long x.toInt64 :: S) σ
  | _ => False
theorem ok_i2l {M : Mt} {pc : Nat} (hd : decode (mB M) pc = .ok (.i2l, 1)) : OpOK M pc (op_i2l) := by
  intro k Q K L S σ h hk
  unfold op_i2l at h
  split at h
  · intro l p e s m args below meth c D cy ad C H locs ls hl hW
    exact lv_i2l C.1 C.2.1 hd rfl (hk _ _ _ _ h l p e s m args below meth c D cy ad C H locs ls hl hW)
  · exact h.elim
def op_l2i : Op := fun _ _ K pc L S σ => match S with
  | .long x :: S => K (pc + 1) L (.int x.toInt32 :: S) σ
  | _ => False
theorem ok_l2i {M : Mt} {pc : Nat} (hd : decode (mB M) pc = .ok (.l2i, 1)) : OpOK M pc (op_l2i) := by
  intro k Q K L S σ h hk
  unfold op_l2i at h
  split at h
  · intro l p e s m args below meth c D cy ad C H locs ls hl hW
    exact lv_l2i C.1 C.2.1 hd rfl (hk _ _ _ _ h l p e s m args below meth c D cy ad C H locs ls hl hW)
  · exact h.elim
def op_i2b : Op := fun _ _ K pc L S σ => match S with
  | .int x :: S => K (pc + 1) L (.int x.toInt8.toInt32 :: S) σ
  | _ => False
theorem ok_i2b {M : Mt} {pc : Nat} (hd : decode (mB M) pc = .ok (.i2b, 1)) : OpOK M pc (op_i2b) := by
  intro k Q K L S σ h hk
  unfold op_i2b at h
  split at h
  · intro l p e s m args below meth c D cy ad C H locs ls hl hW
    exact lv_i2b C.1 C.2.1 hd rfl (hk _ _ _ _ h l p e s m args below meth c D cy ad C H locs ls hl hW)
  · exact h.elim
def op_i2s : Op := fun _ _ K pc L S σ => match S with
  | .int x :: S => K (pc + 1) L (.int x.toInt16.toInt32 :: S) σ
  | _ => False
theorem ok_i2s {M : Mt} {pc : Nat} (hd : decode (mB M) pc = .ok (.i2s, 1)) : OpOK M pc (op_i2s) := by
  intro k Q K L S σ h hk
  unfold op_i2s at h
  split at h
  · intro l p e s m args below meth c D cy ad C H locs ls hl hW
    exact lv_i2s C.1 C.2.1 hd rfl (hk _ _ _ _ h l p e s m args below meth c D cy ad C H locs ls hl hW)
  · exact h.elim
def op_i2c : Op := fun _ _ K pc L S σ => match S with
  | .int x :: S => K (pc + 1) L (.int (x.toUInt32 % 65536).toInt32 :: S) σ
  | _ => False
theorem ok_i2c {M : Mt} {pc : Nat} (hd : decode (mB M) pc = .ok (.i2c, 1)) : OpOK M pc (op_i2c) := by
  intro k Q K L S σ h hk
  unfold op_i2c at h
  split at h
  · intro l p e s m args below meth c D cy ad C H locs ls hl hW
    exact lv_i2c C.1 C.2.1 hd rfl (hk _ _ _ _ h l p e s m args below meth c D cy ad C H locs ls hl hW)
  · exact h.elim
def op_ic (v : Int32) (n : Nat) : Op := fun _ _ K pc L S σ => K (pc + n) L (.int v :: S) σ
def op_lc (v : Int64) (n : Nat) : Op := fun _ _ K pc L S σ => K (pc + n) L (.long v :: S) σ
theorem ok_iconst {M : Mt} {pc : Nat} {n : Int} {v : Int32} (hd : decode (mB M) pc = .ok (.iconst n, 1)) (hv : Int32.ofInt n = v) : OpOK M pc (op_ic v 1) := by
  intro k Q K L S σ h hk
  intro l p e s m args below meth c D cy ad C H locs ls hl hW
  exact lv_iconst C.1 C.2.1 hd hv (hk _ _ _ _ h l p e s m args below meth c D cy ad C H locs ls hl hW)
theorem ok_bipush {M : Mt} {pc : Nat} {n : Int} {v : Int32} (hd : decode (mB M) pc = .ok (.bipush n, 2)) (hv : (Int8.ofInt n).toInt32 = v) : OpOK M pc (op_ic v 2) := by
  intro k Q K L S σ h hk
  intro l p e s m args below meth c D cy ad C H locs ls hl hW
  exact lv_bipush C.1 C.2.1 hd hv (hk _ _ _ _ h l p e s m args below meth c D cy ad C H locs ls hl hW)
theorem ok_sipush {M : Mt} {pc : Nat} {n : Int} {v : Int32} (hd : decode (mB M) pc = .ok (.sipush n, 3)) (hv : (Int16.ofInt n).toInt32 = v) : OpOK M pc (op_ic v 3) := by
  intro k Q K L S σ h hk
  intro l p e s m args below meth c D cy ad C H locs ls hl hW
  exact lv_sipush C.1 C.2.1 hd hv (hk _ _ _ _ h l p e s m args below meth c D cy ad C H locs ls hl hW)
theorem ok_ldc {M : Mt} {pc i : Nat} {v : Int32} (hM : MOK M) (hw : Cond.constant (mO M) i v ∈ UW) (hd : decode (mB M) pc = .ok (.ldc i, 2)) : OpOK M pc (op_ic v 2) := by
  intro k Q K L S σ h hk
  intro l p e s m args below meth c D cy ad C H locs ls hl hW
  exact lv_ldc C.1 C.2.1 C.2.2.2.2.2.1 (hM.w C.2.2.2.2.2.2.1 hw) hd (hk _ _ _ _ h l p e s m args below meth c D cy ad C H locs ls hl hW)
theorem ok_ldcw {M : Mt} {pc i : Nat} {v : Int32} (hM : MOK M) (hw : Cond.constant (mO M) i v ∈ UW) (hd : decode (mB M) pc = .ok (.ldc_w i, 3)) : OpOK M pc (op_ic v 3) := by
  intro k Q K L S σ h hk
  intro l p e s m args below meth c D cy ad C H locs ls hl hW
  exact lv_ldcw C.1 C.2.1 C.2.2.2.2.2.1 (hM.w C.2.2.2.2.2.2.1 hw) hd (hk _ _ _ _ h l p e s m args below meth c D cy ad C H locs ls hl hW)
theorem ok_lconst {M : Mt} {pc : Nat} {n : Fin 2} {v : Int64} (hd : decode (mB M) pc = .ok (.lconst n, 1)) (hv : Int64.ofNat (n : Nat) = v) : OpOK M pc (op_lc v 1) := by
  intro k Q K L S σ h hk
  intro l p e s m args below meth c D cy ad C H locs ls hl hW
  exact lv_lconst C.1 C.2.1 hd hv (hk _ _ _ _ h l p e s m args below meth c D cy ad C H locs ls hl hW)
theorem ok_ldc2 {M : Mt} {pc i : Nat} {v : Int64} (hM : MOK M) (hw : Cond.constantLong (mO M) i v ∈ UW) (hd : decode (mB M) pc = .ok (.ldc2_w i, 3)) : OpOK M pc (op_lc v 3) := by
  intro k Q K L S σ h hk
  intro l p e s m args below meth c D cy ad C H locs ls hl hW
  exact lv_ldc2 C.1 C.2.1 C.2.2.2.2.2.1 (hM.w C.2.2.2.2.2.2.1 hw) hd (hk _ _ _ _ h l p e s m args below meth c D cy ad C H locs ls hl hW)
def op_ild (i n : Nat) : Op := fun _ _ K pc L S σ => match L[i]? with
  | some (some (.int x)) => K (pc + n) L (.int x :: S) σ
  | _ => False
theorem ok_ildn {M : Mt} {pc i : Nat} {q : Fin 4} (hd : decode (mB M) pc = .ok (.iload_n q, 1)) (hi : (q : Nat) = i) : OpOK M pc (op_ild i 1) := by
  intro k Q K L S σ h hk
  unfold op_ild at h
  split at h
  · rename_i x hx
    intro l p e s m args below meth c D cy ad C H locs ls hl hW
    exact lv_iload_n C.1 C.2.1 hd hi (hl.2.2 _ _ hx) (hk _ _ _ _ h l p e s m args below meth c D cy ad C H locs ls hl hW)
  · exact h.elim
theorem ok_ild {M : Mt} {pc i : Nat} (hd : decode (mB M) pc = .ok (.iload i, 2)) : OpOK M pc (op_ild i 2) := by
  intro k Q K L S σ h hk
  unfold op_ild at h
  split at h
  · rename_i x hx
    intro l p e s m args below meth c D cy ad C H locs ls hl hW
    exact lv_iload C.1 C.2.1 hd (hl.2.2 _ _ hx) (hk _ _ _ _ h l p e s m args below meth c D cy ad C H locs ls hl hW)
  · exact h.elim
def op_ist (i n : Nat) : Op := fun _ _ K pc L S σ => match S with
  | .int x :: S => K (pc + n) (st1 L i (.int x)) S σ
  | _ => False
theorem ok_istn {M : Mt} {pc i : Nat} {q : Fin 4} (hd : decode (mB M) pc = .ok (.istore_n q, 1)) (hi : (q : Nat) = i) (hb : i < mL M) : OpOK M pc (op_ist i 1) := by
  intro k Q K L S σ h hk
  unfold op_ist at h
  split at h
  · rename_i x S
    intro l p e s m args below meth c D cy ad C H locs ls hl hW
    exact lv_istore_n C.1 C.2.1 hd hi hl.has hb rfl (fun ls2 hl2 => hk _ _ _ _ h l p e s m args below meth c D cy ad C H locs ls2 (VL.s1 (v := .int x) hb hl hl2) hW)
  · exact h.elim
theorem ok_ist {M : Mt} {pc i : Nat} (hd : decode (mB M) pc = .ok (.istore i, 2)) (hb : i < mL M) : OpOK M pc (op_ist i 2) := by
  intro k Q K L S σ h hk
  unfold op_ist at h
  split at h
  · rename_i x S
    intro l p e s m args below meth c D cy ad C H locs ls hl hW
    exact lv_istore C.1 C.2.1 hd hl.has hb rfl (fun ls2 hl2 => hk _ _ _ _ h l p e s m args below meth c D cy ad C H locs ls2 (VL.s1 (v := .int x) hb hl hl2) hW)
  · exact h.elim
def op_lld (i n : Nat) : Op := fun _ _ K pc L S σ => match L[i]? with
  | some (some (.long x)) => K (pc + n) L (.long x :: S) σ
  | _ => False
theorem ok_lldn {M : Mt} {pc i : Nat} {q : Fin 4} (hd : decode (mB M) pc = .ok (.lload_n q, 1)) (hi : (q : Nat) = i) : OpOK M pc (op_lld i 1) := by
  intro k Q K L S σ h hk
  unfold op_lld at h
  split at h
  · rename_i x hx
    intro l p e s m args below meth c D cy ad C H locs ls hl hW
    exact lv_lload_n C.1 C.2.1 hd hi (hl.2.2 _ _ hx) (hk _ _ _ _ h l p e s m args below meth c D cy ad C H locs ls hl hW)
  · exact h.elim
theorem ok_lld {M : Mt} {pc i : Nat} (hd : decode (mB M) pc = .ok (.lload i, 2)) : OpOK M pc (op_lld i 2) := by
  intro k Q K L S σ h hk
  unfold op_lld at h
  split at h
  · rename_i x hx
    intro l p e s m args below meth c D cy ad C H locs ls hl hW
    exact lv_lload C.1 C.2.1 hd (hl.2.2 _ _ hx) (hk _ _ _ _ h l p e s m args below meth c D cy ad C H locs ls hl hW)
  · exact h.elim
def op_lst (i n : Nat) : Op := fun _ _ K pc L S σ => match S with
  | .long x :: S => K (pc + n) (st2 L i (.long x)) S σ
  | _ => False
theorem ok_lstn {M : Mt} {pc i : Nat} {q : Fin 4} (hd : decode (mB M) pc = .ok (.lstore_n q, 1)) (hi : (q : Nat) = i) (hb : i + 1 < mL M) : OpOK M pc (op_lst i 1) := by
  intro k Q K L S σ h hk
  unfold op_lst at h
  split at h
  · rename_i x S
    intro l p e s m args below meth c D cy ad C H locs ls hl hW
    exact lv_lstore_n C.1 C.2.1 hd hi hl.has hb rfl (fun ls2 hl2 => hk _ _ _ _ h l p e s m args below meth c D cy ad C H locs ls2 (VL.s2 (v := .long x) hb hl hl2) hW)
  · exact h.elim
theorem ok_lst {M : Mt} {pc i : Nat} (hd : decode (mB M) pc = .ok (.lstore i, 2)) (hb : i + 1 < mL M) : OpOK M pc (op_lst i 2) := by
  intro k Q K L S σ h hk
  unfold op_lst at h
  split at h
  · rename_i x S
    intro l p e s m args below meth c D cy ad C H locs ls hl hW
    exact lv_lstore C.1 C.2.1 hd hl.has hb rfl (fun ls2 hl2 => hk _ _ _ _ h l p e s m args below meth c D cy ad C H locs ls2 (VL.s2 (v := .long x) hb hl hl2) hW)
  · exact h.elim
def op_ald (i n : Nat) : Op := fun _ _ K pc L S σ => match L[i]? with
  | some (some (.ref x)) => K (pc + n) L (.ref x :: S) σ
  | _ => False
theorem ok_aldn {M : Mt} {pc i : Nat} {q : Fin 4} (hd : decode (mB M) pc = .ok (.aload_n q, 1)) (hi : (q : Nat) = i) : OpOK M pc (op_ald i 1) := by
  intro k Q K L S σ h hk
  unfold op_ald at h
  split at h
  · rename_i x hx
    intro l p e s m args below meth c D cy ad C H locs ls hl hW
    exact lv_aload_n C.1 C.2.1 hd hi (hl.2.2 _ _ hx) (hk _ _ _ _ h l p e s m args below meth c D cy ad C H locs ls hl hW)
  · exact h.elim
theorem ok_ald {M : Mt} {pc i : Nat} (hd : decode (mB M) pc = .ok (.aload i, 2)) : OpOK M pc (op_ald i 2) := by
  intro k Q K L S σ h hk
  unfold op_ald at h
  split at h
  · rename_i x hx
    intro l p e s m args below meth c D cy ad C H locs ls hl hW
    exact lv_aload C.1 C.2.1 hd (hl.2.2 _ _ hx) (hk _ _ _ _ h l p e s m args below meth c D cy ad C H locs ls hl hW)
  · exact h.elim
def op_ast (i n : Nat) : Op := fun _ _ K pc L S σ => match S with
  | .ref x :: S => K (pc + n) (st1 L i (.ref x)) S σ
  | _ => False
theorem ok_astn {M : Mt} {pc i : Nat} {q : Fin 4} (hd : decode (mB M) pc = .ok (.astore_n q, 1)) (hi : (q : Nat) = i) (hb : i < mL M) : OpOK M pc (op_ast i 1) := by
  intro k Q K L S σ h hk
  unfold op_ast at h
  split at h
  · rename_i x S
    intro l p e s m args below meth c D cy ad C H locs ls hl hW
    exact lv_astore_n C.1 C.2.1 hd hi hl.has hb rfl (fun ls2 hl2 => hk _ _ _ _ h l p e s m args below meth c D cy ad C H locs ls2 (VL.s1 (v := .ref x) hb hl hl2) hW)
  · exact h.elim
theorem ok_ast {M : Mt} {pc i : Nat} (hd : decode (mB M) pc = .ok (.astore i, 2)) (hb : i < mL M) : OpOK M pc (op_ast i 2) := by
  intro k Q K L S σ h hk
  unfold op_ast at h
  split at h
  · rename_i x S
    intro l p e s m args below meth c D cy ad C H locs ls hl hW
    exact lv_astore C.1 C.2.1 hd hl.has hb rfl (fun ls2 hl2 => hk _ _ _ _ h l p e s m args below meth c D cy ad C H locs ls2 (VL.s1 (v := .ref x) hb hl hl2) hW)
  · exact h.elim
def op_iinc (i : Nat) (d : Int32) : Op := fun _ _ K pc L S σ => match L[i]? with
  | some (some (.int x)) => K (pc + 3) (st1 L i (.int (x + d))) S σ
  | _ => False
theorem ok_iinc {M : Mt} {pc i : Nat} {n : Int} {d : Int32} (hd : decode (mB M) pc = .ok (.iinc i n, 3)) (he : Int32.ofInt n = d) (hb : i < mL M) : OpOK M pc (op_iinc i d) := by
  intro k Q K L S σ h hk
  unfold op_iinc at h
  split at h
  · rename_i x hx
    intro l p e s m args below meth c D cy ad C H locs ls hl hW
    obtain ⟨j, hj⟩ := List.getElem?_of_mem (toA_mem.mpr ⟨_, hx, rfl⟩ : (i, rv ad (.int x)) ∈ toA ad L)
    exact lv_iinc C.1 C.2.1 hd hl.has (k := j) hj (by rw [he]) hb rfl (fun ls2 hl2 => hk _ _ _ _ h l p e s m args below meth c D cy ad C H locs ls2 (VL.s1 (v := .int (x + d)) hb hl hl2) hW)
  · exact h.elim
def c1 (v : Value) : Bool := match v with
  | .long _ => false
  | .double _ => false
  | _ => true
theorem c1_ok {ad : Nat → Nat} {v : Value} (h : c1 v = true) : (rv ad v).category = 1 := by
  cases v <;> first | rfl | cases h
def op_dup : Op := fun _ _ K pc L S σ => match S with
  | a :: S => match c1 a with
    | true => K (pc + 1) L (a :: a :: S) σ
    | false => False
  | _ => False
theorem ok_dup {M : Mt} {pc : Nat} (hd : decode (mB M) pc = .ok (.dup, 1)) : OpOK M pc op_dup := by
  intro k Q K L S σ h hk
  unfold op_dup at h
  split at h
  · split at h
    · rename_i hc
      intro l p e s m args below meth c D cy ad C H locs ls hl hW
      exact lv_dup C.1 C.2.1 hd (c1_ok hc) (hk _ _ _ _ h l p e s m args below meth c D cy ad C H locs ls hl hW)
    · exact h.elim
  · exact h.elim
def op_pop : Op := fun _ _ K pc L S σ => match S with
  | a :: S => match c1 a with
    | true => K (pc + 1) L (S) σ
    | false => False
  | _ => False
theorem ok_pop {M : Mt} {pc : Nat} (hd : decode (mB M) pc = .ok (.pop, 1)) : OpOK M pc op_pop := by
  intro k Q K L S σ h hk
  unfold op_pop at h
  split at h
  · split at h
    · rename_i hc
      intro l p e s m args below meth c D cy ad C H locs ls hl hW
      exact lv_pop C.1 C.2.1 hd (c1_ok hc) (hk _ _ _ _ h l p e s m args below meth c D cy ad C H locs ls hl hW)
    · exact h.elim
  · exact h.elim
def op_dup_x1 : Op := fun _ _ K pc L S σ => match S with
  | a :: b :: S => match c1 a && c1 b with
    | true => K (pc + 1) L (a :: b :: a :: S) σ
    | false => False
  | _ => False
theorem ok_dup_x1 {M : Mt} {pc : Nat} (hd : decode (mB M) pc = .ok (.dup_x1, 1)) : OpOK M pc op_dup_x1 := by
  intro k Q K L S σ h hk
  unfold op_dup_x1 at h
  split at h
  · split at h
    · rename_i hc
      rw [Bool.and_eq_true] at hc
      intro l p e s m args below meth c D cy ad C H locs ls hl hW
      exact lv_dup_x1 C.1 C.2.1 hd (c1_ok hc.1) (c1_ok hc.2) (hk _ _ _ _ h l p e s m args below meth c D cy ad C H locs ls hl hW)
    · exact h.elim
  · exact h.elim
def op_dup2 : Op := fun _ _ K pc L S σ => match S with
  | a :: b :: S => match c1 a && c1 b with
    | true => K (pc + 1) L (a :: b :: a :: b :: S) σ
    | false => False
  | _ => False
theorem ok_dup2 {M : Mt} {pc : Nat} (hd : decode (mB M) pc = .ok (.dup2, 1)) : OpOK M pc op_dup2 := by
  intro k Q K L S σ h hk
  unfold op_dup2 at h
  split at h
  · split at h
    · rename_i hc
      rw [Bool.and_eq_true] at hc
      intro l p e s m args below meth c D cy ad C H locs ls hl hW
      exact lv_dup2_11 C.1 C.2.1 hd (c1_ok hc.1) (c1_ok hc.2) (hk _ _ _ _ h l p e s m args below meth c D cy ad C H locs ls hl hW)
    · exact h.elim
  · exact h.elim
def op_ifeq (t : Nat) : Op := fun _ _ K pc L S σ => match S with
  | .int x :: S => (x = 0 → K t L S σ) ∧ (¬ x = 0 → K (pc + 3) L S σ)
  | _ => False
theorem ok_ifeq {M : Mt} {pc t : Nat} {off : Int} (hd : decode (mB M) pc = .ok (.ifCond .eq off, 3)) (ht : (pc : Int) + off = (t : Int)) : OpOK M pc (op_ifeq t) := by
  intro k Q K L S σ h hk
  unfold op_ifeq at h
  split at h
  · intro l p e s m args below meth c D cy ad C H locs ls hl hW
    exact lv_if_eq C.1 C.2.1 hd ht (fun q => hk _ _ _ _ (h.1 q) l p e s m args below meth c D cy ad C H locs ls hl hW) (fun q => hk _ _ _ _ (h.2 q) l p e s m args below meth c D cy ad C H locs ls hl hW)
  · exact h.elim
def op_iceq (t : Nat) : Op := fun _ _ K pc L S σ => match S with
  | .int y :: .int x :: S => (x = y → K t L S σ) ∧ (¬ x = y → K (pc + 3) L S σ)
  | _ => False
theorem ok_iceq {M : Mt} {pc t : Nat} {off : Int} (hd : decode (mB M) pc = .ok (.if_icmp .eq off, 3)) (ht : (pc : Int) + off = (t : Int)) : OpOK M pc (op_iceq t) := by
  intro k Q K L S σ h hk
  unfold op_iceq at h
  split at h
  · intro l p e s m args below meth c D cy ad C H locs ls hl hW
    exact lv_icmp_eq C.1 C.2.1 hd ht (fun q => hk _ _ _ _ (h.1 q) l p e s m args below meth c D cy ad C H locs ls hl hW) (fun q => hk _ _ _ _ (h.2 q) l p e s m args below meth c D cy ad C H locs ls hl hW)
  · exact h.elim
def op_ifne (t : Nat) : Op := fun _ _ K pc L S σ => match S with
  | .int x :: S => (¬ x = 0 → K t L S σ) ∧ (x = 0 → K (pc + 3) L S σ)
  | _ => False
theorem ok_ifne {M : Mt} {pc t : Nat} {off : Int} (hd : decode (mB M) pc = .ok (.ifCond .ne off, 3)) (ht : (pc : Int) + off = (t : Int)) : OpOK M pc (op_ifne t) := by
  intro k Q K L S σ h hk
  unfold op_ifne at h
  split at h
  · intro l p e s m args below meth c D cy ad C H locs ls hl hW
    exact lv_if_ne C.1 C.2.1 hd ht (fun q => hk _ _ _ _ (h.1 q) l p e s m args below meth c D cy ad C H locs ls hl hW) (fun q => hk _ _ _ _ (h.2 q) l p e s m args below meth c D cy ad C H locs ls hl hW)
  · exact h.elim
def op_icne (t : Nat) : Op := fun _ _ K pc L S σ => match S with
  | .int y :: .int x :: S => (¬ x = y → K t L S σ) ∧ (x = y → K (pc + 3) L S σ)
  | _ => False
theorem ok_icne {M : Mt} {pc t : Nat} {off : Int} (hd : decode (mB M) pc = .ok (.if_icmp .ne off, 3)) (ht : (pc : Int) + off = (t : Int)) : OpOK M pc (op_icne t) := by
  intro k Q K L S σ h hk
  unfold op_icne at h
  split at h
  · intro l p e s m args below meth c D cy ad C H locs ls hl hW
    exact lv_icmp_ne C.1 C.2.1 hd ht (fun q => hk _ _ _ _ (h.1 q) l p e s m args below meth c D cy ad C H locs ls hl hW) (fun q => hk _ _ _ _ (h.2 q) l p e s m args below meth c D cy ad C H locs ls hl hW)
  · exact h.elim
def op_iflt (t : Nat) : Op := fun _ _ K pc L S σ => match S with
  | .int x :: S => (x < 0 → K t L S σ) ∧ (¬ x < 0 → K (pc + 3) L S σ)
  | _ => False
theorem ok_iflt {M : Mt} {pc t : Nat} {off : Int} (hd : decode (mB M) pc = .ok (.ifCond .lt off, 3)) (ht : (pc : Int) + off = (t : Int)) : OpOK M pc (op_iflt t) := by
  intro k Q K L S σ h hk
  unfold op_iflt at h
  split at h
  · intro l p e s m args below meth c D cy ad C H locs ls hl hW
    exact lv_if_lt C.1 C.2.1 hd ht (fun q => hk _ _ _ _ (h.1 q) l p e s m args below meth c D cy ad C H locs ls hl hW) (fun q => hk _ _ _ _ (h.2 q) l p e s m args below meth c D cy ad C H locs ls hl hW)
  · exact h.elim
def op_iclt (t : Nat) : Op := fun _ _ K pc L S σ => match S with
  | .int y :: .int x :: S => (x < y → K t L S σ) ∧ (¬ x < y → K (pc + 3) L S σ)
  | _ => False
theorem ok_iclt {M : Mt} {pc t : Nat} {off : Int} (hd : decode (mB M) pc = .ok (.if_icmp .lt off, 3)) (ht : (pc : Int) + off = (t : Int)) : OpOK M pc (op_iclt t) := by
  intro k Q K L S σ h hk
  unfold op_iclt at h
  split at h
  · intro l p e s m args below meth c D cy ad C H locs ls hl hW
    exact lv_icmp_lt C.1 C.2.1 hd ht (fun q => hk _ _ _ _ (h.1 q) l p e s m args below meth c D cy ad C H locs ls hl hW) (fun q => hk _ _ _ _ (h.2 q) l p e s m args below meth c D cy ad C H locs ls hl hW)
  · exact h.elim
def op_ifge (t : Nat) : Op := fun _ _ K pc L S σ => match S with
  | .int x :: S => (0 ≤ x → K t L S σ) ∧ (¬ 0 ≤ x → K (pc + 3) L S σ)
  | _ => False
theorem ok_ifge {M : Mt} {pc t : Nat} {off : Int} (hd : decode (mB M) pc = .ok (.ifCond .ge off, 3)) (ht : (pc : Int) + off = (t : Int)) : OpOK M pc (op_ifge t) := by
  intro k Q K L S σ h hk
  unfold op_ifge at h
  split at h
  · intro l p e s m args below meth c D cy ad C H locs ls hl hW
    exact lv_if_ge C.1 C.2.1 hd ht (fun q => hk _ _ _ _ (h.1 q) l p e s m args below meth c D cy ad C H locs ls hl hW) (fun q => hk _ _ _ _ (h.2 q) l p e s m args below meth c D cy ad C H locs ls hl hW)
  · exact h.elim
def op_icge (t : Nat) : Op := fun _ _ K pc L S σ => match S with
  | .int y :: .int x :: S => (y ≤ x → K t L S σ) ∧ (¬ y ≤ x → K (pc + 3) L S σ)
  | _ => False
theorem ok_icge {M : Mt} {pc t : Nat} {off : Int} (hd : decode (mB M) pc = .ok (.if_icmp .ge off, 3)) (ht : (pc : Int) + off = (t : Int)) : OpOK M pc (op_icge t) := by
  intro k Q K L S σ h hk
  unfold op_icge at h
  split at h
  · intro l p e s m args below meth c D cy ad C H locs ls hl hW
    exact lv_icmp_ge C.1 C.2.1 hd ht (fun q => hk _ _ _ _ (h.1 q) l p e s m args below meth c D cy ad C H locs ls hl hW) (fun q => hk _ _ _ _ (h.2 q) l p e s m args below meth c D cy ad C H locs ls hl hW)
  · exact h.elim
def op_ifgt (t : Nat) : Op := fun _ _ K pc L S σ => match S with
  | .int x :: S => (0 < x → K t L S σ) ∧ (¬ 0 < x → K (pc + 3) L S σ)
  | _ => False
theorem ok_ifgt {M : Mt} {pc t : Nat} {off : Int} (hd : decode (mB M) pc = .ok (.ifCond .gt off, 3)) (ht : (pc : Int) + off = (t : Int)) : OpOK M pc (op_ifgt t) := by
  intro k Q K L S σ h hk
  unfold op_ifgt at h
  split at h
  · intro l p e s m args below meth c D cy ad C H locs ls hl hW
    exact lv_if_gt C.1 C.2.1 hd ht (fun q => hk _ _ _ _ (h.1 q) l p e s m args below meth c D cy ad C H locs ls hl hW) (fun q => hk _ _ _ _ (h.2 q) l p e s m args below meth c D cy ad C H locs ls hl hW)
  · exact h.elim
def op_icgt (t : Nat) : Op := fun _ _ K pc L S σ => match S with
  | .int y :: .int x :: S => (y < x → K t L S σ) ∧ (¬ y < x → K (pc + 3) L S σ)
  | _ => False
theorem ok_icgt {M : Mt} {pc t : Nat} {off : Int} (hd : decode (mB M) pc = .ok (.if_icmp .gt off, 3)) (ht : (pc : Int) + off = (t : Int)) : OpOK M pc (op_icgt t) := by
  intro k Q K L S σ h hk
  unfold op_icgt at h
  split at h
  · intro l p e s m args below meth c D cy ad C H locs ls hl hW
    exact lv_icmp_gt C.1 C.2.1 hd ht (fun q => hk _ _ _ _ (h.1 q) l p e s m args below meth c D cy ad C H locs ls hl hW) (fun q => hk _ _ _ _ (h.2 q) l p e s m args below meth c D cy ad C H locs ls hl hW)
  · exact h.elim
def op_ifle (t : Nat) : Op := fun _ _ K pc L S σ => match S with
  | .int x :: S => (x ≤ 0 → K t L S σ) ∧ (¬ x ≤ 0 → K (pc + 3) L S σ)
  | _ => False
theorem ok_ifle {M : Mt} {pc t : Nat} {off : Int} (hd : decode (mB M) pc = .ok (.ifCond .le off, 3)) (ht : (pc : Int) + off = (t : Int)) : OpOK M pc (op_ifle t) := by
  intro k Q K L S σ h hk
  unfold op_ifle at h
  split at h
  · intro l p e s m args below meth c D cy ad C H locs ls hl hW
    exact lv_if_le C.1 C.2.1 hd ht (fun q => hk _ _ _ _ (h.1 q) l p e s m args below meth c D cy ad C H locs ls hl hW) (fun q => hk _ _ _ _ (h.2 q) l p e s m args below meth c D cy ad C H locs ls hl hW)
  · exact h.elim
def op_icle (t : Nat) : Op := fun _ _ K pc L S σ => match S with
  | .int y :: .int x :: S => (x ≤ y → K t L S σ) ∧ (¬ x ≤ y → K (pc + 3) L S σ)
  | _ => False
theorem ok_icle {M : Mt} {pc t : Nat} {off : Int} (hd : decode (mB M) pc = .ok (.if_icmp .le off, 3)) (ht : (pc : Int) + off = (t : Int)) : OpOK M pc (op_icle t) := by
  intro k Q K L S σ h hk
  unfold op_icle at h
  split at h
  · intro l p e s m args below meth c D cy ad C H locs ls hl hW
    exact lv_icmp_le C.1 C.2.1 hd ht (fun q => hk _ _ _ _ (h.1 q) l p e s m args below meth c D cy ad C H locs ls hl hW) (fun q => hk _ _ _ _ (h.2 q) l p e s m args below meth c D cy ad C H locs ls hl hW)
  · exact h.elim
def op_goto (t : Nat) : Op := fun _ _ K _ L S σ => K t L S σ
theorem ok_goto {M : Mt} {pc t : Nat} {off : Int} (hd : decode (mB M) pc = .ok (.goto off, 3)) (ht : (pc : Int) + off = (t : Int)) : OpOK M pc (op_goto t) := by
  intro k Q K L S σ h hk
  intro l p e s m args below meth c D cy ad C H locs ls hl hW
  exact lv_goto C.1 C.2.1 hd ht (hk _ _ _ _ h l p e s m args below meth c D cy ad C H locs ls hl hW)
/-! returns -/
def op_iret : Op := fun _ Q _ _ _ S σ => match S with
  | [.int x] => Q (some (.int x)) σ
  | _ => False
theorem ok_iret {M : Mt} {pc : Nat} (hr : mR M = some .int) (hd : decode (mB M) pc = .ok (.ireturn, 1)) : OpOK M pc op_iret := by
  intro k Q K L S σ h hk
  unfold op_iret at h
  split at h
  · rename_i x
    intro l p e s m args below meth c D cy ad C H locs ls hl hW
    have hlk : meth.locks = false := C.2.2.2.2.1
    exact W.iret (v := x) C.1 C.2.1 (C.2.2.2.1.trans hr) (fun t ht hWt => ⟨⟨some (.int x), σ, rfl, h, by rw [ht]; exact hW.1, hW.2.1⟩, hW.2.2.F ht⟩) hW.2.2.2.2 hd hlk
  · exact h.elim
def op_zret : Op := fun _ Q _ _ _ S σ => match S with
  | [.int x] => (x = 0 ∨ x = 1) ∧ Q (some (.int x)) σ
  | _ => False
theorem ok_zret {M : Mt} {pc : Nat} (hr : mR M = some .boolean) (hd : decode (mB M) pc = .ok (.ireturn, 1)) : OpOK M pc op_zret := by
  intro k Q K L S σ h hk
  unfold op_zret at h
  split at h
  · rename_i x
    obtain ⟨hx, h⟩ := h
    intro l p e s m args below meth c D cy ad C H locs ls hl hW
    have hlk : meth.locks = false := C.2.2.2.2.1
    exact W.zret (v := x) (ty := .boolean) C.1 C.2.1 (C.2.2.2.1.trans hr) (by rcases hx with rfl | rfl <;> rfl) (fun t ht hWt => ⟨⟨some (.int x), σ, rfl, h, by rw [ht]; exact hW.1, hW.2.1⟩, hW.2.2.F ht⟩) hW.2.2.2.2 hd hlk
  · exact h.elim
def op_lret : Op := fun _ Q _ _ _ S σ => match S with
  | [.long x] => Q (some (.long x)) σ
  | _ => False
theorem ok_lret {M : Mt} {pc : Nat} (hr : mR M = some .long) (hd : decode (mB M) pc = .ok (.lreturn, 1)) : OpOK M pc op_lret := by
  intro k Q K L S σ h hk
  unfold op_lret at h
  split at h
  · rename_i x
    intro l p e s m args below meth c D cy ad C H locs ls hl hW
    have hlk : meth.locks = false := C.2.2.2.2.1
    exact W.lret (v := x) C.1 C.2.1 (C.2.2.2.1.trans hr) (fun t ht hWt => ⟨⟨some (.long x), σ, rfl, h, by rw [ht]; exact hW.1, hW.2.1⟩, hW.2.2.F ht⟩) hW.2.2.2.2 hd hlk
  · exact h.elim
def op_vret : Op := fun _ Q _ _ _ S σ => match S with
  | [] => Q none σ
  | _ => False
theorem ok_vret {M : Mt} {pc : Nat} (hr : mR M = none) (hd : decode (mB M) pc = .ok (.return_, 1)) : OpOK M pc op_vret := by
  intro k Q K L S σ h hk
  unfold op_vret at h
  split at h
  · intro l p e s m args below meth c D cy ad C H locs ls hl hW
    have hlk : meth.locks = false := C.2.2.2.2.1
    exact W.vret C.1 C.2.1 (C.2.2.2.1.trans hr) (fun t ht hWt => ⟨⟨none, σ, rfl, h, by rw [ht]; exact hW.1, hW.2.1⟩, hW.2.2.F ht⟩) hW.2.2.2.2 hd hlk
  · exact h.elim
/-! fields -/
def FOK (M : Mt) (i ci j : Nat) (C : String) (T : u_T) (N : Nat) : Prop := vwCl[ci]? = some (C, T, N) ∧ j < N ∧ Cond.fieldLink (mO M) i (T j).1 (T j).2.1 (T j).2.2.1 ∈ UW ∧ ∀ w ∈ u_ws C T N, w ∈ UW
def op_gi (ci j : Nat) : Op := fun _ _ K pc L S σ => match S with
  | .ref a :: S => match isC a ci with
    | true => K (pc + 3) L (.int (gI σ a j) :: S) σ
    | false => False
  | _ => False
def op_gf (ci j d : Nat) : Op := fun _ _ K pc L S σ => match S with
  | .ref a :: S => match isC a ci with
    | true => K (pc + 3) L (.ref (a + d) :: S) σ
    | false => False
  | _ => False
def op_gr (ci j : Nat) : Op := fun _ _ K pc L S σ => match S with
  | .ref a :: S => match isC a ci with
    | true => ∃ r, gR σ a j = r + 1 ∧ K (pc + 3) L (.ref r :: S) σ
    | false => False
  | _ => False
theorem MOK.wU {M : Mt} (h : MOK M) : ∀ w ∈ UW, w ∈ mW M := fun w hw => by rw [h.2.1]; exact List.mem_cons_of_mem _ hw
theorem ok_gi {M : Mt} {pc i ci j : Nat} {C : String} {T : u_T} {N : Nat} (hM : MOK M) (hF : FOK M i ci j C T N) (hkd : (kdOf ci)[j]? = some 0) (hd : decode (mB M) pc = .ok (.getfield i, 3)) : OpOK M pc (op_gi ci j) := by
  intro k Q K L S σ h hk
  unfold op_gi at h
  split at h
  · rename_i a S
    split at h
    · rename_i hc
      intro l p e s m args below meth c D cy ad C H locs ls hl hW
      exact va_get C.1 C.2.1 C.2.2.2.2.2.2.1 (fun w hw => hM.wU w (hF.2.2.2 w hw)) C.2.2.2.2.2.1 C.2.2.2.2.2.2.2.1 hW.1 a (ws_ob (isC_ok hc)) hF.1 j hF.2.1 (hM.w C.2.2.2.2.2.2.1 hF.2.2.1) (fun _ h9 => h9) (fl_at hkd) hd (hk _ _ _ _ h l p e s m args below meth c D cy ad C H locs ls hl hW)
    · exact h.elim
  · exact h.elim
theorem ok_gf {M : Mt} {pc i ci j d : Nat} {C : String} {T : u_T} {N : Nat} (hM : MOK M) (hF : FOK M i ci j C T N) (hkd : (kdOf ci)[j]? = some (d + 2)) (hd : decode (mB M) pc = .ok (.getfield i, 3)) : OpOK M pc (op_gf ci j d) := by
  intro k Q K L S σ h hk
  unfold op_gf at h
  split at h
  · rename_i a S
    split at h
    · rename_i hc
      intro l p e s m args below meth c D cy ad C H locs ls hl hW
      exact va_get C.1 C.2.1 C.2.2.2.2.2.2.1 (fun w hw => hM.wU w (hF.2.2.2 w hw)) C.2.2.2.2.2.1 C.2.2.2.2.2.2.2.1 hW.1 a (ws_ob (isC_ok hc)) hF.1 j hF.2.1 (hM.w C.2.2.2.2.2.2.1 hF.2.2.1) (fun _ h9 => h9) (fl_at hkd) hd (hk _ _ _ _ h l p e s m args below meth c D cy ad C H locs ls hl hW)
    · exact h.elim
  · exact h.elim
theorem ok_gr {M : Mt} {pc i ci j : Nat} {C : String} {T : u_T} {N : Nat} (hM : MOK M) (hF : FOK M i ci j C T N) (hkd : (kdOf ci)[j]? = some 1) (hd : decode (mB M) pc = .ok (.getfield i, 3)) : OpOK M pc (op_gr ci j) := by
  intro k Q K L S σ h hk
  unfold op_gr at h
  split at h
  · rename_i a S
    split at h
    · rename_i hc
      obtain ⟨r, hr, h⟩ := h
      intro l p e s m args below meth c D cy ad C H locs ls hl hW
      have hv : (fls ad σ a ci)[j]? = some (.ref (ad r)) := by
        rw [fl_at hkd]
        simp [fvl, rfv, hr]
      exact va_get C.1 C.2.1 C.2.2.2.2.2.2.1 (fun w hw => hM.wU w (hF.2.2.2 w hw)) C.2.2.2.2.2.1 C.2.2.2.2.2.2.2.1 hW.1 a (ws_ob (isC_ok hc)) hF.1 j hF.2.1 (hM.w C.2.2.2.2.2.2.1 hF.2.2.1) (fun _ h9 => h9) hv hd (hk _ _ _ _ h l p e s m args below meth c D cy ad C H locs ls hl hW)
    · exact h.elim
  · exact h.elim
def op_pi (ci j : Nat) : Op := fun _ _ K pc L S σ => match S with
  | .int x :: .ref a :: S => match isC a ci with
    | true => K (pc + 3) L S (sI σ a j x)
    | false => False
  | _ => False
def op_pz (ci j : Nat) : Op := fun _ _ K pc L S σ => match S with
  | .int x :: .ref a :: S => match isC a ci with
    | true => (x = 0 ∨ x = 1) ∧ K (pc + 3) L S (sI σ a j x)
    | false => False
  | _ => False
def op_pr (ci j : Nat) : Op := fun _ _ K pc L S σ => match S with
  | .ref r :: .ref a :: S => match isC a ci with
    | true => K (pc + 3) L S (sR σ a j (r + 1))
    | false => False
  | _ => False
/-- what a store of a field needs of its class: its types, its names apart, this field not final -/
def TOK (T : u_T) (N j : Nat) (ty0 : Nat → FieldType) (ty : FieldType) : Prop := (∀ k, k < N → parseFieldDescriptor (T k).2.2.1 = some (ty0 k)) ∧ (∀ a, a < N → ∀ b, b < N → a ≠ b → (T a).2.1 ≠ (T b).2.1) ∧ (T j).2.2.2 = false ∧ parseFieldDescriptor (T j).2.2.1 = some ty
theorem ok_pi {M : Mt} {pc i ci j : Nat} {C : String} {T : u_T} {N : Nat} {ty0 : Nat → FieldType} (hM : MOK M) (hF : FOK M i ci j C T N) (hT : TOK T N j ty0 .int) (hkd : (kdOf ci)[j]? = some 0) (hd : decode (mB M) pc = .ok (.putfield i, 3)) : OpOK M pc (op_pi ci j) := by
  intro k Q K L S σ h hk
  unfold op_pi at h
  split at h
  · rename_i x a S
    split at h
    · rename_i hc
      intro l p e s m args below meth c D cy ad C H locs ls hl hW
      refine va_put (v := .int x) C.1 C.2.1 C.2.2.2.2.2.2.1 (fun w hw => hM.wU w (hF.2.2.2 w hw)) ty0 hT.1 hT.2.1 C.2.2.2.2.2.1 C.2.2.2.2.2.2.2.1 hW.1 hW.2.1 hW.2.2 a (ws_ob (isC_ok hc)) hF.1 j hF.2.1 (hM.w C.2.2.2.2.2.2.1 hF.2.2.1) (fun _ h9 => h9) hT.2.2.1 hT.2.2.2 rfl rfl (by rw [fl_len]; exact (List.getElem?_eq_some_iff.mp hkd).1) hd (fun H1 locs1 hP1 hD1 hS1 => ?_)
      rw [ws_sI (isC_ok hc) hkd] at hP1 hD1
      exact hk _ _ _ _ h l p e s m args below meth c D cy ad C H1 locs1 ls hl ⟨hP1, hD1, hS1⟩
    · exact h.elim
  · exact h.elim
theorem ok_pz {M : Mt} {pc i ci j : Nat} {C : String} {T : u_T} {N : Nat} {ty0 : Nat → FieldType} (hM : MOK M) (hF : FOK M i ci j C T N) (hT : TOK T N j ty0 .boolean) (hkd : (kdOf ci)[j]? = some 0) (hd : decode (mB M) pc = .ok (.putfield i, 3)) : OpOK M pc (op_pz ci j) := by
  intro k Q K L S σ h hk
  unfold op_pz at h
  split at h
  · rename_i x a S
    split at h
    · rename_i hc
      obtain ⟨hx, h⟩ := h
      intro l p e s m args below meth c D cy ad C H locs ls hl hW
      refine va_put (v := .int x) C.1 C.2.1 C.2.2.2.2.2.2.1 (fun w hw => hM.wU w (hF.2.2.2 w hw)) ty0 hT.1 hT.2.1 C.2.2.2.2.2.1 C.2.2.2.2.2.2.2.1 hW.1 hW.2.1 hW.2.2 a (ws_ob (isC_ok hc)) hF.1 j hF.2.1 (hM.w C.2.2.2.2.2.2.1 hF.2.2.1) (fun _ h9 => h9) hT.2.2.1 hT.2.2.2 (by rcases hx with rfl | rfl <;> rfl) (by rcases hx with rfl | rfl <;> rfl) (by rw [fl_len]; exact (List.getElem?_eq_some_iff.mp hkd).1) hd (fun H1 locs1 hP1 hD1 hS1 => ?_)
      rw [ws_sI (isC_ok hc) hkd] at hP1 hD1
      exact hk _ _ _ _ h l p e s m args below meth c D cy ad C H1 locs1 ls hl ⟨hP1, hD1, hS1⟩
    · exact h.elim
  · exact h.elim
theorem ok_pr {M : Mt} {pc i ci j : Nat} {C : String} {T : u_T} {N : Nat} {ty0 : Nat → FieldType} {ty : FieldType} (hM : MOK M) (hF : FOK M i ci j C T N) (hT : TOK T N j ty0 ty) (hn : ∀ a, narrow ty (.ref a) = .ref a) (hf : ∀ a, fits ty (.ref a) = true) (hkd : (kdOf ci)[j]? = some 1) (hd : decode (mB M) pc = .ok (.putfield i, 3)) : OpOK M pc (op_pr ci j) := by
  intro k Q K L S σ h hk
  unfold op_pr at h
  split at h
  · rename_i r a S
    split at h
    · rename_i hc
      intro l p e s m args below meth c D cy ad C H locs ls hl hW
      refine va_put (v := .ref (ad r)) C.1 C.2.1 C.2.2.2.2.2.2.1 (fun w hw => hM.wU w (hF.2.2.2 w hw)) ty0 hT.1 hT.2.1 C.2.2.2.2.2.1 C.2.2.2.2.2.2.2.1 hW.1 hW.2.1 hW.2.2 a (ws_ob (isC_ok hc)) hF.1 j hF.2.1 (hM.w C.2.2.2.2.2.2.1 hF.2.2.1) (fun _ h9 => h9) hT.2.2.1 hT.2.2.2 (hn _) (hf _) (by rw [fl_len]; exact (List.getElem?_eq_some_iff.mp hkd).1) hd (fun H1 locs1 hP1 hD1 hS1 => ?_)
      rw [show Value.ref (ad r) = rfv ad (r + 1) from rfl, ws_sR (isC_ok hc) hkd] at hP1 hD1
      exact hk _ _ _ _ h l p e s m args below meth c D cy ad C H1 locs1 ls hl ⟨hP1, hD1, hS1⟩
    · exact h.elim
  · exact h.elim

/-! rows -/
def op_iald : Op := fun _ _ K pc L S σ => match S with
  | .int i :: .ref a :: S => match arr a 1 with
    | some n => vp_in i n ∧ K (pc + 1) L (.int (gA σ a i.toNatClampNeg) :: S) σ
    | none => False
  | _ => False
theorem ok_iald {M : Mt} {pc : Nat} (hd : decode (mB M) pc = .ok (.iaload, 1)) : OpOK M pc op_iald := by
  intro k Q K L S σ h hk
  unfold op_iald at h
  split at h
  · split at h
    · rename_i hc
      obtain ⟨hi, h⟩ := h
      intro l p e s m args below meth c D cy ad C H locs ls hl hW
      exact va_iald C.1 C.2.1 C.2.2.2.2.2.2.2.1 hW.1 _ 0 (ws_in (t := 0) (by decide) (arr_ok hc)) rfl hi hd (hk _ _ _ _ h l p e s m args below meth c D cy ad C H locs ls hl hW)
    · exact h.elim
  · exact h.elim
def op_bald : Op := fun _ _ K pc L S σ => match S with
  | .int i :: .ref a :: S => match arr a 2 with
    | some n => vp_in i n ∧ K (pc + 1) L (.int (gA σ a i.toNatClampNeg) :: S) σ
    | none => False
  | _ => False
theorem ok_bald {M : Mt} {pc : Nat} (hd : decode (mB M) pc = .ok (.baload, 1)) : OpOK M pc op_bald := by
  intro k Q K L S σ h hk
  unfold op_bald at h
  split at h
  · split at h
    · rename_i hc
      obtain ⟨hi, h⟩ := h
      intro l p e s m args below meth c D cy ad C H locs ls hl hW
      exact va_bald C.1 C.2.1 C.2.2.2.2.2.2.2.1 hW.1 _ 1 (ws_in (t := 1) (by decide) (arr_ok hc)) rfl hi hd (hk _ _ _ _ h l p e s m args below meth c D cy ad C H locs ls hl hW)
    · exact h.elim
  · exact h.elim
def op_cald : Op := fun _ _ K pc L S σ => match S with
  | .int i :: .ref a :: S => match arr a 3 with
    | some n => vp_in i n ∧ K (pc + 1) L (.int (gA σ a i.toNatClampNeg) :: S) σ
    | none => False
  | _ => False
theorem ok_cald {M : Mt} {pc : Nat} (hd : decode (mB M) pc = .ok (.caload, 1)) : OpOK M pc op_cald := by
  intro k Q K L S σ h hk
  unfold op_cald at h
  split at h
  · split at h
    · rename_i hc
      obtain ⟨hi, h⟩ := h
      intro l p e s m args below meth c D cy ad C H locs ls hl hW
      exact va_cald C.1 C.2.1 C.2.2.2.2.2.2.2.1 hW.1 _ 2 (ws_in (t := 2) (by decide) (arr_ok hc)) rfl hi hd (hk _ _ _ _ h l p e s m args below meth c D cy ad C H locs ls hl hW)
    · exact h.elim
  · exact h.elim
def op_zald : Op := fun _ _ K pc L S σ => match S with
  | .int i :: .ref a :: S => match arr a 4 with
    | some n => vp_in i n ∧ K (pc + 1) L (.int (gA σ a i.toNatClampNeg) :: S) σ
    | none => False
  | _ => False
theorem ok_zald {M : Mt} {pc : Nat} (hd : decode (mB M) pc = .ok (.baload, 1)) : OpOK M pc op_zald := by
  intro k Q K L S σ h hk
  unfold op_zald at h
  split at h
  · split at h
    · rename_i hc
      obtain ⟨hi, h⟩ := h
      intro l p e s m args below meth c D cy ad C H locs ls hl hW
      exact va_zald C.1 C.2.1 C.2.2.2.2.2.2.2.1 hW.1 _ 3 (ws_in (t := 3) (by decide) (arr_ok hc)) rfl hi hd (hk _ _ _ _ h l p e s m args below meth c D cy ad C H locs ls hl hW)
    · exact h.elim
  · exact h.elim
def op_iast : Op := fun _ _ K pc L S σ => match S with
  | .int x :: .int i :: .ref a :: S => match arr a 1 with
    | some n => vp_in i n ∧ K (pc + 1) L S (sA σ a (upd (gA σ a) i.toNatClampNeg x))
    | none => False
  | _ => False
theorem ok_iast {M : Mt} {pc : Nat} (hd : decode (mB M) pc = .ok (.iastore, 1)) : OpOK M pc op_iast := by
  intro k Q K L S σ h hk
  unfold op_iast at h
  split at h
  · split at h
    · rename_i hc
      obtain ⟨hi, h⟩ := h
      intro l p e s m args below meth c D cy ad C H locs ls hl hW
      refine va_iast C.1 C.2.1 C.2.2.2.2.2.2.2.1 hW.1 hW.2.1 hW.2.2 _ 0 (ws_in (t := 0) (by decide) (arr_ok hc)) rfl hi hd (fun H1 locs1 hP1 hD1 hS1 => ?_)
      rw [ws_sA (t := 0) (by decide) (arr_ok hc)] at hP1 hD1
      exact hk _ _ _ _ h l p e s m args below meth c D cy ad C H1 locs1 ls hl ⟨hP1, hD1, hS1⟩
    · exact h.elim
  · exact h.elim
def op_bast : Op := fun _ _ K pc L S σ => match S with
  | .int x :: .int i :: .ref a :: S => match arr a 2 with
    | some n => vp_in i n ∧ K (pc + 1) L S (sA σ a (upd (gA σ a) i.toNatClampNeg (vp_nar .byte x)))
    | none => False
  | _ => False
theorem ok_bast {M : Mt} {pc : Nat} (hd : decode (mB M) pc = .ok (.bastore, 1)) : OpOK M pc op_bast := by
  intro k Q K L S σ h hk
  unfold op_bast at h
  split at h
  · split at h
    · rename_i hc
      obtain ⟨hi, h⟩ := h
      intro l p e s m args below meth c D cy ad C H locs ls hl hW
      refine va_bast C.1 C.2.1 C.2.2.2.2.2.2.2.1 hW.1 hW.2.1 hW.2.2 _ 1 (ws_in (t := 1) (by decide) (arr_ok hc)) rfl hi hd (fun H1 locs1 hP1 hD1 hS1 => ?_)
      rw [ws_sA (t := 1) (by decide) (arr_ok hc)] at hP1 hD1
      exact hk _ _ _ _ h l p e s m args below meth c D cy ad C H1 locs1 ls hl ⟨hP1, hD1, hS1⟩
    · exact h.elim
  · exact h.elim
def op_cast : Op := fun _ _ K pc L S σ => match S with
  | .int x :: .int i :: .ref a :: S => match arr a 3 with
    | some n => vp_in i n ∧ K (pc + 1) L S (sA σ a (upd (gA σ a) i.toNatClampNeg (vp_nar .char x)))
    | none => False
  | _ => False
theorem ok_cast {M : Mt} {pc : Nat} (hd : decode (mB M) pc = .ok (.castore, 1)) : OpOK M pc op_cast := by
  intro k Q K L S σ h hk
  unfold op_cast at h
  split at h
  · split at h
    · rename_i hc
      obtain ⟨hi, h⟩ := h
      intro l p e s m args below meth c D cy ad C H locs ls hl hW
      refine va_cast C.1 C.2.1 C.2.2.2.2.2.2.2.1 hW.1 hW.2.1 hW.2.2 _ 2 (ws_in (t := 2) (by decide) (arr_ok hc)) rfl hi hd (fun H1 locs1 hP1 hD1 hS1 => ?_)
      rw [ws_sA (t := 2) (by decide) (arr_ok hc)] at hP1 hD1
      exact hk _ _ _ _ h l p e s m args below meth c D cy ad C H1 locs1 ls hl ⟨hP1, hD1, hS1⟩
    · exact h.elim
  · exact h.elim
def op_zast : Op := fun _ _ K pc L S σ => match S with
  | .int x :: .int i :: .ref a :: S => match arr a 4 with
    | some n => vp_in i n ∧ K (pc + 1) L S (sA σ a (upd (gA σ a) i.toNatClampNeg (vp_nar .boolean x)))
    | none => False
  | _ => False
theorem ok_zast {M : Mt} {pc : Nat} (hd : decode (mB M) pc = .ok (.bastore, 1)) : OpOK M pc op_zast := by
  intro k Q K L S σ h hk
  unfold op_zast at h
  split at h
  · split at h
    · rename_i hc
      obtain ⟨hi, h⟩ := h
      intro l p e s m args below meth c D cy ad C H locs ls hl hW
      refine va_zast C.1 C.2.1 C.2.2.2.2.2.2.2.1 hW.1 hW.2.1 hW.2.2 _ 3 (ws_in (t := 3) (by decide) (arr_ok hc)) rfl hi hd (fun H1 locs1 hP1 hD1 hS1 => ?_)
      rw [ws_sA (t := 3) (by decide) (arr_ok hc)] at hP1 hD1
      exact hk _ _ _ _ h l p e s m args below meth c D cy ad C H1 locs1 ls hl ⟨hP1, hD1, hS1⟩
    · exact h.elim
  · exact h.elim
def op_lald : Op := fun _ _ K pc L S σ => match S with
  | .int i :: .ref a :: S => match arr a 5 with
    | some n => vp_in i n ∧ K (pc + 1) L (.long (gJ σ a i.toNatClampNeg) :: S) σ
    | none => False
  | _ => False
theorem ok_lald {M : Mt} {pc : Nat} (hd : decode (mB M) pc = .ok (.laload, 1)) : OpOK M pc op_lald := by
  intro k Q K L S σ h hk
  unfold op_lald at h
  split at h
  · split at h
    · rename_i hc
      obtain ⟨hi, h⟩ := h
      intro l p e s m args below meth c D cy ad C H locs ls hl hW
      exact va_lald C.1 C.2.1 C.2.2.2.2.2.2.2.1 hW.1 _ 4 (ws_lo (arr_ok hc)) rfl hi hd (hk _ _ _ _ h l p e s m args below meth c D cy ad C H locs ls hl hW)
    · exact h.elim
  · exact h.elim
def op_last : Op := fun _ _ K pc L S σ => match S with
  | .long x :: .int i :: .ref a :: S => match arr a 5 with
    | some n => vp_in i n ∧ K (pc + 1) L S (sJ σ a (vp_updL (gJ σ a) i.toNatClampNeg x))
    | none => False
  | _ => False
theorem ok_last {M : Mt} {pc : Nat} (hd : decode (mB M) pc = .ok (.lastore, 1)) : OpOK M pc op_last := by
  intro k Q K L S σ h hk
  unfold op_last at h
  split at h
  · split at h
    · rename_i hc
      obtain ⟨hi, h⟩ := h
      intro l p e s m args below meth c D cy ad C H locs ls hl hW
      refine va_last C.1 C.2.1 C.2.2.2.2.2.2.2.1 hW.1 hW.2.1 hW.2.2 _ 4 (ws_lo (arr_ok hc)) rfl hi hd (fun H1 locs1 hP1 hD1 hS1 => ?_)
      rw [ws_sJ (arr_ok hc)] at hP1 hD1
      exact hk _ _ _ _ h l p e s m args below meth c D cy ad C H1 locs1 ls hl ⟨hP1, hD1, hS1⟩
    · exact h.elim
  · exact h.elim
def op_alen : Op := fun _ _ K pc L S σ => match S with
  | .ref a :: S => match arr a 1 with
    | some n => K (pc + 1) L (.int (Int32.ofNat n) :: S) σ
    | none => False
  | _ => False
theorem ok_alen {M : Mt} {pc : Nat} (hd : decode (mB M) pc = .ok (.arraylength, 1)) : OpOK M pc op_alen := by
  intro k Q K L S σ h hk
  unfold op_alen at h
  split at h
  · split at h
    · rename_i hc
      intro l p e s m args below meth c D cy ad C H locs ls hl hW
      exact va_alen C.1 C.2.1 C.2.2.2.2.2.2.2.1 hW.1 _ 0 (ws_in (t := 0) (by decide) (arr_ok hc)) (ty := .int) rfl rfl hd (hk _ _ _ _ h l p e s m args below meth c D cy ad C H locs ls hl hW)
    · exact h.elim
  · exact h.elim

