/-! reading a rule: what it is to read one (both sides meet in this) -/
abbrev RR : Type := Bool × Nat × List Int32 × Int32
def isLet (c : Int32) : Bool := decide (c = 97) || decide (c = 102) || decide (c = 104) || decide (c = 110) || decide (c = 111) || decide (c = 117) || decide (c = 118)
/-- digits from p on, n at most: how many, and the number -/
def numS (cs : Nat → Int32) : Nat → Nat → Int32 → Nat → Nat × Int32
  | 0, _, x, k => (k, x)
  | n + 1, p, x, k => if isDg (cs p) then numS cs n (p + 1) (10 * x + cs p - 48) (k + 1) else (k, x)
def thingP (cs as : Nat → Int32) (deep : Option (Nat → RR)) (p : Nat) : RR :=
  if cs p = 40 then (match deep with
    | none => (false, p, [], 0)
    | some f => if (f (p + 1)).1 && decide (cs (f (p + 1)).2.1 = 41) then (true, (f (p + 1)).2.1 + 1, (f (p + 1)).2.2.1, (f (p + 1)).2.2.2) else (false, (f (p + 1)).2.1, [], 0))
  else if isLet (cs p) then (true, p + 1, [1000 + cs p], thS as (cs p))
  else (decide (0 < (numS cs 3 p 0 0).1), p + (numS cs 3 p 0 0).1, [(numS cs 3 p 0 0).2], (numS cs 3 p 0 0).2)
/-- leading minus signs: how many of n at most -/
def leadS (cs : Nat → Int32) : Nat → Nat → Nat
  | 0, _ => 0
  | n + 1, p => if cs p = 45 then leadS cs n (p + 1) + 1 else 0
def signP (cs : Nat → Int32) (th : Nat → RR) (p : Nat) : RR :=
  if leadS cs 40 p % 2 = 1 then ((th (p + leadS cs 40 p)).1, (th (p + leadS cs 40 p)).2.1, (th (p + leadS cs 40 p)).2.2.1 ++ [1126], -(th (p + leadS cs 40 p)).2.2.2) else th (p + leadS cs 40 p)
def chainP (cs : Nat → Int32) (op : Int32 → Bool) (sub : Nat → RR) : Nat → RR → RR
  | 0, r => r
  | n + 1, r => if r.1 && op (cs r.2.1) then chainP cs op sub n ((sub (r.2.1 + 1)).1, (sub (r.2.1 + 1)).2.1, r.2.2.1 ++ (sub (r.2.1 + 1)).2.2.1 ++ [1000 + cs r.2.1], joinS (cs r.2.1) r.2.2.2 (sub (r.2.1 + 1)).2.2.2) else r
def mulO (c : Int32) : Bool := decide (c = 42) || decide (c = 47)
def addO (c : Int32) : Bool := decide (c = 43) || decide (c = 45)
def cmpO (c : Int32) : Bool := decide (c = 60) || decide (c = 62) || decide (c = 61)
def prodP (cs : Nat → Int32) (th : Nat → RR) (p : Nat) : RR := chainP cs mulO (signP cs th) 40 (signP cs th p)
def sumP (cs : Nat → Int32) (th : Nat → RR) (p : Nat) : RR := chainP cs addO (prodP cs th) 40 (prodP cs th p)
def compP (cs : Nat → Int32) (th : Nat → RR) (p : Nat) : RR := chainP cs cmpO (sumP cs th) 1 (sumP cs th p)
/-- l brackets deep at most -/
def ruleP (cs as : Nat → Int32) : Nat → Nat → RR
  | 0 => compP cs (thingP cs as none)
  | l + 1 => compP cs (thingP cs as (some (ruleP cs as l)))
def deepP (cs as : Nat → Int32) (l : Nat) : Option (Nat → RR) := match l with
  | 0 => none
  | l + 1 => some (ruleP cs as l)
theorem ruleP_eq (cs as : Nat → Int32) (l : Nat) : ruleP cs as l = compP cs (thingP cs as (deepP cs as l)) := by cases l <;> rfl
/-! the class's reader -/
def SW (τ : Sto) (s : Nat) : Prop := ∃ m, m ≤ 40 ∧ gI τ s 2 = nI m
def SI (τ : Sto) (s : Nat) (L : List Int32) : Prop := gI τ s 2 = nI L.length ∧ L.length ≤ 40 ∧ rowIs (gA τ (s + 1)) L
theorem SI.w {τ : Sto} {s : Nat} {L : List Int32} (h : SI τ s L) : SW τ s := ⟨L.length, h.2.1, h.1⟩
theorem ev_puts (k : Nat) (σ : Sto) (s : Nat) (hs : s = 46 ∨ s = 49) (hw : SW σ s) (x : Int32) : EvM k M_X5_puts [.ref s, .int x] σ (fun v τ => v = none ∧ SW τ s ∧ (∀ L, SI σ s L → L.length < 40 → SI τ s (L ++ [x])) ∧ Fr [s, s + 1] σ τ) := by
  obtain ⟨m, hm, hsz⟩ := hw
  have hpush : ∀ τ, gI τ s 2 = nI (m + 1) → gA τ (s + 1) = upd (gA σ (s + 1)) m x → m < 40 → ∀ L, SI σ s L → L.length < 40 → SI τ s (L ++ [x]) := by
    intro τ h1 h2 h3 L hL h4
    have hml : m = L.length := by
      have := hL.1
      rw [hsz, eq_of_nI (by omega) (by omega)] at this
      exact this
    subst hml
    refine ⟨by rw [h1, List.length_append]; rfl, by rw [List.length_append]; exact h4, ?_⟩
    rw [h2]; exact rowIs_push hL.2.2
  have hfull : ¬ m < 40 → ∀ L, SI σ s L → L.length < 40 → SI σ s (L ++ [x]) := by
    intro h L hL h4
    have := hL.1
    rw [hsz, eq_of_nI (by omega) (by omega)] at this
    omega
  refine EvM.of mk_X5_puts (Nat.le_of_ble_eq_true rfl) ?_
  rcases hs with rfl | rfl
  all_goals
    refine wpW K_X5_puts [] 40 ?_
    refine ⟨fun h => absurd h (by rw [hsz]; exact nI_pos (by omega)), fun _ => ⟨fun h => ⟨rfl, ⟨m, hm, hsz⟩, hfull ?_, Fr.rf⟩, fun h => ?_⟩⟩
    · rw [hsz, show (40 : Int32) = nI 40 from rfl, le_of_nI (by omega) (by omega)] at h; omega
    · rw [hsz, show (40 : Int32) = nI 40 from rfl, le_of_nI (by omega) (by omega)] at h
      refine ⟨by rw [hsz]; exact in40 (by omega), rfl, ⟨m + 1, by omega, ?_⟩, hpush _ ?_ ?_ (by omega), (Fr.rf.sA (by simp)).sI (by simp)⟩
      · show gI σ _ 2 + 1 = _
        rw [hsz, nI_1]
      · show gI σ _ 2 + 1 = _
        rw [hsz, nI_1]
      · show upd (gA σ _) (gI σ _ 2).toNatClampNeg x = _
        rw [hsz, nI_clamp (by omega)]
theorem ev_becomesNone (k : Nat) (σ : Sto) (s : Nat) (hs : s = 46 ∨ s = 49) : EvM (k + 1) M_X5_becomesNone [.ref s] σ (fun v τ => v = none ∧ SI τ s [1118, 1102, 1045] ∧ Fr [s, s + 1] σ τ) := by
  have h0 : SI (sI σ s 2 0) s [] := ⟨by rw [gI_sI, if_pos ⟨rfl, rfl⟩]; rfl, by simp, fun j x h => by simp at h⟩
  have p1 := ev_puts k (sI σ s 2 0) s hs h0.w 1118
  refine EvM.of mk_X5_becomesNone (Nat.le_of_ble_eq_true rfl) ?_
  have tail : ∀ τ, SI τ s [1118] → Fr [s, s + 1] σ τ → ∃ Q, EvM k M_X5_puts [.ref s, .int 1102] τ Q ∧ ∀ v υ, Q v υ → (v = none ∧ ∃ Q2, EvM k M_X5_puts [.ref s, .int 1045] υ Q2 ∧ ∀ w ω, Q2 w ω → (w = none ∧ SI ω s [1118, 1102, 1045] ∧ Fr [s, s + 1] σ ω)) := by
    intro τ h1 h2
    refine ⟨_, ev_puts k τ s hs h1.w 1102, ?_⟩
    rintro v υ ⟨rfl, q1, q2, q3⟩
    refine ⟨rfl, _, ev_puts k υ s hs q1 1045, ?_⟩
    rintro w ω ⟨rfl, q4, q5, q6⟩
    exact ⟨rfl, q5 _ (q2 _ h1 (by simp)) (by simp), (h2.tr q3).tr q6⟩
  have hfr0 : Fr [s, s + 1] σ (sI σ s 2 0) := Fr.rf.sI (by simp)
  rcases hs with rfl | rfl
  all_goals
    refine wpW K_X5_becomesNone [] 40 ?_
    refine ⟨_, p1, ?_⟩
    rintro v τ ⟨rfl, -, q2, q3⟩
    obtain ⟨Q, e1, e2⟩ := tail τ (q2 [] h0 (by simp)) (hfr0.tr q3)
    refine ⟨Q, e1, ?_⟩
    intro v υ hQ
    obtain ⟨rfl, Q2, e3, e4⟩ := e2 v υ hQ
    refine ⟨Q2, e3, ?_⟩
    intro w ω hw
    obtain ⟨rfl, q7, q8⟩ := e4 w ω hw
    exact ⟨rfl, q7, q8⟩
/-- the sign at p, -1 behind the text's end or 40 signs -/
def csS (t : Nat) (g : Nat → Int32) (p : Nat) : Int32 := if p < 40 ∧ p < t then g p else -1
theorem cs_at {t : Nat} {g : Nat → Int32} {p : Nat} (ht : t ≤ 80) (hp : p < 40) : atS t g (nI p) = csS t g p := by
  unfold atS csS inS
  rw [nI_toInt (by omega)]
  by_cases h : p < t
  · rw [if_pos (decide_eq_true (by omega)), if_pos ⟨hp, h⟩, nI_clamp (by omega)]
  · rw [if_neg (by rw [decide_eq_true_eq]; omega), if_neg (fun c => h c.2)]
/-- the reader at p, over the text and the rule at s -/
def RD (σ : Sto) (s p : Nat) : Prop := gR σ 17 0 = 2 ∧ gR σ 17 1 = s + 1 ∧ gI σ 17 2 = nI p ∧ p ≤ 80
theorem ev_next (k : Nat) (σ : Sto) (s p : Nat) (hx : xOK σ) (hd : RD σ s p) : EvM (k + 1) M_X6_next [.ref 17] σ (fun v τ => τ = σ ∧ v = some (.int (csS (xT σ) (gA σ 2) p))) := by
  obtain ⟨h1, h2, h3, h4⟩ := hd
  have h80 := hx.2
  refine EvM.of mk_X6_next (Nat.le_of_ble_eq_true rfl) ?_
  refine wpW K_X6_next [] 40 ?_
  refine ⟨fun h => ⟨rfl, ?_⟩, fun h => ⟨1, h1, ⟨_, ev_at k σ hx _, ?_⟩⟩⟩
  · rw [h3, show (40 : Int32) = nI 40 from rfl, le_of_nI (by omega) (by omega)] at h
    rw [csS, if_neg (fun c => by omega)]
  · rw [h3, show (40 : Int32) = nI 40 from rfl, le_of_nI (by omega) (by omega)] at h
    rintro v τ ⟨h9, rfl⟩
    obtain rfl := h9.symm
    exact ⟨rfl, by rw [h3, cs_at h80 (by omega)]⟩
