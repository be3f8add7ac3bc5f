/-! a fen that changes -/
theorem QM.post {D : va_G} {cy : Nat → ClassId} {ad : Nat → Nat} {Q Q' : Option Value → Sto → Prop} (h : ∀ v τ, Q v τ → Q' v τ) {a : Array Value} {st : State} {o : Outcome} {t : State} (hq : QM D cy ad Q a st o t) : QM D cy ad Q' a st o t := by
  obtain ⟨⟨v, σ', h1, h2, h3⟩, h4⟩ := hq
  exact ⟨⟨v, σ', h1, h v σ' h2, h3⟩, h4⟩
theorem EvM.post {k : Nat} {M : Mt} {args : List Value} {σ : Sto} {Q Q' : Option Value → Sto → Prop} (h : EvM k M args σ Q) (hq : ∀ v τ, Q v τ → Q' v τ) : EvM k M args σ Q' := by
  intro l D cy ad p e ha hc hk s m a below hf h1 h2 h3
  obtain ⟨n, o, q1, q2, q3, q4, q5⟩ := h l D cy ad p e ha hc hk s m a below hf h1 h2 h3
  exact ⟨n, o, q1, q2, q3, QM.post hq q4, q5⟩

def wN (F : FS) (n : Nat) : FS := mkF n (fPl F) (fVo F) (fPu F) (fHo F) (fAg F) (fDy F) (fSd F)
def wPl (F : FS) (g : Nat → Int32) : FS := mkF (fN F) g (fVo F) (fPu F) (fHo F) (fAg F) (fDy F) (fSd F)
def wVo (F : FS) (g : Nat → Int32) : FS := mkF (fN F) (fPl F) g (fPu F) (fHo F) (fAg F) (fDy F) (fSd F)
def wPu (F : FS) (g : Nat → Int32) : FS := mkF (fN F) (fPl F) (fVo F) g (fHo F) (fAg F) (fDy F) (fSd F)
def wHo (F : FS) (g : Nat → Int32) : FS := mkF (fN F) (fPl F) (fVo F) (fPu F) g (fAg F) (fDy F) (fSd F)
def wAg (F : FS) (g : Nat → Int32) : FS := mkF (fN F) (fPl F) (fVo F) (fPu F) (fHo F) g (fDy F) (fSd F)
def wDy (F : FS) (v : Int32) : FS := mkF (fN F) (fPl F) (fVo F) (fPu F) (fHo F) (fAg F) v (fSd F)
def wSd (F : FS) (v : Int32) : FS := mkF (fN F) (fPl F) (fVo F) (fPu F) (fHo F) (fAg F) (fDy F) v
theorem cF_Pl (σ : Sto) (f : Nat) (g : Nat → Int32) : cF (sA σ (f + 1) g) f = wPl (cF σ f) (r7 g) := by
  simp [cF, wPl, gA_sA, gI_sA, fN, fPl, fVo, fPu, fHo, fAg, fDy, fSd, mkF]
theorem cF_Vo (σ : Sto) (f : Nat) (g : Nat → Int32) : cF (sA σ (f + 2) g) f = wVo (cF σ f) (r7 g) := by
  simp [cF, wVo, gA_sA, gI_sA, fN, fPl, fVo, fPu, fHo, fAg, fDy, fSd, mkF]
theorem cF_Pu (σ : Sto) (f : Nat) (g : Nat → Int32) : cF (sA σ (f + 3) g) f = wPu (cF σ f) (r7 g) := by
  simp [cF, wPu, gA_sA, gI_sA, fN, fPl, fVo, fPu, fHo, fAg, fDy, fSd, mkF]
theorem cF_Ho (σ : Sto) (f : Nat) (g : Nat → Int32) : cF (sA σ (f + 4) g) f = wHo (cF σ f) (r7 g) := by
  simp [cF, wHo, gA_sA, gI_sA, fN, fPl, fVo, fPu, fHo, fAg, fDy, fSd, mkF]
theorem cF_Ag (σ : Sto) (f : Nat) (g : Nat → Int32) : cF (sA σ (f + 5) g) f = wAg (cF σ f) (r7 g) := by
  simp [cF, wAg, gA_sA, gI_sA, fN, fPl, fVo, fPu, fHo, fAg, fDy, fSd, mkF]
theorem cF_N (σ : Sto) (f : Nat) (v : Int32) : cF (sI σ f 5 v) f = wN (cF σ f) v.toNatClampNeg := by
  simp [cF, wN, gA_sI, gI_sI, fN, fPl, fVo, fPu, fHo, fAg, fDy, fSd, mkF]
theorem cF_Dy (σ : Sto) (f : Nat) (v : Int32) : cF (sI σ f 6 v) f = wDy (cF σ f) v := by
  simp [cF, wDy, gA_sI, gI_sI, fN, fPl, fVo, fPu, fHo, fAg, fDy, fSd, mkF]
theorem cF_Sd (σ : Sto) (f : Nat) (v : Int32) : cF (sI σ f 7 v) f = wSd (cF σ f) v := by
  simp [cF, wSd, gA_sI, gI_sI, fN, fPl, fVo, fPu, fHo, fAg, fDy, fSd, mkF]
def minS (x y : Int32) : Int32 := if y < x then y else x
def maxS (x y : Int32) : Int32 := if x < y then y else x
def sayF (F : FS) (q nm : Nat) : FS := wSd (wAg (wHo F (upd (fHo F) nm (nI q))) (upd (fAg F) nm 0)) (minS 9999 (fSd F + 1))
theorem ev_say (k : Nat) (σ : Sto) (f : Nat) (hf : f = 5 ∨ f = 11) (q nm : Nat) (hnm : nm < 7) :
    EvM (k + 1) M_X2_say [.ref f, .int (nI q), .int (nI nm)] σ (fun v τ => v = none ∧ cF τ f = sayF (cF σ f) q nm ∧ gI τ f 5 = gI σ f 5 ∧ Fr [f, f + 4, f + 5] σ τ) := by
  refine EvM.of mk_X2_say (Nat.le_of_ble_eq_true rfl) ?_
  have key : ∀ τ, τ = sI (sA (sA σ (f + 4) (upd (gA σ (f + 4)) (nI nm).toNatClampNeg (nI q))) (f + 5) (upd (gA (sA σ (f + 4) (upd (gA σ (f + 4)) (nI nm).toNatClampNeg (nI q))) (f + 5)) (nI nm).toNatClampNeg 0)) f 7 (minS 9999 (gI σ f 7 + 1)) → cF τ f = sayF (cF σ f) q nm ∧ gI τ f 5 = gI σ f 5 ∧ Fr [f, f + 4, f + 5] σ τ := by
    rintro τ rfl
    refine ⟨?_, by rw [gI_sI, if_neg (by simp)]; rfl, ?_⟩
    · rw [cF_Sd, cF_Ag, cF_Ho, nI_clamp (by omega), r7_upd hnm, r7_upd hnm, gA_ne (by omega)]
      rfl
    · exact ((Fr.rf.sA (by simp)).sA (by simp)).sI (by simp)
  rcases hf with rfl | rfl
  all_goals
    refine wpW K_X2_say [] 30 ?_
    exact ⟨in7 hnm, in7 hnm, rfl, key _ rfl⟩
def inS (n : Nat) (x : Int32) : Bool := decide (0 ≤ x.toInt ∧ x.toInt < n)
theorem in_of {n : Nat} {x : Int32} (hn : n ≤ 7) (h : inS n x = true) : x.toNatClampNeg < n ∧ x = nI x.toNatClampNeg := by
  have h' := of_decide_eq_true h
  obtain ⟨j, h1, rfl⟩ := vp_in_of (x := x) (n := n) (vp_in_iff.mpr h') (by omega)
  rw [nI_clamp (by omega)]
  exact ⟨h1, rfl⟩
theorem fs_say {F : FS} {q nm : Nat} (h : fsOK F) (hq : q < fN F) : fsOK (sayF F q nm) := by
  refine ⟨h.1, fun i hi => ?_⟩
  show ∃ h, h < fN F ∧ upd (fHo F) nm (nI q) i = nI h
  by_cases hin : i = nm
  · subst hin; exact ⟨q, hq, pk_us⟩
  · rw [pk_un hin]; exact h.2 i hi
def saidS (ev : (Nat → Int32) → Int32) (F : FS) (x y : Int32) : Int32 × FS :=
  if inS (fN F) x && inS (fN F) y then (if fHo F y.toNatClampNeg = x then (-2, F) else if canS ev F x.toNatClampNeg y.toNatClampNeg then (fHo F y.toNatClampNeg, sayF F x.toNatClampNeg y.toNatClampNeg) else (-3, F)) else (-1, F)
theorem ev_saidBy (k : Nat) (σ : Sto) (r f : Nat) (hr : r = 46 ∨ r = 49) (hf : f = 5 ∨ f = 11) (hc : cOK σ f) (ev : (Nat → Int32) → Int32) (hR : RC σ r ev) (x y : Int32) :
    EvM (k + 4) M_X2_saidBy [.ref f, .ref r, .int x, .int y] σ (fun v τ => v = some (.int (saidS ev (cF σ f) x y).1) ∧ cF τ f = (saidS ev (cF σ f) x y).2 ∧ cOK τ f ∧ Fr [f, f + 4, f + 5, r + 2] σ τ) := by
  have hx := ev_has (k + 3) σ f hf hc x
  have hy := ev_has (k + 3) σ f hf hc y
  have hcan := fun q nm => ev_can k σ r f hr hf hc ev hR q nm
  have hsay : ∀ τ q nm, Fr [r + 2] σ τ → q < fN (cF σ f) → nm < fN (cF σ f) → EvM (k + 3) M_X2_say [.ref f, .int (nI q), .int (nI nm)] τ (fun v υ => v = none ∧ cF υ f = sayF (cF σ f) q nm ∧ cOK υ f ∧ Fr [f, f + 4, f + 5, r + 2] σ υ) := by
    intro τ q nm h hq hnm l D cy ad
    have h7 := hc.2.1
    have e := cF_fr h (apart hr hf)
    have hE : EvM (k + 3) M_X2_say [.ref f, .int (nI q), .int (nI nm)] τ (fun v υ => v = none ∧ cF υ f = sayF (cF σ f) q nm ∧ cOK υ f ∧ Fr [f, f + 4, f + 5, r + 2] σ υ) := by
      have h0 := ev_say (k + 2) τ f hf q nm (by omega)
      rw [e] at h0
      have hcc := cOK_fr h (apart hr hf) hc
      refine EvM.post h0 ?_
      rintro v υ ⟨h1, h2, h3, h4⟩
      refine ⟨h1, h2, ⟨?_, by rw [h2]; exact fs_say hc.2 hq⟩, (h.mono (by simp)).tr (h4.mono (by simp))⟩
      rw [h3, h2, hcc.1, e]
      rfl
    exact hE l D cy ad
  obtain ⟨-, -, -, rHo, -⟩ := cF_rd σ f
  have h7 := hc.2.1
  refine EvM.of mk_X2_saidBy (Nat.le_of_ble_eq_true rfl) ?_
  generalize hF : cF σ f = F at *
  have hsame : ∀ z : Int32, (saidS ev F x y) = (z, F) → ∀ τ, Fr [f, f + 4, f + 5, r + 2] σ τ → cF τ f = F → cOK τ f → (some (.int z) = some (Value.int (saidS ev F x y).1) ∧ cF τ f = (saidS ev F x y).2 ∧ cOK τ f ∧ Fr [f, f + 4, f + 5, r + 2] σ τ) := by
    intro z hz τ h1 h2 h3
    rw [hz]
    exact ⟨rfl, h2, h3, h1⟩
  have hself := hsame
  rcases hf with rfl | rfl <;> rcases hr with rfl | rfl
  all_goals
    refine wpW K_X2_saidBy [] 60 ?_
    refine ⟨_, hx, ?_⟩
    rintro v τ ⟨rfl, rfl⟩
    refine ⟨fun h => ?_, fun h => ⟨_, hy, ?_⟩⟩
    · have h1 : inS (fN F) x = false := (bI_eq _).mp h
      exact hsame (-1) (by simp [saidS, h1]) _ Fr.rf hF hc
    · have h1 : inS (fN F) x = true := (bI_ne _).mp h
      obtain ⟨hx1, hx2⟩ := in_of h7 h1
      rintro v τ ⟨rfl, rfl⟩
      refine ⟨fun h => ?_, fun h => ?_⟩
      · have h2 : inS (fN F) y = true := (bI_ne _).mp h
        obtain ⟨hy1, hy2⟩ := in_of h7 h2
        have e4 := rHo y.toNatClampNeg (by omega)
        rw [← hy2] at e4
        refine ⟨by rw [hy2]; exact in7 (by omega), fun h3 => ⟨_, by rw [hx2, hy2]; exact hcan x.toNatClampNeg y.toNatClampNeg hx1 hy1, ?_⟩, fun h3 => ?_⟩
        · rw [e4] at h3
          rintro v υ ⟨rfl, hfr⟩
          refine ⟨fun h5 => ⟨_, by rw [hx2, hy2]; exact hsay υ x.toNatClampNeg y.toNatClampNeg hfr hx1 hy1, ?_⟩, fun h5 => ?_⟩
          · have h6 := (bI_ne _).mp h5
            rintro v υ2 ⟨rfl, hs1, hs2, hs3⟩
            have hz : saidS ev F x y = (fHo F y.toNatClampNeg, sayF F x.toNatClampNeg y.toNatClampNeg) := by simp [saidS, h1, h2, h3, h6]
            rw [hz, e4]
            exact ⟨rfl, hs1, hs2, hs3⟩
          · have h6 := (bI_eq _).mp h5
            exact hsame (-3) (by simp [saidS, h1, h2, h3, h6]) _ (hfr.mono (by simp)) (by rw [cF_fr hfr (by simp; omega), hF]) (cOK_fr hfr (by simp; omega) hc)
        · rw [e4] at h3
          exact hsame (-2) (by simp [saidS, h1, h2, h3]) _ Fr.rf hF hc
      · have h2 : inS (fN F) y = false := (bI_eq _).mp h
        exact hsame (-1) (by simp [saidS, h2]) _ Fr.rf hF hc
def signS (F : FS) (x n : Int32) : Int32 × FS :=
  if inS (fN F) x && !decide (n < 1) && !decide (99 < n) then (if fHo F x.toNatClampNeg = x then (-2, F) else if fPu F x.toNatClampNeg < n ∨ 99 < fPu F (hoN F x.toNatClampNeg) + n then (-3, F) else
    (upd (upd (fPu F) x.toNatClampNeg (fPu F x.toNatClampNeg - n)) (hoN F x.toNatClampNeg) (upd (fPu F) x.toNatClampNeg (fPu F x.toNatClampNeg - n) (hoN F x.toNatClampNeg) + n) (hoN F x.toNatClampNeg), wPu F (upd (upd (fPu F) x.toNatClampNeg (fPu F x.toNatClampNeg - n)) (hoN F x.toNatClampNeg) (upd (fPu F) x.toNatClampNeg (fPu F x.toNatClampNeg - n) (hoN F x.toNatClampNeg) + n)))) else (-1, F)
theorem r7_2 (P : Nat → Int32) {i j : Nat} (n : Int32) (hi : i < 7) (hj : j < 7) : upd (upd (r7 P) i (r7 P i - n)) j (upd (r7 P) i (r7 P i - n) j + n) = r7 (upd (upd P i (P i - n)) j (upd P i (P i - n) j + n)) := by
  rw [r7_lt hi, ← r7_upd hi, r7_lt hj, ← r7_upd hj]
theorem ev_signedFor (k : Nat) (σ : Sto) (f : Nat) (hf : f = 5 ∨ f = 11) (hc : cOK σ f) (x n : Int32) :
    EvM (k + 1) M_X2_signedFor [.ref f, .int x, .int n] σ (fun v τ => v = some (.int (signS (cF σ f) x n).1) ∧ cF τ f = (signS (cF σ f) x n).2 ∧ cOK τ f ∧ Fr [f + 3] σ τ) := by
  have hx := ev_has k σ f hf hc x
  obtain ⟨-, -, rPu, rHo, -⟩ := cF_rd σ f
  have h7 := hc.2.1
  have hset : ∀ g, cF (sA σ (f + 3) g) f = wPu (cF σ f) (r7 g) := cF_Pu σ f
  refine EvM.of mk_X2_signedFor (Nat.le_of_ble_eq_true rfl) ?_
  have hOK : ∀ τ, gI τ f 5 = gI σ f 5 → ∀ g, cF τ f = wPu (cF σ f) g → cOK τ f := by
    intro τ h1 g h2
    refine ⟨by rw [h1, h2]; exact hc.1, by rw [h2]; exact hc.2⟩
  have hss : ∀ g g', sA (sA σ (f + 3) g) (f + 3) g' = sA σ (f + 3) g' := fun _ _ => sA_sA
  have hgg : ∀ g, gA (sA σ (f + 3) g) (f + 3) = g := fun _ => gA_eq
  have hfrr : ∀ g, Fr [f + 3] σ (sA σ (f + 3) g) := fun _ => fr_one
  have hsz : ∀ g, gI (sA σ (f + 3) g) f 5 = gI σ f 5 := fun _ => rfl
  have hpu : fPu (cF σ f) = r7 (gA σ (f + 3)) := rfl
  generalize hF : cF σ f = F at *
  rcases hf with rfl | rfl
  all_goals
    refine wpW K_X2_signedFor [62] 60 ?_
    refine ⟨_, hx, ?_⟩
    rintro v τ ⟨h9, rfl⟩
    obtain rfl := h9.symm
    refine ⟨fun h => ?_, fun h => ⟨fun hn => ?_, fun hn => ⟨fun hn2 => ?_, fun hn2 => ?_⟩⟩⟩
    · have h1 : inS (fN F) x = false := (bI_eq _).mp h
      have hz : signS F x n = (-1, F) := by simp [signS, h1]
      rw [hz]; exact ⟨rfl, hF, hc, Fr.rf⟩
    · have hz : signS F x n = (-1, F) := by simp [signS, hn]
      rw [hz]; exact ⟨rfl, hF, hc, Fr.rf⟩
    · have h1 : inS (fN F) x = true := (bI_ne _).mp h
      obtain ⟨hx1, hx2⟩ := in_of h7 h1
      obtain ⟨ho1, ho2⟩ := fs_ho hc.2 (hF ▸ hx1 : x.toNatClampNeg < fN (cF _ _))
      rw [hF] at ho1 ho2
      have e4 := rHo x.toNatClampNeg (by omega)
      have e3 := rPu x.toNatClampNeg (by omega)
      rw [← hx2] at e4 e3
      have hn3 : ¬ 99 < n := Int32.not_lt.mpr hn2
      refine ⟨by rw [hx2]; exact in7 (by omega), fun h3 => ⟨by rw [hx2]; exact in7 (by omega), fun h5 => ?_, fun h5 => ⟨by rw [e4, ho2]; exact in7 (by omega), fun h6 => ?_, fun h6 => ?_⟩⟩, fun h3 => ?_⟩
      · rw [e4] at h3; rw [e3] at h5
        have hz : signS F x n = (-3, F) := by simp [signS, h1, hn, hn3, h3, h5]
        rw [hz]; exact ⟨rfl, hF, hc, Fr.rf⟩
      · rw [e4] at h3; rw [e3] at h5
        rw [e4, ho2, rPu _ (by omega)] at h6
        have h7' : ¬ 99 < fPu F (hoN F x.toNatClampNeg) + n := Int32.not_lt.mpr h6
        have hne : hoN F x.toNatClampNeg ≠ x.toNatClampNeg := fun e => h3 (by rw [ho2, e, ← hx2])
        have hz : signS F x n = (upd (upd (fPu F) x.toNatClampNeg (fPu F x.toNatClampNeg - n)) (hoN F x.toNatClampNeg) (upd (fPu F) x.toNatClampNeg (fPu F x.toNatClampNeg - n) (hoN F x.toNatClampNeg) + n) (hoN F x.toNatClampNeg), wPu F (upd (upd (fPu F) x.toNatClampNeg (fPu F x.toNatClampNeg - n)) (hoN F x.toNatClampNeg) (upd (fPu F) x.toNatClampNeg (fPu F x.toNatClampNeg - n) (hoN F x.toNatClampNeg) + n))) := by
          simp [signS, h1, hn, hn3, h3, h5, h7']
        rw [hz]
        rw [e4, ho2]
        generalize x.toNatClampNeg = i at *
        subst hx2
        generalize hoN F i = j at *
        refine wpW K_X2_signedFor [] 60 ?_
        refine ⟨in7 (by omega), in7 (by omega), in7 (by omega), in7 (by omega), in7 (by omega), ?_⟩
        rw [nI_clamp (by omega), nI_clamp (by omega), hgg, hss, hgg, hpu, r7_2 _ n (by omega) (by omega)]
        exact ⟨by rw [r7_lt (by omega)], hset _, hOK _ rfl _ (hset _), hfrr _⟩
      · rw [e4] at h3; rw [e3] at h5
        rw [e4, ho2, rPu _ (by omega)] at h6
        have h8 : 99 < fPu F (hoN F x.toNatClampNeg) + n := Int32.not_le.mp h6
        have hz : signS F x n = (-3, F) := by simp [signS, h1, hn, hn3, h3, h8]
        rw [hz]; exact ⟨rfl, hF, hc, Fr.rf⟩
      · rw [e4] at h3
        have hz : signS F x n = (-2, F) := by simp [signS, h1, hn, hn3, h3]
        rw [hz]; exact ⟨rfl, hF, hc, Fr.rf⟩
    · have hn3 : 99 < n := Int32.not_le.mp hn2
      have hz : signS F x n = (-1, F) := by simp [signS, hn3]
      rw [hz]; exact ⟨rfl, hF, hc, Fr.rf⟩
