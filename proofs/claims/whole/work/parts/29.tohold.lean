/-! the fewest sayings by which a name comes to one -/
def sayN (ev : (Nat → Int32) → Int32) (F : FS) (nm : Nat) : Nat := maskN (fun q => canS ev F q nm) (fN F)
theorem sayN_nI {ev : (Nat → Int32) → Int32} {F : FS} {nm : Nat} (h : fN F ≤ 7) : sayersS ev F nm = nI (sayN ev F nm) := mask_nI h
theorem sayN_lt {ev : (Nat → Int32) → Int32} {F : FS} {nm : Nat} (h : fN F ≤ 7) : sayN ev F nm < 128 := Nat.lt_of_lt_of_le (mask_lt _ _) (pow7 h).1
def expS (ev : (Nat → Int32) → Int32) (G : FS) (nm : Nat) (st : MS3) (q : Nat) : MS3 := meetS (sayN ev (wHo G (upd (fHo G) nm (nI q))) nm) (nI q) st
def toL (ev : (Nat → Int32) → Int32) (G : FS) (nm one : Nat) : Nat → Nat → MS3 → Nat → Option (Nat × (Nat → Int32))
  | 0, _, _, _ => none
  | c + 1, s, st, b => if st.1 / 2 ^ one % 2 = 1 then some (s, st.2.2) else toL ev G nm one c (s + 1) ((st.2.1.drop b).foldl (expS ev G nm) st) st.2.1.length
/-- queue and from hold only people -/
def stOK (n : Nat) (st : MS3) : Prop := (∀ q ∈ st.2.1, q < n) ∧ ∀ q, q < 7 → st.1 / 2 ^ q % 2 = 1 → okI (st.2.2 q)
theorem pr_ext {σ : Sto} {a j : Nat} {v : Int32} (h : gI σ a j = v) : sI σ a j v = σ := by
  refine Prod.ext ?_ rfl
  funext x y
  show (if x = a ∧ y = j then v else σ.1 x y) = σ.1 x y
  by_cases e : x = a ∧ y = j
  · rw [if_pos e, e.1, e.2]; exact h.symm
  · rw [if_neg e]
def fromOK (σ : Sto) : Prop := ∀ q, q < 7 → okI (gA σ 21 q)
theorem meet_pre (t : Nat) (b : Int32) (st : MS3) : ∃ e, (meetS t b st).2.1 = st.2.1 ++ e := by
  unfold meetS
  refine fo_inv (α := MS3) (P := fun _ (s : MS3) => ∃ e, s.2.1 = st.2.1 ++ e) ⟨[], by simp⟩ ?_
  rintro i s - ⟨e, he⟩
  unfold meet1
  split
  · exact ⟨e ++ [i], by rw [he, List.append_assoc]⟩
  · exact ⟨e, he⟩
theorem meet_lt {n t : Nat} {b : Int32} {st : MS3} (hb : ∀ q, q < 7 → t / 2 ^ q % 2 = 1 → q < n) (h : ∀ q ∈ st.2.1, q < n) : ∀ q ∈ (meetS t b st).2.1, q < n := by
  unfold meetS
  refine fo_inv (α := MS3) (P := fun _ (s : MS3) => ∀ q ∈ s.2.1, q < n) h ?_
  intro i s hi hs
  unfold meet1
  split
  · rename_i c
    intro q hq
    rcases List.mem_append.mp hq with hq | hq
    · exact hs q hq
    · rw [List.mem_singleton.mp hq]
      exact hb i hi c.1.1
  · exact hs
theorem meet_fr {t : Nat} {b : Int32} {st : MS3} (hb : okI b) (h : ∀ q, q < 7 → okI (st.2.2 q)) : ∀ q, q < 7 → okI ((meetS t b st).2.2 q) := by
  unfold meetS
  refine fo_inv (α := MS3) (P := fun _ (s : MS3) => ∀ q, q < 7 → okI (s.2.2 q)) h ?_
  intro i s hi hs
  unfold meet1
  split
  · intro q hq
    by_cases e : q = i
    · subst e; show okI (upd s.2.2 q b q); rw [pk_us]; exact hb
    · show okI (upd s.2.2 i b q); rw [pk_un e]; exact hs q hq
  · exact hs
theorem sayN_bit {ev : (Nat → Int32) → Int32} {F : FS} {nm q : Nat} (h : sayN ev F nm / 2 ^ q % 2 = 1) : q < fN F := by
  unfold sayN at h
  rw [mask_bit] at h
  by_cases c : q < fN F ∧ canS ev F q nm = true
  · exact c.1
  · rw [if_neg c] at h; omega
def toH (ev : (Nat → Int32) → Int32) (F : FS) (nm one : Nat) (fr : Nat → Int32) : Option (Nat × (Nat → Int32)) := if fHo F nm = nI one then some (0, fr) else toL ev (wAg F (upd (fAg F) nm 0)) nm one 4 1 (meetS (sayN ev F nm) (-1) (0, [], fr)) 0
def lW (r : Nat) : List Nat := [11, 15, 16, 20, 21, 22, 23, r + 2]
theorem lW_r {r : Nat} (hr : r = 46 ∨ r = 49) : r ∉ lW r ∧ r + 1 ∉ lW r := by rcases hr with rfl | rfl <;> decide
theorem fs_ho2 {F : FS} {nm h : Nat} (hF : fsOK F) (hh : h < fN F) : fsOK (wHo F (upd (fHo F) nm (nI h))) := by
  refine ⟨hF.1, fun i hi => ?_⟩
  show ∃ z, z < fN F ∧ upd (fHo F) nm (nI h) i = nI z
  by_cases e : i = nm
  · subst e; exact ⟨h, hh, pk_us⟩
  · rw [pk_un e]; exact hF.2 i hi
theorem ev_toHold (k : Nat) (σ : Sto) (r : Nat) (hr : r = 46 ∨ r = 49) (hc : cOK σ 11) (ev : (Nat → Int32) → Int32) (hR : RC σ r ev) (hfrom : fromOK σ) (nm one : Nat) (hnm : nm < fN (cF σ 11)) (hone : one < fN (cF σ 11)) :
    EvM (k + 5) M_X10_toHold [.ref 20, .ref 11, .ref r, .int (nI nm), .int (nI one)] σ (fun v τ => (match toH ev (cF σ 11) nm one (gA σ 21) with
      | some (s, fr) => v = some (.int (nI s)) ∧ (s = 0 ∨ gA τ 23 = trW fr s (nI one) (gA σ 23))
      | none => v = some (.int (-1))) ∧ fromOK τ ∧ Fr (lW r) σ τ) := by
  have hn := hc.1
  have hF := hc.2
  have h7 := hF.1
  have hsay : ∀ τ F, cF τ 11 = F → cOK τ 11 → fN F = fN (cF σ 11) → Fr (lW r) σ τ → EvM (k + 4) M_X2_sayers [.ref 11, .ref r, .int (nI nm)] τ (fun v υ => v = some (.int (nI (sayN ev F nm))) ∧ Fr [r + 2] τ υ) := by
    intro τ F h1 h2 h3 h4
    have := ev_sayers k τ r 11 hr (Or.inr rfl) h2 ev (RC_fr h4 (lW_r hr).1 (lW_r hr).2 hR) nm (by rw [h1, h3]; exact hnm)
    rw [h1, sayN_nI (by rw [h3]; exact h7)] at this
    exact this
  obtain ⟨-, -, -, rHo, -⟩ := cF_rd σ 11
  have eHo := rHo nm (by omega)
  generalize hFF : cF σ 11 = F at *
  generalize hG : wAg F (upd (fAg F) nm 0) = G at *
  have hGn : fN G = fN F := by rw [← hG]; rfl
  have hGok : fsOK G := by rw [← hG]; exact hF
  refine EvM.of mk_X10_toHold (Nat.le_of_ble_eq_true rfl) ?_
  have hap : ∀ υ τ : Sto, Fr [r + 2] τ υ → Fr (lW r) τ υ := fun υ τ h => h.mono (by simp [lW])
  have hap2 : ∀ υ τ : Sto, Fr [20, 21, 22] τ υ → Fr (lW r) τ υ := fun υ τ h => h.mono (by simp [lW])
  have r2 : ∀ j, j < 6 → 11 + j ∉ [r + 2] := apart hr (Or.inr rfl)
  have r2' : 20 ∉ [r + 2] ∧ 21 ∉ [r + 2] ∧ 22 ∉ [r + 2] ∧ 23 ∉ [r + 2] := by rcases hr with rfl | rfl <;> decide
  -- a state of the loop
  let J : Sto → MS3 → Prop := fun τ st => (∃ h, h < fN F ∧ cF τ 11 = wHo G (upd (fHo G) nm (nI h))) ∧ cOK τ 11 ∧ MI τ st ∧ (∀ q ∈ st.2.1, q < fN F) ∧ (∀ q, q < 7 → okI (st.2.2 q)) ∧ gA τ 23 = gA σ 23 ∧ Fr (lW r) σ τ
  have T : Option (Nat × (Nat → Int32)) → Prop := fun _ => True
  have main : ∀ (W0 : Option (Nat × (Nat → Int32))) (st0 : MS3) (τ0 : Sto) (x7 x8 : Option Value), J τ0 st0 → toL ev G nm one 4 1 st0 0 = W0 → WW M_X10_toHold (k + 5) (fun v τ => (match W0 with
      | some (s, fr) => v = some (.int (nI s)) ∧ (s = 0 ∨ gA τ 23 = trW fr s (nI one) (gA σ 23))
      | none => v = some (.int (-1))) ∧ fromOK τ ∧ Fr (lW r) σ τ) 47 [some (.ref 20), some (.ref 11), some (.ref r), some (.int (nI nm)), some (.int (nI one)), some (.int (nI 0)), some (.int (nI (0 + 1))), x7, x8] [] τ0 := by
    intro W0 st0 τ0 x7 x8 hJ0 hW0
    refine loopI (α := Sto × MS3 × Nat × Option Value × Option Value) 47 (fun t a => [some (.ref 20), some (.ref 11), some (.ref r), some (.int (nI nm)), some (.int (nI one)), some (.int (nI a.2.2.1)), some (.int (nI (t + 1))), a.2.2.2.1, a.2.2.2.2]) (fun a => a.1) (fun t a => J a.1 a.2.1 ∧ a.2.2.1 ≤ a.2.1.2.1.length ∧ toL ev G nm one (4 - t) (t + 1) a.2.1 a.2.2.1 = W0) 4 ?_ ?_ 0 (τ0, st0, 0, x7, x8) (Nat.zero_le _) ⟨hJ0, Nat.zero_le _, hW0⟩
    · rintro t ⟨τ, st, b, y7, y8⟩ ht ⟨hJ, hb, hT⟩ go
      simp only at hJ hb hT
      obtain ⟨⟨h, hh, hcf⟩, hcok, hmi, hq, hfr, hway, hfr2⟩ := hJ
      obtain ⟨c, hc1⟩ : ∃ c, 4 - t = c + 1 := ⟨3 - t, by omega⟩
      have hc2 : 4 - (t + 1) = c := by omega
      rw [hc1, toL] at hT
      have k1 := hmi.1
      have k2 := hmi.2.1
      have k3 := hmi.2.2.1
      have k4 := hmi.2.2.2.1
      have k6 := hmi.2.2.2.2.2
      have hbit := bt_nI st.1 k2 one (by omega)
      refine wpW K_X10_toHold [47, 85] 60 ?_
      refine ⟨fun hg => ?_, fun _ => ⟨fun e => ?_, fun e => ⟨_, ev_traces _ τ (by rw [k6]; exact hfr) one (t + 1) (by omega) (by omega), ?_⟩⟩⟩
      · rw [show (4 : Int32) = nI 4 from rfl, lt_of_nI (by omega) (by omega)] at hg; omega
      · -- the inner loop
        rw [k1, hbit, show (1 : Int32) = nI 1 from rfl, eq_of_nI (by omega) (by omega)] at e
        rw [if_neg e] at hT
        show WW M_X10_toHold _ _ 85 [some (.ref 20), some (.ref 11), some (.ref r), some (.int (nI nm)), some (.int (nI one)), some (.int (nI b)), some (.int (nI (t + 1))), some (.int (gI τ 20 2)), some (.int (nI b))] [] τ
        rw [k3]
        refine loopI (α := Sto × MS3) 85 (fun j a => [some (.ref 20), some (.ref 11), some (.ref r), some (.int (nI nm)), some (.int (nI one)), some (.int (nI b)), some (.int (nI (t + 1))), some (.int (nI st.2.1.length)), some (.int (nI (b + j)))]) (fun a => a.1) (fun j a => J a.1 a.2 ∧ a.2 = ((st.2.1.drop b).take j).foldl (expS ev G nm) st ∧ ∃ e, a.2.2.1 = st.2.1 ++ e) (st.2.1.length - b) ?_ ?_ 0 (τ, st) (Nat.zero_le _) ⟨⟨⟨h, hh, hcf⟩, hcok, hmi, hq, hfr, hway, hfr2⟩, by simp, [], by simp⟩
        · rintro j ⟨υ, su⟩ hj ⟨hJ2, hsu, ext, hext⟩ go2
          simp only at hJ2 hsu hext
          obtain ⟨⟨h', hh', hcf'⟩, hcok', hmi', hq', hfr', hway', hfr2'⟩ := hJ2
          have hlt : b + j < st.2.1.length := by omega
          obtain ⟨q, hqq⟩ : ∃ q, st.2.1[b + j]? = some q := ⟨_, List.getElem?_eq_getElem hlt⟩
          have hqn : q < fN F := hq q (List.mem_of_getElem? hqq)
          have hsq : su.2.1[b + j]? = some q := by rw [hext, List.getElem?_append_left hlt]; exact hqq
          have hgq : gA υ 22 (nI (b + j)).toNatClampNeg = nI q := by rw [nI_clamp (by omega)]; exact hmi'.2.2.2.2.1 _ _ hsq
          have hdq : (st.2.1.drop b)[j]? = some q := by rw [List.getElem?_drop]; exact hqq
          -- the holder is set
          have hset : cF (sA υ (11 + 4) (upd (gA υ (11 + 4)) (nI nm).toNatClampNeg (nI q))) 11 = wHo G (upd (fHo G) nm (nI q)) := by
            rw [cF_Ho, nI_clamp (by omega), r7_upd (by omega)]
            have e1 : r7 (gA υ (11 + 4)) = fHo (cF υ 11) := rfl
            rw [e1, hcf']
            show wHo (wHo G _) (upd (upd (fHo G) nm (nI h')) nm (nI q)) = _
            have e2 : upd (upd (fHo G) nm (nI h')) nm (nI q) = upd (fHo G) nm (nI q) := by
              funext z
              by_cases ez : z = nm
              · subst ez; rw [pk_us, pk_us]
              · rw [pk_un ez, pk_un ez, pk_un ez]
            rw [e2]; rfl
          generalize hω : sA υ (11 + 4) (upd (gA υ (11 + 4)) (nI nm).toNatClampNeg (nI q)) = ω at hset
          have hωfr : Fr [15] υ ω := by rw [← hω]; exact fr_one
          have hωok : cOK ω 11 := by
            refine ⟨?_, by rw [hset]; exact fs_ho2 hGok (by rw [hGn]; exact hqn)⟩
            rw [hset, hωfr.I (by decide), hcok'.1, hcf']; rfl
          have hωmi : MI ω su := MI_fr hωfr (by decide) (by decide) (by decide) hmi'
          have hω2 : Fr (lW r) σ ω := hfr2'.tr (hωfr.mono (by simp [lW]))
          have hs := hsay ω _ hset hωok (by rw [← hGn]; rfl) hω2
          have hωq : gA ω 22 (nI (b + j)).toNatClampNeg = nI q := by rw [hωfr.A (by decide)]; exact hgq
          refine wpW K_X10_toHold [47, 85, 105] 60 ?_
          refine ⟨fun hg => ?_, fun _ => ⟨in7 (by omega), in7 (by omega), ?_⟩⟩
          · rw [le_of_nI (by omega) (by omega)] at hg; omega
          · show WW M_X10_toHold _ _ 105 _ _ _
            rw [show (20 : Nat) + 2 = 22 from rfl, hgq, hω]
            refine wpW K_X10_toHold [47, 85] 60 ?_
            refine ⟨_, hs, ?_⟩
            rintro v ζ ⟨rfl, hζ⟩
            have hζmi : MI ζ su := MI_fr hζ r2'.1 r2'.2.1 r2'.2.2.1 hωmi
            have hζq : gA ζ 22 (nI (b + j)).toNatClampNeg = nI q := by rw [hζ.A r2'.2.2.1]; exact hωq
            refine ⟨in7 (by omega), ?_⟩
            rw [show (20 : Nat) + 2 = 22 from rfl, hζq]
            refine ⟨_, ev_meets _ ζ su hζmi _ (sayN_lt (by show fN G ≤ 7; rw [hGn]; exact h7)) (nI q), ?_⟩
            rintro v ξ ⟨rfl, hξmi, hξ⟩
            have hζcf : cF ζ 11 = wHo G (upd (fHo G) nm (nI q)) := by rw [cF_fr hζ r2]; exact hset
            have hξcf : cF ξ 11 = wHo G (upd (fHo G) nm (nI q)) := by rw [cF_fr (f := 11) hξ (by decide)]; exact hζcf
            refine go2 (ξ, expS ev G nm su q) _ _ (by rw [show b + (j + 1) = b + j + 1 from rfl, ← nI_1 (b + j)]; rfl) rfl ⟨⟨⟨q, hqn, hξcf⟩, cOK_fr (f := 11) hξ (by decide) (cOK_fr hζ r2 hωok), hξmi, ?_, ?_, ?_, (hω2.tr (hap _ _ hζ)).tr (hap2 _ _ hξ)⟩, ?_, ?_⟩
            · refine meet_lt (fun z hz hbz => ?_) hq'
              have := sayN_bit hbz
              rw [← hGn]; exact this
            · exact meet_fr (Or.inr ⟨q, by omega, rfl⟩) hfr'
            · rw [hξ.A (by decide), hζ.A r2'.2.2.2, hωfr.A (by decide)]; exact hway'
            · show expS ev G nm su q = _
              rw [foldl_take _ _ _ _ _ hdq, ← hsu]
            · obtain ⟨e2, he2⟩ := meet_pre (sayN ev (wHo G (upd (fHo G) nm (nI q))) nm) (nI q) su
              exact ⟨ext ++ e2, by show (meetS _ _ su).2.1 = _; rw [he2, hext, List.append_assoc]⟩
        · rintro ⟨υ, su⟩ ⟨hJ2, hsu, ext, hext⟩
          simp only at hJ2 hsu hext
          rw [List.take_of_length_le (by rw [List.length_drop]; exact Nat.le_refl _)] at hsu
          have e1 : b + (st.2.1.length - b) = st.2.1.length := by omega
          simp only [e1]
          refine wpW K_X10_toHold [47, 85] 60 ?_
          refine ⟨fun hg => go (υ, su, st.2.1.length, _, some (.int (nI st.2.1.length))) _ _ (by rw [← nI_1 (t + 1)]; rfl) rfl ⟨hJ2, ?_, ?_⟩, fun hg => ?_⟩
          · show st.2.1.length ≤ su.2.1.length
            rw [hext, List.length_append]; omega
          · rw [hc2, hsu]; exact hT
          · exfalso; apply hg
            rw [le_of_nI (by omega) (by omega)]; omega
      · rw [k1, hbit, show (1 : Int32) = nI 1 from rfl, eq_of_nI (by omega) (by omega)] at e
        rw [if_pos e] at hT
        rintro v υ ⟨rfl, hw, hfrw⟩
        refine ⟨?_, ?_, hfr2.tr (hfrw.mono (by simp [lW]))⟩
        · rw [← hT]
          exact ⟨rfl, Or.inr (by rw [hw, hway, k6])⟩
        · intro q hq7
          rw [hfrw.A (by decide), k6]; exact hfr q hq7
    · rintro ⟨τ, st, b, y7, y8⟩ ⟨hJ, hb, hT⟩
      simp only at hJ hb hT
      obtain ⟨-, -, hmi, -, hfr, -, hfr2⟩ := hJ
      rw [Nat.sub_self, toL] at hT
      refine wpW K_X10_toHold [47] 60 ?_
      refine ⟨fun hg => ⟨by rw [← hT], fun q hq7 => ?_, hfr2⟩, fun hg => absurd (by decide) hg⟩
      show okI (gA τ 21 q)
      rw [hmi.2.2.2.2.2]; exact hfr q hq7
  refine wpW K_X10_toHold [23] 60 ?_
  refine ⟨in7 (by omega), fun c => ?_, fun c => ?_⟩
  · rw [eHo] at c
    show WW M_X10_toHold _ _ 23 _ _ _
    have hto : toH ev F nm one (gA σ 21) = toL ev G nm one 4 1 (meetS (sayN ev F nm) (-1) (0, [], gA σ 21)) 0 := by rw [toH, if_neg c, hG]
    rw [hto]
    generalize hω : sI (sI σ 20 3 0) 20 2 0 = ω
    have hωfr : Fr [20] σ ω := by rw [← hω]; exact (Fr.rf.sI (by simp)).sI (by simp)
    have hωcf : cF ω 11 = F := by rw [cF_fr (f := 11) hωfr (by decide)]; exact hFF
    have hωok : cOK ω 11 := cOK_fr (f := 11) hωfr (by decide) hc
    have hωmi : MI ω (0, [], gA σ 21) := by
      rw [← hω]
      exact ⟨rfl, Nat.zero_lt_of_lt (show (0 : Nat) < 128 by decide), rfl, by simp, fun j x hj => by simp at hj, rfl⟩
    have hs := hsay ω F hωcf hωok rfl (hωfr.mono (by simp [lW]))
    refine wpW K_X10_toHold [47] 60 ?_
    refine ⟨_, hs, ?_⟩
    rintro v ζ ⟨rfl, hζ⟩
    have hζmi : MI ζ (0, [], gA σ 21) := MI_fr hζ r2'.1 r2'.2.1 r2'.2.2.1 hωmi
    refine ⟨_, ev_meets _ ζ _ hζmi _ (sayN_lt h7) (-1), ?_⟩
    rintro v ξ ⟨rfl, hξmi, hξ⟩
    have hξcf : cF ξ 11 = F := by rw [cF_fr (f := 11) hξ (by decide), cF_fr hζ r2]; exact hωcf
    have hξok : cOK ξ 11 := cOK_fr (f := 11) hξ (by decide) (cOK_fr hζ r2 hωok)
    refine ⟨in7 (by omega), ?_⟩
    refine main _ _ _ none none ⟨⟨hoN F nm, (fs_ho hF hnm).1, ?_⟩, ?_, ?_, ?_, ?_, ?_, ?_⟩ rfl
    · rw [cF_Ag, hξcf, nI_clamp (by omega), r7_upd (by omega), show r7 (gA ξ (11 + 5)) = fAg F from by rw [← hξcf]; rfl, hG]
      have e3 : upd (fHo G) nm (nI (hoN F nm)) = fHo G := by
        funext z
        by_cases ez : z = nm
        · subst ez; rw [pk_us, ← (fs_ho hF hnm).2, ← hG]; rfl
        · rw [pk_un ez]
      rw [e3]; rfl
    · refine ⟨?_, ?_⟩
      · rw [cF_Ag, hξcf]; show gI ξ 11 5 = nI (fN F); rw [hξok.1, hξcf]
      · rw [cF_Ag, hξcf]; exact hF
    · exact MI_fr (fr_one : Fr [11 + 5] ξ _) (by decide) (by decide) (by decide) hξmi
    · exact meet_lt (fun z hz hbz => sayN_bit hbz) (by simp)
    · exact meet_fr (Or.inl (by decide)) hfrom
    · rw [gA_ne (by decide), hξ.A (by decide), hζ.A r2'.2.2.2, hωfr.A (by decide)]
    · exact Fr.sA (((hωfr.mono (by simp [lW])).tr (hap _ _ hζ)).tr (hap2 _ _ hξ)) (by simp [lW])
  · rw [eHo] at c
    have hto : toH ev F nm one (gA σ 21) = some (0, gA σ 21) := by rw [toH, if_pos c]
    rw [hto]
    exact ⟨⟨rfl, Or.inl rfl⟩, hfrom, Fr.rf⟩
