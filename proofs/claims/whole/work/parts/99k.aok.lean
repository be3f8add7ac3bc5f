/-! what every call keeps of what both sides hold -/
def aO (A : AS) : Prop := (∀ S ∈ A.U, fOK (backF A.F S)) ∧ (∀ i S, A.K i = some S → fOK (backF A.F S)) ∧ hK A.H
def NV (F G : FS) : Prop := fN G = fN F ∧ fVo G = fVo F
theorem NV.rf {F : FS} : NV F F := ⟨rfl, rfl⟩
theorem back_nv {F G : FS} (h : NV F G) (S : Nat → Int32) : backF G S = backF F S := by unfold backF; rw [h.1, h.2]
theorem nv_fo {F : FS} {s : Nat → FS → FS} (h : ∀ i G, NV F G → NV F (s i G)) {G : FS} (hG : NV F G) (n : Nat) : NV F (fo s G n) := fo_inv (fun _ x => NV F x) hG (fun i x _ hx => h i x hx)
theorem nv_say {F G : FS} (h : NV F G) (q nm : Nat) : NV F (sayF G q nm) := h
theorem nv_day {F G : FS} (h : NV F G) (ev : (Nat → Int32) → Int32) (sil : Int32) (n : Nat) : NV F (dayS ev sil n G) := by
  have h1 : NV F (fo (d1st ev sil) G n) := nv_fo (fun i G hG => by
    unfold d1st
    split
    · exact hG
    · exact hG) h n
  have h2 : NV F (fo d2st (fo (d1st ev sil) G n) n) := nv_fo (fun i G hG => by
    unfold d2st
    split
    · exact hG
    · exact hG) h1 n
  have h3 : NV F (fo d3st (fo d2st (fo (d1st ev sil) G n) n) n) := nv_fo (s := d3st) (fun i G hG => hG) h2 n
  exact h3
theorem nv_days {F G : FS} (h : NV F G) (ev : (Nat → Int32) → Int32) (sil : Int32) (n d : Nat) : NV F (daysS ev sil n G d) := nv_fo (fun _ _ hG => nv_day hG ev sil n) h d
theorem nv_said {F G : FS} (h : NV F G) (ev : (Nat → Int32) → Int32) (x y : Int32) : NV F (saidS ev G x y).2 := by
  unfold saidS
  split
  · split
    · exact h
    · split
      · exact h
      · exact h
  · exact h
theorem nv_sign {F G : FS} (h : NV F G) (x y : Int32) : NV F (signS G x y).2 := by
  unfold signS
  split
  · split
    · exact h
    · split
      · exact h
      · exact h
  · exact h
theorem nv_move {F G : FS} (h : NV F G) (x y : Int32) : NV F (moveS G x y).2 := by
  unfold moveS
  split
  · split
    · exact h
    · exact h
  · exact h
theorem nv_rcall {F G : FS} (h : NV F G) (ev : (Nat → Int32) → Int32) (x : Int32) : NV F (rcallS ev G x).2 := by
  have hr : ∀ q n, NV F (rollS ev G q n).2 := fun q n => fo_inv (fun _ (a : Int32 × FS) => NV F a.2) h (fun i a _ ha => by
    split
    · exact ha
    · exact ha)
  unfold rcallS
  split
  · exact hr _ _
  · exact h
theorem nv_fill {F G : FS} (h : NV F G) (kd n f st : Int32) (m : Nat) : NV F (fillS kd n f st G m) := by
  unfold fillS
  exact nv_fo (s := fun i G => wPu G (upd (fPu G) i (maxS 0 (minS 99 (entS kd n f st i))))) (fun _ _ hG => hG) h m
theorem nv_act {F G : FS} (h : NV F G) (ev : (Nat → Int32) → Int32) (c : Nat → Int32) (p : Nat) : NV F (actS ev G c p).2 := by
  unfold actS
  split
  · exact nv_rcall h ev _
  · split
    · exact nv_sign h _ _
    · split
      · exact nv_move h _ _
      · split
        · exact nv_days h ev _ _ _
        · split
          · exact nv_said h ev _ _
          · exact h
theorem nv_wk {F : FS} (ev : (Nat → Int32) → Int32) (c : Nat → Int32) (t : Nat) : ∀ m p d G, NV F G → NV F (wkX ev c t m p d G).2.1 := by
  intro m
  induction m with
  | zero => intro p d G h; exact h
  | succ m ih =>
    intro p d G h
    rw [wkX]
    split
    · split
      · exact nv_act h ev c p
      · exact ih _ _ _ (nv_act h ev c p)
    · exact h
theorem fok_snap {F : FS} (h : fOK F) : fOK (backF F (snapF F)) := by
  have h7 := h.1.1
  refine fOK.of ⟨h7, fun i hi => ?_⟩ (fun i => ?_) h.vo (fun i => ?_)
  · obtain ⟨g, g1, g2⟩ := h.1.2 i hi
    have hi' : i < fN F := hi
    refine ⟨g, g1, ?_⟩
    show r7 (fun i => snapF F (14 + i)) i = _
    rw [r7_lt (by omega), snapF, if_neg (by omega), if_neg (by omega), if_pos (by omega), show 14 + i - 14 = i by omega]
    exact g2
  · show ∃ p, p < 10 ∧ r7 (snapF F) i = nI p
    unfold r7
    split
    · next c => rw [snapF, if_pos c]; exact h.pl i
    · exact ⟨0, by omega, rfl⟩
  · show ∃ p, p < 100 ∧ r7 (fun i => snapF F (7 + i)) i = nI p
    unfold r7
    split
    · next c =>
      show ∃ p, p < 100 ∧ snapF F (7 + i) = nI p
      rw [snapF, if_neg (by omega), if_pos (by omega), show 7 + i - 7 = i by omega]; exact h.pu i
    · exact ⟨0, by omega, rfl⟩
theorem ao_U {A : AS} (h : aO A) (hF : fOK A.F) {G : FS} (hG : NV A.F G) : ∀ S ∈ (snapF A.F :: A.U).take 12, fOK (backF G S) := by
  intro S hS
  rw [back_nv hG]
  rcases List.mem_cons.mp (List.mem_of_mem_take hS) with rfl | hS
  · exact fok_snap hF
  · exact h.1 S hS
theorem ao_F {A : AS} (h : aO A) {G : FS} (hG : NV A.F G) : aO (A.wF G) := ⟨fun S hS => by show fOK (backF G S); rw [back_nv hG]; exact h.1 S hS, fun i S hS => by show fOK (backF G S); rw [back_nv hG]; exact h.2.1 i S hS, h.2.2⟩
theorem ao_FU {A : AS} (h : aO A) (hF : fOK A.F) {G : FS} (hG : NV A.F G) : aO ((A.wF G).wU ((snapF A.F :: A.U).take 12)) := ⟨ao_U h hF hG, fun i S hS => by show fOK (backF G S); rw [back_nv hG]; exact h.2.1 i S hS, h.2.2⟩
theorem ao_done {A : AS} (h : aO A) (hF : fOK A.F) {z : Int32 × FS} (hz : NV A.F z.2) : aO (doneC A z).2 := by
  unfold doneC
  split
  · exact ao_FU h hF hz
  · exact h
theorem ao_undo {A : AS} (h : aO A) : aO (undoC A).2 := by
  unfold undoC
  have hU := h.1
  split
  · exact h
  · next S u e =>
    rw [e] at hU
    exact ⟨fun S' hS' => hU S' (List.mem_cons_of_mem _ hS'), h.2.1, h.2.2⟩
theorem ao_keep {A : AS} (h : aO A) (hF : fOK A.F) (x : Int32) : aO (keepC A x).2 := by
  unfold keepC
  split
  · refine ⟨h.1, fun i S hS => ?_, h.2.2⟩
    have hS' : putK A.K x.toNatClampNeg (snapF A.F) i = some S := hS
    unfold putK at hS'
    by_cases c : i = x.toNatClampNeg
    · rw [if_pos c] at hS'
      cases hS'
      exact fok_snap hF
    · rw [if_neg c] at hS'
      exact h.2.1 i S hS'
  · exact h
theorem ao_again {A : AS} (h : aO A) (x : Int32) : aO (againC A x).2 := by
  unfold againC
  split
  · exact ⟨fun S hS => absurd hS List.not_mem_nil, h.2.1, h.2.2⟩
  · exact h
theorem ao_days {A : AS} (h : aO A) (hF : fOK A.F) (x : Int32) : aO (daysC A x).2 := by
  unfold daysC
  split
  · have hn := nv_days (NV.rf (F := A.F)) A.ev (-1) (fN A.F) x.toNatClampNeg
    refine ⟨fun S hS => ?_, fun i S hS => by show fOK (backF (daysS A.ev (-1) (fN A.F) A.F x.toNatClampNeg) S); rw [back_nv hn]; exact h.2.1 i S hS, h.2.2⟩
    have hS' : S ∈ (if x.toNatClampNeg = 0 then A.U else (snapF A.F :: A.U).take 12) := hS
    show fOK (backF (daysS A.ev (-1) (fN A.F) A.F x.toNatClampNeg) S)
    by_cases c : x.toNatClampNeg = 0
    · rw [if_pos c] at hS'
      rw [back_nv hn]; exact h.1 S hS'
    · rw [if_neg c] at hS'
      exact ao_U h hF hn S hS'
  · exact h
theorem ao_week {A : AS} (h : aO A) (hF : fOK A.F) : aO (weekC A).2 := by
  unfold weekC
  split
  · exact h
  · have hn : NV A.F (weekE A).2.1 := nv_wk (F := A.F) A.ev A.X.2 A.X.1 81 0 0 A.F NV.rf
    refine ⟨fun S hS => ?_, fun i S hS => by show fOK (backF (weekE A).2.1 S); rw [back_nv hn]; exact h.2.1 i S hS, h.2.2⟩
    have hS' : S ∈ (if (weekE A).1 = 0 then A.U else (snapF A.F :: A.U).take 12) := hS
    show fOK (backF (weekE A).2.1 S)
    by_cases c : (weekE A).1 = 0
    · rw [if_pos c] at hS'
      rw [back_nv hn]; exact h.1 S hS'
    · rw [if_neg c] at hS'
      exact ao_U h hF hn S hS'
theorem ao_people {A : AS} (h : aO A) : aO (peopleC A).2 := by
  unfold peopleC
  split
  · exact h
  · split
    · exact h
    · exact ⟨fun S hS => absurd hS List.not_mem_nil, fun i S hS => absurd (show (none : Option (Nat → Int32)) = some S from hS) (by simp), h.2.2⟩
theorem ao_sheet {A : AS} (h : aO A) (kd n f st : Int32) : aO (sheetC A kd n f st).2 := by
  unfold sheetC
  split
  · split
    · exact ao_F h (nv_fill NV.rf _ _ _ _ _)
    · split
      · exact h
      · exact ao_F h (nv_fill NV.rf _ _ _ _ _)
  · exact h
theorem ao_heard {A : AS} (h : aO A) (w v : Int32) : aO (heardC A w v).2 := by
  unfold heardC
  split
  · next c =>
    refine ⟨h.1, h.2.1, fun x hx => ?_⟩
    rcases List.mem_append.mp hx with hx | hx
    · exact h.2.2 x hx
    · rw [List.mem_singleton.mp hx]
      unfold hearOK at c
      simp only [Bool.and_eq_true, Bool.not_eq_true', decide_eq_false_iff_not] at c
      obtain ⟨⟨c1, c2⟩, -⟩ := c
      show ∃ d, d ≤ 4 ∧ w = nI d
      unfold valS at c2
      by_cases e0 : w = 0
      · exact ⟨0, by omega, e0⟩
      by_cases e1 : w = 1
      · exact ⟨1, by omega, e1⟩
      by_cases e2 : w = 2
      · exact ⟨2, by omega, e2⟩
      by_cases e3 : w = 3
      · exact ⟨3, by omega, e3⟩
      by_cases e4 : w = 4
      · exact ⟨4, by omega, e4⟩
      exfalso
      simp [e0, e1, e2, e3, e4] at c2
      exact c1 c2
  · exact h
