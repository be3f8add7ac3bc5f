/-! aO is kept by every call -/
theorem ac_sign {A : AS} (h : aO A) (hF : fOK A.F) (v : Int32) : aO (signC A v).2 := by
  unfold signC
  first | exact h | (split <;> first | exact h | (split <;> first | exact h | (split <;> first | exact h | (split <;> exact h))))
theorem ac_end {A : AS} (h : aO A) (hF : fOK A.F) (x : Int32) : aO (endC A x).2 := by
  unfold endC
  first | exact h | (split <;> first | exact h | (split <;> first | exact h | (split <;> first | exact h | (split <;> exact h))))
theorem ac_undo {A : AS} (h : aO A) (hF : fOK A.F) : aO (undoC A).2 := ao_undo h
theorem ac_keep {A : AS} (h : aO A) (hF : fOK A.F) (x : Int32) : aO (keepC A x).2 := ao_keep h hF x
theorem ac_again {A : AS} (h : aO A) (hF : fOK A.F) (x : Int32) : aO (againC A x).2 := ao_again h x
theorem ac_heard {A : AS} (h : aO A) (hF : fOK A.F) (w v : Int32) : aO (heardC A w v).2 := ao_heard h w v
theorem ac_forget {A : AS} (h : aO A) (hF : fOK A.F) : aO (A.wH []) := ⟨h.1, h.2.1, fun _ q => absurd q List.not_mem_nil⟩
theorem ac_saw {A : AS} (h : aO A) (hF : fOK A.F) (v f c : Int32) : aO (sawC A v f c).2 := by
  unfold sawC
  first | exact h | (split <;> first | exact h | (split <;> first | exact h | (split <;> first | exact h | (split <;> exact h))))
theorem ac_denies {A : AS} (h : aO A) (hF : fOK A.F) : aO (A.wS []) := h
theorem ac_count {A : AS} (h : aO A) (hF : fOK A.F) (x : Int32) : aO A := h
theorem ac_says {A : AS} (h : aO A) (hF : fOK A.F) (x y : Int32) : aO (doneC A (saidS A.ev A.F x y)).2 := ao_done h hF (nv_said NV.rf _ _ _)
theorem ac_signs {A : AS} (h : aO A) (hF : fOK A.F) (x n : Int32) : aO (doneC A (signS A.F x n)).2 := ao_done h hF (nv_sign NV.rf _ _)
theorem ac_moves {A : AS} (h : aO A) (hF : fOK A.F) (x n : Int32) : aO (doneC A (moveS A.F x n)).2 := ao_done h hF (nv_move NV.rf _ _)
theorem ac_calls {A : AS} (h : aO A) (hF : fOK A.F) (x : Int32) : aO (doneC A (rcallS A.ev A.F x)).2 := ao_done h hF (nv_rcall NV.rf _ _)
theorem ac_days {A : AS} (h : aO A) (hF : fOK A.F) (x : Int32) : aO (daysC A x).2 := ao_days h hF x
theorem ac_later {A : AS} (h : aO A) (hF : fOK A.F) (x n : Int32) : aO (laterC A x n).2 := by
  unfold laterC
  first | exact h | (split <;> first | exact h | (split <;> first | exact h | (split <;> first | exact h | (split <;> exact h))))
theorem ac_home {A : AS} (h : aO A) (hF : fOK A.F) (x : Int32) : aO (homeC A x).2 := by
  unfold homeC
  first | exact h | (split <;> first | exact h | (split <;> first | exact h | (split <;> first | exact h | (split <;> exact h))))
theorem ac_peace {A : AS} (h : aO A) (hF : fOK A.F) : aO (peaceC A).2 := by
  unfold peaceC
  first | exact h | (split <;> first | exact h | (split <;> first | exact h | (split <;> first | exact h | (split <;> exact h))))
theorem ac_poor {A : AS} (h : aO A) (hF : fOK A.F) (x : Int32) : aO (poorC A x).2 := by
  unfold poorC
  first | exact h | (split <;> first | exact h | (split <;> first | exact h | (split <;> first | exact h | (split <;> exact h))))
theorem ac_silences {A : AS} (h : aO A) (hF : fOK A.F) (x : Int32) : aO (silC A x).2 := by
  unfold silC
  first | exact h | (split <;> first | exact h | (split <;> first | exact h | (split <;> first | exact h | (split <;> exact h))))
theorem ac_goes {A : AS} (h : aO A) (hF : fOK A.F) (x : Int32) : aO (goesC A x).2 := by
  unfold goesC
  first | exact h | (split <;> first | exact h | (split <;> first | exact h | (split <;> first | exact h | (split <;> exact h))))
theorem ac_wed {A : AS} (h : aO A) (hF : fOK A.F) : aO (A.wR (wedS A.F (fN A.F)).2) := h
theorem ac_loud {A : AS} (h : aO A) (hF : fOK A.F) : aO (loudC A).2 := by
  unfold loudC
  first | exact h | (split <;> first | exact h | (split <;> first | exact h | (split <;> first | exact h | (split <;> exact h))))
theorem ac_robs {A : AS} (h : aO A) (hF : fOK A.F) (x : Int32) : aO (robsC A x).2 := by
  unfold robsC
  first | exact h | (split <;> first | exact h | (split <;> first | exact h | (split <;> first | exact h | (split <;> exact h))))
theorem ac_criers {A : AS} (h : aO A) (hF : fOK A.F) (x : Int32) : aO (criersC A x).2 := by
  unfold criersC
  first | exact h | (split <;> first | exact h | (split <;> first | exact h | (split <;> first | exact h | (split <;> exact h))))
theorem ac_fits {A : AS} (h : aO A) (hF : fOK A.F) : aO (A.wR [(bcS (fitS A.ev A.F A.H)).toInt64]) := h
theorem ac_laws {A : AS} (h : aO A) (hF : fOK A.F) : aO (lawsC A).2 := by
  unfold lawsC
  first | exact h | (split <;> first | exact h | (split <;> first | exact h | (split <;> first | exact h | (split <;> exact h))))
theorem ac_tries {A : AS} (h : aO A) (hF : fOK A.F) : aO (triesC A).2 := by
  unfold triesC
  first | exact h | (split <;> first | exact h | (split <;> first | exact h | (split <;> first | exact h | (split <;> exact h))))
theorem ac_asks {A : AS} (h : aO A) (hF : fOK A.F) : aO (asksC A).2 := by
  unfold asksC
  first | exact h | (split <;> first | exact h | (split <;> first | exact h | (split <;> first | exact h | (split <;> exact h))))
theorem ac_walks {A : AS} (h : aO A) (hF : fOK A.F) (x n p y : Int32) : aO (walksC A x n p y).2 := by
  unfold walksC
  first | exact h | (split <;> first | exact h | (split <;> first | exact h | (split <;> first | exact h | (split <;> exact h))))
theorem ac_hush {A : AS} (h : aO A) (hF : fOK A.F) (x y : Int32) : aO (hushC A x y).2 := by
  unfold hushC
  first | exact h | (split <;> first | exact h | (split <;> first | exact h | (split <;> first | exact h | (split <;> exact h))))
theorem ac_rests {A : AS} (h : aO A) (hF : fOK A.F) (x : Int32) : aO (restsC A x).2 := by
  unfold restsC
  first | exact h | (split <;> first | exact h | (split <;> first | exact h | (split <;> first | exact h | (split <;> exact h))))
theorem ac_rule {A : AS} (h : aO A) (hF : fOK A.F) : aO (ruleC A).2 := by
  unfold ruleC
  first | exact h | (split <;> first | exact h | (split <;> first | exact h | (split <;> first | exact h | (split <;> exact h))))
theorem ac_law {A : AS} (h : aO A) (hF : fOK A.F) : aO (lawC A).2 := by
  unfold lawC
  first | exact h | (split <;> first | exact h | (split <;> first | exact h | (split <;> first | exact h | (split <;> exact h))))
theorem ac_years {A : AS} (h : aO A) (hF : fOK A.F) (sd x : Int32) : aO (yearsC A sd x).2 := by
  unfold yearsC
  first | exact h | (split <;> first | exact h | (split <;> first | exact h | (split <;> first | exact h | (split <;> exact h))))
theorem ac_sheet {A : AS} (h : aO A) (hF : fOK A.F) (kd n f st : Int32) : aO (sheetC A kd n f st).2 := ao_sheet h kd n f st
theorem ac_people {A : AS} (h : aO A) (hF : fOK A.F) : aO (peopleC A).2 := ao_people h
theorem ac_week {A : AS} (h : aO A) (hF : fOK A.F) : aO (weekC A).2 := ao_week h hF
theorem ac_leads {A : AS} (h : aO A) (hF : fOK A.F) (x : Int32) : aO (leadsC A x).2 := by
  unfold leadsC
  first | exact h | (split <;> first | exact h | (split <;> first | exact h | (split <;> first | exact h | (split <;> exact h))))
theorem ac_rings {A : AS} (h : aO A) (hF : fOK A.F) : aO (ringsC A).2 := by
  unfold ringsC
  first | exact h | (split <;> first | exact h | (split <;> first | exact h | (split <;> first | exact h | (split <;> exact h))))
theorem ac_line {A : AS} (h : aO A) (hF : fOK A.F) : aO (lineC A).2 := by
  unfold lineC
  first | exact h | (split <;> first | exact h | (split <;> first | exact h | (split <;> first | exact h | (split <;> exact h))))
theorem ac_rich {A : AS} (h : aO A) (hF : fOK A.F) : aO (richC A).2 := by
  unfold richC
  first | exact h | (split <;> first | exact h | (split <;> first | exact h | (split <;> first | exact h | (split <;> exact h))))
theorem ac_mouths {A : AS} (h : aO A) (hF : fOK A.F) : aO (mouthsC A).2 := by
  unfold mouthsC
  first | exact h | (split <;> first | exact h | (split <;> first | exact h | (split <;> first | exact h | (split <;> exact h))))
theorem ac_order {A : AS} (h : aO A) (hF : fOK A.F) : aO (orderC A).2 := by
  unfold orderC
  first | exact h | (split <;> first | exact h | (split <;> first | exact h | (split <;> first | exact h | (split <;> exact h))))
theorem ac_brings {A : AS} (h : aO A) (hF : fOK A.F) (x y : Int32) : aO (bringsC A x y).2 := by
  unfold bringsC
  first | exact h | (split <;> first | exact h | (split <;> first | exact h | (split <;> first | exact h | (split <;> exact h))))
