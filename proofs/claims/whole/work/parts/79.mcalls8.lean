/-! the model's calls: later, home, poor, peace -/
theorem mc_later (k : Nat) (A : AS) (x n : Int32) : MC (k + 264) M_X12_later [.int x, .int n] A (.int (laterC A x n).1) (laterC A x n).2 := by
  intro σ0 hv0
  refine EvM.of mk_X12_later (Nat.le_of_ble_eq_true rfl) ?_
  refine wpW K_X12_later [5] 10 ?_
  obtain ⟨hv, f0⟩ := mv_t0 hv0
  show WW _ _ _ 5 [some (.ref 52), some (.int x), some (.int n)] _ (t0S σ0)
  generalize t0S σ0 = σ at hv f0 ⊢
  have hb := hv.1
  have h7 := hb.n7
  unfold laterC
  refine wpW K_X12_later [52] 60 ?_
  refine ⟨_, ev_isOne _ σ (fN A.F) hb.n h7 x, ?_⟩
  rintro v τ ⟨h9, rfl⟩
  obtain rfl := h9.symm
  refine ⟨fun c => ?_, fun c1 => ⟨_, ev_in _ _ _ _ _, ?_⟩⟩
  · rw [bI_eq] at c
    rw [c]
    exact ⟨rfl, hv, f0⟩
  rw [bI_ne] at c1
  rintro v τ ⟨h9, rfl⟩
  obtain rfl := h9.symm
  rw [show (99 : Int32) = nI 99 from rfl, in_S (by omega)]
  refine ⟨fun c2 => ?_, fun c => ?_⟩
  rotate_left
  · rw [bI_eq] at c
    rw [if_neg (by rw [c, Bool.and_false]; decide)]
    exact ⟨rfl, hv, f0⟩
  rw [bI_ne] at c2
  rw [if_pos (by rw [c1, c2]; rfl)]
  obtain ⟨x1, x2⟩ := in_of h7 c1
  obtain ⟨y1, y2⟩ := inS_80 (by omega) c2
  generalize x.toNatClampNeg = q at *
  generalize n.toNatClampNeg = d at *
  subst x2 y2
  refine ⟨_, ev_lay63 _ hb, ?_⟩
  rintro v σ1 ⟨rfl, hJ1⟩
  refine ⟨_, ev_goDays k σ1 63 (Or.inr rfl) hJ1 hb.ok A.ev hb.ru d (by omega) (-1), ?_⟩
  rintro v σ2 ⟨rfl, hJ⟩
  generalize daysS A.ev (-1) (fN A.F) A.F d = G at hJ ⊢
  obtain ⟨r1, r2⟩ := row_0 σ2
  have f3 : FM [] [6] σ2 (sI σ2 52 6 0) := FM.rf.sI (by decide)
  show WW _ _ _ 52 [some (.ref 52), some (.int (nI q)), some (.int (nI d))] [] (sI σ2 52 6 0)
  generalize sI σ2 52 6 0 = σ3 at r1 r2 f3 ⊢
  have hF3 : mF σ3 63 = G := (mF_fr f3 (by decide) (by decide) (by decide)).trans hJ.1
  obtain ⟨-, -, rPu3, -⟩ := mF_rd σ3 63
  rw [hF3] at rPu3
  refine wpW K_X12_later [] 60 ?_
  refine ⟨i7_30 (by omega), _, ev_tellL _ r1 r2 (by simp) _, ?_⟩
  rintro v σ4 ⟨rfl, r4, e4, f4⟩
  have hF4 : mF σ4 63 = G := (mF_fr f4 (by decide) (by decide) (by decide)).trans hF3
  obtain ⟨-, -, -, -, rAg4, -⟩ := mF_rd σ4 63
  rw [hF4] at rAg4
  refine ⟨i21_30 (by omega), _, ev_tellL _ r4 e4 (by simp) _, ?_⟩
  rintro v σ5 ⟨rfl, r5, e5, f5⟩
  have hF5 : mF σ5 63 = G := (mF_fr f5 (by decide) (by decide) (by decide)).trans hF4
  obtain ⟨-, -, -, rHo5, -⟩ := mF_rd σ5 63
  rw [hF5] at rHo5
  have ff : FM lMs jMs σ σ5 := (((hJ.2.2.2.up _ _ (by decide) (by decide)).tr (f3.up _ _ (by decide) (by decide))).tr (f4.up _ _ (by decide) (by decide))).tr (f5.up _ _ (by decide) (by decide))
  have e1 := rPu3 q (by omega)
  have e2 := rAg4 q (by omega)
  have e3 := rHo5 q (by omega)
  refine ⟨i14_30 (by omega), ?_, ?_⟩
  · show some (Value.int (gA σ5 63 (14 + nI q).toNatClampNeg)) = _
    rw [e3]
  · have e5' : mRw σ5 = [(fPu G q).toInt64, (fAg G q).toInt64] := by rw [e5, ← e1, ← e2]; rfl
    have := mv_end hb ff r5 e5'
    exact ⟨this.1, f0.tr this.2⟩
theorem until_cg {P P' : FS → Bool} {st : FS → FS} {I : FS → Prop} (h : ∀ G, I G → P G = P' G) (hs : ∀ G, I G → I (st G)) : ∀ c d G, I G → untilS P st c d G = untilS P' st c d G := by
  intro c
  induction c with
  | zero => intro d G _; rfl
  | succ c ih => intro d G hG; rw [untilS, untilS, h G hG, ih (d + 1) (st G) (hs G hG)]
theorem bt_2 : ∀ q, q < 7 → bt q = nI (2 ^ q) := by decide +kernel
theorem and_bt : ∀ m, m < 128 → ∀ q, q < 7 → (nI m &&& nI (2 ^ q) = nI (2 ^ q) ↔ m / 2 ^ q % 2 = 1) := by decide +kernel
theorem and_all : ∀ n, n ≤ 7 → ∀ m, m < 2 ^ n → (nI m &&& nI (2 ^ n - 1) = nI (2 ^ n - 1) ↔ nI m = nI (2 ^ n - 1)) := by decide +kernel
theorem homes_nI {F : FS} (h7 : fN F ≤ 7) : homesS F = nI (maskN (fun i => decide (fHo F i = nI i)) (fN F)) := by
  rw [← mask_nI h7, homesS]
  refine fo_congr (fun i _ x => ?_)
  simp only [decide_eq_true_eq]
theorem home_bit {F : FS} (h7 : fN F ≤ 7) {q : Nat} (hq : q < fN F) : homesS F &&& bt q = bt q ↔ fHo F q = nI q := by
  have hl := mask_lt (fun i => decide (fHo F i = nI i)) (fN F)
  have hp := pow7 h7
  rw [homes_nI h7, bt_2 q (by omega), and_bt _ (by omega) q (by omega), mask_bit]
  by_cases c : fHo F q = nI q
  · rw [if_pos ⟨hq, decide_eq_true c⟩]; exact ⟨fun _ => c, fun _ => rfl⟩
  · rw [if_neg (fun z => c (of_decide_eq_true z.2))]; exact ⟨fun z => absurd z (by decide), fun z => absurd z c⟩
theorem home_all {F : FS} (h7 : fN F ≤ 7) : homesS F &&& allS (fN F) = allS (fN F) ↔ homesS F = allS (fN F) := by
  rw [homes_nI h7, all_nI _ h7]
  exact and_all _ h7 _ (mask_lt _ _)
def uI (n : Nat) (G : FS) : Prop := fN G = n ∧ fOK G
theorem uI_day {ev : (Nat → Int32) → Int32} {n : Nat} (G : FS) (h : uI n G) : uI n (dayS ev (-1) n G) := by
  obtain ⟨h1, h2⟩ := h
  subst h1
  obtain ⟨a, b⟩ := fok_day (ev := ev) (sil := -1) h2
  exact ⟨b, a⟩
theorem mc_home (k : Nat) (A : AS) (x : Int32) : MC (k + 263) M_X12_home [.int x] A (.int (homeC A x).1) (homeC A x).2 := by
  intro σ0 hv0
  refine EvM.of mk_X12_home (Nat.le_of_ble_eq_true rfl) ?_
  refine wpW K_X12_home [5] 10 ?_
  obtain ⟨hv, f0⟩ := mv_t0 hv0
  show WW _ _ _ 5 [some (.ref 52), some (.int x), none] _ (t0S σ0)
  generalize t0S σ0 = σ at hv f0 ⊢
  have hb := hv.1
  have h7 := hb.n7
  unfold homeC
  refine wpW K_X12_home [29] 60 ?_
  refine ⟨_, ev_isOne _ σ (fN A.F) hb.n h7 x, ?_⟩
  rintro v τ ⟨h9, rfl⟩
  obtain rfl := h9.symm
  refine ⟨fun c => ⟨_, ev_lay63 _ hb, ?_⟩, fun c => ?_⟩
  rotate_left
  · rw [bI_eq] at c
    rw [if_neg (by rw [c]; decide)]
    exact ⟨rfl, hv, f0⟩
  rw [bI_ne] at c
  rw [if_pos c]
  obtain ⟨x1, x2⟩ := in_of h7 c
  generalize x.toNatClampNeg = q at *
  subst x2
  rintro v σ1 ⟨rfl, hJ1⟩
  rw [until_cg (P' := fun G => decide (fHo G q = nI q)) (I := uI (fN A.F)) (fun G hG => by
    have := home_bit hG.2.1.1 (q := q) (by rw [hG.1]; exact x1)
    simp only [this]) uI_day 100 0 A.F ⟨rfl, hb.ok⟩]
  generalize hT : untilS (fun G => decide (fHo G q = nI q)) (dayS A.ev (-1) (fN A.F)) 100 0 A.F = T
  refine loopI (α := Sto × FS) 29 (fun i _ => [some (.ref 52), some (.int (nI q)), some (.int (nI i))]) (fun a => a.1) (fun i a => FJ 63 σ a.1 (fN A.F) a.2 ∧ fOK a.2 ∧ T = untilS (fun G => decide (fHo G q = nI q)) (dayS A.ev (-1) (fN A.F)) (100 - i) i a.2) 100 ?_ ?_ 0 (σ1, A.F) (Nat.zero_le _) ⟨hJ1, hb.ok, hT.symm⟩
  · rintro i ⟨τ, G⟩ hi ⟨hJ, hG, hI⟩ go
    simp only at hJ hG hI ⊢
    rw [show 100 - i = (100 - (i + 1)) + 1 by omega, untilS] at hI
    obtain ⟨-, -, -, rHo, -⟩ := mF_rd τ 63
    rw [hJ.1] at rHo
    have eH := rHo q (by omega)
    refine wpW K_X12_home [29, 53] 60 ?_
    refine ⟨fun e => ?_, fun _ => ⟨i14_30 (by omega), fun e => ?_, fun e => ?_⟩⟩
    · rw [show (99 : Int32) = nI 99 from rfl, lt_of_nI (by omega) (by omega)] at e; omega
    · have e' : ¬ fHo G q = nI q := fun z => e (eH.trans z)
      simp only [decide_eq_true_eq, if_neg e'] at hI
      refine ⟨_, hJ.day k (Or.inr rfl) hG hb.ru (-1), ?_⟩
      rintro v τ' ⟨rfl, hJ'⟩
      have hn : fN G = fN A.F := hJ.2.2.1
      have hG' := (fok_day (ev := A.ev) (sil := -1) hG).1
      rw [hn] at hG'
      exact go (τ', _) _ _ (by rw [← nI_1]; rfl) rfl ⟨hJ', hG', hI⟩
    · have e' : fHo G q = nI q := eH.symm.trans e
      simp only [decide_eq_true_eq, if_pos e'] at hI
      obtain ⟨r1, r2⟩ := row_0 τ
      have f3 : FM [] [6] τ (sI τ 52 6 0) := FM.rf.sI (by decide)
      show WW _ _ _ 53 [some (.ref 52), some (.int (nI q)), some (.int (nI i))] [] (sI τ 52 6 0)
      generalize sI τ 52 6 0 = σ3 at r1 r2 f3 ⊢
      have hF3 : mF σ3 63 = G := (mF_fr f3 (by decide) (by decide) (by decide)).trans hJ.1
      have hok3 : mOK σ3 63 := mOK_fr f3 (by decide) (by decide) (by decide) hJ.2.1
      refine wpW K_X12_home [] 60 ?_
      refine ⟨_, ev_atHome _ σ3 63 (Or.inr rfl) hok3, ?_⟩
      rintro v τ' ⟨h9, rfl⟩
      obtain rfl := h9.symm
      refine ⟨_, ev_bc _ _ _, ?_⟩
      rintro v τ' ⟨h9, rfl⟩
      obtain rfl := h9.symm
      refine ⟨_, ev_tellL _ r1 r2 (by simp) _, ?_⟩
      rintro v σ4 ⟨rfl, r4, e4, f4⟩
      have ff : FM lMs jMs σ σ4 := ((hJ.2.2.2.up _ _ (by decide) (by decide)).tr (f3.up _ _ (by decide) (by decide))).tr (f4.up _ _ (by decide) (by decide))
      rw [hI]
      rw [hF3] at e4
      have := mv_end hb ff r4 e4
      exact ⟨rfl, this.1, f0.tr this.2⟩
  · rintro ⟨τ, G⟩ ⟨hJ, hG, hI⟩
    simp only at hJ hG hI ⊢
    rw [Nat.sub_self, untilS] at hI
    refine wpW K_X12_home [] 60 ?_
    refine ⟨fun _ => ?_, fun e => absurd (show (99 : Int32) < nI 100 by decide) e⟩
    rw [hI]
    have := mv_same hv hJ.2.2.2 (by decide) (by decide) (by decide) (by decide)
    exact ⟨rfl, this.1, f0.tr this.2⟩
