/-! the model's call: years -/
theorem ush16 (y : Int32) : ∃ j : Nat, j < 2 ^ 31 ∧ ush y 16 = nI j := by
  have h : (ush y 16).toBitVec.toNat = y.toBitVec.toNat / 2 ^ 16 := pk_ushr y 16 16 (by decide)
  have hl : y.toBitVec.toNat < 2 ^ 32 := y.toBitVec.isLt
  refine nI_of ?_
  rw [Int32.lt_iff_toInt_lt]
  show ¬ (ush y 16).toBitVec.toInt < 0
  rw [BitVec.toInt_eq_toNat_cond, h, if_pos (by omega)]
  omega
theorem draw_in (x : Int32) {m : Nat} (h0 : 0 < m) (hm : m ≤ 10) : ∃ j : Nat, j < m ∧ drawS x (nI m) = nI j := by
  obtain ⟨q, q1, q2⟩ := ush16 (lotS x)
  refine ⟨q % m, Nat.mod_lt _ h0, ?_⟩
  rw [drawS, q2, pk_rem q1 h0 (by omega)]
theorem ev_drawM (k : Nat) (σ : Sto) (n : Int32) (hn : ¬ n = 0) : EvM k M_X12_draw [.ref 52, .int n] σ (fun r τ => τ = sI σ 52 42 (lotS (gI σ 52 42)) ∧ r = some (.int (drawS (gI σ 52 42) n))) := by
  refine EvM.of mk_X12_draw (Nat.le_of_ble_eq_true rfl) ?_
  refine wpW K_X12_draw [] 40 ?_
  exact ⟨hn, rfl, rfl⟩
def jY : List Nat := [8, 9, 10, 11, 12, 17, 42]
def YM (σ τ : Sto) (n : Nat) (l : Int32) (F : FS) : Prop := gI τ 52 42 = l ∧ mF τ 63 = F ∧ mOK τ 63 ∧ fN F = n ∧ fOK F ∧ FM [60, 63] jY σ τ
theorem YM.fj {σ τ : Sto} {n : Nat} {l : Int32} {F : FS} (h : YM σ τ n l F) : FJ 63 τ τ n F := ⟨h.2.1, h.2.2.1, h.2.2.2.1, FM.rf⟩
theorem YM.to {σ τ υ : Sto} {n : Nat} {l : Int32} {F G : FS} (h : YM σ τ n l F) (hJ : FJ 63 τ υ n G) (hG : fOK G) : YM σ υ n l G := ⟨(hJ.2.2.2.i 42 (by decide)).trans h.1, hJ.1, hJ.2.1, hJ.2.2.1, hG, h.2.2.2.2.2.tr (hJ.2.2.2.up _ _ (by decide) (by decide))⟩
theorem YM.dr (k : Nat) {σ τ : Sto} {n : Nat} {l : Int32} {F : FS} (h : YM σ τ n l F) (m : Int32) (hm : ¬ m = 0) : EvM k M_X12_draw [.ref 52, .int m] τ (fun r υ => r = some (.int (drawS l m)) ∧ YM σ υ n (lotS l) F) := by
  obtain ⟨h1, h2, h3, h4, h5, h6⟩ := h
  refine (ev_drawM k τ m hm).post ?_
  rintro v υ ⟨hu, rfl⟩
  have g : FM [] [42] τ υ := by rw [hu]; exact FM.rf.sI (by decide)
  refine ⟨by rw [h1], by rw [hu, gI_sI, if_pos ⟨rfl, rfl⟩, h1], (mF_fr g (by decide) (by decide) (by decide)).trans h2, mOK_fr g (by decide) (by decide) (by decide) h3, h4, h5, h6.tr (g.up _ _ (by decide) (by decide))⟩
theorem YM.ru {σ τ : Sto} {n : Nat} {l : Int32} {F : FS} (h : YM σ τ n l F) {ev : (Nat → Int32) → Int32} (hR : MRu σ ev) : MRu τ ev := hR.go h.2.2.2.2.2 (by decide) (by decide)
theorem move_pl {F : FS} (hF : fOK F) {q p : Nat} (hq : q < fN F) (hp : p < 10) : (moveS F (nI q) (nI p)).2 = wPl F (upd (fPl F) q (nI p)) := by
  have h7 := hF.1.1
  obtain ⟨a, a1, a2⟩ := hF.pl q
  have hin : inS (fN F) (nI q) = true := by
    rw [inS, nI_toInt (by omega)]
    exact decide_eq_true ⟨by omega, by omega⟩
  have c1 : ¬ nI p < 0 := nI_pos (by omega)
  have c2 : ¬ (10 : Int32) ≤ nI p := by
    rw [show (10 : Int32) = nI 10 from rfl, le_of_nI (by omega) (by omega)]; omega
  unfold moveS
  rw [if_pos (by rw [hin, decide_eq_false c1, decide_eq_false c2]; rfl), nI_clamp (by omega), a2]
  by_cases d : a = p
  · rw [if_pos ((abs_0 a a1 p hp).mpr d)]
    show F = _
    have : upd (fPl F) q (nI p) = fPl F := by
      funext j
      unfold upd
      by_cases e : j = q
      · rw [if_pos e, e, a2, d]
      · rw [if_neg e]
    rw [this]
    rfl
  · rw [if_neg (fun z => d ((abs_0 a a1 p hp).mp z))]
theorem mc_years (k : Nat) (A : AS) (sd x : Int32) : MC (k + 263) M_X12_years [.int sd, .int x] A (.int (yearsC A sd x).1) (yearsC A sd x).2 := by
  intro σ0 hv0
  refine EvM.of mk_X12_years (Nat.le_of_ble_eq_true rfl) ?_
  refine wpW K_X12_years [5] 10 ?_
  obtain ⟨hv, f0⟩ := mv_t0 hv0
  show WW _ _ _ 5 [some (.ref 52), some (.int sd), some (.int x), none, none, none, none] _ (t0S σ0)
  generalize t0S σ0 = σ at hv f0 ⊢
  have hb := hv.1
  have h7 := hb.n7
  unfold yearsC
  have hc : (!decide (x < 1) && !decide (60 < x)) = (inS 61 x && !decide (x = 0)) := by
    rw [← in_S (n := 60) (by omega), Bool.eq_iff_iff]
    simp only [Bool.and_eq_true, Bool.not_eq_true', decide_eq_false_iff_not]
    rw [show nI 60 = (60 : Int32) from rfl, Int32.lt_iff_toInt_lt, Int32.lt_iff_toInt_lt, Int32.lt_iff_toInt_lt, ← Int32.toInt_inj]
    simp
    omega
  refine wpW K_X12_years [22] 60 ?_
  refine ⟨_, ev_in _ _ _ _ _, ?_⟩
  rintro v τ ⟨h9, rfl⟩
  obtain rfl := h9.symm
  rw [hc]
  refine ⟨fun c => ?_, fun c => ?_⟩
  rotate_left
  · rw [bI_eq] at c
    rw [if_neg (by rw [c]; decide)]
    exact ⟨rfl, hv, f0⟩
  rw [bI_ne] at c
  rw [if_pos c]
  rw [Bool.and_eq_true] at c
  obtain ⟨d1, d2⟩ := inS_80 (by omega) c.1
  generalize x.toNatClampNeg = d at *
  subst d2
  have fs : FM [] [42] σ (sI σ 52 42 sd) := FM.rf.sI (by decide)
  have e42 : gI (sI σ 52 42 sd) 52 42 = sd := by rw [gI_sI, if_pos ⟨rfl, rfl⟩]
  show WW _ _ _ 22 [some (.ref 52), some (.int sd), some (.int (nI d)), none, none, none, none] [] (sI σ 52 42 sd)
  generalize sI σ 52 42 sd = σs at fs e42 ⊢
  have hbs : MVc σs A := hb.fr (fs.up _ _ (by decide) (by decide))
  refine wpW K_X12_years [36] 60 ?_
  refine ⟨_, ev_lay63 _ hbs, ?_⟩
  rintro v σ1 ⟨rfl, hJ1⟩
  have hY1 : YM σs σ1 (fN A.F) sd A.F := ⟨(hJ1.2.2.2.i 42 (by decide)).trans e42, hJ1.1, hJ1.2.1, rfl, hb.ok, hJ1.2.2.2.up _ _ (by decide) (by decide)⟩
  show WW _ _ _ 36 [some (.ref 52), some (.int sd), some (.int (nI d)), some (.int (nI 0)), none, none, none] [] σ1
  refine loopI (α := Sto × (Int32 × FS) × Option Value × Option Value × Option Value) 36 (fun i a => [some (.ref 52), some (.int sd), some (.int (nI d)), some (.int (nI i)), a.2.2.1, a.2.2.2.1, a.2.2.2.2]) (fun a => a.1) (fun i a => YM σs a.1 (fN A.F) a.2.1.1 a.2.1.2 ∧ a.2.1 = yrS A.ev sd A.F i) d ?_ ?_ 0 (σ1, (sd, A.F), none, none, none) (Nat.zero_le _) ⟨hY1, rfl⟩
  · rintro i ⟨τ, ⟨l, G⟩, o4, o5, o6⟩ hi ⟨hY, hI⟩ go
    simp only at hY hI ⊢
    have hs : yrS A.ev sd A.F (i + 1) = yrT A.ev (drawS l 4) (lotS l, G) := by rw [yrS, fo, ← yrS, ← hI]
    obtain ⟨dd, dd1, dd2⟩ := draw_in l (m := 4) (by omega) (by omega)
    rw [show nI 4 = (4 : Int32) from rfl] at dd2
    have hGn : fN G = fN A.F := hY.2.2.2.1
    refine wpW K_X12_years [62, 36] 60 ?_
    refine ⟨fun e => ?_, fun _ => ⟨_, hY.dr _ 4 (by decide), ?_⟩⟩
    · rw [le_of_nI (by omega) (by omega)] at e; omega
    rintro v τ1 ⟨rfl, hY1⟩
    rw [dd2] at hs ⊢
    refine ⟨fun e => ?_, fun e => ⟨_, hY1.fj.day k (Or.inr rfl) hY1.2.2.2.2.1 (hY1.ru hbs.ru) (-1), ?_⟩⟩
    rotate_left
    · rintro v τ2 ⟨rfl, hJ2⟩
      have hd := fok_day (ev := A.ev) (sil := -1) hY1.2.2.2.2.1
      rw [hGn] at hd
      have hY2 := hY1.to hJ2 hd.1
      rw [yrT, if_pos e] at hs
      simp only [hGn] at hs
      have e0 : dd = 0 := by
        have : nI dd = nI 0 := e
        rw [eq_of_nI (by omega) (by omega)] at this
        exact this
      show WW _ _ _ 62 [some (.ref 52), some (.int sd), some (.int (nI d)), some (.int (nI i)), some (.int (nI dd)), o5, o6] [] τ2
      refine wpW K_X12_years [36] 60 ?_
      refine ⟨fun _ => ?_, fun z => absurd e z⟩
      exact go (τ2, (lotS l, dayS A.ev (-1) (fN A.F) G), some (.int (nI dd)), o5, o6) _ _ (by rw [← nI_1 i]; rfl) rfl ⟨hY2, hs.symm⟩
    rw [yrT, if_neg e] at hs
    simp only [hGn] at hs
    show WW _ _ _ 62 [some (.ref 52), some (.int sd), some (.int (nI d)), some (.int (nI i)), some (.int (nI dd)), o5, o6] [] τ1
    have n1 : gI τ1 52 1 = nI (fN A.F) := by rw [hY1.2.2.1.1, hY1.2.1, hGn]
    refine wpW K_X12_years [77, 36] 60 ?_
    refine ⟨fun z => absurd z e, fun _ => ⟨fun z => ?_, fun z => ?_⟩⟩
    rotate_left
    · have z' : fN A.F = 0 := by
        rw [n1, show (0 : Int32) = nI 0 from rfl, eq_of_nI (by omega) (by omega)] at z
        exact z
      rw [if_pos z'] at hs
      exact go (τ1, (lotS l, G), some (.int (nI dd)), o5, o6) _ _ (by rw [← nI_1 i]; rfl) rfl ⟨hY1, hs.symm⟩
    have z' : ¬ fN A.F = 0 := fun y => z (by rw [n1, y]; rfl)
    have hne : ¬ nI (fN A.F) = 0 := fun y => z (n1.trans y)
    rw [if_neg z'] at hs
    obtain ⟨q, q1, q2⟩ := draw_in (lotS l) (m := fN A.F) (by omega) (by omega)
    refine wpW K_X12_years [103] 60 ?_
    show ∃ Q', EvM _ M_X12_draw [.ref 52, .int (gI τ1 52 1)] τ1 Q' ∧ _
    rw [n1]
    refine ⟨_, hY1.dr _ _ hne, ?_⟩
    rintro v τ2 ⟨rfl, hY2⟩
    rw [q2] at hs ⊢
    have n2 : gI τ2 52 1 = nI (fN A.F) := by rw [hY2.2.2.1.1, hY2.2.1, hGn]
    refine ⟨fun d3 => ?_, fun d3 => ?_⟩
    · rw [if_neg d3] at hs
      obtain ⟨p, p1, p2⟩ := draw_in (lotS (lotS l)) (m := fN A.F) (by omega) (by omega)
      rw [p2] at hs
      show WW _ _ _ 103 [some (.ref 52), some (.int sd), some (.int (nI d)), some (.int (nI i)), some (.int (nI dd)), some (.int (nI q)), o6] [.int (gI τ2 52 1), .ref 52] τ2
      rw [n2]
      refine wpW K_X12_years [36] 60 ?_
      refine ⟨_, hY2.dr _ _ hne, ?_⟩
      rintro v τ3 ⟨rfl, hY3⟩
      rw [p2]
      refine ⟨fun _ => ⟨_, ev_refS k τ3 63 (Or.inr rfl) hY3.2.2.1 A.ev (hY3.ru hbs.ru) _ _, ?_⟩, fun y => absurd y d3⟩
      rintro v τ4 ⟨rfl, f4⟩
      rw [hY3.2.1]
      have hY4 : YM σs τ4 (fN A.F) (lotS (lotS (lotS l))) G := hY3.to (hY3.fj.q (Or.inr rfl) f4) hY3.2.2.2.2.1
      rcases said_rf A.ev hY3.2.2.2.2.1.1 (nI q) (nI p) with ⟨r1, -, r2⟩ | ⟨r1, i1, i2, -, r2⟩
      · rw [r2] at hs
        refine ⟨fun _ => ?_, fun y => absurd r1 (by rw [y]; decide)⟩
        exact go (τ4, (lotS (lotS (lotS l)), G), some (.int (nI dd)), some (.int (nI q)), some (.int (nI p))) _ _ (by rw [← nI_1 i]; rfl) rfl ⟨hY4, hs.symm⟩
      · rw [r2] at hs
        rw [nI_clamp (by omega), nI_clamp (by omega)] at hs
        refine ⟨fun y => absurd r1 y, fun _ => ⟨_, hY4.fj.say _ (Or.inr rfl) q p (by omega) (by omega), ?_⟩⟩
        rintro v τ5 ⟨rfl, hJ5⟩
        have hY5 := hY4.to hJ5 (fok_say hY4.2.2.2.2.1 (by omega))
        exact go (τ5, (lotS (lotS (lotS l)), sayF G q p), some (.int (nI dd)), some (.int (nI q)), some (.int (nI p))) _ _ (by rw [← nI_1 i]; rfl) rfl ⟨hY5, hs.symm⟩
    · rw [if_pos d3] at hs
      obtain ⟨p, p1, p2⟩ := draw_in (lotS (lotS l)) (m := 10) (by omega) (by omega)
      rw [show nI 10 = (10 : Int32) from rfl] at p2
      rw [p2, move_pl hY2.2.2.2.2.1 (by omega) p1] at hs
      show WW _ _ _ 103 [some (.ref 52), some (.int sd), some (.int (nI d)), some (.int (nI i)), some (.int (nI dd)), some (.int (nI q)), o6] [.int 10, .ref 52] τ2
      refine wpW K_X12_years [36] 60 ?_
      refine ⟨_, hY2.dr _ _ (by decide), ?_⟩
      rintro v τ3 ⟨rfl, hY3⟩
      rw [p2]
      refine ⟨fun y => absurd d3 y, fun _ => ⟨i30 (by omega), ?_⟩⟩
      have hJ : FJ 63 τ3 (sA τ3 63 (upd (gA τ3 63) q (nI p))) (fN A.F) (wPl G (upd (fPl G) q (nI p))) := by
        refine hY3.fj.w (Or.inr rfl) (FM.sA FM.rf (by decide)) ?_ hGn hY3.2.2.2.2.1.1
        rw [mF_sA (Or.inr rfl), mG_Pl _ _ _ (by omega)]
        show wPl (mF τ3 63) (upd (fPl (mF τ3 63)) q (nI p)) = _
        rw [hY3.2.1]
      have hok : fOK (wPl G (upd (fPl G) q (nI p))) := fOK.of hY3.2.2.2.2.1.1 (pl_upd hY3.2.2.2.2.1.pl p1) hY3.2.2.2.2.1.vo hY3.2.2.2.2.1.pu
      refine go (sA τ3 63 (upd (gA τ3 63) q (nI p)), (lotS (lotS (lotS l)), wPl G (upd (fPl G) q (nI p))), some (.int (nI dd)), some (.int (nI q)), some (.int (nI p))) _ _ (by rw [← nI_1 i]; rfl) ?_ ⟨hY3.to hJ hok, hs.symm⟩
      rw [nI_clamp (by omega)]
  · rintro ⟨τ, ⟨l, G⟩, o4, o5, o6⟩ ⟨hY, hI⟩
    simp only at hY hI ⊢
    obtain ⟨y1, y2, y3, y4, y5, y6⟩ := hY
    rw [← hI]
    refine wpW K_X12_years [163] 60 ?_
    refine ⟨fun _ => ?_, fun e => absurd (Int32.le_refl _) e⟩
    obtain ⟨r1, r2⟩ := row_0 τ
    have f3 : FM [] [6] τ (sI τ 52 6 0) := FM.rf.sI (by decide)
    show WW _ _ _ 163 [some (.ref 52), some (.int sd), some (.int (nI d)), some (.int (nI d)), o4, o5, o6] [] (sI τ 52 6 0)
    generalize sI τ 52 6 0 = σ3 at r1 r2 f3 ⊢
    have fa : FM lMs jMs σ σ3 := ((fs.up _ _ (by decide) (by decide)).tr (y6.up _ _ (by decide) (by decide))).tr (f3.up _ _ (by decide) (by decide))
    have hF3 : mF σ3 63 = G := (mF_fr f3 (by decide) (by decide) (by decide)).trans y2
    have e63 : gA σ3 63 29 = fSd G := by rw [← hF3]; exact (mF_rd σ3 63).2.2.2.2.2.2
    have e53 : gA σ3 53 29 = fSd A.F := by rw [← (hb.fr fa).F]; exact (mF_rd σ3 53).2.2.2.2.2.2
    refine wpW K_X12_years [] 60 ?_
    refine ⟨inN (i := 29) (n := 30) (by decide) (by decide), inN (i := 29) (n := 30) (by decide) (by decide), _, ev_tellL _ r1 r2 (by simp) _, ?_⟩
    rintro v σ4 ⟨rfl, r4, e4, f4⟩
    have hF4 : mF σ4 63 = G := (mF_fr f4 (by decide) (by decide) (by decide)).trans hF3
    have hok4 : mOK σ4 63 := mOK_fr f4 (by decide) (by decide) (by decide) (mOK_fr f3 (by decide) (by decide) (by decide) y3)
    refine ⟨_, ev_sumOf _ σ4 63 (Or.inr rfl) hok4 7 (by omega), ?_⟩
    rintro v τ' ⟨h9, rfl⟩
    obtain rfl := h9.symm
    refine ⟨_, ev_tellL _ r4 e4 (by simp) _, ?_⟩
    rintro v σ5 ⟨rfl, r5, e5, f5⟩
    have hF5 : mF σ5 63 = G := (mF_fr f5 (by decide) (by decide) (by decide)).trans hF4
    have hok5 : mOK σ5 63 := mOK_fr f5 (by decide) (by decide) (by decide) hok4
    refine ⟨_, ev_atHome _ σ5 63 (Or.inr rfl) hok5, ?_⟩
    rintro v τ' ⟨h9, rfl⟩
    obtain rfl := h9.symm
    rw [hF5]
    rw [show r7 (fun i => gA σ4 63 (7 + i)) = fPu (mF σ4 63) from rfl, hF4, y4] at e5
    have e5' : mRw σ5 = [(fSd G - fSd A.F).toInt64, (sumS (fN A.F) (fPu G)).toInt64] := by rw [e5, ← e63, ← e53]; rfl
    have := mv_end hb (fa.tr ((f4.up _ _ (by decide) (by decide)).tr (f5.up _ _ (by decide) (by decide)))) r5 e5'
    exact ⟨rfl, this.1, f0.tr this.2⟩
