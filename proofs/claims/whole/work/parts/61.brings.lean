/-! the same, level by level; the class's call: brings -/
theorem pi_list {e : Option Nat → Nat → Bool} {n s : Nat} {Q0 : List Nat} {pt0 : Nat → List Nat} {ex : MS3 → Nat → MS3} (hn : n ≤ 7) (hex : ∀ h st, h ∈ Q0 → ∃ t, ex st h = meetS t (nI h) st ∧ ∀ q, q < 7 → (t / 2 ^ q % 2 = 1 ↔ q < n ∧ e (some h) q = true)) (h0 : ∀ x ∈ Q0, (pt0 x).length ≤ s) (hp : ∀ x ∈ Q0, wlk e n none (pt0 x) ∧ ∃ p', pt0 x = p' ++ [x]) :
    ∀ (hs : List Nat) (D : Option Nat → Nat → Prop) B st pt, (∀ h ∈ hs, h ∈ Q0 ∧ (pt0 h).length = s ∧ B ≤ 8 * enc (pt0 h)) → hs.Pairwise (fun x y => enc (pt0 x) < enc (pt0 y)) → PI e n s Q0 pt0 D B st pt → ∃ pt' B', PI e n s Q0 pt0 (fun a b => D a b ∨ ∃ h, a = some h ∧ h ∈ hs) B' (hs.foldl ex st) pt' := by
  intro hs
  induction hs with
  | nil => intro D B st pt _ _ h; exact ⟨pt, B, h.mono (Nat.le_refl _) (fun a b hab => hab.elim id (fun ⟨x, _, hx⟩ => absurd hx (by simp)))⟩
  | cons h hs ih =>
    intro D B st pt hh hpw hI
    obtain ⟨a1, a2, a3⟩ := hh h (List.mem_cons_self ..)
    obtain ⟨b1, b2⟩ := List.pairwise_cons.mp hpw
    obtain ⟨t, t1, t2⟩ := hex h st a1
    obtain ⟨w1, p', w2⟩ := hp h a1
    obtain ⟨pt1, h1⟩ := pi_meet (hd := some h) (bv := nI h) hn t2 a2 w1 (by show finW none (pt0 h) = some h; rw [w2, fin_app]) (Or.inr ⟨h, rfl, a1, rfl⟩) h0 (hI.mono (show B ≤ 8 * enc (pbf pt0 (some h)) from a3) (fun _ _ q => q))
    rw [← t1] at h1
    obtain ⟨pt2, B2, h2⟩ := ih _ _ _ _ (fun x hx => ⟨(hh x (List.mem_cons_of_mem _ hx)).1, (hh x (List.mem_cons_of_mem _ hx)).2.1, by have := b1 x hx; show 8 * enc (pt0 h) + 7 ≤ _; omega⟩) b2 h1
    refine ⟨pt2, B2, h2.mono (Nat.le_refl _) ?_⟩
    rintro a b (hab | ⟨x, rfl, hx⟩)
    · exact Or.inl (Or.inl hab)
    · rcases List.mem_cons.mp hx with rfl | hx
      · exact Or.inl (Or.inr rfl)
      · exact Or.inr ⟨x, rfl, hx⟩
def BI (e : Option Nat → Nat → Bool) (n s b : Nat) (st : MS3) (pt : Nat → List Nat) : Prop :=
  st.1 < 128 ∧ pcN st.1 = st.2.1.length ∧ (∀ q, q < 7 → (st.1 / 2 ^ q % 2 = 1 ↔ q ∈ st.2.1)) ∧ (∀ q ∈ st.2.1, q < n) ∧ (∀ q ∈ st.2.1.drop b, (pt q).length = s) ∧ (∀ q ∈ st.2.1, q ∈ st.2.1.drop b ∨ (pt q).length < s) ∧ (st.2.1.drop b).Pairwise (fun x y => enc (pt x) < enc (pt y)) ∧ (∀ q ∈ st.2.1, wlk e n none (pt q) ∧ (∃ p', pt q = p' ++ [q]) ∧ lnk pt st.2.1 st.2.2 q) ∧ ∀ p q, wlk e n none (p ++ [q]) → p.length < s → q ∈ st.2.1 ∧ ((pt q).length < p.length + 1 ∨ (pt q).length = p.length + 1 ∧ enc (pt q) ≤ enc (p ++ [q]))
theorem bi_first {e : Option Nat → Nat → Bool} {n t : Nat} {fr : Nat → Int32} (hn : n ≤ 7) (ht : ∀ q, q < 7 → (t / 2 ^ q % 2 = 1 ↔ q < n ∧ e none q = true)) : ∃ pt, BI e n 1 0 (meetS t (-1) (0, [], fr)) pt := by
  have h0 : PI e n 0 [] (fun _ => []) (fun _ _ => False) (8 * enc (pbf (fun _ => []) none)) (0, [], fr) (fun _ => []) := by
    refine ⟨(show 0 < 128 by omega), (show pcN 0 = 0 by decide), fun q _ => ?_, fun q hq => absurd hq (by simp), ⟨[], rfl, List.Pairwise.nil, fun x hx => absurd hx (by simp)⟩, fun q hq => absurd hq (by simp), fun q hq => absurd hq (by simp), fun _ _ q => q.elim⟩
    simp
  obtain ⟨pt, h1, h2, h3, h4, ⟨N, h5, h6, h7⟩, h8, h9, h10⟩ := pi_meet (hd := none) (bv := -1) hn ht rfl trivial rfl (Or.inl ⟨rfl, rfl⟩) (fun x hx => absurd hx (by simp)) h0
  rw [List.nil_append] at h5
  refine ⟨pt, h1, h2, h3, h4, ?_, ?_, ?_, h9, ?_⟩
  · intro q hq
    rw [List.drop_zero, h5] at hq
    exact (h7 q hq).1
  · intro q hq
    exact Or.inl (by rw [List.drop_zero]; exact hq)
  · rw [List.drop_zero, h5]; exact h6
  · intro p q hw hl
    have : p = [] := List.length_eq_zero_iff.mp (by omega)
    subst this
    obtain ⟨k1, k2⟩ := h10 none q (Or.inr rfl) hw.1 hw.2.1
    refine ⟨k1, ?_⟩
    have k3 := (h7 q (by rw [← h5]; exact k1)).1
    rcases k2 with k2 | k2
    · omega
    · refine Or.inr ⟨by rw [k3]; rfl, ?_⟩
      simp only [pbf, enc] at k2
      simp [enc]
      omega
theorem bi_next {e : Option Nat → Nat → Bool} {n s b : Nat} {st : MS3} {pt : Nat → List Nat} {ex : MS3 → Nat → MS3} (hn : n ≤ 7) (hs1 : 1 ≤ s) (hex : ∀ h st, h < n → ∃ t, ex st h = meetS t (nI h) st ∧ ∀ q, q < 7 → (t / 2 ^ q % 2 = 1 ↔ q < n ∧ e (some h) q = true)) (h : BI e n s b st pt) : ∃ pt', BI e n (s + 1) st.2.1.length ((st.2.1.drop b).foldl ex st) pt' := by
  obtain ⟨h1, h2, h3, h4, h5, h6, h7, h8, h9⟩ := id h
  have hlen : ∀ x ∈ st.2.1, (pt x).length ≤ s := fun x hx => (h6 x hx).elim (fun q => Nat.le_of_eq (h5 x q)) (fun q => Nat.le_of_lt q)
  have h0 : PI e n s st.2.1 pt (fun _ _ => False) 0 st pt := ⟨h1, h2, h3, h4, ⟨[], (List.append_nil _).symm, List.Pairwise.nil, fun x hx => absurd hx (by simp)⟩, fun _ _ => rfl, h8, fun _ _ q => q.elim⟩
  obtain ⟨pt', B', g1, g2, g3, g4, ⟨N, g5, g6, g7⟩, g8, g9, g10⟩ := pi_list hn (fun h st hh => hex h st (h4 h hh)) hlen (fun x hx => ⟨(h8 x hx).1, (h8 x hx).2.1⟩) (st.2.1.drop b) _ 0 st pt (fun x hx => ⟨List.mem_of_mem_drop hx, h5 x hx, Nat.zero_le _⟩) h7 h0
  have hd : ((st.2.1.drop b).foldl ex st).2.1.drop st.2.1.length = N := by rw [g5, List.drop_left]
  refine ⟨pt', g1, g2, g3, g4, ?_, ?_, ?_, g9, ?_⟩
  · intro q hq
    rw [hd] at hq
    exact (g7 q hq).1
  · intro q hq
    rw [hd]
    rw [g5] at hq
    rcases List.mem_append.mp hq with hq | hq
    · exact Or.inr (by rw [g8 q hq]; have := hlen q hq; omega)
    · exact Or.inl hq
  · rw [hd]; exact g6
  · intro p q hw hl
    obtain ⟨w1, w2, w3⟩ := (wlk_app _ _).mp hw
    have hin : ∀ x, x ∈ st.2.1 → x ∈ ((st.2.1.drop b).foldl ex st).2.1 := fun x hx => by rw [g5]; exact List.mem_append_left _ hx
    have old : ∀ p, wlk e n none (p ++ [q]) → p.length < s → q ∈ st.2.1 ∧ q ∈ ((st.2.1.drop b).foldl ex st).2.1 ∧ ((pt' q).length < p.length + 1 ∨ (pt' q).length = p.length + 1 ∧ enc (pt' q) ≤ enc (p ++ [q])) := fun p hp1 hp2 => by
      obtain ⟨k1, k2⟩ := h9 p q hp1 hp2
      rw [g8 q k1]
      exact ⟨k1, hin q k1, k2⟩
    by_cases hs : p.length < s
    · exact (old p hw hs).2
    · rcases List.eq_nil_or_concat p with rfl | ⟨p0, x, rfl⟩
      · simp at hs; omega
      · rw [List.concat_eq_append] at *
        rw [List.length_append, List.length_singleton] at hl hs
        rw [fin_app] at w3
        obtain ⟨k1, k2⟩ := h9 p0 x w1 (by omega)
        rcases h6 x k1 with k3 | k3
        · have k4 := h5 x k3
          obtain ⟨m1, m2⟩ := g10 (some x) q (Or.inr ⟨x, rfl, k3⟩) w2 w3
          refine ⟨m1, ?_⟩
          rw [List.length_append, List.length_singleton]
          have k5 : enc (pt x) ≤ enc (p0 ++ [x]) := by
            rcases k2 with k2 | k2
            · omega
            · exact k2.2
          rcases m2 with m2 | m2
          · exact Or.inl (by omega)
          · rw [g5] at m1
            rcases List.mem_append.mp m1 with m1 | m1
            · exact Or.inl (by rw [g8 q m1]; have := hlen q m1; omega)
            · refine Or.inr ⟨by rw [(g7 q m1).1]; omega, ?_⟩
              rw [enc_app q]
              simp only [pbf] at m2
              omega
        · obtain ⟨k4, k5, k6⟩ := h8 x k1
          obtain ⟨p', hp'⟩ := k5
          have hw2 : wlk e n none (pt x ++ [q]) := (wlk_app _ _).mpr ⟨k4, w2, by rw [hp', fin_app]; exact w3⟩
          obtain ⟨-, m1, m2⟩ := old (pt x) hw2 k3
          refine ⟨m1, Or.inl ?_⟩
          rw [List.length_append, List.length_singleton]
          rcases m2 with m2 | m2 <;> omega
theorem trW_ge (fr : Nat → Int32) : ∀ i a w j, i ≤ j → trW fr i a w j = w j := by
  intro i
  induction i with
  | zero => intro a w j _; rfl
  | succ i ih =>
    intro a w j h
    rw [trW]
    split
    · rfl
    · rw [ih _ _ j (by omega), upd, if_neg (by omega)]
theorem tr_path {n : Nat} (hn : n ≤ 7) {Q : List Nat} {fr : Nat → Int32} {pt : Nat → List Nat} (hQ : ∀ q ∈ Q, q < n) (hl : ∀ q ∈ Q, lnk pt Q fr q) : ∀ l q w, q ∈ Q → (pt q).length = l → ∀ j, j < l → trW fr l (nI q) w j = nI ((pt q).getD j 0) := by
  intro l
  induction l with
  | zero => intro q w _ _ j hj; omega
  | succ l ih =>
    intro q w hq hlen j hj
    have hq7 := hQ q hq
    rw [trW, if_neg (ge0_nI (by omega)), nI_clamp (by omega)]
    rcases hl q hq with ⟨a1, a2⟩ | ⟨h, a1, a2, a3⟩
    · rw [a1] at hlen ⊢
      have l0 : l = 0 := by simpa using hlen.symm
      subst l0
      have j0 : j = 0 := by omega
      subst j0
      simp [trW, upd]
    · have hl' : (pt h).length = l := by rw [a2, List.length_append, List.length_singleton] at hlen; omega
      rw [a3, a2]
      by_cases c : j = l
      · subst c
        rw [trW_ge _ _ _ _ _ (Nat.le_refl _), upd, if_pos rfl, ← hl']
        simp
      · rw [ih h _ a1 hl' j (by omega)]
        simp only [List.getD]
        rw [List.getElem?_append_left (by omega)]
theorem to_df {ev : (Nat → Int32) → Int32} {G : FS} {nm one n : Nat} {e : Option Nat → Nat → Bool} {tg : Option Nat → Bool} (hn : n ≤ 7) (hone : one < n) (htg : ∀ h, tg (some h) = true ↔ h = one) (hex : ∀ h st, h < n → ∃ t, expS ev G nm st h = meetS t (nI h) st ∧ ∀ q, q < 7 → (t / 2 ^ q % 2 = 1 ↔ q < n ∧ e (some h) q = true)) :
    ∀ c s b st pt, 1 ≤ s → BI e n s b st pt → (∀ l, 1 ≤ l → l < s → dfG e tg n l none = none) → (∀ s' fr', toL ev G nm one c s st b = some (s', fr') → s ≤ s' ∧ s' < s + c ∧ (∀ l, 1 ≤ l → l < s' → dfG e tg n l none = none) ∧ ∃ p, p.length = s' ∧ dfG e tg n s' none = some p ∧ ∀ w j, j < s' → trW fr' s' (nI one) w j = nI (p.getD j 0)) ∧ (toL ev G nm one c s st b = none → ∀ l, 1 ≤ l → l < s + c → dfG e tg n l none = none) := by
  intro c
  induction c with
  | zero =>
    intro s b st pt hs hI hno
    exact ⟨fun s' fr' h => absurd h (by simp [toL]), fun _ l h1 h2 => hno l h1 (by omega)⟩
  | succ c ih =>
    intro s b st pt hs hI hno
    obtain ⟨h1, h2, h3, h4, h5, h6, h7, h8, h9⟩ := id hI
    rw [toL]
    by_cases cb : st.1 / 2 ^ one % 2 = 1
    · rw [if_pos cb]
      have hm := (h3 one (by omega)).mp cb
      obtain ⟨k1, ⟨p', k2⟩, k3⟩ := h8 one hm
      have hlen : (pt one).length = s := by
        rcases h6 one hm with q | q
        · exact h5 one q
        · exfalso
          have hpl : 1 ≤ (pt one).length := by rw [k2, List.length_append, List.length_singleton]; omega
          have := (df_sp (e := e) (tg := tg) hn (pt one).length none).2 (hno _ hpl q) (pt one) rfl k1
          rw [k2, fin_app] at this
          exact this ((htg one).mpr rfl)
      refine ⟨fun s' fr' h => ?_, fun h => absurd h (by simp)⟩
      injection h with h
      injection h with ha hb
      subst ha hb
      refine ⟨Nat.le_refl _, by omega, hno, pt one, hlen, ?_, fun w j hj => tr_path hn h4 (fun q hq => (h8 q hq).2.2) _ one w hm hlen j hj⟩
      have hsp := df_sp (e := e) (tg := tg) hn s none
      match hd : dfG e tg n s none with
      | none =>
        have := hsp.2 hd (pt one) hlen k1
        rw [k2, fin_app] at this
        exact absurd ((htg one).mpr rfl) this
      | some p =>
        obtain ⟨g1, g2, g3, g4⟩ := hsp.1 p hd
        have a1 := g4 (pt one) hlen k1 (by rw [k2, fin_app]; exact (htg one).mpr rfl)
        rcases List.eq_nil_or_concat p with rfl | ⟨p0, x, rfl⟩
        · simp at g1; omega
        · rw [List.concat_eq_append] at *
          rw [fin_app] at g3
          have hx := (htg x).mp g3
          subst hx
          rw [List.length_append, List.length_singleton] at g1
          have a2 := (h9 p0 x g2 (by omega)).2
          have a3 : enc (pt x) = enc (p0 ++ [x]) := by
            rcases a2 with a2 | a2
            · omega
            · omega
          rw [enc_inj _ _ (by rw [hlen, List.length_append, List.length_singleton]; omega) (fun q hq => by have := wlk_lt _ _ k1 q hq; omega) (fun q hq => by have := wlk_lt _ _ g2 q hq; omega) a3]
    · rw [if_neg cb]
      have hnm : one ∉ st.2.1 := fun q => cb ((h3 one (by omega)).mpr q)
      have hno' : ∀ l, 1 ≤ l → l < s + 1 → dfG e tg n l none = none := by
        intro l hl1 hl2
        match hd : dfG e tg n l none with
        | none => rfl
        | some p =>
          obtain ⟨g1, g2, g3, g4⟩ := (df_sp (e := e) (tg := tg) hn l none).1 p hd
          rcases List.eq_nil_or_concat p with rfl | ⟨p0, x, rfl⟩
          · simp at g1; omega
          · rw [List.concat_eq_append] at *
            rw [fin_app] at g3
            have hx := (htg x).mp g3
            subst hx
            rw [List.length_append, List.length_singleton] at g1
            exact absurd (h9 p0 x g2 (by omega)).1 hnm
      obtain ⟨pt', hI'⟩ := bi_next hn hs hex hI
      obtain ⟨r1, r2⟩ := ih (s + 1) _ _ pt' (by omega) hI' hno'
      refine ⟨fun s' fr' h => ?_, fun h l hl1 hl2 => r2 h l hl1 (by omega)⟩
      obtain ⟨a1, a2, a3⟩ := r1 s' fr' h
      exact ⟨by omega, by omega, a3⟩
def egW (F : FS) (nm : Nat) : Option Nat → FS
  | none => F
  | some h => wHo (wAg F (upd (fAg F) nm 0)) (upd (fHo F) nm (nI h))
def egS (ev : (Nat → Int32) → Int32) (F : FS) (nm : Nat) (h : Option Nat) (q : Nat) : Bool := canS ev (egW F nm h) q nm
def tgS (F : FS) (nm one : Nat) : Option Nat → Bool
  | none => decide (fHo F nm = nI one)
  | some h => decide (h = one)
def dfS (ev : (Nat → Int32) → Int32) (F : FS) (nm one : Nat) : Nat → Option Nat → Option (List Nat) := dfG (egS ev F nm) (tgS F nm one) (fN F)
def brS (ev : (Nat → Int32) → Int32) (F : FS) (nm one : Nat) : Option (List Nat) := fstS (fun l => dfS ev F nm one l none) 5 0
theorem say_bit {ev : (Nat → Int32) → Int32} {F G : FS} {nm : Nat} (hG : fN G = fN F) (q : Nat) : sayN ev G nm / 2 ^ q % 2 = 1 ↔ q < fN F ∧ canS ev G q nm = true := by
  rw [sayN, mask_bit, hG]
  by_cases c : q < fN F ∧ canS ev G q nm = true
  · rw [if_pos c]; exact ⟨fun _ => c, fun _ => rfl⟩
  · rw [if_neg c]; exact ⟨fun h => absurd h (by decide), fun h => absurd h c⟩
theorem br_eq {ev : (Nat → Int32) → Int32} {F : FS} {nm one : Nat} {fr : Nat → Int32} (hF : fsOK F) (hnm : nm < fN F) (hone : one < fN F) : match toH ev F nm one fr with
    | some (s, fr') => ∃ p, brS ev F nm one = some p ∧ p.length = s ∧ s ≤ 4 ∧ ∀ w j, j < s → trW fr' s (nI one) w j = nI (p.getD j 0)
    | none => brS ev F nm one = none := by
  have h7 := hF.1
  rw [toH, brS]
  by_cases c : fHo F nm = nI one
  · rw [if_pos c]
    have e0 : dfS ev F nm one 0 none = some [] := by rw [dfS, dfG, if_pos (show tgS F nm one none = true from decide_eq_true c)]
    refine ⟨[], ?_, rfl, by omega, fun w j hj => by omega⟩
    simp only [fstS, e0]
  · rw [if_neg c]
    have e0 : dfS ev F nm one 0 none = none := by rw [dfS, dfG, if_neg (show ¬ tgS F nm one none = true from fun q => c (of_decide_eq_true q))]
    have hex : ∀ h st, h < fN F → ∃ t, expS ev (wAg F (upd (fAg F) nm 0)) nm st h = meetS t (nI h) st ∧ ∀ q, q < 7 → (t / 2 ^ q % 2 = 1 ↔ q < fN F ∧ egS ev F nm (some h) q = true) := fun h st _ => ⟨_, rfl, fun q _ => say_bit rfl q⟩
    obtain ⟨pt, hI⟩ := bi_first (e := egS ev F nm) (n := fN F) (t := sayN ev F nm) (fr := fr) h7 (fun q _ => say_bit rfl q)
    obtain ⟨r1, r2⟩ := to_df (tg := tgS F nm one) h7 hone (fun h => by rw [tgS, decide_eq_true_eq]) hex 4 1 0 _ pt (Nat.le_refl _) hI (fun l h1 h2 => by omega)
    match ht : toL ev (wAg F (upd (fAg F) nm 0)) nm one 4 1 (meetS (sayN ev F nm) (-1) (0, [], fr)) 0 with
    | some (s', fr') =>
      obtain ⟨a1, a2, a3, p, a4, a5, a6⟩ := r1 s' fr' ht
      refine ⟨p, ?_, a4, by omega, a6⟩
      have hall : ∀ l, l < s' → dfS ev F nm one l none = none := fun l hl => by
        match l with
        | 0 => exact e0
        | l + 1 => exact a3 (l + 1) (by omega) hl
      match hf : fstS (fun l => dfS ev F nm one l none) 5 0 with
      | some p' =>
        obtain ⟨x, -, x2, x3, x4⟩ := fst_some _ _ hf
        rcases Nat.lt_trichotomy x s' with d | d | d
        · rw [hall x d] at x3; exact absurd x3 (by simp)
        · rw [d] at x3; exact x3.symm.trans a5
        · have := x4 s' (by omega) d; rw [show dfS ev F nm one s' none = some p from a5] at this; exact absurd this (by simp)
      | none =>
        have := fst_none _ _ hf s' (by omega) (by omega)
        rw [show dfS ev F nm one s' none = some p from a5] at this
        exact absurd this (by simp)
    | none =>
      have hr := r2 ht
      match hf : fstS (fun l => dfS ev F nm one l none) 5 0 with
      | none => rfl
      | some p' =>
        obtain ⟨x, -, x2, x3, x4⟩ := fst_some _ _ hf
        exfalso
        match x with
        | 0 => rw [e0] at x3; exact absurd x3 (by simp)
        | x + 1 => rw [show dfS ev F nm one (x + 1) none = none from hr (x + 1) (by omega) (by omega)] at x3; exact absurd x3 (by simp)
def bringsC (A : AS) (x y : Int32) : Int32 × AS := if inS (fN A.F) x && inS (fN A.F) y then (match brS A.ev A.F x.toNatClampNeg y.toNatClampNeg with
    | some p => (nI p.length, A.wR (rngL p.length (fun j => (nI (p.getD j 0)).toInt64)))
    | none => (-2, A)) else (-1, A)
theorem CB.sF {σ τ : Sto} {A : AS} {r s : Nat} (hb : CB σ A r s) (h : Fr (21 :: lS) σ τ) (hh : fromOK τ) : CB τ A r s := by
  have hk := hb.kF h (by decide)
  have hx := hb.kX h (by decide) (by decide)
  have hH := hb.kH h (by decide) (by decide) (by decide)
  have hS := hb.kS h (by decide) (by decide) (by decide) (by decide)
  have hr := hb.rk h (by decide)
  exact ⟨hk.1, hk.2, hx.1, hx.2, hb.kP h (by decide) (by decide), hb.rs, hr.1, (h.R (by decide) 12).trans hb.r2, hr.2, hH.1, hH.2, hS.1, hS.2, hh, hushOK_fr h (by decide) (by decide) hb.hu⟩
theorem cc_brings (k : Nat) (A : AS) (x y : Int32) : CC (k + 6) M_X11_brings [.int x, .int y] A (.int (bringsC A x y).1) (bringsC A x y).2 := by
  intro σ hv
  obtain ⟨r, s, hb⟩ := hv.b
  have h7 := hb.n7
  refine EvM.of mk_X11_brings (Nat.le_of_ble_eq_true rfl) ?_
  unfold bringsC
  have hno : ∀ P : Prop, ¬ (inS (fN A.F) x && inS (fN A.F) y) = true → some (Value.int (-1)) = some (Value.int (if (inS (fN A.F) x && inS (fN A.F) y) = true then (match brS A.ev A.F x.toNatClampNeg y.toNatClampNeg with
    | some p => (nI p.length, A.wR (rngL p.length (fun j => (nI (p.getD j 0)).toInt64)))
    | none => (-2, A)) else (-1, A)).1) ∧ CV σ (if (inS (fN A.F) x && inS (fN A.F) y) = true then (match brS A.ev A.F x.toNatClampNeg y.toNatClampNeg with
    | some p => (nI p.length, A.wR (rngL p.length (fun j => (nI (p.getD j 0)).toInt64)))
    | none => (-2, A)) else (-1, A)).2 ∧ Fr lC σ σ := by
    intro _ h
    rw [if_neg h]
    exact ⟨rfl, hv, Fr.rf⟩
  refine wpW K_X11_brings [70] 60 ?_
  refine ⟨_, ev_has5 _ σ hb x, ?_⟩
  rintro w τ ⟨h9, rfl⟩
  obtain rfl := h9.symm
  refine ⟨fun h => hno True (fun q => by rw [Bool.and_eq_true] at q; rw [q.1] at h; exact absurd h (by decide)), fun hx => ⟨_, ev_has5 _ σ hb y, ?_⟩⟩
  rintro w τ ⟨h9, rfl⟩
  obtain rfl := h9.symm
  refine ⟨fun hy => ?_, fun h => hno True (fun q => by rw [Bool.and_eq_true] at q; rw [q.2] at h; exact absurd h (by decide))⟩
  have hx' := (bI_ne _).mp hx
  have hy' := (bI_ne _).mp hy
  rw [if_pos (by rw [hx', hy']; rfl)]
  clear hno
  obtain ⟨x1, x2⟩ := in_of hb.n7 hx'
  obtain ⟨y1, y2⟩ := in_of hb.n7 hy'
  generalize x.toNatClampNeg = nm at x1 x2 ⊢
  generalize y.toNatClampNeg = one at y1 y2 ⊢
  subst x2 y2
  refine ⟨_, ev_takes _ σ hb.f, ?_⟩
  rintro w σ1 ⟨rfl, e1, c1, f1⟩
  have f1' : Fr lS σ σ1 := f1.up _ (by decide)
  have hb1 := hb.sS f1'
  rw [hb.F] at e1
  refine ⟨r, hb1.r1, ?_⟩
  have hS := ev_toHold k σ1 r hb.r c1 A.ev hb1.rc hb1.fr nm one (by rw [e1]; exact x1) (by rw [e1]; exact y1)
  rw [e1] at hS
  refine ⟨_, hS, ?_⟩
  rintro w σ2 ⟨hw, hfr, f2⟩
  have hbr := br_eq (ev := A.ev) (fr := gA σ1 21) hb.fs x1 y1
  have f2' : Fr (21 :: lS) σ1 σ2 := by
    rcases hb.r with rfl | rfl
    · exact f2.up _ (by decide)
    · exact f2.up _ (by decide)
  have hb2 := hb1.sF f2' hfr
  have f12 : Fr lC σ σ2 := (f1'.C (by decide)).tr (f2'.C (by decide))
  have f2t : Fr [11, 15, 16, 20, 21, 22, 23, 48, 51] σ1 σ2 := by
    rcases hb.r with rfl | rfl
    · exact f2.up _ (by decide)
    · exact f2.up _ (by decide)
  have ht2 : tOK σ2 := tOK_fr f2t (by decide) (by decide) (tOK_fr f1 (by decide) (by decide) hv.t)
  have hr2 : tR σ2 = A.R := (tR_fr f2t (by decide) (by decide)).trans ((tR_fr f1 (by decide) (by decide)).trans hv.R)
  generalize toH A.ev A.F nm one (gA σ1 21) = T at hw hbr
  match T, hw, hbr with
  | none, hw, hbr =>
    obtain rfl := hw.symm
    rw [hbr]
    refine ⟨fun h => absurd h (by decide), fun _ => ?_⟩
    exact ⟨rfl, ⟨⟨r, s, hb2⟩, ht2, hr2⟩, f12⟩
  | some (m, fr'), hw, hbr =>
    obtain ⟨p, p1, p2, p3, p4⟩ := hbr
    obtain ⟨h9, hg⟩ := hw
    obtain rfl := h9.symm
    have hway : ∀ j, j < m → gA σ2 23 j = nI (p.getD j 0) := fun j hj => by
      rcases hg with hg | hg
      · omega
      · rw [hg]; exact p4 _ j hj
    rw [p1]
    refine ⟨fun _ => ⟨_, ev_rclears _ _, ?_⟩, fun h => absurd (nn_nI (by omega)) h⟩
    rintro w σ3 ⟨rfl, e3, k3, f3⟩
    have hw3 : ∀ j, j < m → gA σ3 23 j = nI (p.getD j 0) := fun j hj => by rw [f3.A (by decide)]; exact hway j hj
    simp only [p2]
    refine loopI (α := Sto) 70 (fun i _ => [some (.ref 0), some (.int (nI nm)), some (.int (nI one)), some (.int (nI m)), some (.int (nI i))]) (fun a => a) (fun i a => Fr [3, 4] σ3 a ∧ tOK a ∧ tR a = rngL i (fun j => (nI (p.getD j 0)).toInt64)) m ?_ ?_ 0 σ3 (Nat.zero_le _) ⟨Fr.rf, k3, e3⟩
    · rintro i τ hi ⟨f, ht, hI⟩ go
      refine wpW K_X11_brings [70] 60 ?_
      refine ⟨fun h => ?_, fun _ => ⟨_, ev_sayer _ _ i (by omega), ?_⟩⟩
      · rw [le_of_nI (by omega) (by omega)] at h; omega
      rintro w τ' ⟨h9, rfl⟩
      obtain rfl := h9.symm
      refine ⟨_, ev_radds _ _ ht _ (by rw [hI, rngL_l]; omega), ?_⟩
      rintro w τ'' ⟨rfl, e4, k4, f4⟩
      refine go τ'' _ _ (by rw [← nI_1 i]; rfl) rfl ⟨f.tr f4, k4, ?_⟩
      rw [e4, hI, rngL_s, f.A (by decide), hw3 i hi]
    · rintro τ ⟨f, ht, hI⟩
      refine wpW K_X11_brings [70] 60 ?_
      refine ⟨fun h => ?_, fun h => ?_⟩
      · have := cv_end hb2 ((f3.tr f).up lS (by decide)) ht hI
        exact ⟨rfl, this.1, f12.tr this.2⟩
      · rw [le_of_nI (by omega) (by omega)] at h; omega
