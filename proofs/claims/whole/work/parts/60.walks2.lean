/-! by which sayings a name comes to one: the class's search by breadth is the search by length -/
def enc : List Nat → Nat
  | [] => 0
  | q :: p => q * 8 ^ p.length + enc p
theorem enc_app (q : Nat) : ∀ p, enc (p ++ [q]) = 8 * enc p + q := by
  intro p
  induction p with
  | nil => simp [enc]
  | cons x p ih =>
    rw [List.cons_append, enc, enc, ih, List.length_append, List.length_singleton, Nat.pow_succ, ← Nat.mul_assoc, Nat.mul_comm _ 8]
    omega
theorem enc_lt : ∀ p : List Nat, (∀ q ∈ p, q < 8) → enc p < 8 ^ p.length := by
  intro p
  induction p with
  | nil => intro _; simp [enc]
  | cons x p ih =>
    intro h
    have h1 := ih (fun q hq => h q (List.mem_cons_of_mem _ hq))
    have h2 := h x (List.mem_cons_self ..)
    rw [enc, List.length_cons, Nat.pow_succ]
    have : x * 8 ^ p.length ≤ 7 * 8 ^ p.length := Nat.mul_le_mul_right _ (by omega)
    omega
theorem enc_cons {x y : Nat} {p p' : List Nat} (hl : p.length = p'.length) (hp : ∀ q ∈ p, q < 8) (h : x < y) : enc (x :: p) < enc (y :: p') := by
  have h1 := enc_lt p hp
  rw [enc, enc, ← hl]
  have : (x + 1) * 8 ^ p.length ≤ y * 8 ^ p.length := Nat.mul_le_mul_right _ h
  rw [Nat.succ_mul] at this
  omega
theorem enc_inj : ∀ p p' : List Nat, p.length = p'.length → (∀ q ∈ p, q < 8) → (∀ q ∈ p', q < 8) → enc p = enc p' → p = p' := by
  intro p
  induction p with
  | nil => intro p' hl _ _ _; exact (List.length_eq_zero_iff.mp hl.symm).symm
  | cons x p ih =>
    intro p' hl h1 h2 he
    match p' with
    | [] => simp at hl
    | y :: p' =>
      simp only [List.length_cons, Nat.add_right_cancel_iff] at hl
      have a1 := fun q hq => h1 q (List.mem_cons_of_mem _ hq)
      have a2 := fun q hq => h2 q (List.mem_cons_of_mem _ hq)
      rcases Nat.lt_trichotomy x y with c | c | c
      · have := enc_cons hl a1 c; omega
      · subst c
        rw [enc, enc, hl] at he
        rw [ih p' hl a1 a2 (by omega)]
      · have := enc_cons hl.symm a2 c; omega
def wlk (e : Option Nat → Nat → Bool) (n : Nat) : Option Nat → List Nat → Prop
  | _, [] => True
  | h, q :: p => q < n ∧ e h q = true ∧ wlk e n (some q) p
def finW : Option Nat → List Nat → Option Nat
  | h, [] => h
  | _, q :: p => finW (some q) p
theorem wlk_lt {e : Option Nat → Nat → Bool} {n : Nat} : ∀ (p : List Nat) h, wlk e n h p → ∀ q ∈ p, q < n := by
  intro p
  induction p with
  | nil => intro h _ q hq; exact absurd hq (by simp)
  | cons x p ih =>
    intro h hw q hq
    rcases List.mem_cons.mp hq with rfl | hq
    · exact hw.1
    · exact ih _ hw.2.2 q hq
theorem fin_app (q : Nat) : ∀ (p : List Nat) h, finW h (p ++ [q]) = some q := by
  intro p
  induction p with
  | nil => intro h; rfl
  | cons x p ih => intro h; exact ih _
theorem wlk_app {e : Option Nat → Nat → Bool} {n q : Nat} : ∀ (p : List Nat) h, wlk e n h (p ++ [q]) ↔ wlk e n h p ∧ q < n ∧ e (finW h p) q = true := by
  intro p
  induction p with
  | nil => intro h; simp [wlk, finW]
  | cons x p ih => intro h; rw [List.cons_append, wlk, wlk, finW, ih]; simp only [and_assoc]
def fstS {β : Type} (f : Nat → Option β) : Nat → Nat → Option β
  | 0, _ => none
  | c + 1, q => match f q with
    | some b => some b
    | none => fstS f c (q + 1)
theorem fst_some {β : Type} {f : Nat → Option β} {b : β} : ∀ c q, fstS f c q = some b → ∃ x, q ≤ x ∧ x < q + c ∧ f x = some b ∧ ∀ y, q ≤ y → y < x → f y = none := by
  intro c
  induction c with
  | zero => intro q h; exact absurd h (by simp [fstS])
  | succ c ih =>
    intro q h
    rw [fstS] at h
    match hf : f q, h with
    | some b', h => exact ⟨q, Nat.le_refl _, by omega, by rw [hf]; exact h, fun y h1 h2 => by omega⟩
    | none, h =>
      obtain ⟨x, h1, h2, h3, h4⟩ := ih (q + 1) h
      exact ⟨x, by omega, by omega, h3, fun y g1 g2 => by
        by_cases c : y = q
        · rw [c]; exact hf
        · exact h4 y (by omega) g2⟩
theorem fst_none {β : Type} {f : Nat → Option β} : ∀ c q, fstS f c q = none → ∀ y, q ≤ y → y < q + c → f y = none := by
  intro c
  induction c with
  | zero => intro q h y h1 h2; omega
  | succ c ih =>
    intro q h y h1 h2
    rw [fstS] at h
    match hf : f q, h with
    | some b', h => exact absurd h (by simp)
    | none, h =>
      by_cases c : y = q
      · rw [c]; exact hf
      · exact ih (q + 1) h y (by omega) (by omega)
def dfG (e : Option Nat → Nat → Bool) (tg : Option Nat → Bool) (n : Nat) : Nat → Option Nat → Option (List Nat)
  | 0, h => if tg h then some [] else none
  | l + 1, h => fstS (fun q => if e h q then (dfG e tg n l (some q)).map (fun p => q :: p) else none) n 0
theorem df_sp {e : Option Nat → Nat → Bool} {tg : Option Nat → Bool} {n : Nat} (hn : n ≤ 7) : ∀ l h, (∀ p, dfG e tg n l h = some p → p.length = l ∧ wlk e n h p ∧ tg (finW h p) = true ∧ ∀ p', p'.length = l → wlk e n h p' → tg (finW h p') = true → enc p ≤ enc p') ∧ (dfG e tg n l h = none → ∀ p', p'.length = l → wlk e n h p' → ¬ tg (finW h p') = true) := by
  intro l
  induction l with
  | zero =>
    intro h
    refine ⟨fun p hp => ?_, fun hp p' hl _ => ?_⟩
    · rw [dfG] at hp
      split at hp
      · next c =>
        injection hp with hp
        subst hp
        exact ⟨rfl, trivial, c, fun p' hl _ _ => by rw [enc]; omega⟩
      · exact absurd hp (by simp)
    · rw [dfG] at hp
      rw [List.length_eq_zero_iff.mp hl]
      intro c
      rw [finW] at c
      rw [if_pos c] at hp
      exact absurd hp (by simp)
  | succ l ih =>
    intro h
    refine ⟨fun p hp => ?_, fun hp p' hl hw => ?_⟩
    · rw [dfG] at hp
      obtain ⟨x, h1, h2, h3, h4⟩ := fst_some _ _ hp
      split at h3
      · next c =>
        match hd : dfG e tg n l (some x), h3 with
        | some p0, h3 =>
          simp only [Option.map_some, Option.some.injEq] at h3
          subst h3
          obtain ⟨g1, g2, g3, g4⟩ := (ih (some x)).1 p0 hd
          refine ⟨by rw [List.length_cons, g1], ⟨by omega, c, g2⟩, g3, ?_⟩
          intro p' hl hw ht
          match p' with
          | [] => simp at hl
          | y :: p' =>
            simp only [List.length_cons, Nat.add_right_cancel_iff] at hl
            obtain ⟨w1, w2, w3⟩ := hw
            rcases Nat.lt_trichotomy x y with d | d | d
            · exact Nat.le_of_lt (enc_cons (by omega) (fun q hq => by have := wlk_lt _ _ g2 q hq; omega) d)
            · subst d
              have := g4 p' hl w3 ht
              rw [enc, enc, g1, hl]
              omega
            · have := h4 y (by omega) d
              rw [if_pos w2, Option.map_eq_none_iff] at this
              exact absurd ht ((ih (some y)).2 this p' hl w3)
        | none, h3 => exact absurd h3 (by simp)
      · exact absurd h3 (by simp)
    · rw [dfG] at hp
      match p' with
      | [] => simp at hl
      | y :: p' =>
        simp only [List.length_cons, Nat.add_right_cancel_iff] at hl
        obtain ⟨w1, w2, w3⟩ := hw
        have := fst_none _ _ hp y (by omega) (by omega)
        rw [if_pos w2, Option.map_eq_none_iff] at this
        exact (ih (some y)).2 this p' hl w3
def pbf (pt : Nat → List Nat) : Option Nat → List Nat
  | none => []
  | some h => pt h
def lnk (pt : Nat → List Nat) (Q : List Nat) (fr : Nat → Int32) (q : Nat) : Prop := (pt q = [q] ∧ fr q = -1) ∨ ∃ h, h ∈ Q ∧ pt q = pt h ++ [q] ∧ fr q = nI h
def PI (e : Option Nat → Nat → Bool) (n s : Nat) (Q0 : List Nat) (pt0 : Nat → List Nat) (D : Option Nat → Nat → Prop) (B : Nat) (st : MS3) (pt : Nat → List Nat) : Prop :=
  st.1 < 128 ∧ pcN st.1 = st.2.1.length ∧ (∀ q, q < 7 → (st.1 / 2 ^ q % 2 = 1 ↔ q ∈ st.2.1)) ∧ (∀ q ∈ st.2.1, q < n) ∧ (∃ N, st.2.1 = Q0 ++ N ∧ N.Pairwise (fun x y => enc (pt x) < enc (pt y)) ∧ ∀ x ∈ N, (pt x).length = s + 1 ∧ enc (pt x) < B) ∧ (∀ q ∈ Q0, pt q = pt0 q) ∧ (∀ q ∈ st.2.1, wlk e n none (pt q) ∧ (∃ p', pt q = p' ++ [q]) ∧ lnk pt st.2.1 st.2.2 q) ∧ ∀ h q, D h q → q < n → e h q = true → q ∈ st.2.1 ∧ ((pt q).length ≤ s ∨ enc (pt q) ≤ 8 * enc (pbf pt0 h) + q)
theorem PI.mono {e : Option Nat → Nat → Bool} {n s : Nat} {Q0 : List Nat} {pt0 : Nat → List Nat} {D D' : Option Nat → Nat → Prop} {B B' : Nat} {st : MS3} {pt : Nat → List Nat} (h : PI e n s Q0 pt0 D B st pt) (hB : B ≤ B') (hD : ∀ a b, D' a b → D a b) : PI e n s Q0 pt0 D' B' st pt := by
  obtain ⟨h1, h2, h3, h4, ⟨N, h5, h6, h7⟩, h8, h9, h10⟩ := h
  exact ⟨h1, h2, h3, h4, ⟨N, h5, h6, fun x hx => ⟨(h7 x hx).1, by have := (h7 x hx).2; omega⟩⟩, h8, h9, fun a b hab => h10 a b (hD a b hab)⟩
theorem pc_room : ∀ m, m < 128 → ∀ q, q < 7 → m / 2 ^ q % 2 = 0 → pcN m < 7 := by decide +kernel
theorem or128 : ∀ m, m < 128 → ∀ q, q < 7 → m ||| 2 ^ q < 128 := by decide +kernel
theorem pi_step {e : Option Nat → Nat → Bool} {n s : Nat} {Q0 : List Nat} {pt0 : Nat → List Nat} {D : Option Nat → Nat → Prop} {st : MS3} {pt : Nat → List Nat} {t : Nat} {hd : Option Nat} {bv : Int32} {q : Nat} (hq : q < 7) (hn : n ≤ 7)
    (ht : t / 2 ^ q % 2 = 1 ↔ q < n ∧ e hd q = true) (hl : (pbf pt0 hd).length = s) (hw : wlk e n none (pbf pt0 hd)) (hf : finW none (pbf pt0 hd) = hd) (hb : (hd = none ∧ bv = -1) ∨ ∃ h, hd = some h ∧ h ∈ Q0 ∧ bv = nI h) (h0 : ∀ x ∈ Q0, (pt0 x).length ≤ s)
    (h : PI e n s Q0 pt0 D (8 * enc (pbf pt0 hd) + q) st pt) : ∃ pt', PI e n s Q0 pt0 (fun a b => D a b ∨ (a = hd ∧ b = q)) (8 * enc (pbf pt0 hd) + q + 1) (meet1 t bv q st) pt' := by
  obtain ⟨h1, h2, h3, h4, ⟨N, h5, h6, h7⟩, h8, h9, h10⟩ := id h
  rw [meet1]
  by_cases c : (t / 2 ^ q % 2 = 1 ∧ st.1 / 2 ^ q % 2 = 0) ∧ st.2.1.length < 7
  · rw [if_pos c]
    obtain ⟨⟨c1, c2⟩, c3⟩ := c
    obtain ⟨e1, e2⟩ := ht.mp c1
    have hnq : q ∉ st.2.1 := fun hm => by have := (h3 q hq).mpr hm; omega
    have hpt : ∀ x, x ∈ st.2.1 → (if x = q then pbf pt0 hd ++ [q] else pt x) = pt x := fun x hx => if_neg (fun (hx2 : x = q) => hnq (hx2 ▸ hx))
    have hN : ∀ x ∈ N, x ∈ st.2.1 := fun x hx => by rw [h5]; exact List.mem_append_right _ hx
    have hQ : ∀ x ∈ Q0, x ∈ st.2.1 := fun x hx => by rw [h5]; exact List.mem_append_left _ hx
    refine ⟨fun x => if x = q then pbf pt0 hd ++ [q] else pt x, or128 _ h1 q hq, ?_, ?_, ?_, ⟨N ++ [q], ?_, ?_, ?_⟩, ?_, ?_, ?_⟩
    · rw [pc_or _ h1 q hq c2, List.length_append, List.length_singleton, h2]
    · intro x hx
      simp only [List.mem_append, List.mem_singleton]
      rw [or_bit, h3 x hx]
      exact or_congr Iff.rfl ⟨fun a => a.symm, fun a => a.symm⟩
    · intro x hx
      simp only [List.mem_append, List.mem_singleton] at hx
      rcases hx with hx | rfl
      · exact h4 x hx
      · exact e1
    · simp only
      rw [h5, List.append_assoc]
    · rw [List.pairwise_append]
      refine ⟨?_, List.pairwise_singleton _ _, ?_⟩
      · refine List.Pairwise.imp_of_mem ?_ h6
        intro a b ha hb' hab
        simp only
        rw [hpt a (hN a ha), hpt b (hN b hb')]
        exact hab
      · intro a ha b hb'
        rw [List.mem_singleton.mp hb']
        simp only
        rw [hpt a (hN a ha), if_pos trivial, enc_app]
        exact (h7 a ha).2
    · intro x hx
      simp only
      rcases List.mem_append.mp hx with hx | hx
      · rw [hpt x (hN x hx)]
        exact ⟨(h7 x hx).1, by have := (h7 x hx).2; omega⟩
      · rw [List.mem_singleton.mp hx, if_pos rfl, enc_app, List.length_append, List.length_singleton, hl]
        exact ⟨rfl, by omega⟩
    · intro x hx
      simp only
      rw [hpt x (hQ x hx)]
      exact h8 x hx
    · intro x hx
      simp only [List.mem_append, List.mem_singleton] at hx
      rcases hx with hx | rfl
      · obtain ⟨k1, k2, k3⟩ := h9 x hx
        have hxq : x ≠ q := fun a => hnq (a ▸ hx)
        simp only [lnk]
        rw [hpt x hx]
        refine ⟨k1, k2, ?_⟩
        rcases k3 with ⟨a1, a2⟩ | ⟨h', a1, a2, a3⟩
        · exact Or.inl ⟨a1, by rw [upd, if_neg hxq]; exact a2⟩
        · exact Or.inr ⟨h', List.mem_append_left _ a1, by rw [hpt h' a1]; exact a2, by rw [upd, if_neg hxq]; exact a3⟩
      · simp only [lnk, if_true]
        refine ⟨(wlk_app _ _).mpr ⟨hw, e1, by rw [hf]; exact e2⟩, ⟨_, rfl⟩, ?_⟩
        rcases hb with ⟨rfl, rfl⟩ | ⟨h', rfl, a2, rfl⟩
        · exact Or.inl ⟨rfl, by rw [upd, if_pos rfl]⟩
        · refine Or.inr ⟨h', List.mem_append_left _ (hQ h' a2), ?_, by rw [upd, if_pos rfl]⟩
          rw [hpt h' (hQ h' a2), h8 h' a2]
          rfl
    · intro a b hab hbn heb
      simp only [List.mem_append, List.mem_singleton]
      by_cases cb : b = q
      · subst cb
        rw [if_pos rfl, enc_app]
        refine ⟨Or.inr rfl, ?_⟩
        rcases hab with hab | ⟨rfl, -⟩
        · exact absurd (h10 a b hab hbn heb).1 hnq
        · exact Or.inr (Nat.le_refl _)
      · rw [if_neg cb]
        rcases hab with hab | ⟨-, hab⟩
        · exact ⟨Or.inl (h10 a b hab hbn heb).1, (h10 a b hab hbn heb).2⟩
        · exact absurd hab cb
  · rw [if_neg c]
    refine ⟨pt, h1, h2, h3, h4, ⟨N, h5, h6, fun x hx => ⟨(h7 x hx).1, by have := (h7 x hx).2; omega⟩⟩, h8, h9, ?_⟩
    intro a b hab hbn heb
    rcases hab with hab | ⟨rfl, rfl⟩
    · exact h10 a b hab hbn heb
    · have hm : b ∈ st.2.1 := by
        refine (h3 b hq).mp ?_
        refine Decidable.byContradiction (fun hnb => c ⟨⟨ht.mpr ⟨hbn, heb⟩, by omega⟩, ?_⟩)
        rw [← h2]
        exact pc_room _ h1 b hq (by omega)
      refine ⟨hm, ?_⟩
      rw [h5] at hm
      rcases List.mem_append.mp hm with hm | hm
      · exact Or.inl (by rw [h8 b hm]; exact h0 b hm)
      · exact Or.inr (by have := (h7 b hm).2; omega)
theorem pi_meet {e : Option Nat → Nat → Bool} {n s : Nat} {Q0 : List Nat} {pt0 : Nat → List Nat} {D : Option Nat → Nat → Prop} {st : MS3} {pt : Nat → List Nat} {t : Nat} {hd : Option Nat} {bv : Int32} (hn : n ≤ 7)
    (ht : ∀ q, q < 7 → (t / 2 ^ q % 2 = 1 ↔ q < n ∧ e hd q = true)) (hl : (pbf pt0 hd).length = s) (hw : wlk e n none (pbf pt0 hd)) (hf : finW none (pbf pt0 hd) = hd) (hb : (hd = none ∧ bv = -1) ∨ ∃ h, hd = some h ∧ h ∈ Q0 ∧ bv = nI h) (h0 : ∀ x ∈ Q0, (pt0 x).length ≤ s)
    (h : PI e n s Q0 pt0 D (8 * enc (pbf pt0 hd)) st pt) : ∃ pt', PI e n s Q0 pt0 (fun a b => D a b ∨ a = hd) (8 * enc (pbf pt0 hd) + 7) (meetS t bv st) pt' := by
  have key : ∀ i, i ≤ 7 → ∃ pt', PI e n s Q0 pt0 (fun a b => D a b ∨ (a = hd ∧ b < i)) (8 * enc (pbf pt0 hd) + i) (fo (meet1 t bv) st i) pt' := by
    intro i
    induction i with
    | zero => intro _; exact ⟨pt, h.mono (Nat.le_refl _) (fun a b hab => hab.elim id (fun q => absurd q.2 (by omega)))⟩
    | succ i ih =>
      intro hi
      obtain ⟨pt1, h1⟩ := ih (by omega)
      obtain ⟨pt2, h2⟩ := pi_step (show i < 7 by omega) hn (ht i (by omega)) hl hw hf hb h0 h1
      refine ⟨pt2, h2.mono (by omega) ?_⟩
      rintro a b (hab | ⟨h1, h2⟩)
      · exact Or.inl (Or.inl hab)
      · by_cases c : b = i
        · exact Or.inr ⟨h1, c⟩
        · exact Or.inl (Or.inr ⟨h1, by omega⟩)
  obtain ⟨pt', h'⟩ := key 7 (Nat.le_refl _)
  refine ⟨pt', ?_⟩
  obtain ⟨h1, h2, h3, h4, h5, h8, h9, h10⟩ := h'
  refine ⟨h1, h2, h3, h4, h5, h8, h9, fun a b hab hbn heb => h10 a b ?_ hbn heb⟩
  rcases hab with hab | hab
  · exact Or.inl hab
  · exact Or.inr ⟨hab, by omega⟩
