/-! Ways.takesTurn by the turns that are left; Ways.sayBack -/
theorem cpy6 (f g : Nat → Int32) : va_cpy f g (0 : Int32).toNatClampNeg (0 : Int32).toNatClampNeg (6 : Int32).toNatClampNeg = fun i => if i < 6 then f i else g i := by
  funext i
  show va_cpy f g 0 0 6 i = _
  by_cases h : i < 6
  · rw [pk_cpy_in (by omega) (by omega), if_pos h]
    congr 1; omega
  · rw [pk_cpy_out (by omega), if_neg h]
theorem ev_takesTurn (ev : (Nat → Int32) → Int32) (F : FS) (w : Nat → Nat) (m : Nat) (hf : Int32) (r : Nat) (hr : r = 46 ∨ r = 49) (hw : WO F w m) (k : Nat) : ∀ rem, rem ≤ m → TTC ev F w m hf r (k + 2 * rem + 3) rem := by
  intro rem
  induction rem with
  | zero =>
    intro _ σ had came T hhad hcame ho
    have hm6 := hw.1
    obtain ⟨h1, h2, h3, h4, h5, h6, h7, h8, h9, h10, h11, h12⟩ := id ho
    refine EvM.of mk_X10_takesTurn (Nat.le_of_ble_eq_true rfl) ?_
    rw [Nat.sub_zero]
    have cl : (nI had).toNatClampNeg = had := nI_clamp (by omega)
    have stop : (hf + bcS (nI came) + nI m - nI m ≤ T.1 ∨ bitL (T.2.2.2 had) came = true) → ttS ev F w m hf 0 had came T = T := fun h => by rw [ttS, if_pos h]
    refine wpW K_X10_takesTurn [55] 60 ?_
    refine ⟨_, ev_bc _ _ _, ?_⟩
    rintro v τ ⟨h9', rfl⟩
    obtain rfl := h9'.symm
    refine ⟨fun c => ⟨fun z => absurd z (by decide), fun _ => ⟨rfl, ?_, Fr.rf⟩⟩, fun c => ⟨in64 hhad, fun d => ⟨fun _ => ?_, fun z => absurd rfl z⟩, fun d => ⟨fun z => absurd z (by decide), fun _ => ⟨rfl, ?_, Fr.rf⟩⟩⟩⟩
    · rw [h7, h6, h8] at c
      rw [stop (Or.inl c)]; exact ho
    · rw [h7, h6, h8] at c
      rw [cl, show (20 : Nat) + 6 = 26 from rfl, h11, cmp0] at d
      have hno : ¬ (hf + bcS (nI came) + nI m - nI m ≤ T.1 ∨ bitL (T.2.2.2 had) came = true) := fun z => z.elim c (fun z => d (of_decide_eq_true z))
      show WW M_X10_takesTurn _ _ 55 _ _ _
      rw [h7]
      refine wpW K_X10_takesTurn [] 60 ?_
      refine ⟨in64 hhad, in64 hhad, fun e => ?_, fun _ => ⟨⟨by decide, by decide, by decide, by decide, by decide⟩, rfl, ?_, ?_⟩⟩
      · have e' : nI m < gI σ 20 9 := e
        rw [h6, lt_of_nI (by omega) (by omega)] at e'; omega
      · rw [ttS, if_neg hno, cpy6, cl, show (20 : Nat) + 6 = 26 from rfl]
        refine ⟨h1, h2, RC_fr (l := lO r) (Fr.sA (Fr.sI (Fr.rf.sJ (by simp [lO])) (by simp [lO])) (by simp [lO])) (lO_r hr).1 (lO_r hr).2 h3, h4, h5, h6, h7, rfl, ?_, h10, ?_, h12⟩
        · show (fun i => if i < 6 then gA σ 25 i else gA σ 27 i) = fun i => if i < 6 then T.2.2.1 i else T.2.1 i
          rw [h9, h10]
        · show vp_updL (gJ σ 26) had (gJ σ 26 had ||| _) = vp_updL T.2.2.2 had (setL (T.2.2.2 had) came)
          rw [h11]; rfl
      · exact Fr.sA (Fr.sI (Fr.rf.sJ (by simp [lO])) (by simp [lO])) (by simp [lO])
    · rw [cl, show (20 : Nat) + 6 = 26 from rfl, h11, cmp0] at d
      rw [stop (Or.inr (decide_eq_true d))]; exact ho
  | succ rem ih =>
    intro hrem σ had came T hhad hcame ho
    have hT := ih (by omega)
    have hm6 := hw.1
    obtain ⟨h1, h2, h3, h4, h5, h6, h7, h8, h9, h10, h11, h12⟩ := id ho
    refine EvM.of mk_X10_takesTurn (Nat.le_of_ble_eq_true rfl) ?_
    have cl : (nI had).toNatClampNeg = had := nI_clamp (by omega)
    generalize hD : m - (rem + 1) = D at *
    have hDm : D < m := by omega
    have stop : (hf + bcS (nI came) + nI m - nI D ≤ T.1 ∨ bitL (T.2.2.2 had) came = true) → ttS ev F w m hf (rem + 1) had came T = T := fun h => by rw [ttS, hD, if_pos h]
    refine wpW K_X10_takesTurn [55] 60 ?_
    refine ⟨_, ev_bc _ _ _, ?_⟩
    rintro v τ ⟨h9', rfl⟩
    obtain rfl := h9'.symm
    refine ⟨fun c => ⟨fun z => absurd z (by decide), fun _ => ⟨rfl, ?_, Fr.rf⟩⟩, fun c => ⟨in64 hhad, fun d => ⟨fun _ => ?_, fun z => absurd rfl z⟩, fun d => ⟨fun z => absurd z (by decide), fun _ => ⟨rfl, ?_, Fr.rf⟩⟩⟩⟩
    · rw [h7, h6, h8] at c
      rw [stop (Or.inl c)]; exact ho
    · rw [h7, h6, h8] at c
      rw [cl, show (20 : Nat) + 6 = 26 from rfl, h11, cmp0] at d
      have hno : ¬ (hf + bcS (nI came) + nI m - nI D ≤ T.1 ∨ bitL (T.2.2.2 had) came = true) := fun z => z.elim c (fun z => d (of_decide_eq_true z))
      have htt : ttS ev F w m hf (rem + 1) had came T = fo (fun i T => if had / 2 ^ i % 2 = 0 then ttS ev F w m hf rem (had ||| 2 ^ i) (if canS ev (cameF F w m came) (w i) (w i) then came ||| 2 ^ i else came) (T.1, T.2.1, upd T.2.2.1 D (nI (w i)), T.2.2.2) else T) (T.1, T.2.1, T.2.2.1, vp_updL T.2.2.2 had (setL (T.2.2.2 had) came)) m := by rw [ttS, hD, if_neg hno]
      rw [htt]
      generalize hstep : (fun (i : Nat) (T : OT) => if had / 2 ^ i % 2 = 0 then ttS ev F w m hf rem (had ||| 2 ^ i) (if canS ev (cameF F w m came) (w i) (w i) then came ||| 2 ^ i else came) (T.1, T.2.1, upd T.2.2.1 D (nI (w i)), T.2.2.2) else T) = step
      have hmark : OS ev F w m hf r (sJ σ 26 (vp_updL (gJ σ 26) had (gJ σ 26 had ||| (1 : Int64) <<< ((nI came).toInt64 &&& 63)))) came (T.1, T.2.1, T.2.2.1, vp_updL T.2.2.2 had (setL (T.2.2.2 had) came)) := by
        refine ⟨h1, h2, h3, h4, h5, h6, h7, h8, h9, h10, ?_, h12⟩
        rw [gJ_eq, h11]; rfl
      have hmfr : Fr (lO r) σ (sJ σ 26 (vp_updL (gJ σ 26) had (gJ σ 26 had ||| (1 : Int64) <<< ((nI came).toInt64 &&& 63)))) := Fr.rf.sJ (by simp [lO])
      generalize hτ : sJ σ 26 (vp_updL (gJ σ 26) had (gJ σ 26 had ||| (1 : Int64) <<< ((nI came).toInt64 &&& 63))) = τ at hmark hmfr
      have loop : WW M_X10_takesTurn (k + 2 * (rem + 1) + 3) (fun v τ => v = none ∧ OS ev F w m hf r τ came (fo step (T.1, T.2.1, T.2.2.1, vp_updL T.2.2.2 had (setL (T.2.2.2 had) came)) m) ∧ Fr (lO r) σ τ) 100 [some (.ref 20), some (.int (nI D)), some (.int (nI had)), some (.int (nI came)), some (.int (hf + bcS (nI came))), some (.int 0), some (.int (nI 0))] [] τ := by
        refine loopI (α := Sto) 100 (fun i a => [some (.ref 20), some (.int (nI D)), some (.int (nI had)), some (.int (nI came)), some (.int (hf + bcS (nI came))), some (.int 0), some (.int (nI i))]) (fun a => a) (fun i a => OS ev F w m hf r a came (fo step (T.1, T.2.1, T.2.2.1, vp_updL T.2.2.2 had (setL (T.2.2.2 had) came)) i) ∧ Fr (lO r) σ a) m ?_ ?_ 0 τ (Nat.zero_le _) ⟨hmark, hmfr⟩
        · intro i υ hi hII go
          obtain ⟨hos, hfr⟩ := hII
          have estep : ∀ X, fo step X (i + 1) = step i (fo step X i) := fun X => rfl
          have hb := bt_nI had (by omega) i (by omega)
          generalize hX : fo step (T.1, T.2.1, T.2.2.1, vp_updL T.2.2.2 had (setL (T.2.2.2 had) came)) i = X at *
          have hth : gA υ 24 (nI i).toNatClampNeg = nI (w i) := by rw [nI_clamp (by omega)]; exact hos.2.2.2.2.2.2.2.2.2.2.2 i hi
          refine wpW K_X10_takesTurn [100] 60 ?_
          refine ⟨fun c2 => ?_, fun _ => ⟨fun c2 => ?_, fun c2 => ⟨in6 (by omega), in6 (by omega), ?_⟩⟩⟩
          · have c3 : gI υ 20 9 ≤ nI i := c2
            rw [hos.2.2.2.2.2.1, le_of_nI (by omega) (by omega)] at c3; omega
          · rw [hb] at c2
            have hb1 : ¬ had / 2 ^ i % 2 = 0 := fun z => c2 (by rw [z]; rfl)
            refine go υ _ _ (by rw [← nI_1 i]; rfl) rfl ⟨?_, hfr⟩
            rw [estep, hX, ← hstep]
            show OS ev F w m hf r υ came (if had / 2 ^ i % 2 = 0 then _ else X)
            rw [if_neg hb1]; exact hos
          · rw [hb, show (0 : Int32) = nI 0 from rfl, eq_of_nI (by omega) (by omega)] at c2
            rw [show (20 : Nat) + 4 = 24 from rfl, hth, show (20 : Nat) + 5 = 25 from rfl, nI_clamp (by omega : D < 2 ^ 31)]
            have hos2 : OS ev F w m hf r (sA υ 25 (upd (gA υ 25) D (nI (w i)))) came (X.1, X.2.1, upd X.2.2.1 D (nI (w i)), X.2.2.2) := by
              obtain ⟨g1, g2, g3, g4, g5, g6, g7, g8, g9, g10, g11, g12⟩ := hos
              refine ⟨?_, g2, ?_, g4, g5, g6, g7, g8, g9, ?_, g11, g12⟩
              · rw [cF_fr (f := 11) (fr_one : Fr [25] υ _) (by decide)]; exact g1
              · exact RC_fr (fr_one : Fr [25] υ _) (by rcases hr with rfl | rfl <;> decide) (by rcases hr with rfl | rfl <;> decide) g3
              · rw [gA_eq, g10]
            have hso := ev_saysOwn ev F w m hf r hr hw (k + 2 * rem) rem (by omega) hT (sA υ 25 (upd (gA υ 25) D (nI (w i)))) i had came (X.1, X.2.1, upd X.2.2.1 D (nI (w i)), X.2.2.2) hi hhad hcame hos2
            rw [hD] at hso
            refine ⟨_, hso, ?_⟩
            rintro v ζ ⟨rfl, z1, z2⟩
            refine go ζ _ _ (by rw [← nI_1 i]; rfl) rfl ⟨?_, (Fr.sA hfr (by simp [lO])).tr z2⟩
            rw [estep, hX, ← hstep]
            show OS ev F w m hf r ζ came (if had / 2 ^ i % 2 = 0 then _ else X)
            rw [if_pos c2]; exact z1
        · intro υ hII
          obtain ⟨hos, hfr⟩ := hII
          refine wpW K_X10_takesTurn [100] 60 ?_
          refine ⟨fun _ => ⟨rfl, hos, hfr⟩, fun c2 => ?_⟩
          exfalso; apply c2
          show gI υ 20 9 ≤ nI m
          rw [hos.2.2.2.2.2.1, le_of_nI (by omega) (by omega)]; omega
      show WW M_X10_takesTurn _ _ 55 _ _ _
      rw [h7]
      refine wpW K_X10_takesTurn [100] 60 ?_
      refine ⟨in64 hhad, in64 hhad, fun _ => ?_, fun e => ?_⟩
      · show WW M_X10_takesTurn _ _ 100 _ _ _
        rw [cl, show (20 : Nat) + 6 = 26 from rfl, hτ]
        exact loop
      · exfalso; apply e
        show nI D < gI σ 20 9
        rw [h6, lt_of_nI (by omega) (by omega)]; exact hDm
    · rw [cl, show (20 : Nat) + 6 = 26 from rfl, h11, cmp0] at d
      rw [stop (Or.inr (decide_eq_true d))]; exact ho
/-- those whose names aren't home, six at most -/
def thoS (F : FS) : List Nat := fo (fun q L => if fHo F q = nI q ∨ 6 ≤ L.length then L else L ++ [q]) [] (fN F)
theorem tho_sp (F : FS) : ∀ n, (fo (fun q L => if fHo F q = nI q ∨ 6 ≤ L.length then L else L ++ [q]) [] n).length ≤ 6 ∧ (∀ q ∈ fo (fun q L => if fHo F q = nI q ∨ 6 ≤ L.length then L else L ++ [q]) [] n, q < n) ∧ (fo (fun q L => if fHo F q = nI q ∨ 6 ≤ L.length then L else L ++ [q]) [] n).Nodup := by
  intro n
  induction n with
  | zero => exact ⟨by simp [fo], by simp [fo], by simp [fo]⟩
  | succ n ih =>
    obtain ⟨i1, i2, i3⟩ := ih
    generalize hL : fo (fun q L => if fHo F q = nI q ∨ 6 ≤ L.length then L else L ++ [q]) [] n = L at *
    have e : fo (fun q L => if fHo F q = nI q ∨ 6 ≤ L.length then L else L ++ [q]) [] (n + 1) = if fHo F n = nI n ∨ 6 ≤ L.length then L else L ++ [n] := by rw [fo, hL]
    rw [e]
    split
    · exact ⟨i1, fun q hq => Nat.lt_succ_of_lt (i2 q hq), i3⟩
    · rename_i c
      refine ⟨by rw [List.length_append]; simp; omega, fun q hq => ?_, ?_⟩
      · rcases List.mem_append.mp hq with h | h
        · exact Nat.lt_succ_of_lt (i2 q h)
        · rw [List.mem_singleton.mp h]; omega
      · rw [List.nodup_append]
        refine ⟨i3, by simp, ?_⟩
        intro a ha b hb
        rw [List.mem_singleton.mp hb]
        have := i2 a ha
        omega
