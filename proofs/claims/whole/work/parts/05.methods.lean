/-! words by their places -/
theorem fn {M : Mt} : ∀ r ∈ ([] : List (Nat × Op)), OpOK M r.1 r.2 := fun _ h => nomatch h
theorem fc {M : Mt} {pc : Nat} {op : Op} {T : List (Nat × Op)} (h : OpOK M pc op) (ht : ∀ r ∈ T, OpOK M r.1 r.2) : ∀ r ∈ (pc, op) :: T, OpOK M r.1 r.2 := List.forall_mem_cons.mpr ⟨h, ht⟩
theorem inU0 : ∀ w ∈ u_ws RX0 TX0 3, w ∈ UW := fun _ h => List.mem_append_left _ (List.mem_append_left _ (List.mem_append_left _ (List.mem_append_left _ (List.mem_append_left _ (List.mem_append_right _ h)))))
theorem inU1 : ∀ w ∈ u_ws RX1 TX1 3, w ∈ UW := fun _ h => List.mem_append_left _ (List.mem_append_left _ (List.mem_append_left _ (List.mem_append_left _ (List.mem_append_right _ h))))
theorem inU2 : ∀ w ∈ u_ws RX2 TX2 8, w ∈ UW := fun _ h => List.mem_append_left _ (List.mem_append_left _ (List.mem_append_left _ (List.mem_append_left _ (List.mem_append_left _ (List.mem_append_left _ (List.mem_append_left _ (List.mem_append_left _ (List.mem_append_left _ (List.mem_append_right _ h)))))))))
theorem inU3 : ∀ w ∈ u_ws RX3 TX3 4, w ∈ UW := fun _ h => List.mem_append_left _ (List.mem_append_left _ (List.mem_append_left _ (List.mem_append_left _ (List.mem_append_left _ (List.mem_append_left _ (List.mem_append_left _ (List.mem_append_right _ h)))))))
theorem inU4 : ∀ w ∈ u_ws RX4 TX4 6, w ∈ UW := fun _ h => List.mem_append_left _ (List.mem_append_left _ (List.mem_append_right _ h))
theorem inU5 : ∀ w ∈ u_ws RX5 TX5 3, w ∈ UW := fun _ h => List.mem_append_left _ (List.mem_append_right _ h)
theorem inU6 : ∀ w ∈ u_ws RX6 TX6 3, w ∈ UW := fun _ h => List.mem_append_left _ (List.mem_append_left _ (List.mem_append_left _ (List.mem_append_left _ (List.mem_append_left _ (List.mem_append_left _ (List.mem_append_left _ (List.mem_append_left _ (List.mem_append_right _ h))))))))
theorem inU7 : ∀ w ∈ u_ws RX7 TX7 6, w ∈ UW := fun _ h => List.mem_append_left _ (List.mem_append_left _ (List.mem_append_left _ (List.mem_append_right _ h)))
theorem inU8 : ∀ w ∈ u_ws RX8 TX8 2, w ∈ UW := fun _ h => List.mem_append_left _ (List.mem_append_left _ (List.mem_append_left _ (List.mem_append_left _ (List.mem_append_left _ (List.mem_append_left _ (List.mem_append_left _ (List.mem_append_left _ (List.mem_append_left _ (List.mem_append_left _ (List.mem_append_left _ (List.mem_append_right _ h)))))))))))
theorem inU9 : ∀ w ∈ u_ws RX9 TX9 2, w ∈ UW := fun _ h => List.mem_append_left _ (List.mem_append_left _ (List.mem_append_left _ (List.mem_append_left _ (List.mem_append_left _ (List.mem_append_left _ (List.mem_append_left _ (List.mem_append_left _ (List.mem_append_left _ (List.mem_append_left _ (List.mem_append_right _ h))))))))))
theorem inU10 : ∀ w ∈ u_ws RX10 TX10 14, w ∈ UW := fun _ h => List.mem_append_left _ (List.mem_append_left _ (List.mem_append_left _ (List.mem_append_left _ (List.mem_append_left _ (List.mem_append_left _ (List.mem_append_right _ h))))))
theorem inU11 : ∀ w ∈ u_ws RX11 TX11 13, w ∈ UW := fun _ h => List.mem_append_left _ (List.mem_append_left _ (List.mem_append_left _ (List.mem_append_left _ (List.mem_append_left _ (List.mem_append_left _ (List.mem_append_left _ (List.mem_append_left _ (List.mem_append_left _ (List.mem_append_left _ (List.mem_append_left _ (List.mem_append_left _ (List.mem_append_left _ (List.mem_append_right _ h)))))))))))))
theorem inU12 : ∀ w ∈ u_ws RX12 TX12 47, w ∈ UW := fun _ h => List.mem_append_left _ (List.mem_append_left _ (List.mem_append_left _ (List.mem_append_left _ (List.mem_append_left _ (List.mem_append_left _ (List.mem_append_left _ (List.mem_append_left _ (List.mem_append_left _ (List.mem_append_left _ (List.mem_append_left _ (List.mem_append_left _ (List.mem_append_right _ h))))))))))))
def uR : List Cond := wsL_law0_r1 ++ (wsL_law0_r2 ++ (wsL_law0_r3 ++ (wsL_law0_r4 ++ (wsL_law0_r5 ++ (wsL_law0_r6 ++ (wsL_law0_r7 ++ (wsL_law0_r8 ++ (wsL_law0_r9 ++ (wsL_law0_r10 ++ (wsL_law0_r11 ++ (wsL_law0_r12 ++ (wsL_law0_r13 ++ (wsL_law0_r14 ++ (wsL_law0_r15 ++ (wsL_law0_r16 ++ (wsL_law0_r17 ++ (wsL_law0_r18 ++ (wsL_law0_r19 ++ (wsL_law0_r20 ++ (wsL_law0_r21 ++ (wsL_law0_r22 ++ (wsL_law0_r23 ++ (wsL_law0_r24 ++ (wsL_law0_r25 ++ (wsL_law0_r26 ++ (wsL_law0_r27 ++ (wsL_law0_r28 ++ (wsL_law0_r29 ++ (wsL_law0_r30 ++ (wsL_law0_r31 ++ (wsL_law0_r32 ++ (wsL_law0_r33 ++ (wsL_law0_r34 ++ (wsL_law0_r35 ++ (wsL_law0_r36 ++ (wsL_law0_r37 ++ (wsL_law0_r38 ++ (wsL_law0_r39 ++ (wsL_law0_r40 ++ (wsL_law0_r41 ++ (wsL_law0_r42 ++ (wsL_law0_r43 ++ (wsL_law0_r44 ++ (wsL_law0_r45 ++ (wsL_law0_r46 ++ (wsL_law0_r47 ++ (wsL_law0_r48 ++ (wsL_law0_r49 ++ (wsL_law0_r50 ++ (wsL_law0_r51 ++ (wsL_law0_r52 ++ (wsL_law0_r53 ++ (wsL_law0_r54 ++ (wsL_law0_r55 ++ (wsL_law0_r56)))))))))))))))))))))))))))))))))))))))))))))))))))))))
theorem inR : ∀ w ∈ uR, w ∈ UW := fun _ h => List.mem_append_left _ (List.mem_append_left _ (List.mem_append_left _ (List.mem_append_left _ (List.mem_append_left _ (List.mem_append_left _ (List.mem_append_left _ (List.mem_append_left _ (List.mem_append_left _ (List.mem_append_left _ (List.mem_append_left _ (List.mem_append_left _ (List.mem_append_left _ (List.mem_append_left _ (h))))))))))))))
theorem inR1 : ∀ w ∈ wsL_law0_r1, w ∈ UW := fun w h => inR w (List.mem_append_left _ h)
theorem inR2 : ∀ w ∈ wsL_law0_r2, w ∈ UW := fun w h => inR w (List.mem_append_right _ (List.mem_append_left _ h))
theorem inR3 : ∀ w ∈ wsL_law0_r3, w ∈ UW := fun w h => inR w (List.mem_append_right _ (List.mem_append_right _ (List.mem_append_left _ h)))
theorem inR4 : ∀ w ∈ wsL_law0_r4, w ∈ UW := fun w h => inR w (List.mem_append_right _ (List.mem_append_right _ (List.mem_append_right _ (List.mem_append_left _ h))))
theorem inR5 : ∀ w ∈ wsL_law0_r5, w ∈ UW := fun w h => inR w (List.mem_append_right _ (List.mem_append_right _ (List.mem_append_right _ (List.mem_append_right _ (List.mem_append_left _ h)))))
theorem inR6 : ∀ w ∈ wsL_law0_r6, w ∈ UW := fun w h => inR w (List.mem_append_right _ (List.mem_append_right _ (List.mem_append_right _ (List.mem_append_right _ (List.mem_append_right _ (List.mem_append_left _ h))))))
theorem inR7 : ∀ w ∈ wsL_law0_r7, w ∈ UW := fun w h => inR w (List.mem_append_right _ (List.mem_append_right _ (List.mem_append_right _ (List.mem_append_right _ (List.mem_append_right _ (List.mem_append_right _ (List.mem_append_left _ h)))))))
theorem inR8 : ∀ w ∈ wsL_law0_r8, w ∈ UW := fun w h => inR w (List.mem_append_right _ (List.mem_append_right _ (List.mem_append_right _ (List.mem_append_right _ (List.mem_append_right _ (List.mem_append_right _ (List.mem_append_right _ (List.mem_append_left _ h))))))))
theorem inR9 : ∀ w ∈ wsL_law0_r9, w ∈ UW := fun w h => inR w (List.mem_append_right _ (List.mem_append_right _ (List.mem_append_right _ (List.mem_append_right _ (List.mem_append_right _ (List.mem_append_right _ (List.mem_append_right _ (List.mem_append_right _ (List.mem_append_left _ h)))))))))
theorem inR10 : ∀ w ∈ wsL_law0_r10, w ∈ UW := fun w h => inR w (List.mem_append_right _ (List.mem_append_right _ (List.mem_append_right _ (List.mem_append_right _ (List.mem_append_right _ (List.mem_append_right _ (List.mem_append_right _ (List.mem_append_right _ (List.mem_append_right _ (List.mem_append_left _ h))))))))))
theorem inR11 : ∀ w ∈ wsL_law0_r11, w ∈ UW := fun w h => inR w (List.mem_append_right _ (List.mem_append_right _ (List.mem_append_right _ (List.mem_append_right _ (List.mem_append_right _ (List.mem_append_right _ (List.mem_append_right _ (List.mem_append_right _ (List.mem_append_right _ (List.mem_append_right _ (List.mem_append_left _ h)))))))))))
theorem inR12 : ∀ w ∈ wsL_law0_r12, w ∈ UW := fun w h => inR w (List.mem_append_right _ (List.mem_append_right _ (List.mem_append_right _ (List.mem_append_right _ (List.mem_append_right _ (List.mem_append_right _ (List.mem_append_right _ (List.mem_append_right _ (List.mem_append_right _ (List.mem_append_right _ (List.mem_append_right _ (List.mem_append_left _ h))))))))))))
theorem inR13 : ∀ w ∈ wsL_law0_r13, w ∈ UW := fun w h => inR w (List.mem_append_right _ (List.mem_append_right _ (List.mem_append_right _ (List.mem_append_right _ (List.mem_append_right _ (List.mem_append_right _ (List.mem_append_right _ (List.mem_append_right _ (List.mem_append_right _ (List.mem_append_right _ (List.mem_append_right _ (List.mem_append_right _ (List.mem_append_left _ h)))))))))))))
theorem inR14 : ∀ w ∈ wsL_law0_r14, w ∈ UW := fun w h => inR w (List.mem_append_right _ (List.mem_append_right _ (List.mem_append_right _ (List.mem_append_right _ (List.mem_append_right _ (List.mem_append_right _ (List.mem_append_right _ (List.mem_append_right _ (List.mem_append_right _ (List.mem_append_right _ (List.mem_append_right _ (List.mem_append_right _ (List.mem_append_right _ (List.mem_append_left _ h))))))))))))))
theorem inR15 : ∀ w ∈ wsL_law0_r15, w ∈ UW := fun w h => inR w (List.mem_append_right _ (List.mem_append_right _ (List.mem_append_right _ (List.mem_append_right _ (List.mem_append_right _ (List.mem_append_right _ (List.mem_append_right _ (List.mem_append_right _ (List.mem_append_right _ (List.mem_append_right _ (List.mem_append_right _ (List.mem_append_right _ (List.mem_append_right _ (List.mem_append_right _ (List.mem_append_left _ h)))))))))))))))
theorem inR16 : ∀ w ∈ wsL_law0_r16, w ∈ UW := fun w h => inR w (List.mem_append_right _ (List.mem_append_right _ (List.mem_append_right _ (List.mem_append_right _ (List.mem_append_right _ (List.mem_append_right _ (List.mem_append_right _ (List.mem_append_right _ (List.mem_append_right _ (List.mem_append_right _ (List.mem_append_right _ (List.mem_append_right _ (List.mem_append_right _ (List.mem_append_right _ (List.mem_append_right _ (List.mem_append_left _ h))))))))))))))))
theorem inR17 : ∀ w ∈ wsL_law0_r17, w ∈ UW := fun w h => inR w (List.mem_append_right _ (List.mem_append_right _ (List.mem_append_right _ (List.mem_append_right _ (List.mem_append_right _ (List.mem_append_right _ (List.mem_append_right _ (List.mem_append_right _ (List.mem_append_right _ (List.mem_append_right _ (List.mem_append_right _ (List.mem_append_right _ (List.mem_append_right _ (List.mem_append_right _ (List.mem_append_right _ (List.mem_append_right _ (List.mem_append_left _ h)))))))))))))))))
theorem inR18 : ∀ w ∈ wsL_law0_r18, w ∈ UW := fun w h => inR w (List.mem_append_right _ (List.mem_append_right _ (List.mem_append_right _ (List.mem_append_right _ (List.mem_append_right _ (List.mem_append_right _ (List.mem_append_right _ (List.mem_append_right _ (List.mem_append_right _ (List.mem_append_right _ (List.mem_append_right _ (List.mem_append_right _ (List.mem_append_right _ (List.mem_append_right _ (List.mem_append_right _ (List.mem_append_right _ (List.mem_append_right _ (List.mem_append_left _ h))))))))))))))))))
theorem inR19 : ∀ w ∈ wsL_law0_r19, w ∈ UW := fun w h => inR w (List.mem_append_right _ (List.mem_append_right _ (List.mem_append_right _ (List.mem_append_right _ (List.mem_append_right _ (List.mem_append_right _ (List.mem_append_right _ (List.mem_append_right _ (List.mem_append_right _ (List.mem_append_right _ (List.mem_append_right _ (List.mem_append_right _ (List.mem_append_right _ (List.mem_append_right _ (List.mem_append_right _ (List.mem_append_right _ (List.mem_append_right _ (List.mem_append_right _ (List.mem_append_left _ h)))))))))))))))))))
theorem inR20 : ∀ w ∈ wsL_law0_r20, w ∈ UW := fun w h => inR w (List.mem_append_right _ (List.mem_append_right _ (List.mem_append_right _ (List.mem_append_right _ (List.mem_append_right _ (List.mem_append_right _ (List.mem_append_right _ (List.mem_append_right _ (List.mem_append_right _ (List.mem_append_right _ (List.mem_append_right _ (List.mem_append_right _ (List.mem_append_right _ (List.mem_append_right _ (List.mem_append_right _ (List.mem_append_right _ (List.mem_append_right _ (List.mem_append_right _ (List.mem_append_right _ (List.mem_append_left _ h))))))))))))))))))))
theorem inR21 : ∀ w ∈ wsL_law0_r21, w ∈ UW := fun w h => inR w (List.mem_append_right _ (List.mem_append_right _ (List.mem_append_right _ (List.mem_append_right _ (List.mem_append_right _ (List.mem_append_right _ (List.mem_append_right _ (List.mem_append_right _ (List.mem_append_right _ (List.mem_append_right _ (List.mem_append_right _ (List.mem_append_right _ (List.mem_append_right _ (List.mem_append_right _ (List.mem_append_right _ (List.mem_append_right _ (List.mem_append_right _ (List.mem_append_right _ (List.mem_append_right _ (List.mem_append_right _ (List.mem_append_left _ h)))))))))))))))))))))
theorem inR22 : ∀ w ∈ wsL_law0_r22, w ∈ UW := fun w h => inR w (List.mem_append_right _ (List.mem_append_right _ (List.mem_append_right _ (List.mem_append_right _ (List.mem_append_right _ (List.mem_append_right _ (List.mem_append_right _ (List.mem_append_right _ (List.mem_append_right _ (List.mem_append_right _ (List.mem_append_right _ (List.mem_append_right _ (List.mem_append_right _ (List.mem_append_right _ (List.mem_append_right _ (List.mem_append_right _ (List.mem_append_right _ (List.mem_append_right _ (List.mem_append_right _ (List.mem_append_right _ (List.mem_append_right _ (List.mem_append_left _ h))))))))))))))))))))))
theorem inR23 : ∀ w ∈ wsL_law0_r23, w ∈ UW := fun w h => inR w (List.mem_append_right _ (List.mem_append_right _ (List.mem_append_right _ (List.mem_append_right _ (List.mem_append_right _ (List.mem_append_right _ (List.mem_append_right _ (List.mem_append_right _ (List.mem_append_right _ (List.mem_append_right _ (List.mem_append_right _ (List.mem_append_right _ (List.mem_append_right _ (List.mem_append_right _ (List.mem_append_right _ (List.mem_append_right _ (List.mem_append_right _ (List.mem_append_right _ (List.mem_append_right _ (List.mem_append_right _ (List.mem_append_right _ (List.mem_append_right _ (List.mem_append_left _ h)))))))))))))))))))))))
theorem inR24 : ∀ w ∈ wsL_law0_r24, w ∈ UW := fun w h => inR w (List.mem_append_right _ (List.mem_append_right _ (List.mem_append_right _ (List.mem_append_right _ (List.mem_append_right _ (List.mem_append_right _ (List.mem_append_right _ (List.mem_append_right _ (List.mem_append_right _ (List.mem_append_right _ (List.mem_append_right _ (List.mem_append_right _ (List.mem_append_right _ (List.mem_append_right _ (List.mem_append_right _ (List.mem_append_right _ (List.mem_append_right _ (List.mem_append_right _ (List.mem_append_right _ (List.mem_append_right _ (List.mem_append_right _ (List.mem_append_right _ (List.mem_append_right _ (List.mem_append_left _ h))))))))))))))))))))))))
theorem inR25 : ∀ w ∈ wsL_law0_r25, w ∈ UW := fun w h => inR w (List.mem_append_right _ (List.mem_append_right _ (List.mem_append_right _ (List.mem_append_right _ (List.mem_append_right _ (List.mem_append_right _ (List.mem_append_right _ (List.mem_append_right _ (List.mem_append_right _ (List.mem_append_right _ (List.mem_append_right _ (List.mem_append_right _ (List.mem_append_right _ (List.mem_append_right _ (List.mem_append_right _ (List.mem_append_right _ (List.mem_append_right _ (List.mem_append_right _ (List.mem_append_right _ (List.mem_append_right _ (List.mem_append_right _ (List.mem_append_right _ (List.mem_append_right _ (List.mem_append_right _ (List.mem_append_left _ h)))))))))))))))))))))))))
theorem inR26 : ∀ w ∈ wsL_law0_r26, w ∈ UW := fun w h => inR w (List.mem_append_right _ (List.mem_append_right _ (List.mem_append_right _ (List.mem_append_right _ (List.mem_append_right _ (List.mem_append_right _ (List.mem_append_right _ (List.mem_append_right _ (List.mem_append_right _ (List.mem_append_right _ (List.mem_append_right _ (List.mem_append_right _ (List.mem_append_right _ (List.mem_append_right _ (List.mem_append_right _ (List.mem_append_right _ (List.mem_append_right _ (List.mem_append_right _ (List.mem_append_right _ (List.mem_append_right _ (List.mem_append_right _ (List.mem_append_right _ (List.mem_append_right _ (List.mem_append_right _ (List.mem_append_right _ (List.mem_append_left _ h))))))))))))))))))))))))))
theorem inR27 : ∀ w ∈ wsL_law0_r27, w ∈ UW := fun w h => inR w (List.mem_append_right _ (List.mem_append_right _ (List.mem_append_right _ (List.mem_append_right _ (List.mem_append_right _ (List.mem_append_right _ (List.mem_append_right _ (List.mem_append_right _ (List.mem_append_right _ (List.mem_append_right _ (List.mem_append_right _ (List.mem_append_right _ (List.mem_append_right _ (List.mem_append_right _ (List.mem_append_right _ (List.mem_append_right _ (List.mem_append_right _ (List.mem_append_right _ (List.mem_append_right _ (List.mem_append_right _ (List.mem_append_right _ (List.mem_append_right _ (List.mem_append_right _ (List.mem_append_right _ (List.mem_append_right _ (List.mem_append_right _ (List.mem_append_left _ h)))))))))))))))))))))))))))
theorem inR28 : ∀ w ∈ wsL_law0_r28, w ∈ UW := fun w h => inR w (List.mem_append_right _ (List.mem_append_right _ (List.mem_append_right _ (List.mem_append_right _ (List.mem_append_right _ (List.mem_append_right _ (List.mem_append_right _ (List.mem_append_right _ (List.mem_append_right _ (List.mem_append_right _ (List.mem_append_right _ (List.mem_append_right _ (List.mem_append_right _ (List.mem_append_right _ (List.mem_append_right _ (List.mem_append_right _ (List.mem_append_right _ (List.mem_append_right _ (List.mem_append_right _ (List.mem_append_right _ (List.mem_append_right _ (List.mem_append_right _ (List.mem_append_right _ (List.mem_append_right _ (List.mem_append_right _ (List.mem_append_right _ (List.mem_append_right _ (List.mem_append_left _ h))))))))))))))))))))))))))))
theorem inR29 : ∀ w ∈ wsL_law0_r29, w ∈ UW := fun w h => inR w (List.mem_append_right _ (List.mem_append_right _ (List.mem_append_right _ (List.mem_append_right _ (List.mem_append_right _ (List.mem_append_right _ (List.mem_append_right _ (List.mem_append_right _ (List.mem_append_right _ (List.mem_append_right _ (List.mem_append_right _ (List.mem_append_right _ (List.mem_append_right _ (List.mem_append_right _ (List.mem_append_right _ (List.mem_append_right _ (List.mem_append_right _ (List.mem_append_right _ (List.mem_append_right _ (List.mem_append_right _ (List.mem_append_right _ (List.mem_append_right _ (List.mem_append_right _ (List.mem_append_right _ (List.mem_append_right _ (List.mem_append_right _ (List.mem_append_right _ (List.mem_append_right _ (List.mem_append_left _ h)))))))))))))))))))))))))))))
theorem inR30 : ∀ w ∈ wsL_law0_r30, w ∈ UW := fun w h => inR w (List.mem_append_right _ (List.mem_append_right _ (List.mem_append_right _ (List.mem_append_right _ (List.mem_append_right _ (List.mem_append_right _ (List.mem_append_right _ (List.mem_append_right _ (List.mem_append_right _ (List.mem_append_right _ (List.mem_append_right _ (List.mem_append_right _ (List.mem_append_right _ (List.mem_append_right _ (List.mem_append_right _ (List.mem_append_right _ (List.mem_append_right _ (List.mem_append_right _ (List.mem_append_right _ (List.mem_append_right _ (List.mem_append_right _ (List.mem_append_right _ (List.mem_append_right _ (List.mem_append_right _ (List.mem_append_right _ (List.mem_append_right _ (List.mem_append_right _ (List.mem_append_right _ (List.mem_append_right _ (List.mem_append_left _ h))))))))))))))))))))))))))))))
theorem inR31 : ∀ w ∈ wsL_law0_r31, w ∈ UW := fun w h => inR w (List.mem_append_right _ (List.mem_append_right _ (List.mem_append_right _ (List.mem_append_right _ (List.mem_append_right _ (List.mem_append_right _ (List.mem_append_right _ (List.mem_append_right _ (List.mem_append_right _ (List.mem_append_right _ (List.mem_append_right _ (List.mem_append_right _ (List.mem_append_right _ (List.mem_append_right _ (List.mem_append_right _ (List.mem_append_right _ (List.mem_append_right _ (List.mem_append_right _ (List.mem_append_right _ (List.mem_append_right _ (List.mem_append_right _ (List.mem_append_right _ (List.mem_append_right _ (List.mem_append_right _ (List.mem_append_right _ (List.mem_append_right _ (List.mem_append_right _ (List.mem_append_right _ (List.mem_append_right _ (List.mem_append_right _ (List.mem_append_left _ h)))))))))))))))))))))))))))))))
theorem inR32 : ∀ w ∈ wsL_law0_r32, w ∈ UW := fun w h => inR w (List.mem_append_right _ (List.mem_append_right _ (List.mem_append_right _ (List.mem_append_right _ (List.mem_append_right _ (List.mem_append_right _ (List.mem_append_right _ (List.mem_append_right _ (List.mem_append_right _ (List.mem_append_right _ (List.mem_append_right _ (List.mem_append_right _ (List.mem_append_right _ (List.mem_append_right _ (List.mem_append_right _ (List.mem_append_right _ (List.mem_append_right _ (List.mem_append_right _ (List.mem_append_right _ (List.mem_append_right _ (List.mem_append_right _ (List.mem_append_right _ (List.mem_append_right _ (List.mem_append_right _ (List.mem_append_right _ (List.mem_append_right _ (List.mem_append_right _ (List.mem_append_right _ (List.mem_append_right _ (List.mem_append_right _ (List.mem_append_right _ (List.mem_append_left _ h))))))))))))))))))))))))))))))))
theorem inR33 : ∀ w ∈ wsL_law0_r33, w ∈ UW := fun w h => inR w (List.mem_append_right _ (List.mem_append_right _ (List.mem_append_right _ (List.mem_append_right _ (List.mem_append_right _ (List.mem_append_right _ (List.mem_append_right _ (List.mem_append_right _ (List.mem_append_right _ (List.mem_append_right _ (List.mem_append_right _ (List.mem_append_right _ (List.mem_append_right _ (List.mem_append_right _ (List.mem_append_right _ (List.mem_append_right _ (List.mem_append_right _ (List.mem_append_right _ (List.mem_append_right _ (List.mem_append_right _ (List.mem_append_right _ (List.mem_append_right _ (List.mem_append_right _ (List.mem_append_right _ (List.mem_append_right _ (List.mem_append_right _ (List.mem_append_right _ (List.mem_append_right _ (List.mem_append_right _ (List.mem_append_right _ (List.mem_append_right _ (List.mem_append_right _ (List.mem_append_left _ h)))))))))))))))))))))))))))))))))
theorem inR34 : ∀ w ∈ wsL_law0_r34, w ∈ UW := fun w h => inR w (List.mem_append_right _ (List.mem_append_right _ (List.mem_append_right _ (List.mem_append_right _ (List.mem_append_right _ (List.mem_append_right _ (List.mem_append_right _ (List.mem_append_right _ (List.mem_append_right _ (List.mem_append_right _ (List.mem_append_right _ (List.mem_append_right _ (List.mem_append_right _ (List.mem_append_right _ (List.mem_append_right _ (List.mem_append_right _ (List.mem_append_right _ (List.mem_append_right _ (List.mem_append_right _ (List.mem_append_right _ (List.mem_append_right _ (List.mem_append_right _ (List.mem_append_right _ (List.mem_append_right _ (List.mem_append_right _ (List.mem_append_right _ (List.mem_append_right _ (List.mem_append_right _ (List.mem_append_right _ (List.mem_append_right _ (List.mem_append_right _ (List.mem_append_right _ (List.mem_append_right _ (List.mem_append_left _ h))))))))))))))))))))))))))))))))))
theorem inR35 : ∀ w ∈ wsL_law0_r35, w ∈ UW := fun w h => inR w (List.mem_append_right _ (List.mem_append_right _ (List.mem_append_right _ (List.mem_append_right _ (List.mem_append_right _ (List.mem_append_right _ (List.mem_append_right _ (List.mem_append_right _ (List.mem_append_right _ (List.mem_append_right _ (List.mem_append_right _ (List.mem_append_right _ (List.mem_append_right _ (List.mem_append_right _ (List.mem_append_right _ (List.mem_append_right _ (List.mem_append_right _ (List.mem_append_right _ (List.mem_append_right _ (List.mem_append_right _ (List.mem_append_right _ (List.mem_append_right _ (List.mem_append_right _ (List.mem_append_right _ (List.mem_append_right _ (List.mem_append_right _ (List.mem_append_right _ (List.mem_append_right _ (List.mem_append_right _ (List.mem_append_right _ (List.mem_append_right _ (List.mem_append_right _ (List.mem_append_right _ (List.mem_append_right _ (List.mem_append_left _ h)))))))))))))))))))))))))))))))))))
theorem inR36 : ∀ w ∈ wsL_law0_r36, w ∈ UW := fun w h => inR w (List.mem_append_right _ (List.mem_append_right _ (List.mem_append_right _ (List.mem_append_right _ (List.mem_append_right _ (List.mem_append_right _ (List.mem_append_right _ (List.mem_append_right _ (List.mem_append_right _ (List.mem_append_right _ (List.mem_append_right _ (List.mem_append_right _ (List.mem_append_right _ (List.mem_append_right _ (List.mem_append_right _ (List.mem_append_right _ (List.mem_append_right _ (List.mem_append_right _ (List.mem_append_right _ (List.mem_append_right _ (List.mem_append_right _ (List.mem_append_right _ (List.mem_append_right _ (List.mem_append_right _ (List.mem_append_right _ (List.mem_append_right _ (List.mem_append_right _ (List.mem_append_right _ (List.mem_append_right _ (List.mem_append_right _ (List.mem_append_right _ (List.mem_append_right _ (List.mem_append_right _ (List.mem_append_right _ (List.mem_append_right _ (List.mem_append_left _ h))))))))))))))))))))))))))))))))))))
theorem inR37 : ∀ w ∈ wsL_law0_r37, w ∈ UW := fun w h => inR w (List.mem_append_right _ (List.mem_append_right _ (List.mem_append_right _ (List.mem_append_right _ (List.mem_append_right _ (List.mem_append_right _ (List.mem_append_right _ (List.mem_append_right _ (List.mem_append_right _ (List.mem_append_right _ (List.mem_append_right _ (List.mem_append_right _ (List.mem_append_right _ (List.mem_append_right _ (List.mem_append_right _ (List.mem_append_right _ (List.mem_append_right _ (List.mem_append_right _ (List.mem_append_right _ (List.mem_append_right _ (List.mem_append_right _ (List.mem_append_right _ (List.mem_append_right _ (List.mem_append_right _ (List.mem_append_right _ (List.mem_append_right _ (List.mem_append_right _ (List.mem_append_right _ (List.mem_append_right _ (List.mem_append_right _ (List.mem_append_right _ (List.mem_append_right _ (List.mem_append_right _ (List.mem_append_right _ (List.mem_append_right _ (List.mem_append_right _ (List.mem_append_left _ h)))))))))))))))))))))))))))))))))))))
theorem inR38 : ∀ w ∈ wsL_law0_r38, w ∈ UW := fun w h => inR w (List.mem_append_right _ (List.mem_append_right _ (List.mem_append_right _ (List.mem_append_right _ (List.mem_append_right _ (List.mem_append_right _ (List.mem_append_right _ (List.mem_append_right _ (List.mem_append_right _ (List.mem_append_right _ (List.mem_append_right _ (List.mem_append_right _ (List.mem_append_right _ (List.mem_append_right _ (List.mem_append_right _ (List.mem_append_right _ (List.mem_append_right _ (List.mem_append_right _ (List.mem_append_right _ (List.mem_append_right _ (List.mem_append_right _ (List.mem_append_right _ (List.mem_append_right _ (List.mem_append_right _ (List.mem_append_right _ (List.mem_append_right _ (List.mem_append_right _ (List.mem_append_right _ (List.mem_append_right _ (List.mem_append_right _ (List.mem_append_right _ (List.mem_append_right _ (List.mem_append_right _ (List.mem_append_right _ (List.mem_append_right _ (List.mem_append_right _ (List.mem_append_right _ (List.mem_append_left _ h))))))))))))))))))))))))))))))))))))))
theorem inR39 : ∀ w ∈ wsL_law0_r39, w ∈ UW := fun w h => inR w (List.mem_append_right _ (List.mem_append_right _ (List.mem_append_right _ (List.mem_append_right _ (List.mem_append_right _ (List.mem_append_right _ (List.mem_append_right _ (List.mem_append_right _ (List.mem_append_right _ (List.mem_append_right _ (List.mem_append_right _ (List.mem_append_right _ (List.mem_append_right _ (List.mem_append_right _ (List.mem_append_right _ (List.mem_append_right _ (List.mem_append_right _ (List.mem_append_right _ (List.mem_append_right _ (List.mem_append_right _ (List.mem_append_right _ (List.mem_append_right _ (List.mem_append_right _ (List.mem_append_right _ (List.mem_append_right _ (List.mem_append_right _ (List.mem_append_right _ (List.mem_append_right _ (List.mem_append_right _ (List.mem_append_right _ (List.mem_append_right _ (List.mem_append_right _ (List.mem_append_right _ (List.mem_append_right _ (List.mem_append_right _ (List.mem_append_right _ (List.mem_append_right _ (List.mem_append_right _ (List.mem_append_left _ h)))))))))))))))))))))))))))))))))))))))
theorem inR40 : ∀ w ∈ wsL_law0_r40, w ∈ UW := fun w h => inR w (List.mem_append_right _ (List.mem_append_right _ (List.mem_append_right _ (List.mem_append_right _ (List.mem_append_right _ (List.mem_append_right _ (List.mem_append_right _ (List.mem_append_right _ (List.mem_append_right _ (List.mem_append_right _ (List.mem_append_right _ (List.mem_append_right _ (List.mem_append_right _ (List.mem_append_right _ (List.mem_append_right _ (List.mem_append_right _ (List.mem_append_right _ (List.mem_append_right _ (List.mem_append_right _ (List.mem_append_right _ (List.mem_append_right _ (List.mem_append_right _ (List.mem_append_right _ (List.mem_append_right _ (List.mem_append_right _ (List.mem_append_right _ (List.mem_append_right _ (List.mem_append_right _ (List.mem_append_right _ (List.mem_append_right _ (List.mem_append_right _ (List.mem_append_right _ (List.mem_append_right _ (List.mem_append_right _ (List.mem_append_right _ (List.mem_append_right _ (List.mem_append_right _ (List.mem_append_right _ (List.mem_append_right _ (List.mem_append_left _ h))))))))))))))))))))))))))))))))))))))))
theorem inR41 : ∀ w ∈ wsL_law0_r41, w ∈ UW := fun w h => inR w (List.mem_append_right _ (List.mem_append_right _ (List.mem_append_right _ (List.mem_append_right _ (List.mem_append_right _ (List.mem_append_right _ (List.mem_append_right _ (List.mem_append_right _ (List.mem_append_right _ (List.mem_append_right _ (List.mem_append_right _ (List.mem_append_right _ (List.mem_append_right _ (List.mem_append_right _ (List.mem_append_right _ (List.mem_append_right _ (List.mem_append_right _ (List.mem_append_right _ (List.mem_append_right _ (List.mem_append_right _ (List.mem_append_right _ (List.mem_append_right _ (List.mem_append_right _ (List.mem_append_right _ (List.mem_append_right _ (List.mem_append_right _ (List.mem_append_right _ (List.mem_append_right _ (List.mem_append_right _ (List.mem_append_right _ (List.mem_append_right _ (List.mem_append_right _ (List.mem_append_right _ (List.mem_append_right _ (List.mem_append_right _ (List.mem_append_right _ (List.mem_append_right _ (List.mem_append_right _ (List.mem_append_right _ (List.mem_append_right _ (List.mem_append_left _ h)))))))))))))))))))))))))))))))))))))))))
theorem inR42 : ∀ w ∈ wsL_law0_r42, w ∈ UW := fun w h => inR w (List.mem_append_right _ (List.mem_append_right _ (List.mem_append_right _ (List.mem_append_right _ (List.mem_append_right _ (List.mem_append_right _ (List.mem_append_right _ (List.mem_append_right _ (List.mem_append_right _ (List.mem_append_right _ (List.mem_append_right _ (List.mem_append_right _ (List.mem_append_right _ (List.mem_append_right _ (List.mem_append_right _ (List.mem_append_right _ (List.mem_append_right _ (List.mem_append_right _ (List.mem_append_right _ (List.mem_append_right _ (List.mem_append_right _ (List.mem_append_right _ (List.mem_append_right _ (List.mem_append_right _ (List.mem_append_right _ (List.mem_append_right _ (List.mem_append_right _ (List.mem_append_right _ (List.mem_append_right _ (List.mem_append_right _ (List.mem_append_right _ (List.mem_append_right _ (List.mem_append_right _ (List.mem_append_right _ (List.mem_append_right _ (List.mem_append_right _ (List.mem_append_right _ (List.mem_append_right _ (List.mem_append_right _ (List.mem_append_right _ (List.mem_append_right _ (List.mem_append_left _ h))))))))))))))))))))))))))))))))))))))))))
theorem inR43 : ∀ w ∈ wsL_law0_r43, w ∈ UW := fun w h => inR w (List.mem_append_right _ (List.mem_append_right _ (List.mem_append_right _ (List.mem_append_right _ (List.mem_append_right _ (List.mem_append_right _ (List.mem_append_right _ (List.mem_append_right _ (List.mem_append_right _ (List.mem_append_right _ (List.mem_append_right _ (List.mem_append_right _ (List.mem_append_right _ (List.mem_append_right _ (List.mem_append_right _ (List.mem_append_right _ (List.mem_append_right _ (List.mem_append_right _ (List.mem_append_right _ (List.mem_append_right _ (List.mem_append_right _ (List.mem_append_right _ (List.mem_append_right _ (List.mem_append_right _ (List.mem_append_right _ (List.mem_append_right _ (List.mem_append_right _ (List.mem_append_right _ (List.mem_append_right _ (List.mem_append_right _ (List.mem_append_right _ (List.mem_append_right _ (List.mem_append_right _ (List.mem_append_right _ (List.mem_append_right _ (List.mem_append_right _ (List.mem_append_right _ (List.mem_append_right _ (List.mem_append_right _ (List.mem_append_right _ (List.mem_append_right _ (List.mem_append_right _ (List.mem_append_left _ h)))))))))))))))))))))))))))))))))))))))))))
theorem inR44 : ∀ w ∈ wsL_law0_r44, w ∈ UW := fun w h => inR w (List.mem_append_right _ (List.mem_append_right _ (List.mem_append_right _ (List.mem_append_right _ (List.mem_append_right _ (List.mem_append_right _ (List.mem_append_right _ (List.mem_append_right _ (List.mem_append_right _ (List.mem_append_right _ (List.mem_append_right _ (List.mem_append_right _ (List.mem_append_right _ (List.mem_append_right _ (List.mem_append_right _ (List.mem_append_right _ (List.mem_append_right _ (List.mem_append_right _ (List.mem_append_right _ (List.mem_append_right _ (List.mem_append_right _ (List.mem_append_right _ (List.mem_append_right _ (List.mem_append_right _ (List.mem_append_right _ (List.mem_append_right _ (List.mem_append_right _ (List.mem_append_right _ (List.mem_append_right _ (List.mem_append_right _ (List.mem_append_right _ (List.mem_append_right _ (List.mem_append_right _ (List.mem_append_right _ (List.mem_append_right _ (List.mem_append_right _ (List.mem_append_right _ (List.mem_append_right _ (List.mem_append_right _ (List.mem_append_right _ (List.mem_append_right _ (List.mem_append_right _ (List.mem_append_right _ (List.mem_append_left _ h))))))))))))))))))))))))))))))))))))))))))))
theorem inR45 : ∀ w ∈ wsL_law0_r45, w ∈ UW := fun w h => inR w (List.mem_append_right _ (List.mem_append_right _ (List.mem_append_right _ (List.mem_append_right _ (List.mem_append_right _ (List.mem_append_right _ (List.mem_append_right _ (List.mem_append_right _ (List.mem_append_right _ (List.mem_append_right _ (List.mem_append_right _ (List.mem_append_right _ (List.mem_append_right _ (List.mem_append_right _ (List.mem_append_right _ (List.mem_append_right _ (List.mem_append_right _ (List.mem_append_right _ (List.mem_append_right _ (List.mem_append_right _ (List.mem_append_right _ (List.mem_append_right _ (List.mem_append_right _ (List.mem_append_right _ (List.mem_append_right _ (List.mem_append_right _ (List.mem_append_right _ (List.mem_append_right _ (List.mem_append_right _ (List.mem_append_right _ (List.mem_append_right _ (List.mem_append_right _ (List.mem_append_right _ (List.mem_append_right _ (List.mem_append_right _ (List.mem_append_right _ (List.mem_append_right _ (List.mem_append_right _ (List.mem_append_right _ (List.mem_append_right _ (List.mem_append_right _ (List.mem_append_right _ (List.mem_append_right _ (List.mem_append_right _ (List.mem_append_left _ h)))))))))))))))))))))))))))))))))))))))))))))
theorem inR46 : ∀ w ∈ wsL_law0_r46, w ∈ UW := fun w h => inR w (List.mem_append_right _ (List.mem_append_right _ (List.mem_append_right _ (List.mem_append_right _ (List.mem_append_right _ (List.mem_append_right _ (List.mem_append_right _ (List.mem_append_right _ (List.mem_append_right _ (List.mem_append_right _ (List.mem_append_right _ (List.mem_append_right _ (List.mem_append_right _ (List.mem_append_right _ (List.mem_append_right _ (List.mem_append_right _ (List.mem_append_right _ (List.mem_append_right _ (List.mem_append_right _ (List.mem_append_right _ (List.mem_append_right _ (List.mem_append_right _ (List.mem_append_right _ (List.mem_append_right _ (List.mem_append_right _ (List.mem_append_right _ (List.mem_append_right _ (List.mem_append_right _ (List.mem_append_right _ (List.mem_append_right _ (List.mem_append_right _ (List.mem_append_right _ (List.mem_append_right _ (List.mem_append_right _ (List.mem_append_right _ (List.mem_append_right _ (List.mem_append_right _ (List.mem_append_right _ (List.mem_append_right _ (List.mem_append_right _ (List.mem_append_right _ (List.mem_append_right _ (List.mem_append_right _ (List.mem_append_right _ (List.mem_append_right _ (List.mem_append_left _ h))))))))))))))))))))))))))))))))))))))))))))))
theorem inR47 : ∀ w ∈ wsL_law0_r47, w ∈ UW := fun w h => inR w (List.mem_append_right _ (List.mem_append_right _ (List.mem_append_right _ (List.mem_append_right _ (List.mem_append_right _ (List.mem_append_right _ (List.mem_append_right _ (List.mem_append_right _ (List.mem_append_right _ (List.mem_append_right _ (List.mem_append_right _ (List.mem_append_right _ (List.mem_append_right _ (List.mem_append_right _ (List.mem_append_right _ (List.mem_append_right _ (List.mem_append_right _ (List.mem_append_right _ (List.mem_append_right _ (List.mem_append_right _ (List.mem_append_right _ (List.mem_append_right _ (List.mem_append_right _ (List.mem_append_right _ (List.mem_append_right _ (List.mem_append_right _ (List.mem_append_right _ (List.mem_append_right _ (List.mem_append_right _ (List.mem_append_right _ (List.mem_append_right _ (List.mem_append_right _ (List.mem_append_right _ (List.mem_append_right _ (List.mem_append_right _ (List.mem_append_right _ (List.mem_append_right _ (List.mem_append_right _ (List.mem_append_right _ (List.mem_append_right _ (List.mem_append_right _ (List.mem_append_right _ (List.mem_append_right _ (List.mem_append_right _ (List.mem_append_right _ (List.mem_append_right _ (List.mem_append_left _ h)))))))))))))))))))))))))))))))))))))))))))))))
theorem inR48 : ∀ w ∈ wsL_law0_r48, w ∈ UW := fun w h => inR w (List.mem_append_right _ (List.mem_append_right _ (List.mem_append_right _ (List.mem_append_right _ (List.mem_append_right _ (List.mem_append_right _ (List.mem_append_right _ (List.mem_append_right _ (List.mem_append_right _ (List.mem_append_right _ (List.mem_append_right _ (List.mem_append_right _ (List.mem_append_right _ (List.mem_append_right _ (List.mem_append_right _ (List.mem_append_right _ (List.mem_append_right _ (List.mem_append_right _ (List.mem_append_right _ (List.mem_append_right _ (List.mem_append_right _ (List.mem_append_right _ (List.mem_append_right _ (List.mem_append_right _ (List.mem_append_right _ (List.mem_append_right _ (List.mem_append_right _ (List.mem_append_right _ (List.mem_append_right _ (List.mem_append_right _ (List.mem_append_right _ (List.mem_append_right _ (List.mem_append_right _ (List.mem_append_right _ (List.mem_append_right _ (List.mem_append_right _ (List.mem_append_right _ (List.mem_append_right _ (List.mem_append_right _ (List.mem_append_right _ (List.mem_append_right _ (List.mem_append_right _ (List.mem_append_right _ (List.mem_append_right _ (List.mem_append_right _ (List.mem_append_right _ (List.mem_append_right _ (List.mem_append_left _ h))))))))))))))))))))))))))))))))))))))))))))))))
theorem inR49 : ∀ w ∈ wsL_law0_r49, w ∈ UW := fun w h => inR w (List.mem_append_right _ (List.mem_append_right _ (List.mem_append_right _ (List.mem_append_right _ (List.mem_append_right _ (List.mem_append_right _ (List.mem_append_right _ (List.mem_append_right _ (List.mem_append_right _ (List.mem_append_right _ (List.mem_append_right _ (List.mem_append_right _ (List.mem_append_right _ (List.mem_append_right _ (List.mem_append_right _ (List.mem_append_right _ (List.mem_append_right _ (List.mem_append_right _ (List.mem_append_right _ (List.mem_append_right _ (List.mem_append_right _ (List.mem_append_right _ (List.mem_append_right _ (List.mem_append_right _ (List.mem_append_right _ (List.mem_append_right _ (List.mem_append_right _ (List.mem_append_right _ (List.mem_append_right _ (List.mem_append_right _ (List.mem_append_right _ (List.mem_append_right _ (List.mem_append_right _ (List.mem_append_right _ (List.mem_append_right _ (List.mem_append_right _ (List.mem_append_right _ (List.mem_append_right _ (List.mem_append_right _ (List.mem_append_right _ (List.mem_append_right _ (List.mem_append_right _ (List.mem_append_right _ (List.mem_append_right _ (List.mem_append_right _ (List.mem_append_right _ (List.mem_append_right _ (List.mem_append_right _ (List.mem_append_left _ h)))))))))))))))))))))))))))))))))))))))))))))))))
theorem inR50 : ∀ w ∈ wsL_law0_r50, w ∈ UW := fun w h => inR w (List.mem_append_right _ (List.mem_append_right _ (List.mem_append_right _ (List.mem_append_right _ (List.mem_append_right _ (List.mem_append_right _ (List.mem_append_right _ (List.mem_append_right _ (List.mem_append_right _ (List.mem_append_right _ (List.mem_append_right _ (List.mem_append_right _ (List.mem_append_right _ (List.mem_append_right _ (List.mem_append_right _ (List.mem_append_right _ (List.mem_append_right _ (List.mem_append_right _ (List.mem_append_right _ (List.mem_append_right _ (List.mem_append_right _ (List.mem_append_right _ (List.mem_append_right _ (List.mem_append_right _ (List.mem_append_right _ (List.mem_append_right _ (List.mem_append_right _ (List.mem_append_right _ (List.mem_append_right _ (List.mem_append_right _ (List.mem_append_right _ (List.mem_append_right _ (List.mem_append_right _ (List.mem_append_right _ (List.mem_append_right _ (List.mem_append_right _ (List.mem_append_right _ (List.mem_append_right _ (List.mem_append_right _ (List.mem_append_right _ (List.mem_append_right _ (List.mem_append_right _ (List.mem_append_right _ (List.mem_append_right _ (List.mem_append_right _ (List.mem_append_right _ (List.mem_append_right _ (List.mem_append_right _ (List.mem_append_right _ (List.mem_append_left _ h))))))))))))))))))))))))))))))))))))))))))))))))))
theorem inR51 : ∀ w ∈ wsL_law0_r51, w ∈ UW := fun w h => inR w (List.mem_append_right _ (List.mem_append_right _ (List.mem_append_right _ (List.mem_append_right _ (List.mem_append_right _ (List.mem_append_right _ (List.mem_append_right _ (List.mem_append_right _ (List.mem_append_right _ (List.mem_append_right _ (List.mem_append_right _ (List.mem_append_right _ (List.mem_append_right _ (List.mem_append_right _ (List.mem_append_right _ (List.mem_append_right _ (List.mem_append_right _ (List.mem_append_right _ (List.mem_append_right _ (List.mem_append_right _ (List.mem_append_right _ (List.mem_append_right _ (List.mem_append_right _ (List.mem_append_right _ (List.mem_append_right _ (List.mem_append_right _ (List.mem_append_right _ (List.mem_append_right _ (List.mem_append_right _ (List.mem_append_right _ (List.mem_append_right _ (List.mem_append_right _ (List.mem_append_right _ (List.mem_append_right _ (List.mem_append_right _ (List.mem_append_right _ (List.mem_append_right _ (List.mem_append_right _ (List.mem_append_right _ (List.mem_append_right _ (List.mem_append_right _ (List.mem_append_right _ (List.mem_append_right _ (List.mem_append_right _ (List.mem_append_right _ (List.mem_append_right _ (List.mem_append_right _ (List.mem_append_right _ (List.mem_append_right _ (List.mem_append_right _ (List.mem_append_left _ h)))))))))))))))))))))))))))))))))))))))))))))))))))
theorem inR52 : ∀ w ∈ wsL_law0_r52, w ∈ UW := fun w h => inR w (List.mem_append_right _ (List.mem_append_right _ (List.mem_append_right _ (List.mem_append_right _ (List.mem_append_right _ (List.mem_append_right _ (List.mem_append_right _ (List.mem_append_right _ (List.mem_append_right _ (List.mem_append_right _ (List.mem_append_right _ (List.mem_append_right _ (List.mem_append_right _ (List.mem_append_right _ (List.mem_append_right _ (List.mem_append_right _ (List.mem_append_right _ (List.mem_append_right _ (List.mem_append_right _ (List.mem_append_right _ (List.mem_append_right _ (List.mem_append_right _ (List.mem_append_right _ (List.mem_append_right _ (List.mem_append_right _ (List.mem_append_right _ (List.mem_append_right _ (List.mem_append_right _ (List.mem_append_right _ (List.mem_append_right _ (List.mem_append_right _ (List.mem_append_right _ (List.mem_append_right _ (List.mem_append_right _ (List.mem_append_right _ (List.mem_append_right _ (List.mem_append_right _ (List.mem_append_right _ (List.mem_append_right _ (List.mem_append_right _ (List.mem_append_right _ (List.mem_append_right _ (List.mem_append_right _ (List.mem_append_right _ (List.mem_append_right _ (List.mem_append_right _ (List.mem_append_right _ (List.mem_append_right _ (List.mem_append_right _ (List.mem_append_right _ (List.mem_append_right _ (List.mem_append_left _ h))))))))))))))))))))))))))))))))))))))))))))))))))))
theorem inR53 : ∀ w ∈ wsL_law0_r53, w ∈ UW := fun w h => inR w (List.mem_append_right _ (List.mem_append_right _ (List.mem_append_right _ (List.mem_append_right _ (List.mem_append_right _ (List.mem_append_right _ (List.mem_append_right _ (List.mem_append_right _ (List.mem_append_right _ (List.mem_append_right _ (List.mem_append_right _ (List.mem_append_right _ (List.mem_append_right _ (List.mem_append_right _ (List.mem_append_right _ (List.mem_append_right _ (List.mem_append_right _ (List.mem_append_right _ (List.mem_append_right _ (List.mem_append_right _ (List.mem_append_right _ (List.mem_append_right _ (List.mem_append_right _ (List.mem_append_right _ (List.mem_append_right _ (List.mem_append_right _ (List.mem_append_right _ (List.mem_append_right _ (List.mem_append_right _ (List.mem_append_right _ (List.mem_append_right _ (List.mem_append_right _ (List.mem_append_right _ (List.mem_append_right _ (List.mem_append_right _ (List.mem_append_right _ (List.mem_append_right _ (List.mem_append_right _ (List.mem_append_right _ (List.mem_append_right _ (List.mem_append_right _ (List.mem_append_right _ (List.mem_append_right _ (List.mem_append_right _ (List.mem_append_right _ (List.mem_append_right _ (List.mem_append_right _ (List.mem_append_right _ (List.mem_append_right _ (List.mem_append_right _ (List.mem_append_right _ (List.mem_append_right _ (List.mem_append_left _ h)))))))))))))))))))))))))))))))))))))))))))))))))))))
theorem inR54 : ∀ w ∈ wsL_law0_r54, w ∈ UW := fun w h => inR w (List.mem_append_right _ (List.mem_append_right _ (List.mem_append_right _ (List.mem_append_right _ (List.mem_append_right _ (List.mem_append_right _ (List.mem_append_right _ (List.mem_append_right _ (List.mem_append_right _ (List.mem_append_right _ (List.mem_append_right _ (List.mem_append_right _ (List.mem_append_right _ (List.mem_append_right _ (List.mem_append_right _ (List.mem_append_right _ (List.mem_append_right _ (List.mem_append_right _ (List.mem_append_right _ (List.mem_append_right _ (List.mem_append_right _ (List.mem_append_right _ (List.mem_append_right _ (List.mem_append_right _ (List.mem_append_right _ (List.mem_append_right _ (List.mem_append_right _ (List.mem_append_right _ (List.mem_append_right _ (List.mem_append_right _ (List.mem_append_right _ (List.mem_append_right _ (List.mem_append_right _ (List.mem_append_right _ (List.mem_append_right _ (List.mem_append_right _ (List.mem_append_right _ (List.mem_append_right _ (List.mem_append_right _ (List.mem_append_right _ (List.mem_append_right _ (List.mem_append_right _ (List.mem_append_right _ (List.mem_append_right _ (List.mem_append_right _ (List.mem_append_right _ (List.mem_append_right _ (List.mem_append_right _ (List.mem_append_right _ (List.mem_append_right _ (List.mem_append_right _ (List.mem_append_right _ (List.mem_append_right _ (List.mem_append_left _ h))))))))))))))))))))))))))))))))))))))))))))))))))))))
theorem inR55 : ∀ w ∈ wsL_law0_r55, w ∈ UW := fun w h => inR w (List.mem_append_right _ (List.mem_append_right _ (List.mem_append_right _ (List.mem_append_right _ (List.mem_append_right _ (List.mem_append_right _ (List.mem_append_right _ (List.mem_append_right _ (List.mem_append_right _ (List.mem_append_right _ (List.mem_append_right _ (List.mem_append_right _ (List.mem_append_right _ (List.mem_append_right _ (List.mem_append_right _ (List.mem_append_right _ (List.mem_append_right _ (List.mem_append_right _ (List.mem_append_right _ (List.mem_append_right _ (List.mem_append_right _ (List.mem_append_right _ (List.mem_append_right _ (List.mem_append_right _ (List.mem_append_right _ (List.mem_append_right _ (List.mem_append_right _ (List.mem_append_right _ (List.mem_append_right _ (List.mem_append_right _ (List.mem_append_right _ (List.mem_append_right _ (List.mem_append_right _ (List.mem_append_right _ (List.mem_append_right _ (List.mem_append_right _ (List.mem_append_right _ (List.mem_append_right _ (List.mem_append_right _ (List.mem_append_right _ (List.mem_append_right _ (List.mem_append_right _ (List.mem_append_right _ (List.mem_append_right _ (List.mem_append_right _ (List.mem_append_right _ (List.mem_append_right _ (List.mem_append_right _ (List.mem_append_right _ (List.mem_append_right _ (List.mem_append_right _ (List.mem_append_right _ (List.mem_append_right _ (List.mem_append_right _ (List.mem_append_left _ h)))))))))))))))))))))))))))))))))))))))))))))))))))))))
theorem inR56 : ∀ w ∈ wsL_law0_r56, w ∈ UW := fun w h => inR w (List.mem_append_right _ (List.mem_append_right _ (List.mem_append_right _ (List.mem_append_right _ (List.mem_append_right _ (List.mem_append_right _ (List.mem_append_right _ (List.mem_append_right _ (List.mem_append_right _ (List.mem_append_right _ (List.mem_append_right _ (List.mem_append_right _ (List.mem_append_right _ (List.mem_append_right _ (List.mem_append_right _ (List.mem_append_right _ (List.mem_append_right _ (List.mem_append_right _ (List.mem_append_right _ (List.mem_append_right _ (List.mem_append_right _ (List.mem_append_right _ (List.mem_append_right _ (List.mem_append_right _ (List.mem_append_right _ (List.mem_append_right _ (List.mem_append_right _ (List.mem_append_right _ (List.mem_append_right _ (List.mem_append_right _ (List.mem_append_right _ (List.mem_append_right _ (List.mem_append_right _ (List.mem_append_right _ (List.mem_append_right _ (List.mem_append_right _ (List.mem_append_right _ (List.mem_append_right _ (List.mem_append_right _ (List.mem_append_right _ (List.mem_append_right _ (List.mem_append_right _ (List.mem_append_right _ (List.mem_append_right _ (List.mem_append_right _ (List.mem_append_right _ (List.mem_append_right _ (List.mem_append_right _ (List.mem_append_right _ (List.mem_append_right _ (List.mem_append_right _ (List.mem_append_right _ (List.mem_append_right _ (List.mem_append_right _ (List.mem_append_right _ (h))))))))))))))))))))))))))))))))))))))))))))))))))))))))
theorem uw2 : (Cond.initialized RX11) ∈ UW := inR1 _ (List.mem_of_getElem? (i := 2) rfl)
theorem uw5 : (Cond.initialized RX12) ∈ UW := inR1 _ (List.mem_of_getElem? (i := 5) rfl)
theorem uw15 : (Cond.initialized RX8) ∈ UW := inR1 _ (List.mem_of_getElem? (i := 15) rfl)
theorem uw16 : (Cond.fieldLink RX11 10 "NamesInMouths" "text" "LNamesInMouths$Text;") ∈ UW := inR1 _ (List.mem_of_getElem? (i := 16) rfl)
theorem uw19 : (Cond.initialized RX9) ∈ UW := inR1 _ (List.mem_of_getElem? (i := 19) rfl)
theorem uw20 : (Cond.fieldLink RX11 19 "NamesInMouths" "told" "LNamesInMouths$Told;") ∈ UW := inR1 _ (List.mem_of_getElem? (i := 20) rfl)
theorem uw23 : (Cond.initialized RX2) ∈ UW := inR1 _ (List.mem_of_getElem? (i := 23) rfl)
theorem uw24 : (Cond.fieldLink RX11 26 "NamesInMouths" "fen" "LNamesInMouths$Fen;") ∈ UW := inR2 _ (List.mem_of_getElem? (i := 0) rfl)
theorem uw25 : (Cond.fieldLink RX11 30 "NamesInMouths" "trial" "LNamesInMouths$Fen;") ∈ UW := inR2 _ (List.mem_of_getElem? (i := 1) rfl)
theorem uw28 : (Cond.initialized RX6) ∈ UW := inR2 _ (List.mem_of_getElem? (i := 4) rfl)
theorem uw29 : (Cond.fieldLink RX11 36 "NamesInMouths" "reader" "LNamesInMouths$RuleReader;") ∈ UW := inR2 _ (List.mem_of_getElem? (i := 5) rfl)
theorem uw32 : (Cond.initialized RX3) ∈ UW := inR2 _ (List.mem_of_getElem? (i := 8) rfl)
theorem uw33 : (Cond.fieldLink RX11 43 "NamesInMouths" "past" "LNamesInMouths$Past;") ∈ UW := inR2 _ (List.mem_of_getElem? (i := 9) rfl)
theorem uw36 : (Cond.initialized RX10) ∈ UW := inR2 _ (List.mem_of_getElem? (i := 12) rfl)
theorem uw37 : (Cond.fieldLink RX11 50 "NamesInMouths" "ways" "LNamesInMouths$Ways;") ∈ UW := inR2 _ (List.mem_of_getElem? (i := 13) rfl)
theorem uw40 : (Cond.initialized RX0) ∈ UW := inR2 _ (List.mem_of_getElem? (i := 16) rfl)
theorem uw41 : (Cond.fieldLink RX11 57 "NamesInMouths" "dyke" "LNamesInMouths$Dyke;") ∈ UW := inR2 _ (List.mem_of_getElem? (i := 17) rfl)
theorem uw44 : (Cond.initialized RX1) ∈ UW := inR2 _ (List.mem_of_getElem? (i := 20) rfl)
theorem uw45 : (Cond.fieldLink RX11 64 "NamesInMouths" "ear" "LNamesInMouths$Ear;") ∈ UW := inR2 _ (List.mem_of_getElem? (i := 21) rfl)
theorem uw48 : (Cond.initialized RX7) ∈ UW := inR3 _ (List.mem_of_getElem? (i := 0) rfl)
theorem uw49 : (Cond.fieldLink RX11 71 "NamesInMouths" "seen" "LNamesInMouths$Seen;") ∈ UW := inR3 _ (List.mem_of_getElem? (i := 1) rfl)
theorem uw52 : (Cond.initialized RX4) ∈ UW := inR3 _ (List.mem_of_getElem? (i := 4) rfl)
theorem uw53 : (Cond.fieldLink RX11 78 "NamesInMouths" "plays" "LNamesInMouths$Plays;") ∈ UW := inR3 _ (List.mem_of_getElem? (i := 5) rfl)
theorem uw56 : (Cond.initialized RX5) ∈ UW := inR3 _ (List.mem_of_getElem? (i := 8) rfl)
theorem uw57 : (Cond.fieldLink RX11 85 "NamesInMouths" "ruling" "LNamesInMouths$Rule;") ∈ UW := inR3 _ (List.mem_of_getElem? (i := 9) rfl)
theorem uw58 : (Cond.fieldLink RX11 89 "NamesInMouths" "spare" "LNamesInMouths$Rule;") ∈ UW := inR3 _ (List.mem_of_getElem? (i := 10) rfl)
theorem uw63 : (Cond.fieldLink RX8 9 "NamesInMouths$Text" "signs" "[C") ∈ UW := inR3 _ (List.mem_of_getElem? (i := 15) rfl)
theorem uw67 : (Cond.fieldLink RX9 11 "NamesInMouths$Told" "numbers" "[J") ∈ UW := inR3 _ (List.mem_of_getElem? (i := 19) rfl)
theorem uw72 : (Cond.fieldLink RX2 9 "NamesInMouths$Fen" "place" "[I") ∈ UW := inR4 _ (List.mem_of_getElem? (i := 0) rfl)
theorem uw73 : (Cond.fieldLink RX2 15 "NamesInMouths$Fen" "voice" "[I") ∈ UW := inR4 _ (List.mem_of_getElem? (i := 1) rfl)
theorem uw74 : (Cond.fieldLink RX2 18 "NamesInMouths$Fen" "purse" "[I") ∈ UW := inR4 _ (List.mem_of_getElem? (i := 2) rfl)
theorem uw75 : (Cond.fieldLink RX2 21 "NamesInMouths$Fen" "holder" "[I") ∈ UW := inR4 _ (List.mem_of_getElem? (i := 3) rfl)
theorem uw76 : (Cond.fieldLink RX2 24 "NamesInMouths$Fen" "age" "[I") ∈ UW := inR4 _ (List.mem_of_getElem? (i := 4) rfl)
theorem uw83 : (Cond.fieldLink RX3 11 "NamesInMouths$Past" "slots" "[I") ∈ UW := inR4 _ (List.mem_of_getElem? (i := 11) rfl)
theorem uw87 : (Cond.fieldLink RX10 11 "NamesInMouths$Ways" "from" "[I") ∈ UW := inR4 _ (List.mem_of_getElem? (i := 15) rfl)
theorem uw88 : (Cond.fieldLink RX10 15 "NamesInMouths$Ways" "queue" "[I") ∈ UW := inR4 _ (List.mem_of_getElem? (i := 16) rfl)
theorem uw89 : (Cond.fieldLink RX10 18 "NamesInMouths$Ways" "way" "[I") ∈ UW := inR4 _ (List.mem_of_getElem? (i := 17) rfl)
theorem uw90 : (Cond.fieldLink RX10 21 "NamesInMouths$Ways" "those" "[I") ∈ UW := inR4 _ (List.mem_of_getElem? (i := 18) rfl)
theorem uw91 : (Cond.fieldLink RX10 24 "NamesInMouths$Ways" "turn" "[I") ∈ UW := inR4 _ (List.mem_of_getElem? (i := 19) rfl)
theorem uw92 : (Cond.fieldLink RX10 27 "NamesInMouths$Ways" "tried" "[J") ∈ UW := inR4 _ (List.mem_of_getElem? (i := 20) rfl)
theorem uw93 : (Cond.fieldLink RX10 31 "NamesInMouths$Ways" "best" "[I") ∈ UW := inR4 _ (List.mem_of_getElem? (i := 21) rfl)
theorem uw97 : (Cond.fieldLink RX0 9 "NamesInMouths$Dyke" "row" "[I") ∈ UW := inR5 _ (List.mem_of_getElem? (i := 1) rfl)
theorem uw98 : (Cond.fieldLink RX0 15 "NamesInMouths$Dyke" "least" "[I") ∈ UW := inR5 _ (List.mem_of_getElem? (i := 2) rfl)
theorem uw99 : (Cond.fieldLink RX0 18 "NamesInMouths$Dyke" "runs" "[I") ∈ UW := inR5 _ (List.mem_of_getElem? (i := 3) rfl)
theorem uw103 : (Cond.fieldLink RX1 11 "NamesInMouths$Ear" "whats" "[I") ∈ UW := inR5 _ (List.mem_of_getElem? (i := 7) rfl)
theorem uw104 : (Cond.fieldLink RX1 15 "NamesInMouths$Ear" "of" "[I") ∈ UW := inR5 _ (List.mem_of_getElem? (i := 8) rfl)
theorem uw108 : (Cond.fieldLink RX7 9 "NamesInMouths$Seen" "voice" "[I") ∈ UW := inR5 _ (List.mem_of_getElem? (i := 12) rfl)
theorem uw109 : (Cond.fieldLink RX7 13 "NamesInMouths$Seen" "far" "[I") ∈ UW := inR5 _ (List.mem_of_getElem? (i := 13) rfl)
theorem uw110 : (Cond.fieldLink RX7 16 "NamesInMouths$Seen" "could" "[I") ∈ UW := inR5 _ (List.mem_of_getElem? (i := 14) rfl)
theorem uw111 : (Cond.fieldLink RX7 19 "NamesInMouths$Seen" "low" "[I") ∈ UW := inR5 _ (List.mem_of_getElem? (i := 15) rfl)
theorem uw112 : (Cond.fieldLink RX7 22 "NamesInMouths$Seen" "high" "[I") ∈ UW := inR5 _ (List.mem_of_getElem? (i := 16) rfl)
theorem uw116 : (Cond.fieldLink RX4 9 "NamesInMouths$Plays" "ways" "[J") ∈ UW := inR5 _ (List.mem_of_getElem? (i := 20) rfl)
theorem uw117 : (Cond.fieldLink RX4 15 "NamesInMouths$Plays" "next" "[J") ∈ UW := inR5 _ (List.mem_of_getElem? (i := 21) rfl)
theorem uw118 : (Cond.fieldLink RX4 18 "NamesInMouths$Plays" "won" "[I") ∈ UW := inR5 _ (List.mem_of_getElem? (i := 22) rfl)
theorem uw119 : (Cond.fieldLink RX4 22 "NamesInMouths$Plays" "bestAgainst" "[I") ∈ UW := inR5 _ (List.mem_of_getElem? (i := 23) rfl)
theorem uw124 : (Cond.fieldLink RX5 9 "NamesInMouths$Rule" "steps" "[I") ∈ UW := inR6 _ (List.mem_of_getElem? (i := 4) rfl)
theorem uw125 : (Cond.fieldLink RX5 15 "NamesInMouths$Rule" "stack" "[I") ∈ UW := inR6 _ (List.mem_of_getElem? (i := 5) rfl)
theorem uw127 : (Cond.instanceMethod yX5_becomesNone) ∈ UW := inR6 _ (List.mem_of_getElem? (i := 7) rfl)
theorem uw128 : (Cond.selects RX5 yX5_becomesNone yX5_becomesNone) ∈ UW := inR6 _ (List.mem_of_getElem? (i := 8) rfl)
theorem uw129 : (Cond.code yX5_becomesNone cX5_becomesNone 1 none) ∈ UW := inR6 _ (List.mem_of_getElem? (i := 9) rfl)
theorem uw130 : (Cond.fieldLink RX5 21 "NamesInMouths$Rule" "size" "I") ∈ UW := inR6 _ (List.mem_of_getElem? (i := 10) rfl)
theorem uw131 : (Cond.methodLink RX5 25 yX5_puts) ∈ UW := inR6 _ (List.mem_of_getElem? (i := 11) rfl)
theorem uw132 : (Cond.instanceMethod yX5_puts) ∈ UW := inR6 _ (List.mem_of_getElem? (i := 12) rfl)
theorem uw133 : (Cond.selects RX5 yX5_puts yX5_puts) ∈ UW := inR6 _ (List.mem_of_getElem? (i := 13) rfl)
theorem uw134 : (Cond.code yX5_puts cX5_puts 2 none) ∈ UW := inR6 _ (List.mem_of_getElem? (i := 14) rfl)
theorem uw139 : (Cond.fieldLink RX12 9 "NamesInMouthsModel" "now" "[I") ∈ UW := inR6 _ (List.mem_of_getElem? (i := 19) rfl)
theorem uw140 : (Cond.fieldLink RX12 13 "NamesInMouthsModel" "voice" "[I") ∈ UW := inR6 _ (List.mem_of_getElem? (i := 20) rfl)
theorem uw142 : (Cond.fieldLink RX12 16 "NamesInMouthsModel" "text" "[B") ∈ UW := inR6 _ (List.mem_of_getElem? (i := 22) rfl)
theorem uw143 : (Cond.fieldLink RX12 20 "NamesInMouthsModel" "row" "[J") ∈ UW := inR6 _ (List.mem_of_getElem? (i := 23) rfl)
theorem uw144 : (Cond.fieldLink RX12 24 "NamesInMouthsModel" "comes" "[I") ∈ UW := inR7 _ (List.mem_of_getElem? (i := 0) rfl)
theorem uw145 : (Cond.fieldLink RX12 27 "NamesInMouthsModel" "rule" "[B") ∈ UW := inR7 _ (List.mem_of_getElem? (i := 1) rfl)
theorem uw146 : (Cond.fieldLink RX12 30 "NamesInMouthsModel" "otherRule" "[B") ∈ UW := inR7 _ (List.mem_of_getElem? (i := 2) rfl)
theorem uw147 : (Cond.fieldLink RX12 33 "NamesInMouthsModel" "asked" "[I") ∈ UW := inR7 _ (List.mem_of_getElem? (i := 3) rfl)
theorem uw148 : (Cond.fieldLink RX12 36 "NamesInMouthsModel" "undos" "[I") ∈ UW := inR7 _ (List.mem_of_getElem? (i := 4) rfl)
theorem uw149 : (Cond.fieldLink RX12 39 "NamesInMouthsModel" "aside" "[I") ∈ UW := inR7 _ (List.mem_of_getElem? (i := 5) rfl)
theorem uw150 : (Cond.fieldLink RX12 42 "NamesInMouthsModel" "then" "[I") ∈ UW := inR7 _ (List.mem_of_getElem? (i := 6) rfl)
theorem uw151 : (Cond.fieldLink RX12 45 "NamesInMouthsModel" "acts" "[I") ∈ UW := inR7 _ (List.mem_of_getElem? (i := 7) rfl)
theorem uw152 : (Cond.fieldLink RX12 48 "NamesInMouthsModel" "trail" "[I") ∈ UW := inR7 _ (List.mem_of_getElem? (i := 8) rfl)
theorem uw153 : (Cond.fieldLink RX12 51 "NamesInMouthsModel" "line" "[I") ∈ UW := inR7 _ (List.mem_of_getElem? (i := 9) rfl)
theorem uw154 : (Cond.fieldLink RX12 54 "NamesInMouthsModel" "steps" "[I") ∈ UW := inR7 _ (List.mem_of_getElem? (i := 10) rfl)
theorem uw155 : (Cond.fieldLink RX12 57 "NamesInMouthsModel" "bestLine" "[I") ∈ UW := inR7 _ (List.mem_of_getElem? (i := 11) rfl)
theorem uw156 : (Cond.fieldLink RX12 60 "NamesInMouthsModel" "whoAll" "[I") ∈ UW := inR7 _ (List.mem_of_getElem? (i := 12) rfl)
theorem uw157 : (Cond.fieldLink RX12 63 "NamesInMouthsModel" "mouthed" "[I") ∈ UW := inR7 _ (List.mem_of_getElem? (i := 13) rfl)
theorem uw158 : (Cond.fieldLink RX12 66 "NamesInMouthsModel" "dyke" "[I") ∈ UW := inR7 _ (List.mem_of_getElem? (i := 14) rfl)
theorem uw159 : (Cond.fieldLink RX12 69 "NamesInMouthsModel" "longest" "[I") ∈ UW := inR7 _ (List.mem_of_getElem? (i := 15) rfl)
theorem uw160 : (Cond.fieldLink RX12 72 "NamesInMouthsModel" "heardOf" "[I") ∈ UW := inR7 _ (List.mem_of_getElem? (i := 16) rfl)
theorem uw161 : (Cond.fieldLink RX12 75 "NamesInMouthsModel" "heardBy" "[I") ∈ UW := inR7 _ (List.mem_of_getElem? (i := 17) rfl)
theorem uw162 : (Cond.fieldLink RX12 78 "NamesInMouthsModel" "sawOf" "[I") ∈ UW := inR7 _ (List.mem_of_getElem? (i := 18) rfl)
theorem uw163 : (Cond.fieldLink RX12 81 "NamesInMouthsModel" "sawAs" "[I") ∈ UW := inR7 _ (List.mem_of_getElem? (i := 19) rfl)
theorem uw164 : (Cond.fieldLink RX12 84 "NamesInMouthsModel" "parts" "[J") ∈ UW := inR7 _ (List.mem_of_getElem? (i := 20) rfl)
theorem uw165 : (Cond.fieldLink RX12 87 "NamesInMouthsModel" "nextParts" "[J") ∈ UW := inR7 _ (List.mem_of_getElem? (i := 21) rfl)
theorem uw167 : (Cond.fieldLink RX12 90 "NamesInMouthsModel" "loses" "[Z") ∈ UW := inR7 _ (List.mem_of_getElem? (i := 23) rfl)
theorem uw168 : (Cond.fieldLink RX12 94 "NamesInMouthsModel" "kept" "[I") ∈ UW := inR8 _ (List.mem_of_getElem? (i := 0) rfl)
theorem uw169 : (Cond.fieldLink RX12 97 "NamesInMouthsModel" "isKept" "[Z") ∈ UW := inR8 _ (List.mem_of_getElem? (i := 1) rfl)
theorem uw170 : (Cond.fieldLink RX12 100 "NamesInMouthsModel" "keptCame" "[I") ∈ UW := inR8 _ (List.mem_of_getElem? (i := 2) rfl)
theorem uw174 : (Cond.code yX11_sign cX11_sign 2 (some .int)) ∈ UW := inR8 _ (List.mem_of_getElem? (i := 6) rfl)
theorem uw175 : (Cond.fieldLink RX11 96 "NamesInMouths$Text" "length" "I") ∈ UW := inR8 _ (List.mem_of_getElem? (i := 7) rfl)
theorem uw176 : (Cond.methodLink RX11 92 yX8_adds) ∈ UW := inR8 _ (List.mem_of_getElem? (i := 8) rfl)
theorem uw177 : (Cond.instanceMethod yX8_adds) ∈ UW := inR8 _ (List.mem_of_getElem? (i := 9) rfl)
theorem uw178 : (Cond.selects RX8 yX8_adds yX8_adds) ∈ UW := inR8 _ (List.mem_of_getElem? (i := 10) rfl)
theorem uw179 : (Cond.code yX8_adds cX8_adds 3 (some .boolean)) ∈ UW := inR8 _ (List.mem_of_getElem? (i := 11) rfl)
theorem uw180 : (Cond.fieldLink RX8 13 "NamesInMouths$Text" "length" "I") ∈ UW := inR8 _ (List.mem_of_getElem? (i := 12) rfl)
theorem uw184 : (Cond.code yX12_sign cX12_sign 3 (some .int)) ∈ UW := inR8 _ (List.mem_of_getElem? (i := 16) rfl)
theorem uw185 : (Cond.fieldLink RX12 103 "NamesInMouthsModel" "thrown" "I") ∈ UW := inR8 _ (List.mem_of_getElem? (i := 17) rfl)
theorem uw186 : (Cond.fieldLink RX12 117 "NamesInMouthsModel" "typed" "I") ∈ UW := inR8 _ (List.mem_of_getElem? (i := 18) rfl)
theorem uw190 : (Cond.code yX11_end cX11_end 2 (some .boolean)) ∈ UW := inR8 _ (List.mem_of_getElem? (i := 22) rfl)
theorem uw191 : (Cond.methodLink RX11 100 yX8_cuts) ∈ UW := inR8 _ (List.mem_of_getElem? (i := 23) rfl)
theorem uw192 : (Cond.instanceMethod yX8_cuts) ∈ UW := inR9 _ (List.mem_of_getElem? (i := 0) rfl)
theorem uw193 : (Cond.selects RX8 yX8_cuts yX8_cuts) ∈ UW := inR9 _ (List.mem_of_getElem? (i := 1) rfl)
theorem uw194 : (Cond.code yX8_cuts cX8_cuts 2 (some .boolean)) ∈ UW := inR9 _ (List.mem_of_getElem? (i := 2) rfl)
theorem uw198 : (Cond.code yX12_end cX12_end 2 (some .boolean)) ∈ UW := inR9 _ (List.mem_of_getElem? (i := 6) rfl)
theorem uw199 : (Cond.methodLink RX12 113 yX12_in) ∈ UW := inR9 _ (List.mem_of_getElem? (i := 7) rfl)
theorem uw200 : (Cond.static yX12_in) ∈ UW := inR9 _ (List.mem_of_getElem? (i := 8) rfl)
theorem uw201 : (Cond.code yX12_in cX12_in 3 (some .boolean)) ∈ UW := inR9 _ (List.mem_of_getElem? (i := 9) rfl)
theorem uw205 : (Cond.code yX11_people cX11_people 3 (some .int)) ∈ UW := inR9 _ (List.mem_of_getElem? (i := 13) rfl)
theorem uw206 : (Cond.methodLink RX11 103 yX11_peopleWrongAt) ∈ UW := inR9 _ (List.mem_of_getElem? (i := 14) rfl)
theorem uw207 : (Cond.instanceMethod yX11_peopleWrongAt) ∈ UW := inR9 _ (List.mem_of_getElem? (i := 15) rfl)
theorem uw208 : (Cond.selects RX11 yX11_peopleWrongAt yX11_peopleWrongAt) ∈ UW := inR9 _ (List.mem_of_getElem? (i := 16) rfl)
theorem uw209 : (Cond.code yX11_peopleWrongAt cX11_peopleWrongAt 3 (some .int)) ∈ UW := inR9 _ (List.mem_of_getElem? (i := 17) rfl)
theorem uw210 : (Cond.methodLink RX11 388 Lib.Math.min.name) ∈ UW := inR9 _ (List.mem_of_getElem? (i := 18) rfl)
theorem uw211 : (Cond.static Lib.Math.min.name) ∈ UW := inR9 _ (List.mem_of_getElem? (i := 19) rfl)
theorem uw212 : (Cond.initialized "java/lang/Math") ∈ UW := inR9 _ (List.mem_of_getElem? (i := 20) rfl)
theorem uw213 : (Cond.code Lib.Math.min.name Lib.Math.min.code 2 (some .int)) ∈ UW := inR9 _ (List.mem_of_getElem? (i := 21) rfl)
theorem uw214 : (Cond.methodLink RX11 391 yX11_standsInLine) ∈ UW := inR9 _ (List.mem_of_getElem? (i := 22) rfl)
theorem uw215 : (Cond.instanceMethod yX11_standsInLine) ∈ UW := inR9 _ (List.mem_of_getElem? (i := 23) rfl)
theorem uw216 : (Cond.selects RX11 yX11_standsInLine yX11_standsInLine) ∈ UW := inR10 _ (List.mem_of_getElem? (i := 0) rfl)
theorem uw217 : (Cond.code yX11_standsInLine cX11_standsInLine 4 (some .boolean)) ∈ UW := inR10 _ (List.mem_of_getElem? (i := 1) rfl)
theorem uw218 : (Cond.fieldLink RX11 250 "NamesInMouths$Fen" "size" "I") ∈ UW := inR10 _ (List.mem_of_getElem? (i := 2) rfl)
theorem uw219 : (Cond.methodLink RX11 204 yX8_at) ∈ UW := inR10 _ (List.mem_of_getElem? (i := 3) rfl)
theorem uw220 : (Cond.instanceMethod yX8_at) ∈ UW := inR10 _ (List.mem_of_getElem? (i := 4) rfl)
theorem uw221 : (Cond.selects RX8 yX8_at yX8_at) ∈ UW := inR10 _ (List.mem_of_getElem? (i := 5) rfl)
theorem uw222 : (Cond.code yX8_at cX8_at 2 (some .int)) ∈ UW := inR10 _ (List.mem_of_getElem? (i := 6) rfl)
theorem uw223 : (Cond.methodLink RX11 394 yX8_isDigit) ∈ UW := inR10 _ (List.mem_of_getElem? (i := 7) rfl)
theorem uw224 : (Cond.instanceMethod yX8_isDigit) ∈ UW := inR10 _ (List.mem_of_getElem? (i := 8) rfl)
theorem uw225 : (Cond.selects RX8 yX8_isDigit yX8_isDigit) ∈ UW := inR10 _ (List.mem_of_getElem? (i := 9) rfl)
theorem uw226 : (Cond.code yX8_isDigit cX8_isDigit 3 (some .boolean)) ∈ UW := inR10 _ (List.mem_of_getElem? (i := 10) rfl)
theorem uw227 : (Cond.methodLink RX8 17 yX8_at) ∈ UW := inR10 _ (List.mem_of_getElem? (i := 11) rfl)
theorem uw228 : (Cond.methodLink RX11 107 yX11_takePeople) ∈ UW := inR10 _ (List.mem_of_getElem? (i := 12) rfl)
theorem uw229 : (Cond.instanceMethod yX11_takePeople) ∈ UW := inR10 _ (List.mem_of_getElem? (i := 13) rfl)
theorem uw230 : (Cond.selects RX11 yX11_takePeople yX11_takePeople) ∈ UW := inR10 _ (List.mem_of_getElem? (i := 14) rfl)
theorem uw231 : (Cond.code yX11_takePeople cX11_takePeople 3 (some .int)) ∈ UW := inR10 _ (List.mem_of_getElem? (i := 15) rfl)
theorem uw232 : (Cond.methodLink RX11 397 yX8_digit) ∈ UW := inR10 _ (List.mem_of_getElem? (i := 16) rfl)
theorem uw233 : (Cond.instanceMethod yX8_digit) ∈ UW := inR10 _ (List.mem_of_getElem? (i := 17) rfl)
theorem uw234 : (Cond.selects RX8 yX8_digit yX8_digit) ∈ UW := inR10 _ (List.mem_of_getElem? (i := 18) rfl)
theorem uw235 : (Cond.code yX8_digit cX8_digit 2 (some .int)) ∈ UW := inR10 _ (List.mem_of_getElem? (i := 19) rfl)
theorem uw236 : (Cond.methodLink RX8 21 yX8_isDigit) ∈ UW := inR10 _ (List.mem_of_getElem? (i := 20) rfl)
theorem uw237 : (Cond.methodLink RX11 400 yX8_twoDigits) ∈ UW := inR10 _ (List.mem_of_getElem? (i := 21) rfl)
theorem uw238 : (Cond.instanceMethod yX8_twoDigits) ∈ UW := inR10 _ (List.mem_of_getElem? (i := 22) rfl)
theorem uw239 : (Cond.selects RX8 yX8_twoDigits yX8_twoDigits) ∈ UW := inR10 _ (List.mem_of_getElem? (i := 23) rfl)
theorem uw240 : (Cond.code yX8_twoDigits cX8_twoDigits 2 (some .int)) ∈ UW := inR11 _ (List.mem_of_getElem? (i := 0) rfl)
theorem uw241 : (Cond.methodLink RX8 25 yX8_digit) ∈ UW := inR11 _ (List.mem_of_getElem? (i := 1) rfl)
theorem uw242 : (Cond.methodLink RX11 403 yX2_adds) ∈ UW := inR11 _ (List.mem_of_getElem? (i := 2) rfl)
theorem uw243 : (Cond.instanceMethod yX2_adds) ∈ UW := inR11 _ (List.mem_of_getElem? (i := 3) rfl)
theorem uw244 : (Cond.selects RX2 yX2_adds yX2_adds) ∈ UW := inR11 _ (List.mem_of_getElem? (i := 4) rfl)
theorem uw245 : (Cond.code yX2_adds cX2_adds 4 none) ∈ UW := inR11 _ (List.mem_of_getElem? (i := 5) rfl)
theorem uw246 : (Cond.fieldLink RX2 27 "NamesInMouths$Fen" "size" "I") ∈ UW := inR11 _ (List.mem_of_getElem? (i := 6) rfl)
theorem uw247 : (Cond.methodLink RX11 110 yX3_forgetsAll) ∈ UW := inR11 _ (List.mem_of_getElem? (i := 7) rfl)
theorem uw248 : (Cond.instanceMethod yX3_forgetsAll) ∈ UW := inR11 _ (List.mem_of_getElem? (i := 8) rfl)
theorem uw249 : (Cond.selects RX3 yX3_forgetsAll yX3_forgetsAll) ∈ UW := inR11 _ (List.mem_of_getElem? (i := 9) rfl)
theorem uw250 : (Cond.code yX3_forgetsAll cX3_forgetsAll 1 none) ∈ UW := inR11 _ (List.mem_of_getElem? (i := 10) rfl)
theorem uw251 : (Cond.fieldLink RX3 23 "NamesInMouths$Past" "size" "I") ∈ UW := inR11 _ (List.mem_of_getElem? (i := 11) rfl)
theorem uw252 : (Cond.fieldLink RX3 35 "NamesInMouths$Past" "shelved" "I") ∈ UW := inR11 _ (List.mem_of_getElem? (i := 12) rfl)
theorem uw256 : (Cond.code yX12_people cX12_people 4 (some .int)) ∈ UW := inR11 _ (List.mem_of_getElem? (i := 16) rfl)
theorem uw257 : (Cond.fieldLink RX12 123 "NamesInMouthsModel" "length" "I") ∈ UW := inR11 _ (List.mem_of_getElem? (i := 17) rfl)
theorem uw258 : (Cond.fieldLink RX12 110 "NamesInMouthsModel" "people" "I") ∈ UW := inR11 _ (List.mem_of_getElem? (i := 18) rfl)
theorem uw259 : (Cond.fieldLink RX12 129 "NamesInMouthsModel" "at" "I") ∈ UW := inR11 _ (List.mem_of_getElem? (i := 19) rfl)
theorem uw260 : (Cond.fieldLink RX12 132 "NamesInMouthsModel" "wrong" "I") ∈ UW := inR11 _ (List.mem_of_getElem? (i := 20) rfl)
theorem uw261 : (Cond.fieldLink RX12 165 "NamesInMouthsModel" "undoMany" "I") ∈ UW := inR11 _ (List.mem_of_getElem? (i := 21) rfl)
theorem uw262 : (Cond.fieldLink RX12 168 "NamesInMouthsModel" "came" "I") ∈ UW := inR11 _ (List.mem_of_getElem? (i := 22) rfl)
theorem uw263 : (Cond.methodLink RX12 159 yX12_beginText) ∈ UW := inR11 _ (List.mem_of_getElem? (i := 23) rfl)
theorem uw264 : (Cond.instanceMethod yX12_beginText) ∈ UW := inR12 _ (List.mem_of_getElem? (i := 0) rfl)
theorem uw265 : (Cond.selects RX12 yX12_beginText yX12_beginText) ∈ UW := inR12 _ (List.mem_of_getElem? (i := 1) rfl)
theorem uw266 : (Cond.code yX12_beginText cX12_beginText 2 none) ∈ UW := inR12 _ (List.mem_of_getElem? (i := 2) rfl)
theorem uw267 : (Cond.methodLink RX12 135 yX12_begin) ∈ UW := inR12 _ (List.mem_of_getElem? (i := 3) rfl)
theorem uw268 : (Cond.instanceMethod yX12_begin) ∈ UW := inR12 _ (List.mem_of_getElem? (i := 4) rfl)
theorem uw269 : (Cond.selects RX12 yX12_begin yX12_begin) ∈ UW := inR12 _ (List.mem_of_getElem? (i := 5) rfl)
theorem uw270 : (Cond.code yX12_begin cX12_begin 4 none) ∈ UW := inR12 _ (List.mem_of_getElem? (i := 6) rfl)
theorem uw271 : (Cond.fieldLink RX12 120 "NamesInMouthsModel" "read" "[B") ∈ UW := inR12 _ (List.mem_of_getElem? (i := 7) rfl)
theorem uw272 : (Cond.fieldLink RX12 126 "NamesInMouthsModel" "top" "I") ∈ UW := inR12 _ (List.mem_of_getElem? (i := 8) rfl)
theorem uw273 : (Cond.methodLink RX12 139 yX12_fine) ∈ UW := inR12 _ (List.mem_of_getElem? (i := 9) rfl)
theorem uw274 : (Cond.instanceMethod yX12_fine) ∈ UW := inR12 _ (List.mem_of_getElem? (i := 10) rfl)
theorem uw275 : (Cond.selects RX12 yX12_fine yX12_fine) ∈ UW := inR12 _ (List.mem_of_getElem? (i := 11) rfl)
theorem uw276 : (Cond.code yX12_fine cX12_fine 1 (some .boolean)) ∈ UW := inR12 _ (List.mem_of_getElem? (i := 12) rfl)
theorem uw277 : (Cond.methodLink RX12 151 yX12_fault) ∈ UW := inR12 _ (List.mem_of_getElem? (i := 13) rfl)
theorem uw278 : (Cond.instanceMethod yX12_fault) ∈ UW := inR12 _ (List.mem_of_getElem? (i := 14) rfl)
theorem uw279 : (Cond.selects RX12 yX12_fault yX12_fault) ∈ UW := inR12 _ (List.mem_of_getElem? (i := 15) rfl)
theorem uw280 : (Cond.code yX12_fault cX12_fault 2 none) ∈ UW := inR12 _ (List.mem_of_getElem? (i := 16) rfl)
theorem uw281 : (Cond.methodLink RX12 155 yX12_oneOf) ∈ UW := inR12 _ (List.mem_of_getElem? (i := 17) rfl)
theorem uw282 : (Cond.instanceMethod yX12_oneOf) ∈ UW := inR12 _ (List.mem_of_getElem? (i := 18) rfl)
theorem uw283 : (Cond.selects RX12 yX12_oneOf yX12_oneOf) ∈ UW := inR12 _ (List.mem_of_getElem? (i := 19) rfl)
theorem uw284 : (Cond.code yX12_oneOf cX12_oneOf 3 (some .int)) ∈ UW := inR12 _ (List.mem_of_getElem? (i := 20) rfl)
theorem uw285 : (Cond.methodLink RX12 143 yX12_here) ∈ UW := inR12 _ (List.mem_of_getElem? (i := 21) rfl)
theorem uw286 : (Cond.instanceMethod yX12_here) ∈ UW := inR12 _ (List.mem_of_getElem? (i := 22) rfl)
theorem uw287 : (Cond.selects RX12 yX12_here yX12_here) ∈ UW := inR12 _ (List.mem_of_getElem? (i := 23) rfl)
theorem uw288 : (Cond.code yX12_here cX12_here 1 (some .int)) ∈ UW := inR13 _ (List.mem_of_getElem? (i := 0) rfl)
theorem uw289 : (Cond.methodLink RX12 147 yX12_passes) ∈ UW := inR13 _ (List.mem_of_getElem? (i := 1) rfl)
theorem uw290 : (Cond.instanceMethod yX12_passes) ∈ UW := inR13 _ (List.mem_of_getElem? (i := 2) rfl)
theorem uw291 : (Cond.selects RX12 yX12_passes yX12_passes) ∈ UW := inR13 _ (List.mem_of_getElem? (i := 3) rfl)
theorem uw292 : (Cond.code yX12_passes cX12_passes 2 (some .boolean)) ∈ UW := inR13 _ (List.mem_of_getElem? (i := 4) rfl)
theorem uw293 : (Cond.methodLink RX12 162 yX12_wasRight) ∈ UW := inR13 _ (List.mem_of_getElem? (i := 5) rfl)
theorem uw294 : (Cond.instanceMethod yX12_wasRight) ∈ UW := inR13 _ (List.mem_of_getElem? (i := 6) rfl)
theorem uw295 : (Cond.selects RX12 yX12_wasRight yX12_wasRight) ∈ UW := inR13 _ (List.mem_of_getElem? (i := 7) rfl)
theorem uw296 : (Cond.code yX12_wasRight cX12_wasRight 1 (some .boolean)) ∈ UW := inR13 _ (List.mem_of_getElem? (i := 8) rfl)
theorem uw300 : (Cond.code yX11_rule cX11_rule 3 (some .int)) ∈ UW := inR13 _ (List.mem_of_getElem? (i := 12) rfl)
theorem uw301 : (Cond.methodLink RX11 113 yX6_reads) ∈ UW := inR13 _ (List.mem_of_getElem? (i := 13) rfl)
theorem uw302 : (Cond.instanceMethod yX6_reads) ∈ UW := inR13 _ (List.mem_of_getElem? (i := 14) rfl)
theorem uw303 : (Cond.selects RX6 yX6_reads yX6_reads) ∈ UW := inR13 _ (List.mem_of_getElem? (i := 15) rfl)
theorem uw304 : (Cond.code yX6_reads cX6_reads 4 (some .int)) ∈ UW := inR13 _ (List.mem_of_getElem? (i := 16) rfl)
theorem uw305 : (Cond.fieldLink RX6 9 "NamesInMouths$Text" "length" "I") ∈ UW := inR13 _ (List.mem_of_getElem? (i := 17) rfl)
theorem uw306 : (Cond.fieldLink RX6 20 "NamesInMouths$RuleReader" "text" "LNamesInMouths$Text;") ∈ UW := inR13 _ (List.mem_of_getElem? (i := 18) rfl)
theorem uw307 : (Cond.fieldLink RX6 26 "NamesInMouths$RuleReader" "rule" "LNamesInMouths$Rule;") ∈ UW := inR13 _ (List.mem_of_getElem? (i := 19) rfl)
theorem uw308 : (Cond.fieldLink RX6 30 "NamesInMouths$RuleReader" "at" "I") ∈ UW := inR13 _ (List.mem_of_getElem? (i := 20) rfl)
theorem uw309 : (Cond.fieldLink RX6 33 "NamesInMouths$Rule" "size" "I") ∈ UW := inR13 _ (List.mem_of_getElem? (i := 21) rfl)
theorem uw310 : (Cond.methodLink RX6 15 yX5_becomesNone) ∈ UW := inR13 _ (List.mem_of_getElem? (i := 22) rfl)
theorem uw311 : (Cond.methodLink RX6 36 yX6_readsComparison) ∈ UW := inR13 _ (List.mem_of_getElem? (i := 23) rfl)
theorem uw312 : (Cond.instanceMethod yX6_readsComparison) ∈ UW := inR14 _ (List.mem_of_getElem? (i := 0) rfl)
theorem uw313 : (Cond.selects RX6 yX6_readsComparison yX6_readsComparison) ∈ UW := inR14 _ (List.mem_of_getElem? (i := 1) rfl)
theorem uw314 : (Cond.code yX6_readsComparison cX6_readsComparison 3 (some .boolean)) ∈ UW := inR14 _ (List.mem_of_getElem? (i := 2) rfl)
theorem uw315 : (Cond.methodLink RX6 43 yX6_readsSum) ∈ UW := inR14 _ (List.mem_of_getElem? (i := 3) rfl)
theorem uw316 : (Cond.instanceMethod yX6_readsSum) ∈ UW := inR14 _ (List.mem_of_getElem? (i := 4) rfl)
theorem uw317 : (Cond.selects RX6 yX6_readsSum yX6_readsSum) ∈ UW := inR14 _ (List.mem_of_getElem? (i := 5) rfl)
theorem uw318 : (Cond.methodLink RX6 46 yX6_next) ∈ UW := inR14 _ (List.mem_of_getElem? (i := 6) rfl)
theorem uw319 : (Cond.instanceMethod yX6_next) ∈ UW := inR14 _ (List.mem_of_getElem? (i := 7) rfl)
theorem uw320 : (Cond.selects RX6 yX6_next yX6_next) ∈ UW := inR14 _ (List.mem_of_getElem? (i := 8) rfl)
theorem uw321 : (Cond.code yX6_next cX6_next 1 (some .int)) ∈ UW := inR14 _ (List.mem_of_getElem? (i := 9) rfl)
theorem uw322 : (Cond.methodLink RX6 40 yX8_at) ∈ UW := inR14 _ (List.mem_of_getElem? (i := 10) rfl)
theorem uw323 : (Cond.methodLink RX6 50 yX5_puts) ∈ UW := inR14 _ (List.mem_of_getElem? (i := 11) rfl)
theorem uw324 : (Cond.code yX6_readsBracket cX6_readsBracket 2 (some .boolean)) ∈ UW := inR14 _ (List.mem_of_getElem? (i := 12) rfl)
theorem uw325 : (Cond.code yX6_readsProduct cX6_readsProduct 5 (some .boolean)) ∈ UW := inR14 _ (List.mem_of_getElem? (i := 13) rfl)
theorem uw326 : (Cond.methodLink RX6 57 yX6_readsSigned) ∈ UW := inR14 _ (List.mem_of_getElem? (i := 14) rfl)
theorem uw327 : (Cond.instanceMethod yX6_readsSigned) ∈ UW := inR14 _ (List.mem_of_getElem? (i := 15) rfl)
theorem uw328 : (Cond.selects RX6 yX6_readsSigned yX6_readsSigned) ∈ UW := inR14 _ (List.mem_of_getElem? (i := 16) rfl)
theorem uw329 : (Cond.code yX6_readsSigned cX6_readsSigned 4 (some .boolean)) ∈ UW := inR14 _ (List.mem_of_getElem? (i := 17) rfl)
theorem uw330 : (Cond.methodLink RX6 60 yX6_readsThing) ∈ UW := inR14 _ (List.mem_of_getElem? (i := 18) rfl)
theorem uw331 : (Cond.instanceMethod yX6_readsThing) ∈ UW := inR14 _ (List.mem_of_getElem? (i := 19) rfl)
theorem uw332 : (Cond.selects RX6 yX6_readsThing yX6_readsThing) ∈ UW := inR14 _ (List.mem_of_getElem? (i := 20) rfl)
theorem uw333 : (Cond.code yX6_readsSum cX6_readsSum 5 (some .boolean)) ∈ UW := inR14 _ (List.mem_of_getElem? (i := 21) rfl)
theorem uw334 : (Cond.methodLink RX6 54 yX6_readsProduct) ∈ UW := inR14 _ (List.mem_of_getElem? (i := 22) rfl)
theorem uw335 : (Cond.instanceMethod yX6_readsProduct) ∈ UW := inR14 _ (List.mem_of_getElem? (i := 23) rfl)
theorem uw336 : (Cond.selects RX6 yX6_readsProduct yX6_readsProduct) ∈ UW := inR15 _ (List.mem_of_getElem? (i := 0) rfl)
theorem uw337 : (Cond.code yX6_readsThing cX6_readsThing 3 (some .boolean)) ∈ UW := inR15 _ (List.mem_of_getElem? (i := 1) rfl)
theorem uw338 : (Cond.methodLink RX6 63 yX6_readsBracket) ∈ UW := inR15 _ (List.mem_of_getElem? (i := 2) rfl)
theorem uw339 : (Cond.instanceMethod yX6_readsBracket) ∈ UW := inR15 _ (List.mem_of_getElem? (i := 3) rfl)
theorem uw340 : (Cond.selects RX6 yX6_readsBracket yX6_readsBracket) ∈ UW := inR15 _ (List.mem_of_getElem? (i := 4) rfl)
theorem uw341 : (Cond.methodLink RX6 66 yX6_readsNumber) ∈ UW := inR15 _ (List.mem_of_getElem? (i := 5) rfl)
theorem uw342 : (Cond.instanceMethod yX6_readsNumber) ∈ UW := inR15 _ (List.mem_of_getElem? (i := 6) rfl)
theorem uw343 : (Cond.selects RX6 yX6_readsNumber yX6_readsNumber) ∈ UW := inR15 _ (List.mem_of_getElem? (i := 7) rfl)
theorem uw344 : (Cond.code yX6_readsNumber cX6_readsNumber 4 (some .boolean)) ∈ UW := inR15 _ (List.mem_of_getElem? (i := 8) rfl)
theorem uw348 : (Cond.code yX12_rule cX12_rule 3 (some .int)) ∈ UW := inR15 _ (List.mem_of_getElem? (i := 12) rfl)
theorem uw349 : (Cond.fieldLink RX12 201 "NamesInMouthsModel" "ruleSize" "I") ∈ UW := inR15 _ (List.mem_of_getElem? (i := 13) rfl)
theorem uw350 : (Cond.methodLink RX12 198 yX12_readRule) ∈ UW := inR15 _ (List.mem_of_getElem? (i := 14) rfl)
theorem uw351 : (Cond.instanceMethod yX12_readRule) ∈ UW := inR15 _ (List.mem_of_getElem? (i := 15) rfl)
theorem uw352 : (Cond.selects RX12 yX12_readRule yX12_readRule) ∈ UW := inR15 _ (List.mem_of_getElem? (i := 16) rfl)
theorem uw353 : (Cond.code yX12_readRule cX12_readRule 1 (some .boolean)) ∈ UW := inR15 _ (List.mem_of_getElem? (i := 17) rfl)
theorem uw354 : (Cond.fieldLink RX12 194 "NamesInMouthsModel" "isAsked" "Z") ∈ UW := inR15 _ (List.mem_of_getElem? (i := 18) rfl)
theorem uw355 : (Cond.methodLink RX12 181 yX12_held) ∈ UW := inR15 _ (List.mem_of_getElem? (i := 19) rfl)
theorem uw356 : (Cond.instanceMethod yX12_held) ∈ UW := inR15 _ (List.mem_of_getElem? (i := 20) rfl)
theorem uw357 : (Cond.selects RX12 yX12_held yX12_held) ∈ UW := inR15 _ (List.mem_of_getElem? (i := 21) rfl)
theorem uw358 : (Cond.code yX12_held cX12_held 3 (some .int)) ∈ UW := inR15 _ (List.mem_of_getElem? (i := 22) rfl)
theorem uw359 : (Cond.methodLink RX12 171 yX12_sum) ∈ UW := inR15 _ (List.mem_of_getElem? (i := 23) rfl)
theorem uw360 : (Cond.instanceMethod yX12_sum) ∈ UW := inR16 _ (List.mem_of_getElem? (i := 0) rfl)
theorem uw361 : (Cond.selects RX12 yX12_sum yX12_sum) ∈ UW := inR16 _ (List.mem_of_getElem? (i := 1) rfl)
theorem uw362 : (Cond.code yX12_product cX12_product 5 (some .int)) ∈ UW := inR16 _ (List.mem_of_getElem? (i := 2) rfl)
theorem uw363 : (Cond.methodLink RX12 178 yX12_thing) ∈ UW := inR16 _ (List.mem_of_getElem? (i := 3) rfl)
theorem uw364 : (Cond.instanceMethod yX12_thing) ∈ UW := inR16 _ (List.mem_of_getElem? (i := 4) rfl)
theorem uw365 : (Cond.selects RX12 yX12_thing yX12_thing) ∈ UW := inR16 _ (List.mem_of_getElem? (i := 5) rfl)
theorem uw366 : (Cond.code yX12_sum cX12_sum 5 (some .int)) ∈ UW := inR16 _ (List.mem_of_getElem? (i := 6) rfl)
theorem uw367 : (Cond.methodLink RX12 175 yX12_product) ∈ UW := inR16 _ (List.mem_of_getElem? (i := 7) rfl)
theorem uw368 : (Cond.instanceMethod yX12_product) ∈ UW := inR16 _ (List.mem_of_getElem? (i := 8) rfl)
theorem uw369 : (Cond.selects RX12 yX12_product yX12_product) ∈ UW := inR16 _ (List.mem_of_getElem? (i := 9) rfl)
theorem uw370 : (Cond.code yX12_thing cX12_thing 4 (some .int)) ∈ UW := inR16 _ (List.mem_of_getElem? (i := 10) rfl)
theorem uw371 : (Cond.methodLink RX12 184 yX12_need) ∈ UW := inR16 _ (List.mem_of_getElem? (i := 11) rfl)
theorem uw372 : (Cond.instanceMethod yX12_need) ∈ UW := inR16 _ (List.mem_of_getElem? (i := 12) rfl)
theorem uw373 : (Cond.selects RX12 yX12_need yX12_need) ∈ UW := inR16 _ (List.mem_of_getElem? (i := 13) rfl)
theorem uw374 : (Cond.code yX12_need cX12_need 2 none) ∈ UW := inR16 _ (List.mem_of_getElem? (i := 14) rfl)
theorem uw375 : (Cond.methodLink RX12 188 yX12_number) ∈ UW := inR16 _ (List.mem_of_getElem? (i := 15) rfl)
theorem uw376 : (Cond.instanceMethod yX12_number) ∈ UW := inR16 _ (List.mem_of_getElem? (i := 16) rfl)
theorem uw377 : (Cond.selects RX12 yX12_number yX12_number) ∈ UW := inR16 _ (List.mem_of_getElem? (i := 17) rfl)
theorem uw378 : (Cond.code yX12_number cX12_number 4 (some .int)) ∈ UW := inR16 _ (List.mem_of_getElem? (i := 18) rfl)
theorem uw379 : (Cond.methodLink RX12 191 yX12_letterOf) ∈ UW := inR16 _ (List.mem_of_getElem? (i := 19) rfl)
theorem uw380 : (Cond.static yX12_letterOf) ∈ UW := inR16 _ (List.mem_of_getElem? (i := 20) rfl)
theorem uw381 : (Cond.code yX12_letterOf cX12_letterOf 1 (some .int)) ∈ UW := inR16 _ (List.mem_of_getElem? (i := 21) rfl)
theorem uw390 : (Cond.code yX11_one cX11_one 3 (some .int)) ∈ UW := inR17 _ (List.mem_of_getElem? (i := 6) rfl)
theorem uw393 : (Cond.fieldLink RX11 123 "NamesInMouths$Fen" "place" "[I") ∈ UW := inR17 _ (List.mem_of_getElem? (i := 9) rfl)
theorem uw394 : (Cond.fieldLink RX11 127 "NamesInMouths$Fen" "voice" "[I") ∈ UW := inR17 _ (List.mem_of_getElem? (i := 10) rfl)
theorem uw395 : (Cond.fieldLink RX11 130 "NamesInMouths$Fen" "purse" "[I") ∈ UW := inR17 _ (List.mem_of_getElem? (i := 11) rfl)
theorem uw396 : (Cond.methodLink RX11 117 yX2_has) ∈ UW := inR17 _ (List.mem_of_getElem? (i := 12) rfl)
theorem uw397 : (Cond.instanceMethod yX2_has) ∈ UW := inR17 _ (List.mem_of_getElem? (i := 13) rfl)
theorem uw398 : (Cond.selects RX2 yX2_has yX2_has) ∈ UW := inR17 _ (List.mem_of_getElem? (i := 14) rfl)
theorem uw399 : (Cond.code yX2_has cX2_has 2 (some .boolean)) ∈ UW := inR17 _ (List.mem_of_getElem? (i := 15) rfl)
theorem uw400 : (Cond.methodLink RX11 133 yX2_held) ∈ UW := inR17 _ (List.mem_of_getElem? (i := 16) rfl)
theorem uw401 : (Cond.instanceMethod yX2_held) ∈ UW := inR17 _ (List.mem_of_getElem? (i := 17) rfl)
theorem uw402 : (Cond.selects RX2 yX2_held yX2_held) ∈ UW := inR17 _ (List.mem_of_getElem? (i := 18) rfl)
theorem uw403 : (Cond.code yX2_held cX2_held 4 (some .int)) ∈ UW := inR17 _ (List.mem_of_getElem? (i := 19) rfl)
theorem uw404 : (Cond.methodLink RX11 137 yX2_sayable) ∈ UW := inR17 _ (List.mem_of_getElem? (i := 20) rfl)
theorem uw405 : (Cond.instanceMethod yX2_sayable) ∈ UW := inR17 _ (List.mem_of_getElem? (i := 21) rfl)
theorem uw406 : (Cond.selects RX2 yX2_sayable yX2_sayable) ∈ UW := inR17 _ (List.mem_of_getElem? (i := 22) rfl)
theorem uw407 : (Cond.code yX2_sayable cX2_sayable 5 (some .int)) ∈ UW := inR17 _ (List.mem_of_getElem? (i := 23) rfl)
theorem uw408 : (Cond.methodLink RX2 55 yX2_can) ∈ UW := inR18 _ (List.mem_of_getElem? (i := 0) rfl)
theorem uw409 : (Cond.instanceMethod yX2_can) ∈ UW := inR18 _ (List.mem_of_getElem? (i := 1) rfl)
theorem uw410 : (Cond.selects RX2 yX2_can yX2_can) ∈ UW := inR18 _ (List.mem_of_getElem? (i := 2) rfl)
theorem uw411 : (Cond.code yX2_can cX2_can 4 (some .boolean)) ∈ UW := inR18 _ (List.mem_of_getElem? (i := 3) rfl)
theorem uw412 : (Cond.methodLink RX2 49 yX5_worth) ∈ UW := inR18 _ (List.mem_of_getElem? (i := 4) rfl)
theorem uw413 : (Cond.instanceMethod yX5_worth) ∈ UW := inR18 _ (List.mem_of_getElem? (i := 5) rfl)
theorem uw414 : (Cond.selects RX5 yX5_worth yX5_worth) ∈ UW := inR18 _ (List.mem_of_getElem? (i := 6) rfl)
theorem uw415 : (Cond.code yX5_worth cX5_worth 7 (some .int)) ∈ UW := inR18 _ (List.mem_of_getElem? (i := 7) rfl)
theorem uw416 : (Cond.methodLink RX5 29 yX5_thing) ∈ UW := inR18 _ (List.mem_of_getElem? (i := 8) rfl)
theorem uw417 : (Cond.static yX5_thing) ∈ UW := inR18 _ (List.mem_of_getElem? (i := 9) rfl)
theorem uw418 : (Cond.code yX5_thing cX5_thing 5 (some .int)) ∈ UW := inR18 _ (List.mem_of_getElem? (i := 10) rfl)
theorem uw419 : (Cond.fieldLink RX5 37 "NamesInMouths$Fen" "holder" "[I") ∈ UW := inR18 _ (List.mem_of_getElem? (i := 11) rfl)
theorem uw420 : (Cond.fieldLink RX5 42 "NamesInMouths$Fen" "voice" "[I") ∈ UW := inR18 _ (List.mem_of_getElem? (i := 12) rfl)
theorem uw421 : (Cond.fieldLink RX5 45 "NamesInMouths$Fen" "place" "[I") ∈ UW := inR18 _ (List.mem_of_getElem? (i := 13) rfl)
theorem uw422 : (Cond.methodLink RX5 48 Lib.Math.abs.name) ∈ UW := inR18 _ (List.mem_of_getElem? (i := 14) rfl)
theorem uw423 : (Cond.static Lib.Math.abs.name) ∈ UW := inR18 _ (List.mem_of_getElem? (i := 15) rfl)
theorem uw424 : (Cond.code Lib.Math.abs.name Lib.Math.abs.code 1 (some .int)) ∈ UW := inR18 _ (List.mem_of_getElem? (i := 16) rfl)
theorem uw425 : (Cond.fieldLink RX5 62 "NamesInMouths$Fen" "age" "[I") ∈ UW := inR18 _ (List.mem_of_getElem? (i := 17) rfl)
theorem uw426 : (Cond.fieldLink RX5 65 "NamesInMouths$Fen" "day" "I") ∈ UW := inR18 _ (List.mem_of_getElem? (i := 18) rfl)
theorem uw427 : (Cond.methodLink RX5 54 yX2_held) ∈ UW := inR18 _ (List.mem_of_getElem? (i := 19) rfl)
theorem uw428 : (Cond.methodLink RX5 57 yJ6_bitCount_0f7a4) ∈ UW := inR18 _ (List.mem_of_getElem? (i := 20) rfl)
theorem uw429 : (Cond.static yJ6_bitCount_0f7a4) ∈ UW := inR18 _ (List.mem_of_getElem? (i := 21) rfl)
theorem uw430 : (Cond.initialized RJ6) ∈ UW := inR18 _ (List.mem_of_getElem? (i := 22) rfl)
theorem uw431 : (Cond.code yJ6_bitCount_0f7a4 cJ6_bitCount_0f7a4 1 (some .int)) ∈ UW := inR18 _ (List.mem_of_getElem? (i := 23) rfl)
theorem uw432 : (Cond.constant RJ6 265 (1431655765)) ∈ UW := inR19 _ (List.mem_of_getElem? (i := 0) rfl)
theorem uw433 : (Cond.constant RJ6 266 (858993459)) ∈ UW := inR19 _ (List.mem_of_getElem? (i := 1) rfl)
theorem uw434 : (Cond.constant RJ6 267 (252645135)) ∈ UW := inR19 _ (List.mem_of_getElem? (i := 2) rfl)
theorem uw435 : (Cond.methodLink RX5 33 yX5_joined) ∈ UW := inR19 _ (List.mem_of_getElem? (i := 3) rfl)
theorem uw436 : (Cond.static yX5_joined) ∈ UW := inR19 _ (List.mem_of_getElem? (i := 4) rfl)
theorem uw437 : (Cond.code yX5_joined cX5_joined 3 (some .int)) ∈ UW := inR19 _ (List.mem_of_getElem? (i := 5) rfl)
theorem uw441 : (Cond.code yX12_one cX12_one 3 (some .int)) ∈ UW := inR19 _ (List.mem_of_getElem? (i := 9) rfl)
theorem uw442 : (Cond.methodLink RX12 226 yX12_isOne) ∈ UW := inR19 _ (List.mem_of_getElem? (i := 10) rfl)
theorem uw443 : (Cond.instanceMethod yX12_isOne) ∈ UW := inR19 _ (List.mem_of_getElem? (i := 11) rfl)
theorem uw444 : (Cond.selects RX12 yX12_isOne yX12_isOne) ∈ UW := inR19 _ (List.mem_of_getElem? (i := 12) rfl)
theorem uw445 : (Cond.code yX12_isOne cX12_isOne 2 (some .boolean)) ∈ UW := inR19 _ (List.mem_of_getElem? (i := 13) rfl)
theorem uw446 : (Cond.methodLink RX12 230 yX12_lost) ∈ UW := inR19 _ (List.mem_of_getElem? (i := 14) rfl)
theorem uw447 : (Cond.instanceMethod yX12_lost) ∈ UW := inR19 _ (List.mem_of_getElem? (i := 15) rfl)
theorem uw448 : (Cond.selects RX12 yX12_lost yX12_lost) ∈ UW := inR19 _ (List.mem_of_getElem? (i := 16) rfl)
theorem uw449 : (Cond.code yX12_lost cX12_lost 1 (some .int)) ∈ UW := inR19 _ (List.mem_of_getElem? (i := 17) rfl)
theorem uw450 : (Cond.methodLink RX12 213 yX12_heldBy) ∈ UW := inR19 _ (List.mem_of_getElem? (i := 18) rfl)
theorem uw451 : (Cond.instanceMethod yX12_heldBy) ∈ UW := inR19 _ (List.mem_of_getElem? (i := 19) rfl)
theorem uw452 : (Cond.selects RX12 yX12_heldBy yX12_heldBy) ∈ UW := inR19 _ (List.mem_of_getElem? (i := 20) rfl)
theorem uw453 : (Cond.code yX12_heldBy cX12_heldBy 5 (some .int)) ∈ UW := inR19 _ (List.mem_of_getElem? (i := 21) rfl)
theorem uw454 : (Cond.methodLink RX12 233 yX12_sayable) ∈ UW := inR19 _ (List.mem_of_getElem? (i := 22) rfl)
theorem uw455 : (Cond.instanceMethod yX12_sayable) ∈ UW := inR19 _ (List.mem_of_getElem? (i := 23) rfl)
theorem uw456 : (Cond.selects RX12 yX12_sayable yX12_sayable) ∈ UW := inR20 _ (List.mem_of_getElem? (i := 0) rfl)
theorem uw457 : (Cond.code yX12_sayable cX12_sayable 5 (some .int)) ∈ UW := inR20 _ (List.mem_of_getElem? (i := 1) rfl)
theorem uw458 : (Cond.methodLink RX12 222 yX12_canSay) ∈ UW := inR20 _ (List.mem_of_getElem? (i := 2) rfl)
theorem uw459 : (Cond.instanceMethod yX12_canSay) ∈ UW := inR20 _ (List.mem_of_getElem? (i := 3) rfl)
theorem uw460 : (Cond.selects RX12 yX12_canSay yX12_canSay) ∈ UW := inR20 _ (List.mem_of_getElem? (i := 4) rfl)
theorem uw461 : (Cond.code yX12_canSay cX12_canSay 6 (some .boolean)) ∈ UW := inR20 _ (List.mem_of_getElem? (i := 5) rfl)
theorem uw462 : (Cond.methodLink RX12 209 yX12_farOf) ∈ UW := inR20 _ (List.mem_of_getElem? (i := 6) rfl)
theorem uw463 : (Cond.static yX12_farOf) ∈ UW := inR20 _ (List.mem_of_getElem? (i := 7) rfl)
theorem uw464 : (Cond.code yX12_farOf cX12_farOf 3 (some .int)) ∈ UW := inR20 _ (List.mem_of_getElem? (i := 8) rfl)
theorem uw465 : (Cond.methodLink RX12 204 Lib.Math.abs.name) ∈ UW := inR20 _ (List.mem_of_getElem? (i := 9) rfl)
theorem uw466 : (Cond.methodLink RX12 217 yJ6_bitCount_0f7a4) ∈ UW := inR20 _ (List.mem_of_getElem? (i := 10) rfl)
theorem uw470 : (Cond.code yX12_thrown cX12_thrown 1 (some .int)) ∈ UW := inR20 _ (List.mem_of_getElem? (i := 14) rfl)
theorem uw477 : (Cond.code yX11_name cX11_name 3 (some .int)) ∈ UW := inR20 _ (List.mem_of_getElem? (i := 21) rfl)
theorem uw478 : (Cond.fieldLink RX11 141 "NamesInMouths$Fen" "holder" "[I") ∈ UW := inR20 _ (List.mem_of_getElem? (i := 22) rfl)
theorem uw479 : (Cond.fieldLink RX11 144 "NamesInMouths$Fen" "age" "[I") ∈ UW := inR20 _ (List.mem_of_getElem? (i := 23) rfl)
theorem uw480 : (Cond.methodLink RX11 147 yX2_sayers) ∈ UW := inR21 _ (List.mem_of_getElem? (i := 0) rfl)
theorem uw481 : (Cond.instanceMethod yX2_sayers) ∈ UW := inR21 _ (List.mem_of_getElem? (i := 1) rfl)
theorem uw482 : (Cond.selects RX2 yX2_sayers yX2_sayers) ∈ UW := inR21 _ (List.mem_of_getElem? (i := 2) rfl)
theorem uw483 : (Cond.code yX2_sayers cX2_sayers 5 (some .int)) ∈ UW := inR21 _ (List.mem_of_getElem? (i := 3) rfl)
theorem uw484 : (Cond.methodLink RX11 150 yX2_far) ∈ UW := inR21 _ (List.mem_of_getElem? (i := 4) rfl)
theorem uw485 : (Cond.instanceMethod yX2_far) ∈ UW := inR21 _ (List.mem_of_getElem? (i := 5) rfl)
theorem uw486 : (Cond.selects RX2 yX2_far yX2_far) ∈ UW := inR21 _ (List.mem_of_getElem? (i := 6) rfl)
theorem uw487 : (Cond.code yX2_far cX2_far 3 (some .int)) ∈ UW := inR21 _ (List.mem_of_getElem? (i := 7) rfl)
theorem uw488 : (Cond.methodLink RX2 43 Lib.Math.abs.name) ∈ UW := inR21 _ (List.mem_of_getElem? (i := 8) rfl)
theorem uw492 : (Cond.code yX12_name cX12_name 3 (some .int)) ∈ UW := inR21 _ (List.mem_of_getElem? (i := 12) rfl)
theorem uw493 : (Cond.methodLink RX12 236 yX12_sayers) ∈ UW := inR21 _ (List.mem_of_getElem? (i := 13) rfl)
theorem uw494 : (Cond.instanceMethod yX12_sayers) ∈ UW := inR21 _ (List.mem_of_getElem? (i := 14) rfl)
theorem uw495 : (Cond.selects RX12 yX12_sayers yX12_sayers) ∈ UW := inR21 _ (List.mem_of_getElem? (i := 15) rfl)
theorem uw496 : (Cond.code yX12_sayers cX12_sayers 4 (some .int)) ∈ UW := inR21 _ (List.mem_of_getElem? (i := 16) rfl)
theorem uw500 : (Cond.code yX11_sheet cX11_sheet 5 (some .int)) ∈ UW := inR21 _ (List.mem_of_getElem? (i := 20) rfl)
theorem uw501 : (Cond.methodLink RX11 154 yX11_fillPurses) ∈ UW := inR21 _ (List.mem_of_getElem? (i := 21) rfl)
theorem uw502 : (Cond.instanceMethod yX11_fillPurses) ∈ UW := inR21 _ (List.mem_of_getElem? (i := 22) rfl)
theorem uw503 : (Cond.selects RX11 yX11_fillPurses yX11_fillPurses) ∈ UW := inR21 _ (List.mem_of_getElem? (i := 23) rfl)
theorem uw504 : (Cond.code yX11_fillPurses cX11_fillPurses 7 none) ∈ UW := inR22 _ (List.mem_of_getElem? (i := 0) rfl)
theorem uw505 : (Cond.methodLink RX11 327 Lib.Math.max.name) ∈ UW := inR22 _ (List.mem_of_getElem? (i := 1) rfl)
theorem uw506 : (Cond.static Lib.Math.max.name) ∈ UW := inR22 _ (List.mem_of_getElem? (i := 2) rfl)
theorem uw507 : (Cond.code Lib.Math.max.name Lib.Math.max.code 2 (some .int)) ∈ UW := inR22 _ (List.mem_of_getElem? (i := 3) rfl)
theorem uw508 : (Cond.methodLink RX11 158 yX2_purses) ∈ UW := inR22 _ (List.mem_of_getElem? (i := 4) rfl)
theorem uw509 : (Cond.instanceMethod yX2_purses) ∈ UW := inR22 _ (List.mem_of_getElem? (i := 5) rfl)
theorem uw510 : (Cond.selects RX2 yX2_purses yX2_purses) ∈ UW := inR22 _ (List.mem_of_getElem? (i := 6) rfl)
theorem uw511 : (Cond.code yX2_purses cX2_purses 1 (some .int)) ∈ UW := inR22 _ (List.mem_of_getElem? (i := 7) rfl)
theorem uw512 : (Cond.methodLink RX2 68 yX2_sum) ∈ UW := inR22 _ (List.mem_of_getElem? (i := 8) rfl)
theorem uw513 : (Cond.instanceMethod yX2_sum) ∈ UW := inR22 _ (List.mem_of_getElem? (i := 9) rfl)
theorem uw514 : (Cond.selects RX2 yX2_sum yX2_sum) ∈ UW := inR22 _ (List.mem_of_getElem? (i := 10) rfl)
theorem uw515 : (Cond.code yX2_sum cX2_sum 4 (some .int)) ∈ UW := inR22 _ (List.mem_of_getElem? (i := 11) rfl)
theorem uw519 : (Cond.code yX12_sheet cX12_sheet 8 (some .int)) ∈ UW := inR22 _ (List.mem_of_getElem? (i := 15) rfl)
theorem uw520 : (Cond.methodLink RX12 239 Lib.Math.min.name) ∈ UW := inR22 _ (List.mem_of_getElem? (i := 16) rfl)
theorem uw521 : (Cond.methodLink RX12 243 Lib.Math.max.name) ∈ UW := inR22 _ (List.mem_of_getElem? (i := 17) rfl)
theorem uw522 : (Cond.methodLink RX12 246 yX12_sumOf) ∈ UW := inR22 _ (List.mem_of_getElem? (i := 18) rfl)
theorem uw523 : (Cond.instanceMethod yX12_sumOf) ∈ UW := inR22 _ (List.mem_of_getElem? (i := 19) rfl)
theorem uw524 : (Cond.selects RX12 yX12_sumOf yX12_sumOf) ∈ UW := inR22 _ (List.mem_of_getElem? (i := 20) rfl)
theorem uw525 : (Cond.code yX12_sumOf cX12_sumOf 5 (some .int)) ∈ UW := inR22 _ (List.mem_of_getElem? (i := 21) rfl)
theorem uw529 : (Cond.code yX11_says cX11_says 3 (some .int)) ∈ UW := inR23 _ (List.mem_of_getElem? (i := 1) rfl)
theorem uw530 : (Cond.methodLink RX11 161 yX3_marks) ∈ UW := inR23 _ (List.mem_of_getElem? (i := 2) rfl)
theorem uw531 : (Cond.instanceMethod yX3_marks) ∈ UW := inR23 _ (List.mem_of_getElem? (i := 3) rfl)
theorem uw532 : (Cond.selects RX3 yX3_marks yX3_marks) ∈ UW := inR23 _ (List.mem_of_getElem? (i := 4) rfl)
theorem uw533 : (Cond.code yX3_marks cX3_marks 2 none) ∈ UW := inR23 _ (List.mem_of_getElem? (i := 5) rfl)
theorem uw534 : (Cond.fieldLink RX3 15 "NamesInMouths$Past" "free" "I") ∈ UW := inR23 _ (List.mem_of_getElem? (i := 6) rfl)
theorem uw535 : (Cond.methodLink RX3 19 yX2_writes) ∈ UW := inR23 _ (List.mem_of_getElem? (i := 7) rfl)
theorem uw536 : (Cond.instanceMethod yX2_writes) ∈ UW := inR23 _ (List.mem_of_getElem? (i := 8) rfl)
theorem uw537 : (Cond.selects RX2 yX2_writes yX2_writes) ∈ UW := inR23 _ (List.mem_of_getElem? (i := 9) rfl)
theorem uw538 : (Cond.code yX2_writes cX2_writes 3 none) ∈ UW := inR23 _ (List.mem_of_getElem? (i := 10) rfl)
theorem uw539 : (Cond.methodLink RX2 31 arraycopyName) ∈ UW := inR23 _ (List.mem_of_getElem? (i := 11) rfl)
theorem uw540 : (Cond.native arraycopyName) ∈ UW := inR23 _ (List.mem_of_getElem? (i := 12) rfl)
theorem uw541 : (Cond.static arraycopyName) ∈ UW := inR23 _ (List.mem_of_getElem? (i := 13) rfl)
theorem uw542 : (Cond.initialized "java/lang/System") ∈ UW := inR23 _ (List.mem_of_getElem? (i := 14) rfl)
theorem uw543 : (Cond.fieldLink RX2 37 "NamesInMouths$Fen" "day" "I") ∈ UW := inR23 _ (List.mem_of_getElem? (i := 15) rfl)
theorem uw544 : (Cond.fieldLink RX2 40 "NamesInMouths$Fen" "said" "I") ∈ UW := inR23 _ (List.mem_of_getElem? (i := 16) rfl)
theorem uw545 : (Cond.methodLink RX11 165 yX2_saidBy) ∈ UW := inR23 _ (List.mem_of_getElem? (i := 17) rfl)
theorem uw546 : (Cond.instanceMethod yX2_saidBy) ∈ UW := inR23 _ (List.mem_of_getElem? (i := 18) rfl)
theorem uw547 : (Cond.selects RX2 yX2_saidBy yX2_saidBy) ∈ UW := inR23 _ (List.mem_of_getElem? (i := 19) rfl)
theorem uw548 : (Cond.code yX2_saidBy cX2_saidBy 5 (some .int)) ∈ UW := inR23 _ (List.mem_of_getElem? (i := 20) rfl)
theorem uw549 : (Cond.methodLink RX2 76 yX2_has) ∈ UW := inR23 _ (List.mem_of_getElem? (i := 21) rfl)
theorem uw550 : (Cond.methodLink RX2 80 yX2_say) ∈ UW := inR23 _ (List.mem_of_getElem? (i := 22) rfl)
theorem uw551 : (Cond.instanceMethod yX2_say) ∈ UW := inR23 _ (List.mem_of_getElem? (i := 23) rfl)
theorem uw552 : (Cond.selects RX2 yX2_say yX2_say) ∈ UW := inR24 _ (List.mem_of_getElem? (i := 0) rfl)
theorem uw553 : (Cond.code yX2_say cX2_say 3 none) ∈ UW := inR24 _ (List.mem_of_getElem? (i := 1) rfl)
theorem uw554 : (Cond.methodLink RX2 72 Lib.Math.min.name) ∈ UW := inR24 _ (List.mem_of_getElem? (i := 2) rfl)
theorem uw555 : (Cond.methodLink RX11 169 yX11_keepDone) ∈ UW := inR24 _ (List.mem_of_getElem? (i := 3) rfl)
theorem uw556 : (Cond.instanceMethod yX11_keepDone) ∈ UW := inR24 _ (List.mem_of_getElem? (i := 4) rfl)
theorem uw557 : (Cond.selects RX11 yX11_keepDone yX11_keepDone) ∈ UW := inR24 _ (List.mem_of_getElem? (i := 5) rfl)
theorem uw558 : (Cond.code yX11_keepDone cX11_keepDone 2 (some .int)) ∈ UW := inR24 _ (List.mem_of_getElem? (i := 6) rfl)
theorem uw559 : (Cond.methodLink RX11 188 yX3_keepMarked) ∈ UW := inR24 _ (List.mem_of_getElem? (i := 7) rfl)
theorem uw560 : (Cond.instanceMethod yX3_keepMarked) ∈ UW := inR24 _ (List.mem_of_getElem? (i := 8) rfl)
theorem uw561 : (Cond.selects RX3 yX3_keepMarked yX3_keepMarked) ∈ UW := inR24 _ (List.mem_of_getElem? (i := 9) rfl)
theorem uw562 : (Cond.code yX3_keepMarked cX3_keepMarked 1 none) ∈ UW := inR24 _ (List.mem_of_getElem? (i := 10) rfl)
theorem uw563 : (Cond.methodLink RX3 26 Lib.Math.min.name) ∈ UW := inR24 _ (List.mem_of_getElem? (i := 11) rfl)
theorem uw567 : (Cond.code yX12_says cX12_says 5 (some .int)) ∈ UW := inR24 _ (List.mem_of_getElem? (i := 15) rfl)
theorem uw568 : (Cond.methodLink RX12 253 yX12_refusesSaying) ∈ UW := inR24 _ (List.mem_of_getElem? (i := 16) rfl)
theorem uw569 : (Cond.instanceMethod yX12_refusesSaying) ∈ UW := inR24 _ (List.mem_of_getElem? (i := 17) rfl)
theorem uw570 : (Cond.selects RX12 yX12_refusesSaying yX12_refusesSaying) ∈ UW := inR24 _ (List.mem_of_getElem? (i := 18) rfl)
theorem uw571 : (Cond.code yX12_refusesSaying cX12_refusesSaying 4 (some .int)) ∈ UW := inR24 _ (List.mem_of_getElem? (i := 19) rfl)
theorem uw572 : (Cond.methodLink RX12 256 yX12_remember) ∈ UW := inR24 _ (List.mem_of_getElem? (i := 20) rfl)
theorem uw573 : (Cond.instanceMethod yX12_remember) ∈ UW := inR24 _ (List.mem_of_getElem? (i := 21) rfl)
theorem uw574 : (Cond.selects RX12 yX12_remember yX12_remember) ∈ UW := inR24 _ (List.mem_of_getElem? (i := 22) rfl)
theorem uw575 : (Cond.code yX12_remember cX12_remember 3 none) ∈ UW := inR24 _ (List.mem_of_getElem? (i := 23) rfl)
theorem uw576 : (Cond.methodLink RX12 249 yX12_lay) ∈ UW := inR25 _ (List.mem_of_getElem? (i := 0) rfl)
theorem uw577 : (Cond.static yX12_lay) ∈ UW := inR25 _ (List.mem_of_getElem? (i := 1) rfl)
theorem uw578 : (Cond.code yX12_lay cX12_lay 4 none) ∈ UW := inR25 _ (List.mem_of_getElem? (i := 2) rfl)
theorem uw579 : (Cond.methodLink RX12 260 yX12_goSaying) ∈ UW := inR25 _ (List.mem_of_getElem? (i := 3) rfl)
theorem uw580 : (Cond.static yX12_goSaying) ∈ UW := inR25 _ (List.mem_of_getElem? (i := 4) rfl)
theorem uw581 : (Cond.code yX12_goSaying cX12_goSaying 3 none) ∈ UW := inR25 _ (List.mem_of_getElem? (i := 5) rfl)
theorem uw585 : (Cond.code yX11_signs cX11_signs 3 (some .int)) ∈ UW := inR25 _ (List.mem_of_getElem? (i := 9) rfl)
theorem uw586 : (Cond.methodLink RX11 172 yX2_signedFor) ∈ UW := inR25 _ (List.mem_of_getElem? (i := 10) rfl)
theorem uw587 : (Cond.instanceMethod yX2_signedFor) ∈ UW := inR25 _ (List.mem_of_getElem? (i := 11) rfl)
theorem uw588 : (Cond.selects RX2 yX2_signedFor yX2_signedFor) ∈ UW := inR25 _ (List.mem_of_getElem? (i := 12) rfl)
theorem uw589 : (Cond.code yX2_signedFor cX2_signedFor 4 (some .int)) ∈ UW := inR25 _ (List.mem_of_getElem? (i := 13) rfl)
theorem uw593 : (Cond.code yX12_signs cX12_signs 4 (some .int)) ∈ UW := inR25 _ (List.mem_of_getElem? (i := 17) rfl)
theorem uw594 : (Cond.methodLink RX12 264 yX12_refusesDeed) ∈ UW := inR25 _ (List.mem_of_getElem? (i := 18) rfl)
theorem uw595 : (Cond.instanceMethod yX12_refusesDeed) ∈ UW := inR25 _ (List.mem_of_getElem? (i := 19) rfl)
theorem uw596 : (Cond.selects RX12 yX12_refusesDeed yX12_refusesDeed) ∈ UW := inR25 _ (List.mem_of_getElem? (i := 20) rfl)
theorem uw597 : (Cond.code yX12_refusesDeed cX12_refusesDeed 4 (some .int)) ∈ UW := inR25 _ (List.mem_of_getElem? (i := 21) rfl)
theorem uw598 : (Cond.methodLink RX12 267 yX12_goDeed) ∈ UW := inR25 _ (List.mem_of_getElem? (i := 22) rfl)
theorem uw599 : (Cond.instanceMethod yX12_goDeed) ∈ UW := inR25 _ (List.mem_of_getElem? (i := 23) rfl)
theorem uw600 : (Cond.selects RX12 yX12_goDeed yX12_goDeed) ∈ UW := inR26 _ (List.mem_of_getElem? (i := 0) rfl)
theorem uw601 : (Cond.code yX12_goDeed cX12_goDeed 4 (some .int)) ∈ UW := inR26 _ (List.mem_of_getElem? (i := 1) rfl)
theorem uw605 : (Cond.code yX11_moves cX11_moves 3 (some .int)) ∈ UW := inR26 _ (List.mem_of_getElem? (i := 5) rfl)
theorem uw606 : (Cond.methodLink RX11 175 yX2_movedTo) ∈ UW := inR26 _ (List.mem_of_getElem? (i := 6) rfl)
theorem uw607 : (Cond.instanceMethod yX2_movedTo) ∈ UW := inR26 _ (List.mem_of_getElem? (i := 7) rfl)
theorem uw608 : (Cond.selects RX2 yX2_movedTo yX2_movedTo) ∈ UW := inR26 _ (List.mem_of_getElem? (i := 8) rfl)
theorem uw609 : (Cond.code yX2_movedTo cX2_movedTo 4 (some .int)) ∈ UW := inR26 _ (List.mem_of_getElem? (i := 9) rfl)
theorem uw613 : (Cond.code yX12_moves cX12_moves 5 (some .int)) ∈ UW := inR26 _ (List.mem_of_getElem? (i := 13) rfl)
theorem uw614 : (Cond.methodLink RX12 270 yX12_refusesMove) ∈ UW := inR26 _ (List.mem_of_getElem? (i := 14) rfl)
theorem uw615 : (Cond.instanceMethod yX12_refusesMove) ∈ UW := inR26 _ (List.mem_of_getElem? (i := 15) rfl)
theorem uw616 : (Cond.selects RX12 yX12_refusesMove yX12_refusesMove) ∈ UW := inR26 _ (List.mem_of_getElem? (i := 16) rfl)
theorem uw617 : (Cond.code yX12_refusesMove cX12_refusesMove 4 (some .int)) ∈ UW := inR26 _ (List.mem_of_getElem? (i := 17) rfl)
theorem uw621 : (Cond.code yX11_calls cX11_calls 2 (some .int)) ∈ UW := inR26 _ (List.mem_of_getElem? (i := 21) rfl)
theorem uw622 : (Cond.methodLink RX11 178 yX2_rollCalled) ∈ UW := inR26 _ (List.mem_of_getElem? (i := 22) rfl)
theorem uw623 : (Cond.instanceMethod yX2_rollCalled) ∈ UW := inR26 _ (List.mem_of_getElem? (i := 23) rfl)
theorem uw624 : (Cond.selects RX2 yX2_rollCalled yX2_rollCalled) ∈ UW := inR27 _ (List.mem_of_getElem? (i := 0) rfl)
theorem uw625 : (Cond.code yX2_rollCalled cX2_rollCalled 5 (some .int)) ∈ UW := inR27 _ (List.mem_of_getElem? (i := 1) rfl)
theorem uw629 : (Cond.code yX12_calls cX12_calls 3 (some .int)) ∈ UW := inR27 _ (List.mem_of_getElem? (i := 5) rfl)
theorem uw630 : (Cond.methodLink RX12 276 yX12_refusesRoll) ∈ UW := inR27 _ (List.mem_of_getElem? (i := 6) rfl)
theorem uw631 : (Cond.instanceMethod yX12_refusesRoll) ∈ UW := inR27 _ (List.mem_of_getElem? (i := 7) rfl)
theorem uw632 : (Cond.selects RX12 yX12_refusesRoll yX12_refusesRoll) ∈ UW := inR27 _ (List.mem_of_getElem? (i := 8) rfl)
theorem uw633 : (Cond.code yX12_refusesRoll cX12_refusesRoll 2 (some .int)) ∈ UW := inR27 _ (List.mem_of_getElem? (i := 9) rfl)
theorem uw634 : (Cond.methodLink RX12 273 yX12_goRoll) ∈ UW := inR27 _ (List.mem_of_getElem? (i := 10) rfl)
theorem uw635 : (Cond.instanceMethod yX12_goRoll) ∈ UW := inR27 _ (List.mem_of_getElem? (i := 11) rfl)
theorem uw636 : (Cond.selects RX12 yX12_goRoll yX12_goRoll) ∈ UW := inR27 _ (List.mem_of_getElem? (i := 12) rfl)
theorem uw637 : (Cond.code yX12_goRoll cX12_goRoll 5 (some .int)) ∈ UW := inR27 _ (List.mem_of_getElem? (i := 13) rfl)
theorem uw641 : (Cond.code yX11_days cX11_days 3 (some .int)) ∈ UW := inR27 _ (List.mem_of_getElem? (i := 17) rfl)
theorem uw642 : (Cond.fieldLink RX11 181 "NamesInMouths$Fen" "said" "I") ∈ UW := inR27 _ (List.mem_of_getElem? (i := 18) rfl)
theorem uw643 : (Cond.methodLink RX11 184 yX2_passDays) ∈ UW := inR27 _ (List.mem_of_getElem? (i := 19) rfl)
theorem uw644 : (Cond.instanceMethod yX2_passDays) ∈ UW := inR27 _ (List.mem_of_getElem? (i := 20) rfl)
theorem uw645 : (Cond.selects RX2 yX2_passDays yX2_passDays) ∈ UW := inR27 _ (List.mem_of_getElem? (i := 21) rfl)
theorem uw646 : (Cond.code yX2_passDays cX2_passDays 5 none) ∈ UW := inR27 _ (List.mem_of_getElem? (i := 22) rfl)
theorem uw647 : (Cond.methodLink RX2 84 yX2_passDay) ∈ UW := inR27 _ (List.mem_of_getElem? (i := 23) rfl)
theorem uw648 : (Cond.instanceMethod yX2_passDay) ∈ UW := inR28 _ (List.mem_of_getElem? (i := 0) rfl)
theorem uw649 : (Cond.selects RX2 yX2_passDay yX2_passDay) ∈ UW := inR28 _ (List.mem_of_getElem? (i := 1) rfl)
theorem uw650 : (Cond.code yX2_passDay cX2_passDay 5 none) ∈ UW := inR28 _ (List.mem_of_getElem? (i := 2) rfl)
theorem uw651 : (Cond.methodLink RX11 191 yX9_tells_) ∈ UW := inR28 _ (List.mem_of_getElem? (i := 3) rfl)
theorem uw652 : (Cond.instanceMethod yX9_tells_) ∈ UW := inR28 _ (List.mem_of_getElem? (i := 4) rfl)
theorem uw653 : (Cond.selects RX9 yX9_tells_ yX9_tells_) ∈ UW := inR28 _ (List.mem_of_getElem? (i := 5) rfl)
theorem uw654 : (Cond.code yX9_tells_ cX9_tells_ 5 none) ∈ UW := inR28 _ (List.mem_of_getElem? (i := 6) rfl)
theorem uw655 : (Cond.fieldLink RX9 15 "NamesInMouths$Told" "size" "I") ∈ UW := inR28 _ (List.mem_of_getElem? (i := 7) rfl)
theorem uw656 : (Cond.methodLink RX9 19 yX9_adds) ∈ UW := inR28 _ (List.mem_of_getElem? (i := 8) rfl)
theorem uw657 : (Cond.instanceMethod yX9_adds) ∈ UW := inR28 _ (List.mem_of_getElem? (i := 9) rfl)
theorem uw658 : (Cond.selects RX9 yX9_adds yX9_adds) ∈ UW := inR28 _ (List.mem_of_getElem? (i := 10) rfl)
theorem uw659 : (Cond.code yX9_adds cX9_adds 3 none) ∈ UW := inR28 _ (List.mem_of_getElem? (i := 11) rfl)
theorem uw660 : (Cond.methodLink RX11 195 yX2_homes) ∈ UW := inR28 _ (List.mem_of_getElem? (i := 12) rfl)
theorem uw661 : (Cond.instanceMethod yX2_homes) ∈ UW := inR28 _ (List.mem_of_getElem? (i := 13) rfl)
theorem uw662 : (Cond.selects RX2 yX2_homes yX2_homes) ∈ UW := inR28 _ (List.mem_of_getElem? (i := 14) rfl)
theorem uw663 : (Cond.code yX2_homes cX2_homes 3 (some .int)) ∈ UW := inR28 _ (List.mem_of_getElem? (i := 15) rfl)
theorem uw667 : (Cond.code yX12_days cX12_days 3 (some .int)) ∈ UW := inR28 _ (List.mem_of_getElem? (i := 19) rfl)
theorem uw668 : (Cond.fieldLink RX12 107 "NamesInMouthsModel" "rowMany" "I") ∈ UW := inR28 _ (List.mem_of_getElem? (i := 20) rfl)
theorem uw669 : (Cond.methodLink RX12 283 yX12_goDays) ∈ UW := inR28 _ (List.mem_of_getElem? (i := 21) rfl)
theorem uw670 : (Cond.instanceMethod yX12_goDays) ∈ UW := inR28 _ (List.mem_of_getElem? (i := 22) rfl)
theorem uw671 : (Cond.selects RX12 yX12_goDays yX12_goDays) ∈ UW := inR28 _ (List.mem_of_getElem? (i := 23) rfl)
theorem uw672 : (Cond.code yX12_goDays cX12_goDays 5 none) ∈ UW := inR29 _ (List.mem_of_getElem? (i := 0) rfl)
theorem uw673 : (Cond.methodLink RX12 279 yX12_goDay) ∈ UW := inR29 _ (List.mem_of_getElem? (i := 1) rfl)
theorem uw674 : (Cond.instanceMethod yX12_goDay) ∈ UW := inR29 _ (List.mem_of_getElem? (i := 2) rfl)
theorem uw675 : (Cond.selects RX12 yX12_goDay yX12_goDay) ∈ UW := inR29 _ (List.mem_of_getElem? (i := 3) rfl)
theorem uw676 : (Cond.code yX12_goDay cX12_goDay 5 none) ∈ UW := inR29 _ (List.mem_of_getElem? (i := 4) rfl)
theorem uw677 : (Cond.methodLink RX12 286 yX12_tell) ∈ UW := inR29 _ (List.mem_of_getElem? (i := 5) rfl)
theorem uw678 : (Cond.instanceMethod yX12_tell) ∈ UW := inR29 _ (List.mem_of_getElem? (i := 6) rfl)
theorem uw679 : (Cond.selects RX12 yX12_tell yX12_tell) ∈ UW := inR29 _ (List.mem_of_getElem? (i := 7) rfl)
theorem uw680 : (Cond.code yX12_tell cX12_tell 3 none) ∈ UW := inR29 _ (List.mem_of_getElem? (i := 8) rfl)
theorem uw681 : (Cond.methodLink RX12 290 yX12_atHome) ∈ UW := inR29 _ (List.mem_of_getElem? (i := 9) rfl)
theorem uw682 : (Cond.instanceMethod yX12_atHome) ∈ UW := inR29 _ (List.mem_of_getElem? (i := 10) rfl)
theorem uw683 : (Cond.selects RX12 yX12_atHome yX12_atHome) ∈ UW := inR29 _ (List.mem_of_getElem? (i := 11) rfl)
theorem uw684 : (Cond.code yX12_atHome cX12_atHome 4 (some .int)) ∈ UW := inR29 _ (List.mem_of_getElem? (i := 12) rfl)
theorem uw688 : (Cond.code yX11_week cX11_week 5 (some .int)) ∈ UW := inR29 _ (List.mem_of_getElem? (i := 16) rfl)
theorem uw689 : (Cond.methodLink RX11 198 yX11_weekWrongAt) ∈ UW := inR29 _ (List.mem_of_getElem? (i := 17) rfl)
theorem uw690 : (Cond.instanceMethod yX11_weekWrongAt) ∈ UW := inR29 _ (List.mem_of_getElem? (i := 18) rfl)
theorem uw691 : (Cond.selects RX11 yX11_weekWrongAt yX11_weekWrongAt) ∈ UW := inR29 _ (List.mem_of_getElem? (i := 19) rfl)
theorem uw692 : (Cond.code yX11_weekWrongAt cX11_weekWrongAt 4 (some .int)) ∈ UW := inR29 _ (List.mem_of_getElem? (i := 20) rfl)
theorem uw693 : (Cond.methodLink RX11 207 yX11_actDigits) ∈ UW := inR29 _ (List.mem_of_getElem? (i := 21) rfl)
theorem uw694 : (Cond.static yX11_actDigits) ∈ UW := inR29 _ (List.mem_of_getElem? (i := 22) rfl)
theorem uw695 : (Cond.code yX11_actDigits cX11_actDigits 1 (some .int)) ∈ UW := inR29 _ (List.mem_of_getElem? (i := 23) rfl)
theorem uw696 : (Cond.methodLink RX11 201 yX11_act) ∈ UW := inR30 _ (List.mem_of_getElem? (i := 0) rfl)
theorem uw697 : (Cond.instanceMethod yX11_act) ∈ UW := inR30 _ (List.mem_of_getElem? (i := 1) rfl)
theorem uw698 : (Cond.selects RX11 yX11_act yX11_act) ∈ UW := inR30 _ (List.mem_of_getElem? (i := 2) rfl)
theorem uw699 : (Cond.code yX11_act cX11_act 3 (some .int)) ∈ UW := inR30 _ (List.mem_of_getElem? (i := 3) rfl)
theorem uw703 : (Cond.code yX12_week cX12_week 3 (some .int)) ∈ UW := inR30 _ (List.mem_of_getElem? (i := 7) rfl)
theorem uw704 : (Cond.methodLink RX12 294 yX12_readAct) ∈ UW := inR30 _ (List.mem_of_getElem? (i := 8) rfl)
theorem uw705 : (Cond.instanceMethod yX12_readAct) ∈ UW := inR30 _ (List.mem_of_getElem? (i := 9) rfl)
theorem uw706 : (Cond.selects RX12 yX12_readAct yX12_readAct) ∈ UW := inR30 _ (List.mem_of_getElem? (i := 10) rfl)
theorem uw707 : (Cond.code yX12_readAct cX12_readAct 3 none) ∈ UW := inR30 _ (List.mem_of_getElem? (i := 11) rfl)
theorem uw708 : (Cond.methodLink RX12 297 yX12_act) ∈ UW := inR30 _ (List.mem_of_getElem? (i := 12) rfl)
theorem uw709 : (Cond.instanceMethod yX12_act) ∈ UW := inR30 _ (List.mem_of_getElem? (i := 13) rfl)
theorem uw710 : (Cond.selects RX12 yX12_act yX12_act) ∈ UW := inR30 _ (List.mem_of_getElem? (i := 14) rfl)
theorem uw711 : (Cond.code yX12_act cX12_act 4 (some .boolean)) ∈ UW := inR30 _ (List.mem_of_getElem? (i := 15) rfl)
theorem uw715 : (Cond.code yX11_undo cX11_undo 1 (some .int)) ∈ UW := inR30 _ (List.mem_of_getElem? (i := 19) rfl)
theorem uw716 : (Cond.fieldLink RX11 214 "NamesInMouths$Past" "size" "I") ∈ UW := inR30 _ (List.mem_of_getElem? (i := 20) rfl)
theorem uw717 : (Cond.methodLink RX11 210 yX3_bringsBack) ∈ UW := inR30 _ (List.mem_of_getElem? (i := 21) rfl)
theorem uw718 : (Cond.instanceMethod yX3_bringsBack) ∈ UW := inR30 _ (List.mem_of_getElem? (i := 22) rfl)
theorem uw719 : (Cond.selects RX3 yX3_bringsBack yX3_bringsBack) ∈ UW := inR30 _ (List.mem_of_getElem? (i := 23) rfl)
theorem uw720 : (Cond.code yX3_bringsBack cX3_bringsBack 2 (some .boolean)) ∈ UW := inR31 _ (List.mem_of_getElem? (i := 0) rfl)
theorem uw721 : (Cond.methodLink RX3 32 yX2_readsBack) ∈ UW := inR31 _ (List.mem_of_getElem? (i := 1) rfl)
theorem uw722 : (Cond.instanceMethod yX2_readsBack) ∈ UW := inR31 _ (List.mem_of_getElem? (i := 2) rfl)
theorem uw723 : (Cond.selects RX2 yX2_readsBack yX2_readsBack) ∈ UW := inR31 _ (List.mem_of_getElem? (i := 3) rfl)
theorem uw724 : (Cond.code yX2_readsBack cX2_readsBack 3 none) ∈ UW := inR31 _ (List.mem_of_getElem? (i := 4) rfl)
theorem uw728 : (Cond.code yX12_undo cX12_undo 2 (some .int)) ∈ UW := inR31 _ (List.mem_of_getElem? (i := 8) rfl)
theorem uw732 : (Cond.code yX11_brings cX11_brings 5 (some .int)) ∈ UW := inR31 _ (List.mem_of_getElem? (i := 12) rfl)
theorem uw733 : (Cond.methodLink RX11 217 yX2_takes) ∈ UW := inR31 _ (List.mem_of_getElem? (i := 13) rfl)
theorem uw734 : (Cond.instanceMethod yX2_takes) ∈ UW := inR31 _ (List.mem_of_getElem? (i := 14) rfl)
theorem uw735 : (Cond.selects RX2 yX2_takes yX2_takes) ∈ UW := inR31 _ (List.mem_of_getElem? (i := 15) rfl)
theorem uw736 : (Cond.code yX2_takes cX2_takes 2 none) ∈ UW := inR31 _ (List.mem_of_getElem? (i := 16) rfl)
theorem uw737 : (Cond.methodLink RX11 220 yX10_toHold) ∈ UW := inR31 _ (List.mem_of_getElem? (i := 17) rfl)
theorem uw738 : (Cond.instanceMethod yX10_toHold) ∈ UW := inR31 _ (List.mem_of_getElem? (i := 18) rfl)
theorem uw739 : (Cond.selects RX10 yX10_toHold yX10_toHold) ∈ UW := inR31 _ (List.mem_of_getElem? (i := 19) rfl)
theorem uw740 : (Cond.code yX10_toHold cX10_toHold 9 (some .int)) ∈ UW := inR31 _ (List.mem_of_getElem? (i := 20) rfl)
theorem uw741 : (Cond.fieldLink RX10 34 "NamesInMouths$Fen" "holder" "[I") ∈ UW := inR31 _ (List.mem_of_getElem? (i := 21) rfl)
theorem uw742 : (Cond.fieldLink RX10 39 "NamesInMouths$Ways" "met" "I") ∈ UW := inR31 _ (List.mem_of_getElem? (i := 22) rfl)
theorem uw743 : (Cond.fieldLink RX10 43 "NamesInMouths$Ways" "queued" "I") ∈ UW := inR31 _ (List.mem_of_getElem? (i := 23) rfl)
theorem uw744 : (Cond.fieldLink RX10 54 "NamesInMouths$Fen" "age" "[I") ∈ UW := inR32 _ (List.mem_of_getElem? (i := 0) rfl)
theorem uw745 : (Cond.methodLink RX10 46 yX2_sayers) ∈ UW := inR32 _ (List.mem_of_getElem? (i := 1) rfl)
theorem uw746 : (Cond.methodLink RX10 50 yX10_meets) ∈ UW := inR32 _ (List.mem_of_getElem? (i := 2) rfl)
theorem uw747 : (Cond.instanceMethod yX10_meets) ∈ UW := inR32 _ (List.mem_of_getElem? (i := 3) rfl)
theorem uw748 : (Cond.selects RX10 yX10_meets yX10_meets) ∈ UW := inR32 _ (List.mem_of_getElem? (i := 4) rfl)
theorem uw749 : (Cond.code yX10_meets cX10_meets 4 none) ∈ UW := inR32 _ (List.mem_of_getElem? (i := 5) rfl)
theorem uw750 : (Cond.methodLink RX10 57 yX10_traces) ∈ UW := inR32 _ (List.mem_of_getElem? (i := 6) rfl)
theorem uw751 : (Cond.instanceMethod yX10_traces) ∈ UW := inR32 _ (List.mem_of_getElem? (i := 7) rfl)
theorem uw752 : (Cond.selects RX10 yX10_traces yX10_traces) ∈ UW := inR32 _ (List.mem_of_getElem? (i := 8) rfl)
theorem uw753 : (Cond.code yX10_traces cX10_traces 5 (some .int)) ∈ UW := inR32 _ (List.mem_of_getElem? (i := 9) rfl)
theorem uw754 : (Cond.methodLink RX11 224 yX9_clears) ∈ UW := inR32 _ (List.mem_of_getElem? (i := 10) rfl)
theorem uw755 : (Cond.instanceMethod yX9_clears) ∈ UW := inR32 _ (List.mem_of_getElem? (i := 11) rfl)
theorem uw756 : (Cond.selects RX9 yX9_clears yX9_clears) ∈ UW := inR32 _ (List.mem_of_getElem? (i := 12) rfl)
theorem uw757 : (Cond.code yX9_clears cX9_clears 1 none) ∈ UW := inR32 _ (List.mem_of_getElem? (i := 13) rfl)
theorem uw758 : (Cond.methodLink RX11 227 yX10_sayer) ∈ UW := inR32 _ (List.mem_of_getElem? (i := 14) rfl)
theorem uw759 : (Cond.instanceMethod yX10_sayer) ∈ UW := inR32 _ (List.mem_of_getElem? (i := 15) rfl)
theorem uw760 : (Cond.selects RX10 yX10_sayer yX10_sayer) ∈ UW := inR32 _ (List.mem_of_getElem? (i := 16) rfl)
theorem uw761 : (Cond.code yX10_sayer cX10_sayer 2 (some .int)) ∈ UW := inR32 _ (List.mem_of_getElem? (i := 17) rfl)
theorem uw762 : (Cond.methodLink RX11 230 yX9_adds) ∈ UW := inR32 _ (List.mem_of_getElem? (i := 18) rfl)
theorem uw766 : (Cond.code yX12_brings cX12_brings 5 (some .int)) ∈ UW := inR32 _ (List.mem_of_getElem? (i := 22) rfl)
theorem uw767 : (Cond.methodLink RX12 300 yX12_canBring) ∈ UW := inR32 _ (List.mem_of_getElem? (i := 23) rfl)
theorem uw768 : (Cond.instanceMethod yX12_canBring) ∈ UW := inR33 _ (List.mem_of_getElem? (i := 0) rfl)
theorem uw769 : (Cond.selects RX12 yX12_canBring yX12_canBring) ∈ UW := inR33 _ (List.mem_of_getElem? (i := 1) rfl)
theorem uw770 : (Cond.code yX12_canBring cX12_canBring 7 (some .boolean)) ∈ UW := inR33 _ (List.mem_of_getElem? (i := 2) rfl)
theorem uw774 : (Cond.code yX11_later cX11_later 3 (some .int)) ∈ UW := inR33 _ (List.mem_of_getElem? (i := 6) rfl)
theorem uw778 : (Cond.code yX12_later cX12_later 3 (some .int)) ∈ UW := inR33 _ (List.mem_of_getElem? (i := 10) rfl)
theorem uw782 : (Cond.code yX11_home cX11_home 3 (some .int)) ∈ UW := inR33 _ (List.mem_of_getElem? (i := 14) rfl)
theorem uw783 : (Cond.methodLink RX11 233 yX11_daysUntilHome) ∈ UW := inR33 _ (List.mem_of_getElem? (i := 15) rfl)
theorem uw784 : (Cond.instanceMethod yX11_daysUntilHome) ∈ UW := inR33 _ (List.mem_of_getElem? (i := 16) rfl)
theorem uw785 : (Cond.selects RX11 yX11_daysUntilHome yX11_daysUntilHome) ∈ UW := inR33 _ (List.mem_of_getElem? (i := 17) rfl)
theorem uw786 : (Cond.code yX11_daysUntilHome cX11_daysUntilHome 3 (some .int)) ∈ UW := inR33 _ (List.mem_of_getElem? (i := 18) rfl)
theorem uw787 : (Cond.methodLink RX11 243 yX2_passDay) ∈ UW := inR33 _ (List.mem_of_getElem? (i := 19) rfl)
theorem uw788 : (Cond.methodLink RX11 236 yJ6_bitCount_0f7a4) ∈ UW := inR33 _ (List.mem_of_getElem? (i := 20) rfl)
theorem uw789 : (Cond.methodLink RX11 241 yX9_tells) ∈ UW := inR33 _ (List.mem_of_getElem? (i := 21) rfl)
theorem uw790 : (Cond.instanceMethod yX9_tells) ∈ UW := inR33 _ (List.mem_of_getElem? (i := 22) rfl)
theorem uw791 : (Cond.selects RX9 yX9_tells yX9_tells) ∈ UW := inR33 _ (List.mem_of_getElem? (i := 23) rfl)
theorem uw792 : (Cond.code yX9_tells cX9_tells 3 none) ∈ UW := inR34 _ (List.mem_of_getElem? (i := 0) rfl)
theorem uw796 : (Cond.code yX12_home cX12_home 3 (some .int)) ∈ UW := inR34 _ (List.mem_of_getElem? (i := 4) rfl)
theorem uw800 : (Cond.code yX11_poor cX11_poor 3 (some .int)) ∈ UW := inR34 _ (List.mem_of_getElem? (i := 8) rfl)
theorem uw804 : (Cond.code yX12_poor cX12_poor 3 (some .int)) ∈ UW := inR34 _ (List.mem_of_getElem? (i := 12) rfl)
theorem uw808 : (Cond.code yX11_leads cX11_leads 6 (some .int)) ∈ UW := inR34 _ (List.mem_of_getElem? (i := 16) rfl)
theorem uw809 : (Cond.methodLink RX11 247 yX2_ring) ∈ UW := inR34 _ (List.mem_of_getElem? (i := 17) rfl)
theorem uw810 : (Cond.instanceMethod yX2_ring) ∈ UW := inR34 _ (List.mem_of_getElem? (i := 18) rfl)
theorem uw811 : (Cond.selects RX2 yX2_ring yX2_ring) ∈ UW := inR34 _ (List.mem_of_getElem? (i := 19) rfl)
theorem uw812 : (Cond.code yX2_ring cX2_ring 5 (some .int)) ∈ UW := inR34 _ (List.mem_of_getElem? (i := 20) rfl)
theorem uw816 : (Cond.code yX12_leads cX12_leads 3 (some .int)) ∈ UW := inR35 _ (List.mem_of_getElem? (i := 0) rfl)
theorem uw817 : (Cond.methodLink RX12 307 yX12_goLead) ∈ UW := inR35 _ (List.mem_of_getElem? (i := 1) rfl)
theorem uw818 : (Cond.instanceMethod yX12_goLead) ∈ UW := inR35 _ (List.mem_of_getElem? (i := 2) rfl)
theorem uw819 : (Cond.selects RX12 yX12_goLead yX12_goLead) ∈ UW := inR35 _ (List.mem_of_getElem? (i := 3) rfl)
theorem uw820 : (Cond.code yX12_goLead cX12_goLead 4 (some .int)) ∈ UW := inR35 _ (List.mem_of_getElem? (i := 4) rfl)
theorem uw824 : (Cond.code yX11_rings cX11_rings 6 (some .int)) ∈ UW := inR35 _ (List.mem_of_getElem? (i := 8) rfl)
theorem uw825 : (Cond.methodLink RX11 251 yJ6_numberOfTrailingZeros_0f7a4) ∈ UW := inR35 _ (List.mem_of_getElem? (i := 9) rfl)
theorem uw826 : (Cond.static yJ6_numberOfTrailingZeros_0f7a4) ∈ UW := inR35 _ (List.mem_of_getElem? (i := 10) rfl)
theorem uw827 : (Cond.code yJ6_numberOfTrailingZeros_0f7a4 cJ6_numberOfTrailingZeros_0f7a4 2 (some .int)) ∈ UW := inR35 _ (List.mem_of_getElem? (i := 11) rfl)
theorem uw828 : (Cond.constant RJ6 264 (65536)) ∈ UW := inR35 _ (List.mem_of_getElem? (i := 12) rfl)
theorem uw832 : (Cond.code yX12_rings cX12_rings 6 (some .int)) ∈ UW := inR35 _ (List.mem_of_getElem? (i := 16) rfl)
theorem uw833 : (Cond.methodLink RX12 314 yX12_ringOf) ∈ UW := inR35 _ (List.mem_of_getElem? (i := 17) rfl)
theorem uw834 : (Cond.instanceMethod yX12_ringOf) ∈ UW := inR35 _ (List.mem_of_getElem? (i := 18) rfl)
theorem uw835 : (Cond.selects RX12 yX12_ringOf yX12_ringOf) ∈ UW := inR35 _ (List.mem_of_getElem? (i := 19) rfl)
theorem uw836 : (Cond.code yX12_ringOf cX12_ringOf 4 (some .int)) ∈ UW := inR35 _ (List.mem_of_getElem? (i := 20) rfl)
theorem uw837 : (Cond.methodLink RX12 310 yX12_has) ∈ UW := inR35 _ (List.mem_of_getElem? (i := 21) rfl)
theorem uw838 : (Cond.static yX12_has) ∈ UW := inR35 _ (List.mem_of_getElem? (i := 22) rfl)
theorem uw839 : (Cond.code yX12_has cX12_has 2 (some .boolean)) ∈ UW := inR35 _ (List.mem_of_getElem? (i := 23) rfl)
theorem uw840 : (Cond.methodLink RX12 317 yJ6_numberOfTrailingZeros_0f7a4) ∈ UW := inR36 _ (List.mem_of_getElem? (i := 0) rfl)
theorem uw844 : (Cond.code yX11_robs cX11_robs 5 (some .int)) ∈ UW := inR36 _ (List.mem_of_getElem? (i := 4) rfl)
theorem uw848 : (Cond.code yX12_robs cX12_robs 5 (some .int)) ∈ UW := inR36 _ (List.mem_of_getElem? (i := 8) rfl)
theorem uw852 : (Cond.code yX11_order cX11_order 3 (some .int)) ∈ UW := inR36 _ (List.mem_of_getElem? (i := 12) rfl)
theorem uw853 : (Cond.fieldLink RX11 258 "NamesInMouths$Ways" "turns" "I") ∈ UW := inR36 _ (List.mem_of_getElem? (i := 13) rfl)
theorem uw854 : (Cond.fieldLink RX11 261 "NamesInMouths$Ways" "best" "[I") ∈ UW := inR36 _ (List.mem_of_getElem? (i := 14) rfl)
theorem uw855 : (Cond.methodLink RX11 254 yX10_sayBack) ∈ UW := inR36 _ (List.mem_of_getElem? (i := 15) rfl)
theorem uw856 : (Cond.instanceMethod yX10_sayBack) ∈ UW := inR36 _ (List.mem_of_getElem? (i := 16) rfl)
theorem uw857 : (Cond.selects RX10 yX10_sayBack yX10_sayBack) ∈ UW := inR36 _ (List.mem_of_getElem? (i := 17) rfl)
theorem uw858 : (Cond.code yX10_sayBack cX10_sayBack 4 (some .int)) ∈ UW := inR36 _ (List.mem_of_getElem? (i := 18) rfl)
theorem uw859 : (Cond.fieldLink RX10 61 "NamesInMouths$Ways" "fen" "LNamesInMouths$Fen;") ∈ UW := inR36 _ (List.mem_of_getElem? (i := 19) rfl)
theorem uw860 : (Cond.fieldLink RX10 65 "NamesInMouths$Ways" "rule" "LNamesInMouths$Rule;") ∈ UW := inR36 _ (List.mem_of_getElem? (i := 20) rfl)
theorem uw861 : (Cond.fieldLink RX10 69 "NamesInMouths$Ways" "turns" "I") ∈ UW := inR36 _ (List.mem_of_getElem? (i := 21) rfl)
theorem uw862 : (Cond.fieldLink RX10 72 "NamesInMouths$Fen" "size" "I") ∈ UW := inR36 _ (List.mem_of_getElem? (i := 22) rfl)
theorem uw863 : (Cond.fieldLink RX10 85 "NamesInMouths$Ways" "homesAtFirst" "I") ∈ UW := inR36 _ (List.mem_of_getElem? (i := 23) rfl)
theorem uw864 : (Cond.fieldLink RX10 88 "NamesInMouths$Ways" "most" "I") ∈ UW := inR37 _ (List.mem_of_getElem? (i := 0) rfl)
theorem uw865 : (Cond.methodLink RX10 75 yX2_homes) ∈ UW := inR37 _ (List.mem_of_getElem? (i := 1) rfl)
theorem uw866 : (Cond.methodLink RX10 79 yJ6_bitCount_0f7a4) ∈ UW := inR37 _ (List.mem_of_getElem? (i := 2) rfl)
theorem uw867 : (Cond.methodLink RX10 91 yX10_takesTurn) ∈ UW := inR37 _ (List.mem_of_getElem? (i := 3) rfl)
theorem uw868 : (Cond.instanceMethod yX10_takesTurn) ∈ UW := inR37 _ (List.mem_of_getElem? (i := 4) rfl)
theorem uw869 : (Cond.selects RX10 yX10_takesTurn yX10_takesTurn) ∈ UW := inR37 _ (List.mem_of_getElem? (i := 5) rfl)
theorem uw870 : (Cond.code yX10_takesTurn cX10_takesTurn 7 none) ∈ UW := inR37 _ (List.mem_of_getElem? (i := 6) rfl)
theorem uw871 : (Cond.methodLink RX10 95 arraycopyName) ∈ UW := inR37 _ (List.mem_of_getElem? (i := 7) rfl)
theorem uw872 : (Cond.methodLink RX10 101 yX10_saysOwn) ∈ UW := inR37 _ (List.mem_of_getElem? (i := 8) rfl)
theorem uw873 : (Cond.instanceMethod yX10_saysOwn) ∈ UW := inR37 _ (List.mem_of_getElem? (i := 9) rfl)
theorem uw874 : (Cond.selects RX10 yX10_saysOwn yX10_saysOwn) ∈ UW := inR37 _ (List.mem_of_getElem? (i := 10) rfl)
theorem uw875 : (Cond.code yX10_saysOwn cX10_saysOwn 8 none) ∈ UW := inR37 _ (List.mem_of_getElem? (i := 11) rfl)
theorem uw876 : (Cond.methodLink RX10 105 yX2_can) ∈ UW := inR37 _ (List.mem_of_getElem? (i := 12) rfl)
theorem uw880 : (Cond.code yX12_order cX12_order 3 (some .int)) ∈ UW := inR37 _ (List.mem_of_getElem? (i := 16) rfl)
theorem uw881 : (Cond.fieldLink RX12 320 "NamesInMouthsModel" "mostHome" "I") ∈ UW := inR37 _ (List.mem_of_getElem? (i := 17) rfl)
theorem uw882 : (Cond.methodLink RX12 323 yX12_goOrder) ∈ UW := inR37 _ (List.mem_of_getElem? (i := 18) rfl)
theorem uw883 : (Cond.instanceMethod yX12_goOrder) ∈ UW := inR37 _ (List.mem_of_getElem? (i := 19) rfl)
theorem uw884 : (Cond.selects RX12 yX12_goOrder yX12_goOrder) ∈ UW := inR37 _ (List.mem_of_getElem? (i := 20) rfl)
theorem uw885 : (Cond.code yX12_goOrder cX12_goOrder 6 none) ∈ UW := inR37 _ (List.mem_of_getElem? (i := 21) rfl)
theorem uw889 : (Cond.code yX11_silences cX11_silences 6 (some .int)) ∈ UW := inR38 _ (List.mem_of_getElem? (i := 1) rfl)
theorem uw890 : (Cond.methodLink RX11 264 yX11_homesAfter) ∈ UW := inR38 _ (List.mem_of_getElem? (i := 2) rfl)
theorem uw891 : (Cond.instanceMethod yX11_homesAfter) ∈ UW := inR38 _ (List.mem_of_getElem? (i := 3) rfl)
theorem uw892 : (Cond.selects RX11 yX11_homesAfter yX11_homesAfter) ∈ UW := inR38 _ (List.mem_of_getElem? (i := 4) rfl)
theorem uw893 : (Cond.code yX11_homesAfter cX11_homesAfter 3 (some .int)) ∈ UW := inR38 _ (List.mem_of_getElem? (i := 5) rfl)
theorem uw897 : (Cond.code yX12_silences cX12_silences 6 (some .int)) ∈ UW := inR38 _ (List.mem_of_getElem? (i := 9) rfl)
theorem uw898 : (Cond.methodLink RX12 327 yX12_homeIn) ∈ UW := inR38 _ (List.mem_of_getElem? (i := 10) rfl)
theorem uw899 : (Cond.instanceMethod yX12_homeIn) ∈ UW := inR38 _ (List.mem_of_getElem? (i := 11) rfl)
theorem uw900 : (Cond.selects RX12 yX12_homeIn yX12_homeIn) ∈ UW := inR38 _ (List.mem_of_getElem? (i := 12) rfl)
theorem uw901 : (Cond.code yX12_homeIn cX12_homeIn 3 (some .int)) ∈ UW := inR38 _ (List.mem_of_getElem? (i := 13) rfl)
theorem uw905 : (Cond.code yX11_goes cX11_goes 7 (some .int)) ∈ UW := inR38 _ (List.mem_of_getElem? (i := 17) rfl)
theorem uw906 : (Cond.methodLink RX11 267 Lib.Math.abs.name) ∈ UW := inR38 _ (List.mem_of_getElem? (i := 18) rfl)
theorem uw910 : (Cond.code yX12_goes cX12_goes 6 (some .int)) ∈ UW := inR38 _ (List.mem_of_getElem? (i := 22) rfl)
theorem uw914 : (Cond.code yX11_peace cX11_peace 2 (some .int)) ∈ UW := inR39 _ (List.mem_of_getElem? (i := 2) rfl)
theorem uw918 : (Cond.code yX12_peace cX12_peace 2 (some .int)) ∈ UW := inR39 _ (List.mem_of_getElem? (i := 6) rfl)
theorem uw919 : (Cond.methodLink RX12 304 yX12_all) ∈ UW := inR39 _ (List.mem_of_getElem? (i := 7) rfl)
theorem uw920 : (Cond.instanceMethod yX12_all) ∈ UW := inR39 _ (List.mem_of_getElem? (i := 8) rfl)
theorem uw921 : (Cond.selects RX12 yX12_all yX12_all) ∈ UW := inR39 _ (List.mem_of_getElem? (i := 9) rfl)
theorem uw922 : (Cond.code yX12_all cX12_all 1 (some .int)) ∈ UW := inR39 _ (List.mem_of_getElem? (i := 10) rfl)
theorem uw926 : (Cond.code yX11_wed cX11_wed 4 (some .int)) ∈ UW := inR39 _ (List.mem_of_getElem? (i := 14) rfl)
theorem uw930 : (Cond.code yX12_wed cX12_wed 4 (some .int)) ∈ UW := inR39 _ (List.mem_of_getElem? (i := 18) rfl)
theorem uw934 : (Cond.code yX11_loud cX11_loud 6 (some .int)) ∈ UW := inR39 _ (List.mem_of_getElem? (i := 22) rfl)
theorem uw938 : (Cond.code yX12_loud cX12_loud 5 (some .int)) ∈ UW := inR40 _ (List.mem_of_getElem? (i := 2) rfl)
theorem uw942 : (Cond.code yX11_mouths cX11_mouths 3 (some .int)) ∈ UW := inR40 _ (List.mem_of_getElem? (i := 6) rfl)
theorem uw943 : (Cond.fieldLink RX11 276 "NamesInMouths$Dyke" "row" "[I") ∈ UW := inR40 _ (List.mem_of_getElem? (i := 7) rfl)
theorem uw944 : (Cond.methodLink RX11 272 yX0_sharesMouths) ∈ UW := inR40 _ (List.mem_of_getElem? (i := 8) rfl)
theorem uw945 : (Cond.instanceMethod yX0_sharesMouths) ∈ UW := inR40 _ (List.mem_of_getElem? (i := 9) rfl)
theorem uw946 : (Cond.selects RX0 yX0_sharesMouths yX0_sharesMouths) ∈ UW := inR40 _ (List.mem_of_getElem? (i := 10) rfl)
theorem uw947 : (Cond.code yX0_sharesMouths cX0_sharesMouths 6 (some .int)) ∈ UW := inR40 _ (List.mem_of_getElem? (i := 11) rfl)
theorem uw948 : (Cond.fieldLink RX0 21 "NamesInMouths$Fen" "size" "I") ∈ UW := inR40 _ (List.mem_of_getElem? (i := 12) rfl)
theorem uw949 : (Cond.methodLink RX0 37 Lib.Math.min.name) ∈ UW := inR40 _ (List.mem_of_getElem? (i := 13) rfl)
theorem uw950 : (Cond.methodLink RX0 27 yJ6_bitCount_0f7a4) ∈ UW := inR40 _ (List.mem_of_getElem? (i := 14) rfl)
theorem uw951 : (Cond.methodLink RX0 33 yX0_costs) ∈ UW := inR40 _ (List.mem_of_getElem? (i := 15) rfl)
theorem uw952 : (Cond.instanceMethod yX0_costs) ∈ UW := inR40 _ (List.mem_of_getElem? (i := 16) rfl)
theorem uw953 : (Cond.selects RX0 yX0_costs yX0_costs) ∈ UW := inR40 _ (List.mem_of_getElem? (i := 17) rfl)
theorem uw954 : (Cond.code yX0_costs cX0_costs 6 (some .int)) ∈ UW := inR40 _ (List.mem_of_getElem? (i := 18) rfl)
theorem uw955 : (Cond.methodLink RX0 47 yX2_far) ∈ UW := inR40 _ (List.mem_of_getElem? (i := 19) rfl)
theorem uw956 : (Cond.methodLink RX0 43 yX0_cheapest) ∈ UW := inR40 _ (List.mem_of_getElem? (i := 20) rfl)
theorem uw957 : (Cond.instanceMethod yX0_cheapest) ∈ UW := inR40 _ (List.mem_of_getElem? (i := 21) rfl)
theorem uw958 : (Cond.selects RX0 yX0_cheapest yX0_cheapest) ∈ UW := inR40 _ (List.mem_of_getElem? (i := 22) rfl)
theorem uw959 : (Cond.code yX0_cheapest cX0_cheapest 5 (some .int)) ∈ UW := inR40 _ (List.mem_of_getElem? (i := 23) rfl)
theorem uw963 : (Cond.code yX12_mouths cX12_mouths 5 (some .int)) ∈ UW := inR41 _ (List.mem_of_getElem? (i := 3) rfl)
theorem uw964 : (Cond.constant RX12 330 (1000000)) ∈ UW := inR41 _ (List.mem_of_getElem? (i := 4) rfl)
theorem uw965 : (Cond.methodLink RX12 331 yX12_canMouth) ∈ UW := inR41 _ (List.mem_of_getElem? (i := 5) rfl)
theorem uw966 : (Cond.instanceMethod yX12_canMouth) ∈ UW := inR41 _ (List.mem_of_getElem? (i := 6) rfl)
theorem uw967 : (Cond.selects RX12 yX12_canMouth yX12_canMouth) ∈ UW := inR41 _ (List.mem_of_getElem? (i := 7) rfl)
theorem uw968 : (Cond.code yX12_canMouth cX12_canMouth 4 (some .boolean)) ∈ UW := inR41 _ (List.mem_of_getElem? (i := 8) rfl)
theorem uw972 : (Cond.code yX11_criers cX11_criers 3 (some .int)) ∈ UW := inR41 _ (List.mem_of_getElem? (i := 12) rfl)
theorem uw973 : (Cond.methodLink RX11 279 yX0_fewestCriers) ∈ UW := inR41 _ (List.mem_of_getElem? (i := 13) rfl)
theorem uw974 : (Cond.instanceMethod yX0_fewestCriers) ∈ UW := inR41 _ (List.mem_of_getElem? (i := 14) rfl)
theorem uw975 : (Cond.selects RX0 yX0_fewestCriers yX0_fewestCriers) ∈ UW := inR41 _ (List.mem_of_getElem? (i := 15) rfl)
theorem uw976 : (Cond.code yX0_fewestCriers cX0_fewestCriers 6 (some .int)) ∈ UW := inR41 _ (List.mem_of_getElem? (i := 16) rfl)
theorem uw977 : (Cond.methodLink RX0 50 yX0_hearers) ∈ UW := inR41 _ (List.mem_of_getElem? (i := 17) rfl)
theorem uw978 : (Cond.static yX0_hearers) ∈ UW := inR41 _ (List.mem_of_getElem? (i := 18) rfl)
theorem uw979 : (Cond.code yX0_hearers cX0_hearers 5 (some .int)) ∈ UW := inR41 _ (List.mem_of_getElem? (i := 19) rfl)
theorem uw980 : (Cond.methodLink RX0 53 yX0_heardBy) ∈ UW := inR41 _ (List.mem_of_getElem? (i := 20) rfl)
theorem uw981 : (Cond.instanceMethod yX0_heardBy) ∈ UW := inR41 _ (List.mem_of_getElem? (i := 21) rfl)
theorem uw982 : (Cond.selects RX0 yX0_heardBy yX0_heardBy) ∈ UW := inR41 _ (List.mem_of_getElem? (i := 22) rfl)
theorem uw983 : (Cond.code yX0_heardBy cX0_heardBy 5 (some .int)) ∈ UW := inR41 _ (List.mem_of_getElem? (i := 23) rfl)
theorem uw987 : (Cond.code yX12_criers cX12_criers 8 (some .int)) ∈ UW := inR42 _ (List.mem_of_getElem? (i := 3) rfl)
theorem uw991 : (Cond.code yX11_line cX11_line 2 (some .int)) ∈ UW := inR42 _ (List.mem_of_getElem? (i := 7) rfl)
theorem uw992 : (Cond.methodLink RX11 283 yX0_linesUp) ∈ UW := inR42 _ (List.mem_of_getElem? (i := 8) rfl)
theorem uw993 : (Cond.instanceMethod yX0_linesUp) ∈ UW := inR42 _ (List.mem_of_getElem? (i := 9) rfl)
theorem uw994 : (Cond.selects RX0 yX0_linesUp yX0_linesUp) ∈ UW := inR42 _ (List.mem_of_getElem? (i := 10) rfl)
theorem uw995 : (Cond.code yX0_linesUp cX0_linesUp 5 none) ∈ UW := inR42 _ (List.mem_of_getElem? (i := 11) rfl)
theorem uw996 : (Cond.fieldLink RX0 56 "NamesInMouths$Fen" "place" "[I") ∈ UW := inR42 _ (List.mem_of_getElem? (i := 12) rfl)
theorem uw1000 : (Cond.code yX12_line cX12_line 2 (some .int)) ∈ UW := inR42 _ (List.mem_of_getElem? (i := 16) rfl)
theorem uw1001 : (Cond.methodLink RX12 334 yX12_layDyke) ∈ UW := inR42 _ (List.mem_of_getElem? (i := 17) rfl)
theorem uw1002 : (Cond.instanceMethod yX12_layDyke) ∈ UW := inR42 _ (List.mem_of_getElem? (i := 18) rfl)
theorem uw1003 : (Cond.selects RX12 yX12_layDyke yX12_layDyke) ∈ UW := inR42 _ (List.mem_of_getElem? (i := 19) rfl)
theorem uw1004 : (Cond.code yX12_layDyke cX12_layDyke 3 none) ∈ UW := inR42 _ (List.mem_of_getElem? (i := 20) rfl)
theorem uw1008 : (Cond.code yX11_rich cX11_rich 6 (some .int)) ∈ UW := inR43 _ (List.mem_of_getElem? (i := 0) rfl)
theorem uw1009 : (Cond.fieldLink RX11 289 "NamesInMouths$Dyke" "runs" "[I") ∈ UW := inR43 _ (List.mem_of_getElem? (i := 1) rfl)
theorem uw1010 : (Cond.methodLink RX11 286 yX0_longestFrom) ∈ UW := inR43 _ (List.mem_of_getElem? (i := 2) rfl)
theorem uw1011 : (Cond.instanceMethod yX0_longestFrom) ∈ UW := inR43 _ (List.mem_of_getElem? (i := 3) rfl)
theorem uw1012 : (Cond.selects RX0 yX0_longestFrom yX0_longestFrom) ∈ UW := inR43 _ (List.mem_of_getElem? (i := 4) rfl)
theorem uw1013 : (Cond.code yX0_longestFrom cX0_longestFrom 5 (some .int)) ∈ UW := inR43 _ (List.mem_of_getElem? (i := 5) rfl)
theorem uw1014 : (Cond.fieldLink RX0 59 "NamesInMouths$Fen" "purse" "[I") ∈ UW := inR43 _ (List.mem_of_getElem? (i := 6) rfl)
theorem uw1015 : (Cond.methodLink RX0 62 Lib.Math.max.name) ∈ UW := inR43 _ (List.mem_of_getElem? (i := 7) rfl)
theorem uw1019 : (Cond.code yX12_rich cX12_rich 4 (some .int)) ∈ UW := inR43 _ (List.mem_of_getElem? (i := 11) rfl)
theorem uw1023 : (Cond.code yX11_heard cX11_heard 3 (some .int)) ∈ UW := inR43 _ (List.mem_of_getElem? (i := 15) rfl)
theorem uw1024 : (Cond.fieldLink RX11 296 "NamesInMouths$Ear" "size" "I") ∈ UW := inR43 _ (List.mem_of_getElem? (i := 16) rfl)
theorem uw1025 : (Cond.methodLink RX11 292 yX1_hears) ∈ UW := inR43 _ (List.mem_of_getElem? (i := 17) rfl)
theorem uw1026 : (Cond.instanceMethod yX1_hears) ∈ UW := inR43 _ (List.mem_of_getElem? (i := 18) rfl)
theorem uw1027 : (Cond.selects RX1 yX1_hears yX1_hears) ∈ UW := inR43 _ (List.mem_of_getElem? (i := 19) rfl)
theorem uw1028 : (Cond.code yX1_hears cX1_hears 3 (some .boolean)) ∈ UW := inR43 _ (List.mem_of_getElem? (i := 20) rfl)
theorem uw1029 : (Cond.fieldLink RX1 22 "NamesInMouths$Ear" "size" "I") ∈ UW := inR43 _ (List.mem_of_getElem? (i := 21) rfl)
theorem uw1030 : (Cond.methodLink RX1 18 yX1_values) ∈ UW := inR43 _ (List.mem_of_getElem? (i := 22) rfl)
theorem uw1031 : (Cond.static yX1_values) ∈ UW := inR43 _ (List.mem_of_getElem? (i := 23) rfl)
theorem uw1032 : (Cond.code yX1_values cX1_values 1 (some .int)) ∈ UW := inR44 _ (List.mem_of_getElem? (i := 0) rfl)
theorem uw1036 : (Cond.code yX12_heard cX12_heard 4 (some .int)) ∈ UW := inR44 _ (List.mem_of_getElem? (i := 4) rfl)
theorem uw1037 : (Cond.fieldLink RX12 337 "NamesInMouthsModel" "heardMany" "I") ∈ UW := inR44 _ (List.mem_of_getElem? (i := 5) rfl)
theorem uw1041 : (Cond.code yX11_forget cX11_forget 2 (some .int)) ∈ UW := inR44 _ (List.mem_of_getElem? (i := 9) rfl)
theorem uw1045 : (Cond.code yX12_forget cX12_forget 2 (some .int)) ∈ UW := inR44 _ (List.mem_of_getElem? (i := 13) rfl)
theorem uw1049 : (Cond.code yX11_fits cX11_fits 2 (some .int)) ∈ UW := inR44 _ (List.mem_of_getElem? (i := 17) rfl)
theorem uw1050 : (Cond.methodLink RX11 297 yX1_fitting) ∈ UW := inR44 _ (List.mem_of_getElem? (i := 18) rfl)
theorem uw1051 : (Cond.instanceMethod yX1_fitting) ∈ UW := inR44 _ (List.mem_of_getElem? (i := 19) rfl)
theorem uw1052 : (Cond.selects RX1 yX1_fitting yX1_fitting) ∈ UW := inR44 _ (List.mem_of_getElem? (i := 20) rfl)
theorem uw1053 : (Cond.code yX1_fitting cX1_fitting 7 (some .int)) ∈ UW := inR44 _ (List.mem_of_getElem? (i := 21) rfl)
theorem uw1054 : (Cond.fieldLink RX1 48 "NamesInMouths$Fen" "size" "I") ∈ UW := inR44 _ (List.mem_of_getElem? (i := 22) rfl)
theorem uw1055 : (Cond.methodLink RX1 49 yX1_isSo) ∈ UW := inR44 _ (List.mem_of_getElem? (i := 23) rfl)
theorem uw1056 : (Cond.static yX1_isSo) ∈ UW := inR45 _ (List.mem_of_getElem? (i := 0) rfl)
theorem uw1057 : (Cond.code yX1_isSo cX1_isSo 5 (some .boolean)) ∈ UW := inR45 _ (List.mem_of_getElem? (i := 1) rfl)
theorem uw1058 : (Cond.fieldLink RX1 26 "NamesInMouths$Fen" "holder" "[I") ∈ UW := inR45 _ (List.mem_of_getElem? (i := 2) rfl)
theorem uw1059 : (Cond.fieldLink RX1 31 "NamesInMouths$Fen" "age" "[I") ∈ UW := inR45 _ (List.mem_of_getElem? (i := 3) rfl)
theorem uw1060 : (Cond.fieldLink RX1 34 "NamesInMouths$Fen" "purse" "[I") ∈ UW := inR45 _ (List.mem_of_getElem? (i := 4) rfl)
theorem uw1061 : (Cond.fieldLink RX1 37 "NamesInMouths$Fen" "place" "[I") ∈ UW := inR45 _ (List.mem_of_getElem? (i := 5) rfl)
theorem uw1062 : (Cond.methodLink RX1 40 yX2_has) ∈ UW := inR45 _ (List.mem_of_getElem? (i := 6) rfl)
theorem uw1063 : (Cond.methodLink RX1 44 yX2_can) ∈ UW := inR45 _ (List.mem_of_getElem? (i := 7) rfl)
theorem uw1067 : (Cond.code yX12_fits_ cX12_fits_ 2 (some .int)) ∈ UW := inR45 _ (List.mem_of_getElem? (i := 11) rfl)
theorem uw1068 : (Cond.methodLink RX12 343 yX12_fitting) ∈ UW := inR45 _ (List.mem_of_getElem? (i := 12) rfl)
theorem uw1069 : (Cond.instanceMethod yX12_fitting) ∈ UW := inR45 _ (List.mem_of_getElem? (i := 13) rfl)
theorem uw1070 : (Cond.selects RX12 yX12_fitting yX12_fitting) ∈ UW := inR45 _ (List.mem_of_getElem? (i := 14) rfl)
theorem uw1071 : (Cond.code yX12_fitting cX12_fitting 5 (some .int)) ∈ UW := inR45 _ (List.mem_of_getElem? (i := 15) rfl)
theorem uw1072 : (Cond.methodLink RX12 340 yX12_fits) ∈ UW := inR45 _ (List.mem_of_getElem? (i := 16) rfl)
theorem uw1073 : (Cond.instanceMethod yX12_fits) ∈ UW := inR45 _ (List.mem_of_getElem? (i := 17) rfl)
theorem uw1074 : (Cond.selects RX12 yX12_fits yX12_fits) ∈ UW := inR45 _ (List.mem_of_getElem? (i := 18) rfl)
theorem uw1075 : (Cond.code yX12_fits cX12_fits 4 (some .boolean)) ∈ UW := inR45 _ (List.mem_of_getElem? (i := 19) rfl)
theorem uw1079 : (Cond.code yX11_asks cX11_asks 10 (some .int)) ∈ UW := inR45 _ (List.mem_of_getElem? (i := 23) rfl)
theorem uw1080 : (Cond.fieldLink RX11 300 "NamesInMouths$Ear" "ASKED" "[I") ∈ UW := inR46 _ (List.mem_of_getElem? (i := 0) rfl)
theorem uw1081 : (Cond.methodLink RX11 303 yX1_values) ∈ UW := inR46 _ (List.mem_of_getElem? (i := 1) rfl)
theorem uw1082 : (Cond.methodLink RX11 306 yX1_mostLeft) ∈ UW := inR46 _ (List.mem_of_getElem? (i := 2) rfl)
theorem uw1083 : (Cond.instanceMethod yX1_mostLeft) ∈ UW := inR46 _ (List.mem_of_getElem? (i := 3) rfl)
theorem uw1084 : (Cond.selects RX1 yX1_mostLeft yX1_mostLeft) ∈ UW := inR46 _ (List.mem_of_getElem? (i := 4) rfl)
theorem uw1085 : (Cond.code yX1_mostLeft cX1_mostLeft 8 (some .int)) ∈ UW := inR46 _ (List.mem_of_getElem? (i := 5) rfl)
theorem uw1086 : (Cond.methodLink RX1 58 Lib.Math.max.name) ∈ UW := inR46 _ (List.mem_of_getElem? (i := 6) rfl)
theorem uw1087 : (Cond.methodLink RX1 53 yJ6_bitCount_0f7a4) ∈ UW := inR46 _ (List.mem_of_getElem? (i := 7) rfl)
theorem uw1091 : (Cond.code yX12_asks cX12_asks 7 (some .int)) ∈ UW := inR46 _ (List.mem_of_getElem? (i := 11) rfl)
theorem uw1095 : (Cond.code yX11_saw cX11_saw 4 (some .int)) ∈ UW := inR46 _ (List.mem_of_getElem? (i := 15) rfl)
theorem uw1096 : (Cond.fieldLink RX11 314 "NamesInMouths$Seen" "size" "I") ∈ UW := inR46 _ (List.mem_of_getElem? (i := 16) rfl)
theorem uw1097 : (Cond.methodLink RX11 310 yX7_sees) ∈ UW := inR46 _ (List.mem_of_getElem? (i := 17) rfl)
theorem uw1098 : (Cond.instanceMethod yX7_sees) ∈ UW := inR46 _ (List.mem_of_getElem? (i := 18) rfl)
theorem uw1099 : (Cond.selects RX7 yX7_sees yX7_sees) ∈ UW := inR46 _ (List.mem_of_getElem? (i := 19) rfl)
theorem uw1100 : (Cond.code yX7_sees cX7_sees 4 (some .boolean)) ∈ UW := inR46 _ (List.mem_of_getElem? (i := 20) rfl)
theorem uw1101 : (Cond.fieldLink RX7 25 "NamesInMouths$Seen" "size" "I") ∈ UW := inR46 _ (List.mem_of_getElem? (i := 21) rfl)
theorem uw1105 : (Cond.code yX12_saw cX12_saw 4 (some .int)) ∈ UW := inR47 _ (List.mem_of_getElem? (i := 1) rfl)
theorem uw1106 : (Cond.fieldLink RX12 346 "NamesInMouthsModel" "sawMany" "I") ∈ UW := inR47 _ (List.mem_of_getElem? (i := 2) rfl)
theorem uw1110 : (Cond.code yX11_denies cX11_denies 2 (some .int)) ∈ UW := inR47 _ (List.mem_of_getElem? (i := 6) rfl)
theorem uw1114 : (Cond.code yX12_denies cX12_denies 2 (some .int)) ∈ UW := inR47 _ (List.mem_of_getElem? (i := 10) rfl)
theorem uw1118 : (Cond.code yX11_laws cX11_laws 3 (some .int)) ∈ UW := inR47 _ (List.mem_of_getElem? (i := 14) rfl)
theorem uw1119 : (Cond.fieldLink RX11 321 "NamesInMouths$Seen" "low" "[I") ∈ UW := inR47 _ (List.mem_of_getElem? (i := 15) rfl)
theorem uw1120 : (Cond.methodLink RX11 315 yX7_fitLaws) ∈ UW := inR47 _ (List.mem_of_getElem? (i := 16) rfl)
theorem uw1121 : (Cond.instanceMethod yX7_fitLaws) ∈ UW := inR47 _ (List.mem_of_getElem? (i := 17) rfl)
theorem uw1122 : (Cond.selects RX7 yX7_fitLaws yX7_fitLaws) ∈ UW := inR47 _ (List.mem_of_getElem? (i := 18) rfl)
theorem uw1123 : (Cond.code yX7_fitLaws cX7_fitLaws 5 (some .int)) ∈ UW := inR47 _ (List.mem_of_getElem? (i := 19) rfl)
theorem uw1124 : (Cond.methodLink RX7 33 Lib.Math.min.name) ∈ UW := inR47 _ (List.mem_of_getElem? (i := 20) rfl)
theorem uw1125 : (Cond.methodLink RX7 39 Lib.Math.max.name) ∈ UW := inR47 _ (List.mem_of_getElem? (i := 21) rfl)
theorem uw1126 : (Cond.methodLink RX7 29 yX7_reach) ∈ UW := inR47 _ (List.mem_of_getElem? (i := 22) rfl)
theorem uw1127 : (Cond.static yX7_reach) ∈ UW := inR47 _ (List.mem_of_getElem? (i := 23) rfl)
theorem uw1128 : (Cond.code yX7_reach cX7_reach 3 (some .int)) ∈ UW := inR48 _ (List.mem_of_getElem? (i := 0) rfl)
theorem uw1129 : (Cond.methodLink RX11 318 yX7_leastPair) ∈ UW := inR48 _ (List.mem_of_getElem? (i := 1) rfl)
theorem uw1130 : (Cond.instanceMethod yX7_leastPair) ∈ UW := inR48 _ (List.mem_of_getElem? (i := 2) rfl)
theorem uw1131 : (Cond.selects RX7 yX7_leastPair yX7_leastPair) ∈ UW := inR48 _ (List.mem_of_getElem? (i := 3) rfl)
theorem uw1132 : (Cond.code yX7_leastPair cX7_leastPair 2 (some .int)) ∈ UW := inR48 _ (List.mem_of_getElem? (i := 4) rfl)
theorem uw1136 : (Cond.code yX12_laws cX12_laws 3 (some .int)) ∈ UW := inR48 _ (List.mem_of_getElem? (i := 8) rfl)
theorem uw1137 : (Cond.methodLink RX12 353 yX12_isLaw) ∈ UW := inR48 _ (List.mem_of_getElem? (i := 9) rfl)
theorem uw1138 : (Cond.instanceMethod yX12_isLaw) ∈ UW := inR48 _ (List.mem_of_getElem? (i := 10) rfl)
theorem uw1139 : (Cond.selects RX12 yX12_isLaw yX12_isLaw) ∈ UW := inR48 _ (List.mem_of_getElem? (i := 11) rfl)
theorem uw1140 : (Cond.code yX12_isLaw cX12_isLaw 3 (some .boolean)) ∈ UW := inR48 _ (List.mem_of_getElem? (i := 12) rfl)
theorem uw1141 : (Cond.methodLink RX12 349 yX12_says_) ∈ UW := inR48 _ (List.mem_of_getElem? (i := 13) rfl)
theorem uw1142 : (Cond.static yX12_says_) ∈ UW := inR48 _ (List.mem_of_getElem? (i := 14) rfl)
theorem uw1143 : (Cond.code yX12_says_ cX12_says_ 4 (some .int)) ∈ UW := inR48 _ (List.mem_of_getElem? (i := 15) rfl)
theorem uw1147 : (Cond.code yX11_tries cX11_tries 8 (some .int)) ∈ UW := inR48 _ (List.mem_of_getElem? (i := 19) rfl)
theorem uw1148 : (Cond.methodLink RX11 324 yX7_lawsThatHear) ∈ UW := inR48 _ (List.mem_of_getElem? (i := 20) rfl)
theorem uw1149 : (Cond.instanceMethod yX7_lawsThatHear) ∈ UW := inR48 _ (List.mem_of_getElem? (i := 21) rfl)
theorem uw1150 : (Cond.selects RX7 yX7_lawsThatHear yX7_lawsThatHear) ∈ UW := inR48 _ (List.mem_of_getElem? (i := 22) rfl)
theorem uw1151 : (Cond.code yX7_lawsThatHear cX7_lawsThatHear 6 (some .int)) ∈ UW := inR48 _ (List.mem_of_getElem? (i := 23) rfl)
theorem uw1155 : (Cond.code yX12_tries cX12_tries 7 (some .int)) ∈ UW := inR49 _ (List.mem_of_getElem? (i := 3) rfl)
theorem uw1159 : (Cond.code yX11_walks cX11_walks 11 (some .int)) ∈ UW := inR49 _ (List.mem_of_getElem? (i := 7) rfl)
theorem uw1160 : (Cond.constantLong RX11 334 (10)) ∈ UW := inR49 _ (List.mem_of_getElem? (i := 8) rfl)
theorem uw1161 : (Cond.methodLink RX11 330 yX4_walked) ∈ UW := inR49 _ (List.mem_of_getElem? (i := 9) rfl)
theorem uw1162 : (Cond.instanceMethod yX4_walked) ∈ UW := inR49 _ (List.mem_of_getElem? (i := 10) rfl)
theorem uw1163 : (Cond.selects RX4 yX4_walked yX4_walked) ∈ UW := inR49 _ (List.mem_of_getElem? (i := 11) rfl)
theorem uw1164 : (Cond.code yX4_walked cX4_walked 7 (some .long)) ∈ UW := inR49 _ (List.mem_of_getElem? (i := 12) rfl)
theorem uw1165 : (Cond.methodLink RX4 25 Lib.Math.min.name) ∈ UW := inR49 _ (List.mem_of_getElem? (i := 13) rfl)
theorem uw1166 : (Cond.methodLink RX4 31 Lib.Math.max.name) ∈ UW := inR49 _ (List.mem_of_getElem? (i := 14) rfl)
theorem uw1167 : (Cond.methodLink RX4 34 arraycopyName) ∈ UW := inR49 _ (List.mem_of_getElem? (i := 15) rfl)
theorem uw1168 : (Cond.methodLink RX11 336 yX11_greatestCommon) ∈ UW := inR49 _ (List.mem_of_getElem? (i := 16) rfl)
theorem uw1169 : (Cond.static yX11_greatestCommon) ∈ UW := inR49 _ (List.mem_of_getElem? (i := 17) rfl)
theorem uw1170 : (Cond.code yX11_greatestCommon cX11_greatestCommon 11 (some .long)) ∈ UW := inR49 _ (List.mem_of_getElem? (i := 18) rfl)
theorem uw1174 : (Cond.code yX12_walks cX12_walks 9 (some .int)) ∈ UW := inR49 _ (List.mem_of_getElem? (i := 22) rfl)
theorem uw1175 : (Cond.constantLong RX12 360 (10)) ∈ UW := inR49 _ (List.mem_of_getElem? (i := 23) rfl)
theorem uw1176 : (Cond.methodLink RX12 356 yX12_common) ∈ UW := inR50 _ (List.mem_of_getElem? (i := 0) rfl)
theorem uw1177 : (Cond.static yX12_common) ∈ UW := inR50 _ (List.mem_of_getElem? (i := 1) rfl)
theorem uw1178 : (Cond.code yX12_common cX12_common 4 (some .long)) ∈ UW := inR50 _ (List.mem_of_getElem? (i := 2) rfl)
theorem uw1182 : (Cond.code yX11_hush cX11_hush 5 (some .int)) ∈ UW := inR50 _ (List.mem_of_getElem? (i := 6) rfl)
theorem uw1183 : (Cond.methodLink RX11 340 yX4_readiesHush) ∈ UW := inR50 _ (List.mem_of_getElem? (i := 7) rfl)
theorem uw1184 : (Cond.instanceMethod yX4_readiesHush) ∈ UW := inR50 _ (List.mem_of_getElem? (i := 8) rfl)
theorem uw1185 : (Cond.selects RX4 yX4_readiesHush yX4_readiesHush) ∈ UW := inR50 _ (List.mem_of_getElem? (i := 9) rfl)
theorem uw1186 : (Cond.code yX4_readiesHush cX4_readiesHush 4 none) ∈ UW := inR50 _ (List.mem_of_getElem? (i := 10) rfl)
theorem uw1187 : (Cond.fieldLink RX4 40 "NamesInMouths$Plays" "hushReady" "Z") ∈ UW := inR50 _ (List.mem_of_getElem? (i := 11) rfl)
theorem uw1188 : (Cond.methodLink RX4 44 yX4_winningTake) ∈ UW := inR50 _ (List.mem_of_getElem? (i := 12) rfl)
theorem uw1189 : (Cond.instanceMethod yX4_winningTake) ∈ UW := inR50 _ (List.mem_of_getElem? (i := 13) rfl)
theorem uw1190 : (Cond.selects RX4 yX4_winningTake yX4_winningTake) ∈ UW := inR50 _ (List.mem_of_getElem? (i := 14) rfl)
theorem uw1191 : (Cond.code yX4_winningTake cX4_winningTake 5 (some .int)) ∈ UW := inR50 _ (List.mem_of_getElem? (i := 15) rfl)
theorem uw1192 : (Cond.methodLink RX4 47 yX4_wins) ∈ UW := inR50 _ (List.mem_of_getElem? (i := 16) rfl)
theorem uw1193 : (Cond.instanceMethod yX4_wins) ∈ UW := inR50 _ (List.mem_of_getElem? (i := 17) rfl)
theorem uw1194 : (Cond.selects RX4 yX4_wins yX4_wins) ∈ UW := inR50 _ (List.mem_of_getElem? (i := 18) rfl)
theorem uw1195 : (Cond.code yX4_wins cX4_wins 3 (some .boolean)) ∈ UW := inR50 _ (List.mem_of_getElem? (i := 19) rfl)
theorem uw1196 : (Cond.methodLink RX11 343 yX4_winningTake) ∈ UW := inR50 _ (List.mem_of_getElem? (i := 20) rfl)
theorem uw1197 : (Cond.methodLink RX11 346 yX4_wins) ∈ UW := inR50 _ (List.mem_of_getElem? (i := 21) rfl)
theorem uw1201 : (Cond.code yX12_hush cX12_hush 5 (some .int)) ∈ UW := inR51 _ (List.mem_of_getElem? (i := 1) rfl)
theorem uw1202 : (Cond.methodLink RX12 362 yX12_moveOf) ∈ UW := inR51 _ (List.mem_of_getElem? (i := 2) rfl)
theorem uw1203 : (Cond.instanceMethod yX12_moveOf) ∈ UW := inR51 _ (List.mem_of_getElem? (i := 3) rfl)
theorem uw1204 : (Cond.selects RX12 yX12_moveOf yX12_moveOf) ∈ UW := inR51 _ (List.mem_of_getElem? (i := 4) rfl)
theorem uw1205 : (Cond.code yX12_moveOf cX12_moveOf 5 (some .int)) ∈ UW := inR51 _ (List.mem_of_getElem? (i := 5) rfl)
theorem uw1209 : (Cond.code yX11_rests cX11_rests 5 (some .int)) ∈ UW := inR51 _ (List.mem_of_getElem? (i := 9) rfl)
theorem uw1210 : (Cond.methodLink RX11 349 yX4_readiesRests) ∈ UW := inR51 _ (List.mem_of_getElem? (i := 10) rfl)
theorem uw1211 : (Cond.instanceMethod yX4_readiesRests) ∈ UW := inR51 _ (List.mem_of_getElem? (i := 11) rfl)
theorem uw1212 : (Cond.selects RX4 yX4_readiesRests yX4_readiesRests) ∈ UW := inR51 _ (List.mem_of_getElem? (i := 12) rfl)
theorem uw1213 : (Cond.code yX4_readiesRests cX4_readiesRests 4 none) ∈ UW := inR51 _ (List.mem_of_getElem? (i := 13) rfl)
theorem uw1214 : (Cond.methodLink RX4 51 yX4_gain) ∈ UW := inR51 _ (List.mem_of_getElem? (i := 14) rfl)
theorem uw1215 : (Cond.static yX4_gain) ∈ UW := inR51 _ (List.mem_of_getElem? (i := 15) rfl)
theorem uw1216 : (Cond.code yX4_gain cX4_gain 4 (some .int)) ∈ UW := inR51 _ (List.mem_of_getElem? (i := 16) rfl)
theorem uw1217 : (Cond.methodLink RX11 353 yX4_isRest) ∈ UW := inR51 _ (List.mem_of_getElem? (i := 17) rfl)
theorem uw1218 : (Cond.instanceMethod yX4_isRest) ∈ UW := inR51 _ (List.mem_of_getElem? (i := 18) rfl)
theorem uw1219 : (Cond.selects RX4 yX4_isRest yX4_isRest) ∈ UW := inR51 _ (List.mem_of_getElem? (i := 19) rfl)
theorem uw1220 : (Cond.code yX4_isRest cX4_isRest 4 (some .boolean)) ∈ UW := inR51 _ (List.mem_of_getElem? (i := 20) rfl)
theorem uw1224 : (Cond.code yX12_rests cX12_rests 5 (some .int)) ∈ UW := inR52 _ (List.mem_of_getElem? (i := 0) rfl)
theorem uw1225 : (Cond.methodLink RX12 369 yX12_isBest) ∈ UW := inR52 _ (List.mem_of_getElem? (i := 1) rfl)
theorem uw1226 : (Cond.static yX12_isBest) ∈ UW := inR52 _ (List.mem_of_getElem? (i := 2) rfl)
theorem uw1227 : (Cond.code yX12_isBest cX12_isBest 4 (some .boolean)) ∈ UW := inR52 _ (List.mem_of_getElem? (i := 3) rfl)
theorem uw1228 : (Cond.methodLink RX12 365 yX12_gets) ∈ UW := inR52 _ (List.mem_of_getElem? (i := 4) rfl)
theorem uw1229 : (Cond.static yX12_gets) ∈ UW := inR52 _ (List.mem_of_getElem? (i := 5) rfl)
theorem uw1230 : (Cond.code yX12_gets cX12_gets 3 (some .int)) ∈ UW := inR52 _ (List.mem_of_getElem? (i := 6) rfl)
theorem uw1234 : (Cond.code yX11_law cX11_law 5 (some .int)) ∈ UW := inR52 _ (List.mem_of_getElem? (i := 10) rfl)
theorem uw1235 : (Cond.methodLink RX11 356 yX2_pairs) ∈ UW := inR52 _ (List.mem_of_getElem? (i := 11) rfl)
theorem uw1236 : (Cond.instanceMethod yX2_pairs) ∈ UW := inR52 _ (List.mem_of_getElem? (i := 12) rfl)
theorem uw1237 : (Cond.selects RX2 yX2_pairs yX2_pairs) ∈ UW := inR52 _ (List.mem_of_getElem? (i := 13) rfl)
theorem uw1238 : (Cond.code yX2_pairs cX2_pairs 4 (some .int)) ∈ UW := inR52 _ (List.mem_of_getElem? (i := 14) rfl)
theorem uw1239 : (Cond.methodLink RX2 59 yX2_sayable) ∈ UW := inR52 _ (List.mem_of_getElem? (i := 15) rfl)
theorem uw1240 : (Cond.methodLink RX2 63 yJ6_bitCount_0f7a4) ∈ UW := inR52 _ (List.mem_of_getElem? (i := 16) rfl)
theorem uw1244 : (Cond.code yX12_law cX12_law 7 (some .int)) ∈ UW := inR52 _ (List.mem_of_getElem? (i := 20) rfl)
theorem uw1245 : (Cond.methodLink RX12 372 yX12_pairs) ∈ UW := inR52 _ (List.mem_of_getElem? (i := 21) rfl)
theorem uw1246 : (Cond.instanceMethod yX12_pairs) ∈ UW := inR52 _ (List.mem_of_getElem? (i := 22) rfl)
theorem uw1247 : (Cond.selects RX12 yX12_pairs yX12_pairs) ∈ UW := inR52 _ (List.mem_of_getElem? (i := 23) rfl)
theorem uw1248 : (Cond.code yX12_pairs cX12_pairs 3 (some .int)) ∈ UW := inR53 _ (List.mem_of_getElem? (i := 0) rfl)
theorem uw1252 : (Cond.code yX11_years cX11_years 4 (some .int)) ∈ UW := inR53 _ (List.mem_of_getElem? (i := 4) rfl)
theorem uw1253 : (Cond.fieldLink RX11 360 "NamesInMouths$Plays" "lot" "I") ∈ UW := inR53 _ (List.mem_of_getElem? (i := 5) rfl)
theorem uw1254 : (Cond.methodLink RX11 363 yX4_draw) ∈ UW := inR53 _ (List.mem_of_getElem? (i := 6) rfl)
theorem uw1255 : (Cond.instanceMethod yX4_draw) ∈ UW := inR53 _ (List.mem_of_getElem? (i := 7) rfl)
theorem uw1256 : (Cond.selects RX4 yX4_draw yX4_draw) ∈ UW := inR53 _ (List.mem_of_getElem? (i := 8) rfl)
theorem uw1257 : (Cond.code yX4_draw cX4_draw 2 (some .int)) ∈ UW := inR53 _ (List.mem_of_getElem? (i := 9) rfl)
theorem uw1258 : (Cond.fieldLink RX4 55 "NamesInMouths$Plays" "lot" "I") ∈ UW := inR53 _ (List.mem_of_getElem? (i := 10) rfl)
theorem uw1259 : (Cond.constant RX4 59 (1103515245)) ∈ UW := inR53 _ (List.mem_of_getElem? (i := 11) rfl)
theorem uw1260 : (Cond.methodLink RX11 366 yX11_triesDrawn) ∈ UW := inR53 _ (List.mem_of_getElem? (i := 12) rfl)
theorem uw1261 : (Cond.instanceMethod yX11_triesDrawn) ∈ UW := inR53 _ (List.mem_of_getElem? (i := 13) rfl)
theorem uw1262 : (Cond.selects RX11 yX11_triesDrawn yX11_triesDrawn) ∈ UW := inR53 _ (List.mem_of_getElem? (i := 14) rfl)
theorem uw1263 : (Cond.code yX11_triesDrawn cX11_triesDrawn 3 none) ∈ UW := inR53 _ (List.mem_of_getElem? (i := 15) rfl)
theorem uw1267 : (Cond.code yX12_years cX12_years 7 (some .int)) ∈ UW := inR53 _ (List.mem_of_getElem? (i := 19) rfl)
theorem uw1268 : (Cond.fieldLink RX12 375 "NamesInMouthsModel" "drawn" "I") ∈ UW := inR53 _ (List.mem_of_getElem? (i := 20) rfl)
theorem uw1269 : (Cond.methodLink RX12 379 yX12_draw) ∈ UW := inR53 _ (List.mem_of_getElem? (i := 21) rfl)
theorem uw1270 : (Cond.instanceMethod yX12_draw) ∈ UW := inR53 _ (List.mem_of_getElem? (i := 22) rfl)
theorem uw1271 : (Cond.selects RX12 yX12_draw yX12_draw) ∈ UW := inR53 _ (List.mem_of_getElem? (i := 23) rfl)
theorem uw1272 : (Cond.code yX12_draw cX12_draw 2 (some .int)) ∈ UW := inR54 _ (List.mem_of_getElem? (i := 0) rfl)
theorem uw1273 : (Cond.constant RX12 378 (1103515245)) ∈ UW := inR54 _ (List.mem_of_getElem? (i := 1) rfl)
theorem uw1277 : (Cond.code yX11_keep cX11_keep 2 (some .boolean)) ∈ UW := inR54 _ (List.mem_of_getElem? (i := 5) rfl)
theorem uw1278 : (Cond.methodLink RX11 369 yX3_shelves) ∈ UW := inR54 _ (List.mem_of_getElem? (i := 6) rfl)
theorem uw1279 : (Cond.instanceMethod yX3_shelves) ∈ UW := inR54 _ (List.mem_of_getElem? (i := 7) rfl)
theorem uw1280 : (Cond.selects RX3 yX3_shelves yX3_shelves) ∈ UW := inR54 _ (List.mem_of_getElem? (i := 8) rfl)
theorem uw1281 : (Cond.code yX3_shelves cX3_shelves 3 (some .boolean)) ∈ UW := inR54 _ (List.mem_of_getElem? (i := 9) rfl)
theorem uw1285 : (Cond.code yX12_keep cX12_keep 2 (some .boolean)) ∈ UW := inR54 _ (List.mem_of_getElem? (i := 13) rfl)
theorem uw1289 : (Cond.code yX11_again cX11_again 2 (some .boolean)) ∈ UW := inR54 _ (List.mem_of_getElem? (i := 17) rfl)
theorem uw1290 : (Cond.methodLink RX11 373 yX3_unshelves) ∈ UW := inR54 _ (List.mem_of_getElem? (i := 18) rfl)
theorem uw1291 : (Cond.instanceMethod yX3_unshelves) ∈ UW := inR54 _ (List.mem_of_getElem? (i := 19) rfl)
theorem uw1292 : (Cond.selects RX3 yX3_unshelves yX3_unshelves) ∈ UW := inR54 _ (List.mem_of_getElem? (i := 20) rfl)
theorem uw1293 : (Cond.code yX3_unshelves cX3_unshelves 3 (some .boolean)) ∈ UW := inR54 _ (List.mem_of_getElem? (i := 21) rfl)
theorem uw1297 : (Cond.code yX12_again cX12_again 3 (some .boolean)) ∈ UW := inR55 _ (List.mem_of_getElem? (i := 1) rfl)
theorem uw1301 : (Cond.code yX11_count cX11_count 2 (some .int)) ∈ UW := inR55 _ (List.mem_of_getElem? (i := 5) rfl)
theorem uw1302 : (Cond.fieldLink RX11 376 "NamesInMouths$Fen" "day" "I") ∈ UW := inR55 _ (List.mem_of_getElem? (i := 6) rfl)
theorem uw1303 : (Cond.fieldLink RX11 383 "NamesInMouths$Told" "size" "I") ∈ UW := inR55 _ (List.mem_of_getElem? (i := 7) rfl)
theorem uw1304 : (Cond.methodLink RX11 379 yX2_sum) ∈ UW := inR55 _ (List.mem_of_getElem? (i := 8) rfl)
theorem uw1308 : (Cond.code yX12_count cX12_count 2 (some .int)) ∈ UW := inR55 _ (List.mem_of_getElem? (i := 12) rfl)
theorem uw1309 : (Cond.methodLink RX12 382 yX12_voices) ∈ UW := inR55 _ (List.mem_of_getElem? (i := 13) rfl)
theorem uw1310 : (Cond.instanceMethod yX12_voices) ∈ UW := inR55 _ (List.mem_of_getElem? (i := 14) rfl)
theorem uw1311 : (Cond.selects RX12 yX12_voices yX12_voices) ∈ UW := inR55 _ (List.mem_of_getElem? (i := 15) rfl)
theorem uw1312 : (Cond.code yX12_voices cX12_voices 3 (some .int)) ∈ UW := inR55 _ (List.mem_of_getElem? (i := 16) rfl)
theorem uw1319 : (Cond.code yX11_row cX11_row 2 (some .long)) ∈ UW := inR55 _ (List.mem_of_getElem? (i := 23) rfl)
theorem uw1320 : (Cond.fieldLink RX11 384 "NamesInMouths$Told" "numbers" "[J") ∈ UW := inR56 _ (List.mem_of_getElem? (i := 0) rfl)
theorem uw1324 : (Cond.code yX12_row cX12_row 2 (some .long)) ∈ UW := inR56 _ (List.mem_of_getElem? (i := 4) rfl)
def M_X5_becomesNone : Mt := (RX5, yX5_becomesNone, Cond.code yX5_becomesNone cX5_becomesNone 1 none :: UW, cX5_becomesNone, 1, none)
theorem mk_X5_becomesNone : MOK M_X5_becomesNone := ⟨by decide +kernel, rfl, rfl, uw129, by decide⟩
def M_X5_puts : Mt := (RX5, yX5_puts, Cond.code yX5_puts cX5_puts 2 none :: UW, cX5_puts, 2, none)
theorem mk_X5_puts : MOK M_X5_puts := ⟨by decide +kernel, rfl, rfl, uw134, by decide⟩
def M_X11_sign : Mt := (RX11, yX11_sign, Cond.code yX11_sign cX11_sign 2 (some .int) :: UW, cX11_sign, 2, (some .int))
theorem mk_X11_sign : MOK M_X11_sign := ⟨by decide +kernel, rfl, rfl, uw174, by decide⟩
def M_X8_adds : Mt := (RX8, yX8_adds, Cond.code yX8_adds cX8_adds 3 (some .boolean) :: UW, cX8_adds, 3, (some .boolean))
theorem mk_X8_adds : MOK M_X8_adds := ⟨by decide +kernel, rfl, rfl, uw179, by decide⟩
def M_X12_sign : Mt := (RX12, yX12_sign, Cond.code yX12_sign cX12_sign 3 (some .int) :: UW, cX12_sign, 3, (some .int))
theorem mk_X12_sign : MOK M_X12_sign := ⟨by decide +kernel, rfl, rfl, uw184, by decide⟩
def M_X11_end : Mt := (RX11, yX11_end, Cond.code yX11_end cX11_end 2 (some .boolean) :: UW, cX11_end, 2, (some .boolean))
theorem mk_X11_end : MOK M_X11_end := ⟨by decide +kernel, rfl, rfl, uw190, by decide⟩
def M_X8_cuts : Mt := (RX8, yX8_cuts, Cond.code yX8_cuts cX8_cuts 2 (some .boolean) :: UW, cX8_cuts, 2, (some .boolean))
theorem mk_X8_cuts : MOK M_X8_cuts := ⟨by decide +kernel, rfl, rfl, uw194, by decide⟩
def M_X12_end : Mt := (RX12, yX12_end, Cond.code yX12_end cX12_end 2 (some .boolean) :: UW, cX12_end, 2, (some .boolean))
theorem mk_X12_end : MOK M_X12_end := ⟨by decide +kernel, rfl, rfl, uw198, by decide⟩
def M_X12_in : Mt := (RX12, yX12_in, Cond.code yX12_in cX12_in 3 (some .boolean) :: UW, cX12_in, 3, (some .boolean))
theorem mk_X12_in : MOK M_X12_in := ⟨by decide +kernel, rfl, rfl, uw201, by decide⟩
def M_X11_people : Mt := (RX11, yX11_people, Cond.code yX11_people cX11_people 3 (some .int) :: UW, cX11_people, 3, (some .int))
theorem mk_X11_people : MOK M_X11_people := ⟨by decide +kernel, rfl, rfl, uw205, by decide⟩
def M_X11_peopleWrongAt : Mt := (RX11, yX11_peopleWrongAt, Cond.code yX11_peopleWrongAt cX11_peopleWrongAt 3 (some .int) :: UW, cX11_peopleWrongAt, 3, (some .int))
theorem mk_X11_peopleWrongAt : MOK M_X11_peopleWrongAt := ⟨by decide +kernel, rfl, rfl, uw209, by decide⟩
def M_X11_standsInLine : Mt := (RX11, yX11_standsInLine, Cond.code yX11_standsInLine cX11_standsInLine 4 (some .boolean) :: UW, cX11_standsInLine, 4, (some .boolean))
theorem mk_X11_standsInLine : MOK M_X11_standsInLine := ⟨by decide +kernel, rfl, rfl, uw217, by decide⟩
def M_X8_at : Mt := (RX8, yX8_at, Cond.code yX8_at cX8_at 2 (some .int) :: UW, cX8_at, 2, (some .int))
theorem mk_X8_at : MOK M_X8_at := ⟨by decide +kernel, rfl, rfl, uw222, by decide⟩
def M_X8_isDigit : Mt := (RX8, yX8_isDigit, Cond.code yX8_isDigit cX8_isDigit 3 (some .boolean) :: UW, cX8_isDigit, 3, (some .boolean))
theorem mk_X8_isDigit : MOK M_X8_isDigit := ⟨by decide +kernel, rfl, rfl, uw226, by decide⟩
def M_X11_takePeople : Mt := (RX11, yX11_takePeople, Cond.code yX11_takePeople cX11_takePeople 3 (some .int) :: UW, cX11_takePeople, 3, (some .int))
theorem mk_X11_takePeople : MOK M_X11_takePeople := ⟨by decide +kernel, rfl, rfl, uw231, by decide⟩
def M_X8_digit : Mt := (RX8, yX8_digit, Cond.code yX8_digit cX8_digit 2 (some .int) :: UW, cX8_digit, 2, (some .int))
theorem mk_X8_digit : MOK M_X8_digit := ⟨by decide +kernel, rfl, rfl, uw235, by decide⟩
def M_X8_twoDigits : Mt := (RX8, yX8_twoDigits, Cond.code yX8_twoDigits cX8_twoDigits 2 (some .int) :: UW, cX8_twoDigits, 2, (some .int))
theorem mk_X8_twoDigits : MOK M_X8_twoDigits := ⟨by decide +kernel, rfl, rfl, uw240, by decide⟩
def M_X2_adds : Mt := (RX2, yX2_adds, Cond.code yX2_adds cX2_adds 4 none :: UW, cX2_adds, 4, none)
theorem mk_X2_adds : MOK M_X2_adds := ⟨by decide +kernel, rfl, rfl, uw245, by decide⟩
def M_X3_forgetsAll : Mt := (RX3, yX3_forgetsAll, Cond.code yX3_forgetsAll cX3_forgetsAll 1 none :: UW, cX3_forgetsAll, 1, none)
theorem mk_X3_forgetsAll : MOK M_X3_forgetsAll := ⟨by decide +kernel, rfl, rfl, uw250, by decide⟩
def M_X12_people : Mt := (RX12, yX12_people, Cond.code yX12_people cX12_people 4 (some .int) :: UW, cX12_people, 4, (some .int))
theorem mk_X12_people : MOK M_X12_people := ⟨by decide +kernel, rfl, rfl, uw256, by decide⟩
def M_X12_beginText : Mt := (RX12, yX12_beginText, Cond.code yX12_beginText cX12_beginText 2 none :: UW, cX12_beginText, 2, none)
theorem mk_X12_beginText : MOK M_X12_beginText := ⟨by decide +kernel, rfl, rfl, uw266, by decide⟩
def M_X12_begin : Mt := (RX12, yX12_begin, Cond.code yX12_begin cX12_begin 4 none :: UW, cX12_begin, 4, none)
theorem mk_X12_begin : MOK M_X12_begin := ⟨by decide +kernel, rfl, rfl, uw270, by decide⟩
def M_X12_fine : Mt := (RX12, yX12_fine, Cond.code yX12_fine cX12_fine 1 (some .boolean) :: UW, cX12_fine, 1, (some .boolean))
theorem mk_X12_fine : MOK M_X12_fine := ⟨by decide +kernel, rfl, rfl, uw276, by decide⟩
def M_X12_fault : Mt := (RX12, yX12_fault, Cond.code yX12_fault cX12_fault 2 none :: UW, cX12_fault, 2, none)
theorem mk_X12_fault : MOK M_X12_fault := ⟨by decide +kernel, rfl, rfl, uw280, by decide⟩
def M_X12_oneOf : Mt := (RX12, yX12_oneOf, Cond.code yX12_oneOf cX12_oneOf 3 (some .int) :: UW, cX12_oneOf, 3, (some .int))
theorem mk_X12_oneOf : MOK M_X12_oneOf := ⟨by decide +kernel, rfl, rfl, uw284, by decide⟩
def M_X12_here : Mt := (RX12, yX12_here, Cond.code yX12_here cX12_here 1 (some .int) :: UW, cX12_here, 1, (some .int))
theorem mk_X12_here : MOK M_X12_here := ⟨by decide +kernel, rfl, rfl, uw288, by decide⟩
def M_X12_passes : Mt := (RX12, yX12_passes, Cond.code yX12_passes cX12_passes 2 (some .boolean) :: UW, cX12_passes, 2, (some .boolean))
theorem mk_X12_passes : MOK M_X12_passes := ⟨by decide +kernel, rfl, rfl, uw292, by decide⟩
def M_X12_wasRight : Mt := (RX12, yX12_wasRight, Cond.code yX12_wasRight cX12_wasRight 1 (some .boolean) :: UW, cX12_wasRight, 1, (some .boolean))
theorem mk_X12_wasRight : MOK M_X12_wasRight := ⟨by decide +kernel, rfl, rfl, uw296, by decide⟩
def M_X11_rule : Mt := (RX11, yX11_rule, Cond.code yX11_rule cX11_rule 3 (some .int) :: UW, cX11_rule, 3, (some .int))
theorem mk_X11_rule : MOK M_X11_rule := ⟨by decide +kernel, rfl, rfl, uw300, by decide⟩
def M_X6_reads : Mt := (RX6, yX6_reads, Cond.code yX6_reads cX6_reads 4 (some .int) :: UW, cX6_reads, 4, (some .int))
theorem mk_X6_reads : MOK M_X6_reads := ⟨by decide +kernel, rfl, rfl, uw304, by decide⟩
def M_X6_readsComparison : Mt := (RX6, yX6_readsComparison, Cond.code yX6_readsComparison cX6_readsComparison 3 (some .boolean) :: UW, cX6_readsComparison, 3, (some .boolean))
theorem mk_X6_readsComparison : MOK M_X6_readsComparison := ⟨by decide +kernel, rfl, rfl, uw314, by decide⟩
def M_X6_next : Mt := (RX6, yX6_next, Cond.code yX6_next cX6_next 1 (some .int) :: UW, cX6_next, 1, (some .int))
theorem mk_X6_next : MOK M_X6_next := ⟨by decide +kernel, rfl, rfl, uw321, by decide⟩
def M_X6_readsBracket : Mt := (RX6, yX6_readsBracket, Cond.code yX6_readsBracket cX6_readsBracket 2 (some .boolean) :: UW, cX6_readsBracket, 2, (some .boolean))
theorem mk_X6_readsBracket : MOK M_X6_readsBracket := ⟨by decide +kernel, rfl, rfl, uw324, by decide⟩
def M_X6_readsProduct : Mt := (RX6, yX6_readsProduct, Cond.code yX6_readsProduct cX6_readsProduct 5 (some .boolean) :: UW, cX6_readsProduct, 5, (some .boolean))
theorem mk_X6_readsProduct : MOK M_X6_readsProduct := ⟨by decide +kernel, rfl, rfl, uw325, by decide⟩
def M_X6_readsSigned : Mt := (RX6, yX6_readsSigned, Cond.code yX6_readsSigned cX6_readsSigned 4 (some .boolean) :: UW, cX6_readsSigned, 4, (some .boolean))
theorem mk_X6_readsSigned : MOK M_X6_readsSigned := ⟨by decide +kernel, rfl, rfl, uw329, by decide⟩
def M_X6_readsSum : Mt := (RX6, yX6_readsSum, Cond.code yX6_readsSum cX6_readsSum 5 (some .boolean) :: UW, cX6_readsSum, 5, (some .boolean))
theorem mk_X6_readsSum : MOK M_X6_readsSum := ⟨by decide +kernel, rfl, rfl, uw333, by decide⟩
def M_X6_readsThing : Mt := (RX6, yX6_readsThing, Cond.code yX6_readsThing cX6_readsThing 3 (some .boolean) :: UW, cX6_readsThing, 3, (some .boolean))
theorem mk_X6_readsThing : MOK M_X6_readsThing := ⟨by decide +kernel, rfl, rfl, uw337, by decide⟩
def M_X6_readsNumber : Mt := (RX6, yX6_readsNumber, Cond.code yX6_readsNumber cX6_readsNumber 4 (some .boolean) :: UW, cX6_readsNumber, 4, (some .boolean))
theorem mk_X6_readsNumber : MOK M_X6_readsNumber := ⟨by decide +kernel, rfl, rfl, uw344, by decide⟩
def M_X12_rule : Mt := (RX12, yX12_rule, Cond.code yX12_rule cX12_rule 3 (some .int) :: UW, cX12_rule, 3, (some .int))
theorem mk_X12_rule : MOK M_X12_rule := ⟨by decide +kernel, rfl, rfl, uw348, by decide⟩
def M_X12_readRule : Mt := (RX12, yX12_readRule, Cond.code yX12_readRule cX12_readRule 1 (some .boolean) :: UW, cX12_readRule, 1, (some .boolean))
theorem mk_X12_readRule : MOK M_X12_readRule := ⟨by decide +kernel, rfl, rfl, uw353, by decide⟩
def M_X12_held : Mt := (RX12, yX12_held, Cond.code yX12_held cX12_held 3 (some .int) :: UW, cX12_held, 3, (some .int))
theorem mk_X12_held : MOK M_X12_held := ⟨by decide +kernel, rfl, rfl, uw358, by decide⟩
def M_X12_product : Mt := (RX12, yX12_product, Cond.code yX12_product cX12_product 5 (some .int) :: UW, cX12_product, 5, (some .int))
theorem mk_X12_product : MOK M_X12_product := ⟨by decide +kernel, rfl, rfl, uw362, by decide⟩
def M_X12_sum : Mt := (RX12, yX12_sum, Cond.code yX12_sum cX12_sum 5 (some .int) :: UW, cX12_sum, 5, (some .int))
theorem mk_X12_sum : MOK M_X12_sum := ⟨by decide +kernel, rfl, rfl, uw366, by decide⟩
def M_X12_thing : Mt := (RX12, yX12_thing, Cond.code yX12_thing cX12_thing 4 (some .int) :: UW, cX12_thing, 4, (some .int))
theorem mk_X12_thing : MOK M_X12_thing := ⟨by decide +kernel, rfl, rfl, uw370, by decide⟩
def M_X12_need : Mt := (RX12, yX12_need, Cond.code yX12_need cX12_need 2 none :: UW, cX12_need, 2, none)
theorem mk_X12_need : MOK M_X12_need := ⟨by decide +kernel, rfl, rfl, uw374, by decide⟩
def M_X12_number : Mt := (RX12, yX12_number, Cond.code yX12_number cX12_number 4 (some .int) :: UW, cX12_number, 4, (some .int))
theorem mk_X12_number : MOK M_X12_number := ⟨by decide +kernel, rfl, rfl, uw378, by decide⟩
def M_X12_letterOf : Mt := (RX12, yX12_letterOf, Cond.code yX12_letterOf cX12_letterOf 1 (some .int) :: UW, cX12_letterOf, 1, (some .int))
theorem mk_X12_letterOf : MOK M_X12_letterOf := ⟨by decide +kernel, rfl, rfl, uw381, by decide⟩
def M_X11_one : Mt := (RX11, yX11_one, Cond.code yX11_one cX11_one 3 (some .int) :: UW, cX11_one, 3, (some .int))
theorem mk_X11_one : MOK M_X11_one := ⟨by decide +kernel, rfl, rfl, uw390, by decide⟩
def M_X2_has : Mt := (RX2, yX2_has, Cond.code yX2_has cX2_has 2 (some .boolean) :: UW, cX2_has, 2, (some .boolean))
theorem mk_X2_has : MOK M_X2_has := ⟨by decide +kernel, rfl, rfl, uw399, by decide⟩
def M_X2_held : Mt := (RX2, yX2_held, Cond.code yX2_held cX2_held 4 (some .int) :: UW, cX2_held, 4, (some .int))
theorem mk_X2_held : MOK M_X2_held := ⟨by decide +kernel, rfl, rfl, uw403, by decide⟩
def M_X2_sayable : Mt := (RX2, yX2_sayable, Cond.code yX2_sayable cX2_sayable 5 (some .int) :: UW, cX2_sayable, 5, (some .int))
theorem mk_X2_sayable : MOK M_X2_sayable := ⟨by decide +kernel, rfl, rfl, uw407, by decide⟩
def M_X2_can : Mt := (RX2, yX2_can, Cond.code yX2_can cX2_can 4 (some .boolean) :: UW, cX2_can, 4, (some .boolean))
theorem mk_X2_can : MOK M_X2_can := ⟨by decide +kernel, rfl, rfl, uw411, by decide⟩
def M_X5_worth : Mt := (RX5, yX5_worth, Cond.code yX5_worth cX5_worth 7 (some .int) :: UW, cX5_worth, 7, (some .int))
theorem mk_X5_worth : MOK M_X5_worth := ⟨by decide +kernel, rfl, rfl, uw415, by decide⟩
def M_X5_thing : Mt := (RX5, yX5_thing, Cond.code yX5_thing cX5_thing 5 (some .int) :: UW, cX5_thing, 5, (some .int))
theorem mk_X5_thing : MOK M_X5_thing := ⟨by decide +kernel, rfl, rfl, uw418, by decide⟩
def M_J6_bitCount_0f7a4 : Mt := (RJ6, yJ6_bitCount_0f7a4, Cond.code yJ6_bitCount_0f7a4 cJ6_bitCount_0f7a4 1 (some .int) :: UW, cJ6_bitCount_0f7a4, 1, (some .int))
theorem mk_J6_bitCount_0f7a4 : MOK M_J6_bitCount_0f7a4 := ⟨by decide +kernel, rfl, rfl, uw431, by decide⟩
def M_X5_joined : Mt := (RX5, yX5_joined, Cond.code yX5_joined cX5_joined 3 (some .int) :: UW, cX5_joined, 3, (some .int))
theorem mk_X5_joined : MOK M_X5_joined := ⟨by decide +kernel, rfl, rfl, uw437, by decide⟩
def M_X12_one : Mt := (RX12, yX12_one, Cond.code yX12_one cX12_one 3 (some .int) :: UW, cX12_one, 3, (some .int))
theorem mk_X12_one : MOK M_X12_one := ⟨by decide +kernel, rfl, rfl, uw441, by decide⟩
def M_X12_isOne : Mt := (RX12, yX12_isOne, Cond.code yX12_isOne cX12_isOne 2 (some .boolean) :: UW, cX12_isOne, 2, (some .boolean))
theorem mk_X12_isOne : MOK M_X12_isOne := ⟨by decide +kernel, rfl, rfl, uw445, by decide⟩
def M_X12_lost : Mt := (RX12, yX12_lost, Cond.code yX12_lost cX12_lost 1 (some .int) :: UW, cX12_lost, 1, (some .int))
theorem mk_X12_lost : MOK M_X12_lost := ⟨by decide +kernel, rfl, rfl, uw449, by decide⟩
def M_X12_heldBy : Mt := (RX12, yX12_heldBy, Cond.code yX12_heldBy cX12_heldBy 5 (some .int) :: UW, cX12_heldBy, 5, (some .int))
theorem mk_X12_heldBy : MOK M_X12_heldBy := ⟨by decide +kernel, rfl, rfl, uw453, by decide⟩
def M_X12_sayable : Mt := (RX12, yX12_sayable, Cond.code yX12_sayable cX12_sayable 5 (some .int) :: UW, cX12_sayable, 5, (some .int))
theorem mk_X12_sayable : MOK M_X12_sayable := ⟨by decide +kernel, rfl, rfl, uw457, by decide⟩
def M_X12_canSay : Mt := (RX12, yX12_canSay, Cond.code yX12_canSay cX12_canSay 6 (some .boolean) :: UW, cX12_canSay, 6, (some .boolean))
theorem mk_X12_canSay : MOK M_X12_canSay := ⟨by decide +kernel, rfl, rfl, uw461, by decide⟩
def M_X12_farOf : Mt := (RX12, yX12_farOf, Cond.code yX12_farOf cX12_farOf 3 (some .int) :: UW, cX12_farOf, 3, (some .int))
theorem mk_X12_farOf : MOK M_X12_farOf := ⟨by decide +kernel, rfl, rfl, uw464, by decide⟩
def M_X12_thrown : Mt := (RX12, yX12_thrown, Cond.code yX12_thrown cX12_thrown 1 (some .int) :: UW, cX12_thrown, 1, (some .int))
theorem mk_X12_thrown : MOK M_X12_thrown := ⟨by decide +kernel, rfl, rfl, uw470, by decide⟩
def M_X11_name : Mt := (RX11, yX11_name, Cond.code yX11_name cX11_name 3 (some .int) :: UW, cX11_name, 3, (some .int))
theorem mk_X11_name : MOK M_X11_name := ⟨by decide +kernel, rfl, rfl, uw477, by decide⟩
def M_X2_sayers : Mt := (RX2, yX2_sayers, Cond.code yX2_sayers cX2_sayers 5 (some .int) :: UW, cX2_sayers, 5, (some .int))
theorem mk_X2_sayers : MOK M_X2_sayers := ⟨by decide +kernel, rfl, rfl, uw483, by decide⟩
def M_X2_far : Mt := (RX2, yX2_far, Cond.code yX2_far cX2_far 3 (some .int) :: UW, cX2_far, 3, (some .int))
theorem mk_X2_far : MOK M_X2_far := ⟨by decide +kernel, rfl, rfl, uw487, by decide⟩
def M_X12_name : Mt := (RX12, yX12_name, Cond.code yX12_name cX12_name 3 (some .int) :: UW, cX12_name, 3, (some .int))
theorem mk_X12_name : MOK M_X12_name := ⟨by decide +kernel, rfl, rfl, uw492, by decide⟩
def M_X12_sayers : Mt := (RX12, yX12_sayers, Cond.code yX12_sayers cX12_sayers 4 (some .int) :: UW, cX12_sayers, 4, (some .int))
theorem mk_X12_sayers : MOK M_X12_sayers := ⟨by decide +kernel, rfl, rfl, uw496, by decide⟩
def M_X11_sheet : Mt := (RX11, yX11_sheet, Cond.code yX11_sheet cX11_sheet 5 (some .int) :: UW, cX11_sheet, 5, (some .int))
theorem mk_X11_sheet : MOK M_X11_sheet := ⟨by decide +kernel, rfl, rfl, uw500, by decide⟩
def M_X11_fillPurses : Mt := (RX11, yX11_fillPurses, Cond.code yX11_fillPurses cX11_fillPurses 7 none :: UW, cX11_fillPurses, 7, none)
theorem mk_X11_fillPurses : MOK M_X11_fillPurses := ⟨by decide +kernel, rfl, rfl, uw504, by decide⟩
def M_X2_purses : Mt := (RX2, yX2_purses, Cond.code yX2_purses cX2_purses 1 (some .int) :: UW, cX2_purses, 1, (some .int))
theorem mk_X2_purses : MOK M_X2_purses := ⟨by decide +kernel, rfl, rfl, uw511, by decide⟩
def M_X2_sum : Mt := (RX2, yX2_sum, Cond.code yX2_sum cX2_sum 4 (some .int) :: UW, cX2_sum, 4, (some .int))
theorem mk_X2_sum : MOK M_X2_sum := ⟨by decide +kernel, rfl, rfl, uw515, by decide⟩
def M_X12_sheet : Mt := (RX12, yX12_sheet, Cond.code yX12_sheet cX12_sheet 8 (some .int) :: UW, cX12_sheet, 8, (some .int))
theorem mk_X12_sheet : MOK M_X12_sheet := ⟨by decide +kernel, rfl, rfl, uw519, by decide⟩
def M_X12_sumOf : Mt := (RX12, yX12_sumOf, Cond.code yX12_sumOf cX12_sumOf 5 (some .int) :: UW, cX12_sumOf, 5, (some .int))
theorem mk_X12_sumOf : MOK M_X12_sumOf := ⟨by decide +kernel, rfl, rfl, uw525, by decide⟩
def M_X11_says : Mt := (RX11, yX11_says, Cond.code yX11_says cX11_says 3 (some .int) :: UW, cX11_says, 3, (some .int))
theorem mk_X11_says : MOK M_X11_says := ⟨by decide +kernel, rfl, rfl, uw529, by decide⟩
def M_X3_marks : Mt := (RX3, yX3_marks, Cond.code yX3_marks cX3_marks 2 none :: UW, cX3_marks, 2, none)
theorem mk_X3_marks : MOK M_X3_marks := ⟨by decide +kernel, rfl, rfl, uw533, by decide⟩
def M_X2_writes : Mt := (RX2, yX2_writes, Cond.code yX2_writes cX2_writes 3 none :: UW, cX2_writes, 3, none)
theorem mk_X2_writes : MOK M_X2_writes := ⟨by decide +kernel, rfl, rfl, uw538, by decide⟩
def M_X2_saidBy : Mt := (RX2, yX2_saidBy, Cond.code yX2_saidBy cX2_saidBy 5 (some .int) :: UW, cX2_saidBy, 5, (some .int))
theorem mk_X2_saidBy : MOK M_X2_saidBy := ⟨by decide +kernel, rfl, rfl, uw548, by decide⟩
def M_X2_say : Mt := (RX2, yX2_say, Cond.code yX2_say cX2_say 3 none :: UW, cX2_say, 3, none)
theorem mk_X2_say : MOK M_X2_say := ⟨by decide +kernel, rfl, rfl, uw553, by decide⟩
def M_X11_keepDone : Mt := (RX11, yX11_keepDone, Cond.code yX11_keepDone cX11_keepDone 2 (some .int) :: UW, cX11_keepDone, 2, (some .int))
theorem mk_X11_keepDone : MOK M_X11_keepDone := ⟨by decide +kernel, rfl, rfl, uw558, by decide⟩
def M_X3_keepMarked : Mt := (RX3, yX3_keepMarked, Cond.code yX3_keepMarked cX3_keepMarked 1 none :: UW, cX3_keepMarked, 1, none)
theorem mk_X3_keepMarked : MOK M_X3_keepMarked := ⟨by decide +kernel, rfl, rfl, uw562, by decide⟩
def M_X12_says : Mt := (RX12, yX12_says, Cond.code yX12_says cX12_says 5 (some .int) :: UW, cX12_says, 5, (some .int))
theorem mk_X12_says : MOK M_X12_says := ⟨by decide +kernel, rfl, rfl, uw567, by decide⟩
def M_X12_refusesSaying : Mt := (RX12, yX12_refusesSaying, Cond.code yX12_refusesSaying cX12_refusesSaying 4 (some .int) :: UW, cX12_refusesSaying, 4, (some .int))
theorem mk_X12_refusesSaying : MOK M_X12_refusesSaying := ⟨by decide +kernel, rfl, rfl, uw571, by decide⟩
def M_X12_remember : Mt := (RX12, yX12_remember, Cond.code yX12_remember cX12_remember 3 none :: UW, cX12_remember, 3, none)
theorem mk_X12_remember : MOK M_X12_remember := ⟨by decide +kernel, rfl, rfl, uw575, by decide⟩
def M_X12_lay : Mt := (RX12, yX12_lay, Cond.code yX12_lay cX12_lay 4 none :: UW, cX12_lay, 4, none)
theorem mk_X12_lay : MOK M_X12_lay := ⟨by decide +kernel, rfl, rfl, uw578, by decide⟩
def M_X12_goSaying : Mt := (RX12, yX12_goSaying, Cond.code yX12_goSaying cX12_goSaying 3 none :: UW, cX12_goSaying, 3, none)
theorem mk_X12_goSaying : MOK M_X12_goSaying := ⟨by decide +kernel, rfl, rfl, uw581, by decide⟩
def M_X11_signs : Mt := (RX11, yX11_signs, Cond.code yX11_signs cX11_signs 3 (some .int) :: UW, cX11_signs, 3, (some .int))
theorem mk_X11_signs : MOK M_X11_signs := ⟨by decide +kernel, rfl, rfl, uw585, by decide⟩
def M_X2_signedFor : Mt := (RX2, yX2_signedFor, Cond.code yX2_signedFor cX2_signedFor 4 (some .int) :: UW, cX2_signedFor, 4, (some .int))
theorem mk_X2_signedFor : MOK M_X2_signedFor := ⟨by decide +kernel, rfl, rfl, uw589, by decide⟩
def M_X12_signs : Mt := (RX12, yX12_signs, Cond.code yX12_signs cX12_signs 4 (some .int) :: UW, cX12_signs, 4, (some .int))
theorem mk_X12_signs : MOK M_X12_signs := ⟨by decide +kernel, rfl, rfl, uw593, by decide⟩
def M_X12_refusesDeed : Mt := (RX12, yX12_refusesDeed, Cond.code yX12_refusesDeed cX12_refusesDeed 4 (some .int) :: UW, cX12_refusesDeed, 4, (some .int))
theorem mk_X12_refusesDeed : MOK M_X12_refusesDeed := ⟨by decide +kernel, rfl, rfl, uw597, by decide⟩
def M_X12_goDeed : Mt := (RX12, yX12_goDeed, Cond.code yX12_goDeed cX12_goDeed 4 (some .int) :: UW, cX12_goDeed, 4, (some .int))
theorem mk_X12_goDeed : MOK M_X12_goDeed := ⟨by decide +kernel, rfl, rfl, uw601, by decide⟩
def M_X11_moves : Mt := (RX11, yX11_moves, Cond.code yX11_moves cX11_moves 3 (some .int) :: UW, cX11_moves, 3, (some .int))
theorem mk_X11_moves : MOK M_X11_moves := ⟨by decide +kernel, rfl, rfl, uw605, by decide⟩
def M_X2_movedTo : Mt := (RX2, yX2_movedTo, Cond.code yX2_movedTo cX2_movedTo 4 (some .int) :: UW, cX2_movedTo, 4, (some .int))
theorem mk_X2_movedTo : MOK M_X2_movedTo := ⟨by decide +kernel, rfl, rfl, uw609, by decide⟩
def M_X12_moves : Mt := (RX12, yX12_moves, Cond.code yX12_moves cX12_moves 5 (some .int) :: UW, cX12_moves, 5, (some .int))
theorem mk_X12_moves : MOK M_X12_moves := ⟨by decide +kernel, rfl, rfl, uw613, by decide⟩
def M_X12_refusesMove : Mt := (RX12, yX12_refusesMove, Cond.code yX12_refusesMove cX12_refusesMove 4 (some .int) :: UW, cX12_refusesMove, 4, (some .int))
theorem mk_X12_refusesMove : MOK M_X12_refusesMove := ⟨by decide +kernel, rfl, rfl, uw617, by decide⟩
def M_X11_calls : Mt := (RX11, yX11_calls, Cond.code yX11_calls cX11_calls 2 (some .int) :: UW, cX11_calls, 2, (some .int))
theorem mk_X11_calls : MOK M_X11_calls := ⟨by decide +kernel, rfl, rfl, uw621, by decide⟩
def M_X2_rollCalled : Mt := (RX2, yX2_rollCalled, Cond.code yX2_rollCalled cX2_rollCalled 5 (some .int) :: UW, cX2_rollCalled, 5, (some .int))
theorem mk_X2_rollCalled : MOK M_X2_rollCalled := ⟨by decide +kernel, rfl, rfl, uw625, by decide⟩
def M_X12_calls : Mt := (RX12, yX12_calls, Cond.code yX12_calls cX12_calls 3 (some .int) :: UW, cX12_calls, 3, (some .int))
theorem mk_X12_calls : MOK M_X12_calls := ⟨by decide +kernel, rfl, rfl, uw629, by decide⟩
def M_X12_refusesRoll : Mt := (RX12, yX12_refusesRoll, Cond.code yX12_refusesRoll cX12_refusesRoll 2 (some .int) :: UW, cX12_refusesRoll, 2, (some .int))
theorem mk_X12_refusesRoll : MOK M_X12_refusesRoll := ⟨by decide +kernel, rfl, rfl, uw633, by decide⟩
def M_X12_goRoll : Mt := (RX12, yX12_goRoll, Cond.code yX12_goRoll cX12_goRoll 5 (some .int) :: UW, cX12_goRoll, 5, (some .int))
theorem mk_X12_goRoll : MOK M_X12_goRoll := ⟨by decide +kernel, rfl, rfl, uw637, by decide⟩
def M_X11_days : Mt := (RX11, yX11_days, Cond.code yX11_days cX11_days 3 (some .int) :: UW, cX11_days, 3, (some .int))
theorem mk_X11_days : MOK M_X11_days := ⟨by decide +kernel, rfl, rfl, uw641, by decide⟩
def M_X2_passDays : Mt := (RX2, yX2_passDays, Cond.code yX2_passDays cX2_passDays 5 none :: UW, cX2_passDays, 5, none)
theorem mk_X2_passDays : MOK M_X2_passDays := ⟨by decide +kernel, rfl, rfl, uw646, by decide⟩
def M_X2_passDay : Mt := (RX2, yX2_passDay, Cond.code yX2_passDay cX2_passDay 5 none :: UW, cX2_passDay, 5, none)
theorem mk_X2_passDay : MOK M_X2_passDay := ⟨by decide +kernel, rfl, rfl, uw650, by decide⟩
def M_X9_tells_ : Mt := (RX9, yX9_tells_, Cond.code yX9_tells_ cX9_tells_ 5 none :: UW, cX9_tells_, 5, none)
theorem mk_X9_tells_ : MOK M_X9_tells_ := ⟨by decide +kernel, rfl, rfl, uw654, by decide⟩
def M_X9_adds : Mt := (RX9, yX9_adds, Cond.code yX9_adds cX9_adds 3 none :: UW, cX9_adds, 3, none)
theorem mk_X9_adds : MOK M_X9_adds := ⟨by decide +kernel, rfl, rfl, uw659, by decide⟩
def M_X2_homes : Mt := (RX2, yX2_homes, Cond.code yX2_homes cX2_homes 3 (some .int) :: UW, cX2_homes, 3, (some .int))
theorem mk_X2_homes : MOK M_X2_homes := ⟨by decide +kernel, rfl, rfl, uw663, by decide⟩
def M_X12_days : Mt := (RX12, yX12_days, Cond.code yX12_days cX12_days 3 (some .int) :: UW, cX12_days, 3, (some .int))
theorem mk_X12_days : MOK M_X12_days := ⟨by decide +kernel, rfl, rfl, uw667, by decide⟩
def M_X12_goDays : Mt := (RX12, yX12_goDays, Cond.code yX12_goDays cX12_goDays 5 none :: UW, cX12_goDays, 5, none)
theorem mk_X12_goDays : MOK M_X12_goDays := ⟨by decide +kernel, rfl, rfl, uw672, by decide⟩
def M_X12_goDay : Mt := (RX12, yX12_goDay, Cond.code yX12_goDay cX12_goDay 5 none :: UW, cX12_goDay, 5, none)
theorem mk_X12_goDay : MOK M_X12_goDay := ⟨by decide +kernel, rfl, rfl, uw676, by decide⟩
def M_X12_tell : Mt := (RX12, yX12_tell, Cond.code yX12_tell cX12_tell 3 none :: UW, cX12_tell, 3, none)
theorem mk_X12_tell : MOK M_X12_tell := ⟨by decide +kernel, rfl, rfl, uw680, by decide⟩
def M_X12_atHome : Mt := (RX12, yX12_atHome, Cond.code yX12_atHome cX12_atHome 4 (some .int) :: UW, cX12_atHome, 4, (some .int))
theorem mk_X12_atHome : MOK M_X12_atHome := ⟨by decide +kernel, rfl, rfl, uw684, by decide⟩
def M_X11_week : Mt := (RX11, yX11_week, Cond.code yX11_week cX11_week 5 (some .int) :: UW, cX11_week, 5, (some .int))
theorem mk_X11_week : MOK M_X11_week := ⟨by decide +kernel, rfl, rfl, uw688, by decide⟩
def M_X11_weekWrongAt : Mt := (RX11, yX11_weekWrongAt, Cond.code yX11_weekWrongAt cX11_weekWrongAt 4 (some .int) :: UW, cX11_weekWrongAt, 4, (some .int))
theorem mk_X11_weekWrongAt : MOK M_X11_weekWrongAt := ⟨by decide +kernel, rfl, rfl, uw692, by decide⟩
def M_X11_actDigits : Mt := (RX11, yX11_actDigits, Cond.code yX11_actDigits cX11_actDigits 1 (some .int) :: UW, cX11_actDigits, 1, (some .int))
theorem mk_X11_actDigits : MOK M_X11_actDigits := ⟨by decide +kernel, rfl, rfl, uw695, by decide⟩
def M_X11_act : Mt := (RX11, yX11_act, Cond.code yX11_act cX11_act 3 (some .int) :: UW, cX11_act, 3, (some .int))
theorem mk_X11_act : MOK M_X11_act := ⟨by decide +kernel, rfl, rfl, uw699, by decide⟩
def M_X12_week : Mt := (RX12, yX12_week, Cond.code yX12_week cX12_week 3 (some .int) :: UW, cX12_week, 3, (some .int))
theorem mk_X12_week : MOK M_X12_week := ⟨by decide +kernel, rfl, rfl, uw703, by decide⟩
def M_X12_readAct : Mt := (RX12, yX12_readAct, Cond.code yX12_readAct cX12_readAct 3 none :: UW, cX12_readAct, 3, none)
theorem mk_X12_readAct : MOK M_X12_readAct := ⟨by decide +kernel, rfl, rfl, uw707, by decide⟩
def M_X12_act : Mt := (RX12, yX12_act, Cond.code yX12_act cX12_act 4 (some .boolean) :: UW, cX12_act, 4, (some .boolean))
theorem mk_X12_act : MOK M_X12_act := ⟨by decide +kernel, rfl, rfl, uw711, by decide⟩
def M_X11_undo : Mt := (RX11, yX11_undo, Cond.code yX11_undo cX11_undo 1 (some .int) :: UW, cX11_undo, 1, (some .int))
theorem mk_X11_undo : MOK M_X11_undo := ⟨by decide +kernel, rfl, rfl, uw715, by decide⟩
def M_X3_bringsBack : Mt := (RX3, yX3_bringsBack, Cond.code yX3_bringsBack cX3_bringsBack 2 (some .boolean) :: UW, cX3_bringsBack, 2, (some .boolean))
theorem mk_X3_bringsBack : MOK M_X3_bringsBack := ⟨by decide +kernel, rfl, rfl, uw720, by decide⟩
def M_X2_readsBack : Mt := (RX2, yX2_readsBack, Cond.code yX2_readsBack cX2_readsBack 3 none :: UW, cX2_readsBack, 3, none)
theorem mk_X2_readsBack : MOK M_X2_readsBack := ⟨by decide +kernel, rfl, rfl, uw724, by decide⟩
def M_X12_undo : Mt := (RX12, yX12_undo, Cond.code yX12_undo cX12_undo 2 (some .int) :: UW, cX12_undo, 2, (some .int))
theorem mk_X12_undo : MOK M_X12_undo := ⟨by decide +kernel, rfl, rfl, uw728, by decide⟩
def M_X11_brings : Mt := (RX11, yX11_brings, Cond.code yX11_brings cX11_brings 5 (some .int) :: UW, cX11_brings, 5, (some .int))
theorem mk_X11_brings : MOK M_X11_brings := ⟨by decide +kernel, rfl, rfl, uw732, by decide⟩
def M_X2_takes : Mt := (RX2, yX2_takes, Cond.code yX2_takes cX2_takes 2 none :: UW, cX2_takes, 2, none)
theorem mk_X2_takes : MOK M_X2_takes := ⟨by decide +kernel, rfl, rfl, uw736, by decide⟩
def M_X10_toHold : Mt := (RX10, yX10_toHold, Cond.code yX10_toHold cX10_toHold 9 (some .int) :: UW, cX10_toHold, 9, (some .int))
theorem mk_X10_toHold : MOK M_X10_toHold := ⟨by decide +kernel, rfl, rfl, uw740, by decide⟩
def M_X10_meets : Mt := (RX10, yX10_meets, Cond.code yX10_meets cX10_meets 4 none :: UW, cX10_meets, 4, none)
theorem mk_X10_meets : MOK M_X10_meets := ⟨by decide +kernel, rfl, rfl, uw749, by decide⟩
def M_X10_traces : Mt := (RX10, yX10_traces, Cond.code yX10_traces cX10_traces 5 (some .int) :: UW, cX10_traces, 5, (some .int))
theorem mk_X10_traces : MOK M_X10_traces := ⟨by decide +kernel, rfl, rfl, uw753, by decide⟩
def M_X9_clears : Mt := (RX9, yX9_clears, Cond.code yX9_clears cX9_clears 1 none :: UW, cX9_clears, 1, none)
theorem mk_X9_clears : MOK M_X9_clears := ⟨by decide +kernel, rfl, rfl, uw757, by decide⟩
def M_X10_sayer : Mt := (RX10, yX10_sayer, Cond.code yX10_sayer cX10_sayer 2 (some .int) :: UW, cX10_sayer, 2, (some .int))
theorem mk_X10_sayer : MOK M_X10_sayer := ⟨by decide +kernel, rfl, rfl, uw761, by decide⟩
def M_X12_brings : Mt := (RX12, yX12_brings, Cond.code yX12_brings cX12_brings 5 (some .int) :: UW, cX12_brings, 5, (some .int))
theorem mk_X12_brings : MOK M_X12_brings := ⟨by decide +kernel, rfl, rfl, uw766, by decide⟩
def M_X12_canBring : Mt := (RX12, yX12_canBring, Cond.code yX12_canBring cX12_canBring 7 (some .boolean) :: UW, cX12_canBring, 7, (some .boolean))
theorem mk_X12_canBring : MOK M_X12_canBring := ⟨by decide +kernel, rfl, rfl, uw770, by decide⟩
def M_X11_later : Mt := (RX11, yX11_later, Cond.code yX11_later cX11_later 3 (some .int) :: UW, cX11_later, 3, (some .int))
theorem mk_X11_later : MOK M_X11_later := ⟨by decide +kernel, rfl, rfl, uw774, by decide⟩
def M_X12_later : Mt := (RX12, yX12_later, Cond.code yX12_later cX12_later 3 (some .int) :: UW, cX12_later, 3, (some .int))
theorem mk_X12_later : MOK M_X12_later := ⟨by decide +kernel, rfl, rfl, uw778, by decide⟩
def M_X11_home : Mt := (RX11, yX11_home, Cond.code yX11_home cX11_home 3 (some .int) :: UW, cX11_home, 3, (some .int))
theorem mk_X11_home : MOK M_X11_home := ⟨by decide +kernel, rfl, rfl, uw782, by decide⟩
def M_X11_daysUntilHome : Mt := (RX11, yX11_daysUntilHome, Cond.code yX11_daysUntilHome cX11_daysUntilHome 3 (some .int) :: UW, cX11_daysUntilHome, 3, (some .int))
theorem mk_X11_daysUntilHome : MOK M_X11_daysUntilHome := ⟨by decide +kernel, rfl, rfl, uw786, by decide⟩
def M_X9_tells : Mt := (RX9, yX9_tells, Cond.code yX9_tells cX9_tells 3 none :: UW, cX9_tells, 3, none)
theorem mk_X9_tells : MOK M_X9_tells := ⟨by decide +kernel, rfl, rfl, uw792, by decide⟩
def M_X12_home : Mt := (RX12, yX12_home, Cond.code yX12_home cX12_home 3 (some .int) :: UW, cX12_home, 3, (some .int))
theorem mk_X12_home : MOK M_X12_home := ⟨by decide +kernel, rfl, rfl, uw796, by decide⟩
def M_X11_poor : Mt := (RX11, yX11_poor, Cond.code yX11_poor cX11_poor 3 (some .int) :: UW, cX11_poor, 3, (some .int))
theorem mk_X11_poor : MOK M_X11_poor := ⟨by decide +kernel, rfl, rfl, uw800, by decide⟩
def M_X12_poor : Mt := (RX12, yX12_poor, Cond.code yX12_poor cX12_poor 3 (some .int) :: UW, cX12_poor, 3, (some .int))
theorem mk_X12_poor : MOK M_X12_poor := ⟨by decide +kernel, rfl, rfl, uw804, by decide⟩
def M_X11_leads : Mt := (RX11, yX11_leads, Cond.code yX11_leads cX11_leads 6 (some .int) :: UW, cX11_leads, 6, (some .int))
theorem mk_X11_leads : MOK M_X11_leads := ⟨by decide +kernel, rfl, rfl, uw808, by decide⟩
def M_X2_ring : Mt := (RX2, yX2_ring, Cond.code yX2_ring cX2_ring 5 (some .int) :: UW, cX2_ring, 5, (some .int))
theorem mk_X2_ring : MOK M_X2_ring := ⟨by decide +kernel, rfl, rfl, uw812, by decide⟩
def M_X12_leads : Mt := (RX12, yX12_leads, Cond.code yX12_leads cX12_leads 3 (some .int) :: UW, cX12_leads, 3, (some .int))
theorem mk_X12_leads : MOK M_X12_leads := ⟨by decide +kernel, rfl, rfl, uw816, by decide⟩
def M_X12_goLead : Mt := (RX12, yX12_goLead, Cond.code yX12_goLead cX12_goLead 4 (some .int) :: UW, cX12_goLead, 4, (some .int))
theorem mk_X12_goLead : MOK M_X12_goLead := ⟨by decide +kernel, rfl, rfl, uw820, by decide⟩
def M_X11_rings : Mt := (RX11, yX11_rings, Cond.code yX11_rings cX11_rings 6 (some .int) :: UW, cX11_rings, 6, (some .int))
theorem mk_X11_rings : MOK M_X11_rings := ⟨by decide +kernel, rfl, rfl, uw824, by decide⟩
def M_J6_numberOfTrailingZeros_0f7a4 : Mt := (RJ6, yJ6_numberOfTrailingZeros_0f7a4, Cond.code yJ6_numberOfTrailingZeros_0f7a4 cJ6_numberOfTrailingZeros_0f7a4 2 (some .int) :: UW, cJ6_numberOfTrailingZeros_0f7a4, 2, (some .int))
theorem mk_J6_numberOfTrailingZeros_0f7a4 : MOK M_J6_numberOfTrailingZeros_0f7a4 := ⟨by decide +kernel, rfl, rfl, uw827, by decide⟩
def M_X12_rings : Mt := (RX12, yX12_rings, Cond.code yX12_rings cX12_rings 6 (some .int) :: UW, cX12_rings, 6, (some .int))
theorem mk_X12_rings : MOK M_X12_rings := ⟨by decide +kernel, rfl, rfl, uw832, by decide⟩
def M_X12_ringOf : Mt := (RX12, yX12_ringOf, Cond.code yX12_ringOf cX12_ringOf 4 (some .int) :: UW, cX12_ringOf, 4, (some .int))
theorem mk_X12_ringOf : MOK M_X12_ringOf := ⟨by decide +kernel, rfl, rfl, uw836, by decide⟩
def M_X12_has : Mt := (RX12, yX12_has, Cond.code yX12_has cX12_has 2 (some .boolean) :: UW, cX12_has, 2, (some .boolean))
theorem mk_X12_has : MOK M_X12_has := ⟨by decide +kernel, rfl, rfl, uw839, by decide⟩
def M_X11_robs : Mt := (RX11, yX11_robs, Cond.code yX11_robs cX11_robs 5 (some .int) :: UW, cX11_robs, 5, (some .int))
theorem mk_X11_robs : MOK M_X11_robs := ⟨by decide +kernel, rfl, rfl, uw844, by decide⟩
def M_X12_robs : Mt := (RX12, yX12_robs, Cond.code yX12_robs cX12_robs 5 (some .int) :: UW, cX12_robs, 5, (some .int))
theorem mk_X12_robs : MOK M_X12_robs := ⟨by decide +kernel, rfl, rfl, uw848, by decide⟩
def M_X11_order : Mt := (RX11, yX11_order, Cond.code yX11_order cX11_order 3 (some .int) :: UW, cX11_order, 3, (some .int))
theorem mk_X11_order : MOK M_X11_order := ⟨by decide +kernel, rfl, rfl, uw852, by decide⟩
def M_X10_sayBack : Mt := (RX10, yX10_sayBack, Cond.code yX10_sayBack cX10_sayBack 4 (some .int) :: UW, cX10_sayBack, 4, (some .int))
theorem mk_X10_sayBack : MOK M_X10_sayBack := ⟨by decide +kernel, rfl, rfl, uw858, by decide⟩
def M_X10_takesTurn : Mt := (RX10, yX10_takesTurn, Cond.code yX10_takesTurn cX10_takesTurn 7 none :: UW, cX10_takesTurn, 7, none)
theorem mk_X10_takesTurn : MOK M_X10_takesTurn := ⟨by decide +kernel, rfl, rfl, uw870, by decide⟩
def M_X10_saysOwn : Mt := (RX10, yX10_saysOwn, Cond.code yX10_saysOwn cX10_saysOwn 8 none :: UW, cX10_saysOwn, 8, none)
theorem mk_X10_saysOwn : MOK M_X10_saysOwn := ⟨by decide +kernel, rfl, rfl, uw875, by decide⟩
def M_X12_order : Mt := (RX12, yX12_order, Cond.code yX12_order cX12_order 3 (some .int) :: UW, cX12_order, 3, (some .int))
theorem mk_X12_order : MOK M_X12_order := ⟨by decide +kernel, rfl, rfl, uw880, by decide⟩
def M_X12_goOrder : Mt := (RX12, yX12_goOrder, Cond.code yX12_goOrder cX12_goOrder 6 none :: UW, cX12_goOrder, 6, none)
theorem mk_X12_goOrder : MOK M_X12_goOrder := ⟨by decide +kernel, rfl, rfl, uw885, by decide⟩
def M_X11_silences : Mt := (RX11, yX11_silences, Cond.code yX11_silences cX11_silences 6 (some .int) :: UW, cX11_silences, 6, (some .int))
theorem mk_X11_silences : MOK M_X11_silences := ⟨by decide +kernel, rfl, rfl, uw889, by decide⟩
def M_X11_homesAfter : Mt := (RX11, yX11_homesAfter, Cond.code yX11_homesAfter cX11_homesAfter 3 (some .int) :: UW, cX11_homesAfter, 3, (some .int))
theorem mk_X11_homesAfter : MOK M_X11_homesAfter := ⟨by decide +kernel, rfl, rfl, uw893, by decide⟩
def M_X12_silences : Mt := (RX12, yX12_silences, Cond.code yX12_silences cX12_silences 6 (some .int) :: UW, cX12_silences, 6, (some .int))
theorem mk_X12_silences : MOK M_X12_silences := ⟨by decide +kernel, rfl, rfl, uw897, by decide⟩
def M_X12_homeIn : Mt := (RX12, yX12_homeIn, Cond.code yX12_homeIn cX12_homeIn 3 (some .int) :: UW, cX12_homeIn, 3, (some .int))
theorem mk_X12_homeIn : MOK M_X12_homeIn := ⟨by decide +kernel, rfl, rfl, uw901, by decide⟩
def M_X11_goes : Mt := (RX11, yX11_goes, Cond.code yX11_goes cX11_goes 7 (some .int) :: UW, cX11_goes, 7, (some .int))
theorem mk_X11_goes : MOK M_X11_goes := ⟨by decide +kernel, rfl, rfl, uw905, by decide⟩
def M_X12_goes : Mt := (RX12, yX12_goes, Cond.code yX12_goes cX12_goes 6 (some .int) :: UW, cX12_goes, 6, (some .int))
theorem mk_X12_goes : MOK M_X12_goes := ⟨by decide +kernel, rfl, rfl, uw910, by decide⟩
def M_X11_peace : Mt := (RX11, yX11_peace, Cond.code yX11_peace cX11_peace 2 (some .int) :: UW, cX11_peace, 2, (some .int))
theorem mk_X11_peace : MOK M_X11_peace := ⟨by decide +kernel, rfl, rfl, uw914, by decide⟩
def M_X12_peace : Mt := (RX12, yX12_peace, Cond.code yX12_peace cX12_peace 2 (some .int) :: UW, cX12_peace, 2, (some .int))
theorem mk_X12_peace : MOK M_X12_peace := ⟨by decide +kernel, rfl, rfl, uw918, by decide⟩
def M_X12_all : Mt := (RX12, yX12_all, Cond.code yX12_all cX12_all 1 (some .int) :: UW, cX12_all, 1, (some .int))
theorem mk_X12_all : MOK M_X12_all := ⟨by decide +kernel, rfl, rfl, uw922, by decide⟩
def M_X11_wed : Mt := (RX11, yX11_wed, Cond.code yX11_wed cX11_wed 4 (some .int) :: UW, cX11_wed, 4, (some .int))
theorem mk_X11_wed : MOK M_X11_wed := ⟨by decide +kernel, rfl, rfl, uw926, by decide⟩
def M_X12_wed : Mt := (RX12, yX12_wed, Cond.code yX12_wed cX12_wed 4 (some .int) :: UW, cX12_wed, 4, (some .int))
theorem mk_X12_wed : MOK M_X12_wed := ⟨by decide +kernel, rfl, rfl, uw930, by decide⟩
def M_X11_loud : Mt := (RX11, yX11_loud, Cond.code yX11_loud cX11_loud 6 (some .int) :: UW, cX11_loud, 6, (some .int))
theorem mk_X11_loud : MOK M_X11_loud := ⟨by decide +kernel, rfl, rfl, uw934, by decide⟩
def M_X12_loud : Mt := (RX12, yX12_loud, Cond.code yX12_loud cX12_loud 5 (some .int) :: UW, cX12_loud, 5, (some .int))
theorem mk_X12_loud : MOK M_X12_loud := ⟨by decide +kernel, rfl, rfl, uw938, by decide⟩
def M_X11_mouths : Mt := (RX11, yX11_mouths, Cond.code yX11_mouths cX11_mouths 3 (some .int) :: UW, cX11_mouths, 3, (some .int))
theorem mk_X11_mouths : MOK M_X11_mouths := ⟨by decide +kernel, rfl, rfl, uw942, by decide⟩
def M_X0_sharesMouths : Mt := (RX0, yX0_sharesMouths, Cond.code yX0_sharesMouths cX0_sharesMouths 6 (some .int) :: UW, cX0_sharesMouths, 6, (some .int))
theorem mk_X0_sharesMouths : MOK M_X0_sharesMouths := ⟨by decide +kernel, rfl, rfl, uw947, by decide⟩
def M_X0_costs : Mt := (RX0, yX0_costs, Cond.code yX0_costs cX0_costs 6 (some .int) :: UW, cX0_costs, 6, (some .int))
theorem mk_X0_costs : MOK M_X0_costs := ⟨by decide +kernel, rfl, rfl, uw954, by decide⟩
def M_X0_cheapest : Mt := (RX0, yX0_cheapest, Cond.code yX0_cheapest cX0_cheapest 5 (some .int) :: UW, cX0_cheapest, 5, (some .int))
theorem mk_X0_cheapest : MOK M_X0_cheapest := ⟨by decide +kernel, rfl, rfl, uw959, by decide⟩
def M_X12_mouths : Mt := (RX12, yX12_mouths, Cond.code yX12_mouths cX12_mouths 5 (some .int) :: UW, cX12_mouths, 5, (some .int))
theorem mk_X12_mouths : MOK M_X12_mouths := ⟨by decide +kernel, rfl, rfl, uw963, by decide⟩
def M_X12_canMouth : Mt := (RX12, yX12_canMouth, Cond.code yX12_canMouth cX12_canMouth 4 (some .boolean) :: UW, cX12_canMouth, 4, (some .boolean))
theorem mk_X12_canMouth : MOK M_X12_canMouth := ⟨by decide +kernel, rfl, rfl, uw968, by decide⟩
def M_X11_criers : Mt := (RX11, yX11_criers, Cond.code yX11_criers cX11_criers 3 (some .int) :: UW, cX11_criers, 3, (some .int))
theorem mk_X11_criers : MOK M_X11_criers := ⟨by decide +kernel, rfl, rfl, uw972, by decide⟩
def M_X0_fewestCriers : Mt := (RX0, yX0_fewestCriers, Cond.code yX0_fewestCriers cX0_fewestCriers 6 (some .int) :: UW, cX0_fewestCriers, 6, (some .int))
theorem mk_X0_fewestCriers : MOK M_X0_fewestCriers := ⟨by decide +kernel, rfl, rfl, uw976, by decide⟩
def M_X0_hearers : Mt := (RX0, yX0_hearers, Cond.code yX0_hearers cX0_hearers 5 (some .int) :: UW, cX0_hearers, 5, (some .int))
theorem mk_X0_hearers : MOK M_X0_hearers := ⟨by decide +kernel, rfl, rfl, uw979, by decide⟩
def M_X0_heardBy : Mt := (RX0, yX0_heardBy, Cond.code yX0_heardBy cX0_heardBy 5 (some .int) :: UW, cX0_heardBy, 5, (some .int))
theorem mk_X0_heardBy : MOK M_X0_heardBy := ⟨by decide +kernel, rfl, rfl, uw983, by decide⟩
def M_X12_criers : Mt := (RX12, yX12_criers, Cond.code yX12_criers cX12_criers 8 (some .int) :: UW, cX12_criers, 8, (some .int))
theorem mk_X12_criers : MOK M_X12_criers := ⟨by decide +kernel, rfl, rfl, uw987, by decide⟩
def M_X11_line : Mt := (RX11, yX11_line, Cond.code yX11_line cX11_line 2 (some .int) :: UW, cX11_line, 2, (some .int))
theorem mk_X11_line : MOK M_X11_line := ⟨by decide +kernel, rfl, rfl, uw991, by decide⟩
def M_X0_linesUp : Mt := (RX0, yX0_linesUp, Cond.code yX0_linesUp cX0_linesUp 5 none :: UW, cX0_linesUp, 5, none)
theorem mk_X0_linesUp : MOK M_X0_linesUp := ⟨by decide +kernel, rfl, rfl, uw995, by decide⟩
def M_X12_line : Mt := (RX12, yX12_line, Cond.code yX12_line cX12_line 2 (some .int) :: UW, cX12_line, 2, (some .int))
theorem mk_X12_line : MOK M_X12_line := ⟨by decide +kernel, rfl, rfl, uw1000, by decide⟩
def M_X12_layDyke : Mt := (RX12, yX12_layDyke, Cond.code yX12_layDyke cX12_layDyke 3 none :: UW, cX12_layDyke, 3, none)
theorem mk_X12_layDyke : MOK M_X12_layDyke := ⟨by decide +kernel, rfl, rfl, uw1004, by decide⟩
def M_X11_rich : Mt := (RX11, yX11_rich, Cond.code yX11_rich cX11_rich 6 (some .int) :: UW, cX11_rich, 6, (some .int))
theorem mk_X11_rich : MOK M_X11_rich := ⟨by decide +kernel, rfl, rfl, uw1008, by decide⟩
def M_X0_longestFrom : Mt := (RX0, yX0_longestFrom, Cond.code yX0_longestFrom cX0_longestFrom 5 (some .int) :: UW, cX0_longestFrom, 5, (some .int))
theorem mk_X0_longestFrom : MOK M_X0_longestFrom := ⟨by decide +kernel, rfl, rfl, uw1013, by decide⟩
def M_X12_rich : Mt := (RX12, yX12_rich, Cond.code yX12_rich cX12_rich 4 (some .int) :: UW, cX12_rich, 4, (some .int))
theorem mk_X12_rich : MOK M_X12_rich := ⟨by decide +kernel, rfl, rfl, uw1019, by decide⟩
def M_X11_heard : Mt := (RX11, yX11_heard, Cond.code yX11_heard cX11_heard 3 (some .int) :: UW, cX11_heard, 3, (some .int))
theorem mk_X11_heard : MOK M_X11_heard := ⟨by decide +kernel, rfl, rfl, uw1023, by decide⟩
def M_X1_hears : Mt := (RX1, yX1_hears, Cond.code yX1_hears cX1_hears 3 (some .boolean) :: UW, cX1_hears, 3, (some .boolean))
theorem mk_X1_hears : MOK M_X1_hears := ⟨by decide +kernel, rfl, rfl, uw1028, by decide⟩
def M_X1_values : Mt := (RX1, yX1_values, Cond.code yX1_values cX1_values 1 (some .int) :: UW, cX1_values, 1, (some .int))
theorem mk_X1_values : MOK M_X1_values := ⟨by decide +kernel, rfl, rfl, uw1032, by decide⟩
def M_X12_heard : Mt := (RX12, yX12_heard, Cond.code yX12_heard cX12_heard 4 (some .int) :: UW, cX12_heard, 4, (some .int))
theorem mk_X12_heard : MOK M_X12_heard := ⟨by decide +kernel, rfl, rfl, uw1036, by decide⟩
def M_X11_forget : Mt := (RX11, yX11_forget, Cond.code yX11_forget cX11_forget 2 (some .int) :: UW, cX11_forget, 2, (some .int))
theorem mk_X11_forget : MOK M_X11_forget := ⟨by decide +kernel, rfl, rfl, uw1041, by decide⟩
def M_X12_forget : Mt := (RX12, yX12_forget, Cond.code yX12_forget cX12_forget 2 (some .int) :: UW, cX12_forget, 2, (some .int))
theorem mk_X12_forget : MOK M_X12_forget := ⟨by decide +kernel, rfl, rfl, uw1045, by decide⟩
def M_X11_fits : Mt := (RX11, yX11_fits, Cond.code yX11_fits cX11_fits 2 (some .int) :: UW, cX11_fits, 2, (some .int))
theorem mk_X11_fits : MOK M_X11_fits := ⟨by decide +kernel, rfl, rfl, uw1049, by decide⟩
def M_X1_fitting : Mt := (RX1, yX1_fitting, Cond.code yX1_fitting cX1_fitting 7 (some .int) :: UW, cX1_fitting, 7, (some .int))
theorem mk_X1_fitting : MOK M_X1_fitting := ⟨by decide +kernel, rfl, rfl, uw1053, by decide⟩
def M_X1_isSo : Mt := (RX1, yX1_isSo, Cond.code yX1_isSo cX1_isSo 5 (some .boolean) :: UW, cX1_isSo, 5, (some .boolean))
theorem mk_X1_isSo : MOK M_X1_isSo := ⟨by decide +kernel, rfl, rfl, uw1057, by decide⟩
def M_X12_fits_ : Mt := (RX12, yX12_fits_, Cond.code yX12_fits_ cX12_fits_ 2 (some .int) :: UW, cX12_fits_, 2, (some .int))
theorem mk_X12_fits_ : MOK M_X12_fits_ := ⟨by decide +kernel, rfl, rfl, uw1067, by decide⟩
def M_X12_fitting : Mt := (RX12, yX12_fitting, Cond.code yX12_fitting cX12_fitting 5 (some .int) :: UW, cX12_fitting, 5, (some .int))
theorem mk_X12_fitting : MOK M_X12_fitting := ⟨by decide +kernel, rfl, rfl, uw1071, by decide⟩
def M_X12_fits : Mt := (RX12, yX12_fits, Cond.code yX12_fits cX12_fits 4 (some .boolean) :: UW, cX12_fits, 4, (some .boolean))
theorem mk_X12_fits : MOK M_X12_fits := ⟨by decide +kernel, rfl, rfl, uw1075, by decide⟩
def M_X11_asks : Mt := (RX11, yX11_asks, Cond.code yX11_asks cX11_asks 10 (some .int) :: UW, cX11_asks, 10, (some .int))
theorem mk_X11_asks : MOK M_X11_asks := ⟨by decide +kernel, rfl, rfl, uw1079, by decide⟩
def M_X1_mostLeft : Mt := (RX1, yX1_mostLeft, Cond.code yX1_mostLeft cX1_mostLeft 8 (some .int) :: UW, cX1_mostLeft, 8, (some .int))
theorem mk_X1_mostLeft : MOK M_X1_mostLeft := ⟨by decide +kernel, rfl, rfl, uw1085, by decide⟩
def M_X12_asks : Mt := (RX12, yX12_asks, Cond.code yX12_asks cX12_asks 7 (some .int) :: UW, cX12_asks, 7, (some .int))
theorem mk_X12_asks : MOK M_X12_asks := ⟨by decide +kernel, rfl, rfl, uw1091, by decide⟩
def M_X11_saw : Mt := (RX11, yX11_saw, Cond.code yX11_saw cX11_saw 4 (some .int) :: UW, cX11_saw, 4, (some .int))
theorem mk_X11_saw : MOK M_X11_saw := ⟨by decide +kernel, rfl, rfl, uw1095, by decide⟩
def M_X7_sees : Mt := (RX7, yX7_sees, Cond.code yX7_sees cX7_sees 4 (some .boolean) :: UW, cX7_sees, 4, (some .boolean))
theorem mk_X7_sees : MOK M_X7_sees := ⟨by decide +kernel, rfl, rfl, uw1100, by decide⟩
def M_X12_saw : Mt := (RX12, yX12_saw, Cond.code yX12_saw cX12_saw 4 (some .int) :: UW, cX12_saw, 4, (some .int))
theorem mk_X12_saw : MOK M_X12_saw := ⟨by decide +kernel, rfl, rfl, uw1105, by decide⟩
def M_X11_denies : Mt := (RX11, yX11_denies, Cond.code yX11_denies cX11_denies 2 (some .int) :: UW, cX11_denies, 2, (some .int))
theorem mk_X11_denies : MOK M_X11_denies := ⟨by decide +kernel, rfl, rfl, uw1110, by decide⟩
def M_X12_denies : Mt := (RX12, yX12_denies, Cond.code yX12_denies cX12_denies 2 (some .int) :: UW, cX12_denies, 2, (some .int))
theorem mk_X12_denies : MOK M_X12_denies := ⟨by decide +kernel, rfl, rfl, uw1114, by decide⟩
def M_X11_laws : Mt := (RX11, yX11_laws, Cond.code yX11_laws cX11_laws 3 (some .int) :: UW, cX11_laws, 3, (some .int))
theorem mk_X11_laws : MOK M_X11_laws := ⟨by decide +kernel, rfl, rfl, uw1118, by decide⟩
def M_X7_fitLaws : Mt := (RX7, yX7_fitLaws, Cond.code yX7_fitLaws cX7_fitLaws 5 (some .int) :: UW, cX7_fitLaws, 5, (some .int))
theorem mk_X7_fitLaws : MOK M_X7_fitLaws := ⟨by decide +kernel, rfl, rfl, uw1123, by decide⟩
def M_X7_reach : Mt := (RX7, yX7_reach, Cond.code yX7_reach cX7_reach 3 (some .int) :: UW, cX7_reach, 3, (some .int))
theorem mk_X7_reach : MOK M_X7_reach := ⟨by decide +kernel, rfl, rfl, uw1128, by decide⟩
def M_X7_leastPair : Mt := (RX7, yX7_leastPair, Cond.code yX7_leastPair cX7_leastPair 2 (some .int) :: UW, cX7_leastPair, 2, (some .int))
theorem mk_X7_leastPair : MOK M_X7_leastPair := ⟨by decide +kernel, rfl, rfl, uw1132, by decide⟩
def M_X12_laws : Mt := (RX12, yX12_laws, Cond.code yX12_laws cX12_laws 3 (some .int) :: UW, cX12_laws, 3, (some .int))
theorem mk_X12_laws : MOK M_X12_laws := ⟨by decide +kernel, rfl, rfl, uw1136, by decide⟩
def M_X12_isLaw : Mt := (RX12, yX12_isLaw, Cond.code yX12_isLaw cX12_isLaw 3 (some .boolean) :: UW, cX12_isLaw, 3, (some .boolean))
theorem mk_X12_isLaw : MOK M_X12_isLaw := ⟨by decide +kernel, rfl, rfl, uw1140, by decide⟩
def M_X12_says_ : Mt := (RX12, yX12_says_, Cond.code yX12_says_ cX12_says_ 4 (some .int) :: UW, cX12_says_, 4, (some .int))
theorem mk_X12_says_ : MOK M_X12_says_ := ⟨by decide +kernel, rfl, rfl, uw1143, by decide⟩
def M_X11_tries : Mt := (RX11, yX11_tries, Cond.code yX11_tries cX11_tries 8 (some .int) :: UW, cX11_tries, 8, (some .int))
theorem mk_X11_tries : MOK M_X11_tries := ⟨by decide +kernel, rfl, rfl, uw1147, by decide⟩
def M_X7_lawsThatHear : Mt := (RX7, yX7_lawsThatHear, Cond.code yX7_lawsThatHear cX7_lawsThatHear 6 (some .int) :: UW, cX7_lawsThatHear, 6, (some .int))
theorem mk_X7_lawsThatHear : MOK M_X7_lawsThatHear := ⟨by decide +kernel, rfl, rfl, uw1151, by decide⟩
def M_X12_tries : Mt := (RX12, yX12_tries, Cond.code yX12_tries cX12_tries 7 (some .int) :: UW, cX12_tries, 7, (some .int))
theorem mk_X12_tries : MOK M_X12_tries := ⟨by decide +kernel, rfl, rfl, uw1155, by decide⟩
def M_X11_walks : Mt := (RX11, yX11_walks, Cond.code yX11_walks cX11_walks 11 (some .int) :: UW, cX11_walks, 11, (some .int))
theorem mk_X11_walks : MOK M_X11_walks := ⟨by decide +kernel, rfl, rfl, uw1159, by decide⟩
def M_X4_walked : Mt := (RX4, yX4_walked, Cond.code yX4_walked cX4_walked 7 (some .long) :: UW, cX4_walked, 7, (some .long))
theorem mk_X4_walked : MOK M_X4_walked := ⟨by decide +kernel, rfl, rfl, uw1164, by decide⟩
def M_X11_greatestCommon : Mt := (RX11, yX11_greatestCommon, Cond.code yX11_greatestCommon cX11_greatestCommon 11 (some .long) :: UW, cX11_greatestCommon, 11, (some .long))
theorem mk_X11_greatestCommon : MOK M_X11_greatestCommon := ⟨by decide +kernel, rfl, rfl, uw1170, by decide⟩
def M_X12_walks : Mt := (RX12, yX12_walks, Cond.code yX12_walks cX12_walks 9 (some .int) :: UW, cX12_walks, 9, (some .int))
theorem mk_X12_walks : MOK M_X12_walks := ⟨by decide +kernel, rfl, rfl, uw1174, by decide⟩
def M_X12_common : Mt := (RX12, yX12_common, Cond.code yX12_common cX12_common 4 (some .long) :: UW, cX12_common, 4, (some .long))
theorem mk_X12_common : MOK M_X12_common := ⟨by decide +kernel, rfl, rfl, uw1178, by decide⟩
def M_X11_hush : Mt := (RX11, yX11_hush, Cond.code yX11_hush cX11_hush 5 (some .int) :: UW, cX11_hush, 5, (some .int))
theorem mk_X11_hush : MOK M_X11_hush := ⟨by decide +kernel, rfl, rfl, uw1182, by decide⟩
def M_X4_readiesHush : Mt := (RX4, yX4_readiesHush, Cond.code yX4_readiesHush cX4_readiesHush 4 none :: UW, cX4_readiesHush, 4, none)
theorem mk_X4_readiesHush : MOK M_X4_readiesHush := ⟨by decide +kernel, rfl, rfl, uw1186, by decide⟩
def M_X4_winningTake : Mt := (RX4, yX4_winningTake, Cond.code yX4_winningTake cX4_winningTake 5 (some .int) :: UW, cX4_winningTake, 5, (some .int))
theorem mk_X4_winningTake : MOK M_X4_winningTake := ⟨by decide +kernel, rfl, rfl, uw1191, by decide⟩
def M_X4_wins : Mt := (RX4, yX4_wins, Cond.code yX4_wins cX4_wins 3 (some .boolean) :: UW, cX4_wins, 3, (some .boolean))
theorem mk_X4_wins : MOK M_X4_wins := ⟨by decide +kernel, rfl, rfl, uw1195, by decide⟩
def M_X12_hush : Mt := (RX12, yX12_hush, Cond.code yX12_hush cX12_hush 5 (some .int) :: UW, cX12_hush, 5, (some .int))
theorem mk_X12_hush : MOK M_X12_hush := ⟨by decide +kernel, rfl, rfl, uw1201, by decide⟩
def M_X12_moveOf : Mt := (RX12, yX12_moveOf, Cond.code yX12_moveOf cX12_moveOf 5 (some .int) :: UW, cX12_moveOf, 5, (some .int))
theorem mk_X12_moveOf : MOK M_X12_moveOf := ⟨by decide +kernel, rfl, rfl, uw1205, by decide⟩
def M_X11_rests : Mt := (RX11, yX11_rests, Cond.code yX11_rests cX11_rests 5 (some .int) :: UW, cX11_rests, 5, (some .int))
theorem mk_X11_rests : MOK M_X11_rests := ⟨by decide +kernel, rfl, rfl, uw1209, by decide⟩
def M_X4_readiesRests : Mt := (RX4, yX4_readiesRests, Cond.code yX4_readiesRests cX4_readiesRests 4 none :: UW, cX4_readiesRests, 4, none)
theorem mk_X4_readiesRests : MOK M_X4_readiesRests := ⟨by decide +kernel, rfl, rfl, uw1213, by decide⟩
def M_X4_gain : Mt := (RX4, yX4_gain, Cond.code yX4_gain cX4_gain 4 (some .int) :: UW, cX4_gain, 4, (some .int))
theorem mk_X4_gain : MOK M_X4_gain := ⟨by decide +kernel, rfl, rfl, uw1216, by decide⟩
def M_X4_isRest : Mt := (RX4, yX4_isRest, Cond.code yX4_isRest cX4_isRest 4 (some .boolean) :: UW, cX4_isRest, 4, (some .boolean))
theorem mk_X4_isRest : MOK M_X4_isRest := ⟨by decide +kernel, rfl, rfl, uw1220, by decide⟩
def M_X12_rests : Mt := (RX12, yX12_rests, Cond.code yX12_rests cX12_rests 5 (some .int) :: UW, cX12_rests, 5, (some .int))
theorem mk_X12_rests : MOK M_X12_rests := ⟨by decide +kernel, rfl, rfl, uw1224, by decide⟩
def M_X12_isBest : Mt := (RX12, yX12_isBest, Cond.code yX12_isBest cX12_isBest 4 (some .boolean) :: UW, cX12_isBest, 4, (some .boolean))
theorem mk_X12_isBest : MOK M_X12_isBest := ⟨by decide +kernel, rfl, rfl, uw1227, by decide⟩
def M_X12_gets : Mt := (RX12, yX12_gets, Cond.code yX12_gets cX12_gets 3 (some .int) :: UW, cX12_gets, 3, (some .int))
theorem mk_X12_gets : MOK M_X12_gets := ⟨by decide +kernel, rfl, rfl, uw1230, by decide⟩
def M_X11_law : Mt := (RX11, yX11_law, Cond.code yX11_law cX11_law 5 (some .int) :: UW, cX11_law, 5, (some .int))
theorem mk_X11_law : MOK M_X11_law := ⟨by decide +kernel, rfl, rfl, uw1234, by decide⟩
def M_X2_pairs : Mt := (RX2, yX2_pairs, Cond.code yX2_pairs cX2_pairs 4 (some .int) :: UW, cX2_pairs, 4, (some .int))
theorem mk_X2_pairs : MOK M_X2_pairs := ⟨by decide +kernel, rfl, rfl, uw1238, by decide⟩
def M_X12_law : Mt := (RX12, yX12_law, Cond.code yX12_law cX12_law 7 (some .int) :: UW, cX12_law, 7, (some .int))
theorem mk_X12_law : MOK M_X12_law := ⟨by decide +kernel, rfl, rfl, uw1244, by decide⟩
def M_X12_pairs : Mt := (RX12, yX12_pairs, Cond.code yX12_pairs cX12_pairs 3 (some .int) :: UW, cX12_pairs, 3, (some .int))
theorem mk_X12_pairs : MOK M_X12_pairs := ⟨by decide +kernel, rfl, rfl, uw1248, by decide⟩
def M_X11_years : Mt := (RX11, yX11_years, Cond.code yX11_years cX11_years 4 (some .int) :: UW, cX11_years, 4, (some .int))
theorem mk_X11_years : MOK M_X11_years := ⟨by decide +kernel, rfl, rfl, uw1252, by decide⟩
def M_X4_draw : Mt := (RX4, yX4_draw, Cond.code yX4_draw cX4_draw 2 (some .int) :: UW, cX4_draw, 2, (some .int))
theorem mk_X4_draw : MOK M_X4_draw := ⟨by decide +kernel, rfl, rfl, uw1257, by decide⟩
def M_X11_triesDrawn : Mt := (RX11, yX11_triesDrawn, Cond.code yX11_triesDrawn cX11_triesDrawn 3 none :: UW, cX11_triesDrawn, 3, none)
theorem mk_X11_triesDrawn : MOK M_X11_triesDrawn := ⟨by decide +kernel, rfl, rfl, uw1263, by decide⟩
def M_X12_years : Mt := (RX12, yX12_years, Cond.code yX12_years cX12_years 7 (some .int) :: UW, cX12_years, 7, (some .int))
theorem mk_X12_years : MOK M_X12_years := ⟨by decide +kernel, rfl, rfl, uw1267, by decide⟩
def M_X12_draw : Mt := (RX12, yX12_draw, Cond.code yX12_draw cX12_draw 2 (some .int) :: UW, cX12_draw, 2, (some .int))
theorem mk_X12_draw : MOK M_X12_draw := ⟨by decide +kernel, rfl, rfl, uw1272, by decide⟩
def M_X11_keep : Mt := (RX11, yX11_keep, Cond.code yX11_keep cX11_keep 2 (some .boolean) :: UW, cX11_keep, 2, (some .boolean))
theorem mk_X11_keep : MOK M_X11_keep := ⟨by decide +kernel, rfl, rfl, uw1277, by decide⟩
def M_X3_shelves : Mt := (RX3, yX3_shelves, Cond.code yX3_shelves cX3_shelves 3 (some .boolean) :: UW, cX3_shelves, 3, (some .boolean))
theorem mk_X3_shelves : MOK M_X3_shelves := ⟨by decide +kernel, rfl, rfl, uw1281, by decide⟩
def M_X12_keep : Mt := (RX12, yX12_keep, Cond.code yX12_keep cX12_keep 2 (some .boolean) :: UW, cX12_keep, 2, (some .boolean))
theorem mk_X12_keep : MOK M_X12_keep := ⟨by decide +kernel, rfl, rfl, uw1285, by decide⟩
def M_X11_again : Mt := (RX11, yX11_again, Cond.code yX11_again cX11_again 2 (some .boolean) :: UW, cX11_again, 2, (some .boolean))
theorem mk_X11_again : MOK M_X11_again := ⟨by decide +kernel, rfl, rfl, uw1289, by decide⟩
def M_X3_unshelves : Mt := (RX3, yX3_unshelves, Cond.code yX3_unshelves cX3_unshelves 3 (some .boolean) :: UW, cX3_unshelves, 3, (some .boolean))
theorem mk_X3_unshelves : MOK M_X3_unshelves := ⟨by decide +kernel, rfl, rfl, uw1293, by decide⟩
def M_X12_again : Mt := (RX12, yX12_again, Cond.code yX12_again cX12_again 3 (some .boolean) :: UW, cX12_again, 3, (some .boolean))
theorem mk_X12_again : MOK M_X12_again := ⟨by decide +kernel, rfl, rfl, uw1297, by decide⟩
def M_X11_count : Mt := (RX11, yX11_count, Cond.code yX11_count cX11_count 2 (some .int) :: UW, cX11_count, 2, (some .int))
theorem mk_X11_count : MOK M_X11_count := ⟨by decide +kernel, rfl, rfl, uw1301, by decide⟩
def M_X12_count : Mt := (RX12, yX12_count, Cond.code yX12_count cX12_count 2 (some .int) :: UW, cX12_count, 2, (some .int))
theorem mk_X12_count : MOK M_X12_count := ⟨by decide +kernel, rfl, rfl, uw1308, by decide⟩
def M_X12_voices : Mt := (RX12, yX12_voices, Cond.code yX12_voices cX12_voices 3 (some .int) :: UW, cX12_voices, 3, (some .int))
theorem mk_X12_voices : MOK M_X12_voices := ⟨by decide +kernel, rfl, rfl, uw1312, by decide⟩
def M_X11_row : Mt := (RX11, yX11_row, Cond.code yX11_row cX11_row 2 (some .long) :: UW, cX11_row, 2, (some .long))
theorem mk_X11_row : MOK M_X11_row := ⟨by decide +kernel, rfl, rfl, uw1319, by decide⟩
def M_X12_row : Mt := (RX12, yX12_row, Cond.code yX12_row cX12_row 2 (some .long) :: UW, cX12_row, 2, (some .long))
theorem mk_X12_row : MOK M_X12_row := ⟨by decide +kernel, rfl, rfl, uw1324, by decide⟩
theorem fo_RX5_21 {M : Mt} (h : mO M = RX5) : FOK M 21 5 2 RX5 TX5 3 := ⟨rfl, by decide, by rw [h]; exact uw130, inU5⟩
theorem fo_RX5_9 {M : Mt} (h : mO M = RX5) : FOK M 9 5 0 RX5 TX5 3 := ⟨rfl, by decide, by rw [h]; exact uw124, inU5⟩
theorem fo_RX11_10 {M : Mt} (h : mO M = RX11) : FOK M 10 11 0 RX11 TX11 13 := ⟨rfl, by decide, by rw [h]; exact uw16, inU11⟩
theorem fo_RX11_96 {M : Mt} (h : mO M = RX11) : FOK M 96 8 1 RX8 TX8 2 := ⟨rfl, by decide, by rw [h]; exact uw175, inU8⟩
theorem fo_RX8_13 {M : Mt} (h : mO M = RX8) : FOK M 13 8 1 RX8 TX8 2 := ⟨rfl, by decide, by rw [h]; exact uw180, inU8⟩
theorem fo_RX8_9 {M : Mt} (h : mO M = RX8) : FOK M 9 8 0 RX8 TX8 2 := ⟨rfl, by decide, by rw [h]; exact uw63, inU8⟩
theorem fo_RX12_103 {M : Mt} (h : mO M = RX12) : FOK M 103 12 7 RX12 TX12 47 := ⟨rfl, by decide, by rw [h]; exact uw185, inU12⟩
theorem fo_RX12_117 {M : Mt} (h : mO M = RX12) : FOK M 117 12 4 RX12 TX12 47 := ⟨rfl, by decide, by rw [h]; exact uw186, inU12⟩
theorem fo_RX12_16 {M : Mt} (h : mO M = RX12) : FOK M 16 12 3 RX12 TX12 47 := ⟨rfl, by decide, by rw [h]; exact uw142, inU12⟩
theorem fo_RX11_43 {M : Mt} (h : mO M = RX11) : FOK M 43 11 5 RX11 TX11 13 := ⟨rfl, by decide, by rw [h]; exact uw33, inU11⟩
theorem fo_RX11_26 {M : Mt} (h : mO M = RX11) : FOK M 26 11 2 RX11 TX11 13 := ⟨rfl, by decide, by rw [h]; exact uw24, inU11⟩
theorem fo_RX11_250 {M : Mt} (h : mO M = RX11) : FOK M 250 2 5 RX2 TX2 8 := ⟨rfl, by decide, by rw [h]; exact uw218, inU2⟩
theorem fo_RX2_27 {M : Mt} (h : mO M = RX2) : FOK M 27 2 5 RX2 TX2 8 := ⟨rfl, by decide, by rw [h]; exact uw246, inU2⟩
theorem fo_RX2_9 {M : Mt} (h : mO M = RX2) : FOK M 9 2 0 RX2 TX2 8 := ⟨rfl, by decide, by rw [h]; exact uw72, inU2⟩
theorem fo_RX2_15 {M : Mt} (h : mO M = RX2) : FOK M 15 2 1 RX2 TX2 8 := ⟨rfl, by decide, by rw [h]; exact uw73, inU2⟩
theorem fo_RX2_18 {M : Mt} (h : mO M = RX2) : FOK M 18 2 2 RX2 TX2 8 := ⟨rfl, by decide, by rw [h]; exact uw74, inU2⟩
theorem fo_RX2_21 {M : Mt} (h : mO M = RX2) : FOK M 21 2 3 RX2 TX2 8 := ⟨rfl, by decide, by rw [h]; exact uw75, inU2⟩
theorem fo_RX2_24 {M : Mt} (h : mO M = RX2) : FOK M 24 2 4 RX2 TX2 8 := ⟨rfl, by decide, by rw [h]; exact uw76, inU2⟩
theorem fo_RX3_23 {M : Mt} (h : mO M = RX3) : FOK M 23 3 3 RX3 TX3 4 := ⟨rfl, by decide, by rw [h]; exact uw251, inU3⟩
theorem fo_RX3_35 {M : Mt} (h : mO M = RX3) : FOK M 35 3 2 RX3 TX3 4 := ⟨rfl, by decide, by rw [h]; exact uw252, inU3⟩
theorem fo_RX12_123 {M : Mt} (h : mO M = RX12) : FOK M 123 12 9 RX12 TX12 47 := ⟨rfl, by decide, by rw [h]; exact uw257, inU12⟩
theorem fo_RX12_110 {M : Mt} (h : mO M = RX12) : FOK M 110 12 1 RX12 TX12 47 := ⟨rfl, by decide, by rw [h]; exact uw258, inU12⟩
theorem fo_RX12_129 {M : Mt} (h : mO M = RX12) : FOK M 129 12 11 RX12 TX12 47 := ⟨rfl, by decide, by rw [h]; exact uw259, inU12⟩
theorem fo_RX12_24 {M : Mt} (h : mO M = RX12) : FOK M 24 12 13 RX12 TX12 47 := ⟨rfl, by decide, by rw [h]; exact uw144, inU12⟩
theorem fo_RX12_132 {M : Mt} (h : mO M = RX12) : FOK M 132 12 12 RX12 TX12 47 := ⟨rfl, by decide, by rw [h]; exact uw260, inU12⟩
theorem fo_RX12_9 {M : Mt} (h : mO M = RX12) : FOK M 9 12 0 RX12 TX12 47 := ⟨rfl, by decide, by rw [h]; exact uw139, inU12⟩
theorem fo_RX12_13 {M : Mt} (h : mO M = RX12) : FOK M 13 12 2 RX12 TX12 47 := ⟨rfl, by decide, by rw [h]; exact uw140, inU12⟩
theorem fo_RX12_165 {M : Mt} (h : mO M = RX12) : FOK M 165 12 20 RX12 TX12 47 := ⟨rfl, by decide, by rw [h]; exact uw261, inU12⟩
theorem fo_RX12_168 {M : Mt} (h : mO M = RX12) : FOK M 168 12 43 RX12 TX12 47 := ⟨rfl, by decide, by rw [h]; exact uw262, inU12⟩
theorem fo_RX12_120 {M : Mt} (h : mO M = RX12) : FOK M 120 12 8 RX12 TX12 47 := ⟨rfl, by decide, by rw [h]; exact uw271, inU12⟩
theorem fo_RX12_126 {M : Mt} (h : mO M = RX12) : FOK M 126 12 10 RX12 TX12 47 := ⟨rfl, by decide, by rw [h]; exact uw272, inU12⟩
theorem fo_RX11_36 {M : Mt} (h : mO M = RX11) : FOK M 36 11 4 RX11 TX11 13 := ⟨rfl, by decide, by rw [h]; exact uw29, inU11⟩
theorem fo_RX11_89 {M : Mt} (h : mO M = RX11) : FOK M 89 11 12 RX11 TX11 13 := ⟨rfl, by decide, by rw [h]; exact uw58, inU11⟩
theorem fo_RX11_85 {M : Mt} (h : mO M = RX11) : FOK M 85 11 11 RX11 TX11 13 := ⟨rfl, by decide, by rw [h]; exact uw57, inU11⟩
theorem fo_RX6_9 {M : Mt} (h : mO M = RX6) : FOK M 9 8 1 RX8 TX8 2 := ⟨rfl, by decide, by rw [h]; exact uw305, inU8⟩
theorem fo_RX6_20 {M : Mt} (h : mO M = RX6) : FOK M 20 6 0 RX6 TX6 3 := ⟨rfl, by decide, by rw [h]; exact uw306, inU6⟩
theorem fo_RX6_26 {M : Mt} (h : mO M = RX6) : FOK M 26 6 1 RX6 TX6 3 := ⟨rfl, by decide, by rw [h]; exact uw307, inU6⟩
theorem fo_RX6_30 {M : Mt} (h : mO M = RX6) : FOK M 30 6 2 RX6 TX6 3 := ⟨rfl, by decide, by rw [h]; exact uw308, inU6⟩
theorem fo_RX6_33 {M : Mt} (h : mO M = RX6) : FOK M 33 5 2 RX5 TX5 3 := ⟨rfl, by decide, by rw [h]; exact uw309, inU5⟩
theorem fo_RX12_27 {M : Mt} (h : mO M = RX12) : FOK M 27 12 14 RX12 TX12 47 := ⟨rfl, by decide, by rw [h]; exact uw145, inU12⟩
theorem fo_RX12_201 {M : Mt} (h : mO M = RX12) : FOK M 201 12 16 RX12 TX12 47 := ⟨rfl, by decide, by rw [h]; exact uw349, inU12⟩
theorem fo_RX12_194 {M : Mt} (h : mO M = RX12) : FOK M 194 12 17 RX12 TX12 47 := ⟨rfl, by decide, by rw [h]; exact uw354, inU12⟩
theorem fo_RX12_33 {M : Mt} (h : mO M = RX12) : FOK M 33 12 18 RX12 TX12 47 := ⟨rfl, by decide, by rw [h]; exact uw147, inU12⟩
theorem fo_RX11_123 {M : Mt} (h : mO M = RX11) : FOK M 123 2 0 RX2 TX2 8 := ⟨rfl, by decide, by rw [h]; exact uw393, inU2⟩
theorem fo_RX11_127 {M : Mt} (h : mO M = RX11) : FOK M 127 2 1 RX2 TX2 8 := ⟨rfl, by decide, by rw [h]; exact uw394, inU2⟩
theorem fo_RX11_130 {M : Mt} (h : mO M = RX11) : FOK M 130 2 2 RX2 TX2 8 := ⟨rfl, by decide, by rw [h]; exact uw395, inU2⟩
theorem fo_RX5_15 {M : Mt} (h : mO M = RX5) : FOK M 15 5 1 RX5 TX5 3 := ⟨rfl, by decide, by rw [h]; exact uw125, inU5⟩
theorem fo_RX5_37 {M : Mt} (h : mO M = RX5) : FOK M 37 2 3 RX2 TX2 8 := ⟨rfl, by decide, by rw [h]; exact uw419, inU2⟩
theorem fo_RX5_42 {M : Mt} (h : mO M = RX5) : FOK M 42 2 1 RX2 TX2 8 := ⟨rfl, by decide, by rw [h]; exact uw420, inU2⟩
theorem fo_RX5_45 {M : Mt} (h : mO M = RX5) : FOK M 45 2 0 RX2 TX2 8 := ⟨rfl, by decide, by rw [h]; exact uw421, inU2⟩
theorem fo_RX5_62 {M : Mt} (h : mO M = RX5) : FOK M 62 2 4 RX2 TX2 8 := ⟨rfl, by decide, by rw [h]; exact uw425, inU2⟩
theorem fo_RX5_65 {M : Mt} (h : mO M = RX5) : FOK M 65 2 6 RX2 TX2 8 := ⟨rfl, by decide, by rw [h]; exact uw426, inU2⟩
theorem fo_RX11_141 {M : Mt} (h : mO M = RX11) : FOK M 141 2 3 RX2 TX2 8 := ⟨rfl, by decide, by rw [h]; exact uw478, inU2⟩
theorem fo_RX11_144 {M : Mt} (h : mO M = RX11) : FOK M 144 2 4 RX2 TX2 8 := ⟨rfl, by decide, by rw [h]; exact uw479, inU2⟩
theorem fo_RX3_11 {M : Mt} (h : mO M = RX3) : FOK M 11 3 0 RX3 TX3 4 := ⟨rfl, by decide, by rw [h]; exact uw83, inU3⟩
theorem fo_RX3_15 {M : Mt} (h : mO M = RX3) : FOK M 15 3 1 RX3 TX3 4 := ⟨rfl, by decide, by rw [h]; exact uw534, inU3⟩
theorem fo_RX2_37 {M : Mt} (h : mO M = RX2) : FOK M 37 2 6 RX2 TX2 8 := ⟨rfl, by decide, by rw [h]; exact uw543, inU2⟩
theorem fo_RX2_40 {M : Mt} (h : mO M = RX2) : FOK M 40 2 7 RX2 TX2 8 := ⟨rfl, by decide, by rw [h]; exact uw544, inU2⟩
theorem fo_RX12_36 {M : Mt} (h : mO M = RX12) : FOK M 36 12 19 RX12 TX12 47 := ⟨rfl, by decide, by rw [h]; exact uw148, inU12⟩
theorem fo_RX12_42 {M : Mt} (h : mO M = RX12) : FOK M 42 12 22 RX12 TX12 47 := ⟨rfl, by decide, by rw [h]; exact uw150, inU12⟩
theorem fo_RX11_181 {M : Mt} (h : mO M = RX11) : FOK M 181 2 7 RX2 TX2 8 := ⟨rfl, by decide, by rw [h]; exact uw642, inU2⟩
theorem fo_RX11_19 {M : Mt} (h : mO M = RX11) : FOK M 19 11 1 RX11 TX11 13 := ⟨rfl, by decide, by rw [h]; exact uw20, inU11⟩
theorem fo_RX9_15 {M : Mt} (h : mO M = RX9) : FOK M 15 9 1 RX9 TX9 2 := ⟨rfl, by decide, by rw [h]; exact uw655, inU9⟩
theorem fo_RX9_11 {M : Mt} (h : mO M = RX9) : FOK M 11 9 0 RX9 TX9 2 := ⟨rfl, by decide, by rw [h]; exact uw67, inU9⟩
theorem fo_RX12_107 {M : Mt} (h : mO M = RX12) : FOK M 107 12 6 RX12 TX12 47 := ⟨rfl, by decide, by rw [h]; exact uw668, inU12⟩
theorem fo_RX12_20 {M : Mt} (h : mO M = RX12) : FOK M 20 12 5 RX12 TX12 47 := ⟨rfl, by decide, by rw [h]; exact uw143, inU12⟩
theorem fo_RX12_39 {M : Mt} (h : mO M = RX12) : FOK M 39 12 21 RX12 TX12 47 := ⟨rfl, by decide, by rw [h]; exact uw149, inU12⟩
theorem fo_RX12_45 {M : Mt} (h : mO M = RX12) : FOK M 45 12 23 RX12 TX12 47 := ⟨rfl, by decide, by rw [h]; exact uw151, inU12⟩
theorem fo_RX11_214 {M : Mt} (h : mO M = RX11) : FOK M 214 3 3 RX3 TX3 4 := ⟨rfl, by decide, by rw [h]; exact uw716, inU3⟩
theorem fo_RX11_30 {M : Mt} (h : mO M = RX11) : FOK M 30 11 3 RX11 TX11 13 := ⟨rfl, by decide, by rw [h]; exact uw25, inU11⟩
theorem fo_RX11_50 {M : Mt} (h : mO M = RX11) : FOK M 50 11 6 RX11 TX11 13 := ⟨rfl, by decide, by rw [h]; exact uw37, inU11⟩
theorem fo_RX10_34 {M : Mt} (h : mO M = RX10) : FOK M 34 2 3 RX2 TX2 8 := ⟨rfl, by decide, by rw [h]; exact uw741, inU2⟩
theorem fo_RX10_39 {M : Mt} (h : mO M = RX10) : FOK M 39 10 3 RX10 TX10 14 := ⟨rfl, by decide, by rw [h]; exact uw742, inU10⟩
theorem fo_RX10_43 {M : Mt} (h : mO M = RX10) : FOK M 43 10 2 RX10 TX10 14 := ⟨rfl, by decide, by rw [h]; exact uw743, inU10⟩
theorem fo_RX10_54 {M : Mt} (h : mO M = RX10) : FOK M 54 2 4 RX2 TX2 8 := ⟨rfl, by decide, by rw [h]; exact uw744, inU2⟩
theorem fo_RX10_15 {M : Mt} (h : mO M = RX10) : FOK M 15 10 1 RX10 TX10 14 := ⟨rfl, by decide, by rw [h]; exact uw88, inU10⟩
theorem fo_RX10_11 {M : Mt} (h : mO M = RX10) : FOK M 11 10 0 RX10 TX10 14 := ⟨rfl, by decide, by rw [h]; exact uw87, inU10⟩
theorem fo_RX10_18 {M : Mt} (h : mO M = RX10) : FOK M 18 10 4 RX10 TX10 14 := ⟨rfl, by decide, by rw [h]; exact uw89, inU10⟩
theorem fo_RX12_48 {M : Mt} (h : mO M = RX12) : FOK M 48 12 24 RX12 TX12 47 := ⟨rfl, by decide, by rw [h]; exact uw152, inU12⟩
theorem fo_RX12_51 {M : Mt} (h : mO M = RX12) : FOK M 51 12 25 RX12 TX12 47 := ⟨rfl, by decide, by rw [h]; exact uw153, inU12⟩
theorem fo_RX12_54 {M : Mt} (h : mO M = RX12) : FOK M 54 12 26 RX12 TX12 47 := ⟨rfl, by decide, by rw [h]; exact uw154, inU12⟩
theorem fo_RX11_258 {M : Mt} (h : mO M = RX11) : FOK M 258 10 9 RX10 TX10 14 := ⟨rfl, by decide, by rw [h]; exact uw853, inU10⟩
theorem fo_RX11_261 {M : Mt} (h : mO M = RX11) : FOK M 261 10 8 RX10 TX10 14 := ⟨rfl, by decide, by rw [h]; exact uw854, inU10⟩
theorem fo_RX10_61 {M : Mt} (h : mO M = RX10) : FOK M 61 10 12 RX10 TX10 14 := ⟨rfl, by decide, by rw [h]; exact uw859, inU10⟩
theorem fo_RX10_65 {M : Mt} (h : mO M = RX10) : FOK M 65 10 13 RX10 TX10 14 := ⟨rfl, by decide, by rw [h]; exact uw860, inU10⟩
theorem fo_RX10_69 {M : Mt} (h : mO M = RX10) : FOK M 69 10 9 RX10 TX10 14 := ⟨rfl, by decide, by rw [h]; exact uw861, inU10⟩
theorem fo_RX10_72 {M : Mt} (h : mO M = RX10) : FOK M 72 2 5 RX2 TX2 8 := ⟨rfl, by decide, by rw [h]; exact uw862, inU2⟩
theorem fo_RX10_21 {M : Mt} (h : mO M = RX10) : FOK M 21 10 5 RX10 TX10 14 := ⟨rfl, by decide, by rw [h]; exact uw90, inU10⟩
theorem fo_RX10_27 {M : Mt} (h : mO M = RX10) : FOK M 27 10 7 RX10 TX10 14 := ⟨rfl, by decide, by rw [h]; exact uw92, inU10⟩
theorem fo_RX10_85 {M : Mt} (h : mO M = RX10) : FOK M 85 10 11 RX10 TX10 14 := ⟨rfl, by decide, by rw [h]; exact uw863, inU10⟩
theorem fo_RX10_88 {M : Mt} (h : mO M = RX10) : FOK M 88 10 10 RX10 TX10 14 := ⟨rfl, by decide, by rw [h]; exact uw864, inU10⟩
theorem fo_RX10_24 {M : Mt} (h : mO M = RX10) : FOK M 24 10 6 RX10 TX10 14 := ⟨rfl, by decide, by rw [h]; exact uw91, inU10⟩
theorem fo_RX10_31 {M : Mt} (h : mO M = RX10) : FOK M 31 10 8 RX10 TX10 14 := ⟨rfl, by decide, by rw [h]; exact uw93, inU10⟩
theorem fo_RX12_60 {M : Mt} (h : mO M = RX12) : FOK M 60 12 28 RX12 TX12 47 := ⟨rfl, by decide, by rw [h]; exact uw156, inU12⟩
theorem fo_RX12_320 {M : Mt} (h : mO M = RX12) : FOK M 320 12 29 RX12 TX12 47 := ⟨rfl, by decide, by rw [h]; exact uw881, inU12⟩
theorem fo_RX12_57 {M : Mt} (h : mO M = RX12) : FOK M 57 12 27 RX12 TX12 47 := ⟨rfl, by decide, by rw [h]; exact uw155, inU12⟩
theorem fo_RX11_57 {M : Mt} (h : mO M = RX11) : FOK M 57 11 7 RX11 TX11 13 := ⟨rfl, by decide, by rw [h]; exact uw41, inU11⟩
theorem fo_RX11_276 {M : Mt} (h : mO M = RX11) : FOK M 276 0 0 RX0 TX0 3 := ⟨rfl, by decide, by rw [h]; exact uw943, inU0⟩
theorem fo_RX0_21 {M : Mt} (h : mO M = RX0) : FOK M 21 2 5 RX2 TX2 8 := ⟨rfl, by decide, by rw [h]; exact uw948, inU2⟩
theorem fo_RX0_15 {M : Mt} (h : mO M = RX0) : FOK M 15 0 1 RX0 TX0 3 := ⟨rfl, by decide, by rw [h]; exact uw98, inU0⟩
theorem fo_RX0_9 {M : Mt} (h : mO M = RX0) : FOK M 9 0 0 RX0 TX0 3 := ⟨rfl, by decide, by rw [h]; exact uw97, inU0⟩
theorem fo_RX12_63 {M : Mt} (h : mO M = RX12) : FOK M 63 12 30 RX12 TX12 47 := ⟨rfl, by decide, by rw [h]; exact uw157, inU12⟩
theorem fo_RX0_56 {M : Mt} (h : mO M = RX0) : FOK M 56 2 0 RX2 TX2 8 := ⟨rfl, by decide, by rw [h]; exact uw996, inU2⟩
theorem fo_RX12_66 {M : Mt} (h : mO M = RX12) : FOK M 66 12 31 RX12 TX12 47 := ⟨rfl, by decide, by rw [h]; exact uw158, inU12⟩
theorem fo_RX11_289 {M : Mt} (h : mO M = RX11) : FOK M 289 0 2 RX0 TX0 3 := ⟨rfl, by decide, by rw [h]; exact uw1009, inU0⟩
theorem fo_RX0_18 {M : Mt} (h : mO M = RX0) : FOK M 18 0 2 RX0 TX0 3 := ⟨rfl, by decide, by rw [h]; exact uw99, inU0⟩
theorem fo_RX0_59 {M : Mt} (h : mO M = RX0) : FOK M 59 2 2 RX2 TX2 8 := ⟨rfl, by decide, by rw [h]; exact uw1014, inU2⟩
theorem fo_RX12_69 {M : Mt} (h : mO M = RX12) : FOK M 69 12 32 RX12 TX12 47 := ⟨rfl, by decide, by rw [h]; exact uw159, inU12⟩
theorem fo_RX11_64 {M : Mt} (h : mO M = RX11) : FOK M 64 11 8 RX11 TX11 13 := ⟨rfl, by decide, by rw [h]; exact uw45, inU11⟩
theorem fo_RX11_296 {M : Mt} (h : mO M = RX11) : FOK M 296 1 2 RX1 TX1 3 := ⟨rfl, by decide, by rw [h]; exact uw1024, inU1⟩
theorem fo_RX1_22 {M : Mt} (h : mO M = RX1) : FOK M 22 1 2 RX1 TX1 3 := ⟨rfl, by decide, by rw [h]; exact uw1029, inU1⟩
theorem fo_RX1_11 {M : Mt} (h : mO M = RX1) : FOK M 11 1 0 RX1 TX1 3 := ⟨rfl, by decide, by rw [h]; exact uw103, inU1⟩
theorem fo_RX1_15 {M : Mt} (h : mO M = RX1) : FOK M 15 1 1 RX1 TX1 3 := ⟨rfl, by decide, by rw [h]; exact uw104, inU1⟩
theorem fo_RX12_337 {M : Mt} (h : mO M = RX12) : FOK M 337 12 35 RX12 TX12 47 := ⟨rfl, by decide, by rw [h]; exact uw1037, inU12⟩
theorem fo_RX12_72 {M : Mt} (h : mO M = RX12) : FOK M 72 12 33 RX12 TX12 47 := ⟨rfl, by decide, by rw [h]; exact uw160, inU12⟩
theorem fo_RX12_75 {M : Mt} (h : mO M = RX12) : FOK M 75 12 34 RX12 TX12 47 := ⟨rfl, by decide, by rw [h]; exact uw161, inU12⟩
theorem fo_RX1_48 {M : Mt} (h : mO M = RX1) : FOK M 48 2 5 RX2 TX2 8 := ⟨rfl, by decide, by rw [h]; exact uw1054, inU2⟩
theorem fo_RX1_26 {M : Mt} (h : mO M = RX1) : FOK M 26 2 3 RX2 TX2 8 := ⟨rfl, by decide, by rw [h]; exact uw1058, inU2⟩
theorem fo_RX1_31 {M : Mt} (h : mO M = RX1) : FOK M 31 2 4 RX2 TX2 8 := ⟨rfl, by decide, by rw [h]; exact uw1059, inU2⟩
theorem fo_RX1_34 {M : Mt} (h : mO M = RX1) : FOK M 34 2 2 RX2 TX2 8 := ⟨rfl, by decide, by rw [h]; exact uw1060, inU2⟩
theorem fo_RX1_37 {M : Mt} (h : mO M = RX1) : FOK M 37 2 0 RX2 TX2 8 := ⟨rfl, by decide, by rw [h]; exact uw1061, inU2⟩
theorem fo_RX11_71 {M : Mt} (h : mO M = RX11) : FOK M 71 11 9 RX11 TX11 13 := ⟨rfl, by decide, by rw [h]; exact uw49, inU11⟩
theorem fo_RX11_314 {M : Mt} (h : mO M = RX11) : FOK M 314 7 5 RX7 TX7 6 := ⟨rfl, by decide, by rw [h]; exact uw1096, inU7⟩
theorem fo_RX7_25 {M : Mt} (h : mO M = RX7) : FOK M 25 7 5 RX7 TX7 6 := ⟨rfl, by decide, by rw [h]; exact uw1101, inU7⟩
theorem fo_RX7_9 {M : Mt} (h : mO M = RX7) : FOK M 9 7 0 RX7 TX7 6 := ⟨rfl, by decide, by rw [h]; exact uw108, inU7⟩
theorem fo_RX7_13 {M : Mt} (h : mO M = RX7) : FOK M 13 7 1 RX7 TX7 6 := ⟨rfl, by decide, by rw [h]; exact uw109, inU7⟩
theorem fo_RX7_16 {M : Mt} (h : mO M = RX7) : FOK M 16 7 2 RX7 TX7 6 := ⟨rfl, by decide, by rw [h]; exact uw110, inU7⟩
theorem fo_RX12_346 {M : Mt} (h : mO M = RX12) : FOK M 346 12 38 RX12 TX12 47 := ⟨rfl, by decide, by rw [h]; exact uw1106, inU12⟩
theorem fo_RX12_78 {M : Mt} (h : mO M = RX12) : FOK M 78 12 36 RX12 TX12 47 := ⟨rfl, by decide, by rw [h]; exact uw162, inU12⟩
theorem fo_RX12_81 {M : Mt} (h : mO M = RX12) : FOK M 81 12 37 RX12 TX12 47 := ⟨rfl, by decide, by rw [h]; exact uw163, inU12⟩
theorem fo_RX11_321 {M : Mt} (h : mO M = RX11) : FOK M 321 7 3 RX7 TX7 6 := ⟨rfl, by decide, by rw [h]; exact uw1119, inU7⟩
theorem fo_RX7_19 {M : Mt} (h : mO M = RX7) : FOK M 19 7 3 RX7 TX7 6 := ⟨rfl, by decide, by rw [h]; exact uw111, inU7⟩
theorem fo_RX7_22 {M : Mt} (h : mO M = RX7) : FOK M 22 7 4 RX7 TX7 6 := ⟨rfl, by decide, by rw [h]; exact uw112, inU7⟩
theorem fo_RX11_78 {M : Mt} (h : mO M = RX11) : FOK M 78 11 10 RX11 TX11 13 := ⟨rfl, by decide, by rw [h]; exact uw53, inU11⟩
theorem fo_RX4_9 {M : Mt} (h : mO M = RX4) : FOK M 9 4 0 RX4 TX4 6 := ⟨rfl, by decide, by rw [h]; exact uw116, inU4⟩
theorem fo_RX4_15 {M : Mt} (h : mO M = RX4) : FOK M 15 4 1 RX4 TX4 6 := ⟨rfl, by decide, by rw [h]; exact uw117, inU4⟩
theorem fo_RX12_84 {M : Mt} (h : mO M = RX12) : FOK M 84 12 39 RX12 TX12 47 := ⟨rfl, by decide, by rw [h]; exact uw164, inU12⟩
theorem fo_RX12_87 {M : Mt} (h : mO M = RX12) : FOK M 87 12 40 RX12 TX12 47 := ⟨rfl, by decide, by rw [h]; exact uw165, inU12⟩
theorem fo_RX4_40 {M : Mt} (h : mO M = RX4) : FOK M 40 4 3 RX4 TX4 6 := ⟨rfl, by decide, by rw [h]; exact uw1187, inU4⟩
theorem fo_RX4_18 {M : Mt} (h : mO M = RX4) : FOK M 18 4 2 RX4 TX4 6 := ⟨rfl, by decide, by rw [h]; exact uw118, inU4⟩
theorem fo_RX12_90 {M : Mt} (h : mO M = RX12) : FOK M 90 12 41 RX12 TX12 47 := ⟨rfl, by decide, by rw [h]; exact uw167, inU12⟩
theorem fo_RX4_22 {M : Mt} (h : mO M = RX4) : FOK M 22 4 4 RX4 TX4 6 := ⟨rfl, by decide, by rw [h]; exact uw119, inU4⟩
theorem fo_RX12_30 {M : Mt} (h : mO M = RX12) : FOK M 30 12 15 RX12 TX12 47 := ⟨rfl, by decide, by rw [h]; exact uw146, inU12⟩
theorem fo_RX11_360 {M : Mt} (h : mO M = RX11) : FOK M 360 4 5 RX4 TX4 6 := ⟨rfl, by decide, by rw [h]; exact uw1253, inU4⟩
theorem fo_RX4_55 {M : Mt} (h : mO M = RX4) : FOK M 55 4 5 RX4 TX4 6 := ⟨rfl, by decide, by rw [h]; exact uw1258, inU4⟩
theorem fo_RX12_375 {M : Mt} (h : mO M = RX12) : FOK M 375 12 42 RX12 TX12 47 := ⟨rfl, by decide, by rw [h]; exact uw1268, inU12⟩
theorem fo_RX12_97 {M : Mt} (h : mO M = RX12) : FOK M 97 12 45 RX12 TX12 47 := ⟨rfl, by decide, by rw [h]; exact uw169, inU12⟩
theorem fo_RX12_100 {M : Mt} (h : mO M = RX12) : FOK M 100 12 46 RX12 TX12 47 := ⟨rfl, by decide, by rw [h]; exact uw170, inU12⟩
theorem fo_RX12_94 {M : Mt} (h : mO M = RX12) : FOK M 94 12 44 RX12 TX12 47 := ⟨rfl, by decide, by rw [h]; exact uw168, inU12⟩
theorem fo_RX11_376 {M : Mt} (h : mO M = RX11) : FOK M 376 2 6 RX2 TX2 8 := ⟨rfl, by decide, by rw [h]; exact uw1302, inU2⟩
theorem fo_RX11_383 {M : Mt} (h : mO M = RX11) : FOK M 383 9 1 RX9 TX9 2 := ⟨rfl, by decide, by rw [h]; exact uw1303, inU9⟩
theorem fo_RX11_384 {M : Mt} (h : mO M = RX11) : FOK M 384 9 0 RX9 TX9 2 := ⟨rfl, by decide, by rw [h]; exact uw1320, inU9⟩
theorem to_5_2 : TOK TX5 3 2 tyX5 (.int) := ⟨tyX5_ok, nmX5, rfl, by decide +kernel⟩
theorem to_8_1 : TOK TX8 2 1 tyX8 (.int) := ⟨tyX8_ok, nmX8, rfl, by decide +kernel⟩
theorem to_12_7 : TOK TX12 47 7 tyX12 (.int) := ⟨tyX12_ok, nmX12, rfl, by decide +kernel⟩
theorem to_12_4 : TOK TX12 47 4 tyX12 (.int) := ⟨tyX12_ok, nmX12, rfl, by decide +kernel⟩
theorem to_2_5 : TOK TX2 8 5 tyX2 (.int) := ⟨tyX2_ok, nmX2, rfl, by decide +kernel⟩
theorem to_3_3 : TOK TX3 4 3 tyX3 (.int) := ⟨tyX3_ok, nmX3, rfl, by decide +kernel⟩
theorem to_3_2 : TOK TX3 4 2 tyX3 (.int) := ⟨tyX3_ok, nmX3, rfl, by decide +kernel⟩
theorem to_12_1 : TOK TX12 47 1 tyX12 (.int) := ⟨tyX12_ok, nmX12, rfl, by decide +kernel⟩
theorem to_12_20 : TOK TX12 47 20 tyX12 (.int) := ⟨tyX12_ok, nmX12, rfl, by decide +kernel⟩
theorem to_12_43 : TOK TX12 47 43 tyX12 (.int) := ⟨tyX12_ok, nmX12, rfl, by decide +kernel⟩
theorem to_12_8 : TOK TX12 47 8 tyX12 (.array (.byte)) := ⟨tyX12_ok, nmX12, rfl, by decide +kernel⟩
theorem to_12_9 : TOK TX12 47 9 tyX12 (.int) := ⟨tyX12_ok, nmX12, rfl, by decide +kernel⟩
theorem to_12_10 : TOK TX12 47 10 tyX12 (.int) := ⟨tyX12_ok, nmX12, rfl, by decide +kernel⟩
theorem to_12_11 : TOK TX12 47 11 tyX12 (.int) := ⟨tyX12_ok, nmX12, rfl, by decide +kernel⟩
theorem to_12_12 : TOK TX12 47 12 tyX12 (.int) := ⟨tyX12_ok, nmX12, rfl, by decide +kernel⟩
theorem to_11_11 : TOK TX11 13 11 tyX11 (.object "NamesInMouths$Rule") := ⟨tyX11_ok, nmX11, rfl, by decide +kernel⟩
theorem to_11_12 : TOK TX11 13 12 tyX11 (.object "NamesInMouths$Rule") := ⟨tyX11_ok, nmX11, rfl, by decide +kernel⟩
theorem to_6_0 : TOK TX6 3 0 tyX6 (.object "NamesInMouths$Text") := ⟨tyX6_ok, nmX6, rfl, by decide +kernel⟩
theorem to_6_1 : TOK TX6 3 1 tyX6 (.object "NamesInMouths$Rule") := ⟨tyX6_ok, nmX6, rfl, by decide +kernel⟩
theorem to_6_2 : TOK TX6 3 2 tyX6 (.int) := ⟨tyX6_ok, nmX6, rfl, by decide +kernel⟩
theorem to_12_16 : TOK TX12 47 16 tyX12 (.int) := ⟨tyX12_ok, nmX12, rfl, by decide +kernel⟩
theorem to_12_17 : TOK TX12 47 17 tyX12 (.boolean) := ⟨tyX12_ok, nmX12, rfl, by decide +kernel⟩
theorem to_2_7 : TOK TX2 8 7 tyX2 (.int) := ⟨tyX2_ok, nmX2, rfl, by decide +kernel⟩
theorem to_3_1 : TOK TX3 4 1 tyX3 (.int) := ⟨tyX3_ok, nmX3, rfl, by decide +kernel⟩
theorem to_2_6 : TOK TX2 8 6 tyX2 (.int) := ⟨tyX2_ok, nmX2, rfl, by decide +kernel⟩
theorem to_9_1 : TOK TX9 2 1 tyX9 (.int) := ⟨tyX9_ok, nmX9, rfl, by decide +kernel⟩
theorem to_12_6 : TOK TX12 47 6 tyX12 (.int) := ⟨tyX12_ok, nmX12, rfl, by decide +kernel⟩
theorem to_10_3 : TOK TX10 14 3 tyX10 (.int) := ⟨tyX10_ok, nmX10, rfl, by decide +kernel⟩
theorem to_10_2 : TOK TX10 14 2 tyX10 (.int) := ⟨tyX10_ok, nmX10, rfl, by decide +kernel⟩
theorem to_10_12 : TOK TX10 14 12 tyX10 (.object "NamesInMouths$Fen") := ⟨tyX10_ok, nmX10, rfl, by decide +kernel⟩
theorem to_10_13 : TOK TX10 14 13 tyX10 (.object "NamesInMouths$Rule") := ⟨tyX10_ok, nmX10, rfl, by decide +kernel⟩
theorem to_10_9 : TOK TX10 14 9 tyX10 (.int) := ⟨tyX10_ok, nmX10, rfl, by decide +kernel⟩
theorem to_10_11 : TOK TX10 14 11 tyX10 (.int) := ⟨tyX10_ok, nmX10, rfl, by decide +kernel⟩
theorem to_10_10 : TOK TX10 14 10 tyX10 (.int) := ⟨tyX10_ok, nmX10, rfl, by decide +kernel⟩
theorem to_12_29 : TOK TX12 47 29 tyX12 (.int) := ⟨tyX12_ok, nmX12, rfl, by decide +kernel⟩
theorem to_1_2 : TOK TX1 3 2 tyX1 (.int) := ⟨tyX1_ok, nmX1, rfl, by decide +kernel⟩
theorem to_12_35 : TOK TX12 47 35 tyX12 (.int) := ⟨tyX12_ok, nmX12, rfl, by decide +kernel⟩
theorem to_7_5 : TOK TX7 6 5 tyX7 (.int) := ⟨tyX7_ok, nmX7, rfl, by decide +kernel⟩
theorem to_12_38 : TOK TX12 47 38 tyX12 (.int) := ⟨tyX12_ok, nmX12, rfl, by decide +kernel⟩
theorem to_4_3 : TOK TX4 6 3 tyX4 (.boolean) := ⟨tyX4_ok, nmX4, rfl, by decide +kernel⟩
theorem to_12_14 : TOK TX12 47 14 tyX12 (.array (.byte)) := ⟨tyX12_ok, nmX12, rfl, by decide +kernel⟩
theorem to_4_5 : TOK TX4 6 5 tyX4 (.int) := ⟨tyX4_ok, nmX4, rfl, by decide +kernel⟩
theorem to_12_42 : TOK TX12 47 42 tyX12 (.int) := ⟨tyX12_ok, nmX12, rfl, by decide +kernel⟩
